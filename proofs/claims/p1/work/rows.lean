section
/-! ===== BEGIN words of one list among another's, by their places ===== -/
theorem goodIn_r {big : List Cond} (ws : List Cond) (ps : List Nat) (hp : ws = ps.filterMap (fun i => big[i]?)) (h : ws.all goodWord = true) : GoodIn big ws := by
  intro w hw
  have h1 := List.all_eq_true.mp h w hw
  rw [hp] at hw
  obtain ⟨i, -, hi⟩ := List.mem_filterMap.mp hw
  have hm : w ∈ big := by first | exact List.mem_of_getElem? hi | exact List.getElem?_mem hi
  exact ⟨hm, good_of_word h1⟩
theorem goodIn_app {big a b : List Cond} (ha : GoodIn big a) (hb : GoodIn big b) : GoodIn big (a ++ b) := fun w h => (List.mem_append.mp h).elim (ha w) (hb w)
theorem goodIn_ca {big a b : List Cond} {c : Cond} (ha : GoodIn big (c :: a)) (hb : GoodIn big b) : GoodIn big (c :: (a ++ b)) := fun w h => (List.mem_cons.mp h).elim (fun e => ha w (List.mem_cons.mpr (Or.inl e))) (fun h => (List.mem_append.mp h).elim (fun h => ha w (List.mem_cons.mpr (Or.inr h))) (hb w))
theorem goodIn_sub {big ws : List Cond} (hm : ∀ w ∈ ws, w ∈ big) (h : ws.all goodWord = true) : GoodIn big ws := fun w hw => ⟨hm w hw, good_of_word (List.all_eq_true.mp h w hw)⟩
/-! ===== END ===== -/

/-! ===== BEGIN exceptions that leave a method, and their catching by the caller (launches without stack traces) ===== -/
section VXA
/-! The laws vx_back, vx_callV, vx_callS, vx_callSW, vx_throw0, vx_throwS follow proofs of the library, with one case more: JvmDerived/Free/Laws.lean (Back.of_free), Shelf42/LK1.lean (callV, callS), Shelf/KitTraced.lean (throwNew0V, throwNewS). -/
/-- where a method has thrown q: the class by its name, the cell, what was written, the world -/
def vx_T (XC : String → State → State → Prop) (st : State) (q : Addr) (t : State) (mc ms : Nat) (free : Addr → Prop) : Prop :=
  ∃ (E : String) (ce : Cell) (L : List Loc), XC E st t ∧ t.heap[q]? = some ce ∧ ce.vm = .none ∧ st.vm.findClass E = some ce.cls ∧ st.WarmedH t.vm ∧ st.sameButNew ({ t with vm := st.vm } : State) L mc ms ∧ ∀ z ∈ L, free z.base
def vx_Q (Qc : Array Value → State → Outcome → State → Prop) (XC : String → State → State → Prop) (mc ms : Nat) (free : Addr → Prop) : Array Value → State → Outcome → State → Prop := fun a st o t =>
  (Qc a st o t ∧ ∃ L, FrameEnd st o t L mc ms ∧ ∀ q ∈ L, free q.base) ∨ ∃ q, o = .threw q ∧ vx_T XC st q t mc ms free
/-- a callee that returns or throws -/
def vx_Met (l : Launch) (y : MethodName) (ws : List Cond) (rm : Room) (Pc : Array Value → State → Prop) (Qc : Array Value → State → Outcome → State → Prop) (XC : String → State → State → Prop) (mc ms : Nat) (free : Addr → Prop) : Prop :=
  MetFree l y (headSpec ws rm) Pc (fun _ _ _ _ _ => True) (vx_Q Qc XC mc ms free)
def vx_Post (XC : String → State → State → Prop) (mc ms : Nat) (free : Addr → Prop) : Pt → Array Value → Addr → Pt → Prop := fun A a q B =>
  ∃ (g : JFrame) (mk : MethodId) (t : State) (L : List Loc) (E : String) (ce : Cell), B.U.heap = t.heap ∧ B.U.vm = t.vm ∧ XC E (A.U.calling g mk a) t ∧ t.heap[q]? = some ce ∧ ce.vm = .none ∧ A.U.vm.findClass E = some ce.cls ∧ B.locs = A.locs ++ L ∧ (∀ z ∈ L, free z.base) ∧ B.cells = A.cells + mc ∧ B.slots = A.slots + ms
def vx_Back (l : Launch) (R : Room) (p : Program) (e : Env) (below : List Frame) (s : State) (sargs : Array Value) (y : MethodName) (len W9 : Nat)
    (Pre : Pt → Array Value → Prop) (Post : Pt → Array Value → Option Value → Pt → Prop) (PostX : Pt → Array Value → Addr → Pt → Prop) : Prop :=
  ∀ (m : MethodId) (meth : Method) (c : Code) (A : Pt) (g : JFrame) (ig : Instr) (mk : MethodId) (a : Array Value),
    Stand p l e R s m sargs below meth c A.U A.locs A.cells A.slots → g.method = m → g.locals.size = c.maxLocals → decode c.code g.pc = .ok (ig, len) →
    2 * g.monitorRoom + (g.stack.map fun v => v.category).sum ≤ W9 → A.U.methodNamed? y = some mk → Pre A a →
    (∃ (v : Option Value) (B : Pt), Stand p l e R s m sargs below meth c B.U B.locs B.cells B.slots ∧ Post A a v B ∧
      Steps p.tables e below (doInvoke e (A.U.setTop g) [] mk a).1 (B.U.setTop { g with pc := g.pc + len, stack := v.toList ++ g.stack })) ∨
    (∃ (q : Addr) (B : Pt), Stand p l e R s m sargs below meth c B.U B.locs B.cells B.slots ∧ PostX A a q B ∧
      Steps p.tables e below (doInvoke e (A.U.setTop g) [] mk a).1 ((B.U.setTop g).pushFrame (.throwing q)))
section Payer
variable {l : Launch} {R : Room} {p : Program} {e : Env} {below : List Frame} {s : State} {sargs : Array Value} {y : MethodName} {len W9 : Nat}
theorem vx_back {ws : List Cond} {rm : Room} {Pc : Array Value → State → Prop} {Qc : Array Value → State → Outcome → State → Prop} {XC : String → State → State → Prop} {mc ms : Nat} {free : Addr → Prop} {bytes : ByteArray} {maxL : Nat} {ret : Option FieldType}
    (hM : vx_Met l y ws rm Pc Qc XC mc ms free) (hblind : FrameBlind Pc) (hrc : rm.cells = mc) (hrs : rm.slots = ms)
    (hframes : rm.frames + 1 ≤ R.frames) (hlocals : W9 + (maxL + 11) + rm.locals ≤ R.locals)
    (hws : ∀ w ∈ ws, ∀ a' U, s.WarmedH U.vm → w.before a' U = true) (hcode : Cond.code y bytes maxL ret ∈ ws) (hinit : ∀ a' U, s.WarmedH U.vm → (Cond.initialized y.cls).before a' U = true) :
    vx_Back l R p e below s sargs y len W9 (PreOf R mc ms Pc) (PostOf Qc mc ms free) (vx_Post XC mc ms free) := by
  intro m meth c A g ig mk a X hg hsize hdg hW hn hp
  have h1 : (headSpec ws rm).pre.before a A.U = true := atoms_intro fun w hw => hws w hw _ _ X.warmed
  have h2 : (Cond.code y bytes maxL ret).before a A.U = true := hws _ hcode _ _ X.warmed
  have h3 : (Cond.initialized y.cls).before a A.U = true := hinit _ _ X.warmed
  have h4 : A.cells + (headSpec ws rm).room.cells ≤ R.cells := by rw [show (headSpec ws rm).room.cells = mc from hrc]; exact hp.1
  have h5 : A.slots + (headSpec ws rm).room.slots ≤ R.slots := by rw [show (headSpec ws rm).room.slots = ms from hrs]; exact hp.2.1
  have hPc : Pc a (A.U.calling g mk a) := hblind _ _ _ _ hp.2.2
  obtain ⟨U, Ls, c0, s0⟩ := A
  dsimp only [Pt.U, Pt.locs, Pt.cells, Pt.slots] at h1 h2 h3 h4 h5 X hn hPc ⊢
  obtain ⟨methY, cY, hmY, hcY, -, hlY, -, -, -, -⟩ := Cond.code_spec hn h2
  obtain ⟨kY, hkY, -⟩ := className_of_methodNamed hn
  have hinitY : kY.init = .initialized := Cond.initialized_spec (findClass_of_methodNamed hn) hkY h3
  have h : At U g.method c below := by rw [hg]; exact X.here
  have hlocals9 : W9 + (maxL + 11) + (headSpec ws rm).room.locals ≤ R.locals := hlocals
  have happ : (headSpec ws rm).appliesLoose y e.platform (U.calling g mk a) = true :=
    Spec.appliesLoose_calling (g := g) h hdg hn hkY hinitY
      (X.room_calling (g := g) (R' := (headSpec ws rm).room) hsize hmY hcY hframes (by rw [hlY]; omega) h4 h5) h1
  obtain ⟨mid, hmid⟩ := h.above
  have hfr : (U.setTop g).frames = (.java g :: mid) ++ below := by rw [State.frames_setTop' g h.top, hmid]; rfl
  obtain ⟨o, s₂, hsteps, -, hend, hq⟩ := Steps.callFree hM p X.admits X.cas X.clock (acts := []) hfr happ hPc trivial
  have hq' : vx_Q Qc XC mc ms free a (U.calling g mk a) o s₂ := hq
  rw [State.frames_setTop' g h.top] at hend
  obtain ⟨g₀, hg0⟩ := Option.isSome_iff_exists.mp h.top
  obtain ⟨r, hr⟩ := State.topJava?_eq_some.mp hg0
  have hr' : (({ U with heap := s₂.heap, slotsUsed := s₂.slotsUsed } : State).setVm s₂.vm).frames = .java g₀ :: r := hr
  rcases hq' with ⟨hqc, L, hfe, hL⟩ | ⟨q, rfl, E, ce, L, hx, hce, hcv, hcl, hW₂, hsm, hL⟩
  · obtain ⟨⟨v, rfl⟩, hW₂, e2, q2, q3, q4, q5, q6⟩ := id hfe
    have e3 : s₂ = ({ (U.calling g mk a).setFrames s₂.frames with heap := s₂.heap, slotsUsed := s₂.slotsUsed } : State).setVm s₂.vm := by
      have : s₂ = ({ s₂ with vm := (U.calling g mk a).vm } : State).setVm s₂.vm := rfl
      rw [e2] at this
      exact this
    obtain ⟨c₂, i₂, len₂, hc₂, hd₂, hf₂⟩ := hend
    have hW' : U.WarmedH s₂.vm := hW₂
    have hcc : c₂ = c := by
      have h1 : s₂.code? g.method = U.code? g.method := by
        rw [State.code?_eq, State.code?_eq, hW'.alike.method?]
      exact Option.some.inj (hc₂.symm.trans (h1.trans h.code))
    subst hcc
    have hlen : len₂ = len := by rw [hdg] at hd₂; cases hd₂; rfl
    subst hlen
    have hs₂ : s₂ = (({ U with heap := s₂.heap, slotsUsed := s₂.slotsUsed } : State).setVm s₂.vm).setTop { g with pc := g.pc + len₂, stack := v.toList ++ g.stack } := by
      refine e3.trans ?_
      rw [hf₂, State.calling_eq h.top, State.setFrames_setFrames, State.setTop_of_frames _ hr', hr]
      rfl
    have hsame : U.sameButNew ({ U with heap := s₂.heap, slotsUsed := s₂.slotsUsed } : State) L mc ms := by
      refine ⟨?_, q2, q3, q4, q5, q6⟩
      obtain ⟨t, ht, -⟩ := State.frames_cons hr
      show ({ U with heap := s₂.heap, slotsUsed := s₂.slotsUsed } : State) = { U.setFrames U.frames with heap := s₂.heap, slotsUsed := s₂.slotsUsed }
      rw [State.setFrames_self ht]
    subst hg
    refine Or.inl ⟨v, ⟨(({ U with heap := s₂.heap, slotsUsed := s₂.slotsUsed } : State).setVm s₂.vm), Ls ++ L, c0 + mc, s0 + ms⟩,
      ⟨X.admits, X.cas, X.clock, X.frames, X.room, X.hears, X.method, X.code, (X.here.setHeapUsed s₂.heap s₂.slotsUsed).setVm hW'.alike, X.tail, State.WarmedH.trans X.warmed hW', X.limits, X.bytes, X.same.trans (hsame.setVm s.vm)⟩,
      ⟨g, mk, s₂, L, rfl, rfl, hqc, rfl, hL, rfl, rfl⟩, ?_⟩
    show Steps p.tables e below _ ((({ U with heap := s₂.heap, slotsUsed := s₂.slotsUsed } : State).setVm s₂.vm).setTop { g with pc := g.pc + len₂, stack := v.toList ++ g.stack })
    rw [← hs₂]
    exact hsteps
  · obtain ⟨e2, q2, q3, q4, q5, q6⟩ := id hsm
    have e3 : s₂ = ({ (U.calling g mk a).setFrames s₂.frames with heap := s₂.heap, slotsUsed := s₂.slotsUsed } : State).setVm s₂.vm := by
      have : s₂ = ({ s₂ with vm := (U.calling g mk a).vm } : State).setVm s₂.vm := rfl
      rw [e2] at this
      exact this
    have hf₂ : s₂.frames = .throwing q :: .java g :: U.frames.tail := hend
    have hW' : U.WarmedH s₂.vm := hW₂
    have hs₂ : s₂ = ((({ U with heap := s₂.heap, slotsUsed := s₂.slotsUsed } : State).setVm s₂.vm).setTop g).pushFrame (.throwing q) := by
      refine e3.trans ?_
      rw [hf₂, State.calling_eq h.top, State.setFrames_setFrames, State.pushFrame, State.frames_setTop _ hr', State.setTop_of_frames _ hr', State.setFrames_setFrames, hr]
      rfl
    have hsame : U.sameButNew ({ U with heap := s₂.heap, slotsUsed := s₂.slotsUsed } : State) L mc ms := by
      refine ⟨?_, q2, q3, q4, q5, q6⟩
      obtain ⟨t, ht, -⟩ := State.frames_cons hr
      show ({ U with heap := s₂.heap, slotsUsed := s₂.slotsUsed } : State) = { U.setFrames U.frames with heap := s₂.heap, slotsUsed := s₂.slotsUsed }
      rw [State.setFrames_self ht]
    subst hg
    refine Or.inr ⟨q, ⟨(({ U with heap := s₂.heap, slotsUsed := s₂.slotsUsed } : State).setVm s₂.vm), Ls ++ L, c0 + mc, s0 + ms⟩,
      ⟨X.admits, X.cas, X.clock, X.frames, X.room, X.hears, X.method, X.code, (X.here.setHeapUsed s₂.heap s₂.slotsUsed).setVm hW'.alike, X.tail, State.WarmedH.trans X.warmed hW', X.limits, X.bytes, X.same.trans (hsame.setVm s.vm)⟩,
      ⟨g, mk, s₂, L, E, ce, rfl, rfl, hx, hce, hcv, hcl, rfl, hL, rfl, rfl⟩, ?_⟩
    show Steps p.tables e below _ (((({ U with heap := s₂.heap, slotsUsed := s₂.slotsUsed } : State).setVm s₂.vm).setTop g).pushFrame (.throwing q))
    rw [← hs₂]
    exact hsteps
end Payer
section Calls
variable {p : Program} {l : Launch} {e : Env} {R : Room} {s : State} {m : MethodId} {args : Array Value} {below : List Frame} {meth : Method} {c : Code} {T : State} {locs : List Loc} {cells slots : Nat}
theorem vx_callV (X : Stand p l e R s m args below meth c T locs cells slots) (hexec : p.tables.exec = Jvm.exec) {own C : String} {index : Nat} {y : MethodName} {bytes : ByteArray} {maxL : Nat} {ret : Option FieldType}
    (hown : s.vm.findClass own = some m.cls) (hlink : (Cond.methodLink own index y).before args s = true) (hinst : (Cond.instanceMethod y).before args s = true) (hsel : (Cond.selects C y y).before args s = true)
    (hcode : (Cond.code y bytes maxL ret).before args s = true) (hy : y.cls ≠ "java/lang/invoke/MethodHandle" ∧ y.cls ≠ "java/lang/invoke/VarHandle")
    {W9 : Nat} {Pre : Pt → Array Value → Prop} {Post : Pt → Array Value → Option Value → Pt → Prop} {PostX : Pt → Array Value → Addr → Pt → Prop} (hK : vx_Back l R p e below s args y 3 W9 Pre Post PostX)
    {b : Addr} {cellB : Cell} (hcell : T.heap[b]? = some cellB) (hobj : cellB.vm.isStatics = false) (hcls : s.vm.findClass C = some cellB.cls)
    {g : JFrame} (hg : g.method = m) (hsize : g.locals.size = c.maxLocals) {argsL rest : List Value} (hlen : ∀ sig, parseMethodDescriptor y.desc = some sig → argsL.length = sig.parameters.length)
    (hstack : g.stack = argsL.reverse ++ .ref b :: rest) (hW : 2 * g.monitorRoom + (rest.map fun v => v.category).sum ≤ W9) (hdg : decode c.code g.pc = .ok (.invokevirtual index, 3))
    (hpre : ∀ vm₁, s.WarmedH vm₁ → Pre ⟨T.setVm vm₁, locs, cells, slots⟩ (Value.ref b :: argsL).toArray) :
    (∃ (v : Option Value) (vm₁ : Vm) (B : Pt), s.WarmedH vm₁ ∧ Stand p l e R s m args below meth c B.U B.locs B.cells B.slots ∧ Post ⟨T.setVm vm₁, locs, cells, slots⟩ (Value.ref b :: argsL).toArray v B ∧
      ∀ target, Steps p.tables e below (B.U.setTop { g with pc := g.pc + 3, stack := v.toList ++ rest }) target → Steps p.tables e below (T.setTop g) target) ∨
    (∃ (q : Addr) (vm₁ : Vm) (B : Pt), s.WarmedH vm₁ ∧ Stand p l e R s m args below meth c B.U B.locs B.cells B.slots ∧ PostX ⟨T.setVm vm₁, locs, cells, slots⟩ (Value.ref b :: argsL).toArray q B ∧
      Steps p.tables e below (T.setTop g) ((B.U.setTop { g with stack := rest }).pushFrame (.throwing q))) := by
  obtain ⟨mk, methM, hnamed, hmethM, hstM, habM⟩ := Cond.instanceMethod_spec hinst
  obtain ⟨methM', cM, hmethM', -, -, -, -, -, -, hsigM⟩ := Cond.code_spec hnamed hcode
  cases hmethM.symm.trans hmethM'
  obtain ⟨c2, r2, m2, q1, q2, q3, q4, kP, hkP, hkPi⟩ := Cond.selects_spec hsel
  cases hcls.symm.trans q1
  cases (State.methodFound?_of_named hnamed hy).symm.trans q2
  cases hnamed.symm.trans q3
  have hselP : selectMethod e.platform s.vm cellB.cls mk = .method mk := by rw [Launch.admits_selectMethod X.admits]; exact q4
  obtain ⟨vm₁, X₁, hstep₁⟩ := X.invokevirtual hexec hown hlink hnamed hmethM hstM hkP hkPi hy (a := b) (cell := cellB) hcell
    (fun z h => by rw [h] at hobj; cases hobj) hselP hmethM habM hkP hkPi (g := g) hg (argsL := argsL) (rest := rest) (hlen _ hsigM) hstack hdg
  rcases hK m meth c ⟨T.setVm vm₁, locs, cells, slots⟩ { g with stack := rest } (.invokevirtual index) mk (Value.ref b :: argsL).toArray X₁ hg hsize hdg hW (X₁.named hnamed) (hpre vm₁ X₁.warmed) with ⟨v, B, X', hpost, hsteps⟩ | ⟨q, B, X', hpost, hsteps⟩
  · exact Or.inl ⟨v, vm₁, B, X₁.warmed, X', hpost, fun target h => hstep₁ _ fun acts => by rw [doInvoke_state]; exact hsteps.trans h⟩
  · exact Or.inr ⟨q, vm₁, B, X₁.warmed, X', hpost, hstep₁ _ fun acts => by rw [doInvoke_state]; exact hsteps⟩
theorem vx_callS (X : Stand p l e R s m args below meth c T locs cells slots) (hexec : p.tables.exec = Jvm.exec) {own : String} {index : Nat} {y : MethodName} {bytes : ByteArray} {maxL : Nat} {ret : Option FieldType}
    (hown : s.vm.findClass own = some m.cls) (hlink : (Cond.methodLink own index y).before args s = true) (hstat : (Cond.static y).before args s = true) (hinit : (Cond.initialized y.cls).before args s = true)
    (hcode : (Cond.code y bytes maxL ret).before args s = true) (hy : y.cls ≠ "java/lang/invoke/MethodHandle" ∧ y.cls ≠ "java/lang/invoke/VarHandle")
    {W9 : Nat} {Pre : Pt → Array Value → Prop} {Post : Pt → Array Value → Option Value → Pt → Prop} {PostX : Pt → Array Value → Addr → Pt → Prop} (hK : vx_Back l R p e below s args y 3 W9 Pre Post PostX)
    {g : JFrame} (hg : g.method = m) (hsize : g.locals.size = c.maxLocals) {argsL rest : List Value} (hlen : ∀ sig, parseMethodDescriptor y.desc = some sig → argsL.length = sig.parameters.length)
    (hstack : g.stack = argsL.reverse ++ rest) (hW : 2 * g.monitorRoom + (rest.map fun v => v.category).sum ≤ W9) (hdg : decode c.code g.pc = .ok (.invokestatic index, 3))
    (hpre : ∀ vm₁, s.WarmedH vm₁ → Pre ⟨T.setVm vm₁, locs, cells, slots⟩ argsL.toArray) :
    (∃ (v : Option Value) (vm₁ : Vm) (B : Pt), s.WarmedH vm₁ ∧ Stand p l e R s m args below meth c B.U B.locs B.cells B.slots ∧ Post ⟨T.setVm vm₁, locs, cells, slots⟩ argsL.toArray v B ∧
      ∀ target, Steps p.tables e below (B.U.setTop { g with pc := g.pc + 3, stack := v.toList ++ rest }) target → Steps p.tables e below (T.setTop g) target) ∨
    (∃ (q : Addr) (vm₁ : Vm) (B : Pt), s.WarmedH vm₁ ∧ Stand p l e R s m args below meth c B.U B.locs B.cells B.slots ∧ PostX ⟨T.setVm vm₁, locs, cells, slots⟩ argsL.toArray q B ∧
      Steps p.tables e below (T.setTop g) ((B.U.setTop { g with stack := rest }).pushFrame (.throwing q))) := by
  obtain ⟨mk, hnamed⟩ := Cond.code_named hcode
  obtain ⟨methM, cM, hmethM, -, -, -, -, -, -, hsigM⟩ := Cond.code_spec hnamed hcode
  have hstatic : methM.isStatic = true := Cond.static_spec hnamed hmethM hstat
  obtain ⟨kP, hkP, -⟩ := className_of_methodNamed hnamed
  have hinitP : kP.init = .initialized := Cond.initialized_spec (findClass_of_methodNamed hnamed) hkP hinit
  obtain ⟨vm₁, X₁, hstep₁⟩ := X.invokestatic hexec hown hlink hnamed hmethM hstatic hkP hinitP hy (g := g) hg (argsL := argsL) (rest := rest) (hlen _ hsigM) hstack hdg
  rcases hK m meth c ⟨T.setVm vm₁, locs, cells, slots⟩ { g with stack := rest } (.invokestatic index) mk argsL.toArray X₁ hg hsize hdg hW (X₁.named hnamed) (hpre vm₁ X₁.warmed) with ⟨v, B, X', hpost, hsteps⟩ | ⟨q, B, X', hpost, hsteps⟩
  · exact Or.inl ⟨v, vm₁, B, X₁.warmed, X', hpost, fun target h => hstep₁ _ fun acts => by rw [doInvoke_state]; exact hsteps.trans h⟩
  · exact Or.inr ⟨q, vm₁, B, X₁.warmed, X', hpost, hstep₁ _ fun acts => by rw [doInvoke_state]; exact hsteps⟩
end Calls
theorem vx_cls {s : State} {T : State} {vm₁ : Vm} {E : String} {k : ClassId} (hW : s.WarmedH vm₁) (h : (T.setVm vm₁).vm.findClass E = some k) : s.vm.findClass E = some k := by
  have h1 : vm₁.findClass E = some k := h
  rw [hW.alike.findClass] at h1
  exact h1
/-- the method's frame g, with q thrown over it -/
def vx_W (p : Program) (l : Launch) (e : Env) (R : Room) (s : State) (m : MethodId) (args : Array Value) (below : List Frame) (meth : Method) (c : Code) (H : Heap) (locs : List Loc) (cells slots : Nat) (Q : State → Prop) (g : JFrame) (q : Addr) : Prop :=
  ∀ T : State, T.heap = H → Stand p l e R s m args below meth c T locs cells slots → ∃ t, Steps p.tables e below ((T.setTop g).pushFrame (.throwing q)) t ∧ Q t
def vx_Run (p : Program) (l : Launch) (e : Env) (R : Room) (s : State) (m : MethodId) (args : Array Value) (below : List Frame) (meth : Method) (c : Code) (H : Heap) (locs : List Loc) (cells slots mc ms : Nat) (g : JFrame) (rest : List Value) (Qa : State → Outcome → State → Prop) (XC : String → State → State → Prop) (free : Addr → Prop) : Prop :=
  ∀ T : State, T.heap = H → Stand p l e R s m args below meth c T locs cells slots →
    (∃ (v : Option Value) (st₀ t T' : State) (L : List Loc), st₀.heap = H ∧ Stand p l e R s m args below meth c T' (locs ++ L) (cells + mc) (slots + ms) ∧ (∀ q ∈ L, free q.base) ∧ T'.heap = t.heap ∧ T'.vm = t.vm ∧ Qa st₀ (.returned v) t ∧
      Goes p e below T g T' { g with pc := g.pc + 3, stack := v.toList ++ rest }) ∨
    (∃ (q : Addr) (st₀ t T' : State) (L : List Loc) (E : String) (ce : Cell), st₀.heap = H ∧ Stand p l e R s m args below meth c T' (locs ++ L) (cells + mc) (slots + ms) ∧ (∀ z ∈ L, free z.base) ∧ T'.heap = t.heap ∧ T'.vm = t.vm ∧ XC E st₀ t ∧ t.heap[q]? = some ce ∧ ce.vm = .none ∧ s.vm.findClass E = some ce.cls ∧
      Steps p.tables e below (T.setTop g) ((T'.setTop { g with stack := rest }).pushFrame (.throwing q)))
def vx_X {S : Type} (px : S → Prop) (B : String → S → State → Prop) (A : Nat → Prop) : String → State → State → Prop := fun E st t => ∃ u : S, px u ∧ B E u t ∧ va_F A st t
section Runs
variable {p : Program} {l : Launch} {e : Env} {R : Room} {s : State} {m : MethodId} {args : Array Value} {below : List Frame} {meth : Method} {c : Code} {H : Heap} {locs : List Loc} {cells slots : Nat}
variable {y : MethodName} {bytes cc : ByteArray} {maxL nL mc ms n index : Nat} {ret : Option FieldType} {ws : List Cond} {rm : Room} {Pc : Array Value → State → Prop} {Qc : Array Value → State → Outcome → State → Prop} {XC : String → State → State → Prop} {free : Addr → Prop} {Ts : List Cond} {own C : String} {b : Addr} {As rest : List Value} {g : JFrame}
theorem vx_callBack (cb : CallB R s args own index y bytes maxL ret ws rm mc ms n) (hM : vx_Met l y ws rm Pc Qc XC mc ms free) (hbl : FrameBlind Pc) : vx_Back l R p e below s args y 3 8 (PreOf R mc ms Pc) (PostOf Qc mc ms free) (vx_Post XC mc ms free) := by
  obtain ⟨hrc, hrs, hfr, hlo, hws, hcw, -, hini, -⟩ := cb
  exact vx_back (bytes := bytes) (maxL := maxL) (ret := ret) hM hbl hrc hrs hfr hlo hws hcw (fun a' U hW => word_at hW (Or.inl (by first | rfl | simp [Cond.onTables, Cond.keeps, Cond.steady])) hini)
theorem vx_runV (S : CallFix p m c cc nL s args Ts own) (hM : vx_Met l y ws rm Pc Qc XC mc ms free) (cw : CallW R s args own C index y bytes maxL ret ws rm mc ms n) (hp : PreV s H C b Pc As)
    (hg : g.method = m) (hn : As.length = n) (hsize : g.locals.size = nL) (hstack : g.stack = As.reverse ++ .ref b :: rest) (hW : 2 * g.monitorRoom + (rest.map fun v => v.category).sum ≤ 8) (hdg : decode cc g.pc = .ok (.invokevirtual index, 3)) (hf : cells + mc ≤ R.cells ∧ slots + ms ≤ R.slots) :
    vx_Run p l e R s m args below meth c H locs cells slots mc ms g rest (Qc (Value.ref b :: As).toArray) XC free := by
  have hK : vx_Back l R p e below s args y 3 8 (PreOf R mc ms Pc) (PostOf Qc mc ms free) (vx_Post XC mc ms free) := vx_callBack cw.1 hM hp.1
  obtain ⟨⟨-, -, -, -, -, -, hcode, -, hy, hlen, hl⟩, hin, hse⟩ := cw
  obtain ⟨hx, hb, hml, ho, -⟩ := S
  obtain ⟨-, ⟨cellB, hcB, hoB, hclB⟩, hPc⟩ := hp
  intro T hT X
  rcases vx_callV X hx (C := C) (bytes := bytes) (maxL := maxL) (ret := ret) ho hl hin hse hcode hy hK (by rw [hT]; exact hcB) hoB hclB hg (hsize.trans hml.symm) (argsL := As) (rest := rest) (fun sig h => hn.trans (hlen sig h)) hstack hW (by rw [hb]; exact hdg)
    (fun vm₁ hW₁ => ⟨hf.1, hf.2, hPc (T.setVm vm₁) hT hW₁⟩) with ⟨v, vm₁, ⟨U', l2, c2, s2⟩, hW₁, X', ⟨g', mk, t, L, e1, e2, hq, h1, hL, h2, h3⟩, st⟩ | ⟨q, vm₁, ⟨U', l2, c2, s2⟩, hW₁, X', ⟨g', mk, t, L, E, ce, e1, e2, hq, hce, hcv, hcl, h1, hL, h2, h3⟩, st⟩
  · dsimp only [Pt.U, Pt.locs, Pt.cells, Pt.slots] at X' e1 e2 h1 h2 h3 st
    subst h1; subst h2; subst h3
    exact Or.inl ⟨v, (T.setVm vm₁).calling g' mk (Value.ref b :: As).toArray, t, U', L, hT, X', hL, e1, e2, hq, st⟩
  · dsimp only [Pt.U, Pt.locs, Pt.cells, Pt.slots] at X' e1 e2 h1 h2 h3 st hcl
    subst h1; subst h2; subst h3
    exact Or.inr ⟨q, (T.setVm vm₁).calling g' mk (Value.ref b :: As).toArray, t, U', L, E, ce, hT, X', hL, e1, e2, hq, hce, hcv, vx_cls hW₁ hcl, st⟩
theorem vx_runS (S : CallFix p m c cc nL s args Ts own) (hM : vx_Met l y ws rm Pc Qc XC mc ms free) (cw : CallB R s args own index y bytes maxL ret ws rm mc ms n ∧ (Cond.static y).before args s = true) (hp : PreS s H Pc As)
    (hg : g.method = m) (hn : As.length = n) (hsize : g.locals.size = nL) (hstack : g.stack = As.reverse ++ rest) (hW : 2 * g.monitorRoom + (rest.map fun v => v.category).sum ≤ 8) (hdg : decode cc g.pc = .ok (.invokestatic index, 3)) (hf : cells + mc ≤ R.cells ∧ slots + ms ≤ R.slots) :
    vx_Run p l e R s m args below meth c H locs cells slots mc ms g rest (Qc As.toArray) XC free := by
  have hK : vx_Back l R p e below s args y 3 8 (PreOf R mc ms Pc) (PostOf Qc mc ms free) (vx_Post XC mc ms free) := vx_callBack cw.1 hM hp.1
  obtain ⟨⟨-, -, -, -, -, -, hcode, hini, hy, hlen, hl⟩, hstt⟩ := cw
  obtain ⟨hx, hb, hml, ho, -⟩ := S
  intro T hT X
  rcases vx_callS X hx (bytes := bytes) (maxL := maxL) (ret := ret) ho hl hstt hini hcode hy hK hg (hsize.trans hml.symm) (argsL := As) (rest := rest) (fun sig h => hn.trans (hlen sig h)) hstack hW (by rw [hb]; exact hdg)
    (fun vm₁ hW₁ => ⟨hf.1, hf.2, hp.2 (T.setVm vm₁) hT hW₁⟩) with ⟨v, vm₁, ⟨U', l2, c2, s2⟩, hW₁, X', ⟨g', mk, t, L, e1, e2, hq, h1, hL, h2, h3⟩, st⟩ | ⟨q, vm₁, ⟨U', l2, c2, s2⟩, hW₁, X', ⟨g', mk, t, L, E, ce, e1, e2, hq, hce, hcv, hcl, h1, hL, h2, h3⟩, st⟩
  · dsimp only [Pt.U, Pt.locs, Pt.cells, Pt.slots] at X' e1 e2 h1 h2 h3 st
    subst h1; subst h2; subst h3
    exact Or.inl ⟨v, (T.setVm vm₁).calling g' mk As.toArray, t, U', L, hT, X', hL, e1, e2, hq, st⟩
  · dsimp only [Pt.U, Pt.locs, Pt.cells, Pt.slots] at X' e1 e2 h1 h2 h3 st hcl
    subst h1; subst h2; subst h3
    exact Or.inr ⟨q, (T.setVm vm₁).calling g' mk As.toArray, t, U', L, E, ce, hT, X', hL, e1, e2, hq, hce, hcv, vx_cls hW₁ hcl, st⟩
end Runs
section Rows
variable {p : Program} {l : Launch} {e : Env} {R : Room} {s : State} {m : MethodId} {args : Array Value} {below : List Frame} {meth : Method} {c : Code} {H : Heap} {locs : List Loc} {cells slots : Nat} {Q : State → Prop}
variable {mc ms : Nat} {free : Addr → Prop} {A0 A1 : Nat → Prop} {H0 : Heap} {a : Array Value} {pc : Nat} {ls : Array Slot} {st0 rest : List Value}
theorem vx_keep {st₀ t T' : State} {L : List Loc} (h0 : st₀.heap = H) (e1 : T'.heap = t.heap) (hS : va_S A0 H0 H locs) (hA : ∀ q, q < H.size → A1 q → A0 q) (hf : ∀ q, free q → A0 q) (hL : ∀ q ∈ L, free q.base) (hF : va_F A1 st₀ t) :
    H.size ≤ T'.heap.size ∧ (∀ q : Nat, q < H.size → ¬ A1 q → T'.heap[q]? = H[q]?) ∧ va_S A0 H0 T'.heap (locs ++ L) := by
  obtain ⟨hz, hk⟩ := hF
  rw [h0] at hz hk
  exact ⟨by rw [e1]; exact hz, fun q h1 h2 => by rw [e1]; exact hk q h1 h2,
    ⟨Nat.le_trans hS.1 (by rw [e1]; exact hz), fun q h1 h2 => by rw [e1, hk q (Nat.lt_of_lt_of_le h1 hS.1) (fun z => h2 (hA q (Nat.lt_of_lt_of_le h1 hS.1) z))]; exact hS.2.1 q h1 h2, fun q hq => by
      rcases List.mem_append.mp hq with h | h
      · exact hS.2.2 q h
      · exact hf _ (hL q h)⟩⟩
theorem vx_calli {S SX : Type} {post : Int32 → S → Prop} {px : SX → Prop} {B : S → State → Prop} {BX : String → SX → State → Prop} {AX : Nat → Prop} (hr : vx_Run p l e R s m args below meth c H locs cells slots mc ms (F0 m pc ls st0) rest (va_Qi post B A1 a) (vx_X px BX AX) free) (hS : va_S A0 H0 H locs) (hA : ∀ q, q < H.size → A1 q → A0 q) (hf : ∀ q, free q → A0 q) (hAX : ∀ q, q < H.size → AX q → A0 q)
    (kx : ∀ (E : String) (ce : Cell) (q9 : Addr) (u : SX) (t : State) (H1 : Heap) (locs1 : List Loc), t.heap = H1 → s.vm.Alike t.vm → px u → BX E u t → H.size ≤ H1.size → (∀ q : Nat, q < H.size → ¬ AX q → H1[q]? = H[q]?) → va_S A0 H0 H1 locs1 → H1[q9]? = some ce → ce.vm = .none → s.vm.findClass E = some ce.cls → vx_W p l e R s m args below meth c H1 locs1 (cells + mc) (slots + ms) Q (F0 m pc ls rest) q9)
    (kk : ∀ (r : Int32) (u : S) (t : State) (H1 : Heap) (locs1 : List Loc), t.heap = H1 → s.vm.Alike t.vm → post r u → B u t → H.size ≤ H1.size → (∀ q : Nat, q < H.size → ¬ A1 q → H1[q]? = H[q]?) → va_S A0 H0 H1 locs1 → W p l e R s m args below meth c H1 locs1 (cells + mc) (slots + ms) Q (F0 m (pc + 3) ls (.int r :: rest))) : W p l e R s m args below meth c H locs cells slots Q (F0 m pc ls st0) := by
  intro T hT X
  rcases hr T hT X with ⟨v, st₀, t, T', L, h0, X', hL, e1, e2, ⟨⟨r, u, hv, hp, hb⟩, hF⟩, st⟩ | ⟨q, st₀, t, T', L, E, ce, h0, X', hL, e1, e2, ⟨u, hp, hb, hF⟩, hce, hcv, hcl, st⟩
  · cases hv
    obtain ⟨k1, k2, k3⟩ := vx_keep h0 e1 hS hA hf hL hF
    obtain ⟨t2, a1, b1⟩ := kk r u t T'.heap (locs ++ L) e1.symm (by rw [← e2]; exact X'.warmed.alike) hp hb k1 k2 k3 T' rfl X'
    exact ⟨t2, st t2 a1, b1⟩
  · obtain ⟨k1, k2, k3⟩ := vx_keep h0 e1 hS hAX hf hL hF
    obtain ⟨t2, a1, b1⟩ := kx E ce q u t T'.heap (locs ++ L) e1.symm (by rw [← e2]; exact X'.warmed.alike) hp hb k1 k2 k3 (by rw [e1]; exact hce) hcv hcl T' rfl X'
    exact ⟨t2, st.trans a1, b1⟩
theorem vx_calll {S SX : Type} {post : Int64 → S → Prop} {px : SX → Prop} {B : S → State → Prop} {BX : String → SX → State → Prop} {AX : Nat → Prop} (hr : vx_Run p l e R s m args below meth c H locs cells slots mc ms (F0 m pc ls st0) rest (va_Ql post B A1 a) (vx_X px BX AX) free) (hS : va_S A0 H0 H locs) (hA : ∀ q, q < H.size → A1 q → A0 q) (hf : ∀ q, free q → A0 q) (hAX : ∀ q, q < H.size → AX q → A0 q)
    (kx : ∀ (E : String) (ce : Cell) (q9 : Addr) (u : SX) (t : State) (H1 : Heap) (locs1 : List Loc), t.heap = H1 → s.vm.Alike t.vm → px u → BX E u t → H.size ≤ H1.size → (∀ q : Nat, q < H.size → ¬ AX q → H1[q]? = H[q]?) → va_S A0 H0 H1 locs1 → H1[q9]? = some ce → ce.vm = .none → s.vm.findClass E = some ce.cls → vx_W p l e R s m args below meth c H1 locs1 (cells + mc) (slots + ms) Q (F0 m pc ls rest) q9)
    (kk : ∀ (r : Int64) (u : S) (t : State) (H1 : Heap) (locs1 : List Loc), t.heap = H1 → s.vm.Alike t.vm → post r u → B u t → H.size ≤ H1.size → (∀ q : Nat, q < H.size → ¬ A1 q → H1[q]? = H[q]?) → va_S A0 H0 H1 locs1 → W p l e R s m args below meth c H1 locs1 (cells + mc) (slots + ms) Q (F0 m (pc + 3) ls (.long r :: rest))) : W p l e R s m args below meth c H locs cells slots Q (F0 m pc ls st0) := by
  intro T hT X
  rcases hr T hT X with ⟨v, st₀, t, T', L, h0, X', hL, e1, e2, ⟨⟨r, u, hv, hp, hb⟩, hF⟩, st⟩ | ⟨q, st₀, t, T', L, E, ce, h0, X', hL, e1, e2, ⟨u, hp, hb, hF⟩, hce, hcv, hcl, st⟩
  · cases hv
    obtain ⟨k1, k2, k3⟩ := vx_keep h0 e1 hS hA hf hL hF
    obtain ⟨t2, a1, b1⟩ := kk r u t T'.heap (locs ++ L) e1.symm (by rw [← e2]; exact X'.warmed.alike) hp hb k1 k2 k3 T' rfl X'
    exact ⟨t2, st t2 a1, b1⟩
  · obtain ⟨k1, k2, k3⟩ := vx_keep h0 e1 hS hAX hf hL hF
    obtain ⟨t2, a1, b1⟩ := kx E ce q u t T'.heap (locs ++ L) e1.symm (by rw [← e2]; exact X'.warmed.alike) hp hb k1 k2 k3 (by rw [e1]; exact hce) hcv hcl T' rfl X'
    exact ⟨t2, st.trans a1, b1⟩
theorem vx_callf {S SX : Type} {post : UInt32 → S → Prop} {px : SX → Prop} {B : S → State → Prop} {BX : String → SX → State → Prop} {AX : Nat → Prop} (hr : vx_Run p l e R s m args below meth c H locs cells slots mc ms (F0 m pc ls st0) rest (va_Qf post B A1 a) (vx_X px BX AX) free) (hS : va_S A0 H0 H locs) (hA : ∀ q, q < H.size → A1 q → A0 q) (hf : ∀ q, free q → A0 q) (hAX : ∀ q, q < H.size → AX q → A0 q)
    (kx : ∀ (E : String) (ce : Cell) (q9 : Addr) (u : SX) (t : State) (H1 : Heap) (locs1 : List Loc), t.heap = H1 → s.vm.Alike t.vm → px u → BX E u t → H.size ≤ H1.size → (∀ q : Nat, q < H.size → ¬ AX q → H1[q]? = H[q]?) → va_S A0 H0 H1 locs1 → H1[q9]? = some ce → ce.vm = .none → s.vm.findClass E = some ce.cls → vx_W p l e R s m args below meth c H1 locs1 (cells + mc) (slots + ms) Q (F0 m pc ls rest) q9)
    (kk : ∀ (r : UInt32) (u : S) (t : State) (H1 : Heap) (locs1 : List Loc), t.heap = H1 → s.vm.Alike t.vm → post r u → B u t → H.size ≤ H1.size → (∀ q : Nat, q < H.size → ¬ A1 q → H1[q]? = H[q]?) → va_S A0 H0 H1 locs1 → W p l e R s m args below meth c H1 locs1 (cells + mc) (slots + ms) Q (F0 m (pc + 3) ls (.float r :: rest))) : W p l e R s m args below meth c H locs cells slots Q (F0 m pc ls st0) := by
  intro T hT X
  rcases hr T hT X with ⟨v, st₀, t, T', L, h0, X', hL, e1, e2, ⟨⟨r, u, hv, hp, hb⟩, hF⟩, st⟩ | ⟨q, st₀, t, T', L, E, ce, h0, X', hL, e1, e2, ⟨u, hp, hb, hF⟩, hce, hcv, hcl, st⟩
  · cases hv
    obtain ⟨k1, k2, k3⟩ := vx_keep h0 e1 hS hA hf hL hF
    obtain ⟨t2, a1, b1⟩ := kk r u t T'.heap (locs ++ L) e1.symm (by rw [← e2]; exact X'.warmed.alike) hp hb k1 k2 k3 T' rfl X'
    exact ⟨t2, st t2 a1, b1⟩
  · obtain ⟨k1, k2, k3⟩ := vx_keep h0 e1 hS hAX hf hL hF
    obtain ⟨t2, a1, b1⟩ := kx E ce q u t T'.heap (locs ++ L) e1.symm (by rw [← e2]; exact X'.warmed.alike) hp hb k1 k2 k3 (by rw [e1]; exact hce) hcv hcl T' rfl X'
    exact ⟨t2, st.trans a1, b1⟩
theorem vx_calld {S SX : Type} {post : UInt64 → S → Prop} {px : SX → Prop} {B : S → State → Prop} {BX : String → SX → State → Prop} {AX : Nat → Prop} (hr : vx_Run p l e R s m args below meth c H locs cells slots mc ms (F0 m pc ls st0) rest (va_Qd post B A1 a) (vx_X px BX AX) free) (hS : va_S A0 H0 H locs) (hA : ∀ q, q < H.size → A1 q → A0 q) (hf : ∀ q, free q → A0 q) (hAX : ∀ q, q < H.size → AX q → A0 q)
    (kx : ∀ (E : String) (ce : Cell) (q9 : Addr) (u : SX) (t : State) (H1 : Heap) (locs1 : List Loc), t.heap = H1 → s.vm.Alike t.vm → px u → BX E u t → H.size ≤ H1.size → (∀ q : Nat, q < H.size → ¬ AX q → H1[q]? = H[q]?) → va_S A0 H0 H1 locs1 → H1[q9]? = some ce → ce.vm = .none → s.vm.findClass E = some ce.cls → vx_W p l e R s m args below meth c H1 locs1 (cells + mc) (slots + ms) Q (F0 m pc ls rest) q9)
    (kk : ∀ (r : UInt64) (u : S) (t : State) (H1 : Heap) (locs1 : List Loc), t.heap = H1 → s.vm.Alike t.vm → post r u → B u t → H.size ≤ H1.size → (∀ q : Nat, q < H.size → ¬ A1 q → H1[q]? = H[q]?) → va_S A0 H0 H1 locs1 → W p l e R s m args below meth c H1 locs1 (cells + mc) (slots + ms) Q (F0 m (pc + 3) ls (.double r :: rest))) : W p l e R s m args below meth c H locs cells slots Q (F0 m pc ls st0) := by
  intro T hT X
  rcases hr T hT X with ⟨v, st₀, t, T', L, h0, X', hL, e1, e2, ⟨⟨r, u, hv, hp, hb⟩, hF⟩, st⟩ | ⟨q, st₀, t, T', L, E, ce, h0, X', hL, e1, e2, ⟨u, hp, hb, hF⟩, hce, hcv, hcl, st⟩
  · cases hv
    obtain ⟨k1, k2, k3⟩ := vx_keep h0 e1 hS hA hf hL hF
    obtain ⟨t2, a1, b1⟩ := kk r u t T'.heap (locs ++ L) e1.symm (by rw [← e2]; exact X'.warmed.alike) hp hb k1 k2 k3 T' rfl X'
    exact ⟨t2, st t2 a1, b1⟩
  · obtain ⟨k1, k2, k3⟩ := vx_keep h0 e1 hS hAX hf hL hF
    obtain ⟨t2, a1, b1⟩ := kx E ce q u t T'.heap (locs ++ L) e1.symm (by rw [← e2]; exact X'.warmed.alike) hp hb k1 k2 k3 (by rw [e1]; exact hce) hcv hcl T' rfl X'
    exact ⟨t2, st.trans a1, b1⟩
theorem vx_callv {S SX : Type} {post : S → Prop} {px : SX → Prop} {B : S → State → Prop} {BX : String → SX → State → Prop} {AX : Nat → Prop} (hr : vx_Run p l e R s m args below meth c H locs cells slots mc ms (F0 m pc ls st0) rest (va_Qv post B A1 a) (vx_X px BX AX) free) (hS : va_S A0 H0 H locs) (hA : ∀ q, q < H.size → A1 q → A0 q) (hf : ∀ q, free q → A0 q) (hAX : ∀ q, q < H.size → AX q → A0 q)
    (kx : ∀ (E : String) (ce : Cell) (q9 : Addr) (u : SX) (t : State) (H1 : Heap) (locs1 : List Loc), t.heap = H1 → s.vm.Alike t.vm → px u → BX E u t → H.size ≤ H1.size → (∀ q : Nat, q < H.size → ¬ AX q → H1[q]? = H[q]?) → va_S A0 H0 H1 locs1 → H1[q9]? = some ce → ce.vm = .none → s.vm.findClass E = some ce.cls → vx_W p l e R s m args below meth c H1 locs1 (cells + mc) (slots + ms) Q (F0 m pc ls rest) q9)
    (kk : ∀ (u : S) (t : State) (H1 : Heap) (locs1 : List Loc), t.heap = H1 → s.vm.Alike t.vm → post u → B u t → H.size ≤ H1.size → (∀ q : Nat, q < H.size → ¬ A1 q → H1[q]? = H[q]?) → va_S A0 H0 H1 locs1 → W p l e R s m args below meth c H1 locs1 (cells + mc) (slots + ms) Q (F0 m (pc + 3) ls (rest))) : W p l e R s m args below meth c H locs cells slots Q (F0 m pc ls st0) := by
  intro T hT X
  rcases hr T hT X with ⟨v, st₀, t, T', L, h0, X', hL, e1, e2, ⟨⟨u, hv, hp, hb⟩, hF⟩, st⟩ | ⟨q, st₀, t, T', L, E, ce, h0, X', hL, e1, e2, ⟨u, hp, hb, hF⟩, hce, hcv, hcl, st⟩
  · cases hv
    obtain ⟨k1, k2, k3⟩ := vx_keep h0 e1 hS hA hf hL hF
    obtain ⟨t2, a1, b1⟩ := kk u t T'.heap (locs ++ L) e1.symm (by rw [← e2]; exact X'.warmed.alike) hp hb k1 k2 k3 T' rfl X'
    exact ⟨t2, st t2 a1, b1⟩
  · obtain ⟨k1, k2, k3⟩ := vx_keep h0 e1 hS hAX hf hL hF
    obtain ⟨t2, a1, b1⟩ := kx E ce q u t T'.heap (locs ++ L) e1.symm (by rw [← e2]; exact X'.warmed.alike) hp hb k1 k2 k3 (by rw [e1]; exact hce) hcv hcl T' rfl X'
    exact ⟨t2, st.trans a1, b1⟩
end Rows
section Ends
variable {p : Program} {l : Launch} {e : Env} {R : Room} {s : State} {m : MethodId} {args : Array Value} {below : List Frame} {meth : Method} {c : Code} {H : Heap} {locs : List Loc} {cells slots : Nat} {Q : State → Prop}
variable {mc ms : Nat} {free : Addr → Prop} {A0 A1 : Nat → Prop} {H0 : Heap} {a : Array Value} {ls : Array Slot} {st0 rest : List Value}
variable {Qc : Array Value → State → Outcome → State → Prop} {XC : String → State → State → Prop}
/-- what a body that may throw owes at its end -/
def vx_MQ (below : List Frame) (Qc : Array Value → State → Outcome → State → Prop) (XC : String → State → State → Prop) (a : Array Value) (s : State) (mc ms : Nat) (free : Addr → Prop) : State → Prop := fun t =>
  ∃ o, t.status = .running ∧ Ended t below o ∧ vx_Q Qc XC mc ms free a s o t
theorem vx_ret {g : JFrame} {mc ms : Nat} (k : W p l e R s m args below meth c H locs cells slots (MQ below Qc args s mc ms free) g) : W p l e R s m args below meth c H locs cells slots (vx_MQ below Qc XC args s mc ms free) g := by
  intro T hT X
  obtain ⟨t, a1, o, b1, b2, b3, b4⟩ := k T hT X
  exact ⟨t, a1, o, b1, b2, Or.inl ⟨b3, b4⟩⟩
/-- not caught here: it goes on to the caller -/
theorem vx_widen {g : JFrame} {q : Addr} {k n : Nat} (h1 : cells ≤ k) (h2 : slots ≤ n) (kk : vx_W p l e R s m args below meth c H locs k n Q g q) : vx_W p l e R s m args below meth c H locs cells slots Q g q := fun T hT X => kk T hT (stand_widen X h1 h2)
theorem vx_out {pc : Nat} {E : String} {ce : Cell} {q : Addr} {mc ms : Nat} (hout : ∀ x ∈ c.exceptionTable.toList, covers x pc = false) (hlocks : meth.locks = false) (hcell : H[q]? = some ce) (hv : ce.vm = .none) (hcl : s.vm.findClass E = some ce.cls)
    (hx : ∀ t : State, t.heap = H → s.vm.Alike t.vm → XC E s t) (hf : ∀ z ∈ locs, free z.base) (hc : cells ≤ mc) (hs : slots ≤ ms) :
    vx_W p l e R s m args below meth c H locs cells slots (vx_MQ below Qc XC args s mc ms free) (F0 m pc ls rest) q := by
  intro T hT X
  obtain ⟨st1, hrun, hend, hW, hsm⟩ := X.leaveThrown q (g := F0 m pc ls rest) rfl rfl rfl hout hlocks
  have hcell9 : (T.setFrames (.throwing q :: below)).heap[q]? = some ce := by
    show T.heap[q]? = some ce
    rw [hT]; exact hcell
  exact ⟨_, st1, .threw q, hrun, hend, Or.inr ⟨q, rfl, E, ce, locs, hx _ hT hW.alike, hcell9, hv, hcl, hW, hsm.mono hc hs, hf⟩⟩
theorem vx_frame {U : State} {k n : Nat} (h : s.sameButNew ({ U with vm := s.vm } : State) locs k n) : s.heap.size ≤ U.heap.size ∧ ∀ q : Nat, q < s.heap.size → (∀ z ∈ locs, z.base ≠ q) → U.heap[q]? = s.heap[q]? := by
  obtain ⟨-, h2, -, -, -, h6⟩ := h
  refine ⟨h2, fun q hq hz => ?_⟩
  obtain ⟨c9, e1, e2, e3, e4⟩ := h6 q _ (Array.getElem?_eq_getElem hq)
  have hs : c9.slots = (s.heap[q]).slots := Array.ext_getElem? fun i => e4 i fun hm => hz _ hm rfl
  have h9 : c9 = s.heap[q] := by
    rw [hs] at e2
    exact e2
  have e5 : U.heap[q]? = some c9 := e1
  rw [e5, h9, Array.getElem?_eq_getElem hq]
/-- the words of a throw but the four that speak of the heap -/
def vx_no (w : Cond) : Bool := decide (w ≠ .isRef (.static Bundle.tN "UNASSIGNED_STACK" Bundle.steD)) && decide (w ≠ .isRef (.static Bundle.tN "SUPPRESSED_SENTINEL" Bundle.listD)) && decide (w ≠ .laysStatic Bundle.tN "UNASSIGNED_STACK" Bundle.steD) && decide (w ≠ .laysStatic Bundle.tN "SUPPRESSED_SENTINEL" Bundle.listD)
def vx_at0 (own : String) (ic : Nat) (X : String) (names : List String) : List Cond := (Bundle.ownAtoms0 own ic X names).filter vx_no
def vx_atS (own : String) (ic : Nat) (X : String) (names : List String) : List Cond := (Bundle.ownAtoms own ic X names).filter vx_no
/-- a word that the tables alone decide, or a good one -/
def vx_ot (w : Cond) : Bool := w.onTables || goodWord w
theorem vx_ot_at {args a' : Array Value} {s U : State} {w : Cond} (hW : s.WarmedH U.vm) (hvm : s.vm = U.vm) (hg : vx_ot w = true) (h : w.before args s = true) : w.before a' U = true := by
  simp only [vx_ot, Bool.or_eq_true] at hg
  rcases hg with hg | hg
  · exact va_tabs hg hvm h
  · exact word_at hW (good_of_word hg) h
/-- a list's words: the good ones out of the method's own list, the others by premises of their own -/
theorem vx_hat {args : Array Value} {s : State} {L B : List Cond} (h1 : ∀ w ∈ L.filter goodWord, w.before args s = true) (h2 : ∀ w ∈ L.filter (fun w => !goodWord w), w ∈ B) (h3 : ∀ w ∈ B, w.before args s = true) : ∀ w ∈ L, w.before args s = true := by
  intro w hw
  by_cases g : goodWord w = true
  · exact h1 w (List.mem_filter.mpr ⟨hw, g⟩)
  · refine h3 w (h2 w (List.mem_filter.mpr ⟨hw, ?_⟩))
    show (!goodWord w) = true
    cases hgw : goodWord w
    · rfl
    · exact absurd hgw g
theorem vx_c {args : Array Value} {s : State} {w : Cond} {B : List Cond} (h : w.before args s = true) (t : ∀ w ∈ B, w.before args s = true) : ∀ w' ∈ w :: B, w'.before args s = true := fun w' h' => (List.mem_cons.mp h').elim (fun e => by rw [e]; exact h) (t w')
theorem vx_n {args : Array Value} {s : State} : ∀ w ∈ ([] : List Cond), w.before args s = true := fun _ h => nomatch h
theorem vx_own {args : Array Value} {s : State} {L : List Cond} (h1 : ∀ w ∈ L.filter vx_no, w.before args s = true)
    (hU : (Cond.isRef (.static Bundle.tN "UNASSIGNED_STACK" Bundle.steD)).before args s = true) (hN : (Cond.isRef (.static Bundle.tN "SUPPRESSED_SENTINEL" Bundle.listD)).before args s = true)
    (lU : (Cond.laysStatic Bundle.tN "UNASSIGNED_STACK" Bundle.steD).before args s = true) (lN : (Cond.laysStatic Bundle.tN "SUPPRESSED_SENTINEL" Bundle.listD).before args s = true) : ∀ w ∈ L, w.before args s = true := by
  intro w hw
  by_cases e1 : w = .isRef (.static Bundle.tN "UNASSIGNED_STACK" Bundle.steD)
  · rw [e1]; exact hU
  · by_cases e2 : w = .isRef (.static Bundle.tN "SUPPRESSED_SENTINEL" Bundle.listD)
    · rw [e2]; exact hN
    · by_cases e3 : w = .laysStatic Bundle.tN "UNASSIGNED_STACK" Bundle.steD
      · rw [e3]; exact lU
      · by_cases e4 : w = .laysStatic Bundle.tN "SUPPRESSED_SENTINEL" Bundle.listD
        · rw [e4]; exact lN
        · exact h1 w (List.mem_filter.mpr ⟨hw, by unfold vx_no; rw [decide_eq_true e1, decide_eq_true e2, decide_eq_true e3, decide_eq_true e4]; rfl⟩)
/-- where a static field lies, its class's statics cell in H -/
def vx_L (C n d : String) (A : Nat → Prop) (U : State) (H : Heap) : Prop := ∃ (c : ClassId) (k : Class) (i : Nat) (f : Field) (a : Nat) (cell : Cell), U.vm.findClass C = some c ∧ U.fieldFound? C n d = some (c, k, i, f) ∧ f.isStatic = true ∧ k.statics = some a ∧ H[a]? = some cell ∧ cell.vm.isStatics = true ∧ cell.cls = c ∧ f.slot < cell.slots.size ∧ k.staticTypes[f.slot]? = some f.type ∧ ¬ A a
theorem vx_L.moved {C n d : String} {A : Nat → Prop} {u U : State} {H : Heap} (hvm : u.vm.Alike U.vm) (h : vx_L C n d A u H) : vx_L C n d A U H := by
  obtain ⟨c, k, i, f, a, cell, h1, h2, h3, h4, h5, h6, h7, h8, h9, h10⟩ := h
  obtain ⟨k', hi', he⟩ := State.fieldFound?_setVm hvm h2
  exact ⟨c, k', i, f, a, cell, by rw [hvm.findClass]; exact h1, hi', h3, by rw [he]; exact h4, h5, h6, h7, h8, by rw [he]; exact h9, h10⟩
theorem vx_L.kept {C n d : String} {A : Nat → Prop} {U : State} {H H1 : Heap} (h : vx_L C n d A U H) (hq : ∀ a : Nat, a < H.size → ¬ A a → H1[a]? = H[a]?) : vx_L C n d A U H1 := by
  obtain ⟨c, k, i, f, a, cell, h1, h2, h3, h4, h5, h6, h7, h8, h9, h10⟩ := h
  exact ⟨c, k, i, f, a, cell, h1, h2, h3, h4, by rw [hq a (Array.getElem?_eq_some_iff.mp h5).1 h10]; exact h5, h6, h7, h8, h9, h10⟩
theorem vx_L.narrow {C n d : String} {A B : Nat → Prop} {U : State} {H : Heap} (h : vx_L C n d A U H) (hAB : ∀ q, B q → A q) : vx_L C n d B U H := by
  obtain ⟨c, k, i, f, a, cell, h1, h2, h3, h4, h5, h6, h7, h8, h9, h10⟩ := h
  exact ⟨c, k, i, f, a, cell, h1, h2, h3, h4, h5, h6, h7, h8, h9, fun z => h10 (hAB _ z)⟩
theorem vx_L.word {C n d : String} {A : Nat → Prop} {s : State} {args : Array Value} (h : vx_L C n d A s s.heap) : (Cond.laysStatic C n d).before args s = true := by
  obtain ⟨c, k, i, f, a, cell, h1, h2, h3, h4, h5, h6, h7, h8, h9, -⟩ := h
  show (Cond.laysStatic C n d).holds args s none s [] = true
  exact Cond.laysStatic_of h1 h2 h3 h4 h5 h6 h7 h8 h9
/-- .. and what it holds: null or some reference -/
def vx_Zq (C n d : String) (A : Nat → Prop) (U : State) (H : Heap) : Prop := va_Zq C n d A U H ∧ vx_L C n d A U H
theorem vx_Zq.moved {C n d : String} {A : Nat → Prop} {u U : State} {H : Heap} (hvm : u.vm.Alike U.vm) (h : vx_Zq C n d A u H) : vx_Zq C n d A U H := ⟨va_Zq.moved hvm h.1, vx_L.moved hvm h.2⟩
theorem vx_Zq.kept {C n d : String} {A : Nat → Prop} {U : State} {H H1 : Heap} (h : vx_Zq C n d A U H) (hq : ∀ a : Nat, a < H.size → ¬ A a → H1[a]? = H[a]?) : vx_Zq C n d A U H1 := ⟨va_Zq.kept h.1 hq, vx_L.kept h.2 hq⟩
theorem vx_Zq.narrow {C n d : String} {A B : Nat → Prop} {U : State} {H : Heap} (h : vx_Zq C n d A U H) (hAB : ∀ q, B q → A q) : vx_Zq C n d B U H := ⟨va_Zq.narrow h.1 hAB, vx_L.narrow h.2 hAB⟩
theorem vx_Zqof {args : Array Value} {s : State} {C n d : String} {A : Nat → Prop} (hl : (Cond.laysStatic C n d).before args s = true) (hini : (Cond.initialized C).before args s = true) (h : (Cond.isRef (.static C n d)).before args s = true) (hA : ∀ a : Nat, a < s.heap.size → ¬ A a) : vx_Zq C n d A s s.heap := by
  refine ⟨va_Zqof hl hini h hA, ?_⟩
  obtain ⟨c, k, i, f, a, cell, h1, h2, h3, h4, h5, h6, h7, h8, h9⟩ := Cond.laysStatic_spec hl
  exact ⟨c, k, i, f, a, cell, h1, h2, h3, h4, h5, h6, h7, h8, h9, hA a (Array.getElem?_eq_some_iff.mp h5).1⟩
theorem vx_isRef {C n d : String} {v : Value} {A : Nat → Prop} {s : State} {args : Array Value} (h : va_Z C n d v A s s.heap) (hv : v.isRef = true) : (Cond.isRef (.static C n d)).before args s = true := by
  obtain ⟨cf, kf, fi, f, a, cell, h1, h2, h3, h4, h5, h6, h7, -⟩ := h
  have he : (Term.static C n d).eval args s none [] s = some v := by
    simp [Term.eval, State.fieldNamed?, h1, h2, h4, h5, h6, h7]
  simp only [Cond.before, Cond.holds, Cond.value, he]
  cases v <;> simp_all [Value.isRef]
theorem vx_isRefq {C n d : String} {A : Nat → Prop} {s : State} {args : Array Value} (h : va_Zq C n d A s s.heap) : (Cond.isRef (.static C n d)).before args s = true := by
  rcases h with h | ⟨t, h⟩
  · exact vx_isRef h rfl
  · exact vx_isRef h rfl
/-- the same frame, seen from here: as if the method were called anew in this heap -/
theorem vx_rebase {T : State} (X : Stand p l e R s m args below meth c T locs cells slots) {R' : Room} (hf : R'.frames ≤ R.frames) (hl : R'.locals ≤ R.locals) (hc : cells + R'.cells ≤ R.cells) (hs : slots + R'.slots ≤ R.slots) :
    Stand p l e R' ((T.setVm s.vm).setFrames (.invoking m args :: below)) m args below meth c T [] 0 0 := by
  have htop : (T.setVm s.vm).topJava?.isSome := X.here.top
  have hF : ((T.setVm s.vm).setFrames (.invoking m args :: below)).frames = .invoking m args :: below := State.frames_setFrames _ (State.cur_lt_of_top htop)
  obtain ⟨g₀, hg0⟩ := Option.isSome_iff_exists.mp htop
  obtain ⟨r, hr⟩ := State.topJava?_eq_some.mp hg0
  have hl9 : e.platform.stackLimits (T.setVm s.vm).me = e.platform.stackLimits s.me := X.limits
  have hb9 : (T.setVm s.vm).me.stackBytes = s.me.stackBytes := X.bytes
  refine ⟨X.admits, X.cas, X.clock, hF, ?_, X.hears, X.method, X.code, X.here, X.tail, X.warmed, ?_, ?_, ?_⟩
  · have h := X.room
    have hU : ((T.setVm s.vm).setFrames (.invoking m args :: below)).localsInUse = s.localsInUse := by
      rw [State.localsInUse_invoking hF (meth := meth) (c := c) X.method X.code, State.localsInUse_invoking X.frames X.method X.code]
    simp only [State.hasRoom, Bool.and_eq_true, decide_eq_true_eq] at h ⊢
    obtain ⟨⟨⟨⟨h1, h2, h3, h4, h5, h6⟩, h7⟩, h8⟩, h9⟩ := h
    rw [X.frames, List.length_cons] at h2 h3
    have q1 := X.heapSize
    have q2 := X.used
    simp only [hF, hU, List.length_cons, State.stackLimits_setFrames, State.stackBytes_setFrames, hl9, hb9]
    refine ⟨⟨⟨⟨by omega, by omega, by omega, by omega, by omega, h6⟩, ?_⟩, ?_⟩, X.book⟩
    · show T.heap.size + R'.cells ≤ e.platform.maxCells
      omega
    · show T.slotsUsed + R'.slots ≤ e.platform.maxSlots
      omega
  · rw [State.stackLimits_setFrames]; rfl
  · rw [State.stackBytes_setFrames]; rfl
  · refine ⟨?_, Nat.le_refl _, Nat.le_refl _, ?_, ?_, fun a c9 h9 => ⟨c9, h9, rfl, rfl, fun _ _ => rfl⟩⟩
    · obtain ⟨t, ht, -⟩ := State.frames_cons hr
      show T.setVm s.vm = { ((T.setVm s.vm).setFrames (.invoking m args :: below)).setFrames (T.setVm s.vm).frames with heap := T.heap, slotsUsed := T.slotsUsed }
      rw [State.setFrames_setFrames, State.setFrames_self ht]
      rfl
    · show T.slotsUsed = T.slotsUsed + ((T.heap.toList.drop T.heap.size).map (·.slots.size)).sum
      rw [List.drop_eq_nil_of_le (Nat.le_of_eq Array.length_toList)]
      rfl
    · show ((T.heap.toList.drop T.heap.size).map (·.slots.size)).sum ≤ 0
      rw [List.drop_eq_nil_of_le (Nat.le_of_eq Array.length_toList)]
      exact Nat.le_refl _
/-- 'throw new E()': new; dup; invokespecial; athrow -/
theorem vx_throw0 {cc : ByteArray} {pc : Nat} (hexec : p.tables.exec = Jvm.exec) (hb : c.code = cc) (hl : l.stackTraces = false) {own cls : String} {names : List String} {ik ic mc ms : Nat} {A : Nat → Prop}
    (hown : s.vm.findClass own = some m.cls) (hcls : Bundle.fit cls = true) (hnames : ∀ n ∈ names, Bundle.fit n = true)
    (hk : (Cond.classLink own ik cls).before args s = true) (hini : (Cond.initialized cls).before args s = true) (hat : ∀ w ∈ vx_at0 own ic cls names, w.before args s = true)
    (hgood : ∀ w ∈ Cond.classLink own ik cls :: Cond.initialized cls :: vx_at0 own ic cls names, vx_ot w = true)
    (hU : vx_Zq Bundle.tN "UNASSIGNED_STACK" Bundle.steD A s s.heap) (hN : vx_Zq Bundle.tN "SUPPRESSED_SENTINEL" Bundle.listD A s s.heap) (hS : va_S A s.heap H locs) (hsize : ls.size = c.maxLocals)
    (d0 : decode cc pc = .ok (.new ik, 3)) (d3 : decode cc (pc + 3) = .ok (.dup, 1)) (d4 : decode cc (pc + 4) = .ok (.invokespecial ic, 3)) (d7 : decode cc (pc + 7) = .ok (.athrow, 1))
    (hout : ∀ x ∈ c.exceptionTable.toList, covers x (pc + 7) = false)
    (hRframes : names.length + 3 < R.frames) (hRlocals : (rest.map fun v => v.category).sum + (13 * (names.length + 1) + 42) ≤ R.locals) (hRcells : cells + 1 ≤ R.cells) (hRslots : slots + 6 ≤ R.slots) (hlocks : meth.locks = false)
    (hx : ∀ t : State, s.vm.Alike t.vm → H.size ≤ t.heap.size → (∀ q : Nat, q < H.size → t.heap[q]? = H[q]?) → XC cls s t)
    (hf : ∀ z ∈ locs, free z.base) (hc : cells + 1 ≤ mc) (hs : slots + 6 ≤ ms) :
    W p l e R s m args below meth c H locs cells slots (vx_MQ below Qc XC args s mc ms free) (F0 m pc ls rest) := by
  intro T hT X
  have htr : e.platform.stackTraces = false := (show e.platform.stackTraces = l.stackTraces by rw [X.admits.platform]).trans hl
  have Y := vx_rebase X (R' := { frames := R.frames, locals := R.locals, cells := 1, slots := 6 }) (Nat.le_refl _) (Nat.le_refl _) hRcells hRslots
  obtain ⟨s', hA⟩ : ∃ z, z = (T.setVm s.vm).setFrames (.invoking m args :: below) := ⟨_, rfl⟩
  rw [← hA] at Y
  have hvm : s'.vm = s.vm := by rw [hA]; rfl
  have hhp : s'.heap = H := by rw [hA]; exact hT
  have hW0 : s.WarmedH s'.vm := by rw [hvm]; exact State.WarmedH.refl s
  have hat' : ∀ w ∈ vx_at0 own ic cls names, w.before args s' = true := fun w hw => vx_ot_at hW0 hvm.symm (hgood w (List.mem_cons_of_mem _ (List.mem_cons_of_mem _ hw))) (hat w hw)
  have hk' : (Cond.classLink own ik cls).before args s' = true := vx_ot_at hW0 hvm.symm (hgood _ List.mem_cons_self) hk
  have hini' : (Cond.initialized cls).before args s' = true := vx_ot_at hW0 hvm.symm (hgood _ (List.mem_cons_of_mem _ List.mem_cons_self)) hini
  have hU' : vx_Zq Bundle.tN "UNASSIGNED_STACK" Bundle.steD A s' s'.heap := by rw [hhp]; exact vx_Zq.moved hW0.alike (hU.kept hS.2.1)
  have hN' : vx_Zq Bundle.tN "SUPPRESSED_SENTINEL" Bundle.listD A s' s'.heap := by rw [hhp]; exact vx_Zq.moved hW0.alike (hN.kept hS.2.1)
  have h : ∀ w ∈ Bundle.ownAtoms0 own ic cls names, w.before args s' = true := vx_own hat' (vx_isRefq hU'.1) (vx_isRefq hN'.1) hU'.2.word hN'.2.word
  have hown' : s'.vm.findClass own = some m.cls := by rw [hvm]; exact hown
  have hins : (Cond.instantiable cls 6).before args s' = true := h _ (by simp [Bundle.ownAtoms0])
  obtain ⟨vm₁, cX, kX, hfX, hkX, -, -, X₁, st1⟩ := Y.newCold hexec (own := own) (C := cls) (index := ik) (n := 6) hown' hk' hins hini'
    (g := F0 m pc ls rest) rfl (by rw [hb]; exact d0) (Nat.le_refl _) (Nat.le_refl _)
  generalize hT1 : (T.setVm vm₁).pushCell { cls := cX, slots := kX.instanceTypes.map defaultValue, vm := .none } = T1 at X₁ st1
  have hcat : (Value.ref T.heap.size).category = 1 := rfl
  have hcellA : T1.heap[T.heap.size]? = some (freshCell cX kX) := by rw [← hT1]; exact State.heap_pushCell_size _ _
  have d3' : decode c.code (pc + 3) = .ok (.dup, 1) := by rw [hb]; exact d3
  obtain ⟨U, hsteps, hrun, hend, hW, hsame, ce, hce, hO⟩ := X₁.ctorThrow0 hexec htr (own := own) (cls := cls) (names := names) (ic := ic) hown' hcls hnames h (fun x hx => nomatch hx) hfX hkX hcellA (by rw [hhp, hT]; exact Nat.le_refl _)
    (g := { method := m, pc := pc + 4, locals := ls, stack := .ref T.heap.size :: .ref T.heap.size :: rest, locked := none }) rfl hsize rfl rfl (rest := rest) rfl
    (by rw [hb]; exact d4) (by rw [hb]; exact d7) hout hRframes (by simp only [List.map_cons, List.sum_cons, hcat]; omega) hlocks
  obtain ⟨f1, f2⟩ := vx_frame hsame
  rw [hhp] at f1 f2
  have hWs : s.WarmedH U.vm := State.WarmedH.trans hW0 hW
  have hcl : s.vm.findClass cls = some ce.cls := by
    have h9 := hO.cls
    rw [hvm] at h9
    exact h9
  have hall : s.sameButNew ({ U with vm := s.vm } : State) locs mc ms := by
    subst hA
    obtain ⟨e1, e2⟩ := hsame
    rw [State.setFrames_setFrames] at e1
    have h2 : (T.setVm s.vm).sameButNew ({ U with vm := s.vm } : State) [] (0 + 1) (0 + 6) := ⟨e1, e2⟩
    have h3 := X.same.trans h2
    rw [List.append_nil] at h3
    exact h3.mono hc hs
  refine ⟨U, ?_, .threw T.heap.size, hrun, hend, Or.inr ⟨T.heap.size, rfl, cls, ce, locs, hx U hWs.alike f1 (fun q hq => f2 q hq (fun z hz => nomatch hz)), hce, hO.vm, hcl, hWs, hall, hf⟩⟩
  refine st1 _ ?_
  show Steps p.tables e below (T1.setTop { method := m, pc := pc + 3, locals := ls, stack := .ref T.heap.size :: rest, locked := none }) _
  jvm_step X₁.here [X₁.here.top, hexec, d3', Value.category]
  exact hsteps
/-- 'throw new E("text")': new; dup; ldc; invokespecial; athrow -/
theorem vx_throwS {cc : ByteArray} {pc : Nat} (hexec : p.tables.exec = Jvm.exec) (hb : c.code = cc) (hl : l.stackTraces = false) {own cls text : String} {names : List String} {ik is ic mc ms sa : Nat} {A : Nat → Prop}
    (hown : s.vm.findClass own = some m.cls) (hcls : Bundle.fit cls = true) (hnames : ∀ n ∈ names, Bundle.fit n = true)
    (hk : (Cond.classLink own ik cls).before args s = true) (hini : (Cond.initialized cls).before args s = true) (hstr : vk_R own is text sa s) (hat : ∀ w ∈ vx_atS own ic cls names, w.before args s = true)
    (hgood : ∀ w ∈ Cond.classLink own ik cls :: Cond.initialized cls :: vx_atS own ic cls names, vx_ot w = true)
    (hU : vx_Zq Bundle.tN "UNASSIGNED_STACK" Bundle.steD A s s.heap) (hN : vx_Zq Bundle.tN "SUPPRESSED_SENTINEL" Bundle.listD A s s.heap) (hS : va_S A s.heap H locs) (hsize : ls.size = c.maxLocals)
    (d0 : decode cc pc = .ok (.new ik, 3)) (d3 : decode cc (pc + 3) = .ok (.dup, 1)) (d4 : decode cc (pc + 4) = .ok (.ldc is, 2)) (d6 : decode cc (pc + 6) = .ok (.invokespecial ic, 3)) (d9 : decode cc (pc + 9) = .ok (.athrow, 1))
    (hout : ∀ x ∈ c.exceptionTable.toList, covers x (pc + 9) = false)
    (hRframes : names.length + 3 < R.frames) (hRlocals : (rest.map fun v => v.category).sum + (13 * (names.length + 1) + 43) ≤ R.locals) (hRcells : cells + 1 ≤ R.cells) (hRslots : slots + 6 ≤ R.slots) (hlocks : meth.locks = false)
    (hx : ∀ t : State, s.vm.Alike t.vm → H.size ≤ t.heap.size → (∀ q : Nat, q < H.size → t.heap[q]? = H[q]?) → XC cls s t)
    (hf : ∀ z ∈ locs, free z.base) (hc : cells + 1 ≤ mc) (hs : slots + 6 ≤ ms) :
    W p l e R s m args below meth c H locs cells slots (vx_MQ below Qc XC args s mc ms free) (F0 m pc ls rest) := by
  intro T hT X
  have htr : e.platform.stackTraces = false := (show e.platform.stackTraces = l.stackTraces by rw [X.admits.platform]).trans hl
  have Y := vx_rebase X (R' := { frames := R.frames, locals := R.locals, cells := 1, slots := 6 }) (Nat.le_refl _) (Nat.le_refl _) hRcells hRslots
  obtain ⟨s', hA⟩ : ∃ z, z = (T.setVm s.vm).setFrames (.invoking m args :: below) := ⟨_, rfl⟩
  rw [← hA] at Y
  have hvm : s'.vm = s.vm := by rw [hA]; rfl
  have hhp : s'.heap = H := by rw [hA]; exact hT
  have hW0 : s.WarmedH s'.vm := by rw [hvm]; exact State.WarmedH.refl s
  have hat' : ∀ w ∈ vx_atS own ic cls names, w.before args s' = true := fun w hw => vx_ot_at hW0 hvm.symm (hgood w (List.mem_cons_of_mem _ (List.mem_cons_of_mem _ hw))) (hat w hw)
  have hk' : (Cond.classLink own ik cls).before args s' = true := vx_ot_at hW0 hvm.symm (hgood _ List.mem_cons_self) hk
  have hini' : (Cond.initialized cls).before args s' = true := vx_ot_at hW0 hvm.symm (hgood _ (List.mem_cons_of_mem _ List.mem_cons_self)) hini
  have hU' : vx_Zq Bundle.tN "UNASSIGNED_STACK" Bundle.steD A s' s'.heap := by rw [hhp]; exact vx_Zq.moved hW0.alike (hU.kept hS.2.1)
  have hN' : vx_Zq Bundle.tN "SUPPRESSED_SENTINEL" Bundle.listD A s' s'.heap := by rw [hhp]; exact vx_Zq.moved hW0.alike (hN.kept hS.2.1)
  have h : ∀ w ∈ Bundle.ownAtoms own ic cls names, w.before args s' = true := vx_own hat' (vx_isRefq hU'.1) (vx_isRefq hN'.1) hU'.2.word hN'.2.word
  have hown' : s'.vm.findClass own = some m.cls := by rw [hvm]; exact hown
  have hins : (Cond.instantiable cls 6).before args s' = true := h _ (by simp [Bundle.ownAtoms])
  obtain ⟨vm₁, cX, kX, hfX, hkX, -, -, X₁, st1⟩ := Y.newCold hexec (own := own) (C := cls) (index := ik) (n := 6) hown' hk' hins hini'
    (g := F0 m pc ls rest) rfl (by rw [hb]; exact d0) (Nat.le_refl _) (Nat.le_refl _)
  generalize hT1 : (T.setVm vm₁).pushCell { cls := cX, slots := kX.instanceTypes.map defaultValue, vm := .none } = T1 at X₁ st1
  have hcat : (Value.ref T.heap.size).category = 1 := rfl
  have hcellA : T1.heap[T.heap.size]? = some (freshCell cX kX) := by rw [← hT1]; exact State.heap_pushCell_size _ _
  have d3' : decode c.code (pc + 3) = .ok (.dup, 1) := by rw [hb]; exact d3
  have d4' : decode c.code (pc + 4) = .ok (.ldc is, 2) := by rw [hb]; exact d4
  have hstr' : vk_R own is text sa s' := vk_R.warm hW0 hstr
  obtain ⟨U, hsteps, hrun, hend, hW, hsame, ce, hce, hO⟩ := X₁.ctorThrowS hexec htr (own := own) (cls := cls) (names := names) (ic := ic) hown' hcls hnames h (fun x hx => nomatch hx) hfX hkX hcellA (by rw [hhp, hT]; exact Nat.le_refl _) (msg := .ref sa) rfl
    (g := { method := m, pc := pc + 6, locals := ls, stack := .ref sa :: .ref T.heap.size :: .ref T.heap.size :: rest, locked := none }) rfl hsize rfl rfl (rest := rest) rfl
    (by rw [hb]; exact d6) (by rw [hb]; exact d9) hout hRframes (by simp only [List.map_cons, List.sum_cons, hcat]; omega) hlocks
  obtain ⟨f1, f2⟩ := vx_frame hsame
  rw [hhp] at f1 f2
  have hWs : s.WarmedH U.vm := State.WarmedH.trans hW0 hW
  have hcl : s.vm.findClass cls = some ce.cls := by
    have h9 := hO.cls
    rw [hvm] at h9
    exact h9
  have hall : s.sameButNew ({ U with vm := s.vm } : State) locs mc ms := by
    subst hA
    obtain ⟨e1, e2⟩ := hsame
    rw [State.setFrames_setFrames] at e1
    have h2 : (T.setVm s.vm).sameButNew ({ U with vm := s.vm } : State) [] (0 + 1) (0 + 6) := ⟨e1, e2⟩
    have h3 := X.same.trans h2
    rw [List.append_nil] at h3
    exact h3.mono hc hs
  refine ⟨U, ?_, .threw T.heap.size, hrun, hend, Or.inr ⟨T.heap.size, rfl, cls, ce, locs, hx U hWs.alike f1 (fun q hq => f2 q hq (fun z hz => nomatch hz)), hce, hO.vm, hcl, hWs, hall, hf⟩⟩
  refine st1 _ ?_
  show Steps p.tables e below (T1.setTop { method := m, pc := pc + 3, locals := ls, stack := .ref T.heap.size :: rest, locked := none }) _
  jvm_step X₁.here [X₁.here.top, hexec, d3', Value.category]
  exact X₁.ldcString hexec (own := own) (text := text) (index := is) (a := sa) hown' hstr'.1 hstr'.2
    (g := { method := m, pc := pc + 4, locals := ls, stack := .ref T.heap.size :: .ref T.heap.size :: rest, locked := none }) rfl d4' _ hsteps
/-- 'throw new E("text")', the text by a wide index -/
theorem vx_throwSW {cc : ByteArray} {pc : Nat} (hexec : p.tables.exec = Jvm.exec) (hb : c.code = cc) (hl : l.stackTraces = false) {own cls text : String} {names : List String} {ik is ic mc ms sa : Nat} {A : Nat → Prop}
    (hown : s.vm.findClass own = some m.cls) (hcls : Bundle.fit cls = true) (hnames : ∀ n ∈ names, Bundle.fit n = true)
    (hk : (Cond.classLink own ik cls).before args s = true) (hini : (Cond.initialized cls).before args s = true) (hstr : vk_R own is text sa s) (hat : ∀ w ∈ vx_atS own ic cls names, w.before args s = true)
    (hgood : ∀ w ∈ Cond.classLink own ik cls :: Cond.initialized cls :: vx_atS own ic cls names, vx_ot w = true)
    (hU : vx_Zq Bundle.tN "UNASSIGNED_STACK" Bundle.steD A s s.heap) (hN : vx_Zq Bundle.tN "SUPPRESSED_SENTINEL" Bundle.listD A s s.heap) (hS : va_S A s.heap H locs) (hsize : ls.size = c.maxLocals)
    (d0 : decode cc pc = .ok (.new ik, 3)) (d3 : decode cc (pc + 3) = .ok (.dup, 1)) (d4 : decode cc (pc + 4) = .ok (.ldc_w is, 3)) (d7 : decode cc (pc + 7) = .ok (.invokespecial ic, 3)) (d10 : decode cc (pc + 10) = .ok (.athrow, 1))
    (hout : ∀ x ∈ c.exceptionTable.toList, covers x (pc + 10) = false)
    (hRframes : names.length + 3 < R.frames) (hRlocals : (rest.map fun v => v.category).sum + (13 * (names.length + 1) + 43) ≤ R.locals) (hRcells : cells + 1 ≤ R.cells) (hRslots : slots + 6 ≤ R.slots) (hlocks : meth.locks = false)
    (hx : ∀ t : State, s.vm.Alike t.vm → H.size ≤ t.heap.size → (∀ q : Nat, q < H.size → t.heap[q]? = H[q]?) → XC cls s t)
    (hf : ∀ z ∈ locs, free z.base) (hc : cells + 1 ≤ mc) (hs : slots + 6 ≤ ms) :
    W p l e R s m args below meth c H locs cells slots (vx_MQ below Qc XC args s mc ms free) (F0 m pc ls rest) := by
  intro T hT X
  have htr : e.platform.stackTraces = false := (show e.platform.stackTraces = l.stackTraces by rw [X.admits.platform]).trans hl
  have Y := vx_rebase X (R' := { frames := R.frames, locals := R.locals, cells := 1, slots := 6 }) (Nat.le_refl _) (Nat.le_refl _) hRcells hRslots
  obtain ⟨s', hA⟩ : ∃ z, z = (T.setVm s.vm).setFrames (.invoking m args :: below) := ⟨_, rfl⟩
  rw [← hA] at Y
  have hvm : s'.vm = s.vm := by rw [hA]; rfl
  have hhp : s'.heap = H := by rw [hA]; exact hT
  have hW0 : s.WarmedH s'.vm := by rw [hvm]; exact State.WarmedH.refl s
  have hat' : ∀ w ∈ vx_atS own ic cls names, w.before args s' = true := fun w hw => vx_ot_at hW0 hvm.symm (hgood w (List.mem_cons_of_mem _ (List.mem_cons_of_mem _ hw))) (hat w hw)
  have hk' : (Cond.classLink own ik cls).before args s' = true := vx_ot_at hW0 hvm.symm (hgood _ List.mem_cons_self) hk
  have hini' : (Cond.initialized cls).before args s' = true := vx_ot_at hW0 hvm.symm (hgood _ (List.mem_cons_of_mem _ List.mem_cons_self)) hini
  have hU' : vx_Zq Bundle.tN "UNASSIGNED_STACK" Bundle.steD A s' s'.heap := by rw [hhp]; exact vx_Zq.moved hW0.alike (hU.kept hS.2.1)
  have hN' : vx_Zq Bundle.tN "SUPPRESSED_SENTINEL" Bundle.listD A s' s'.heap := by rw [hhp]; exact vx_Zq.moved hW0.alike (hN.kept hS.2.1)
  have h : ∀ w ∈ Bundle.ownAtoms own ic cls names, w.before args s' = true := vx_own hat' (vx_isRefq hU'.1) (vx_isRefq hN'.1) hU'.2.word hN'.2.word
  have hown' : s'.vm.findClass own = some m.cls := by rw [hvm]; exact hown
  have hins : (Cond.instantiable cls 6).before args s' = true := h _ (by simp [Bundle.ownAtoms])
  obtain ⟨vm₁, cX, kX, hfX, hkX, -, -, X₁, st1⟩ := Y.newCold hexec (own := own) (C := cls) (index := ik) (n := 6) hown' hk' hins hini'
    (g := F0 m pc ls rest) rfl (by rw [hb]; exact d0) (Nat.le_refl _) (Nat.le_refl _)
  generalize hT1 : (T.setVm vm₁).pushCell { cls := cX, slots := kX.instanceTypes.map defaultValue, vm := .none } = T1 at X₁ st1
  have hcat : (Value.ref T.heap.size).category = 1 := rfl
  have hcellA : T1.heap[T.heap.size]? = some (freshCell cX kX) := by rw [← hT1]; exact State.heap_pushCell_size _ _
  have d3' : decode c.code (pc + 3) = .ok (.dup, 1) := by rw [hb]; exact d3
  have d4' : decode c.code (pc + 4) = .ok (.ldc_w is, 3) := by rw [hb]; exact d4
  have hstr' : vk_R own is text sa s' := vk_R.warm hW0 hstr
  obtain ⟨U, hsteps, hrun, hend, hW, hsame, ce, hce, hO⟩ := X₁.ctorThrowS hexec htr (own := own) (cls := cls) (names := names) (ic := ic) hown' hcls hnames h (fun x hx => nomatch hx) hfX hkX hcellA (by rw [hhp, hT]; exact Nat.le_refl _) (msg := .ref sa) rfl
    (g := { method := m, pc := pc + 7, locals := ls, stack := .ref sa :: .ref T.heap.size :: .ref T.heap.size :: rest, locked := none }) rfl hsize rfl rfl (rest := rest) rfl
    (by rw [hb]; exact d7) (by rw [hb]; exact d10) hout hRframes (by simp only [List.map_cons, List.sum_cons, hcat]; omega) hlocks
  obtain ⟨f1, f2⟩ := vx_frame hsame
  rw [hhp] at f1 f2
  have hWs : s.WarmedH U.vm := State.WarmedH.trans hW0 hW
  have hcl : s.vm.findClass cls = some ce.cls := by
    have h9 := hO.cls
    rw [hvm] at h9
    exact h9
  have hall : s.sameButNew ({ U with vm := s.vm } : State) locs mc ms := by
    subst hA
    obtain ⟨e1, e2⟩ := hsame
    rw [State.setFrames_setFrames] at e1
    have h2 : (T.setVm s.vm).sameButNew ({ U with vm := s.vm } : State) [] (0 + 1) (0 + 6) := ⟨e1, e2⟩
    have h3 := X.same.trans h2
    rw [List.append_nil] at h3
    exact h3.mono hc hs
  refine ⟨U, ?_, .threw T.heap.size, hrun, hend, Or.inr ⟨T.heap.size, rfl, cls, ce, locs, hx U hWs.alike f1 (fun q hq => f2 q hq (fun z hz => nomatch hz)), hce, hO.vm, hcl, hWs, hall, hf⟩⟩
  refine st1 _ ?_
  show Steps p.tables e below (T1.setTop { method := m, pc := pc + 3, locals := ls, stack := .ref T.heap.size :: rest, locked := none }) _
  jvm_step X₁.here [X₁.here.top, hexec, d3', Value.category]
  exact X₁.ldcStringW hexec (own := own) (text := text) (index := is) (a := sa) hown' hstr'.1 hstr'.2
    (g := { method := m, pc := pc + 4, locals := ls, stack := .ref T.heap.size :: .ref T.heap.size :: rest, locked := none }) rfl d4' _ hsteps
end Ends
section Bodies
variable {l : Launch}
theorem vx_ofW {y : MethodName} {ws ws' : List Cond} {rm : Room} {Pc : Array Value → State → Prop} {Qc : Array Value → State → Outcome → State → Prop} {XC : String → State → State → Prop} {mc ms : Nat} {free : Addr → Prop} {cc : ByteArray} {maxL : Nat} {ret : Option FieldType}
    (hy : plainName y.cls = true) (hw : ws = Cond.code y cc maxL ret :: ws')
    (body : ∀ p e s m args below meth c s₁, BodyLoose p l y (headSpec ws rm) cc maxL ret e s m args below meth c s₁ → c.maxLocals = maxL → (∀ x ∈ c.exceptionTable.toList, False) → Pc args s →
      W p l e (headSpec ws rm).room s m args below meth c s.heap [] 0 0 (vx_MQ below Qc XC args s mc ms free) (entryFrame m args maxL)) : vx_Met l y ws rm Pc Qc XC mc ms free := by
  refine MetFree.of_bodyS (code := cc) (maxLocals := maxL) (ret := ret) hy ?_ ?_
  · intro args s m h hn
    obtain ⟨meth, c, h1, h2, h3, h4, h5, h6, -, -⟩ := Cond.code_spec hn (atoms_spec (ws := ws) h _ (by rw [hw]; exact List.mem_cons_self))
    exact ⟨meth, c, h1, h2, h3, h4, h5, h6⟩
  · intro p e s m args below meth c s₁ B hml hP _
    have hh0 : s₁.heap = s.heap := by rw [B.state]; rfl
    have ht : ∀ x ∈ c.exceptionTable.toList, False := by
      obtain ⟨meth9, c9, h1, h2, -, -, -, -, h7, -⟩ := Cond.code_spec B.named (atoms_spec (ws := ws) B.pre _ (by rw [hw]; exact List.mem_cons_self))
      cases Option.some.inj (h1.symm.trans B.method)
      cases Option.some.inj (h2.symm.trans (Stand.of_body B).code)
      intro x hx
      rw [Array.isEmpty_iff.mp h7] at hx
      cases hx
    obtain ⟨t, a1, o, b1, b2, b3⟩ := body p e s m args below meth c s₁ B hml ht hP s₁ hh0 (Stand.of_body B)
    exact ⟨t, o, a1, b1, b2, b3⟩
/-- the table of a body with handlers -/
theorem vx_table {p : Program} {x y : MethodName} {S : Spec} {cc bytes : ByteArray} {maxL maxL' : Nat} {ret ret' : Option FieldType} {e : Env} {s s₁ : State} {m : MethodId} {args : Array Value} {below : List Frame} {meth : Method} {c : Code} {hh : List (Nat × Nat × Nat × Nat)}
    (B : BodyLoose p l y S cc maxL ret e s m args below meth c s₁) (h : (Cond.codeWith y bytes maxL' ret' hh).before args s = true) : c.exceptionTable.toList = tableOf hh := by
  obtain ⟨m9, meth9, c9, hn9, h1, h2, -, -, h6, -⟩ := Cond.codeWith_spec h
  cases Option.some.inj (hn9.symm.trans B.named)
  cases Option.some.inj (h1.symm.trans B.method)
  cases Option.some.inj (h2.symm.trans (Stand.of_body B).code)
  rw [← h6, table_eq]
end Bodies
end VXA
/-! ===== END ===== -/
/-! ===== BEGIN a static call of a method with an exception table ===== -/
section VXS
variable {p : Program} {l : Launch} {e : Env} {R : Room} {s : State} {m : MethodId} {args : Array Value} {below : List Frame} {meth : Method} {c : Code} {T : State} {H : Heap} {locs : List Loc} {cells slots : Nat}
abbrev vx_CSW (R : Room) (s : State) (args : Array Value) (own : String) (index : Nat) (y : MethodName) (bytes : ByteArray) (maxL : Nat) (ret : Option FieldType) (hh : List (Nat × Nat × Nat × Nat)) (ws : List Cond) (rm : Room) (mc ms n : Nat) : Prop :=
  (rm.cells = mc ∧ rm.slots = ms ∧ rm.frames + 1 ≤ R.frames ∧ 8 + (maxL + 11) + rm.locals ≤ R.locals ∧ (∀ w ∈ ws, ∀ (a' : Array Value) (U : State), s.WarmedH U.vm → w.before a' U = true) ∧ Cond.codeWith y bytes maxL ret hh ∈ ws) ∧
  (Cond.codeWith y bytes maxL ret hh).before args s = true ∧ (Cond.initialized y.cls).before args s = true ∧ (y.cls ≠ "java/lang/invoke/MethodHandle" ∧ y.cls ≠ "java/lang/invoke/VarHandle") ∧
  (∀ sig, parseMethodDescriptor y.desc = some sig → n = sig.parameters.length) ∧ (Cond.methodLink own index y).before args s = true ∧ (Cond.static y).before args s = true
theorem vx_cwSW {own : String} {index maxL mc ms : Nat} {y : MethodName} {bytes : ByteArray} {ret : Option FieldType} {hh : List (Nat × Nat × Nat × Nat)} {Ts ws ws' : List Cond} {rm : Room} (n : Nat) (ht : ∀ w ∈ Ts, w.before args s = true) (hT : GoodIn Ts (va_wsS own index y ws)) (hw : ws = Cond.codeWith y bytes maxL ret hh :: ws') (hrc : rm.cells = mc) (hrs : rm.slots = ms)
    (hd : y.cls ≠ "java/lang/invoke/MethodHandle" ∧ y.cls ≠ "java/lang/invoke/VarHandle" ∧ (parseMethodDescriptor y.desc).map (fun d => d.parameters.length) = some n) (hR : rm.frames + 1 ≤ R.frames ∧ 8 + (maxL + 11) + rm.locals ≤ R.locals) :
    vx_CSW R s args own index y bytes maxL ret hh ws rm mc ms n := by
  have ok : ∀ w ∈ va_wsS own index y ws, w.before args s = true := fun w h => ht w (hT w h).1
  have hG : GoodIn Ts ws := fun w h => hT w (by unfold va_wsS; exact List.mem_append_right _ h)
  have hc : Cond.codeWith y bytes maxL ret hh ∈ ws := by rw [hw]; exact List.mem_cons_self
  refine ⟨⟨hrc, hrs, hR.1, hR.2, pay_in ht hG, hc⟩, ht _ (hG _ hc).1, ok _ (by simp [va_wsS]), ⟨hd.1, hd.2.1⟩, fun sig h => ?_, ok _ (by simp [va_wsS]), ok _ (by simp [va_wsS])⟩
  have h2 := hd.2.2
  rw [h] at h2
  exact (Option.some.inj h2).symm
theorem vx_callSW (X : Stand p l e R s m args below meth c T locs cells slots) (hexec : p.tables.exec = Jvm.exec) {own : String} {index : Nat} {y : MethodName} {bytes : ByteArray} {maxL : Nat} {ret : Option FieldType} {hh : List (Nat × Nat × Nat × Nat)}
    (hown : s.vm.findClass own = some m.cls) (hlink : (Cond.methodLink own index y).before args s = true) (hstat : (Cond.static y).before args s = true) (hinit : (Cond.initialized y.cls).before args s = true)
    (hcode : (Cond.codeWith y bytes maxL ret hh).before args s = true) (hy : y.cls ≠ "java/lang/invoke/MethodHandle" ∧ y.cls ≠ "java/lang/invoke/VarHandle")
    {W9 : Nat} {Pre : Pt → Array Value → Prop} {Post : Pt → Array Value → Option Value → Pt → Prop} (hK : Back l R p e below s args y 3 W9 Pre Post)
    {g : JFrame} (hg : g.method = m) (hsize : g.locals.size = c.maxLocals) {argsL rest : List Value} (hlen : ∀ sig, parseMethodDescriptor y.desc = some sig → argsL.length = sig.parameters.length)
    (hstack : g.stack = argsL.reverse ++ rest) (hW : 2 * g.monitorRoom + (rest.map fun v => v.category).sum ≤ W9) (hdg : decode c.code g.pc = .ok (.invokestatic index, 3))
    (hpre : ∀ vm₁, s.WarmedH vm₁ → Pre ⟨T.setVm vm₁, locs, cells, slots⟩ argsL.toArray) :
    ∃ (v : Option Value) (vm₁ : Vm) (B : Pt), s.WarmedH vm₁ ∧ Stand p l e R s m args below meth c B.U B.locs B.cells B.slots ∧ Post ⟨T.setVm vm₁, locs, cells, slots⟩ argsL.toArray v B ∧
      ∀ target, Steps p.tables e below (B.U.setTop { g with pc := g.pc + 3, stack := v.toList ++ rest }) target → Steps p.tables e below (T.setTop g) target := by
  obtain ⟨mk, methM, cM, hnamed, hmethM, -, -, -, -, -, -, hsigM⟩ := Cond.codeWith_spec hcode
  have hstatic : methM.isStatic = true := Cond.static_spec hnamed hmethM hstat
  obtain ⟨kP, hkP, -⟩ := className_of_methodNamed hnamed
  have hinitP : kP.init = .initialized := Cond.initialized_spec (findClass_of_methodNamed hnamed) hkP hinit
  obtain ⟨vm₁, X₁, hstep₁⟩ := X.invokestatic hexec hown hlink hnamed hmethM hstatic hkP hinitP hy (g := g) hg (argsL := argsL) (rest := rest) (hlen _ hsigM) hstack hdg
  obtain ⟨v, B, X', hpost, hsteps⟩ := hK m meth c ⟨T.setVm vm₁, locs, cells, slots⟩ { g with stack := rest } (.invokestatic index) mk argsL.toArray X₁ hg hsize hdg hW (X₁.named hnamed) (hpre vm₁ X₁.warmed)
  exact ⟨v, vm₁, B, X₁.warmed, X', hpost, fun target h => hstep₁ _ fun acts => by rw [doInvoke_state]; exact hsteps.trans h⟩
theorem vx_runSW {y : MethodName} {bytes cc : ByteArray} {maxL nL mc ms n index : Nat} {ret : Option FieldType} {hh : List (Nat × Nat × Nat × Nat)} {ws : List Cond} {rm : Room} {Pc : Array Value → State → Prop} {Qc : Array Value → State → Outcome → State → Prop} {free : Addr → Prop} {Ts : List Cond} {own : String} {As rest : List Value} {g : JFrame}
    (S : CallFix p m c cc nL s args Ts own) (hM : Met l y ws rm Pc Qc mc ms free) (cw : vx_CSW R s args own index y bytes maxL ret hh ws rm mc ms n) (hp : PreS s H Pc As)
    (hg : g.method = m) (hn : As.length = n) (hsize : g.locals.size = nL) (hstack : g.stack = As.reverse ++ rest) (hW : 2 * g.monitorRoom + (rest.map fun v => v.category).sum ≤ 8) (hdg : decode cc g.pc = .ok (.invokestatic index, 3)) (hf : cells + mc ≤ R.cells ∧ slots + ms ≤ R.slots) :
    va_Run p l e R s m args below meth c H locs cells slots mc ms g rest (Qc As.toArray) (free) := by
  obtain ⟨⟨hrc, hrs, hfr, hlo, hws, hcw⟩, hcode, hini, hy, hlen, hl, hstt⟩ := cw
  have hK : Back l R p e below s args y 3 8 (PreOf R mc ms Pc) (PostOf Qc mc ms free) := va_backW (hh := hh) (bytes := bytes) (maxL := maxL) (ret := ret) hM hp.1 hrc hrs hfr hlo hws hcw (fun a' U hW => word_at hW (Or.inl (by first | rfl | simp [Cond.onTables, Cond.keeps, Cond.steady])) hini)
  obtain ⟨hx, hb, hml, ho, -⟩ := S
  intro T hT X
  obtain ⟨v, vm₁, ⟨U', l2, c2, s2⟩, hW₁, X', ⟨g', mk, t, L, e1, e2, hq, h1, hL, h2, h3⟩, st⟩ := vx_callSW X hx (hh := hh) (bytes := bytes) (maxL := maxL) (ret := ret) ho hl hstt hini hcode hy hK hg (hsize.trans hml.symm) (argsL := As) (rest := rest) (fun sig h => hn.trans (hlen sig h)) hstack hW (by rw [hb]; exact hdg)
    (fun vm₁ hW₁ => ⟨hf.1, hf.2, hp.2 (T.setVm vm₁) hT hW₁⟩)
  dsimp only [Pt.U, Pt.locs, Pt.cells, Pt.slots] at X' e1 e2 h1 h2 h3 st
  subst h1; subst h2; subst h3
  exact ⟨v, (T.setVm vm₁).calling g' mk As.toArray, t, U', L, hT, X', hL, e1, e2, hq, st⟩
/-- a thing of a world lies in the heap -/
theorem vx_lt {D : va_G} {cl : List vw_C} {ws : va_W} {H1 : Heap} (h : va_P D cl ws H1) {k : Nat} {q : Nat × va_E} (hk : ws[k]? = some q) : q.1 < H1.size := (h k q hk).lt
end VXS
/-! ===== END ===== -/
/-! ===== BEGIN methods with a table of their own: called by a name, returning or throwing ===== -/
section VXH
/-! vx_backW, vx_callVX, vx_callSX, vx_callVW, vx_runVW, vx_runVX, vx_runSX, vx_ofWH follow the same proofs as their sisters above (Free/Laws.lean, Shelf42/LK1.lean); vx_outP calls Shelf42/NT130.lean (outThrough). -/
section
variable {l : Launch} {R : Room} {p : Program} {e : Env} {below : List Frame} {s : State} {sargs : Array Value} {y : MethodName} {len W9 : Nat}
theorem vx_backW {ws : List Cond} {rm : Room} {Pc : Array Value → State → Prop} {Qc : Array Value → State → Outcome → State → Prop} {XC : String → State → State → Prop} {mc ms : Nat} {free : Addr → Prop} {bytes : ByteArray} {maxL : Nat} {ret : Option FieldType} {hh : List (Nat × Nat × Nat × Nat)}
    (hM : vx_Met l y ws rm Pc Qc XC mc ms free) (hblind : FrameBlind Pc) (hrc : rm.cells = mc) (hrs : rm.slots = ms)
    (hframes : rm.frames + 1 ≤ R.frames) (hlocals : W9 + (maxL + 11) + rm.locals ≤ R.locals)
    (hws : ∀ w ∈ ws, ∀ a' U, s.WarmedH U.vm → w.before a' U = true) (hcode : Cond.codeWith y bytes maxL ret hh ∈ ws) (hinit : ∀ a' U, s.WarmedH U.vm → (Cond.initialized y.cls).before a' U = true) :
    vx_Back l R p e below s sargs y len W9 (PreOf R mc ms Pc) (PostOf Qc mc ms free) (vx_Post XC mc ms free) := by
  intro m meth c A g ig mk a X hg hsize hdg hW hn hp
  have h1 : (headSpec ws rm).pre.before a A.U = true := atoms_intro fun w hw => hws w hw _ _ X.warmed
  have h2 : (Cond.codeWith y bytes maxL ret hh).before a A.U = true := hws _ hcode _ _ X.warmed
  have h3 : (Cond.initialized y.cls).before a A.U = true := hinit _ _ X.warmed
  have h4 : A.cells + (headSpec ws rm).room.cells ≤ R.cells := by rw [show (headSpec ws rm).room.cells = mc from hrc]; exact hp.1
  have h5 : A.slots + (headSpec ws rm).room.slots ≤ R.slots := by rw [show (headSpec ws rm).room.slots = ms from hrs]; exact hp.2.1
  have hPc : Pc a (A.U.calling g mk a) := hblind _ _ _ _ hp.2.2
  obtain ⟨U, Ls, c0, s0⟩ := A
  dsimp only [Pt.U, Pt.locs, Pt.cells, Pt.slots] at h1 h2 h3 h4 h5 X hn hPc ⊢
  obtain ⟨m9, methY, cY, hn9, hmY, hcY, -, hlY, -⟩ := Cond.codeWith_spec h2
  cases Option.some.inj (hn9.symm.trans hn)
  obtain ⟨kY, hkY, -⟩ := className_of_methodNamed hn
  have hinitY : kY.init = .initialized := Cond.initialized_spec (findClass_of_methodNamed hn) hkY h3
  have h : At U g.method c below := by rw [hg]; exact X.here
  have hlocals9 : W9 + (maxL + 11) + (headSpec ws rm).room.locals ≤ R.locals := hlocals
  have happ : (headSpec ws rm).appliesLoose y e.platform (U.calling g mk a) = true :=
    Spec.appliesLoose_calling (g := g) h hdg hn hkY hinitY
      (X.room_calling (g := g) (R' := (headSpec ws rm).room) hsize hmY hcY hframes (by rw [hlY]; omega) h4 h5) h1
  obtain ⟨mid, hmid⟩ := h.above
  have hfr : (U.setTop g).frames = (.java g :: mid) ++ below := by rw [State.frames_setTop' g h.top, hmid]; rfl
  obtain ⟨o, s₂, hsteps, -, hend, hq⟩ := Steps.callFree hM p X.admits X.cas X.clock (acts := []) hfr happ hPc trivial
  have hq' : vx_Q Qc XC mc ms free a (U.calling g mk a) o s₂ := hq
  rw [State.frames_setTop' g h.top] at hend
  obtain ⟨g₀, hg0⟩ := Option.isSome_iff_exists.mp h.top
  obtain ⟨r, hr⟩ := State.topJava?_eq_some.mp hg0
  have hr' : (({ U with heap := s₂.heap, slotsUsed := s₂.slotsUsed } : State).setVm s₂.vm).frames = .java g₀ :: r := hr
  rcases hq' with ⟨hqc, L, hfe, hL⟩ | ⟨q, rfl, E, ce, L, hx, hce, hcv, hcl, hW₂, hsm, hL⟩
  · obtain ⟨⟨v, rfl⟩, hW₂, e2, q2, q3, q4, q5, q6⟩ := id hfe
    have e3 : s₂ = ({ (U.calling g mk a).setFrames s₂.frames with heap := s₂.heap, slotsUsed := s₂.slotsUsed } : State).setVm s₂.vm := by
      have : s₂ = ({ s₂ with vm := (U.calling g mk a).vm } : State).setVm s₂.vm := rfl
      rw [e2] at this
      exact this
    obtain ⟨c₂, i₂, len₂, hc₂, hd₂, hf₂⟩ := hend
    have hW' : U.WarmedH s₂.vm := hW₂
    have hcc : c₂ = c := by
      have h1 : s₂.code? g.method = U.code? g.method := by
        rw [State.code?_eq, State.code?_eq, hW'.alike.method?]
      exact Option.some.inj (hc₂.symm.trans (h1.trans h.code))
    subst hcc
    have hlen : len₂ = len := by rw [hdg] at hd₂; cases hd₂; rfl
    subst hlen
    have hs₂ : s₂ = (({ U with heap := s₂.heap, slotsUsed := s₂.slotsUsed } : State).setVm s₂.vm).setTop { g with pc := g.pc + len₂, stack := v.toList ++ g.stack } := by
      refine e3.trans ?_
      rw [hf₂, State.calling_eq h.top, State.setFrames_setFrames, State.setTop_of_frames _ hr', hr]
      rfl
    have hsame : U.sameButNew ({ U with heap := s₂.heap, slotsUsed := s₂.slotsUsed } : State) L mc ms := by
      refine ⟨?_, q2, q3, q4, q5, q6⟩
      obtain ⟨t, ht, -⟩ := State.frames_cons hr
      show ({ U with heap := s₂.heap, slotsUsed := s₂.slotsUsed } : State) = { U.setFrames U.frames with heap := s₂.heap, slotsUsed := s₂.slotsUsed }
      rw [State.setFrames_self ht]
    subst hg
    refine Or.inl ⟨v, ⟨(({ U with heap := s₂.heap, slotsUsed := s₂.slotsUsed } : State).setVm s₂.vm), Ls ++ L, c0 + mc, s0 + ms⟩,
      ⟨X.admits, X.cas, X.clock, X.frames, X.room, X.hears, X.method, X.code, (X.here.setHeapUsed s₂.heap s₂.slotsUsed).setVm hW'.alike, X.tail, State.WarmedH.trans X.warmed hW', X.limits, X.bytes, X.same.trans (hsame.setVm s.vm)⟩,
      ⟨g, mk, s₂, L, rfl, rfl, hqc, rfl, hL, rfl, rfl⟩, ?_⟩
    show Steps p.tables e below _ ((({ U with heap := s₂.heap, slotsUsed := s₂.slotsUsed } : State).setVm s₂.vm).setTop { g with pc := g.pc + len₂, stack := v.toList ++ g.stack })
    rw [← hs₂]
    exact hsteps
  · obtain ⟨e2, q2, q3, q4, q5, q6⟩ := id hsm
    have e3 : s₂ = ({ (U.calling g mk a).setFrames s₂.frames with heap := s₂.heap, slotsUsed := s₂.slotsUsed } : State).setVm s₂.vm := by
      have : s₂ = ({ s₂ with vm := (U.calling g mk a).vm } : State).setVm s₂.vm := rfl
      rw [e2] at this
      exact this
    have hf₂ : s₂.frames = .throwing q :: .java g :: U.frames.tail := hend
    have hW' : U.WarmedH s₂.vm := hW₂
    have hs₂ : s₂ = ((({ U with heap := s₂.heap, slotsUsed := s₂.slotsUsed } : State).setVm s₂.vm).setTop g).pushFrame (.throwing q) := by
      refine e3.trans ?_
      rw [hf₂, State.calling_eq h.top, State.setFrames_setFrames, State.pushFrame, State.frames_setTop _ hr', State.setTop_of_frames _ hr', State.setFrames_setFrames, hr]
      rfl
    have hsame : U.sameButNew ({ U with heap := s₂.heap, slotsUsed := s₂.slotsUsed } : State) L mc ms := by
      refine ⟨?_, q2, q3, q4, q5, q6⟩
      obtain ⟨t, ht, -⟩ := State.frames_cons hr
      show ({ U with heap := s₂.heap, slotsUsed := s₂.slotsUsed } : State) = { U.setFrames U.frames with heap := s₂.heap, slotsUsed := s₂.slotsUsed }
      rw [State.setFrames_self ht]
    subst hg
    refine Or.inr ⟨q, ⟨(({ U with heap := s₂.heap, slotsUsed := s₂.slotsUsed } : State).setVm s₂.vm), Ls ++ L, c0 + mc, s0 + ms⟩,
      ⟨X.admits, X.cas, X.clock, X.frames, X.room, X.hears, X.method, X.code, (X.here.setHeapUsed s₂.heap s₂.slotsUsed).setVm hW'.alike, X.tail, State.WarmedH.trans X.warmed hW', X.limits, X.bytes, X.same.trans (hsame.setVm s.vm)⟩,
      ⟨g, mk, s₂, L, E, ce, rfl, rfl, hx, hce, hcv, hcl, rfl, hL, rfl, rfl⟩, ?_⟩
    show Steps p.tables e below _ (((({ U with heap := s₂.heap, slotsUsed := s₂.slotsUsed } : State).setVm s₂.vm).setTop g).pushFrame (.throwing q))
    rw [← hs₂]
    exact hsteps
end
variable {p : Program} {l : Launch} {e : Env} {R : Room} {s : State} {m : MethodId} {args : Array Value} {below : List Frame} {meth : Method} {c : Code} {T : State} {H : Heap} {locs : List Loc} {cells slots : Nat}
theorem vx_callVX (X : Stand p l e R s m args below meth c T locs cells slots) (hexec : p.tables.exec = Jvm.exec) {own C : String} {index : Nat} {y : MethodName} {bytes : ByteArray} {maxL : Nat} {ret : Option FieldType} {hh : List (Nat × Nat × Nat × Nat)}
    (hown : s.vm.findClass own = some m.cls) (hlink : (Cond.methodLink own index y).before args s = true) (hinst : (Cond.instanceMethod y).before args s = true) (hsel : (Cond.selects C y y).before args s = true)
    (hcode : (Cond.codeWith y bytes maxL ret hh).before args s = true) (hy : y.cls ≠ "java/lang/invoke/MethodHandle" ∧ y.cls ≠ "java/lang/invoke/VarHandle")
    {W9 : Nat} {Pre : Pt → Array Value → Prop} {Post : Pt → Array Value → Option Value → Pt → Prop} {PostX : Pt → Array Value → Addr → Pt → Prop} (hK : vx_Back l R p e below s args y 3 W9 Pre Post PostX)
    {b : Addr} {cellB : Cell} (hcell : T.heap[b]? = some cellB) (hobj : cellB.vm.isStatics = false) (hcls : s.vm.findClass C = some cellB.cls)
    {g : JFrame} (hg : g.method = m) (hsize : g.locals.size = c.maxLocals) {argsL rest : List Value} (hlen : ∀ sig, parseMethodDescriptor y.desc = some sig → argsL.length = sig.parameters.length)
    (hstack : g.stack = argsL.reverse ++ .ref b :: rest) (hW : 2 * g.monitorRoom + (rest.map fun v => v.category).sum ≤ W9) (hdg : decode c.code g.pc = .ok (.invokevirtual index, 3))
    (hpre : ∀ vm₁, s.WarmedH vm₁ → Pre ⟨T.setVm vm₁, locs, cells, slots⟩ (Value.ref b :: argsL).toArray) :
    (∃ (v : Option Value) (vm₁ : Vm) (B : Pt), s.WarmedH vm₁ ∧ Stand p l e R s m args below meth c B.U B.locs B.cells B.slots ∧ Post ⟨T.setVm vm₁, locs, cells, slots⟩ (Value.ref b :: argsL).toArray v B ∧
      ∀ target, Steps p.tables e below (B.U.setTop { g with pc := g.pc + 3, stack := v.toList ++ rest }) target → Steps p.tables e below (T.setTop g) target) ∨
    (∃ (q : Addr) (vm₁ : Vm) (B : Pt), s.WarmedH vm₁ ∧ Stand p l e R s m args below meth c B.U B.locs B.cells B.slots ∧ PostX ⟨T.setVm vm₁, locs, cells, slots⟩ (Value.ref b :: argsL).toArray q B ∧
      Steps p.tables e below (T.setTop g) ((B.U.setTop { g with stack := rest }).pushFrame (.throwing q))) := by
  obtain ⟨mk, methM, hnamed, hmethM, hstM, habM⟩ := Cond.instanceMethod_spec hinst
  obtain ⟨m8, methM', cM, hn8, hmethM', -, -, -, -, -, -, hsigM⟩ := Cond.codeWith_spec hcode
  cases Option.some.inj (hn8.symm.trans hnamed)
  cases hmethM.symm.trans hmethM'
  obtain ⟨c2, r2, m2, q1, q2, q3, q4, kP, hkP, hkPi⟩ := Cond.selects_spec hsel
  cases hcls.symm.trans q1
  cases (State.methodFound?_of_named hnamed hy).symm.trans q2
  cases hnamed.symm.trans q3
  have hselP : selectMethod e.platform s.vm cellB.cls mk = .method mk := by rw [Launch.admits_selectMethod X.admits]; exact q4
  obtain ⟨vm₁, X₁, hstep₁⟩ := X.invokevirtual hexec hown hlink hnamed hmethM hstM hkP hkPi hy (a := b) (cell := cellB) hcell
    (fun z h => by rw [h] at hobj; cases hobj) hselP hmethM habM hkP hkPi (g := g) hg (argsL := argsL) (rest := rest) (hlen _ hsigM) hstack hdg
  rcases hK m meth c ⟨T.setVm vm₁, locs, cells, slots⟩ { g with stack := rest } (.invokevirtual index) mk (Value.ref b :: argsL).toArray X₁ hg hsize hdg hW (X₁.named hnamed) (hpre vm₁ X₁.warmed) with ⟨v, B, X', hpost, hsteps⟩ | ⟨q, B, X', hpost, hsteps⟩
  · exact Or.inl ⟨v, vm₁, B, X₁.warmed, X', hpost, fun target h => hstep₁ _ fun acts => by rw [doInvoke_state]; exact hsteps.trans h⟩
  · exact Or.inr ⟨q, vm₁, B, X₁.warmed, X', hpost, hstep₁ _ fun acts => by rw [doInvoke_state]; exact hsteps⟩
theorem vx_callSX (X : Stand p l e R s m args below meth c T locs cells slots) (hexec : p.tables.exec = Jvm.exec) {own : String} {index : Nat} {y : MethodName} {bytes : ByteArray} {maxL : Nat} {ret : Option FieldType} {hh : List (Nat × Nat × Nat × Nat)}
    (hown : s.vm.findClass own = some m.cls) (hlink : (Cond.methodLink own index y).before args s = true) (hstat : (Cond.static y).before args s = true) (hinit : (Cond.initialized y.cls).before args s = true)
    (hcode : (Cond.codeWith y bytes maxL ret hh).before args s = true) (hy : y.cls ≠ "java/lang/invoke/MethodHandle" ∧ y.cls ≠ "java/lang/invoke/VarHandle")
    {W9 : Nat} {Pre : Pt → Array Value → Prop} {Post : Pt → Array Value → Option Value → Pt → Prop} {PostX : Pt → Array Value → Addr → Pt → Prop} (hK : vx_Back l R p e below s args y 3 W9 Pre Post PostX)
    {g : JFrame} (hg : g.method = m) (hsize : g.locals.size = c.maxLocals) {argsL rest : List Value} (hlen : ∀ sig, parseMethodDescriptor y.desc = some sig → argsL.length = sig.parameters.length)
    (hstack : g.stack = argsL.reverse ++ rest) (hW : 2 * g.monitorRoom + (rest.map fun v => v.category).sum ≤ W9) (hdg : decode c.code g.pc = .ok (.invokestatic index, 3))
    (hpre : ∀ vm₁, s.WarmedH vm₁ → Pre ⟨T.setVm vm₁, locs, cells, slots⟩ argsL.toArray) :
    (∃ (v : Option Value) (vm₁ : Vm) (B : Pt), s.WarmedH vm₁ ∧ Stand p l e R s m args below meth c B.U B.locs B.cells B.slots ∧ Post ⟨T.setVm vm₁, locs, cells, slots⟩ argsL.toArray v B ∧
      ∀ target, Steps p.tables e below (B.U.setTop { g with pc := g.pc + 3, stack := v.toList ++ rest }) target → Steps p.tables e below (T.setTop g) target) ∨
    (∃ (q : Addr) (vm₁ : Vm) (B : Pt), s.WarmedH vm₁ ∧ Stand p l e R s m args below meth c B.U B.locs B.cells B.slots ∧ PostX ⟨T.setVm vm₁, locs, cells, slots⟩ argsL.toArray q B ∧
      Steps p.tables e below (T.setTop g) ((B.U.setTop { g with stack := rest }).pushFrame (.throwing q))) := by
  obtain ⟨mk, methM, cM, hnamed, hmethM, -, -, -, -, -, -, hsigM⟩ := Cond.codeWith_spec hcode
  have hstatic : methM.isStatic = true := Cond.static_spec hnamed hmethM hstat
  obtain ⟨kP, hkP, -⟩ := className_of_methodNamed hnamed
  have hinitP : kP.init = .initialized := Cond.initialized_spec (findClass_of_methodNamed hnamed) hkP hinit
  obtain ⟨vm₁, X₁, hstep₁⟩ := X.invokestatic hexec hown hlink hnamed hmethM hstatic hkP hinitP hy (g := g) hg (argsL := argsL) (rest := rest) (hlen _ hsigM) hstack hdg
  rcases hK m meth c ⟨T.setVm vm₁, locs, cells, slots⟩ { g with stack := rest } (.invokestatic index) mk argsL.toArray X₁ hg hsize hdg hW (X₁.named hnamed) (hpre vm₁ X₁.warmed) with ⟨v, B, X', hpost, hsteps⟩ | ⟨q, B, X', hpost, hsteps⟩
  · exact Or.inl ⟨v, vm₁, B, X₁.warmed, X', hpost, fun target h => hstep₁ _ fun acts => by rw [doInvoke_state]; exact hsteps.trans h⟩
  · exact Or.inr ⟨q, vm₁, B, X₁.warmed, X', hpost, hstep₁ _ fun acts => by rw [doInvoke_state]; exact hsteps⟩
theorem vx_callVW (X : Stand p l e R s m args below meth c T locs cells slots) (hexec : p.tables.exec = Jvm.exec) {own C : String} {index : Nat} {y : MethodName} {bytes : ByteArray} {maxL : Nat} {ret : Option FieldType} {hh : List (Nat × Nat × Nat × Nat)}
    (hown : s.vm.findClass own = some m.cls) (hlink : (Cond.methodLink own index y).before args s = true) (hinst : (Cond.instanceMethod y).before args s = true) (hsel : (Cond.selects C y y).before args s = true)
    (hcode : (Cond.codeWith y bytes maxL ret hh).before args s = true) (hy : y.cls ≠ "java/lang/invoke/MethodHandle" ∧ y.cls ≠ "java/lang/invoke/VarHandle")
    {W9 : Nat} {Pre : Pt → Array Value → Prop} {Post : Pt → Array Value → Option Value → Pt → Prop} (hK : Back l R p e below s args y 3 W9 Pre Post)
    {b : Addr} {cellB : Cell} (hcell : T.heap[b]? = some cellB) (hobj : cellB.vm.isStatics = false) (hcls : s.vm.findClass C = some cellB.cls)
    {g : JFrame} (hg : g.method = m) (hsize : g.locals.size = c.maxLocals) {argsL rest : List Value} (hlen : ∀ sig, parseMethodDescriptor y.desc = some sig → argsL.length = sig.parameters.length)
    (hstack : g.stack = argsL.reverse ++ .ref b :: rest) (hW : 2 * g.monitorRoom + (rest.map fun v => v.category).sum ≤ W9) (hdg : decode c.code g.pc = .ok (.invokevirtual index, 3))
    (hpre : ∀ vm₁, s.WarmedH vm₁ → Pre ⟨T.setVm vm₁, locs, cells, slots⟩ (Value.ref b :: argsL).toArray) :
    ∃ (v : Option Value) (vm₁ : Vm) (B : Pt), s.WarmedH vm₁ ∧ Stand p l e R s m args below meth c B.U B.locs B.cells B.slots ∧ Post ⟨T.setVm vm₁, locs, cells, slots⟩ (Value.ref b :: argsL).toArray v B ∧
      ∀ target, Steps p.tables e below (B.U.setTop { g with pc := g.pc + 3, stack := v.toList ++ rest }) target → Steps p.tables e below (T.setTop g) target := by
  obtain ⟨mk, methM, hnamed, hmethM, hstM, habM⟩ := Cond.instanceMethod_spec hinst
  obtain ⟨m8, methM', cM, hn8, hmethM', -, -, -, -, -, -, hsigM⟩ := Cond.codeWith_spec hcode
  cases Option.some.inj (hn8.symm.trans hnamed)
  cases hmethM.symm.trans hmethM'
  obtain ⟨c2, r2, m2, q1, q2, q3, q4, kP, hkP, hkPi⟩ := Cond.selects_spec hsel
  cases hcls.symm.trans q1
  cases (State.methodFound?_of_named hnamed hy).symm.trans q2
  cases hnamed.symm.trans q3
  have hselP : selectMethod e.platform s.vm cellB.cls mk = .method mk := by rw [Launch.admits_selectMethod X.admits]; exact q4
  obtain ⟨vm₁, X₁, hstep₁⟩ := X.invokevirtual hexec hown hlink hnamed hmethM hstM hkP hkPi hy (a := b) (cell := cellB) hcell
    (fun z h => by rw [h] at hobj; cases hobj) hselP hmethM habM hkP hkPi (g := g) hg (argsL := argsL) (rest := rest) (hlen _ hsigM) hstack hdg
  obtain ⟨v, B, X', hpost, hsteps⟩ := hK m meth c ⟨T.setVm vm₁, locs, cells, slots⟩ { g with stack := rest } (.invokevirtual index) mk (Value.ref b :: argsL).toArray X₁ hg hsize hdg hW (X₁.named hnamed) (hpre vm₁ X₁.warmed)
  exact ⟨v, vm₁, B, X₁.warmed, X', hpost, fun target h => hstep₁ _ fun acts => by rw [doInvoke_state]; exact hsteps.trans h⟩
abbrev vx_CVW (R : Room) (s : State) (args : Array Value) (own C : String) (index : Nat) (y : MethodName) (bytes : ByteArray) (maxL : Nat) (ret : Option FieldType) (hh : List (Nat × Nat × Nat × Nat)) (ws : List Cond) (rm : Room) (mc ms n : Nat) : Prop :=
  (rm.cells = mc ∧ rm.slots = ms ∧ rm.frames + 1 ≤ R.frames ∧ 8 + (maxL + 11) + rm.locals ≤ R.locals ∧ (∀ w ∈ ws, ∀ (a' : Array Value) (U : State), s.WarmedH U.vm → w.before a' U = true) ∧ Cond.codeWith y bytes maxL ret hh ∈ ws) ∧
  (Cond.codeWith y bytes maxL ret hh).before args s = true ∧ (Cond.initialized y.cls).before args s = true ∧ (y.cls ≠ "java/lang/invoke/MethodHandle" ∧ y.cls ≠ "java/lang/invoke/VarHandle") ∧
  (∀ sig, parseMethodDescriptor y.desc = some sig → n = sig.parameters.length) ∧ (Cond.methodLink own index y).before args s = true ∧ (Cond.instanceMethod y).before args s = true ∧ (Cond.selects C y y).before args s = true
theorem vx_cwVW {own C : String} {index maxL mc ms : Nat} {y : MethodName} {bytes : ByteArray} {ret : Option FieldType} {hh : List (Nat × Nat × Nat × Nat)} {Ts ws ws' : List Cond} {rm : Room} (n : Nat) (ht : ∀ w ∈ Ts, w.before args s = true) (hT : GoodIn Ts (wsV own index C y ws)) (hw : ws = Cond.codeWith y bytes maxL ret hh :: ws') (hrc : rm.cells = mc) (hrs : rm.slots = ms)
    (hd : y.cls = C ∧ y.cls ≠ "java/lang/invoke/MethodHandle" ∧ y.cls ≠ "java/lang/invoke/VarHandle" ∧ (parseMethodDescriptor y.desc).map (fun d => d.parameters.length) = some n) (hR : rm.frames + 1 ≤ R.frames ∧ 8 + (maxL + 11) + rm.locals ≤ R.locals) :
    vx_CVW R s args own C index y bytes maxL ret hh ws rm mc ms n := by
  obtain ⟨hC, hd⟩ := hd
  subst hC
  have ok : ∀ w ∈ wsV own index y.cls y ws, w.before args s = true := fun w h => ht w (hT w h).1
  have hG : GoodIn Ts ws := fun w h => hT w (by unfold wsV; exact List.mem_append_right _ h)
  have hc : Cond.codeWith y bytes maxL ret hh ∈ ws := by rw [hw]; exact List.mem_cons_self
  refine ⟨⟨hrc, hrs, hR.1, hR.2, pay_in ht hG, hc⟩, ht _ (hG _ hc).1, ok _ (by simp [wsV]), ⟨hd.1, hd.2.1⟩, fun sig h => ?_, ok _ (by simp [wsV]), ok _ (by simp [wsV]), ok _ (by simp [wsV])⟩
  have h2 := hd.2.2
  rw [h] at h2
  exact (Option.some.inj h2).symm
theorem vx_runVW {y : MethodName} {bytes cc : ByteArray} {maxL nL mc ms n index : Nat} {ret : Option FieldType} {hh : List (Nat × Nat × Nat × Nat)} {ws : List Cond} {rm : Room} {Pc : Array Value → State → Prop} {Qc : Array Value → State → Outcome → State → Prop} {free : Addr → Prop} {Ts : List Cond} {own C : String} {b : Addr} {As rest : List Value} {g : JFrame}
    (S : CallFix p m c cc nL s args Ts own) (hM : Met l y ws rm Pc Qc mc ms free) (cw : vx_CVW R s args own C index y bytes maxL ret hh ws rm mc ms n) (hp : PreV s H C b Pc As)
    (hg : g.method = m) (hn : As.length = n) (hsize : g.locals.size = nL) (hstack : g.stack = As.reverse ++ .ref b :: rest) (hW : 2 * g.monitorRoom + (rest.map fun v => v.category).sum ≤ 8) (hdg : decode cc g.pc = .ok (.invokevirtual index, 3)) (hf : cells + mc ≤ R.cells ∧ slots + ms ≤ R.slots) :
    va_Run p l e R s m args below meth c H locs cells slots mc ms g rest (Qc (Value.ref b :: As).toArray) free := by
  obtain ⟨⟨hrc, hrs, hfr, hlo, hws, hcw⟩, hcode, hini, hy, hlen, hl, hin, hse⟩ := cw
  have hK : Back l R p e below s args y 3 8 (PreOf R mc ms Pc) (PostOf Qc mc ms free) := va_backW (hh := hh) (bytes := bytes) (maxL := maxL) (ret := ret) hM hp.1 hrc hrs hfr hlo hws hcw (fun a' U hW => word_at hW (Or.inl (by first | rfl | simp [Cond.onTables, Cond.keeps, Cond.steady])) hini)
  obtain ⟨hx, hb, hml, ho, -⟩ := S
  obtain ⟨-, ⟨cellB, hcB, hoB, hclB⟩, hPc⟩ := hp
  intro T hT X
  obtain ⟨v, vm₁, ⟨U', l2, c2, s2⟩, hW₁, X', ⟨g', mk, t, L, e1, e2, hq, h1, hL, h2, h3⟩, st⟩ := vx_callVW X hx (C := C) (hh := hh) (bytes := bytes) (maxL := maxL) (ret := ret) ho hl hin hse hcode hy hK (by rw [hT]; exact hcB) hoB hclB hg (hsize.trans hml.symm) (argsL := As) (rest := rest) (fun sig h => hn.trans (hlen sig h)) hstack hW (by rw [hb]; exact hdg)
    (fun vm₁ hW₁ => ⟨hf.1, hf.2, hPc (T.setVm vm₁) hT hW₁⟩)
  dsimp only [Pt.U, Pt.locs, Pt.cells, Pt.slots] at X' e1 e2 h1 h2 h3 st
  subst h1; subst h2; subst h3
  exact ⟨v, (T.setVm vm₁).calling g' mk (Value.ref b :: As).toArray, t, U', L, hT, X', hL, e1, e2, hq, st⟩
section
variable {y : MethodName} {bytes cc : ByteArray} {maxL nL mc ms n index : Nat} {ret : Option FieldType} {ws : List Cond} {rm : Room} {Pc : Array Value → State → Prop} {Qc : Array Value → State → Outcome → State → Prop} {XC : String → State → State → Prop} {free : Addr → Prop} {Ts : List Cond} {own C : String} {b : Addr} {As rest : List Value} {g : JFrame}
theorem vx_runVX {hh : List (Nat × Nat × Nat × Nat)} (S : CallFix p m c cc nL s args Ts own) (hM : vx_Met l y ws rm Pc Qc XC mc ms free) (cw : vx_CVW R s args own C index y bytes maxL ret hh ws rm mc ms n) (hp : PreV s H C b Pc As)
    (hg : g.method = m) (hn : As.length = n) (hsize : g.locals.size = nL) (hstack : g.stack = As.reverse ++ .ref b :: rest) (hW : 2 * g.monitorRoom + (rest.map fun v => v.category).sum ≤ 8) (hdg : decode cc g.pc = .ok (.invokevirtual index, 3)) (hf : cells + mc ≤ R.cells ∧ slots + ms ≤ R.slots) :
    vx_Run p l e R s m args below meth c H locs cells slots mc ms g rest (Qc (Value.ref b :: As).toArray) XC free := by
  obtain ⟨⟨hrc, hrs, hfr, hlo, hws, hcw⟩, hcode, hini, hy, hlen, hl, hin, hse⟩ := cw
  have hK : vx_Back l R p e below s args y 3 8 (PreOf R mc ms Pc) (PostOf Qc mc ms free) (vx_Post XC mc ms free) := vx_backW (hh := hh) (bytes := bytes) (maxL := maxL) (ret := ret) hM hp.1 hrc hrs hfr hlo hws hcw (fun a' U hW => word_at hW (Or.inl (by first | rfl | simp [Cond.onTables, Cond.keeps, Cond.steady])) hini)
  obtain ⟨hx, hb, hml, ho, -⟩ := S
  obtain ⟨-, ⟨cellB, hcB, hoB, hclB⟩, hPc⟩ := hp
  intro T hT X
  rcases vx_callVX X hx (C := C) (hh := hh) (bytes := bytes) (maxL := maxL) (ret := ret) ho hl hin hse hcode hy hK (by rw [hT]; exact hcB) hoB hclB hg (hsize.trans hml.symm) (argsL := As) (rest := rest) (fun sig h => hn.trans (hlen sig h)) hstack hW (by rw [hb]; exact hdg)
    (fun vm₁ hW₁ => ⟨hf.1, hf.2, hPc (T.setVm vm₁) hT hW₁⟩) with ⟨v, vm₁, ⟨U', l2, c2, s2⟩, hW₁, X', ⟨g', mk, t, L, e1, e2, hq, h1, hL, h2, h3⟩, st⟩ | ⟨q, vm₁, ⟨U', l2, c2, s2⟩, hW₁, X', ⟨g', mk, t, L, E, ce, e1, e2, hq, hce, hcv, hcl, h1, hL, h2, h3⟩, st⟩
  · dsimp only [Pt.U, Pt.locs, Pt.cells, Pt.slots] at X' e1 e2 h1 h2 h3 st
    subst h1; subst h2; subst h3
    exact Or.inl ⟨v, (T.setVm vm₁).calling g' mk (Value.ref b :: As).toArray, t, U', L, hT, X', hL, e1, e2, hq, st⟩
  · dsimp only [Pt.U, Pt.locs, Pt.cells, Pt.slots] at X' e1 e2 h1 h2 h3 st hcl
    subst h1; subst h2; subst h3
    exact Or.inr ⟨q, (T.setVm vm₁).calling g' mk (Value.ref b :: As).toArray, t, U', L, E, ce, hT, X', hL, e1, e2, hq, hce, hcv, vx_cls hW₁ hcl, st⟩
theorem vx_runSX {hh : List (Nat × Nat × Nat × Nat)} (S : CallFix p m c cc nL s args Ts own) (hM : vx_Met l y ws rm Pc Qc XC mc ms free) (cw : vx_CSW R s args own index y bytes maxL ret hh ws rm mc ms n) (hp : PreS s H Pc As)
    (hg : g.method = m) (hn : As.length = n) (hsize : g.locals.size = nL) (hstack : g.stack = As.reverse ++ rest) (hW : 2 * g.monitorRoom + (rest.map fun v => v.category).sum ≤ 8) (hdg : decode cc g.pc = .ok (.invokestatic index, 3)) (hf : cells + mc ≤ R.cells ∧ slots + ms ≤ R.slots) :
    vx_Run p l e R s m args below meth c H locs cells slots mc ms g rest (Qc As.toArray) XC free := by
  obtain ⟨⟨hrc, hrs, hfr, hlo, hws, hcw⟩, hcode, hini, hy, hlen, hl, hstt⟩ := cw
  have hK : vx_Back l R p e below s args y 3 8 (PreOf R mc ms Pc) (PostOf Qc mc ms free) (vx_Post XC mc ms free) := vx_backW (hh := hh) (bytes := bytes) (maxL := maxL) (ret := ret) hM hp.1 hrc hrs hfr hlo hws hcw (fun a' U hW => word_at hW (Or.inl (by first | rfl | simp [Cond.onTables, Cond.keeps, Cond.steady])) hini)
  obtain ⟨hx, hb, hml, ho, -⟩ := S
  intro T hT X
  rcases vx_callSX X hx (hh := hh) (bytes := bytes) (maxL := maxL) (ret := ret) ho hl hstt hini hcode hy hK hg (hsize.trans hml.symm) (argsL := As) (rest := rest) (fun sig h => hn.trans (hlen sig h)) hstack hW (by rw [hb]; exact hdg)
    (fun vm₁ hW₁ => ⟨hf.1, hf.2, hp.2 (T.setVm vm₁) hT hW₁⟩) with ⟨v, vm₁, ⟨U', l2, c2, s2⟩, hW₁, X', ⟨g', mk, t, L, e1, e2, hq, h1, hL, h2, h3⟩, st⟩ | ⟨q, vm₁, ⟨U', l2, c2, s2⟩, hW₁, X', ⟨g', mk, t, L, E, ce, e1, e2, hq, hce, hcv, hcl, h1, hL, h2, h3⟩, st⟩
  · dsimp only [Pt.U, Pt.locs, Pt.cells, Pt.slots] at X' e1 e2 h1 h2 h3 st
    subst h1; subst h2; subst h3
    exact Or.inl ⟨v, (T.setVm vm₁).calling g' mk As.toArray, t, U', L, hT, X', hL, e1, e2, hq, st⟩
  · dsimp only [Pt.U, Pt.locs, Pt.cells, Pt.slots] at X' e1 e2 h1 h2 h3 st hcl
    subst h1; subst h2; subst h3
    exact Or.inr ⟨q, (T.setVm vm₁).calling g' mk As.toArray, t, U', L, E, ce, hT, X', hL, e1, e2, hq, hce, hcv, vx_cls hW₁ hcl, st⟩
end
end VXH
theorem vx_ofWH {l : Launch} {y : MethodName} {ws ws' : List Cond} {rm : Room} {Pc : Array Value → State → Prop} {Qc : Array Value → State → Outcome → State → Prop} {XC : String → State → State → Prop} {mc ms : Nat} {free : Addr → Prop} {cc : ByteArray} {maxL : Nat} {ret : Option FieldType} {hh : List (Nat × Nat × Nat × Nat)}
    (hy : plainName y.cls = true) (hw : ws = Cond.codeWith y cc maxL ret hh :: ws')
    (body : ∀ p e s m args below meth c s₁, BodyLoose p l y (headSpec ws rm) cc maxL ret e s m args below meth c s₁ → c.maxLocals = maxL → Pc args s →
      W p l e (headSpec ws rm).room s m args below meth c s.heap [] 0 0 (vx_MQ below Qc XC args s mc ms free) (entryFrame m args maxL)) : vx_Met l y ws rm Pc Qc XC mc ms free := by
  refine MetFree.of_bodyS (code := cc) (maxLocals := maxL) (ret := ret) hy ?_ ?_
  · intro args s m h hn
    obtain ⟨m9, meth, c, hn9, h1, h2, h3, h4, -, h5, h6, -⟩ := Cond.codeWith_spec (atoms_spec (ws := ws) h _ (by rw [hw]; exact List.mem_cons_self))
    cases hn.symm.trans hn9
    exact ⟨meth, c, h1, h2, h3, h4, h5, h6⟩
  · intro p e s m args below meth c s₁ B hml hP _
    have hh0 : s₁.heap = s.heap := by rw [B.state]; rfl
    obtain ⟨t, a1, o, b1, b2, b3⟩ := body p e s m args below meth c s₁ B hml hP s₁ hh0 (Stand.of_body B)
    exact ⟨t, o, a1, b1, b2, b3⟩
/-! ===== END ===== -/
end
section
/-! An exception over a frame whose handlers' classes may be open yet: it is caught there, or goes on to the caller. -/
section ECA
theorem ec_no {Q : Handler → Pre} {E : CtlPost} {e : Env} {d : Bool} {acts : List Action} {s : State} {f : JFrame} {a : Addr} {x : ExceptionTableEntry} {t : List ExceptionTableEntry} {c : ClassId} {cell : Cell} (hx : covers x f.pc = true) (h0 : x.catchType ≠ 0)
    (hl : s.vm.ClassLinks e.platform f.method.cls x.catchType c) (hcell : s.heap[a]? = some cell) (hobj : ∀ k, cell.vm ≠ .statics k)
    (hk : ∃ k, s.vm.classes[cell.cls]? = some k) (hc : ∃ k, s.vm.classes[c]? = some k) (hno : s.vm.assignable cell.cls c = false) :
    wp (findHandler.go f a (x :: t)) Q E e d acts s ↔ wp (findHandler.go f a t) Q E e d acts (s.setVm (s.vm.noted f.method.cls x.catchType (.cls c))) := by
  simp only [covers] at hx
  obtain ⟨ha, ht⟩ := (resolveClass_links e.toSetting hl).op (op := VmOp.resolveClass f.method.cls x.catchType) rfl
  have hal : s.vm.Alike (s.vm.noted f.method.cls x.catchType (.cls c)) := (Vm.Alike.refl s.vm).noted _ _ _
  obtain ⟨k1, hk1⟩ := hk
  obtain ⟨k2, hk2⟩ := hc
  obtain ⟨k1', hk1', -⟩ := hal.2.2 _ _ hk1
  obtain ⟨k2', hk2', -⟩ := hal.2.2 _ _ hk2
  have hno' : (s.vm.noted f.method.cls x.catchType (.cls c)).assignable cell.cls c = false := by rw [hal.assignable]; exact hno
  simp [findHandler.go, hx, h0, ha, ht, hcell, hobj, hk1', hk2', hno', VmOp.dirties, VmOp.acts]
theorem ec_yes {Q : Handler → Pre} {E : CtlPost} {e : Env} {d : Bool} {acts : List Action} {s : State} {f : JFrame} {a : Addr} {x : ExceptionTableEntry} {t : List ExceptionTableEntry} {c : ClassId} {cell : Cell} (hx : covers x f.pc = true) (h0 : x.catchType ≠ 0)
    (hl : s.vm.ClassLinks e.platform f.method.cls x.catchType c) (hcell : s.heap[a]? = some cell) (hobj : ∀ k, cell.vm ≠ .statics k)
    (hk : ∃ k, s.vm.classes[cell.cls]? = some k) (hc : ∃ k, s.vm.classes[c]? = some k) (hfit : s.vm.assignable cell.cls c = true) :
    wp (findHandler.go f a (x :: t)) Q E e d acts s ↔ Q (.found x.handlerPc) d acts (s.setVm (s.vm.noted f.method.cls x.catchType (.cls c))) := by
  simp only [covers] at hx
  obtain ⟨ha, ht⟩ := (resolveClass_links e.toSetting hl).op (op := VmOp.resolveClass f.method.cls x.catchType) rfl
  have hal : s.vm.Alike (s.vm.noted f.method.cls x.catchType (.cls c)) := (Vm.Alike.refl s.vm).noted _ _ _
  obtain ⟨k1, hk1⟩ := hk
  obtain ⟨k2, hk2⟩ := hc
  obtain ⟨k1', hk1', -⟩ := hal.2.2 _ _ hk1
  obtain ⟨k2', hk2', -⟩ := hal.2.2 _ _ hk2
  have hf' : (s.vm.noted f.method.cls x.catchType (.cls c)).assignable cell.cls c = true := by rw [hal.assignable]; exact hfit
  simp [findHandler.go, hx, h0, ha, ht, hcell, hobj, hk1', hk2', hf', VmOp.dirties, VmOp.acts]
/-- a handler that does not take it -/
def ec_P (pl : Platform) (s₀ : State) (d : ClassId) (pc : Nat) (thrown : ClassId) (y : ExceptionTableEntry) : Prop :=
  covers y pc = false ∨ (y.catchType ≠ 0 ∧ ∃ c, s₀.vm.ClassLinks pl d y.catchType c ∧ s₀.vm.assignable thrown c = false)
/-- past rows that don't take it: what is found in the rest -/
theorem ec_go {e : Env} {s₀ : State} {f : JFrame} {a : Addr} {cell : Cell} (hobj : ∀ k, cell.vm ≠ .statics k) (hk0 : ∃ k, s₀.vm.classes[cell.cls]? = some k) (rest : List ExceptionTableEntry) (h : Handler)
    (hrest : ∀ S : State, s₀.WarmedH S.vm → S.heap[a]? = some cell → ∃ vm', s₀.WarmedH vm' ∧ ∀ (Q : Handler → Pre) (E : CtlPost) (d : Bool) (acts : List Action), wp (findHandler.go f a rest) Q E e d acts S ↔ Q h d acts (S.setVm vm')) :
    ∀ (pre : List ExceptionTableEntry) (S : State), s₀.WarmedH S.vm → S.heap[a]? = some cell → (∀ y ∈ pre, ec_P e.platform s₀ f.method.cls f.pc cell.cls y) →
      ∃ vm', s₀.WarmedH vm' ∧ ∀ (Q : Handler → Pre) (E : CtlPost) (d : Bool) (acts : List Action), wp (findHandler.go f a (pre ++ rest)) Q E e d acts S ↔ Q h d acts (S.setVm vm') := by
  intro pre
  induction pre with
  | nil =>
    intro S hW hcell _
    exact hrest S hW hcell
  | cons y ys ih =>
    intro S hW hcell hpass
    have htl : ∀ z ∈ ys, ec_P e.platform s₀ f.method.cls f.pc cell.cls z := fun z hz => hpass z (List.mem_cons_of_mem _ hz)
    by_cases hcov : covers y f.pc = true
    · rcases hpass y List.mem_cons_self with q | ⟨h0, c, hl, hno⟩
      · rw [q] at hcov; cases hcov
      · obtain ⟨k0, hk0⟩ := hk0
        obtain ⟨k0', hk0', -⟩ := hW.alike.2.2 _ _ hk0
        obtain ⟨dk, _, _, kt, hd, _, _, _, _, hkt, _, hopen⟩ := hl.here
        obtain ⟨kt', hkt', -⟩ := hW.alike.2.2 _ _ hkt
        obtain ⟨vm', hW', hq⟩ := ih (S.setVm (S.vm.noted f.method.cls y.catchType (.cls c))) (hW.noted hd hopen (State.rightAt_cls hl)) hcell htl
        exact ⟨vm', hW', fun Q E d acts => by
          rw [List.cons_append, ec_no hcov h0 (hW.classLinks hl) hcell hobj ⟨k0', hk0'⟩ ⟨kt', hkt'⟩ (by rw [hW.alike.assignable]; exact hno)]
          exact hq Q E d acts⟩
    · obtain ⟨vm', hW', hq⟩ := ih S hW hcell htl
      exact ⟨vm', hW', fun Q E d acts => by
        rw [List.cons_append, W.findHandler_go_skip (by simpa using hcov)]
        exact hq Q E d acts⟩
theorem ec_vf (A : State) (F G : List Frame) (V : Vm) : ((A.setFrames F).setVm V).setFrames G = (A.setVm V).setFrames G := by
  show (A.setVm V |>.setFrames F).setFrames G = _
  rw [State.setFrames_setFrames]
/-- one step: caught -/
theorem ec_sc {e : Env} {s : State} {a : Addr} {f : JFrame} {r : List Frame} {pc : Nat} {vm' : Vm} (hfind : ∀ (Q : Handler → Pre) (E : CtlPost) (d : Bool) (acts : List Action), wp (findHandler f a) Q E e d acts s ↔ Q (.found pc) d acts (s.setVm vm')) :
    (stepThrowing e s a (.java f :: r)).1 = (s.setVm vm').setFrames (.java { f with pc := pc, stack := [.ref a] } :: r) := by
  simp only [stepThrowing, searchFrame, vmDo]
  generalize hr : Sem.go _ e false [] s = res
  obtain ⟨x, s', as, hgo, ha, hs'⟩ := First.eq_ok_of' (P := fun x s' => x = Handler.found pc ∧ s' = s.setVm vm') hr (by simp [hfind _ _ _ _])
  subst ha; subst hs'; rw [hgo]
/-- one step: not caught -/
theorem ec_sl {e : Env} {s : State} {a : Addr} {f : JFrame} {r : List Frame} {meth : Method} {vm' : Vm} (hm : vm'.method? f.method = some meth) (hl : meth.locks = false) (hlocked : f.locked = none) (hentered : f.entered = [])
    (hfind : ∀ (Q : Handler → Pre) (E : CtlPost) (d : Bool) (acts : List Action), wp (findHandler f a) Q E e d acts s ↔ Q .none d acts (s.setVm vm')) :
    (stepThrowing e s a (.java f :: r)).1 = (s.setVm vm').setFrames (.throwing a :: r) := by
  simp only [stepThrowing, searchFrame, vmDo]
  generalize hr : Sem.go _ e false [] s = res
  obtain ⟨x, s', as, hgo, ha, hs'⟩ := First.eq_ok_of' (P := fun x s' => x = Handler.none ∧ s' = s.setVm vm') hr
    (by cases hp : e.platform.frameOwnsMonitors <;> simp [hfind _ _ _ _, hm, hl, hlocked, hentered, hp, leaveIfLocked])
  subst ha; subst hs'; rw [hgo]
variable {p : Program} {l : Launch} {e : Env} {R : Room} {s : State} {m : MethodId} {args : Array Value} {below : List Frame} {meth : Method} {c : Code} {H : Heap} {locs : List Loc} {cells slots : Nat} {Q : State → Prop} {ls : Array Slot} {rest : List Value} {pc : Nat}
/-- the rows ahead, by their words -/
theorem ec_pass (hpl : e.platform.magicAccessors = ({} : Platform).magicAccessors) {own E : String} {ce : Cell} (hown : s.vm.findClass own = some m.cls) (hcl : s.vm.findClass E = some ce.cls) {z : ExceptionTableEntry}
    (h : covers z pc = false ∨ (z.catchType ≠ 0 ∧ ∃ nm : String, (Jvm.Cond.classLink own z.catchType nm).before args s = true ∧ va_Nc E nm s)) : ec_P e.platform s m.cls pc ce.cls z := by
  rcases h with h | ⟨hz0, nm, hl1, hn1⟩
  · exact Or.inl h
  · obtain ⟨c6, hc6, hcl6⟩ := Cond.classLink_spec hown hl1 e.platform hpl
    obtain ⟨a8, b8, h1, h2, h3⟩ := hn1
    cases Option.some.inj (h1.symm.trans hcl)
    cases Option.some.inj (h2.symm.trans hc6)
    exact Or.inr ⟨hz0, _, hcl6, h3⟩
theorem ec_goes {T : State} (X : Stand p l e R s m args below meth c T locs cells slots) (g : JFrame) (a : Addr) : (T.setTop g).pushFrame (.throwing a) = T.setFrames (.throwing a :: .java g :: below) ∧ (T.setFrames (.throwing a :: .java g :: below)).frames = .throwing a :: .java g :: below ∧ (T.setFrames (.throwing a :: .java g :: below)).goesOn := by
  obtain ⟨g₀, hr⟩ := X.frames_eq
  have hcur : T.cur < T.threads.size := State.cur_lt_of_frames hr
  have hF : (T.setFrames (.throwing a :: .java g :: below)).frames = .throwing a :: .java g :: below := State.frames_setFrames _ hcur
  refine ⟨?_, hF, X.here.running, by rw [State.curStatus?_setFrames]; exact X.here.runnable, by rw [State.alone_setFrames]; exact X.here.alone⟩
  rw [State.pushFrame, State.frames_setTop _ hr, State.setTop_of_frames _ hr, State.setFrames_setFrames]
/-- caught by the row x of this method's table -/
theorem ec_catch {own name : String} {E : String} {ce : Cell} {q : Addr} (hown : s.vm.findClass own = some m.cls) (pre : List ExceptionTableEntry) (x : ExceptionTableEntry) (suf : List ExceptionTableEntry) (hsplit : c.exceptionTable.toList = pre ++ x :: suf)
    (hpass : ∀ z ∈ pre, covers z pc = false ∨ (z.catchType ≠ 0 ∧ ∃ nm : String, (Jvm.Cond.classLink own z.catchType nm).before args s = true ∧ va_Nc E nm s)) (hx : covers x pc = true) (h0 : x.catchType ≠ 0)
    (hlink : (Jvm.Cond.classLink own x.catchType name).before args s = true) (hcast : (Jvm.Cond.castable E name).before args s = true) (hcell : H[q]? = some ce) (hv : ce.vm = .none) (hcl : s.vm.findClass E = some ce.cls)
    (kk : W p l e R s m args below meth c H locs cells slots Q (F0 m x.handlerPc ls [.ref q])) : vx_W p l e R s m args below meth c H locs cells slots Q (F0 m pc ls rest) q := by
  intro T hT X
  have hpl : e.platform.magicAccessors = ({} : Platform).magicAccessors := by rw [X.admits.platform]
  obtain ⟨c3, c4, hc3, hc4, hasg⟩ := Cond.castable_spec hcast
  cases Option.some.inj (hc3.symm.trans hcl)
  obtain ⟨c5, hc5, hcl5⟩ := Cond.classLink_spec hown hlink e.platform hpl
  cases Option.some.inj (hc4.symm.trans hc5)
  obtain ⟨eF, hF, hgo⟩ := ec_goes X (F0 m pc ls rest) q
  have hk0 : ∃ k, s.vm.classes[ce.cls]? = some k := by obtain ⟨k9, h9, -⟩ := Vm.findClass_spec hcl; exact ⟨k9, h9⟩
  have hobj : ∀ k, ce.vm ≠ .statics k := fun k h => by rw [hv] at h; cases h
  obtain ⟨vm', hW', hq⟩ := ec_go (e := e) (s₀ := s) (f := F0 m pc ls rest) (a := q) (cell := ce) hobj hk0 (x :: suf) (.found x.handlerPc) (fun S hW hcS => by
      obtain ⟨k0, hk0⟩ := hk0
      obtain ⟨k0', hk0', -⟩ := hW.alike.2.2 _ _ hk0
      obtain ⟨dk, _, _, kt, hd, _, _, _, _, hkt, _, hopen⟩ := hcl5.here
      obtain ⟨kt', hkt', -⟩ := hW.alike.2.2 _ _ hkt
      exact ⟨_, hW.noted hd hopen (State.rightAt_cls hcl5), fun Q E d acts => ec_yes hx h0 (hW.classLinks hcl5) hcS hobj ⟨k0', hk0'⟩ ⟨kt', hkt'⟩ (by rw [hW.alike.assignable]; exact hasg)⟩)
    pre (T.setFrames (.throwing q :: .java (F0 m pc ls rest) :: below)) X.warmed (by show T.heap[q]? = some ce; rw [hT]; exact hcell) (fun z hz => ec_pass hpl hown hcl (hpass z hz))
  obtain ⟨t, a1, b1⟩ := kk (T.setVm vm') hT (X.noted hW')
  refine ⟨t, ?_, b1⟩
  rw [eF]
  refine Steps.head hgo ⟨.throwing q :: .java (F0 m pc ls rest) :: [], by rw [hF]; rfl, by simp, by simp⟩ ?_
  rw [stepThread_throwing hF, ec_sc (s := T.setFrames (.throwing q :: .java (F0 m pc ls rest) :: below)) (pc := x.handlerPc) (vm' := vm') (fun Q E d acts => by
    rw [W.findHandler_eq (meth := meth) (code := c) X.method' X.code, hsplit]
    exact hq Q E d acts), ec_vf]
  obtain ⟨g₀, hr⟩ := X.frames_eq
  have hr' : (T.setVm vm').frames = .java g₀ :: below := hr
  rw [State.setTop_of_frames _ hr'] at a1
  exact a1
/-- not caught here: it goes on to the caller -/
theorem ec_out {free : Addr → Prop} {Qc : Array Value → State → Outcome → State → Prop} {XC : String → State → State → Prop} {own E : String} {ce : Cell} {q : Addr} {mc ms : Nat} (hown : s.vm.findClass own = some m.cls) (hlocks : meth.locks = false)
    (hpass : ∀ z ∈ c.exceptionTable.toList, covers z pc = false ∨ (z.catchType ≠ 0 ∧ ∃ nm : String, (Jvm.Cond.classLink own z.catchType nm).before args s = true ∧ va_Nc E nm s)) (hcell : H[q]? = some ce) (hv : ce.vm = .none) (hcl : s.vm.findClass E = some ce.cls)
    (hx : ∀ t : State, t.heap = H → s.vm.Alike t.vm → XC E s t) (hf : ∀ z ∈ locs, free z.base) (hc : cells ≤ mc) (hs : slots ≤ ms) :
    vx_W p l e R s m args below meth c H locs cells slots (vx_MQ below Qc XC args s mc ms free) (F0 m pc ls rest) q := by
  intro T hT X
  have hpl : e.platform.magicAccessors = ({} : Platform).magicAccessors := by rw [X.admits.platform]
  obtain ⟨eF, hF, hgo⟩ := ec_goes X (F0 m pc ls rest) q
  have hk0 : ∃ k, s.vm.classes[ce.cls]? = some k := by obtain ⟨k9, h9, -⟩ := Vm.findClass_spec hcl; exact ⟨k9, h9⟩
  have hobj : ∀ k, ce.vm ≠ .statics k := fun k h => by rw [hv] at h; cases h
  obtain ⟨vm', hW', hq⟩ := ec_go (e := e) (s₀ := s) (f := F0 m pc ls rest) (a := q) (cell := ce) hobj hk0 [] .none (fun S hW hcS => ⟨S.vm, hW, fun Q E d acts => by rw [State.setVm_self]; simp [findHandler.go]⟩)
    c.exceptionTable.toList (T.setFrames (.throwing q :: .java (F0 m pc ls rest) :: below)) X.warmed (by show T.heap[q]? = some ce; rw [hT]; exact hcell) (fun z hz => ec_pass hpl hown hcl (hpass z hz))
  have X' := X.noted hW'
  obtain ⟨g₀, hfr⟩ := X'.frames_eq
  have hcell9 : ((T.setVm vm').setFrames (.throwing q :: below)).heap[q]? = some ce := by
    show T.heap[q]? = some ce
    rw [hT]; exact hcell
  have hend : Ended ((T.setVm vm').setFrames (.throwing q :: below)) below (.threw q) := State.frames_setFrames _ (State.cur_lt_of_frames hfr)
  refine ⟨(T.setVm vm').setFrames (.throwing q :: below), ?_, .threw q, X'.here.running, hend, Or.inr ⟨q, rfl, E, ce, locs, hx _ hT (X'.ends _).1.alike, hcell9, hv, hcl, (X'.ends _).1, (X'.ends _).2.mono hc hs, hf⟩⟩
  rw [eF]
  refine Steps.head hgo ⟨.throwing q :: .java (F0 m pc ls rest) :: [], by rw [hF]; rfl, by simp, by simp⟩ ?_
  rw [stepThread_throwing hF, ec_sl (s := T.setFrames (.throwing q :: .java (F0 m pc ls rest) :: below)) (meth := meth) (vm' := vm') (by rw [hW'.alike.method?]; exact X.method) hlocks rfl rfl (fun Q E d acts => by
    rw [W.findHandler_eq (meth := meth) (code := c) X.method' X.code]
    have := hq Q E d acts
    rwa [List.append_nil] at this), ec_vf]
  exact Steps.refl _
end ECA
end
section
/-! THE ABSTRACT MACHINE, its values: an int that is known or lies between two bounds; a reference by its place in the list of cells, or null; a long that is known or not; the script, or a reference of which nothing is known. -/
abbrev AI : Type := Int32 ⊕ (Int × Int)
abbrev AV : Type := AI ⊕ (Option Nat ⊕ (Option Int64 ⊕ Bool))
/-- a cell: an array (kind, length, what stands where nothing was stored, what was stored, the latest first) or an object (its class's number, its fields) -/
abbrev AC : Type := (Nat × Nat × AV × List (Nat × AV)) ⊕ (Nat × List AV)
def ea_gi (i : AI) (x : Int32) : Prop := match i with
  | .inl y => x = y
  | .inr q => q.1 ≤ x.toInt ∧ x.toInt ≤ q.2
def ea_gv (ad : Nat × List Nat) (a : AV) (v : Value) : Prop := match a with
  | .inl i => ∃ x : Int32, v = .int x ∧ ea_gi i x
  | .inr (.inl none) => v = .null
  | .inr (.inl (some k)) => ∃ q : Nat, v = .ref q ∧ ad.2[k]? = some q
  | .inr (.inr (.inl none)) => ∃ x : Int64, v = .long x
  | .inr (.inr (.inl (some y))) => v = .long y
  | .inr (.inr (.inr true)) => v = .ref ad.1
  | .inr (.inr (.inr false)) => ∃ q : Nat, v = .ref q
def ea_cat (a : AV) : Nat := match a with
  | .inr (.inr (.inl _)) => 2
  | _ => 1
theorem ea_gv_cat {ad : Nat × List Nat} {a : AV} {v : Value} (h : ea_gv ad a v) : v.category = ea_cat a := by
  match a, h with
  | .inl i, ⟨x, e, _⟩ => rw [e]; rfl
  | .inr (.inl none), e => rw [show v = .null from e]; rfl
  | .inr (.inl (some k)), ⟨q, e, _⟩ => rw [e]; rfl
  | .inr (.inr (.inl none)), ⟨x, e⟩ => rw [e]; rfl
  | .inr (.inr (.inl (some y))), e => rw [show v = .long y from e]; rfl
  | .inr (.inr (.inr true)), e => rw [show v = .ref ad.1 from e]; rfl
  | .inr (.inr (.inr false)), ⟨q, e⟩ => rw [e]; rfl
theorem ea_gv_mono {ad ad' : Nat × List Nat} (hp : ad.1 = ad'.1 ∧ ∀ k q : Nat, ad.2[k]? = some q → ad'.2[k]? = some q) {a : AV} {v : Value} (h : ea_gv ad a v) : ea_gv ad' a v := by
  match a, h with
  | .inl i, h => exact h
  | .inr (.inl none), h => exact h
  | .inr (.inl (some k)), ⟨q, e, hk⟩ => exact ⟨q, e, hp.2 k q hk⟩
  | .inr (.inr (.inl none)), h => exact h
  | .inr (.inr (.inl (some y))), h => exact h
  | .inr (.inr (.inr true)), h => exact (show v = .ref ad.1 from h).trans (by rw [hp.1])
  | .inr (.inr (.inr false)), h => exact h
/-- a reference, not null -/
def ea_isr (a : AV) : Bool := match a with
  | .inr (.inl (some _)) => true
  | .inr (.inr (.inr _)) => true
  | _ => false
theorem ea_isr_ok {ad : Nat × List Nat} {a : AV} {v : Value} (h : ea_isr a = true) (hv : ea_gv ad a v) : ∃ x : Nat, v = .ref x := by
  match a, h, hv with
  | .inr (.inl (some k)), _, ⟨q, e, _⟩ => exact ⟨q, e⟩
  | .inr (.inr (.inr true)), _, e => exact ⟨ad.1, e⟩
  | .inr (.inr (.inr false)), _, e => exact e
/-- lists, place by place -/
def ea_rl {α β : Type} (R : α → β → Prop) : List α → List β → Prop
  | [], [] => True
  | a :: as, b :: bs => R a b ∧ ea_rl R as bs
  | _, _ => False
theorem ea_rl_nil {α β : Type} {R : α → β → Prop} {bs : List β} (h : ea_rl R [] bs) : bs = [] := by
  cases bs with
  | nil => rfl
  | cons b t => exact h.elim
theorem ea_rl_cons {α β : Type} {R : α → β → Prop} {a : α} {as : List α} {bs : List β} (h : ea_rl R (a :: as) bs) : ∃ b t, bs = b :: t ∧ R a b ∧ ea_rl R as t := by
  cases bs with
  | nil => exact h.elim
  | cons b t => exact ⟨b, t, rfl, h.1, h.2⟩
theorem ea_rl_len {α β : Type} {R : α → β → Prop} : ∀ {as : List α} {bs : List β}, ea_rl R as bs → as.length = bs.length
  | [], [], _ => rfl
  | a :: as, b :: bs, h => by rw [List.length_cons, List.length_cons, ea_rl_len h.2]
  | [], _ :: _, h => h.elim
  | _ :: _, [], h => h.elim
theorem ea_rl_get {α β : Type} {R : α → β → Prop} : ∀ {as : List α} {bs : List β}, ea_rl R as bs → ∀ {k : Nat} {a : α}, as[k]? = some a → ∃ b, bs[k]? = some b ∧ R a b
  | [], [], _, k, a, h => by simp at h
  | a :: as, b :: bs, h, 0, a', e => by simp at e; subst e; exact ⟨b, rfl, h.1⟩
  | a :: as, b :: bs, h, k + 1, a', e => by simp at e; obtain ⟨b', h1, h2⟩ := ea_rl_get h.2 e; exact ⟨b', by simpa using h1, h2⟩
  | [], _ :: _, h, _, _, _ => h.elim
  | _ :: _, [], h, _, _, _ => h.elim
theorem ea_rl_set {α β : Type} {R : α → β → Prop} : ∀ {as : List α} {bs : List β}, ea_rl R as bs → ∀ (k : Nat) {a : α} {b : β}, R a b → ea_rl R (as.set k a) (bs.set k b)
  | [], [], _, k, a, b, _ => by simp [ea_rl]
  | a :: as, b :: bs, h, 0, a', b', e => ⟨e, h.2⟩
  | a :: as, b :: bs, h, k + 1, a', b', e => ⟨h.1, ea_rl_set h.2 k e⟩
  | [], _ :: _, h, _, _, _, _ => h.elim
  | _ :: _, [], h, _, _, _, _ => h.elim
theorem ea_rl_app {α β : Type} {R : α → β → Prop} : ∀ {as : List α} {bs : List β}, ea_rl R as bs → ∀ {cs : List α} {ds : List β}, ea_rl R cs ds → ea_rl R (as ++ cs) (bs ++ ds)
  | [], [], _, _, _, h => h
  | a :: as, b :: bs, h, _, _, h2 => ⟨h.1, ea_rl_app h.2 h2⟩
  | [], _ :: _, h, _, _, _ => h.elim
  | _ :: _, [], h, _, _, _ => h.elim
theorem ea_rl_mono {α β : Type} {R R' : α → β → Prop} (hR : ∀ a b, R a b → R' a b) : ∀ {as : List α} {bs : List β}, ea_rl R as bs → ea_rl R' as bs
  | [], [], _ => trivial
  | a :: as, b :: bs, h => ⟨hR _ _ h.1, ea_rl_mono hR h.2⟩
  | [], _ :: _, h => h.elim
  | _ :: _, [], h => h.elim
theorem ea_rl_rev {α β : Type} {R : α → β → Prop} : ∀ {as : List α} {bs : List β}, ea_rl R as bs → ea_rl R as.reverse bs.reverse
  | [], [], _ => trivial
  | a :: as, b :: bs, h => by
    rw [List.reverse_cons, List.reverse_cons]
    exact ea_rl_app (ea_rl_rev h.2) ⟨h.1, trivial⟩
  | [], _ :: _, h => h.elim
  | _ :: _, [], h => h.elim
theorem ea_rl_take {α β : Type} {R : α → β → Prop} : ∀ (n : Nat) {as : List α} {bs : List β}, ea_rl R as bs → ea_rl R (as.take n) (bs.take n) ∧ ea_rl R (as.drop n) (bs.drop n)
  | 0, as, bs, h => by simpa [ea_rl] using h
  | n + 1, [], [], _ => by simp [ea_rl]
  | n + 1, a :: as, b :: bs, h => ⟨⟨h.1, (ea_rl_take n h.2).1⟩, (ea_rl_take n h.2).2⟩
  | _ + 1, [], _ :: _, h => h.elim
  | _ + 1, _ :: _, [], h => h.elim
/-- bounds of an int -/
def ea_lo (i : AI) : Int := match i with
  | .inl x => x.toInt
  | .inr q => q.1
def ea_hi (i : AI) : Int := match i with
  | .inl x => x.toInt
  | .inr q => q.2
theorem ea_bd {i : AI} {x : Int32} (h : ea_gi i x) : ea_lo i ≤ x.toInt ∧ x.toInt ≤ ea_hi i := by
  match i, h with
  | .inl y, h => rw [show x = y from h]; exact ⟨Int.le_refl _, Int.le_refl _⟩
  | .inr q, h => exact h
def ea_lt (i j : AI) : Option Bool := if ea_hi i < ea_lo j then some true else if ea_hi j ≤ ea_lo i then some false else none
def ea_eq (i j : AI) : Option Bool := if ea_hi i < ea_lo j then some false else if ea_hi j < ea_lo i then some false else if ea_lo i = ea_hi i ∧ ea_lo j = ea_hi j ∧ ea_lo i = ea_lo j then some true else none
theorem ea_lt_ok {i j : AI} {b : Bool} (h : ea_lt i j = some b) {x y : Int32} (hx : ea_gi i x) (hy : ea_gi j y) : x < y ↔ b = true := by
  have bx := ea_bd hx
  have bY := ea_bd hy
  rw [Int32.lt_iff_toInt_lt]
  unfold ea_lt at h
  split at h
  · cases h; simp; omega
  · split at h
    · cases h; simp; omega
    · cases h
theorem ea_eq_ok {i j : AI} {b : Bool} (h : ea_eq i j = some b) {x y : Int32} (hx : ea_gi i x) (hy : ea_gi j y) : x = y ↔ b = true := by
  have bx := ea_bd hx
  have bY := ea_bd hy
  rw [← Int32.toInt_inj]
  unfold ea_eq at h
  split at h
  · cases h; simp; omega
  · split at h
    · cases h; simp; omega
    · split at h
      · cases h; simp; omega
      · cases h
/-- what a branch asks of two ints -/
def ea_cp (c : Jvm.ClassFile.Cond) (x y : Int32) : Prop := match c with
  | .eq => x = y
  | .ne => ¬ x = y
  | .lt => x < y
  | .ge => y ≤ x
  | .gt => y < x
  | .le => x ≤ y
def ea_ck (c : Jvm.ClassFile.Cond) (x y : Int32) : Bool := match c with
  | .eq => decide (x = y)
  | .ne => !decide (x = y)
  | .lt => decide (x < y)
  | .ge => decide (y ≤ x)
  | .gt => decide (y < x)
  | .le => decide (x ≤ y)
def ea_ci (c : Jvm.ClassFile.Cond) (i j : AI) : Option Bool := match c with
  | .eq => ea_eq i j
  | .ne => (ea_eq i j).map (fun b => !b)
  | .lt => ea_lt i j
  | .ge => (ea_lt i j).map (fun b => !b)
  | .gt => ea_lt j i
  | .le => (ea_lt j i).map (fun b => !b)
def ea_if (c : Jvm.ClassFile.Cond) (i j : AI) : Option Bool := match i, j with
  | .inl x, .inl y => some (ea_ck c x y)
  | _, _ => ea_ci c i j
theorem ea_ck_ok (c : Jvm.ClassFile.Cond) (x y : Int32) : ea_cp c x y ↔ ea_ck c x y = true := by
  cases c <;> simp [ea_cp, ea_ck]
theorem ea_ci_ok {c : Jvm.ClassFile.Cond} {i j : AI} {b : Bool} (h : ea_ci c i j = some b) {x y : Int32} (hx : ea_gi i x) (hy : ea_gi j y) : ea_cp c x y ↔ b = true := by
  have hle : ∀ u v : Int32, (v ≤ u ↔ ¬ u < v) := fun u v => by rw [Int32.le_iff_toInt_le, Int32.lt_iff_toInt_lt]; omega
  cases c with
  | eq => exact ea_eq_ok h hx hy
  | lt => exact ea_lt_ok h hx hy
  | gt => exact ea_lt_ok h hy hx
  | ne =>
    simp only [ea_ci, Option.map_eq_some_iff] at h
    obtain ⟨b', h1, rfl⟩ := h
    rw [ea_cp, ea_eq_ok h1 hx hy]; cases b' <;> simp
  | ge =>
    simp only [ea_ci, Option.map_eq_some_iff] at h
    obtain ⟨b', h1, rfl⟩ := h
    rw [ea_cp, hle, ea_lt_ok h1 hx hy]; cases b' <;> simp
  | le =>
    simp only [ea_ci, Option.map_eq_some_iff] at h
    obtain ⟨b', h1, rfl⟩ := h
    rw [ea_cp, hle, ea_lt_ok h1 hy hx]; cases b' <;> simp
theorem ea_if_ok {c : Jvm.ClassFile.Cond} {i j : AI} {b : Bool} (h : ea_if c i j = some b) {x y : Int32} (hx : ea_gi i x) (hy : ea_gi j y) : ea_cp c x y ↔ b = true := by
  match i, j, h, hx, hy with
  | .inl u, .inl v, h, hx, hy =>
    rw [show x = u from hx, show y = v from hy]
    cases h
    exact ea_ck_ok c u v
  | .inl u, .inr v, h, hx, hy => exact ea_ci_ok h hx hy
  | .inr u, .inl v, h, hx, hy => exact ea_ci_ok h hx hy
  | .inr u, .inr v, h, hx, hy => exact ea_ci_ok h hx hy
/-- an operation on ints: known of known ones, else any int -/
def ea_any : AI := .inr (-2147483648, 2147483647)
theorem ea_any_ok (x : Int32) : ea_gi ea_any x := ⟨Int32.le_toInt x, Int.le_of_lt_add_one (Int32.toInt_lt x)⟩
def ea_i2 (f : Int32 → Int32 → Int32) (i j : AI) : AI := match i, j with
  | .inl x, .inl y => .inl (f x y)
  | _, _ => ea_any
theorem ea_i2_ok (f : Int32 → Int32 → Int32) {i j : AI} {x y : Int32} (hx : ea_gi i x) (hy : ea_gi j y) : ea_gi (ea_i2 f i j) (f x y) := by
  match i, j, hx, hy with
  | .inl u, .inl v, hx, hy => rw [show x = u from hx, show y = v from hy]; rfl
  | .inl u, .inr v, _, _ => exact ea_any_ok _
  | .inr u, .inl v, _, _ => exact ea_any_ok _
  | .inr u, .inr v, _, _ => exact ea_any_ok _
def ea_i1 (f : Int32 → Int32) (i : AI) : AI := match i with
  | .inl x => .inl (f x)
  | _ => ea_any
theorem ea_i1_ok (f : Int32 → Int32) {i : AI} {x : Int32} (hx : ea_gi i x) : ea_gi (ea_i1 f i) (f x) := by
  match i, hx with
  | .inl u, hx => rw [show x = u from hx]; rfl
  | .inr u, _ => exact ea_any_ok _
def ea_l2 (f : Int64 → Int64 → Int64) (i j : Option Int64) : Option Int64 := match i, j with
  | some x, some y => some (f x y)
  | _, _ => none
end
section
/-! THE ABSTRACT MACHINE, its instructions that touch no cell -/
def ea_lk (L : List (Nat × AV)) (i : Nat) : Option AV := match L with
  | [] => none
  | q :: t => bif Nat.beq q.1 i then some q.2 else ea_lk t i
def ea_s1 (L : List (Nat × AV)) (i : Nat) (a : AV) : List (Nat × AV) := (i, a) :: L.filter (fun q => !(q.1 == i) && !(q.1 + 1 == i && ea_cat q.2 == 2))
def ea_s2 (L : List (Nat × AV)) (i : Nat) (a : AV) : List (Nat × AV) := (i, a) :: L.filter (fun q => !(q.1 == i) && (!(q.1 == i + 1) && !(q.1 + 1 == i && ea_cat q.2 == 2)))
/-- a place of the locals, and its value -/
def ea_lr (ad : Nat × List Nat) (p : Nat × AV) (q : Nat × Value) : Prop := p.1 = q.1 ∧ ea_gv ad p.2 q.2
/-- the locals -/
def ea_L (ad : Nat × List Nat) (nL : Nat) (L : List (Nat × AV)) (ls : Array Slot) : Prop := ∃ vl : List (Nat × Value), ea_rl (ea_lr ad) L vl ∧ lv_has ls nL vl
theorem ea_lk_mem : ∀ {L : List (Nat × AV)} {i : Nat} {a : AV}, ea_lk L i = some a → ∃ k : Nat, L[k]? = some (i, a)
  | [], i, a, h => by cases h
  | q :: t, i, a, h => by
    unfold ea_lk at h
    cases hb : Nat.beq q.1 i with
    | true =>
      rw [hb] at h
      cases h
      have e : q.1 = i := Nat.eq_of_beq_eq_true hb
      subst e
      exact ⟨0, rfl⟩
    | false =>
      rw [hb] at h
      obtain ⟨k, hk⟩ := ea_lk_mem (L := t) h
      exact ⟨k + 1, by simpa using hk⟩
theorem ea_L_at {ad : Nat × List Nat} {nL : Nat} {L : List (Nat × AV)} {ls : Array Slot} (h : ea_L ad nL L ls) {i : Nat} {a : AV} (hk : ea_lk L i = some a) : ∃ v, ls[i]? = some (.val v) ∧ ea_gv ad a v := by
  obtain ⟨vl, h1, h2⟩ := h
  obtain ⟨k, hk⟩ := ea_lk_mem hk
  obtain ⟨⟨i', v⟩, h3, h4, h5⟩ := ea_rl_get h1 hk
  dsimp only at h4 h5
  subst h4
  exact ⟨v, lv_at h2 k h3, h5⟩
theorem ea_rl_filter {α β : Type} {R : α → β → Prop} {f : α → Bool} {g : β → Bool} (hfg : ∀ a b, R a b → f a = g b) : ∀ {as : List α} {bs : List β}, ea_rl R as bs → ea_rl R (as.filter f) (bs.filter g)
  | [], [], _ => trivial
  | a :: as, b :: bs, h => by
    rw [List.filter_cons, List.filter_cons, hfg a b h.1]
    cases g b with
    | true => exact ⟨h.1, ea_rl_filter hfg h.2⟩
    | false => exact ea_rl_filter hfg h.2
  | [], _ :: _, h => h.elim
  | _ :: _, [], h => h.elim
theorem ea_rl_s1 {ad : Nat × List Nat} {L : List (Nat × AV)} {vl : List (Nat × Value)} (h : ea_rl (ea_lr ad) L vl) (i : Nat) {a : AV} {v : Value} (hv : ea_gv ad a v) : ea_rl (ea_lr ad) (ea_s1 L i a) ((i, v) :: vl.filter (fun q => !(q.1 == i) && !(q.1 + 1 == i && q.2.category == 2))) :=
  ⟨⟨rfl, hv⟩, ea_rl_filter (fun p q hpq => by rw [hpq.1, ea_gv_cat hpq.2]) h⟩
theorem ea_rl_s2 {ad : Nat × List Nat} {L : List (Nat × AV)} {vl : List (Nat × Value)} (h : ea_rl (ea_lr ad) L vl) (i : Nat) {a : AV} {v : Value} (hv : ea_gv ad a v) : ea_rl (ea_lr ad) (ea_s2 L i a) ((i, v) :: vl.filter (fun q => !(q.1 == i) && (!(q.1 == i + 1) && !(q.1 + 1 == i && q.2.category == 2)))) :=
  ⟨⟨rfl, hv⟩, ea_rl_filter (fun p q hpq => by rw [hpq.1, ea_gv_cat hpq.2]) h⟩
theorem ea_L_mono {ad ad' : Nat × List Nat} (hp : ad.1 = ad'.1 ∧ ∀ k q : Nat, ad.2[k]? = some q → ad'.2[k]? = some q) {nL : Nat} {L : List (Nat × AV)} {ls : Array Slot} (h : ea_L ad nL L ls) : ea_L ad' nL L ls := by
  obtain ⟨vl, h1, h2⟩ := h
  exact ⟨vl, ea_rl_mono (fun a b hab => ⟨hab.1, ea_gv_mono hp hab.2⟩) h1, h2⟩
/-- where a branch goes -/
def ea_to (pc : Nat) (off : Int) : Option Nat := match (pc : Int) + off with
  | .ofNat n => some n
  | .negSucc _ => none
theorem ea_to_ok {pc : Nat} {off : Int} {t : Nat} (h : ea_to pc off = some t) : (pc : Int) + off = (t : Int) := by
  unfold ea_to at h
  split at h
  · rename_i n e; cases h; exact e
  · cases h
/-- how long an instruction is that takes one of the rows below (0: any) -/
def ea_len (i : Instr) : Nat := match i with
  | .bipush _ | .iload _ | .lload _ | .aload _ | .istore _ | .lstore _ | .astore _ | .ldc _ | .newarray _ => 2
  | .sipush _ | .iinc _ _ | .goto _ | .ifCond _ _ | .if_icmp _ _ | .ldc2_w _ | .ldc_w _ | .getfield _ | .putfield _ | .new _ | .anewarray _ | .invokespecial _ | .invokestatic _ | .invokevirtual _ | .ifnull _ | .ifnonnull _ => 3
  | .tableswitch _ _ _ _ | .lookupswitch _ _ => 0
  | _ => 1
/-- which of a switch's ways is taken -/
def ea_sw (dflt lo hi : Int) (offs : Array Int) (i : AI) : Option Int :=
  if ea_hi i < lo then some dflt else if hi < ea_lo i then some dflt else match i with
    | .inl x => if ¬ x.toInt < lo ∧ ¬ hi < x.toInt then offs.toList[(x.toInt - lo).toNat]? else none
    | .inr _ => none
def ea_p (i : Instr) (pc nL : Nat) (L : List (Nat × AV)) (S : List AV) : Option (Nat × List (Nat × AV) × List AV) :=
  match i with
  | .iconst n => some (pc + 1, L, .inl (.inl (Int32.ofInt n)) :: S)
  | .bipush n => some (pc + 2, L, .inl (.inl (Int8.ofInt n).toInt32) :: S)
  | .sipush n => some (pc + 3, L, .inl (.inl (Int16.ofInt n).toInt32) :: S)
  | .lconst n => some (pc + 1, L, .inr (.inr (.inl (some (Int64.ofNat n)))) :: S)
  | .iload_n k => match ea_lk L k with
    | some (.inl a) => some (pc + 1, L, .inl a :: S)
    | _ => none
  | .iload k => match ea_lk L k with
    | some (.inl a) => some (pc + 2, L, .inl a :: S)
    | _ => none
  | .lload_n k => match ea_lk L k with
    | some (.inr (.inr (.inl a))) => some (pc + 1, L, .inr (.inr (.inl a)) :: S)
    | _ => none
  | .lload k => match ea_lk L k with
    | some (.inr (.inr (.inl a))) => some (pc + 2, L, .inr (.inr (.inl a)) :: S)
    | _ => none
  | .aload_n k => match ea_lk L k with
    | some a => if ea_isr a = true then some (pc + 1, L, a :: S) else none
    | none => none
  | .aload k => match ea_lk L k with
    | some a => if ea_isr a = true then some (pc + 2, L, a :: S) else none
    | none => none
  | .istore_n k => match S with
    | .inl a :: S => if (k : Nat) < nL then some (pc + 1, ea_s1 L k (.inl a), S) else none
    | _ => none
  | .istore k => match S with
    | .inl a :: S => if k < nL then some (pc + 2, ea_s1 L k (.inl a), S) else none
    | _ => none
  | .lstore_n k => match S with
    | .inr (.inr (.inl a)) :: S => if (k : Nat) + 1 < nL then some (pc + 1, ea_s2 L k (.inr (.inr (.inl a))), S) else none
    | _ => none
  | .lstore k => match S with
    | .inr (.inr (.inl a)) :: S => if k + 1 < nL then some (pc + 2, ea_s2 L k (.inr (.inr (.inl a))), S) else none
    | _ => none
  | .astore_n k => match S with
    | a :: S => if ea_isr a = true ∧ (k : Nat) < nL then some (pc + 1, ea_s1 L k a, S) else none
    | _ => none
  | .astore k => match S with
    | a :: S => if ea_isr a = true ∧ k < nL then some (pc + 2, ea_s1 L k a, S) else none
    | _ => none
  | .iinc k n => match ea_lk L k with
    | some (.inl a) => if k < nL then some (pc + 3, ea_s1 L k (.inl (ea_i1 (fun x => x + Int32.ofInt n) a)), S) else none
    | _ => none
  | .iadd => match S with
    | .inl b :: .inl a :: S => some (pc + 1, L, .inl (ea_i2 (fun x y => x + y) a b) :: S)
    | _ => none
  | .isub => match S with
    | .inl b :: .inl a :: S => some (pc + 1, L, .inl (ea_i2 (fun x y => x - y) a b) :: S)
    | _ => none
  | .imul => match S with
    | .inl b :: .inl a :: S => some (pc + 1, L, .inl (ea_i2 (fun x y => x * y) a b) :: S)
    | _ => none
  | .iand => match S with
    | .inl b :: .inl a :: S => some (pc + 1, L, .inl (ea_i2 (fun x y => x &&& y) a b) :: S)
    | _ => none
  | .ior => match S with
    | .inl b :: .inl a :: S => some (pc + 1, L, .inl (ea_i2 (fun x y => x ||| y) a b) :: S)
    | _ => none
  | .ixor => match S with
    | .inl b :: .inl a :: S => some (pc + 1, L, .inl (ea_i2 (fun x y => x ^^^ y) a b) :: S)
    | _ => none
  | .ishl => match S with
    | .inl b :: .inl a :: S => some (pc + 1, L, .inl (ea_i2 (fun x y => x <<< (y &&& 31)) a b) :: S)
    | _ => none
  | .ishr => match S with
    | .inl b :: .inl a :: S => some (pc + 1, L, .inl (ea_i2 (fun x y => x >>> (y &&& 31)) a b) :: S)
    | _ => none
  | .iushr => match S with
    | .inl b :: .inl a :: S => some (pc + 1, L, .inl (ea_i2 (fun x y => (x.toUInt32 >>> (y.toUInt32 &&& Int32.toUInt32 31)).toInt32) a b) :: S)
    | _ => none
  | .ineg => match S with
    | .inl a :: S => some (pc + 1, L, .inl (ea_i1 (fun x => -x) a) :: S)
    | _ => none
  | .idiv => match S with
    | .inl (.inl y) :: .inl a :: S => if y = 0 then none else some (pc + 1, L, .inl (ea_i2 (fun x y => x / y) a (.inl y)) :: S)
    | _ => none
  | .irem => match S with
    | .inl (.inl y) :: .inl a :: S => if y = 0 then none else some (pc + 1, L, .inl (ea_i2 (fun x y => x - x / y * y) a (.inl y)) :: S)
    | _ => none
  | .i2b => match S with
    | .inl a :: S => some (pc + 1, L, .inl (ea_i1 (fun x => x.toInt8.toInt32) a) :: S)
    | _ => none
  | .i2l => match S with
    | .inl (.inl x) :: S => some (pc + 1, L, .inr (.inr (.inl (some x.toInt64))) :: S)
    | .inl (.inr _) :: S => some (pc + 1, L, .inr (.inr (.inl none)) :: S)
    | _ => none
  | .l2i => match S with
    | .inr (.inr (.inl (some x))) :: S => some (pc + 1, L, .inl (.inl x.toInt32) :: S)
    | .inr (.inr (.inl none)) :: S => some (pc + 1, L, .inl ea_any :: S)
    | _ => none
  | .ladd => match S with
    | .inr (.inr (.inl b)) :: .inr (.inr (.inl a)) :: S => some (pc + 1, L, .inr (.inr (.inl (ea_l2 (fun x y => x + y) a b))) :: S)
    | _ => none
  | .lsub => match S with
    | .inr (.inr (.inl b)) :: .inr (.inr (.inl a)) :: S => some (pc + 1, L, .inr (.inr (.inl (ea_l2 (fun x y => x - y) a b))) :: S)
    | _ => none
  | .land => match S with
    | .inr (.inr (.inl b)) :: .inr (.inr (.inl a)) :: S => some (pc + 1, L, .inr (.inr (.inl (ea_l2 (fun x y => x &&& y) a b))) :: S)
    | _ => none
  | .lor => match S with
    | .inr (.inr (.inl b)) :: .inr (.inr (.inl a)) :: S => some (pc + 1, L, .inr (.inr (.inl (ea_l2 (fun x y => x ||| y) a b))) :: S)
    | _ => none
  | .lxor => match S with
    | .inr (.inr (.inl b)) :: .inr (.inr (.inl a)) :: S => some (pc + 1, L, .inr (.inr (.inl (ea_l2 (fun x y => x ^^^ y) a b))) :: S)
    | _ => none
  | .lshl => match S with
    | .inl (.inl y) :: .inr (.inr (.inl (some x))) :: S => some (pc + 1, L, .inr (.inr (.inl (some (x <<< (y.toInt64 &&& 63))))) :: S)
    | .inl _ :: .inr (.inr (.inl _)) :: S => some (pc + 1, L, .inr (.inr (.inl none)) :: S)
    | _ => none
  | .lshr => match S with
    | .inl (.inl y) :: .inr (.inr (.inl (some x))) :: S => some (pc + 1, L, .inr (.inr (.inl (some (x >>> (y.toInt64 &&& 63))))) :: S)
    | .inl _ :: .inr (.inr (.inl _)) :: S => some (pc + 1, L, .inr (.inr (.inl none)) :: S)
    | _ => none
  | .lushr => match S with
    | .inl (.inl y) :: .inr (.inr (.inl (some x))) :: S => some (pc + 1, L, .inr (.inr (.inl (some (x.toUInt64 >>> (y.toInt64.toUInt64 &&& Int64.toUInt64 63)).toInt64))) :: S)
    | .inl _ :: .inr (.inr (.inl _)) :: S => some (pc + 1, L, .inr (.inr (.inl none)) :: S)
    | _ => none
  | .lcmp => match S with
    | .inr (.inr (.inl (some y))) :: .inr (.inr (.inl (some x))) :: S => some (pc + 1, L, .inl (.inl (lg_cmp x y)) :: S)
    | .inr (.inr (.inl _)) :: .inr (.inr (.inl _)) :: S => some (pc + 1, L, .inl ea_any :: S)
    | _ => none
  | .dup => match S with
    | a :: S => if ea_cat a = 1 then some (pc + 1, L, a :: a :: S) else none
    | _ => none
  | .pop => match S with
    | a :: S => if ea_cat a = 1 then some (pc + 1, L, S) else none
    | _ => none
  | .pop2 => match S with
    | a :: S => if ea_cat a = 2 then some (pc + 1, L, S) else none
    | _ => none
  | .dup_x1 => match S with
    | a :: b :: S => if ea_cat a = 1 ∧ ea_cat b = 1 then some (pc + 1, L, a :: b :: a :: S) else none
    | _ => none
  | .dup_x2 => match S with
    | a :: b :: d :: S => if ea_cat a = 1 ∧ ea_cat b = 1 ∧ ea_cat d = 1 then some (pc + 1, L, a :: b :: d :: a :: S) else none
    | _ => none
  | .dup2 => match S with
    | a :: b :: S => if ea_cat a = 1 ∧ ea_cat b = 1 then some (pc + 1, L, a :: b :: a :: b :: S) else none
    | _ => none
  | .goto off => match ea_to pc off with
    | some t => some (t, L, S)
    | none => none
  | .ifCond c off => match S with
    | .inl a :: S => match ea_if c a (.inl 0), ea_to pc off with
      | some true, some t => some (t, L, S)
      | some false, some _ => some (pc + 3, L, S)
      | _, _ => none
    | _ => none
  | .if_icmp c off => match S with
    | .inl b :: .inl a :: S => match ea_if c a b, ea_to pc off with
      | some true, some t => some (t, L, S)
      | some false, some _ => some (pc + 3, L, S)
      | _, _ => none
    | _ => none
  | .tableswitch dflt lo hi offs => match S with
    | .inl a :: S => match ea_sw dflt lo hi offs a with
      | some off => match ea_to pc off with
        | some t => some (t, L, S)
        | none => none
      | none => none
    | _ => none
  | .lookupswitch dflt ps => match S with
    | .inl (.inl x) :: S => if (ps.toList.zip (ps.toList.drop 1)).all (fun (a, next) => a.1 < next.1) = true then match ea_to pc (Op.lookupswitch.offset ps.toList dflt x.toInt) with
        | some t => some (t, L, S)
        | none => none
      else none
    | _ => none
  | _ => none
end
section
section EAP
variable {p : Program} {l : Launch} {e : Env} {R : Room} {s : State} {m : MethodId} {args : Array Value} {below : List Frame} {meth : Method} {c : Code} {H : Heap} {locs : List Loc} {cells slots : Nat} {Q : State → Prop}
variable {cc : ByteArray} {pc : Nat} {ls : Array Slot} {st : List Value}
theorem ea_pop {ad : Nat × List Nat} {a : AV} {S : List AV} {st : List Value} (h : ea_rl (ea_gv ad) (a :: S) st) : ∃ v t, st = v :: t ∧ ea_gv ad a v ∧ ea_rl (ea_gv ad) S t := ea_rl_cons h
theorem ea_gl {ad : Nat × List Nat} {a : Option Int64} {v : Value} (h : ea_gv ad (.inr (.inr (.inl a))) v) : ∃ x : Int64, v = .long x ∧ ∀ y, a = some y → x = y := by
  cases a with
  | none => obtain ⟨x, rfl⟩ := h; exact ⟨x, rfl, fun y q => by cases q⟩
  | some z => exact ⟨z, h, fun y q => by cases q; rfl⟩
theorem ea_lg {ad : Nat × List Nat} {a : Option Int64} {x : Int64} (h : ∀ y, a = some y → x = y) : ea_gv ad (.inr (.inr (.inl a))) (.long x) := by
  cases a with
  | none => exact ⟨x, rfl⟩
  | some z => rw [h z rfl]; rfl
theorem ea_l2_ok (f : Int64 → Int64 → Int64) {a b : Option Int64} {x y : Int64} (hx : ∀ z, a = some z → x = z) (hy : ∀ z, b = some z → y = z) : ∀ z, ea_l2 f a b = some z → f x y = z := by
  intro z h
  cases a with
  | none => cases b <;> cases h
  | some u => cases b with
    | none => cases h
    | some v => cases h; rw [hx u rfl, hy v rfl]
theorem ea_sw_ok {dflt lo hi off : Int} {offs : Array Int} {i : AI} (h : ea_sw dflt lo hi offs i = some off) {x : Int32} (hx : ea_gi i x) : (off = dflt ∧ (x.toInt < lo ∨ hi < x.toInt)) ∨ (¬ x.toInt < lo ∧ ¬ hi < x.toInt ∧ offs[(x.toInt - lo).toNat]? = some off) := by
  have bx := ea_bd hx
  unfold ea_sw at h
  split at h
  · cases h; exact Or.inl ⟨rfl, Or.inl (by omega)⟩
  · split at h
    · cases h; exact Or.inl ⟨rfl, Or.inr (by omega)⟩
    · match i, h, hx with
      | .inl y, h, hx =>
        obtain rfl : x = y := hx
        dsimp only at h
        split at h
        · rename_i hin
          exact Or.inr ⟨hin.1, hin.2, by rw [← Array.getElem?_toList]; exact h⟩
        · cases h
      | .inr q, h, _ => cases h
set_option maxHeartbeats 4000000 in
set_option maxRecDepth 20000 in
theorem ea_p_ok {ad : Nat × List Nat} {nL pc' len : Nat} {i : Instr} {L L' : List (Nat × AV)} {S S' : List AV} (hexec : p.tables.exec = Jvm.exec) (hb : c.code = cc) (hdg : decode cc pc = .ok (i, len)) (hlen : ea_len i = 0 ∨ ea_len i = len) (hp : ea_p i pc nL L S = some (pc', L', S')) (hl : ea_L ad nL L ls) (hs : ea_rl (ea_gv ad) S st)
    (kk : ∀ (ls' : Array Slot) (st' : List Value), ea_L ad nL L' ls' → ea_rl (ea_gv ad) S' st' → W p l e R s m args below meth c H locs cells slots Q (F0 m pc' ls' st')) : W p l e R s m args below meth c H locs cells slots Q (F0 m pc ls st) := by
  cases i with
  | iconst n =>
    obtain rfl : 1 = len := by simpa [ea_len] using hlen
    simp only [ea_p] at hp
    cases hp
    exact lv_iconst hexec hb hdg rfl (kk _ _ hl ⟨⟨_, rfl, rfl⟩, hs⟩)
  | bipush n =>
    obtain rfl : 2 = len := by simpa [ea_len] using hlen
    simp only [ea_p] at hp
    cases hp
    exact lv_bipush hexec hb hdg rfl (kk _ _ hl ⟨⟨_, rfl, rfl⟩, hs⟩)
  | sipush n =>
    obtain rfl : 3 = len := by simpa [ea_len] using hlen
    simp only [ea_p] at hp
    cases hp
    exact lv_sipush hexec hb hdg rfl (kk _ _ hl ⟨⟨_, rfl, rfl⟩, hs⟩)
  | lconst n =>
    obtain rfl : 1 = len := by simpa [ea_len] using hlen
    simp only [ea_p] at hp
    cases hp
    exact lv_lconst hexec hb hdg rfl (kk _ _ hl ⟨rfl, hs⟩)
  | iload_n k =>
    obtain rfl : 1 = len := by simpa [ea_len] using hlen
    simp only [ea_p] at hp
    split at hp
    · rename_i a hk
      cases hp
      obtain ⟨v, h1, x, rfl, hx⟩ := ea_L_at hl hk
      exact lv_iload_n hexec hb hdg rfl h1 (kk _ _ hl ⟨⟨_, rfl, hx⟩, hs⟩)
    · cases hp
  | iload k =>
    obtain rfl : 2 = len := by simpa [ea_len] using hlen
    simp only [ea_p] at hp
    split at hp
    · rename_i a hk
      cases hp
      obtain ⟨v, h1, x, rfl, hx⟩ := ea_L_at hl hk
      exact lv_iload hexec hb hdg h1 (kk _ _ hl ⟨⟨_, rfl, hx⟩, hs⟩)
    · cases hp
  | lload_n k =>
    obtain rfl : 1 = len := by simpa [ea_len] using hlen
    simp only [ea_p] at hp
    split at hp
    · rename_i a hk
      cases hp
      obtain ⟨v, h1, h2⟩ := ea_L_at hl hk
      cases a with
      | none =>
        obtain ⟨x, rfl⟩ := h2
        exact lv_lload_n hexec hb hdg rfl h1 (kk _ _ hl ⟨⟨_, rfl⟩, hs⟩)
      | some y =>
        obtain rfl : v = .long y := h2
        exact lv_lload_n hexec hb hdg rfl h1 (kk _ _ hl ⟨rfl, hs⟩)
    · cases hp
  | lload k =>
    obtain rfl : 2 = len := by simpa [ea_len] using hlen
    simp only [ea_p] at hp
    split at hp
    · rename_i a hk
      cases hp
      obtain ⟨v, h1, h2⟩ := ea_L_at hl hk
      cases a with
      | none =>
        obtain ⟨x, rfl⟩ := h2
        exact lv_lload hexec hb hdg h1 (kk _ _ hl ⟨⟨_, rfl⟩, hs⟩)
      | some y =>
        obtain rfl : v = .long y := h2
        exact lv_lload hexec hb hdg h1 (kk _ _ hl ⟨rfl, hs⟩)
    · cases hp
  | aload_n k =>
    obtain rfl : 1 = len := by simpa [ea_len] using hlen
    simp only [ea_p] at hp
    split at hp
    · split at hp
      · rename_i a hk hr
        cases hp
        obtain ⟨v, h1, hv⟩ := ea_L_at hl hk
        obtain ⟨x, rfl⟩ := ea_isr_ok hr hv
        exact lv_aload_n hexec hb hdg rfl h1 (kk _ _ hl ⟨hv, hs⟩)
      · cases hp
    · cases hp
  | aload k =>
    obtain rfl : 2 = len := by simpa [ea_len] using hlen
    simp only [ea_p] at hp
    split at hp
    · split at hp
      · rename_i a hk hr
        cases hp
        obtain ⟨v, h1, hv⟩ := ea_L_at hl hk
        obtain ⟨x, rfl⟩ := ea_isr_ok hr hv
        exact lv_aload hexec hb hdg h1 (kk _ _ hl ⟨hv, hs⟩)
      · cases hp
    · cases hp
  | astore_n k =>
    obtain rfl : 1 = len := by simpa [ea_len] using hlen
    simp only [ea_p] at hp
    split at hp
    · split at hp
      · rename_i a S hk
        cases hp
        obtain ⟨v, t, rfl, hv, hs1⟩ := ea_pop hs
        obtain ⟨x, rfl⟩ := ea_isr_ok hk.1 hv
        obtain ⟨vl, h1, h2⟩ := hl
        exact lv_astore_n hexec hb hdg rfl h2 hk.2 rfl (fun ls' h3 => kk _ _ ⟨_, ea_rl_s1 h1 _ hv, h3⟩ hs1)
      · cases hp
    · cases hp
  | astore k =>
    obtain rfl : 2 = len := by simpa [ea_len] using hlen
    simp only [ea_p] at hp
    split at hp
    · split at hp
      · rename_i a S hk
        cases hp
        obtain ⟨v, t, rfl, hv, hs1⟩ := ea_pop hs
        obtain ⟨x, rfl⟩ := ea_isr_ok hk.1 hv
        obtain ⟨vl, h1, h2⟩ := hl
        exact lv_astore hexec hb hdg h2 hk.2 rfl (fun ls' h3 => kk _ _ ⟨_, ea_rl_s1 h1 _ hv, h3⟩ hs1)
      · cases hp
    · cases hp
  | istore_n k =>
    obtain rfl : 1 = len := by simpa [ea_len] using hlen
    simp only [ea_p] at hp
    split at hp
    · split at hp
      · rename_i a S hk
        cases hp
        obtain ⟨v, t, rfl, ⟨x, rfl, hx⟩, hs1⟩ := ea_pop hs
        obtain ⟨vl, h1, h2⟩ := hl
        exact lv_istore_n hexec hb hdg rfl h2 hk rfl (fun ls' h3 => kk _ _ ⟨_, ea_rl_s1 h1 _ ⟨_, rfl, hx⟩, h3⟩ hs1)
      · cases hp
    · cases hp
  | istore k =>
    obtain rfl : 2 = len := by simpa [ea_len] using hlen
    simp only [ea_p] at hp
    split at hp
    · split at hp
      · rename_i a S hk
        cases hp
        obtain ⟨v, t, rfl, ⟨x, rfl, hx⟩, hs1⟩ := ea_pop hs
        obtain ⟨vl, h1, h2⟩ := hl
        exact lv_istore hexec hb hdg h2 hk rfl (fun ls' h3 => kk _ _ ⟨_, ea_rl_s1 h1 _ ⟨_, rfl, hx⟩, h3⟩ hs1)
      · cases hp
    · cases hp
  | lstore_n k =>
    obtain rfl : 1 = len := by simpa [ea_len] using hlen
    simp only [ea_p] at hp
    split at hp
    · split at hp
      · rename_i a S hk
        cases hp
        obtain ⟨v, t, rfl, hv, hs1⟩ := ea_pop hs
        obtain ⟨vl, h1, h2⟩ := hl
        cases a with
        | none =>
          obtain ⟨x, rfl⟩ := hv
          exact lv_lstore_n hexec hb hdg rfl h2 hk rfl (fun ls' h3 => kk _ _ ⟨_, ea_rl_s2 h1 _ ⟨_, rfl⟩, h3⟩ hs1)
        | some y =>
          obtain rfl : v = .long y := hv
          exact lv_lstore_n hexec hb hdg rfl h2 hk rfl (fun ls' h3 => kk _ _ ⟨_, ea_rl_s2 h1 _ rfl, h3⟩ hs1)
      · cases hp
    · cases hp
  | lstore k =>
    obtain rfl : 2 = len := by simpa [ea_len] using hlen
    simp only [ea_p] at hp
    split at hp
    · split at hp
      · rename_i a S hk
        cases hp
        obtain ⟨v, t, rfl, hv, hs1⟩ := ea_pop hs
        obtain ⟨vl, h1, h2⟩ := hl
        cases a with
        | none =>
          obtain ⟨x, rfl⟩ := hv
          exact lv_lstore hexec hb hdg h2 hk rfl (fun ls' h3 => kk _ _ ⟨_, ea_rl_s2 h1 _ ⟨_, rfl⟩, h3⟩ hs1)
        | some y =>
          obtain rfl : v = .long y := hv
          exact lv_lstore hexec hb hdg h2 hk rfl (fun ls' h3 => kk _ _ ⟨_, ea_rl_s2 h1 _ rfl, h3⟩ hs1)
      · cases hp
    · cases hp
  | iinc k n =>
    obtain rfl : 3 = len := by simpa [ea_len] using hlen
    simp only [ea_p] at hp
    split at hp
    · split at hp
      · rename_i a hk hlt
        cases hp
        obtain ⟨vl, h1, h2⟩ := hl
        obtain ⟨j, hj⟩ := ea_lk_mem hk
        obtain ⟨⟨i', v⟩, h3, h4, x, h5, hx⟩ := ea_rl_get h1 hj
        dsimp only at h4 h5
        subst h4
        subst h5
        exact lv_iinc hexec hb hdg h2 h3 rfl hlt rfl (fun ls' h6 => kk _ _ ⟨_, ea_rl_s1 h1 _ ⟨_, rfl, ea_i1_ok (fun x => x + Int32.ofInt n) hx⟩, h6⟩ hs)
      · cases hp
    · cases hp
  | iadd =>
    obtain rfl : 1 = len := by simpa [ea_len] using hlen
    simp only [ea_p] at hp
    split at hp
    · cases hp
      obtain ⟨_, _, rfl, ⟨y, rfl, hy⟩, hs1⟩ := ea_pop hs
      obtain ⟨_, _, rfl, ⟨x, rfl, hx⟩, hs2⟩ := ea_pop hs1
      exact lv_iadd hexec hb hdg (kk _ _ hl ⟨⟨_, rfl, ea_i2_ok (fun x y => x + y) hx hy⟩, hs2⟩)
    · cases hp
  | isub =>
    obtain rfl : 1 = len := by simpa [ea_len] using hlen
    simp only [ea_p] at hp
    split at hp
    · cases hp
      obtain ⟨_, _, rfl, ⟨y, rfl, hy⟩, hs1⟩ := ea_pop hs
      obtain ⟨_, _, rfl, ⟨x, rfl, hx⟩, hs2⟩ := ea_pop hs1
      exact lv_isub hexec hb hdg (kk _ _ hl ⟨⟨_, rfl, ea_i2_ok (fun x y => x - y) hx hy⟩, hs2⟩)
    · cases hp
  | imul =>
    obtain rfl : 1 = len := by simpa [ea_len] using hlen
    simp only [ea_p] at hp
    split at hp
    · cases hp
      obtain ⟨_, _, rfl, ⟨y, rfl, hy⟩, hs1⟩ := ea_pop hs
      obtain ⟨_, _, rfl, ⟨x, rfl, hx⟩, hs2⟩ := ea_pop hs1
      exact lv_imul hexec hb hdg (kk _ _ hl ⟨⟨_, rfl, ea_i2_ok (fun x y => x * y) hx hy⟩, hs2⟩)
    · cases hp
  | iand =>
    obtain rfl : 1 = len := by simpa [ea_len] using hlen
    simp only [ea_p] at hp
    split at hp
    · cases hp
      obtain ⟨_, _, rfl, ⟨y, rfl, hy⟩, hs1⟩ := ea_pop hs
      obtain ⟨_, _, rfl, ⟨x, rfl, hx⟩, hs2⟩ := ea_pop hs1
      exact lv_iand hexec hb hdg (kk _ _ hl ⟨⟨_, rfl, ea_i2_ok (fun x y => x &&& y) hx hy⟩, hs2⟩)
    · cases hp
  | ior =>
    obtain rfl : 1 = len := by simpa [ea_len] using hlen
    simp only [ea_p] at hp
    split at hp
    · cases hp
      obtain ⟨_, _, rfl, ⟨y, rfl, hy⟩, hs1⟩ := ea_pop hs
      obtain ⟨_, _, rfl, ⟨x, rfl, hx⟩, hs2⟩ := ea_pop hs1
      exact lv_ior hexec hb hdg (kk _ _ hl ⟨⟨_, rfl, ea_i2_ok (fun x y => x ||| y) hx hy⟩, hs2⟩)
    · cases hp
  | ixor =>
    obtain rfl : 1 = len := by simpa [ea_len] using hlen
    simp only [ea_p] at hp
    split at hp
    · cases hp
      obtain ⟨_, _, rfl, ⟨y, rfl, hy⟩, hs1⟩ := ea_pop hs
      obtain ⟨_, _, rfl, ⟨x, rfl, hx⟩, hs2⟩ := ea_pop hs1
      exact lv_ixor hexec hb hdg (kk _ _ hl ⟨⟨_, rfl, ea_i2_ok (fun x y => x ^^^ y) hx hy⟩, hs2⟩)
    · cases hp
  | ishl =>
    obtain rfl : 1 = len := by simpa [ea_len] using hlen
    simp only [ea_p] at hp
    split at hp
    · cases hp
      obtain ⟨_, _, rfl, ⟨y, rfl, hy⟩, hs1⟩ := ea_pop hs
      obtain ⟨_, _, rfl, ⟨x, rfl, hx⟩, hs2⟩ := ea_pop hs1
      exact lv_ishl hexec hb hdg (kk _ _ hl ⟨⟨_, rfl, ea_i2_ok (fun x y => x <<< (y &&& 31)) hx hy⟩, hs2⟩)
    · cases hp
  | ishr =>
    obtain rfl : 1 = len := by simpa [ea_len] using hlen
    simp only [ea_p] at hp
    split at hp
    · cases hp
      obtain ⟨_, _, rfl, ⟨y, rfl, hy⟩, hs1⟩ := ea_pop hs
      obtain ⟨_, _, rfl, ⟨x, rfl, hx⟩, hs2⟩ := ea_pop hs1
      exact lv_ishr hexec hb hdg (kk _ _ hl ⟨⟨_, rfl, ea_i2_ok (fun x y => x >>> (y &&& 31)) hx hy⟩, hs2⟩)
    · cases hp
  | iushr =>
    obtain rfl : 1 = len := by simpa [ea_len] using hlen
    simp only [ea_p] at hp
    split at hp
    · cases hp
      obtain ⟨_, _, rfl, ⟨y, rfl, hy⟩, hs1⟩ := ea_pop hs
      obtain ⟨_, _, rfl, ⟨x, rfl, hx⟩, hs2⟩ := ea_pop hs1
      exact lv_iushr hexec hb hdg rfl (kk _ _ hl ⟨⟨_, rfl, ea_i2_ok (fun x y => (x.toUInt32 >>> (y.toUInt32 &&& Int32.toUInt32 31)).toInt32) hx hy⟩, hs2⟩)
    · cases hp
  | ineg =>
    obtain rfl : 1 = len := by simpa [ea_len] using hlen
    simp only [ea_p] at hp
    split at hp
    · cases hp
      obtain ⟨_, _, rfl, ⟨x, rfl, hx⟩, hs1⟩ := ea_pop hs
      exact lv_ineg hexec hb hdg (kk _ _ hl ⟨⟨_, rfl, ea_i1_ok (fun x => -x) hx⟩, hs1⟩)
    · cases hp
  | idiv =>
    obtain rfl : 1 = len := by simpa [ea_len] using hlen
    simp only [ea_p] at hp
    split at hp
    · split at hp
      · cases hp
      · rename_i y a S h0
        cases hp
        obtain ⟨_, _, rfl, ⟨z, rfl, hy⟩, hs1⟩ := ea_pop hs
        obtain ⟨_, _, rfl, ⟨x, rfl, hx⟩, hs2⟩ := ea_pop hs1
        obtain rfl : z = y := hy
        exact lv_idiv hexec hb hdg h0 (kk _ _ hl ⟨⟨_, rfl, ea_i2_ok (fun x y => x / y) hx (rfl : ea_gi (.inl z) z)⟩, hs2⟩)
    · cases hp
  | irem =>
    obtain rfl : 1 = len := by simpa [ea_len] using hlen
    simp only [ea_p] at hp
    split at hp
    · split at hp
      · cases hp
      · rename_i y a S h0
        cases hp
        obtain ⟨_, _, rfl, ⟨z, rfl, hy⟩, hs1⟩ := ea_pop hs
        obtain ⟨_, _, rfl, ⟨x, rfl, hx⟩, hs2⟩ := ea_pop hs1
        obtain rfl : z = y := hy
        exact lv_irem hexec hb hdg h0 (kk _ _ hl ⟨⟨_, rfl, ea_i2_ok (fun x y => x - x / y * y) hx (rfl : ea_gi (.inl z) z)⟩, hs2⟩)
    · cases hp
  | i2b =>
    obtain rfl : 1 = len := by simpa [ea_len] using hlen
    simp only [ea_p] at hp
    split at hp
    · cases hp
      obtain ⟨_, _, rfl, ⟨x, rfl, hx⟩, hs1⟩ := ea_pop hs
      exact lv_i2b hexec hb hdg rfl (kk _ _ hl ⟨⟨_, rfl, ea_i1_ok (fun x => x.toInt8.toInt32) hx⟩, hs1⟩)
    · cases hp
  | i2l =>
    obtain rfl : 1 = len := by simpa [ea_len] using hlen
    simp only [ea_p] at hp
    split at hp
    · cases hp
      obtain ⟨_, _, rfl, ⟨x, rfl, hx⟩, hs1⟩ := ea_pop hs
      obtain rfl : x = _ := hx
      exact lv_i2l hexec hb hdg rfl (kk _ _ hl ⟨rfl, hs1⟩)
    · cases hp
      obtain ⟨_, _, rfl, ⟨x, rfl, hx⟩, hs1⟩ := ea_pop hs
      exact lv_i2l hexec hb hdg rfl (kk _ _ hl ⟨⟨_, rfl⟩, hs1⟩)
    · cases hp
  | l2i =>
    obtain rfl : 1 = len := by simpa [ea_len] using hlen
    simp only [ea_p] at hp
    split at hp
    · rename_i x S
      cases hp
      obtain ⟨v, _, rfl, hv, hs1⟩ := ea_pop hs
      obtain rfl : v = .long x := hv
      exact lv_l2i hexec hb hdg rfl (kk _ _ hl ⟨⟨_, rfl, rfl⟩, hs1⟩)
    · cases hp
      obtain ⟨_, _, rfl, ⟨x, rfl⟩, hs1⟩ := ea_pop hs
      exact lv_l2i hexec hb hdg rfl (kk _ _ hl ⟨⟨_, rfl, ea_any_ok _⟩, hs1⟩)
    · cases hp
  | ladd =>
    obtain rfl : 1 = len := by simpa [ea_len] using hlen
    simp only [ea_p] at hp
    split at hp
    · cases hp
      obtain ⟨_, _, rfl, hv, hs1⟩ := ea_pop hs
      obtain ⟨y, rfl, hy⟩ := ea_gl hv
      obtain ⟨_, _, rfl, hv, hs2⟩ := ea_pop hs1
      obtain ⟨x, rfl, hx⟩ := ea_gl hv
      exact lv_ladd hexec hb hdg (kk _ _ hl ⟨ea_lg (ea_l2_ok (fun x y => x + y) hx hy), hs2⟩)
    · cases hp
  | lsub =>
    obtain rfl : 1 = len := by simpa [ea_len] using hlen
    simp only [ea_p] at hp
    split at hp
    · cases hp
      obtain ⟨_, _, rfl, hv, hs1⟩ := ea_pop hs
      obtain ⟨y, rfl, hy⟩ := ea_gl hv
      obtain ⟨_, _, rfl, hv, hs2⟩ := ea_pop hs1
      obtain ⟨x, rfl, hx⟩ := ea_gl hv
      exact lv_lsub hexec hb hdg (kk _ _ hl ⟨ea_lg (ea_l2_ok (fun x y => x - y) hx hy), hs2⟩)
    · cases hp
  | land =>
    obtain rfl : 1 = len := by simpa [ea_len] using hlen
    simp only [ea_p] at hp
    split at hp
    · cases hp
      obtain ⟨_, _, rfl, hv, hs1⟩ := ea_pop hs
      obtain ⟨y, rfl, hy⟩ := ea_gl hv
      obtain ⟨_, _, rfl, hv, hs2⟩ := ea_pop hs1
      obtain ⟨x, rfl, hx⟩ := ea_gl hv
      exact lv_land hexec hb hdg (kk _ _ hl ⟨ea_lg (ea_l2_ok (fun x y => x &&& y) hx hy), hs2⟩)
    · cases hp
  | lor =>
    obtain rfl : 1 = len := by simpa [ea_len] using hlen
    simp only [ea_p] at hp
    split at hp
    · cases hp
      obtain ⟨_, _, rfl, hv, hs1⟩ := ea_pop hs
      obtain ⟨y, rfl, hy⟩ := ea_gl hv
      obtain ⟨_, _, rfl, hv, hs2⟩ := ea_pop hs1
      obtain ⟨x, rfl, hx⟩ := ea_gl hv
      exact lv_lor hexec hb hdg (kk _ _ hl ⟨ea_lg (ea_l2_ok (fun x y => x ||| y) hx hy), hs2⟩)
    · cases hp
  | lxor =>
    obtain rfl : 1 = len := by simpa [ea_len] using hlen
    simp only [ea_p] at hp
    split at hp
    · cases hp
      obtain ⟨_, _, rfl, hv, hs1⟩ := ea_pop hs
      obtain ⟨y, rfl, hy⟩ := ea_gl hv
      obtain ⟨_, _, rfl, hv, hs2⟩ := ea_pop hs1
      obtain ⟨x, rfl, hx⟩ := ea_gl hv
      exact lv_lxor hexec hb hdg (kk _ _ hl ⟨ea_lg (ea_l2_ok (fun x y => x ^^^ y) hx hy), hs2⟩)
    · cases hp
  | lshl =>
    obtain rfl : 1 = len := by simpa [ea_len] using hlen
    simp only [ea_p] at hp
    split at hp
    · rename_i y x S
      cases hp
      obtain ⟨_, _, rfl, ⟨z, rfl, hz⟩, hs1⟩ := ea_pop hs
      obtain ⟨v, _, rfl, hv, hs2⟩ := ea_pop hs1
      obtain rfl : z = y := hz
      obtain rfl : v = .long x := hv
      exact lv_lshl hexec hb hdg rfl (kk _ _ hl ⟨rfl, hs2⟩)
    · cases hp
      obtain ⟨_, _, rfl, ⟨z, rfl, hz⟩, hs1⟩ := ea_pop hs
      obtain ⟨_, _, rfl, hv, hs2⟩ := ea_pop hs1
      obtain ⟨x, rfl, hx⟩ := ea_gl hv
      exact lv_lshl hexec hb hdg rfl (kk _ _ hl ⟨⟨_, rfl⟩, hs2⟩)
    · cases hp
  | lshr =>
    obtain rfl : 1 = len := by simpa [ea_len] using hlen
    simp only [ea_p] at hp
    split at hp
    · rename_i y x S
      cases hp
      obtain ⟨_, _, rfl, ⟨z, rfl, hz⟩, hs1⟩ := ea_pop hs
      obtain ⟨v, _, rfl, hv, hs2⟩ := ea_pop hs1
      obtain rfl : z = y := hz
      obtain rfl : v = .long x := hv
      exact lv_lshr hexec hb hdg rfl (kk _ _ hl ⟨rfl, hs2⟩)
    · cases hp
      obtain ⟨_, _, rfl, ⟨z, rfl, hz⟩, hs1⟩ := ea_pop hs
      obtain ⟨_, _, rfl, hv, hs2⟩ := ea_pop hs1
      obtain ⟨x, rfl, hx⟩ := ea_gl hv
      exact lv_lshr hexec hb hdg rfl (kk _ _ hl ⟨⟨_, rfl⟩, hs2⟩)
    · cases hp
  | lushr =>
    obtain rfl : 1 = len := by simpa [ea_len] using hlen
    simp only [ea_p] at hp
    split at hp
    · rename_i y x S
      cases hp
      obtain ⟨_, _, rfl, ⟨z, rfl, hz⟩, hs1⟩ := ea_pop hs
      obtain ⟨v, _, rfl, hv, hs2⟩ := ea_pop hs1
      obtain rfl : z = y := hz
      obtain rfl : v = .long x := hv
      exact lv_lushr hexec hb hdg rfl (kk _ _ hl ⟨rfl, hs2⟩)
    · cases hp
      obtain ⟨_, _, rfl, ⟨z, rfl, hz⟩, hs1⟩ := ea_pop hs
      obtain ⟨_, _, rfl, hv, hs2⟩ := ea_pop hs1
      obtain ⟨x, rfl, hx⟩ := ea_gl hv
      exact lv_lushr hexec hb hdg rfl (kk _ _ hl ⟨⟨_, rfl⟩, hs2⟩)
    · cases hp
  | lcmp =>
    obtain rfl : 1 = len := by simpa [ea_len] using hlen
    simp only [ea_p] at hp
    split at hp
    · rename_i y x S
      cases hp
      obtain ⟨v, _, rfl, hv, hs1⟩ := ea_pop hs
      obtain ⟨u, _, rfl, hu, hs2⟩ := ea_pop hs1
      obtain rfl : v = .long y := hv
      obtain rfl : u = .long x := hu
      exact W.lcmp hexec hb hdg (kk _ _ hl ⟨⟨_, rfl, rfl⟩, hs2⟩)
    · cases hp
      obtain ⟨_, _, rfl, hv, hs1⟩ := ea_pop hs
      obtain ⟨y, rfl, -⟩ := ea_gl hv
      obtain ⟨_, _, rfl, hv, hs2⟩ := ea_pop hs1
      obtain ⟨x, rfl, -⟩ := ea_gl hv
      exact W.lcmp hexec hb hdg (kk _ _ hl ⟨⟨_, rfl, ea_any_ok _⟩, hs2⟩)
    · cases hp
  | dup =>
    obtain rfl : 1 = len := by simpa [ea_len] using hlen
    simp only [ea_p] at hp
    split at hp
    · split at hp
      · rename_i a S h1
        cases hp
        obtain ⟨v, _, rfl, hv, hs1⟩ := ea_pop hs
        exact lv_dup hexec hb hdg ((ea_gv_cat hv).trans h1) (kk _ _ hl ⟨hv, hv, hs1⟩)
      · cases hp
    · cases hp
  | pop =>
    obtain rfl : 1 = len := by simpa [ea_len] using hlen
    simp only [ea_p] at hp
    split at hp
    · split at hp
      · rename_i a S h1
        cases hp
        obtain ⟨v, _, rfl, hv, hs1⟩ := ea_pop hs
        exact lv_pop hexec hb hdg ((ea_gv_cat hv).trans h1) (kk _ _ hl hs1)
      · cases hp
    · cases hp
  | pop2 =>
    obtain rfl : 1 = len := by simpa [ea_len] using hlen
    simp only [ea_p] at hp
    split at hp
    · split at hp
      · rename_i a S h1
        cases hp
        obtain ⟨v, _, rfl, hv, hs1⟩ := ea_pop hs
        exact lv_pop2_2 hexec hb hdg ((ea_gv_cat hv).trans h1) (kk _ _ hl hs1)
      · cases hp
    · cases hp
  | dup_x1 =>
    obtain rfl : 1 = len := by simpa [ea_len] using hlen
    simp only [ea_p] at hp
    split at hp
    · split at hp
      · rename_i a b S h1
        cases hp
        obtain ⟨v, _, rfl, hv, hs1⟩ := ea_pop hs
        obtain ⟨u, _, rfl, hu, hs2⟩ := ea_pop hs1
        exact lv_dup_x1 hexec hb hdg ((ea_gv_cat hv).trans h1.1) ((ea_gv_cat hu).trans h1.2) (kk _ _ hl ⟨hv, hu, hv, hs2⟩)
      · cases hp
    · cases hp
  | dup_x2 =>
    obtain rfl : 1 = len := by simpa [ea_len] using hlen
    simp only [ea_p] at hp
    split at hp
    · split at hp
      · rename_i a b d S h1
        cases hp
        obtain ⟨v, _, rfl, hv, hs1⟩ := ea_pop hs
        obtain ⟨u, _, rfl, hu, hs2⟩ := ea_pop hs1
        obtain ⟨r, _, rfl, hr, hs3⟩ := ea_pop hs2
        exact lv_dup_x2 hexec hb hdg ((ea_gv_cat hv).trans h1.1) ((ea_gv_cat hu).trans h1.2.1) ((ea_gv_cat hr).trans h1.2.2) (kk _ _ hl ⟨hv, hu, hr, hv, hs3⟩)
      · cases hp
    · cases hp
  | dup2 =>
    obtain rfl : 1 = len := by simpa [ea_len] using hlen
    simp only [ea_p] at hp
    split at hp
    · split at hp
      · rename_i a b S h1
        cases hp
        obtain ⟨v, _, rfl, hv, hs1⟩ := ea_pop hs
        obtain ⟨u, _, rfl, hu, hs2⟩ := ea_pop hs1
        exact lv_dup2_11 hexec hb hdg ((ea_gv_cat hv).trans h1.1) ((ea_gv_cat hu).trans h1.2) (kk _ _ hl ⟨hv, hu, hv, hu, hs2⟩)
      · cases hp
    · cases hp
  | goto off =>
    obtain rfl : 3 = len := by simpa [ea_len] using hlen
    simp only [ea_p] at hp
    split at hp
    · rename_i t ht
      cases hp
      exact lv_goto hexec hb hdg (ea_to_ok ht) (kk _ _ hl hs)
    · cases hp
  | ifCond cnd off =>
    obtain rfl : 3 = len := by simpa [ea_len] using hlen
    simp only [ea_p] at hp
    split at hp
    · split at hp
      · rename_i hc ht
        cases hp
        obtain ⟨_, _, rfl, ⟨x, rfl, hx⟩, hs1⟩ := ea_pop hs
        have hq := ea_if_ok hc hx (rfl : ea_gi (.inl 0) 0)
        cases cnd with
        | eq => exact lv_if_eq hexec hb hdg (ea_to_ok ht) (fun _ => kk _ _ hl hs1) (fun h => absurd (hq.mpr rfl) (by simpa [ea_cp] using h))
        | ne => exact lv_if_ne hexec hb hdg (ea_to_ok ht) (fun _ => kk _ _ hl hs1) (fun h => absurd (hq.mpr rfl) (by simpa [ea_cp] using h))
        | lt => exact lv_if_lt hexec hb hdg (ea_to_ok ht) (fun _ => kk _ _ hl hs1) (fun h => absurd (hq.mpr rfl) (by simpa [ea_cp] using h))
        | ge => exact lv_if_ge hexec hb hdg (ea_to_ok ht) (fun _ => kk _ _ hl hs1) (fun h => absurd (hq.mpr rfl) (by simpa [ea_cp] using h))
        | gt => exact lv_if_gt hexec hb hdg (ea_to_ok ht) (fun _ => kk _ _ hl hs1) (fun h => absurd (hq.mpr rfl) (by simpa [ea_cp] using h))
        | le => exact lv_if_le hexec hb hdg (ea_to_ok ht) (fun _ => kk _ _ hl hs1) (fun h => absurd (hq.mpr rfl) (by simpa [ea_cp] using h))
      · rename_i hc ht
        cases hp
        obtain ⟨_, _, rfl, ⟨x, rfl, hx⟩, hs1⟩ := ea_pop hs
        have hq := ea_if_ok hc hx (rfl : ea_gi (.inl 0) 0)
        cases cnd with
        | eq => exact lv_if_eq hexec hb hdg (ea_to_ok ht) (fun h => absurd (hq.mp (by simpa [ea_cp] using h)) (by decide)) (fun _ => kk _ _ hl hs1)
        | ne => exact lv_if_ne hexec hb hdg (ea_to_ok ht) (fun h => absurd (hq.mp (by simpa [ea_cp] using h)) (by decide)) (fun _ => kk _ _ hl hs1)
        | lt => exact lv_if_lt hexec hb hdg (ea_to_ok ht) (fun h => absurd (hq.mp (by simpa [ea_cp] using h)) (by decide)) (fun _ => kk _ _ hl hs1)
        | ge => exact lv_if_ge hexec hb hdg (ea_to_ok ht) (fun h => absurd (hq.mp (by simpa [ea_cp] using h)) (by decide)) (fun _ => kk _ _ hl hs1)
        | gt => exact lv_if_gt hexec hb hdg (ea_to_ok ht) (fun h => absurd (hq.mp (by simpa [ea_cp] using h)) (by decide)) (fun _ => kk _ _ hl hs1)
        | le => exact lv_if_le hexec hb hdg (ea_to_ok ht) (fun h => absurd (hq.mp (by simpa [ea_cp] using h)) (by decide)) (fun _ => kk _ _ hl hs1)
      · cases hp
    · cases hp
  | if_icmp cnd off =>
    obtain rfl : 3 = len := by simpa [ea_len] using hlen
    simp only [ea_p] at hp
    split at hp
    · split at hp
      · rename_i hc ht
        cases hp
        obtain ⟨_, _, rfl, ⟨y, rfl, hy⟩, hs1⟩ := ea_pop hs
        obtain ⟨_, _, rfl, ⟨x, rfl, hx⟩, hs2⟩ := ea_pop hs1
        have hq := ea_if_ok hc hx hy
        cases cnd with
        | eq => exact lv_icmp_eq hexec hb hdg (ea_to_ok ht) (fun _ => kk _ _ hl hs2) (fun h => absurd (hq.mpr rfl) (by simpa [ea_cp] using h))
        | ne => exact lv_icmp_ne hexec hb hdg (ea_to_ok ht) (fun _ => kk _ _ hl hs2) (fun h => absurd (hq.mpr rfl) (by simpa [ea_cp] using h))
        | lt => exact lv_icmp_lt hexec hb hdg (ea_to_ok ht) (fun _ => kk _ _ hl hs2) (fun h => absurd (hq.mpr rfl) (by simpa [ea_cp] using h))
        | ge => exact lv_icmp_ge hexec hb hdg (ea_to_ok ht) (fun _ => kk _ _ hl hs2) (fun h => absurd (hq.mpr rfl) (by simpa [ea_cp] using h))
        | gt => exact lv_icmp_gt hexec hb hdg (ea_to_ok ht) (fun _ => kk _ _ hl hs2) (fun h => absurd (hq.mpr rfl) (by simpa [ea_cp] using h))
        | le => exact lv_icmp_le hexec hb hdg (ea_to_ok ht) (fun _ => kk _ _ hl hs2) (fun h => absurd (hq.mpr rfl) (by simpa [ea_cp] using h))
      · rename_i hc ht
        cases hp
        obtain ⟨_, _, rfl, ⟨y, rfl, hy⟩, hs1⟩ := ea_pop hs
        obtain ⟨_, _, rfl, ⟨x, rfl, hx⟩, hs2⟩ := ea_pop hs1
        have hq := ea_if_ok hc hx hy
        cases cnd with
        | eq => exact lv_icmp_eq hexec hb hdg (ea_to_ok ht) (fun h => absurd (hq.mp (by simpa [ea_cp] using h)) (by decide)) (fun _ => kk _ _ hl hs2)
        | ne => exact lv_icmp_ne hexec hb hdg (ea_to_ok ht) (fun h => absurd (hq.mp (by simpa [ea_cp] using h)) (by decide)) (fun _ => kk _ _ hl hs2)
        | lt => exact lv_icmp_lt hexec hb hdg (ea_to_ok ht) (fun h => absurd (hq.mp (by simpa [ea_cp] using h)) (by decide)) (fun _ => kk _ _ hl hs2)
        | ge => exact lv_icmp_ge hexec hb hdg (ea_to_ok ht) (fun h => absurd (hq.mp (by simpa [ea_cp] using h)) (by decide)) (fun _ => kk _ _ hl hs2)
        | gt => exact lv_icmp_gt hexec hb hdg (ea_to_ok ht) (fun h => absurd (hq.mp (by simpa [ea_cp] using h)) (by decide)) (fun _ => kk _ _ hl hs2)
        | le => exact lv_icmp_le hexec hb hdg (ea_to_ok ht) (fun h => absurd (hq.mp (by simpa [ea_cp] using h)) (by decide)) (fun _ => kk _ _ hl hs2)
      · cases hp
    · cases hp
  | tableswitch dflt lo hi offs =>
    simp only [ea_p] at hp
    split at hp
    · split at hp
      · rename_i off hw
        split at hp
        · rename_i t ht
          cases hp
          obtain ⟨_, _, rfl, ⟨x, rfl, hx⟩, hs1⟩ := ea_pop hs
          rcases ea_sw_ok hw hx with ⟨rfl, h1⟩ | ⟨h1, h2, h3⟩
          · exact lv_tableOut hexec hb hdg h1 (ea_to_ok ht) (kk _ _ hl hs1)
          · exact lv_tableIn hexec hb hdg h1 h2 h3 (ea_to_ok ht) (kk _ _ hl hs1)
        · cases hp
      · cases hp
    · cases hp
  | lookupswitch dflt ps =>
    simp only [ea_p] at hp
    split at hp
    · split at hp
      · rename_i x S ha
        split at hp
        · rename_i t ht
          cases hp
          obtain ⟨_, _, rfl, ⟨z, rfl, hz⟩, hs1⟩ := ea_pop hs
          obtain rfl : z = x := hz
          exact lv_lookup hexec hb hdg ha rfl (ea_to_ok ht) (kk _ _ hl hs1)
        · cases hp
      · cases hp
    · cases hp
  | _ => cases hp
end EAP
end
section
/-! THE ABSTRACT MACHINE, its cells -/
def ea_nt {α : Type} (l : List α) (n : Nat) : Option α := match l with
  | [] => none
  | a :: t => match n with
    | 0 => some a
    | k + 1 => ea_nt t k
theorem ea_nt_eq {α : Type} : ∀ (l : List α) (n : Nat), ea_nt l n = l[n]?
  | [], n => by simp [ea_nt]
  | a :: t, 0 => by simp [ea_nt]
  | a :: t, k + 1 => by simp [ea_nt, ea_nt_eq t k]
def ea_al (d : AV) (us : List (Nat × AV)) (j : Nat) : AV := match us with
  | [] => d
  | q :: t => bif Nat.beq q.1 j then q.2 else ea_al d t j
theorem ea_al_at (d : AV) (us : List (Nat × AV)) (k : Nat) (v : AV) (j : Nat) : ea_al d ((k, v) :: us) j = if j = k then v else ea_al d us j := by
  show (bif Nat.beq k j then v else ea_al d us j) = _
  by_cases h : j = k
  · subst h
    rw [if_pos rfl, Nat.beq_refl]
    rfl
  · rw [if_neg h]
    cases hb : Nat.beq k j with
    | true => exact absurd (Nat.eq_of_beq_eq_true hb).symm h
    | false => rfl
/-- an index within an array's length -/
def ea_ix (i : AI) (n : Nat) : Option Nat := match i with
  | .inl x => if 0 ≤ x.toInt ∧ x.toInt < n then some x.toNatClampNeg else none
  | .inr _ => none
theorem ea_ix_ok {i : AI} {n j : Nat} (h : ea_ix i n = some j) {x : Int32} (hx : ea_gi i x) : vp_in x n ∧ x.toNatClampNeg = j ∧ j < n := by
  match i, h, hx with
  | .inl y, h, hx =>
    obtain rfl : x = y := hx
    simp only [ea_ix] at h
    split at h
    · rename_i hin
      cases h
      have h1 := vp_in_iff.mpr hin
      exact ⟨h1, rfl, Nat.not_le.mp fun q => h1 (Or.inr q)⟩
    · cases h
/-- the type of an array's elements, by its kind -/
def ea_ty (cl : List vw_C) (t : Nat) : FieldType := match t with
  | 0 => .int
  | 1 => .long
  | 2 => .byte
  | n + 3 => .object (((cl[n]?).map (fun q => q.1)).getD "")
def ea_AT (cl : List vw_C) (U : State) (t : Nat) (cA : ClassId) : Prop := ArrOfT U cA (ea_ty cl t) ∧ va_RA U cA (ea_ty cl t)
def ea_cv (x : (Nat → Int32) ⊕ (Nat → Int64) ⊕ (Nat → UInt32) ⊕ (Nat → UInt64) ⊕ (Nat → Option Nat)) (j : Nat) : Value := match x with
  | .inl f => .int (f j)
  | .inr (.inl f) => .long (f j)
  | .inr (.inr (.inl f)) => .float (f j)
  | .inr (.inr (.inr (.inl f))) => .double (f j)
  | .inr (.inr (.inr (.inr f))) => va_rf (f j)
def ea_kd (t : Nat) (x : (Nat → Int32) ⊕ (Nat → Int64) ⊕ (Nat → UInt32) ⊕ (Nat → UInt64) ⊕ (Nat → Option Nat)) : Prop := match t with
  | 0 => ∃ f, x = .inl f
  | 1 => ∃ f, x = .inr (.inl f)
  | 2 => ∃ f, x = .inl f
  | _ + 3 => ∃ f, x = .inr (.inr (.inr (.inr f)))
/-- a cell and what it may be -/
def ea_gc (cl : List vw_C) (U : State) (ad : Nat × List Nat) (c : AC) (E : va_E) : Prop := match c, E with
  | .inl q, .inl a => a.2.1 = q.2.1 ∧ ea_AT cl U q.1 a.1 ∧ ea_kd q.1 a.2.2 ∧ ∀ j, j < q.2.1 → ea_gv ad (ea_al q.2.2.1 q.2.2.2 j) (ea_cv a.2.2 j)
  | .inr o, .inr b => o.1 = b.1 ∧ ea_rl (ea_gv ad) o.2 b.2
  | _, _ => False
theorem ea_AT_moved {cl : List vw_C} {u U : State} (hvm : u.vm.Alike U.vm) {t : Nat} {cA : ClassId} (h : ea_AT cl u t cA) : ea_AT cl U t cA := ⟨arrOfT_moved hvm h.1, h.2.moved hvm⟩
theorem ea_gc_moved {cl : List vw_C} {u U : State} (hvm : u.vm.Alike U.vm) {ad : Nat × List Nat} {c : AC} {E : va_E} (h : ea_gc cl u ad c E) : ea_gc cl U ad c E := by
  match c, E, h with
  | .inl q, .inl a, h => exact ⟨h.1, ea_AT_moved hvm h.2.1, h.2.2⟩
  | .inr o, .inr b, h => exact h
theorem ea_gc_mono {cl : List vw_C} {U : State} {ad ad' : Nat × List Nat} (hp : ad.1 = ad'.1 ∧ ∀ k q : Nat, ad.2[k]? = some q → ad'.2[k]? = some q) {c : AC} {E : va_E} (h : ea_gc cl U ad c E) : ea_gc cl U ad' c E := by
  match c, E, h with
  | .inl q, .inl a, h => exact ⟨h.1, h.2.1, h.2.2.1, fun j hj => ea_gv_mono hp (h.2.2.2 j hj)⟩
  | .inr o, .inr b, h => exact ⟨h.1, ea_rl_mono (fun a b hab => ea_gv_mono hp hab) h.2⟩
/-- the heap: the cells of the abstract machine are those of the world, place by place -/
def ea_H (cl : List vw_C) (U : State) (sb : Nat) (C : List AC) (ws : va_W) : Prop := ea_rl (fun c (q : Nat × va_E) => ea_gc cl U (sb, ws.map Prod.fst) c q.2) C ws
theorem ea_map_set {ws : va_W} {q0 a : Nat} {E E' : va_E} (h : ws[q0]? = some (a, E)) : (ws.set q0 (a, E')).map Prod.fst = ws.map Prod.fst := by
  apply List.ext_getElem?
  intro n
  rw [List.getElem?_map, List.getElem?_map, List.getElem?_set]
  by_cases hn : q0 = n
  · subst hn
    have hl : q0 < ws.length := (List.getElem?_eq_some_iff.mp h).1
    rw [if_pos rfl, if_pos hl, h]
    rfl
  · rw [if_neg hn]
theorem ea_H_moved {cl : List vw_C} {u U : State} (hvm : u.vm.Alike U.vm) {sb : Nat} {C : List AC} {ws : va_W} (h : ea_H cl u sb C ws) : ea_H cl U sb C ws := ea_rl_mono (fun _ _ hq => ea_gc_moved hvm hq) h
theorem ea_H_get {cl : List vw_C} {U : State} {sb : Nat} {C : List AC} {ws : va_W} (h : ea_H cl U sb C ws) {k : Nat} {c : AC} (hc : ea_nt C k = some c) : ∃ a E, ws[k]? = some (a, E) ∧ ea_gc cl U (sb, ws.map Prod.fst) c E ∧ (ws.map Prod.fst)[k]? = some a := by
  rw [ea_nt_eq] at hc
  obtain ⟨⟨a, E⟩, h1, h2⟩ := ea_rl_get h hc
  exact ⟨a, E, h1, h2, by rw [List.getElem?_map, h1]; rfl⟩
theorem ea_H_set {cl : List vw_C} {U : State} {sb : Nat} {C : List AC} {ws : va_W} (h : ea_H cl U sb C ws) {k a : Nat} {E E' : va_E} (hk : ws[k]? = some (a, E)) {c : AC} (hc : ea_gc cl U (sb, ws.map Prod.fst) c E') : ea_H cl U sb (C.set k c) (ws.set k (a, E')) := by
  unfold ea_H
  rw [ea_map_set hk]
  exact ea_rl_set h k hc
theorem ea_map_push {ws : va_W} {x : Nat × va_E} {sb : Nat} : (sb, ws.map Prod.fst).1 = (sb, (ws ++ [x]).map Prod.fst).1 ∧ ∀ k q : Nat, (sb, ws.map Prod.fst).2[k]? = some q → (sb, (ws ++ [x]).map Prod.fst).2[k]? = some q := by
  refine ⟨rfl, fun k q h => ?_⟩
  show ((ws ++ [x]).map Prod.fst)[k]? = some q
  have hl : k < (ws.map Prod.fst).length := (List.getElem?_eq_some_iff.mp h).1
  rw [List.map_append, List.getElem?_append_left hl]
  exact h
theorem ea_H_push {cl : List vw_C} {U : State} {sb : Nat} {C : List AC} {ws : va_W} (h : ea_H cl U sb C ws) {a : Nat} {E : va_E} {c : AC} (hc : ea_gc cl U (sb, (ws ++ [(a, E)]).map Prod.fst) c E) : ea_H cl U sb (C ++ [c]) (ws ++ [(a, E)]) :=
  ea_rl_app (ea_rl_mono (fun _ _ hq => ea_gc_mono ea_map_push hq) h) ⟨hc, trivial⟩
theorem ea_at_push {ws : va_W} {C : List AC} {cl : List vw_C} {U : State} {sb a : Nat} {E : va_E} (h : ea_H cl U sb C ws) : ((ws ++ [(a, E)]).map Prod.fst)[C.length]? = some a := by
  rw [ea_rl_len h, List.getElem?_map, List.getElem?_append_right (Nat.le_refl _), Nat.sub_self]
  rfl
end
section
/-! THE ABSTRACT MACHINE, its instructions on cells. pl: what a pool entry is (0: a field: class, place (not final); 5: a class to be made; 6: an int; 7: a long; 10: the class of an array's elements); fty: the kind of a field (0 int, 1 long, 2 boolean, 3 a reference); 20: a final field, 21: one of the own class -/
def ea_fit (t : Nat) (a : AV) : Bool := match t, a with
  | 0, .inl _ => true
  | 1, .inr (.inr (.inl _)) => true
  | 2, .inl (.inl x) => decide (x = 0) || decide (x = 1)
  | 3, .inr (.inl _) => true
  | _, _ => false
def ea_d (t : Nat) : AV := match t with
  | 1 => .inr (.inr (.inl (some 0)))
  | 3 => .inr (.inl none)
  | _ => .inl (.inl 0)
def ea_df (fty : Nat → Nat → Nat) (ci n : Nat) : List AV := (List.range n).map (fun k => ea_d (fty ci k))
/-- a field that may be read -/
def ea_rd (r : Option (Nat × Nat × Nat)) : Option (Nat × Nat) := match r with
  | some (0, q) => some q
  | some (20, q) => some q
  | some (21, q) => some q
  | _ => none
/-- a field that may be written: ini: in a constructor -/
def ea_wr (ini : Bool) (r : Option (Nat × Nat × Nat)) : Option (Nat × Nat) := match r with
  | some (0, q) => some q
  | some (21, q) => bif ini then some q else none
  | _ => none
def ea_h (ini : Bool) (pl : Nat → Option (Nat × Nat × Nat)) (fty : Nat → Nat → Nat) (scr : Option (List AI)) (i : Instr) (pc : Nat) (S : List AV) (C : List AC) : Option (Nat × List AV × Option (List AC) × Nat × Nat) :=
  match i with
  | .getfield x => match ea_rd (pl x), S with
    | some (ci, k), .inr (.inl (some a)) :: S => match ea_nt C a with
      | some (.inr o) => bif Nat.beq o.1 ci then match ea_nt o.2 k with
          | some v => some (pc + 3, v :: S, none, 0, 0)
          | none => none
        else none
      | _ => none
    | _, _ => none
  | .putfield x => match ea_wr ini (pl x), S with
    | some (ci, k), v :: .inr (.inl (some a)) :: S => match ea_nt C a with
      | some (.inr o) => bif Nat.beq o.1 ci && (ea_fit (fty ci k) v && Nat.blt k o.2.length) then some (pc + 3, S, some (C.set a (.inr (ci, o.2.set k v))), 0, 0) else none
      | _ => none
    | _, _ => none
  | .new x => match pl x with
    | some (5, ci, n) => some (pc + 3, .inr (.inl (some C.length)) :: S, some (C ++ [.inr (ci, ea_df fty ci n)]), 1, n)
    | some (22, ci, n) => some (pc + 3, .inr (.inl (some C.length)) :: S, some (C ++ [.inr (ci, ea_df fty ci n)]), 1, n)
    | _ => none
  | .newarray t => match S with
    | .inl (.inl x) :: S => if 0 ≤ x.toInt ∧ x.toInt ≤ 65536 then match t with
        | .int => some (pc + 2, .inr (.inl (some C.length)) :: S, some (C ++ [.inl (0, x.toNatClampNeg, .inl (.inl 0), [])]), 1, x.toNatClampNeg)
        | .long => some (pc + 2, .inr (.inl (some C.length)) :: S, some (C ++ [.inl (1, x.toNatClampNeg, .inr (.inr (.inl (some 0))), [])]), 1, x.toNatClampNeg)
        | .byte => some (pc + 2, .inr (.inl (some C.length)) :: S, some (C ++ [.inl (2, x.toNatClampNeg, .inl (.inl 0), [])]), 1, x.toNatClampNeg)
        | _ => none
      else none
    | _ => none
  | .anewarray x => match pl x, S with
    | some (10, ci, _), .inl (.inl x) :: S => if 0 ≤ x.toInt ∧ x.toInt ≤ 65536 then some (pc + 3, .inr (.inl (some C.length)) :: S, some (C ++ [.inl (ci + 3, x.toNatClampNeg, .inr (.inl none), [])]), 1, x.toNatClampNeg) else none
    | some (22, ci, _), .inl (.inl x) :: S => if 0 ≤ x.toInt ∧ x.toInt ≤ 65536 then some (pc + 3, .inr (.inl (some C.length)) :: S, some (C ++ [.inl (ci + 3, x.toNatClampNeg, .inr (.inl none), [])]), 1, x.toNatClampNeg) else none
    | _, _ => none
  | .arraylength => match S with
    | .inr (.inl (some a)) :: S => match ea_nt C a with
      | some (.inl q) => some (pc + 1, .inl (.inl (Int32.ofNat q.2.1)) :: S, none, 0, 0)
      | _ => none
    | .inr (.inr (.inr true)) :: S => match scr with
      | some X => some (pc + 1, .inl (.inl (Int32.ofNat X.length)) :: S, none, 0, 0)
      | none => none
    | _ => none
  | .iaload => match S with
    | .inl i :: .inr (.inl (some a)) :: S => match ea_nt C a with
      | some (.inl (0, n, d, us)) => match ea_ix i n with
        | some j => match ea_al d us j with
          | .inl v => some (pc + 1, .inl v :: S, none, 0, 0)
          | _ => none
        | none => none
      | _ => none
    | .inl i :: .inr (.inr (.inr true)) :: S => match scr with
      | some X => match ea_ix i X.length with
        | some j => match ea_nt X j with
          | some v => some (pc + 1, .inl v :: S, none, 0, 0)
          | none => none
        | none => none
      | none => none
    | _ => none
  | .baload => match S with
    | .inl i :: .inr (.inl (some a)) :: S => match ea_nt C a with
      | some (.inl (2, n, d, us)) => match ea_ix i n with
        | some j => match ea_al d us j with
          | .inl v => some (pc + 1, .inl v :: S, none, 0, 0)
          | _ => none
        | none => none
      | _ => none
    | _ => none
  | .laload => match S with
    | .inl i :: .inr (.inl (some a)) :: S => match ea_nt C a with
      | some (.inl (1, n, d, us)) => match ea_ix i n with
        | some j => match ea_al d us j with
          | .inr (.inr (.inl v)) => some (pc + 1, .inr (.inr (.inl v)) :: S, none, 0, 0)
          | _ => none
        | none => none
      | _ => none
    | _ => none
  | .aaload => match S with
    | .inl i :: .inr (.inl (some a)) :: S => match ea_nt C a with
      | some (.inl (_ + 3, n, d, us)) => match ea_ix i n with
        | some j => match ea_al d us j with
          | .inr (.inl (some v)) => some (pc + 1, .inr (.inl (some v)) :: S, none, 0, 0)
          | _ => none
        | none => none
      | _ => none
    | _ => none
  | .iastore => match S with
    | .inl v :: .inl i :: .inr (.inl (some a)) :: S => match ea_nt C a with
      | some (.inl (0, n, d, us)) => match ea_ix i n with
        | some j => some (pc + 1, S, some (C.set a (.inl (0, n, d, (j, .inl v) :: us))), 0, 0)
        | none => none
      | _ => none
    | _ => none
  | .bastore => match S with
    | .inl v :: .inl i :: .inr (.inl (some a)) :: S => match ea_nt C a with
      | some (.inl (2, n, d, us)) => match ea_ix i n with
        | some j => some (pc + 1, S, some (C.set a (.inl (2, n, d, (j, .inl (ea_i1 (fun x => vp_nar .byte x) v)) :: us))), 0, 0)
        | none => none
      | _ => none
    | _ => none
  | .lastore => match S with
    | .inr (.inr (.inl v)) :: .inl i :: .inr (.inl (some a)) :: S => match ea_nt C a with
      | some (.inl (1, n, d, us)) => match ea_ix i n with
        | some j => some (pc + 1, S, some (C.set a (.inl (1, n, d, (j, .inr (.inr (.inl v))) :: us))), 0, 0)
        | none => none
      | _ => none
    | _ => none
  | .aastore => match S with
    | .inr (.inl (some v)) :: .inl i :: .inr (.inl (some a)) :: S => match ea_nt C a, ea_nt C v with
      | some (.inl (t + 3, n, d, us)), some (.inr o) => match ea_ix i n with
        | some j => bif Nat.beq o.1 t then some (pc + 1, S, some (C.set a (.inl (t + 3, n, d, (j, .inr (.inl (some v))) :: us))), 0, 0) else none
        | none => none
      | _, _ => none
    | _ => none
  | .ldc x => match pl x with
    | some (6, v, _) => some (pc + 2, .inl (.inl (Int32.ofNat v)) :: S, none, 0, 0)
    | _ => none
  | .ldc_w x => match pl x with
    | some (6, v, _) => some (pc + 3, .inl (.inl (Int32.ofNat v)) :: S, none, 0, 0)
    | _ => none
  | .ldc2_w x => match pl x with
    | some (7, v, _) => some (pc + 3, .inr (.inr (.inl (some (Int64.ofNat v)))) :: S, none, 0, 0)
    | _ => none
  | _ => none
end
section
theorem ea_ty_q {cl : List vw_C} {ci : Nat} {q : vw_C} (h : cl[ci]? = some q) : ea_ty cl (ci + 3) = .object q.1 := by
  show FieldType.object (((cl[ci]?).map (fun q => q.1)).getD "") = _
  rw [h]
  rfl
/-- the kind of a field's type -/
def ea_tg (t : Nat) (ty : FieldType) : Prop := match t with
  | 0 => ty = .int
  | 1 => ty = .long
  | 2 => ty = .boolean
  | 3 => (∃ n, ty = .object n) ∨ ∃ u, ty = .array u
  | _ => False
/-- of the classes: their words are among Ts; their fields have different names, and types of these kinds -/
def ea_cw (Ts : List Jvm.Cond) (cl : List vw_C) (fty : Nat → Nat → Nat) : Prop := ∀ (ci : Nat) (q : vw_C), cl[ci]? = some q → (∀ w ∈ u_ws q.1 q.2.1 q.2.2, w ∈ Ts) ∧ (∀ a, a < q.2.2 → ∀ b, b < q.2.2 → a ≠ b → (q.2.1 a).2.1 ≠ (q.2.1 b).2.1) ∧ ∃ ty : Nat → FieldType, (∀ k, k < q.2.2 → parseFieldDescriptor (q.2.1 k).2.2.1 = some (ty k)) ∧ ∀ k, k < q.2.2 → ea_tg (fty ci k) (ty k)
/-- of a pool entry -/
def ea_po (Ts : List Jvm.Cond) (cl : List vw_C) (U : State) (own : String) (x : Nat) (r : Nat × Nat × Nat) : Prop := match r with
  | (0, ci, k) => ∃ q, cl[ci]? = some q ∧ k < q.2.2 ∧ Jvm.Cond.fieldLink own x (q.2.1 k).1 (q.2.1 k).2.1 (q.2.1 k).2.2.1 ∈ Ts ∧ (q.2.1 k).2.2.2 = false
  | (20, ci, k) => ∃ q, cl[ci]? = some q ∧ k < q.2.2 ∧ Jvm.Cond.fieldLink own x (q.2.1 k).1 (q.2.1 k).2.1 (q.2.1 k).2.2.1 ∈ Ts
  | (21, ci, k) => ∃ q, cl[ci]? = some q ∧ k < q.2.2 ∧ Jvm.Cond.fieldLink own x (q.2.1 k).1 (q.2.1 k).2.1 (q.2.1 k).2.2.1 ∈ Ts ∧ (q.2.1 k).2.2.2 = true ∧ (q.2.1 k).1 = own
  | (5, ci, n) => ∃ q, cl[ci]? = some q ∧ q.2.2 = n ∧ Jvm.Cond.classLink own x q.1 ∈ Ts ∧ Jvm.Cond.instantiable q.1 n ∈ Ts ∧ Jvm.Cond.initialized q.1 ∈ Ts
  | (6, v, _) => Jvm.Cond.constant own x (Int32.ofNat v) ∈ Ts
  | (7, v, _) => Jvm.Cond.constantLong own x (Int64.ofNat v) ∈ Ts
  | (10, ci, _) => ∃ q, cl[ci]? = some q ∧ Jvm.Cond.classLink own x q.1 ∈ Ts ∧ va_AO q.1 U
  | (22, ci, n) => ∃ q, cl[ci]? = some q ∧ q.2.2 = n ∧ Jvm.Cond.classLink own x q.1 ∈ Ts ∧ Jvm.Cond.instantiable q.1 n ∈ Ts ∧ Jvm.Cond.initialized q.1 ∈ Ts ∧ va_AO q.1 U
  | _ => True
theorem ea_fit_ok {t : Nat} {a : AV} {ad : Nat × List Nat} {v : Value} {ty : FieldType} (h : ea_fit t a = true) (hv : ea_gv ad a v) (ht : ea_tg t ty) : narrow ty v = v ∧ fits ty v = true := by
  unfold ea_fit at h
  split at h
  · obtain ⟨x, rfl, -⟩ := hv
    obtain rfl : ty = .int := ht
    exact ⟨rfl, rfl⟩
  · obtain ⟨x, rfl, -⟩ := ea_gl hv
    obtain rfl : ty = .long := ht
    exact ⟨rfl, rfl⟩
  · obtain ⟨x, rfl, hx⟩ := hv
    obtain rfl : ty = .boolean := ht
    obtain rfl : x = _ := hx
    rcases (by simpa using h : x = 0 ∨ x = 1) with rfl | rfl <;> exact ⟨by decide, by decide⟩
  · rename_i o
    cases o with
    | none =>
      obtain rfl : v = .null := hv
      rcases ht with ⟨n, rfl⟩ | ⟨u, rfl⟩ <;> exact ⟨rfl, rfl⟩
    | some k =>
      obtain ⟨q, rfl, -⟩ := hv
      rcases ht with ⟨n, rfl⟩ | ⟨u, rfl⟩ <;> exact ⟨rfl, rfl⟩
  · cases h
theorem ea_d_ok {t : Nat} {ty : FieldType} (ad : Nat × List Nat) (ht : ea_tg t ty) : ea_gv ad (ea_d t) (defaultValue ty) := by
  match t, ht with
  | 0, ht => obtain rfl : ty = .int := ht; exact ⟨0, rfl, rfl⟩
  | 1, ht => obtain rfl : ty = .long := ht; exact rfl
  | 2, ht => obtain rfl : ty = .boolean := ht; exact ⟨0, rfl, rfl⟩
  | 3, ht => rcases ht with ⟨n, rfl⟩ | ⟨u, rfl⟩ <;> exact rfl
theorem ea_rl_map {α β γ : Type} {R : β → γ → Prop} (f : α → β) (g : α → γ) : ∀ (l : List α), (∀ a ∈ l, R (f a) (g a)) → ea_rl R (l.map f) (l.map g)
  | [], _ => trivial
  | a :: t, h => ⟨h a List.mem_cons_self, ea_rl_map f g t (fun b hb => h b (List.mem_cons_of_mem _ hb))⟩
section EAH
variable {p : Program} {l : Launch} {e : Env} {R : Room} {s : State} {m : MethodId} {args : Array Value} {below : List Frame} {meth : Method} {c : Code} {H : Heap} {locs : List Loc} {cells slots : Nat} {Q : State → Prop}
variable {cc : ByteArray} {pc : Nat} {ls : Array Slot} {st : List Value} {D : va_G} {cl : List vw_C} {A : Nat → Prop} {Ts : List Jvm.Cond} {own : String} {ws : va_W} {sb : Nat} {C : List AC}
theorem ea_rd_ok {U : State} {pl : Nat → Option (Nat × Nat × Nat)} (hpl : ∀ x r, pl x = some r → ea_po Ts cl U own x r) {x ci k : Nat} (h : ea_rd (pl x) = some (ci, k)) : ∃ q, cl[ci]? = some q ∧ k < q.2.2 ∧ Jvm.Cond.fieldLink own x (q.2.1 k).1 (q.2.1 k).2.1 (q.2.1 k).2.2.1 ∈ Ts := by
  unfold ea_rd at h
  split at h
  · rename_i q hq
    cases h
    obtain ⟨q, h1, h2, h3, -⟩ := hpl _ _ hq
    exact ⟨q, h1, h2, h3⟩
  · rename_i q hq
    cases h
    exact hpl _ _ hq
  · rename_i q hq
    cases h
    obtain ⟨q, h1, h2, h3, -⟩ := hpl _ _ hq
    exact ⟨q, h1, h2, h3⟩
  · cases h
theorem ea_wr_ok {U : State} {pl : Nat → Option (Nat × Nat × Nat)} (hpl : ∀ x r, pl x = some r → ea_po Ts cl U own x r) {ini : Bool} {x ci k : Nat} (h : ea_wr ini (pl x) = some (ci, k)) : ∃ q, cl[ci]? = some q ∧ k < q.2.2 ∧ Jvm.Cond.fieldLink own x (q.2.1 k).1 (q.2.1 k).2.1 (q.2.1 k).2.2.1 ∈ Ts ∧ ((q.2.1 k).2.2.2 = false ∨ (ini = true ∧ (q.2.1 k).2.2.2 = true ∧ (q.2.1 k).1 = own)) := by
  unfold ea_wr at h
  split at h
  · rename_i q hq
    cases h
    obtain ⟨q, h1, h2, h3, h4⟩ := hpl _ _ hq
    exact ⟨q, h1, h2, h3, Or.inl h4⟩
  · rename_i q hq
    cases hi : ini with
    | false => rw [hi] at h; cases h
    | true =>
      rw [hi] at h
      cases h
      obtain ⟨q, h1, h2, h3, h4, h5⟩ := hpl _ _ hq
      exact ⟨q, h1, h2, h3, Or.inr ⟨rfl, h4, h5⟩⟩
  · cases h
def ea_ext (ws ws' : va_W) : Prop := ∀ k q : Nat, (ws.map Prod.fst)[k]? = some q → (ws'.map Prod.fst)[k]? = some q
theorem ea_ext_r (ws : va_W) : ea_ext ws ws := fun _ _ h => h
theorem ea_ext_u {ws : va_W} {x : Nat × va_E} : ea_ext ws (ws ++ [x]) := (ea_map_push (sb := 0)).2
theorem ea_ext_s {ws : va_W} {k a : Nat} {E E' : va_E} (h : ws[k]? = some (a, E)) : ea_ext ws (ws.set k (a, E')) := fun j q hq => by rw [ea_map_set h]; exact hq
/-- the world at a point -/
def ea_W (D : va_G) (cl : List vw_C) (A : Nat → Prop) (s : State) (sb : Nat) (C : List AC) (ws : va_W) (H : Heap) (locs : List Loc) : Prop := va_P D cl ws H ∧ va_D A ws ∧ va_S A s.heap H locs ∧ ea_H cl s sb C ws
theorem ea_K1 (hK : va_K D cl [] s) {t : Nat} {cA : ClassId} (h : ea_AT cl s t cA) : va_K D cl [(cA, ea_ty cl t)] s := ⟨hK.1, fun k q hq => by
  have hz : k < 1 := (List.getElem?_eq_some_iff.mp hq).1
  rw [show k = 0 by omega] at hq
  cases hq
  exact h⟩
set_option maxHeartbeats 4000000 in
set_option maxRecDepth 20000 in
theorem ea_h_ok {ini : Bool} {pl : Nat → Option (Nat × Nat × Nat)} {fty : Nat → Nat → Nat} {scr : Option (List AI)} {i : Instr} {len nL pc' dk dw : Nat} {L : List (Nat × AV)} {S S' : List AV} {C' : Option (List AC)}
    (hexec : p.tables.exec = Jvm.exec) (hb : c.code = cc) (hts : ∀ w ∈ Ts, w.before args s = true) (hown : s.vm.findClass own = some m.cls) (hini : ini = true → meth.name = "<init>") (hK : va_K D cl [] s) (hA : ∀ q, s.heap.size ≤ q → A q) (hcw : ea_cw Ts cl fty) (hpl : ∀ x r, pl x = some r → ea_po Ts cl s own x r)
    (har : ∀ t, t = FieldType.int ∨ t = FieldType.long ∨ t = FieldType.byte → Jvm.Cond.arrayClass t ∈ Ts) (hX : ∀ X, scr = some X → ¬ A sb ∧ sb < s.heap.size ∧ ∃ xs : Nat → Int32, va_X sb X.length xs s s.heap ∧ ∀ j v, X[j]? = some v → ea_gi v (xs j))
    (hdg : decode cc pc = .ok (i, len)) (hlen : ea_len i = 0 ∨ ea_len i = len) (hp : ea_h ini pl fty scr i pc S C = some (pc', S', C', dk, dw)) (hW : ea_W D cl A s sb C ws H locs) (hl : ea_L (sb, ws.map Prod.fst) nL L ls) (hs : ea_rl (ea_gv (sb, ws.map Prod.fst)) S st) (hcr : cells + dk ≤ R.cells) (hsr : slots + dw ≤ R.slots)
    (kk : ∀ (st' : List Value) (ws' : va_W) (H' : Heap) (locs' : List Loc), ea_ext ws ws' → ea_W D cl A s sb (C'.getD C) ws' H' locs' → ea_L (sb, ws'.map Prod.fst) nL L ls → ea_rl (ea_gv (sb, ws'.map Prod.fst)) S' st' → W p l e R s m args below meth c H' locs' (cells + dk) (slots + dw) Q (F0 m pc' ls st')) : W p l e R s m args below meth c H locs cells slots Q (F0 m pc ls st) := by
  obtain ⟨hP, hD, hS, hH⟩ := hW
  cases i with
  | getfield x =>
    obtain rfl : 3 = len := by simpa [ea_len] using hlen
    simp only [ea_h] at hp
    split at hp
    · rename_i ci k a S0 hr
      split at hp
      · rename_i o ho
        cases hb1 : Nat.beq o.1 ci with
        | false => rw [hb1] at hp; cases hp
        | true =>
          rw [hb1] at hp
          simp only [cond_true] at hp
          split at hp
          · rename_i v hv
            cases hp
            obtain ⟨q, h1, h2, h3⟩ := ea_rd_ok hpl hr
            obtain ⟨_, _, rfl, ⟨aa, rfl, ha⟩, hs1⟩ := ea_pop hs
            obtain ⟨a1, E, g1, g2, g3⟩ := ea_H_get hH ho
            obtain rfl : aa = a1 := Option.some.inj (ha.symm.trans g3)
            match E, g1, g2 with
            | .inr (ci', vs), g1, ⟨e1, g2⟩ =>
              obtain rfl : ci' = ci := e1.symm.trans (Nat.eq_of_beq_eq_true hb1)
              rw [ea_nt_eq] at hv
              obtain ⟨w, w1, w2⟩ := ea_rl_get g2 hv
              exact va_get (T := q.2.1) (N := q.2.2) (C := q.1) hexec hb hts (hcw _ _ h1).1 hown hK hP a g1 h1 k h2 (hts _ h3) (fun _ h => h) w1 hdg (kk _ ws H locs (ea_ext_r ws) ⟨hP, hD, hS, hH⟩ hl ⟨w2, hs1⟩)
          · cases hp
      · cases hp
    · cases hp
  | putfield x =>
    obtain rfl : 3 = len := by simpa [ea_len] using hlen
    simp only [ea_h] at hp
    split at hp
    · rename_i ci k v a S0 hr
      split at hp
      · rename_i o ho
        cases hb1 : (Nat.beq o.1 ci && (ea_fit (fty ci k) v && Nat.blt k o.2.length)) with
        | false => rw [hb1] at hp; cases hp
        | true =>
          rw [hb1] at hp
          simp only [cond_true] at hp
          cases hp
          simp only [Bool.and_eq_true] at hb1
          obtain ⟨hc1, hf, hk⟩ := hb1
          obtain ⟨q, h1, h2, h3, h4⟩ := ea_wr_ok hpl hr
          obtain ⟨hin, hnm, ty, hty, htg⟩ := hcw _ _ h1
          obtain ⟨v', _, rfl, hv, hs1⟩ := ea_pop hs
          obtain ⟨_, _, rfl, ⟨aa, rfl, ha⟩, hs2⟩ := ea_pop hs1
          obtain ⟨a1, E, g1, g2, g3⟩ := ea_H_get hH ho
          obtain rfl : aa = a1 := Option.some.inj (ha.symm.trans g3)
          obtain ⟨n1, n2⟩ := ea_fit_ok hf hv (htg k h2)
          match E, g1, g2 with
          | .inr (ci', vs), g1, ⟨e1, g2⟩ =>
            obtain rfl : ci' = ci := e1.symm.trans (Nat.eq_of_beq_eq_true hc1)
            have hlt : k < vs.length := by rw [← ea_rl_len g2]; exact Nat.le_of_ble_eq_true hk
            have hkk : ∀ (H1 : Heap) (locs1 : List Loc), va_P D cl (ws.set a (aa, .inr (ci', vs.set k v'))) H1 → va_D A (ws.set a (aa, .inr (ci', vs.set k v'))) → va_S A s.heap H1 locs1 → W p l e R s m args below meth c H1 locs1 cells slots Q (F0 m (pc + 3) ls _) := fun H1 locs1 p1 d1 s1 => by
              refine kk _ (ws.set a (aa, .inr (ci', vs.set k v'))) H1 locs1 (ea_ext_s g1) ⟨p1, d1, s1, ea_H_set hH g1 ⟨rfl, ea_rl_set g2 k hv⟩⟩ ?_ ?_
              · rw [ea_map_set g1]; exact hl
              · rw [ea_map_set g1]; exact hs2
            rcases h4 with h4 | ⟨i1, i2, i3⟩
            · exact va_put (T := q.2.1) (N := q.2.2) (C := q.1) hexec hb hts hin ty hty hnm hown hK hP hD hS a g1 h1 k h2 (hts _ h3) (fun _ h => h) h4 (hty k h2) n1 n2 hlt hdg hkk
            · exact va_putF (T := q.2.1) (N := q.2.2) (C := q.1) hexec hb hts hin ty hty hnm hown hK hP hD hS a g1 h1 k h2 (hts _ h3) (fun _ h => h) i2 (hini i1) i3 (hty k h2) n1 n2 hlt hdg hkk
      · cases hp
    · cases hp
  | new x =>
    obtain rfl : 3 = len := by simpa [ea_len] using hlen
    simp only [ea_h] at hp
    split at hp
    · rename_i ci n hr
      cases hp
      obtain ⟨q, h1, h2, h3, h4, h5⟩ := hpl _ _ hr
      subst h2
      obtain ⟨hin, hnm, ty, hty, htg⟩ := hcw _ _ h1
      refine va_new (ci := ci) (fs := (List.range q.2.2).map (fun k => defaultValue (ty k))) (C := q.1) (T := q.2.1) (N := q.2.2) hexec hb hts hin ty hty hown (hts _ h3) (hts _ h4) (hts _ h5) hK hP hD hS hA h1 (fun j hj => ?_) hcr hsr hdg (fun a H1 p1 d1 s1 => ?_)
      · simp [vp_V, hj]
      · exact kk _ _ H1 locs ea_ext_u ⟨p1, d1, s1, ea_H_push hH ⟨rfl, ea_rl_map _ _ _ (fun k hk => ea_d_ok _ (htg k (List.mem_range.mp hk)))⟩⟩ (ea_L_mono ea_map_push hl) ⟨⟨a, rfl, ea_at_push hH⟩, ea_rl_mono (fun _ _ h => ea_gv_mono ea_map_push h) hs⟩
    · rename_i ci n hr
      cases hp
      obtain ⟨q, h1, h2, h3, h4, h5, -⟩ := hpl _ _ hr
      subst h2
      obtain ⟨hin, hnm, ty, hty, htg⟩ := hcw _ _ h1
      refine va_new (ci := ci) (fs := (List.range q.2.2).map (fun k => defaultValue (ty k))) (C := q.1) (T := q.2.1) (N := q.2.2) hexec hb hts hin ty hty hown (hts _ h3) (hts _ h4) (hts _ h5) hK hP hD hS hA h1 (fun j hj => ?_) hcr hsr hdg (fun a H1 p1 d1 s1 => ?_)
      · simp [vp_V, hj]
      · exact kk _ _ H1 locs ea_ext_u ⟨p1, d1, s1, ea_H_push hH ⟨rfl, ea_rl_map _ _ _ (fun k hk => ea_d_ok _ (htg k (List.mem_range.mp hk)))⟩⟩ (ea_L_mono ea_map_push hl) ⟨⟨a, rfl, ea_at_push hH⟩, ea_rl_mono (fun _ _ h => ea_gv_mono ea_map_push h) hs⟩
    · cases hp
  | newarray t =>
    obtain rfl : 2 = len := by simpa [ea_len] using hlen
    simp only [ea_h] at hp
    split at hp
    · rename_i x S0
      split at hp
      · rename_i hx
        obtain ⟨_, _, rfl, ⟨y, rfl, hy⟩, hs1⟩ := ea_pop hs
        obtain rfl : y = x := hy
        have hn : ¬ y < 0 := by rw [Int32.lt_iff_toInt_lt]; show ¬ y.toInt < 0; omega
        have hN : y.toNatClampNeg ≤ 65536 := by show y.toInt.toNat ≤ 65536; omega
        cases t with
        | int =>
          cases hp
          refine va_newa (ty := .int) (a0 := (y.toNatClampNeg, .inl (fun _ => 0))) hexec hb (hts _ (har _ (Or.inl rfl))) rfl hK hP hD hS hA (fun cA => rfl) hn rfl (by show y.toNatClampNeg * 4 ≤ 536870912; omega) hcr hsr hdg (fun a cA H1 k1 p1 d1 s1 => ?_)
          exact kk _ _ H1 locs ea_ext_u ⟨p1, d1, s1, ea_H_push hH ⟨rfl, k1.2 0 _ rfl, ⟨_, rfl⟩, fun j hj => ⟨0, rfl, rfl⟩⟩⟩ (ea_L_mono ea_map_push hl) ⟨⟨a, rfl, ea_at_push hH⟩, ea_rl_mono (fun _ _ h => ea_gv_mono ea_map_push h) hs1⟩
        | long =>
          cases hp
          refine va_newa (ty := .long) (a0 := (y.toNatClampNeg, .inr (.inl (fun _ => 0)))) hexec hb (hts _ (har _ (Or.inr (Or.inl rfl)))) rfl hK hP hD hS hA (fun cA => rfl) hn rfl (by show y.toNatClampNeg * 8 ≤ 536870912; omega) hcr hsr hdg (fun a cA H1 k1 p1 d1 s1 => ?_)
          exact kk _ _ H1 locs ea_ext_u ⟨p1, d1, s1, ea_H_push hH ⟨rfl, k1.2 0 _ rfl, ⟨_, rfl⟩, fun j hj => rfl⟩⟩ (ea_L_mono ea_map_push hl) ⟨⟨a, rfl, ea_at_push hH⟩, ea_rl_mono (fun _ _ h => ea_gv_mono ea_map_push h) hs1⟩
        | byte =>
          cases hp
          refine va_newa (ty := .byte) (a0 := (y.toNatClampNeg, .inl (fun _ => 0))) hexec hb (hts _ (har _ (Or.inr (Or.inr rfl)))) rfl hK hP hD hS hA (fun cA => rfl) hn rfl (by show y.toNatClampNeg * 1 ≤ 536870912; omega) hcr hsr hdg (fun a cA H1 k1 p1 d1 s1 => ?_)
          exact kk _ _ H1 locs ea_ext_u ⟨p1, d1, s1, ea_H_push hH ⟨rfl, k1.2 0 _ rfl, ⟨_, rfl⟩, fun j hj => ⟨0, rfl, rfl⟩⟩⟩ (ea_L_mono ea_map_push hl) ⟨⟨a, rfl, ea_at_push hH⟩, ea_rl_mono (fun _ _ h => ea_gv_mono ea_map_push h) hs1⟩
        | _ => cases hp
      · cases hp
    · cases hp
  | anewarray x =>
    obtain rfl : 3 = len := by simpa [ea_len] using hlen
    simp only [ea_h] at hp
    split at hp
    · rename_i ci z x S0 hr
      split at hp
      · rename_i hx
        cases hp
        obtain ⟨_, _, rfl, ⟨y, rfl, hy⟩, hs1⟩ := ea_pop hs
        obtain rfl : y = x := hy
        have hn : ¬ y < 0 := by rw [Int32.lt_iff_toInt_lt]; show ¬ y.toInt < 0; omega
        have hN : y.toNatClampNeg ≤ 65536 := by show y.toInt.toNat ≤ 65536; omega
        obtain ⟨q, h1, h3, h4⟩ := hpl _ _ hr
        refine va_newq hexec hb hown (hts _ h3) h4 hK hP hD hS hA hn rfl (by omega) hcr hsr hdg (fun a cA H1 k1 p1 d1 s1 => ?_)
        exact kk _ _ H1 locs ea_ext_u ⟨p1, d1, s1, ea_H_push hH ⟨rfl, by show ArrOfT s cA (ea_ty cl (ci + 3)) ∧ va_RA s cA (ea_ty cl (ci + 3)); rw [ea_ty_q h1]; exact k1.2 0 _ rfl, ⟨_, rfl⟩, fun j hj => rfl⟩⟩ (ea_L_mono ea_map_push hl) ⟨⟨a, rfl, ea_at_push hH⟩, ea_rl_mono (fun _ _ h => ea_gv_mono ea_map_push h) hs1⟩
      · cases hp
    · rename_i ci z x S0 hr
      split at hp
      · rename_i hx
        cases hp
        obtain ⟨_, _, rfl, ⟨y, rfl, hy⟩, hs1⟩ := ea_pop hs
        obtain rfl : y = x := hy
        have hn : ¬ y < 0 := by rw [Int32.lt_iff_toInt_lt]; show ¬ y.toInt < 0; omega
        have hN : y.toNatClampNeg ≤ 65536 := by show y.toInt.toNat ≤ 65536; omega
        obtain ⟨q, h1, -, h3, -, -, h4⟩ := hpl _ _ hr
        refine va_newq hexec hb hown (hts _ h3) h4 hK hP hD hS hA hn rfl (by omega) hcr hsr hdg (fun a cA H1 k1 p1 d1 s1 => ?_)
        exact kk _ _ H1 locs ea_ext_u ⟨p1, d1, s1, ea_H_push hH ⟨rfl, by show ArrOfT s cA (ea_ty cl (ci + 3)) ∧ va_RA s cA (ea_ty cl (ci + 3)); rw [ea_ty_q h1]; exact k1.2 0 _ rfl, ⟨_, rfl⟩, fun j hj => rfl⟩⟩ (ea_L_mono ea_map_push hl) ⟨⟨a, rfl, ea_at_push hH⟩, ea_rl_mono (fun _ _ h => ea_gv_mono ea_map_push h) hs1⟩
      · cases hp
    · cases hp
  | arraylength =>
    obtain rfl : 1 = len := by simpa [ea_len] using hlen
    simp only [ea_h] at hp
    split at hp
    · rename_i a S0
      split at hp
      · rename_i q ho
        cases hp
        obtain ⟨_, _, rfl, ⟨aa, rfl, ha⟩, hs1⟩ := ea_pop hs
        obtain ⟨a1, E, g1, g2, g3⟩ := ea_H_get hH ho
        obtain rfl : aa = a1 := Option.some.inj (ha.symm.trans g3)
        match E, g1, g2 with
        | .inl (cA, n', x), g1, ⟨e1, hat, hkd, hct⟩ =>
          exact va_alen hexec hb (ea_K1 hK hat) hP a 0 g1 rfl rfl hdg (kk _ ws H locs (ea_ext_r ws) ⟨hP, hD, hS, hH⟩ hl ⟨⟨_, rfl, by rw [show n' = q.2.1 from e1]; rfl⟩, hs1⟩)
      · cases hp
    · split at hp
      · rename_i X
        cases hp
        obtain ⟨hbA, hbl, xs, hXX, hxs⟩ := hX X rfl
        obtain ⟨v, _, rfl, hv, hs1⟩ := ea_pop hs
        obtain rfl : v = .ref sb := hv
        exact va_slen hexec hb hXX hbl hbA hS hdg (kk _ ws H locs (ea_ext_r ws) ⟨hP, hD, hS, hH⟩ hl ⟨⟨_, rfl, rfl⟩, hs1⟩)
      · cases hp
    · cases hp
  | iaload =>
    obtain rfl : 1 = len := by simpa [ea_len] using hlen
    simp only [ea_h] at hp
    split at hp
    · rename_i i a S0
      split at hp
      · rename_i n d us ho
        split at hp
        · rename_i j hj
          split at hp
          · rename_i v hv
            cases hp
            obtain ⟨_, _, rfl, ⟨x, rfl, hx⟩, hs1⟩ := ea_pop hs
            obtain ⟨_, _, rfl, ⟨aa, rfl, ha⟩, hs2⟩ := ea_pop hs1
            obtain ⟨a1, E, g1, g2, g3⟩ := ea_H_get hH ho
            obtain rfl : aa = a1 := Option.some.inj (ha.symm.trans g3)
            obtain ⟨hin, hj1, hj2⟩ := ea_ix_ok hj hx
            match E, g1, g2 with
            | .inl (cA, n', y), g1, ⟨e1, hat, ⟨f, hf⟩, hct⟩ =>
              dsimp only at e1 hf hct
              subst e1
              subst hf
              have hc := hct j hj2
              rw [hv] at hc
              rw [← hj1] at hc
              exact va_iald hexec hb (ea_K1 hK hat) hP a 0 g1 rfl hin hdg (kk _ ws H locs (ea_ext_r ws) ⟨hP, hD, hS, hH⟩ hl ⟨hc, hs2⟩)
          · cases hp
        · cases hp
      · cases hp
    · rename_i i S0
      split at hp
      · rename_i X
        split at hp
        · rename_i j hj
          split at hp
          · rename_i v hv
            cases hp
            obtain ⟨hbA, hbl, xs, hXX, hxs⟩ := hX X rfl
            obtain ⟨_, _, rfl, ⟨x, rfl, hx⟩, hs1⟩ := ea_pop hs
            obtain ⟨u, _, rfl, hu, hs2⟩ := ea_pop hs1
            obtain rfl : u = .ref sb := hu
            obtain ⟨hin, hj1, hj2⟩ := ea_ix_ok hj hx
            rw [ea_nt_eq] at hv
            exact va_sld hexec hb hXX hbl hbA hS hin hdg (kk _ ws H locs (ea_ext_r ws) ⟨hP, hD, hS, hH⟩ hl ⟨⟨_, rfl, by rw [hj1]; exact hxs j v hv⟩, hs2⟩)
          · cases hp
        · cases hp
      · cases hp
    · cases hp
  | baload =>
    obtain rfl : 1 = len := by simpa [ea_len] using hlen
    simp only [ea_h] at hp
    split at hp
    · rename_i i a S0
      split at hp
      · rename_i n d us ho
        split at hp
        · rename_i j hj
          split at hp
          · rename_i v hv
            cases hp
            obtain ⟨_, _, rfl, ⟨x, rfl, hx⟩, hs1⟩ := ea_pop hs
            obtain ⟨_, _, rfl, ⟨aa, rfl, ha⟩, hs2⟩ := ea_pop hs1
            obtain ⟨a1, E, g1, g2, g3⟩ := ea_H_get hH ho
            obtain rfl : aa = a1 := Option.some.inj (ha.symm.trans g3)
            obtain ⟨hin, hj1, hj2⟩ := ea_ix_ok hj hx
            match E, g1, g2 with
            | .inl (cA, n', y), g1, ⟨e1, hat, ⟨f, hf⟩, hct⟩ =>
              dsimp only at e1 hf hct
              subst e1
              subst hf
              have hc := hct j hj2
              rw [hv] at hc
              rw [← hj1] at hc
              exact va_bald hexec hb (ea_K1 hK hat) hP a 0 g1 rfl hin hdg (kk _ ws H locs (ea_ext_r ws) ⟨hP, hD, hS, hH⟩ hl ⟨hc, hs2⟩)
          · cases hp
        · cases hp
      · cases hp
    · cases hp
  | laload =>
    obtain rfl : 1 = len := by simpa [ea_len] using hlen
    simp only [ea_h] at hp
    split at hp
    · rename_i i a S0
      split at hp
      · rename_i n d us ho
        split at hp
        · rename_i j hj
          split at hp
          · rename_i v hv
            cases hp
            obtain ⟨_, _, rfl, ⟨x, rfl, hx⟩, hs1⟩ := ea_pop hs
            obtain ⟨_, _, rfl, ⟨aa, rfl, ha⟩, hs2⟩ := ea_pop hs1
            obtain ⟨a1, E, g1, g2, g3⟩ := ea_H_get hH ho
            obtain rfl : aa = a1 := Option.some.inj (ha.symm.trans g3)
            obtain ⟨hin, hj1, hj2⟩ := ea_ix_ok hj hx
            match E, g1, g2 with
            | .inl (cA, n', y), g1, ⟨e1, hat, ⟨f, hf⟩, hct⟩ =>
              dsimp only at e1 hf hct
              subst e1
              subst hf
              have hc := hct j hj2
              rw [hv] at hc
              rw [← hj1] at hc
              exact va_lald hexec hb (ea_K1 hK hat) hP a 0 g1 rfl hin hdg (kk _ ws H locs (ea_ext_r ws) ⟨hP, hD, hS, hH⟩ hl ⟨hc, hs2⟩)
          · cases hp
        · cases hp
      · cases hp
    · cases hp
  | aaload =>
    obtain rfl : 1 = len := by simpa [ea_len] using hlen
    simp only [ea_h] at hp
    split at hp
    · rename_i i a S0
      split at hp
      · rename_i t n d us ho
        split at hp
        · rename_i j hj
          split at hp
          · rename_i v hv
            cases hp
            obtain ⟨_, _, rfl, ⟨x, rfl, hx⟩, hs1⟩ := ea_pop hs
            obtain ⟨_, _, rfl, ⟨aa, rfl, ha⟩, hs2⟩ := ea_pop hs1
            obtain ⟨a1, E, g1, g2, g3⟩ := ea_H_get hH ho
            obtain rfl : aa = a1 := Option.some.inj (ha.symm.trans g3)
            obtain ⟨hin, hj1, hj2⟩ := ea_ix_ok hj hx
            match E, g1, g2 with
            | .inl (cA, n', y), g1, ⟨e1, hat, ⟨f, hf⟩, hct⟩ =>
              dsimp only at e1 hf hct
              subst e1
              subst hf
              have hc := hct j hj2
              rw [hv] at hc
              rw [← hj1] at hc
              exact va_aldq hexec hb (ea_K1 hK hat) hP a 0 g1 rfl hin hdg (kk _ ws H locs (ea_ext_r ws) ⟨hP, hD, hS, hH⟩ hl ⟨hc, hs2⟩)
          · cases hp
        · cases hp
      · cases hp
    · cases hp
  | iastore =>
    obtain rfl : 1 = len := by simpa [ea_len] using hlen
    simp only [ea_h] at hp
    split at hp
    · rename_i v i a S0
      split at hp
      · rename_i n d us ho
        split at hp
        · rename_i j hj
          cases hp
          obtain ⟨_, _, rfl, ⟨v1, rfl, hv⟩, hs1⟩ := ea_pop hs
          obtain ⟨_, _, rfl, ⟨x, rfl, hx⟩, hs2⟩ := ea_pop hs1
          obtain ⟨_, _, rfl, ⟨aa, rfl, ha⟩, hs3⟩ := ea_pop hs2
          obtain ⟨a1, E, g1, g2, g3⟩ := ea_H_get hH ho
          obtain rfl : aa = a1 := Option.some.inj (ha.symm.trans g3)
          obtain ⟨hin, hj1, hj2⟩ := ea_ix_ok hj hx
          match E, g1, g2 with
          | .inl (cA, n', y), g1, ⟨e1, hat, ⟨f, hf⟩, hct⟩ =>
            dsimp only at e1 hf hct
            subst e1
            subst hf
            refine va_iast hexec hb (ea_K1 hK hat) hP hD hS a 0 g1 rfl hin hdg (fun H1 locs1 p1 d1 s1 => kk _ _ H1 locs1 (ea_ext_s g1) ⟨p1, d1, s1, ea_H_set hH g1 ⟨rfl, hat, ⟨_, rfl⟩, fun k hk => ?_⟩⟩ (by rw [ea_map_set g1]; exact hl) (by rw [ea_map_set g1]; exact hs3))
            dsimp only
            rw [ea_al_at]
            by_cases hkj : k = j
            · subst hkj
              rw [if_pos rfl, hj1]
              simp only [ea_cv, upd, if_pos]
              exact ⟨v1, rfl, hv⟩
            · rw [if_neg hkj, hj1]
              simp only [ea_cv, upd, if_neg hkj]
              exact hct k hk
        · cases hp
      · cases hp
    · cases hp
  | bastore =>
    obtain rfl : 1 = len := by simpa [ea_len] using hlen
    simp only [ea_h] at hp
    split at hp
    · rename_i v i a S0
      split at hp
      · rename_i n d us ho
        split at hp
        · rename_i j hj
          cases hp
          obtain ⟨_, _, rfl, ⟨v1, rfl, hv⟩, hs1⟩ := ea_pop hs
          obtain ⟨_, _, rfl, ⟨x, rfl, hx⟩, hs2⟩ := ea_pop hs1
          obtain ⟨_, _, rfl, ⟨aa, rfl, ha⟩, hs3⟩ := ea_pop hs2
          obtain ⟨a1, E, g1, g2, g3⟩ := ea_H_get hH ho
          obtain rfl : aa = a1 := Option.some.inj (ha.symm.trans g3)
          obtain ⟨hin, hj1, hj2⟩ := ea_ix_ok hj hx
          match E, g1, g2 with
          | .inl (cA, n', y), g1, ⟨e1, hat, ⟨f, hf⟩, hct⟩ =>
            dsimp only at e1 hf hct
            subst e1
            subst hf
            refine va_bast hexec hb (ea_K1 hK hat) hP hD hS a 0 g1 rfl hin hdg (fun H1 locs1 p1 d1 s1 => kk _ _ H1 locs1 (ea_ext_s g1) ⟨p1, d1, s1, ea_H_set hH g1 ⟨rfl, hat, ⟨_, rfl⟩, fun k hk => ?_⟩⟩ (by rw [ea_map_set g1]; exact hl) (by rw [ea_map_set g1]; exact hs3))
            dsimp only
            rw [ea_al_at]
            by_cases hkj : k = j
            · subst hkj
              rw [if_pos rfl, hj1]
              simp only [ea_cv, upd, if_pos]
              exact ⟨_, rfl, ea_i1_ok (fun x => vp_nar .byte x) hv⟩
            · rw [if_neg hkj, hj1]
              simp only [ea_cv, upd, if_neg hkj]
              exact hct k hk
        · cases hp
      · cases hp
    · cases hp
  | lastore =>
    obtain rfl : 1 = len := by simpa [ea_len] using hlen
    simp only [ea_h] at hp
    split at hp
    · rename_i v i a S0
      split at hp
      · rename_i n d us ho
        split at hp
        · rename_i j hj
          cases hp
          obtain ⟨_, _, rfl, hv, hs1⟩ := ea_pop hs
          obtain ⟨v1, rfl, hv1⟩ := ea_gl hv
          obtain ⟨_, _, rfl, ⟨x, rfl, hx⟩, hs2⟩ := ea_pop hs1
          obtain ⟨_, _, rfl, ⟨aa, rfl, ha⟩, hs3⟩ := ea_pop hs2
          obtain ⟨a1, E, g1, g2, g3⟩ := ea_H_get hH ho
          obtain rfl : aa = a1 := Option.some.inj (ha.symm.trans g3)
          obtain ⟨hin, hj1, hj2⟩ := ea_ix_ok hj hx
          match E, g1, g2 with
          | .inl (cA, n', y), g1, ⟨e1, hat, ⟨f, hf⟩, hct⟩ =>
            dsimp only at e1 hf hct
            subst e1
            subst hf
            refine va_last hexec hb (ea_K1 hK hat) hP hD hS a 0 g1 rfl hin hdg (fun H1 locs1 p1 d1 s1 => kk _ _ H1 locs1 (ea_ext_s g1) ⟨p1, d1, s1, ea_H_set hH g1 ⟨rfl, hat, ⟨_, rfl⟩, fun k hk => ?_⟩⟩ (by rw [ea_map_set g1]; exact hl) (by rw [ea_map_set g1]; exact hs3))
            dsimp only
            rw [ea_al_at]
            by_cases hkj : k = j
            · subst hkj
              rw [if_pos rfl, hj1]
              simp only [ea_cv, vp_updL, if_pos]
              exact ea_lg hv1
            · rw [if_neg hkj, hj1]
              simp only [ea_cv, vp_updL, if_neg hkj]
              exact hct k hk
        · cases hp
      · cases hp
    · cases hp
  | aastore =>
    obtain rfl : 1 = len := by simpa [ea_len] using hlen
    simp only [ea_h] at hp
    split at hp
    · rename_i v i a S0
      split at hp
      · rename_i t n d us o ho hov
        split at hp
        · rename_i j hj
          cases hb1 : Nat.beq o.1 t with
          | false => rw [hb1] at hp; cases hp
          | true =>
            rw [hb1] at hp
            simp only [cond_true] at hp
            cases hp
            obtain ⟨_, _, rfl, ⟨v1, rfl, hv⟩, hs1⟩ := ea_pop hs
            obtain ⟨_, _, rfl, ⟨x, rfl, hx⟩, hs2⟩ := ea_pop hs1
            obtain ⟨_, _, rfl, ⟨aa, rfl, ha⟩, hs3⟩ := ea_pop hs2
            obtain ⟨a1, E, g1, g2, g3⟩ := ea_H_get hH ho
            obtain rfl : aa = a1 := Option.some.inj (ha.symm.trans g3)
            obtain ⟨a2, E2, k1, k2, k3⟩ := ea_H_get hH hov
            obtain rfl : v1 = a2 := Option.some.inj (hv.symm.trans k3)
            obtain ⟨hin, hj1, hj2⟩ := ea_ix_ok hj hx
            match E, g1, g2 with
            | .inl (cA, n', y), g1, ⟨e1, hat, ⟨f, hf⟩, hct⟩ =>
              match E2, k1, k2 with
              | .inr (ci', vs), k1, ⟨e2, k2⟩ =>
                dsimp only at e1 hf hct e2
                subst e1
                subst hf
                obtain rfl : ci' = t := e2.symm.trans (Nat.eq_of_beq_eq_true hb1)
                obtain ⟨r, hr1, -⟩ := hP v _ k1
                have hty : ea_ty cl (ci' + 3) = .object r.1 := ea_ty_q hr1
                refine va_astq (r := r) hexec hb (ea_K1 hK hat) hP hD hS a 0 v ci' g1 (by rw [hty]; rfl) k1 hr1 hin hdg (fun H1 locs1 p1 d1 s1 => kk _ _ H1 locs1 (ea_ext_s g1) ⟨p1, d1, s1, ea_H_set hH g1 ⟨rfl, hat, ⟨_, rfl⟩, fun k hk => ?_⟩⟩ (by rw [ea_map_set g1]; exact hl) (by rw [ea_map_set g1]; exact hs3))
                dsimp only
                rw [ea_al_at]
                by_cases hkj : k = j
                · subst hkj
                  rw [if_pos rfl, hj1]
                  simp only [ea_cv, va_up, if_pos]
                  exact ⟨v1, rfl, hv⟩
                · rw [if_neg hkj, hj1]
                  simp only [ea_cv, va_up, if_neg hkj]
                  exact hct k hk
        · cases hp
      · cases hp
    · cases hp
  | ldc x =>
    obtain rfl : 2 = len := by simpa [ea_len] using hlen
    simp only [ea_h] at hp
    split at hp
    · rename_i v z hr
      cases hp
      exact lv_ldc hexec hb hown (hts _ (hpl _ _ hr)) hdg (kk _ ws H locs (ea_ext_r ws) ⟨hP, hD, hS, hH⟩ hl ⟨⟨_, rfl, rfl⟩, hs⟩)
    · cases hp
  | ldc_w x =>
    obtain rfl : 3 = len := by simpa [ea_len] using hlen
    simp only [ea_h] at hp
    split at hp
    · rename_i v z hr
      cases hp
      exact lv_ldcw hexec hb hown (hts _ (hpl _ _ hr)) hdg (kk _ ws H locs (ea_ext_r ws) ⟨hP, hD, hS, hH⟩ hl ⟨⟨_, rfl, rfl⟩, hs⟩)
    · cases hp
  | ldc2_w x =>
    obtain rfl : 3 = len := by simpa [ea_len] using hlen
    simp only [ea_h] at hp
    split at hp
    · rename_i v z hr
      cases hp
      exact lv_ldc2 hexec hb hown (hts _ (hpl _ _ hr)) hdg (kk _ ws H locs (ea_ext_r ws) ⟨hP, hD, hS, hH⟩ hl ⟨rfl, hs⟩)
    · cases hp
  | _ => cases hp
end EAH
end
section
/-! THE ABSTRACT MACHINE, its run -/
def ea_ar (i : Nat) (as : List AV) : List (Nat × AV) := match as with
  | [] => []
  | a :: t => (i, a) :: ea_ar (if ea_cat a = 2 then i + 2 else i + 1) t
/-- evaluated first -/
def ea_fn {α : Type} (n : Nat) (k : Nat → α) : α := match n with
  | 0 => k 0
  | m + 1 => k (m + 1)
theorem ea_fn_eq {α : Type} (n : Nat) (k : Nat → α) : ea_fn n k = k n := by cases n <;> rfl
def ea_fi {α : Type} (x : Int32) (k : Int32 → α) : α := ea_fn x.toUInt32.toNat (fun n => k (UInt32.ofNat n).toInt32)
theorem ea_fi_eq {α : Type} (x : Int32) (k : Int32 → α) : ea_fi x k = k x := by
  rw [ea_fi, ea_fn_eq]
  congr 1
  simp
def ea_fL {α β : Type} (l : List α) (k : List α → β) : β := match l with
  | [] => k []
  | a :: t => ea_fL t (fun t => k (a :: t))
theorem ea_fL_eq {α β : Type} : ∀ (l : List α) (k : List α → β), ea_fL l k = k l
  | [], k => rfl
  | a :: t, k => by rw [ea_fL, ea_fL_eq t]
def ea_fS {β : Type} (S : List AV) (k : List AV → β) : β := match S with
  | .inl (.inl x) :: t => ea_fi x (fun x => k (.inl (.inl x) :: t))
  | S => k S
theorem ea_fS_eq {β : Type} (S : List AV) (k : List AV → β) : ea_fS S k = k S := by
  unfold ea_fS
  split
  · rw [ea_fi_eq]
  · rfl
/-- what a run gives: a value, nothing, or an exception (by its class); the cells; how many cells and slots were made -/
abbrev AR : Type := (Option AV ⊕ Nat) × List AC × Nat × Nat
/-- A PROGRAM, its methods by numbers: its instructions; its class's pool (1, 13: a static method: number, how many arguments; 2: a method of an object; 3, 15: a constructor; 4: Object's; 9: System.arraycopy; 8: a String; 11: the class of an exception to be made; 12: its constructor); the kinds of fields; is it a constructor; its locals; what it gives (0 nothing, 1 int, 2 long, 3 boolean); how deep it calls; its class's number; its handlers (from, to, where, the class, its pool entry); which exception is one of which class; the script -/
abbrev EP : Type := (Nat → Nat → Option (Instr × Nat)) × (Nat → Nat → Option (Nat × Nat × Nat)) × (Nat → Nat → Nat) × (Nat → Bool) × (Nat → Nat) × (Nat → Nat) × (Nat → Nat) × (Nat → Nat) × (Nat → List (Nat × Nat × Nat × Nat × Nat)) × (Nat → Nat → Bool) × (Nat → Option (List AI))
abbrev ep_cod (P : EP) : Nat → Nat → Option (Instr × Nat) := P.1
abbrev ep_pl (P : EP) : Nat → Nat → Option (Nat × Nat × Nat) := P.2.1
abbrev ep_fty (P : EP) : Nat → Nat → Nat := P.2.2.1
abbrev ep_ini (P : EP) : Nat → Bool := P.2.2.2.1
abbrev ep_nls (P : EP) : Nat → Nat := P.2.2.2.2.1
abbrev ep_rtp (P : EP) : Nat → Nat := P.2.2.2.2.2.1
abbrev ep_dep (P : EP) : Nat → Nat := P.2.2.2.2.2.2.1
abbrev ep_own (P : EP) : Nat → Nat := P.2.2.2.2.2.2.2.1
abbrev ep_hdl (P : EP) : Nat → List (Nat × Nat × Nat × Nat × Nat) := P.2.2.2.2.2.2.2.2.1
abbrev ep_sub (P : EP) : Nat → Nat → Bool := P.2.2.2.2.2.2.2.2.2.1
abbrev ep_scr (P : EP) : Nat → Option (List AI) := P.2.2.2.2.2.2.2.2.2.2
/-- the handler that takes an exception of the class ce at pc -/
def ea_hd (sub : Nat → Nat → Bool) (ce pc : Nat) (hs : List (Nat × Nat × Nat × Nat × Nat)) : Option Nat := match hs with
  | [] => none
  | q :: t => bif Nat.ble q.1 pc && (Nat.blt pc q.2.1 && sub ce q.2.2.2.1) then some q.2.2.1 else ea_hd sub ce pc t
/-- the end of a method -/
def ea_rt (r : Nat) (i : Instr) (S : List AV) : Option (Option AV) := match i, S with
  | .ireturn, [a] => match r with
    | 1 => bif ea_fit 0 a then some (some a) else none
    | 3 => bif ea_fit 2 a then some (some a) else none
    | _ => none
  | .lreturn, [a] => match r with
    | 2 => bif ea_fit 1 a then some (some a) else none
    | _ => none
  | .return_, [] => match r with
    | 0 => some none
    | _ => none
  | _, _ => none
/-- which call it is: the method's number, its arguments (the object first), what stays on the stack; may it throw -/
def ea_cl (own : Nat → Nat) (i : Instr) (r : Option (Nat × Nat × Nat)) (S : List AV) (C : List AC) : Option (Nat × List AV × List AV × Bool) := match i, r with
  | .invokestatic _, some (1, mj, n) => bif Nat.ble n S.length then some (mj, (S.take n).reverse, S.drop n, true) else none
  | .invokestatic _, some (13, mj, n) => bif Nat.ble n S.length then some (mj, (S.take n).reverse, S.drop n, false) else none
  | .invokespecial _, some (3, mj, n) => match S.drop n with
    | .inr (.inl (some a)) :: T => some (mj, .inr (.inl (some a)) :: (S.take n).reverse, T, false)
    | _ => none
  | .invokespecial _, some (15, mj, n) => match S.drop n with
    | .inr (.inl (some a)) :: T => some (mj, .inr (.inl (some a)) :: (S.take n).reverse, T, false)
    | _ => none
  | .invokevirtual _, some (2, mj, n) => match S.drop n with
    | .inr (.inl (some a)) :: T => match ea_nt C a with
      | some (.inr o) => bif Nat.beq o.1 (own mj) then some (mj, .inr (.inl (some a)) :: (S.take n).reverse, T, true) else none
      | _ => none
    | _ => none
  | _, _ => none
def ea_wt (S : List AV) : Nat := match S with
  | [] => 0
  | a :: t => ea_cat a + ea_wt t
/-- Object's constructor: what stays -/
def ea_oi (r : Option (Nat × Nat × Nat)) (S : List AV) : Option (List AV) := match r, S with
  | some (4, _), .inr (.inl (some _)) :: T => some T
  | _, _ => none
theorem ea_oi_ok {r : Option (Nat × Nat × Nat)} {S T : List AV} (h : ea_oi r S = some T) : ∃ u a, r = some (4, u) ∧ S = .inr (.inl (some a)) :: T := by
  unfold ea_oi at h
  split at h
  · cases h; exact ⟨_, _, rfl, rfl⟩
  · cases h
def ea_is9 (r : Option (Nat × Nat × Nat)) : Bool := match r with
  | some (9, _) => true
  | _ => false
theorem ea_is9_ok {r : Option (Nat × Nat × Nat)} (h : ea_is9 r = true) : ∃ u, r = some (9, u) := by
  unfold ea_is9 at h
  split at h
  · exact ⟨_, rfl⟩
  · cases h
/-- System.arraycopy of a whole array onto one of its kind and length -/
def ea_cy (S : List AV) (C : List AC) : Option (List AV × List AC) := match S with
  | .inl (.inl n) :: .inl (.inl dp) :: .inr (.inl (some b)) :: .inl (.inl sp) :: .inr (.inl (some a)) :: T => match ea_nt C a, ea_nt C b with
    | some (.inl (t, n0, d, us)), some (.inl (t1, n1, _, _)) => if t = t1 ∧ t < 2 ∧ n0 = n1 ∧ n0 < 2147483648 ∧ n = Int32.ofNat n0 ∧ sp = 0 ∧ dp = 0 ∧ ea_wt T ≤ 8 then some (T, C.set b (.inl (t, n0, d, us))) else none
    | _, _ => none
  | _ => none
/-- 'throw new X("..")' from its first instruction on, the constructor a further, athrow b further: the class -/
def ea_t2 (P : EP) (m pc y a b : Nat) : Option Nat := match ep_cod P m pc, ep_cod P m (pc + 3), ep_cod P m (pc + a), ep_cod P m (pc + b) with
  | some (.new x, 3), some (.dup, 1), some (.invokespecial z, 3), some (.athrow, 1) => match ep_pl P m x, ep_pl P m y, ep_pl P m z with
    | some (11, ce, _), some (8, _, _), some (12, ce', _) => bif Nat.beq ce ce' && Nat.ble 9 (ep_dep P m) then match ep_hdl P m with
        | [] => some ce
        | _ => none
      else none
    | _, _, _ => none
  | _, _, _, _ => none
def ea_tw (P : EP) (m pc : Nat) : Option Nat := match ep_cod P m (pc + 4) with
  | some (.ldc y, 2) => ea_t2 P m pc y 6 9
  | some (.ldc_w y, 3) => ea_t2 P m pc y 7 10
  | _ => none
/-- a point of a method: where, locals, stack, cells, how many cells and slots were made -/
abbrev AF : Type := Nat × List (Nat × AV) × List AV × List AC × Nat × Nat
/-- a call -/
def ea_q (P : EP) (cal : Nat → Nat → List (Nat × AV) → List AV → List AC → Nat → Nat → Option AR) (m pc : Nat) (L : List (Nat × AV)) (S : List AV) (C : List AC) (k w : Nat) (i : Instr) (r : Option (Nat × Nat × Nat)) : Option (AF ⊕ AR) :=
  match ea_cl (ep_own P) i r S C with
  | some (mj, as, T, b) =>
    bif Nat.blt (ep_dep P mj) (ep_dep P m) && (Nat.ble (ea_wt T) 8 && Nat.ble (ea_wt as) (ep_nls P mj)) then
      match cal mj 0 (ea_ar 0 as) [] C 0 0 with
      | some (.inl v, C, dk, dw) => ea_fn (pc + 3) fun pc => ea_fn (k + dk) fun k => ea_fn (w + dw) fun w => some (.inl (pc, L, v.toList ++ T, C, k, w))
      | some (.inr ce, C, dk, dw) => bif b then ea_fn (k + dk) fun k => ea_fn (w + dw) fun w => match ea_hd (ep_sub P) ce pc (ep_hdl P m) with
          | some h => some (.inl (h, L, [.inr (.inr (.inr false))], C, k, w))
          | none => some (.inr (.inr ce, C, k, w))
        else none
      | none => none
    else none
  | none => none
/-- one instruction -/
def ea_1 (P : EP) (cal : Nat → Nat → List (Nat × AV) → List AV → List AC → Nat → Nat → Option AR) (m pc : Nat) (L : List (Nat × AV)) (S : List AV) (C : List AC) (k w : Nat) : Option (AF ⊕ AR) :=
  match ep_cod P m pc with
  | none => none
  | some (i, len) =>
    bif Nat.beq (ea_len i) 0 || Nat.beq (ea_len i) len then
      match ea_p i pc (ep_nls P m) L S with
      | some (pc, L, S) => ea_fn pc fun pc => ea_fL L fun L => ea_fS S fun S => some (.inl (pc, L, S, C, k, w))
      | none =>
        match ea_h (ep_ini P m) (ep_pl P m) (ep_fty P) (ep_scr P m) i pc S C with
        | some (pc, S, C', dk, dw) => ea_fn pc fun pc => ea_fS S fun S => ea_fn (k + dk) fun k => ea_fn (w + dw) fun w => match C' with
          | none => some (.inl (pc, L, S, C, k, w))
          | some C' => ea_fL C' fun C' => some (.inl (pc, L, S, C', k, w))
        | none =>
          match ea_rt (ep_rtp P m) i S with
          | some v => some (.inr (.inl v, C, k, w))
          | none =>
            match i with
            | .invokespecial x => match ea_oi (ep_pl P m x) S with
              | some T => bif Nat.ble (ea_wt T) 8 && Nat.ble 1 (ep_dep P m) then ea_fn (pc + 3) fun pc => some (.inl (pc, L, T, C, k, w)) else none
              | none => ea_q P cal m pc L S C k w (.invokespecial x) (ep_pl P m x)
            | .invokestatic x => bif ea_is9 (ep_pl P m x) then match ea_cy S C with
                | some (T, C) => bif Nat.ble 1 (ep_dep P m) then ea_fn (pc + 3) fun pc => ea_fL C fun C => some (.inl (pc, L, T, C, k, w)) else none
                | none => none
              else ea_q P cal m pc L S C k w (.invokestatic x) (ep_pl P m x)
            | .invokevirtual x => ea_q P cal m pc L S C k w (.invokevirtual x) (ep_pl P m x)
            | .new _ => bif Nat.ble (ea_wt S) 100 then match ea_tw P m pc with
                | some ce => some (.inr (.inr ce, C, k + 1, w + 6))
                | none => none
              else none
            | _ => none
    else none
def ea_b (P : EP) (ih : Nat → Nat → List (Nat × AV) → List AV → List AC → Nat → Nat → Option AR) (m pc : Nat) (L : List (Nat × AV)) (S : List AV) (C : List AC) (k w : Nat) : Option AR := match ea_1 P ih m pc L S C k w with
  | some (.inl (pc, L, S, C, k, w)) => ih m pc L S C k w
  | some (.inr r) => some r
  | none => none
/-- a run to the end -/
def ea_x (P : EP) (n : Nat) : Nat → Nat → List (Nat × AV) → List AV → List AC → Nat → Nat → Option AR := Nat.rec (fun _ _ _ _ _ _ _ => none) (fun _ ih => ea_b P ih) n
/-- a run of the method m up to the place stop -/
def ea_y (P : EP) (c m stop : Nat) (n : Nat) : Nat → List (Nat × AV) → List AV → List AC → Nat → Nat → Option AF := Nat.rec (fun _ _ _ _ _ _ => none) (fun _ ih pc L S C k w => bif Nat.beq pc stop then some (pc, L, S, C, k, w) else match ea_1 P (ea_x P c) m pc L S C k w with
  | some (.inl (pc, L, S, C, k, w)) => ih pc L S C k w
  | _ => none) n
end
section
/-! WHAT A PROGRAM'S WORDS SAY -/
theorem ea_hd_some {sub : Nat → Nat → Bool} {ce pc : Nat} : ∀ {hs : List (Nat × Nat × Nat × Nat × Nat)} {h : Nat}, ea_hd sub ce pc hs = some h → ∃ pre q suf, hs = pre ++ q :: suf ∧ (∀ z ∈ pre, ¬ (z.1 ≤ pc ∧ pc < z.2.1 ∧ sub ce z.2.2.2.1 = true)) ∧ q.1 ≤ pc ∧ pc < q.2.1 ∧ sub ce q.2.2.2.1 = true ∧ q.2.2.1 = h
  | [], h, e => by cases e
  | q :: t, h, e => by
    unfold ea_hd at e
    cases hb : (Nat.ble q.1 pc && (Nat.blt pc q.2.1 && sub ce q.2.2.2.1)) with
    | true =>
      rw [hb] at e
      simp only [Bool.and_eq_true] at hb
      exact ⟨[], q, t, rfl, fun z hz => (nomatch hz), Nat.le_of_ble_eq_true hb.1, Nat.le_of_ble_eq_true hb.2.1, hb.2.2, Option.some.inj e⟩
    | false =>
      rw [hb] at e
      obtain ⟨pre, q', suf, h1, h2, h3⟩ := ea_hd_some (hs := t) e
      refine ⟨q :: pre, q', suf, by rw [h1]; rfl, fun z hz => ?_, h3⟩
      rcases List.mem_cons.mp hz with rfl | hz
      · intro hc
        have : (Nat.ble z.1 pc && (Nat.blt pc z.2.1 && sub ce z.2.2.2.1)) = true := by
          simp only [Bool.and_eq_true]
          exact ⟨Nat.ble_eq_true_of_le hc.1, Nat.ble_eq_true_of_le hc.2.1, hc.2.2⟩
        rw [hb] at this
        cases this
      · exact h2 z hz
theorem ea_hd_none {sub : Nat → Nat → Bool} {ce pc : Nat} : ∀ {hs : List (Nat × Nat × Nat × Nat × Nat)}, ea_hd sub ce pc hs = none → ∀ z ∈ hs, ¬ (z.1 ≤ pc ∧ pc < z.2.1 ∧ sub ce z.2.2.2.1 = true)
  | [], _, z, hz => nomatch hz
  | q :: t, e, z, hz => by
    unfold ea_hd at e
    cases hb : (Nat.ble q.1 pc && (Nat.blt pc q.2.1 && sub ce q.2.2.2.1)) with
    | true => rw [hb] at e; cases e
    | false =>
      rw [hb] at e
      rcases List.mem_cons.mp hz with rfl | hz
      · intro hc
        have : (Nat.ble z.1 pc && (Nat.blt pc z.2.1 && sub ce z.2.2.2.1)) = true := by
          simp only [Bool.and_eq_true]
          exact ⟨Nat.ble_eq_true_of_le hc.1, Nat.ble_eq_true_of_le hc.2.1, hc.2.2⟩
        rw [hb] at this
        cases this
      · exact ea_hd_none e z hz
/-- the names of a program: its methods, their bytes, what they give; the classes of its objects; the classes of exceptions, and what is above them; good words, words of nests and casts, Strings, classes of arrays, pairs that cannot be cast; how many methods -/
abbrev EN : Type := (Nat → MethodName) × (Nat → ByteArray) × (Nat → Option FieldType) × List vw_C × (Nat → String) × List String × List Jvm.Cond × List Jvm.Cond × List (String × Nat × String) × List String × Nat
abbrev en_y (N : EN) : Nat → MethodName := N.1
abbrev en_b (N : EN) : Nat → ByteArray := N.2.1
abbrev en_r (N : EN) : Nat → Option FieldType := N.2.2.1
abbrev en_cl (N : EN) : List vw_C := N.2.2.2.1
abbrev en_x (N : EN) : Nat → String := N.2.2.2.2.1
abbrev en_up (N : EN) : List String := N.2.2.2.2.2.1
abbrev en_T (N : EN) : List Jvm.Cond := N.2.2.2.2.2.2.1
abbrev en_n (N : EN) : List Jvm.Cond := N.2.2.2.2.2.2.2.1
abbrev en_s (N : EN) : List (String × Nat × String) := N.2.2.2.2.2.2.2.2.1
abbrev en_a (N : EN) : List String := N.2.2.2.2.2.2.2.2.2.1
abbrev en_k (N : EN) : Nat := N.2.2.2.2.2.2.2.2.2.2
def ea_hs (P : EP) (m : Nat) : List (Nat × Nat × Nat × Nat) := (ep_hdl P m).map (fun q => (q.1, q.2.1, q.2.2.1, q.2.2.2.2))
/-- a method's own word -/
def ea_hw (P : EP) (N : EN) (m : Nat) : Jvm.Cond := match ep_hdl P m with
  | [] => .code (en_y N m) (en_b N m) (ep_nls P m) (en_r N m)
  | _ => .codeWith (en_y N m) (en_b N m) (ep_nls P m) (en_r N m) (ea_hs P m)
def ea_rk (r : Nat) (t : Option FieldType) : Prop := match r with
  | 0 => t = none
  | 1 => t = some .int
  | 2 => t = some .long
  | 3 => t = some .boolean
  | _ => True
/-- how many parameters -/
def ea_pn (y : MethodName) (n : Nat) : Prop := (parseMethodDescriptor y.desc).map (fun d => d.parameters.length) = some n
/-- what a pool entry says -/
def ea_ps (P : EP) (N : EN) (own : String) (x : Nat) (r : Nat × Nat × Nat) : Prop := match r with
  | (0, ci, k) => ∃ q, (en_cl N)[ci]? = some q ∧ k < q.2.2 ∧ Jvm.Cond.fieldLink own x (q.2.1 k).1 (q.2.1 k).2.1 (q.2.1 k).2.2.1 ∈ en_T N ∧ (q.2.1 k).2.2.2 = false
  | (20, ci, k) => ∃ q, (en_cl N)[ci]? = some q ∧ k < q.2.2 ∧ Jvm.Cond.fieldLink own x (q.2.1 k).1 (q.2.1 k).2.1 (q.2.1 k).2.2.1 ∈ en_T N
  | (21, ci, k) => ∃ q, (en_cl N)[ci]? = some q ∧ k < q.2.2 ∧ Jvm.Cond.fieldLink own x (q.2.1 k).1 (q.2.1 k).2.1 (q.2.1 k).2.2.1 ∈ en_T N ∧ (q.2.1 k).2.2.2 = true ∧ (q.2.1 k).1 = own
  | (5, ci, n) => ∃ q, (en_cl N)[ci]? = some q ∧ q.2.2 = n ∧ Jvm.Cond.classLink own x q.1 ∈ en_T N ∧ Jvm.Cond.instantiable q.1 n ∈ en_T N ∧ Jvm.Cond.initialized q.1 ∈ en_T N
  | (6, v, _) => Jvm.Cond.constant own x (Int32.ofNat v) ∈ en_T N
  | (7, v, _) => Jvm.Cond.constantLong own x (Int64.ofNat v) ∈ en_T N
  | (10, ci, _) => ∃ q, (en_cl N)[ci]? = some q ∧ Jvm.Cond.classLink own x q.1 ∈ en_T N ∧ q.1 ∈ en_a N
  | (22, ci, n) => ∃ q, (en_cl N)[ci]? = some q ∧ q.2.2 = n ∧ Jvm.Cond.classLink own x q.1 ∈ en_T N ∧ Jvm.Cond.instantiable q.1 n ∈ en_T N ∧ Jvm.Cond.initialized q.1 ∈ en_T N ∧ q.1 ∈ en_a N
  | (1, mj, n) => 0 < mj ∧ mj < en_k N ∧ Jvm.Cond.methodLink own x (en_y N mj) ∈ en_T N ∧ Jvm.Cond.static (en_y N mj) ∈ en_T N ∧ ea_pn (en_y N mj) n
  | (13, mj, n) => 0 < mj ∧ mj < en_k N ∧ ep_hdl P mj = [] ∧ (∃ h, Jvm.Cond.methodLinkNest own x (en_y N mj) h ∈ en_n N) ∧ Jvm.Cond.static (en_y N mj) ∈ en_T N ∧ ea_pn (en_y N mj) n
  | (2, mj, n) => 0 < mj ∧ mj < en_k N ∧ ep_hdl P mj = [] ∧ Jvm.Cond.methodLink own x (en_y N mj) ∈ en_T N ∧ Jvm.Cond.instanceMethod (en_y N mj) ∈ en_T N ∧ Jvm.Cond.selects (en_y N mj).cls (en_y N mj) (en_y N mj) ∈ en_T N ∧ (∃ q, (en_cl N)[ep_own P mj]? = some q ∧ q.1 = (en_y N mj).cls) ∧ ea_pn (en_y N mj) n
  | (3, mj, n) => 0 < mj ∧ mj < en_k N ∧ ep_hdl P mj = [] ∧ Jvm.Cond.methodLink own x (en_y N mj) ∈ en_T N ∧ Jvm.Cond.instanceMethod (en_y N mj) ∈ en_T N ∧ (en_y N mj).name = "<init>" ∧ en_r N mj = none ∧ ea_pn (en_y N mj) n
  | (15, mj, n) => 0 < mj ∧ mj < en_k N ∧ ep_hdl P mj = [] ∧ (∃ h, Jvm.Cond.methodLinkNest own x (en_y N mj) h ∈ en_n N) ∧ Jvm.Cond.instanceMethod (en_y N mj) ∈ en_T N ∧ (en_y N mj).name = "<init>" ∧ en_r N mj = none ∧ ea_pn (en_y N mj) n
  | (4, _, _) => Jvm.Cond.methodLink own x objectInit ∈ en_T N ∧ Jvm.Cond.instanceMethod objectInit ∈ en_T N ∧ Jvm.Cond.code objectInit ⟨#[0xb1]⟩ 1 none ∈ en_T N
  | (9, _, _) => Jvm.Cond.methodLink own x arraycopyName ∈ en_T N ∧ Jvm.Cond.native arraycopyName ∈ en_T N ∧ Jvm.Cond.static arraycopyName ∈ en_T N ∧ Jvm.Cond.initialized "java/lang/System" ∈ en_T N
  | (8, _, _) => ∃ tx, (own, x, tx) ∈ en_s N
  | (11, ce, _) => Jvm.Cond.classLink own x (en_x N ce) ∈ en_T N ∧ Jvm.Cond.initialized (en_x N ce) ∈ en_T N ∧ vx_ot (.classLink own x (en_x N ce)) = true ∧ vx_ot (.initialized (en_x N ce)) = true
  | (12, ce, _) => Bundle.fit (en_x N ce) = true ∧ ∀ w ∈ vx_atS own x (en_x N ce) (en_up N), (w ∈ en_T N ∨ w ∈ en_n N) ∧ vx_ot w = true
  | _ => True
/-- what is known of a method -/
def ea_mo (P : EP) (N : EN) (m : Nat) : Prop := plainName (en_y N m).cls = true ∧ ((en_y N m).cls ≠ "java/lang/invoke/MethodHandle" ∧ (en_y N m).cls ≠ "java/lang/invoke/VarHandle") ∧ ea_hw P N m ∈ en_T N ∧ (∀ pc q, ep_cod P m pc = some q → decode (en_b N m) pc = .ok q) ∧ (ep_ini P m = true → (en_y N m).name = "<init>") ∧ ea_rk (ep_rtp P m) (en_r N m) ∧ Jvm.Cond.initialized (en_y N m).cls ∈ en_T N ∧ (∀ q ∈ ep_hdl P m, q.2.2.2.2 ≠ 0 ∧ Jvm.Cond.classLink (en_y N m).cls q.2.2.2.2 (en_x N q.2.2.2.1) ∈ en_T N) ∧ (∀ x r, ep_pl P m x = some r → ea_ps P N (en_y N m).cls x r) ∧ ep_nls P m ≤ 80
/-- what is known of a program -/
def ea_pr (P : EP) (N : EN) : Prop := (∀ m, m < en_k N → ea_mo P N m) ∧ ea_cw (en_T N) (en_cl N) (ep_fty P) ∧ (∀ w ∈ en_T N, goodWord w = true) ∧ (∀ w ∈ en_n N, (∃ a b, w = .castable a b) ∨ ∃ a i x h, w = .methodLinkNest a i x h) ∧ (∀ n ∈ en_up N, Bundle.fit n = true) ∧ (en_up N).length ≤ 4 ∧ (∀ t, t = FieldType.int ∨ t = FieldType.long ∨ t = FieldType.byte → Jvm.Cond.arrayClass t ∈ en_T N) ∧ (∀ a b, ep_sub P a b = true → Jvm.Cond.castable (en_x N a) (en_x N b) ∈ en_n N) ∧ ∀ m, 0 < m → ep_scr P m = none
/-- what holds of a state's tables and of the cells that stay -/
def ea_G (N : EN) (P : EP) (D : va_G) (A : Nat → Prop) (U : State) (H : Heap) : Prop := va_K D (en_cl N) [] U ∧ (∀ w ∈ en_n N, va_Nw w U) ∧ (∀ q ∈ en_s N, ∃ a, vk_R q.1 q.2.1 q.2.2 a U) ∧ (∀ C ∈ en_a N, va_AO C U) ∧ (∀ a b, ep_sub P a b = false → va_Nc (en_x N a) (en_x N b) U) ∧ vx_Zq Bundle.tN "UNASSIGNED_STACK" Bundle.steD A U H ∧ vx_Zq Bundle.tN "SUPPRESSED_SENTINEL" Bundle.listD A U H ∧ ∀ q, H.size ≤ q → A q
theorem ea_G_step {P : EP} {N : EN} (hpr : ea_pr P N) {D : va_G} {A : Nat → Prop} {s U : State} {H H1 : Heap} (hW : s.WarmedH U.vm) (hz : H.size ≤ H1.size) (hq : ∀ q : Nat, q < H.size → ¬ A q → H1[q]? = H[q]?) (h : ea_G N P D A s H) : ea_G N P D A U H1 := by
  obtain ⟨h1, h2, h3, h4, h5, h6, h7, h8⟩ := h
  refine ⟨va_K.moved hW.alike h1, fun w hw => ?_, fun q hqq => ?_, fun C hC => va_AO.moved hW.alike (h4 C hC), fun a b hab => va_Nc.moved hW.alike (h5 a b hab), vx_Zq.moved hW.alike (h6.kept hq), vx_Zq.moved hW.alike (h7.kept hq), fun q hqq => h8 q (Nat.le_trans hz hqq)⟩
  · rcases hpr.2.2.2.1 w hw with ⟨a, b, rfl⟩ | ⟨a, i, x, hh, rfl⟩
    · exact va_Nw.warmC hW (h2 _ hw)
    · exact va_Nw.warmM hW (h2 _ hw)
  · obtain ⟨a, ha⟩ := h3 q hqq
    exact ⟨a, ha.warm hW⟩
/-- a pool entry's words, where they hold -/
theorem ea_po_of {P : EP} {N : EN} {D : va_G} {A : Nat → Prop} {U : State} {H : Heap} (hG : ea_G N P D A U H) {own : String} {x : Nat} {r : Nat × Nat × Nat} (h : ea_ps P N own x r) : ea_po (en_T N) (en_cl N) U own x r := by
  unfold ea_po
  split
  · exact h
  · exact h
  · exact h
  · exact h
  · exact h
  · exact h
  · obtain ⟨q, h1, h2, h3⟩ := h
    exact ⟨q, h1, h2, hG.2.2.2.1 _ h3⟩
  · obtain ⟨q, h1, h2, h3, h4, h5, h6⟩ := h
    exact ⟨q, h1, h2, h3, h4, h5, hG.2.2.2.1 _ h6⟩
  · trivial
end
section
/-! THE ABSTRACT MACHINE AND THE MACHINE: contracts -/
theorem ea_ext_t {a b c : va_W} (h1 : ea_ext a b) (h2 : ea_ext b c) : ea_ext a c := fun k q h => h2 k q (h1 k q h)
theorem ea_ext_p {ws ws' : va_W} (h : ea_ext ws ws') (sb : Nat) : (sb, ws.map Prod.fst).1 = (sb, ws'.map Prod.fst).1 ∧ ∀ k q : Nat, (sb, ws.map Prod.fst).2[k]? = some q → (sb, ws'.map Prod.fst).2[k]? = some q := ⟨rfl, h⟩
def ea_rv (ad : Nat × List Nat) (o : Option AV) (v : Option Value) : Prop := match o with
  | none => v = none
  | some a => ∃ x, v = some x ∧ ea_gv ad a x
/-- a world in a state -/
def ea_S (N : EN) (D : va_G) (A : Nat → Prop) (sb : Nat) (C : List AC) (ws : va_W) (U : State) : Prop := va_P D (en_cl N) ws U.heap ∧ va_D A ws ∧ ea_H (en_cl N) U sb C ws
def ea_Pc (N : EN) (P : EP) (D : va_G) (A : Nat → Prop) (sb : Nat) (C : List AC) (ws : va_W) (vs : List Value) : Array Value → State → Prop := fun a U => a = vs.toArray ∧ ea_S N D A sb C ws U ∧ ea_G N P D A U U.heap
def ea_Qc (N : EN) (D : va_G) (A : Nat → Prop) (sb : Nat) (ws : va_W) (o : Option AV ⊕ Nat) (C : List AC) : Array Value → State → Outcome → State → Prop := fun _ st oc t => match o with
  | .inl ov => ∃ ws' v, oc = .returned v ∧ ea_ext ws ws' ∧ ea_rv (sb, ws'.map Prod.fst) ov v ∧ ea_S N D A sb C ws' t ∧ va_F A st t
  | .inr _ => False
def ea_XC (N : EN) (D : va_G) (A : Nat → Prop) (sb : Nat) (ws : va_W) (o : Option AV ⊕ Nat) (C : List AC) : String → State → State → Prop := fun E st t => match o with
  | .inl _ => False
  | .inr ce => ∃ ws', E = en_x N ce ∧ ea_ext ws ws' ∧ ea_S N D A sb C ws' t ∧ va_F A st t
theorem ea_blind {N : EN} {P : EP} {D : va_G} {A : Nat → Prop} {sb : Nat} {C : List AC} {ws : va_W} {vs : List Value} (hpr : ea_pr P N) : FrameBlind (ea_Pc N P D A sb C ws vs) := by
  intro a U g mk h
  obtain ⟨h1, ⟨hP, hD, hH⟩, hG⟩ := h
  have hW : U.WarmedH (U.calling g mk a).vm := State.WarmedH.refl U
  exact ⟨h1, ⟨hP, hD, ea_H_moved hW.alike hH⟩, ea_G_step (U := U.calling g mk a) (H1 := U.heap) hpr hW (Nat.le_refl _) (fun _ _ _ => rfl) hG⟩
/-- what holds in the body of a method -/
def ea_cx (P : EP) (N : EN) (D : va_G) (A : Nat → Prop) (sb : Nat) (mi : Nat) (p : Program) (l : Launch) (s : State) (m : MethodId) (args : Array Value) (meth : Method) (c : Code) : Prop :=
  p.tables.exec = Jvm.exec ∧ c.code = en_b N mi ∧ (∀ w ∈ en_T N, w.before args s = true) ∧ s.vm.findClass (en_y N mi).cls = some m.cls ∧ (ep_ini P mi = true → meth.name = "<init>") ∧ meth.locks = false ∧ meth.sig.returnType = en_r N mi ∧ c.maxLocals = ep_nls P mi ∧
  c.exceptionTable.toList = tableOf (ea_hs P mi) ∧ ea_G N P D A s s.heap ∧ l.stackTraces = false ∧ ∀ X, ep_scr P mi = some X → ¬ A sb ∧ sb < s.heap.size ∧ ∃ xs : Nat → Int32, va_X sb X.length xs s s.heap ∧ ∀ j v, X[j]? = some v → ea_gi v (xs j)
theorem ea_wt_ok {ad : Nat × List Nat} : ∀ {S : List AV} {st : List Value}, ea_rl (ea_gv ad) S st → (st.map fun v => v.category).sum = ea_wt S
  | [], [], _ => rfl
  | a :: S, v :: st, h => by
    rw [List.map_cons, List.sum_cons, ea_wt_ok h.2, ea_gv_cat h.1]
    rfl
  | [], _ :: _, h => h.elim
  | _ :: _, [], h => h.elim
theorem ea_sl_ok {ad : Nat × List Nat} : ∀ {S : List AV} {st : List Value}, ea_rl (ea_gv ad) S st → (lg_sl st).length = ea_wt S
  | [], [], _ => rfl
  | a :: S, v :: st, h => by
    have hc := ea_gv_cat h.1
    have ih : (List.flatMap (fun v : Value => if v.category = 2 then [Slot.val v, .second] else [Slot.val v]) st).length = ea_wt S := ea_sl_ok h.2
    show (List.flatMap (fun v : Value => if v.category = 2 then [Slot.val v, .second] else [Slot.val v]) (v :: st)).length = ea_cat a + ea_wt S
    rw [List.flatMap_cons, List.length_append, ih, hc]
    rcases lv_cat v with h1 | h1 <;> rw [hc] at h1 <;> simp [h1]
  | [], _ :: _, h => h.elim
  | _ :: _, [], h => h.elim
theorem ea_ar_ok {ad : Nat × List Nat} : ∀ {as : List AV} {vs : List Value} (i : Nat), ea_rl (ea_gv ad) as vs → ea_rl (ea_lr ad) (ea_ar i as) (lv_args i vs)
  | [], [], _, _ => trivial
  | a :: as, v :: vs, i, h => by
    refine ⟨⟨rfl, h.1⟩, ?_⟩
    rw [ea_gv_cat h.1]
    exact ea_ar_ok _ h.2
  | [], _ :: _, _, h => h.elim
  | _ :: _, [], _, h => h.elim
section EAC
variable {p : Program} {l : Launch} {e : Env} {R : Room} {s : State} {m : MethodId} {args : Array Value} {below : List Frame} {meth : Method} {c : Code} {H : Heap} {locs : List Loc} {k w : Nat} {Q : State → Prop}
variable {pc : Nat} {ls : Array Slot} {st rest : List Value} {P : EP} {N : EN} {D : va_G} {A : Nat → Prop} {sb : Nat} {ws : va_W} {C : List AC}
/-- behind a call -/
theorem ea_after {mc ms : Nat} {o : Option AV ⊕ Nat} {a : Array Value} (hr : vx_Run p l e R s m args below meth c H locs k w mc ms (F0 m pc ls st) rest (ea_Qc N D A sb ws o C a) (ea_XC N D A sb ws o C) A) (hS : va_S A s.heap H locs)
    (kr : ∀ ov, o = .inl ov → ∀ (ws' : va_W) (v : Option Value) (H1 : Heap) (locs1 : List Loc), ea_W D (en_cl N) A s sb C ws' H1 locs1 → ea_ext ws ws' → ea_rv (sb, ws'.map Prod.fst) ov v → W p l e R s m args below meth c H1 locs1 (k + mc) (w + ms) Q (F0 m (pc + 3) ls (v.toList ++ rest)))
    (kx : ∀ ce, o = .inr ce → ∀ (ws' : va_W) (q : Addr) (cell : Cell) (H1 : Heap) (locs1 : List Loc), ea_W D (en_cl N) A s sb C ws' H1 locs1 → ea_ext ws ws' → H1[q]? = some cell → cell.vm = .none → s.vm.findClass (en_x N ce) = some cell.cls → vx_W p l e R s m args below meth c H1 locs1 (k + mc) (w + ms) Q (F0 m pc ls rest) q) :
    W p l e R s m args below meth c H locs k w Q (F0 m pc ls st) := by
  intro T hT X
  rcases hr T hT X with ⟨v, st₀, t, T', L, h0, X', hL, e1, e2, hq, st2⟩ | ⟨q, st₀, t, T', L, E, ce, h0, X', hL, e1, e2, hq, hce, hcv, hcl, st2⟩
  · cases o with
    | inr _ => exact hq.elim
    | inl ov =>
      obtain ⟨ws', v', hv, hext, hrv, ⟨hP, hD, hH⟩, hF⟩ := hq
      cases hv
      obtain ⟨k1, k2, k3⟩ := vx_keep h0 e1 hS (fun _ _ h => h) (fun _ h => h) hL hF
      have hal : t.vm.Alike s.vm := by rw [← e2]; exact X'.warmed.alike.symm
      obtain ⟨t2, a1, b1⟩ := kr ov rfl ws' v T'.heap (locs ++ L) ⟨by rw [e1]; exact hP, hD, k3, ea_H_moved hal hH⟩ hext hrv T' rfl X'
      exact ⟨t2, st2 t2 a1, b1⟩
  · cases o with
    | inl _ => exact hq.elim
    | inr x =>
      obtain ⟨ws', rfl, hext, ⟨hP, hD, hH⟩, hF⟩ := hq
      obtain ⟨k1, k2, k3⟩ := vx_keep h0 e1 hS (fun _ _ h => h) (fun _ h => h) hL hF
      have hal : t.vm.Alike s.vm := by rw [← e2]; exact X'.warmed.alike.symm
      obtain ⟨t2, a1, b1⟩ := kx x rfl ws' q ce T'.heap (locs ++ L) ⟨by rw [e1]; exact hP, hD, k3, ea_H_moved hal hH⟩ hext (by rw [e1]; exact hce) hcv hcl T' rfl X'
      exact ⟨t2, st2.trans a1, b1⟩
/-- the end of a method -/
theorem ea_rt_ok {mi : Nat} {i : Instr} {len : Nat} {S : List AV} {v : Option AV} {ws0 : va_W} (hcx : ea_cx P N D A sb mi p l s m args meth c) (hrk : ea_rk (ep_rtp P mi) (en_r N mi)) (hdg : decode (en_b N mi) pc = .ok (i, len)) (hlen : ea_len i = 0 ∨ ea_len i = len) (hp : ea_rt (ep_rtp P mi) i S = some v)
    (hW : ea_W D (en_cl N) A s sb C ws H locs) (hext : ea_ext ws0 ws) (hs : ea_rl (ea_gv (sb, ws.map Prod.fst)) S st) :
    W p l e R s m args below meth c H locs k w (vx_MQ below (ea_Qc N D A sb ws0 (.inl v) C) (ea_XC N D A sb ws0 (.inl v) C) args s k w A) (F0 m pc ls st) := by
  obtain ⟨hexec, hb, hts, hown, hini, hlocks, hret, hml, hex, hG, hst, hX⟩ := hcx
  obtain ⟨hP, hD, hS, hH⟩ := hW
  have hq : ∀ (x : Option Value), ea_rv (sb, ws.map Prod.fst) v x → ∀ t : State, t.heap = H → s.WarmedH t.vm → ea_Qc N D A sb ws0 (.inl v) C args s (.returned x) t := fun x hx t ht hWt =>
    ⟨ws, x, rfl, hext, hx, ⟨by rw [ht]; exact hP, hD, ea_H_moved hWt.alike hH⟩, hS.F ht⟩
  unfold ea_rt at hp
  split at hp
  · rename_i a
    obtain rfl : 1 = len := by simpa [ea_len] using hlen
    obtain ⟨x, _, rfl, hv, hs1⟩ := ea_pop hs
    obtain rfl := ea_rl_nil hs1
    split at hp
    · rename_i hr
      cases hf : ea_fit 0 a with
      | false => rw [hf] at hp; cases hp
      | true =>
        rw [hf] at hp
        cases hp
        rw [hr] at hrk
        obtain ⟨y, rfl, hy⟩ : ∃ y : Int32, x = .int y ∧ True := by
          unfold ea_fit at hf
          split at hf <;> first | cases hf | skip
          all_goals first | (obtain ⟨y, rfl, -⟩ := hv; exact ⟨y, rfl, trivial⟩) | contradiction
        exact vx_ret (W.iret hexec hb (hret.trans hrk) (hq _ ⟨_, rfl, hv⟩) hS.2.2 hdg hlocks)
    · rename_i hr
      cases hf : ea_fit 2 a with
      | false => rw [hf] at hp; cases hp
      | true =>
        rw [hf] at hp
        cases hp
        rw [hr] at hrk
        obtain ⟨hn, -⟩ := ea_fit_ok hf hv (show ea_tg 2 .boolean from rfl)
        obtain ⟨y, rfl, hy⟩ : ∃ y : Int32, x = .int y ∧ True := by
          unfold ea_fit at hf
          split at hf <;> first | cases hf | skip
          all_goals first | (obtain ⟨y, rfl, -⟩ := hv; exact ⟨y, rfl, trivial⟩) | contradiction
        exact vx_ret (W.zret hexec hb (hret.trans hrk) hn (hq _ ⟨_, rfl, hv⟩) hS.2.2 hdg hlocks)
    · cases hp
  · rename_i a
    obtain rfl : 1 = len := by simpa [ea_len] using hlen
    obtain ⟨x, _, rfl, hv, hs1⟩ := ea_pop hs
    obtain rfl := ea_rl_nil hs1
    split at hp
    · rename_i hr
      cases hf : ea_fit 1 a with
      | false => rw [hf] at hp; cases hp
      | true =>
        rw [hf] at hp
        cases hp
        rw [hr] at hrk
        obtain ⟨y, rfl, hy⟩ : ∃ y : Int64, x = .long y ∧ True := by
          unfold ea_fit at hf
          split at hf <;> first | cases hf | skip
          all_goals first | (obtain ⟨y, rfl, -⟩ := ea_gl hv; exact ⟨y, rfl, trivial⟩) | contradiction
        exact vx_ret (W.lret hexec hb (hret.trans hrk) (hq _ ⟨_, rfl, hv⟩) hS.2.2 hdg hlocks)
    · cases hp
  · obtain rfl : 1 = len := by simpa [ea_len] using hlen
    obtain rfl := ea_rl_nil hs
    split at hp
    · rename_i hr
      cases hp
      rw [hr] at hrk
      exact vx_ret (W.vret hexec hb (hret.trans hrk) (hq _ rfl) hS.2.2 hdg hlocks)
    · cases hp
  · cases hp
end EAC
end
section
/-! THE ABSTRACT MACHINE AND THE MACHINE: what it runs, the machine runs -/
def ea_rm (P : EP) (m k w : Nat) : Room := { frames := ep_dep P m, cells := k, slots := w, locals := 100 * ep_dep P m }
def ea_good (P : EP) (N : EN) (D : va_G) (A : Nat → Prop) (sb : Nat) (l : Launch) (mi pc : Nat) (L : List (Nat × AV)) (S : List AV) (C : List AC) (k w : Nat) (o : Option AV ⊕ Nat) (C' : List AC) (k1 w1 : Nat) : Prop :=
  k ≤ k1 ∧ w ≤ w1 ∧ ∀ (p : Program) (e : Env) (s : State) (m : MethodId) (args : Array Value) (below : List Frame) (meth : Method) (c : Code) (H : Heap) (locs : List Loc) (ls : Array Slot) (st : List Value) (ws ws0 : va_W),
    ea_cx P N D A sb mi p l s m args meth c → ea_W D (en_cl N) A s sb C ws H locs → ea_ext ws0 ws → ea_L (sb, ws.map Prod.fst) (ep_nls P mi) L ls → ea_rl (ea_gv (sb, ws.map Prod.fst)) S st →
    W p l e (ea_rm P mi k1 w1) s m args below meth c H locs k w (vx_MQ below (ea_Qc N D A sb ws0 o C') (ea_XC N D A sb ws0 o C') args s k1 w1 A) (F0 m pc ls st)
section EAM
variable {P : EP} {N : EN} {D : va_G} {A : Nat → Prop} {sb : Nat} {l : Launch}
theorem ea_met (hpr : ea_pr P N) (hst : l.stackTraces = false) {mj : Nat} (h0 : 0 < mj) (hk : mj < en_k N) {as : List AV} {C C1 : List AC} {o : Option AV ⊕ Nat} {dk dw : Nat} (hg : ea_good P N D A sb l mj 0 (ea_ar 0 as) [] C 0 0 o C1 dk dw) (hwt : ea_wt as ≤ ep_nls P mj) {ws : va_W} {vs : List Value} (hvs : ea_rl (ea_gv (sb, ws.map Prod.fst)) as vs) :
    vx_Met l (en_y N mj) (ea_hw P N mj :: en_T N) (ea_rm P mj dk dw) (ea_Pc N P D A sb C ws vs) (ea_Qc N D A sb ws o C1) (ea_XC N D A sb ws o C1) dk dw A := by
  obtain ⟨hy, hyh, hwd, hdec, hini, hrk, hinit, hhc, hpool, hnl⟩ := hpr.1 mj hk
  have body : ∀ p e s m args below meth c s₁, BodyLoose p l (en_y N mj) (headSpec (ea_hw P N mj :: en_T N) (ea_rm P mj dk dw)) (en_b N mj) (ep_nls P mj) (en_r N mj) e s m args below meth c s₁ → c.maxLocals = ep_nls P mj → c.exceptionTable.toList = tableOf (ea_hs P mj) → ea_Pc N P D A sb C ws vs args s →
      W p l e (headSpec (ea_hw P N mj :: en_T N) (ea_rm P mj dk dw)).room s m args below meth c s.heap [] 0 0 (vx_MQ below (ea_Qc N D A sb ws o C1) (ea_XC N D A sb ws o C1) args s dk dw A) (entryFrame m args (ep_nls P mj)) := by
    intro p e s m args below meth c s₁ B hml ht hv
    obtain ⟨rfl, ⟨hP, hD, hH⟩, hG⟩ := hv
    have hts := atoms_spec (ws := ea_hw P N mj :: en_T N) B.pre
    have hl := lv_entry vs (n := ep_nls P mj) (by rw [ea_sl_ok hvs]; exact hwt)
    rw [lg_entry_eq]
    exact hg.2.2 p e s m _ below meth c s.heap [] _ [] ws ws ⟨B.exec, B.bytes, fun w hw => hts w (List.mem_cons_of_mem _ hw), findClass_of_methodNamed B.named, fun hi => (name_of_methodNamed B.named B.method).1.trans (hini hi), B.notSynchronized, B.returns, hml, ht, hG, hst, fun X hX => by rw [hpr.2.2.2.2.2.2.2.2 mj h0] at hX; cases hX⟩
      ⟨hP, hD, va_S.rf, hH⟩ (ea_ext_r ws) ⟨_, ea_ar_ok 0 hvs, hl⟩ trivial
  cases hh : ep_hdl P mj with
  | nil =>
    refine vx_ofW (cc := en_b N mj) (maxL := ep_nls P mj) (ret := en_r N mj) (ws' := en_T N) hy (by simp only [ea_hw, hh]) ?_
    intro p e s m args below meth c s₁ B hml ht hv
    refine body p e s m args below meth c s₁ B hml ?_ hv
    have : ea_hs P mj = [] := by unfold ea_hs; rw [hh]; rfl
    rw [this]
    exact List.eq_nil_iff_forall_not_mem.mpr (fun x hx => ht x hx)
  | cons q t =>
    have hwe : ea_hw P N mj = .codeWith (en_y N mj) (en_b N mj) (ep_nls P mj) (en_r N mj) (ea_hs P mj) := by simp only [ea_hw, hh]
    refine vx_ofWH (cc := en_b N mj) (maxL := ep_nls P mj) (ret := en_r N mj) (hh := ea_hs P mj) (ws' := en_T N) hy (by rw [hwe]) ?_
    intro p e s m args below meth c s₁ B hml hv
    refine body p e s m args below meth c s₁ B hml ?_ hv
    have hts := atoms_spec (ws := ea_hw P N mj :: en_T N) B.pre
    exact vx_table (x := en_y N mj) B (by have := hts _ List.mem_cons_self; rw [hwe] at this; exact this)
/-- a contract that never throws -/
theorem ea_ret {y : MethodName} {ws : List Jvm.Cond} {rm : Room} {Pc : Array Value → State → Prop} {Qc : Array Value → State → Outcome → State → Prop} {XC : String → State → State → Prop} {mc ms : Nat} {free : Addr → Prop} (hX : ∀ E a b, ¬ XC E a b) (h : vx_Met l y ws rm Pc Qc XC mc ms free) : Met l y ws rm Pc Qc mc ms free := by
  intro p e ha hc hk s m args below hf happ hP hK
  obtain ⟨n, o, h1, h2, h3, h4⟩ := h p e ha hc hk s m args below hf happ hP hK
  refine ⟨n, o, h1, h2, h3, ?_⟩
  rcases h4 with h4 | ⟨q, -, E, ce, L, hx, -⟩
  · exact h4
  · exact absurd hx (hX _ _ _)
theorem ea_runX {p : Program} {e : Env} {R : Room} {s : State} {m : MethodId} {args : Array Value} {below : List Frame} {meth : Method} {c : Code} {H : Heap} {locs : List Loc} {cells slots mc ms : Nat} {g : JFrame} {rest : List Value} {Qa : State → Outcome → State → Prop} {XC : String → State → State → Prop} {free : Addr → Prop}
    (h : va_Run p l e R s m args below meth c H locs cells slots mc ms g rest Qa free) : vx_Run p l e R s m args below meth c H locs cells slots mc ms g rest Qa XC free := fun T hT X => Or.inl (h T hT X)
variable {p : Program} {e : Env} {s : State} {m : MethodId} {args : Array Value} {below : List Frame} {meth : Method} {c : Code} {H : Heap} {locs : List Loc} {k w : Nat}
variable {pc : Nat} {ls : Array Slot} {st : List Value} {ws : va_W} {C : List AC}
/-- a callee's start, at the call -/
theorem ea_pre (hpr : ea_pr P N) {mi : Nat} (hcx : ea_cx P N D A sb mi p l s m args meth c) (hW : ea_W D (en_cl N) A s sb C ws H locs) (vs : List Value) : ∀ U : State, U.heap = H → s.WarmedH U.vm → ea_Pc N P D A sb C ws vs vs.toArray U := by
  intro U hU hWU
  obtain ⟨hP, hD, hS, hH⟩ := hW
  obtain ⟨-, -, -, -, -, -, -, -, -, hG, -⟩ := hcx
  exact ⟨rfl, ⟨by rw [hU]; exact hP, hD, ea_H_moved hWU.alike hH⟩, ea_G_step hpr hWU (by rw [hU]; exact hS.1) (fun q h1 h2 => by rw [hU]; exact hS.2.1 q h1 h2) hG⟩
theorem ea_words (hpr : ea_pr P N) {mj : Nat} (hk : mj < en_k N) (hts : ∀ w ∈ en_T N, w.before args s = true) : ∀ w ∈ ea_hw P N mj :: en_T N, ∀ (a' : Array Value) (U : State), s.WarmedH U.vm → w.before a' U = true := by
  intro w hw a' U hWU
  have hm : w ∈ en_T N := by
    rcases List.mem_cons.mp hw with rfl | h
    · exact (hpr.1 mj hk).2.2.1
    · exact h
  exact word_at hWU (good_of_word (hpr.2.2.1 w hm)) (hts w hm)
theorem ea_parm {y : MethodName} {n : Nat} (h : ea_pn y n) : ∀ sig, parseMethodDescriptor y.desc = some sig → n = sig.parameters.length := by
  intro sig hs
  unfold ea_pn at h
  rw [hs] at h
  exact (Option.some.inj h).symm
theorem ea_room {mi mj k1 w1 dk dw : Nat} (hpr : ea_pr P N) (hk : mj < en_k N) (hd : ep_dep P mj < ep_dep P mi) : (ea_rm P mj dk dw).frames + 1 ≤ (ea_rm P mi k1 w1).frames ∧ 8 + (ep_nls P mj + 11) + (ea_rm P mj dk dw).locals ≤ (ea_rm P mi k1 w1).locals := by
  have hn : ep_nls P mj ≤ 80 := (hpr.1 mj hk).2.2.2.2.2.2.2.2.2
  refine ⟨hd, ?_⟩
  show 8 + (ep_nls P mj + 11) + 100 * ep_dep P mj ≤ 100 * ep_dep P mi
  omega
theorem ea_split {S : List AV} {st : List Value} (hs : ea_rl (ea_gv (sb, ws.map Prod.fst)) S st) (n : Nat) (hn : n ≤ S.length) : st = (st.take n).reverse.reverse ++ st.drop n ∧ (st.take n).reverse.length = n ∧ ea_rl (ea_gv (sb, ws.map Prod.fst)) (S.take n).reverse (st.take n).reverse ∧ ea_rl (ea_gv (sb, ws.map Prod.fst)) (S.drop n) (st.drop n) := by
  have hl := ea_rl_len hs
  obtain ⟨h1, h2⟩ := ea_rl_take n hs
  refine ⟨by rw [List.reverse_reverse, List.take_append_drop], ?_, ea_rl_rev h1, h2⟩
  rw [List.length_reverse, List.length_take]
  omega
set_option maxHeartbeats 4000000 in
/-- a call comes back, or throws -/
theorem ea_run (hpr : ea_pr P N) {mi mj x k1 w1 dk dw : Nat} (hmi : mi < en_k N) {i : Instr} {S as T : List AV} {o : Option AV ⊕ Nat} {C1 : List AC} (hcx : ea_cx P N D A sb mi p l s m args meth c) (hW : ea_W D (en_cl N) A s sb C ws H locs) {L : List (Nat × AV)} (hl : ea_L (sb, ws.map Prod.fst) (ep_nls P mi) L ls) (hs : ea_rl (ea_gv (sb, ws.map Prod.fst)) S st)
    (hi : i = .invokestatic x ∨ i = .invokespecial x ∨ i = .invokevirtual x) (hdg : decode (en_b N mi) pc = .ok (i, 3)) {b : Bool} (hc : ea_cl (ep_own P) i (ep_pl P mi x) S C = some (mj, as, T, b)) (hob : b = false → ∃ ov, o = .inl ov) (hd : ep_dep P mj < ep_dep P mi) (hw8 : ea_wt T ≤ 8) (hwa : ea_wt as ≤ ep_nls P mj) (hkk : k + dk ≤ k1 ∧ w + dw ≤ w1)
    (hg : 0 < mj → mj < en_k N → ea_good P N D A sb l mj 0 (ea_ar 0 as) [] C 0 0 o C1 dk dw) :
    ∃ (rest : List Value) (a : Array Value), ea_rl (ea_gv (sb, ws.map Prod.fst)) T rest ∧ vx_Run p l e (ea_rm P mi k1 w1) s m args below meth c H locs k w dk dw (F0 m pc ls st) rest (ea_Qc N D A sb ws o C1 a) (ea_XC N D A sb ws o C1) A := by
  obtain ⟨hexec, hb, hts, hown, hini, hlocks, hret, hml, hex, hG, hst, hX⟩ := id hcx
  have hpool := (hpr.1 mi hmi).2.2.2.2.2.2.2.2.1
  have hsz : (F0 m pc ls st).locals.size = ep_nls P mi := by obtain ⟨vl, -, h⟩ := hl; exact h.1
  have fix : CallFix p m c (en_b N mi) (ep_nls P mi) s args (en_T N) (en_y N mi).cls := ⟨hexec, hb, hml, hown, hts⟩
  unfold ea_cl at hc
  split at hc
  · -- a static method
    rename_i z mj' n hr
    obtain rfl : z = x := by rcases hi with h | h | h <;> cases h; rfl
    cases hbl : Nat.ble n S.length with
    | false => rw [hbl] at hc; cases hc
    | true =>
      rw [hbl] at hc
      cases hc
      obtain ⟨h0, hk, hlink, hstat, hpn⟩ := hpool _ _ hr
      obtain ⟨hy, hyh, hwd, hdec, hini', hrk, hinit, hhc, -, hnl⟩ := hpr.1 mj hk
      obtain ⟨e1, e2, e3, e4⟩ := ea_split hs n (Nat.le_of_ble_eq_true hbl)
      have hM := ea_met hpr hst h0 hk (hg h0 hk) hwa e3
      refine ⟨st.drop n, (st.take n).reverse.toArray, e4, ?_⟩
      have hw' := Nat.le_trans (Nat.le_of_eq (ea_wt_ok e4)) hw8
      cases hh : ep_hdl P mj with
      | nil =>
        have hwe : ea_hw P N mj = .code (en_y N mj) (en_b N mj) (ep_nls P mj) (en_r N mj) := by simp only [ea_hw, hh]
        exact vx_runS (As := (st.take n).reverse) fix hM ⟨⟨rfl, rfl, (ea_room hpr hk hd).1, (ea_room hpr hk hd).2, ea_words hpr hk hts, by rw [hwe]; exact List.mem_cons_self, by rw [← hwe]; exact hts _ hwd, hts _ hinit, hyh, ea_parm hpn, hts _ hlink⟩, hts _ hstat⟩
          ⟨ea_blind hpr, ea_pre hpr hcx hW _⟩ rfl e2 hsz e1 (lv_room hw') hdg hkk
      | cons q t =>
        have hwe : ea_hw P N mj = .codeWith (en_y N mj) (en_b N mj) (ep_nls P mj) (en_r N mj) (ea_hs P mj) := by simp only [ea_hw, hh]
        exact vx_runSX (As := (st.take n).reverse) fix hM ⟨⟨rfl, rfl, (ea_room hpr hk hd).1, (ea_room hpr hk hd).2, ea_words hpr hk hts, by rw [hwe]; exact List.mem_cons_self⟩, by rw [← hwe]; exact hts _ hwd, hts _ hinit, hyh, ea_parm hpn, hts _ hlink, hts _ hstat⟩
          ⟨ea_blind hpr, ea_pre hpr hcx hW _⟩ rfl e2 hsz e1 (lv_room hw') hdg hkk
  · -- a static method of a nest mate
    rename_i z mj' n hr
    obtain rfl : z = x := by rcases hi with h | h | h <;> cases h; rfl
    cases hbl : Nat.ble n S.length with
    | false => rw [hbl] at hc; cases hc
    | true =>
      rw [hbl] at hc
      cases hc
      obtain ⟨ov, rfl⟩ := hob rfl
      obtain ⟨h0, hk, hh, ⟨host, hnest⟩, hstat, hpn⟩ := hpool _ _ hr
      obtain ⟨hy, hyh, hwd, hdec, hini', hrk, hinit, hhc, -, hnl⟩ := hpr.1 mj hk
      obtain ⟨e1, e2, e3, e4⟩ := ea_split hs n (Nat.le_of_ble_eq_true hbl)
      have hM := ea_ret (fun _ _ _ h => h) (ea_met hpr hst h0 hk (hg h0 hk) hwa e3)
      refine ⟨st.drop n, (st.take n).reverse.toArray, e4, ?_⟩
      have hw' := Nat.le_trans (Nat.le_of_eq (ea_wt_ok e4)) hw8
      have hwe : ea_hw P N mj = .code (en_y N mj) (en_b N mj) (ep_nls P mj) (en_r N mj) := by simp only [ea_hw, hh]
      exact ea_runX (va_runSN (As := (st.take n).reverse) (host := host) fix hM ⟨⟨⟨rfl, rfl, (ea_room hpr hk hd).1, (ea_room hpr hk hd).2, ea_words hpr hk hts, by rw [hwe]; exact List.mem_cons_self⟩, by rw [← hwe]; exact hts _ hwd, hts _ hinit, hyh, ea_parm hpn, va_Nw.use rfl (hG.2.1 _ hnest)⟩, hts _ hstat, trivial⟩
        ⟨ea_blind hpr, ea_pre hpr hcx hW _⟩ rfl e2 hsz e1 (lv_room hw') hdg hkk)
  · -- a constructor
    rename_i z mj' n hr
    obtain rfl : z = x := by rcases hi with h | h | h <;> cases h; rfl
    split at hc
    · rename_i aa T' hdr
      cases hc
      obtain ⟨ov, rfl⟩ := hob rfl
      obtain ⟨h0, hk, hh, hlink, hinst, hnm, hrn, hpn⟩ := hpool _ _ hr
      obtain ⟨hy, hyh, hwd, hdec, hini', hrk, hinit, hhc, -, hnl⟩ := hpr.1 mj hk
      have hle : n ≤ S.length := by
        have := congrArg List.length hdr
        rw [List.length_drop, List.length_cons] at this
        omega
      obtain ⟨e1, e2, e3, e4⟩ := ea_split hs n hle
      rw [hdr] at e4
      obtain ⟨_, rest, hst4, ⟨bb, rfl, hbb⟩, e5⟩ := ea_pop e4
      rw [hst4] at e1
      have hM := ea_ret (fun _ _ _ h => h) (ea_met (vs := .ref bb :: (st.take n).reverse) hpr hst h0 hk (hg h0 hk) hwa ⟨⟨bb, rfl, hbb⟩, e3⟩)
      refine ⟨rest, (Value.ref bb :: (st.take n).reverse).toArray, e5, ?_⟩
      have hw' := Nat.le_trans (Nat.le_of_eq (ea_wt_ok e5)) hw8
      have hwe : ea_hw P N mj = .code (en_y N mj) (en_b N mj) (ep_nls P mj) none := by simp only [ea_hw, hh, hrn]
      exact ea_runX (va_runI (As := (st.take n).reverse) (b := bb) fix hM ⟨⟨rfl, rfl, (ea_room hpr hk hd).1, (ea_room hpr hk hd).2, ea_words hpr hk hts, by rw [hwe]; exact List.mem_cons_self, by rw [← hwe]; exact hts _ hwd, hts _ hinit, hyh, ea_parm hpn, hts _ hlink⟩, hnm, hts _ hinst⟩ ⟨ea_blind hpr, ea_pre hpr hcx hW _⟩ rfl e2 hsz e1 (lv_room hw') hdg hkk)
    · cases hc
  · -- a constructor of a nest mate
    rename_i z mj' n hr
    obtain rfl : z = x := by rcases hi with h | h | h <;> cases h; rfl
    split at hc
    · rename_i aa T' hdr
      cases hc
      obtain ⟨ov, rfl⟩ := hob rfl
      obtain ⟨h0, hk, hh, ⟨host, hnest⟩, hinst, hnm, hrn, hpn⟩ := hpool _ _ hr
      obtain ⟨hy, hyh, hwd, hdec, hini', hrk, hinit, hhc, -, hnl⟩ := hpr.1 mj hk
      have hle : n ≤ S.length := by
        have := congrArg List.length hdr
        rw [List.length_drop, List.length_cons] at this
        omega
      obtain ⟨e1, e2, e3, e4⟩ := ea_split hs n hle
      rw [hdr] at e4
      obtain ⟨_, rest, hst4, ⟨bb, rfl, hbb⟩, e5⟩ := ea_pop e4
      rw [hst4] at e1
      have hM := ea_ret (fun _ _ _ h => h) (ea_met (vs := .ref bb :: (st.take n).reverse) hpr hst h0 hk (hg h0 hk) hwa ⟨⟨bb, rfl, hbb⟩, e3⟩)
      refine ⟨rest, (Value.ref bb :: (st.take n).reverse).toArray, e5, ?_⟩
      have hw' := Nat.le_trans (Nat.le_of_eq (ea_wt_ok e5)) hw8
      have hwe : ea_hw P N mj = .code (en_y N mj) (en_b N mj) (ep_nls P mj) none := by simp only [ea_hw, hh, hrn]
      exact ea_runX (va_runIN (As := (st.take n).reverse) (b := bb) (host := host) fix hM ⟨⟨⟨rfl, rfl, (ea_room hpr hk hd).1, (ea_room hpr hk hd).2, ea_words hpr hk hts, by rw [hwe]; exact List.mem_cons_self⟩, by rw [← hwe]; exact hts _ hwd, hts _ hinit, hyh, ea_parm hpn, va_Nw.use rfl (hG.2.1 _ hnest)⟩, hnm, hts _ hinst⟩ ⟨ea_blind hpr, ea_pre hpr hcx hW _⟩ rfl e2 hsz e1 (lv_room hw') hdg hkk)
    · cases hc
  · -- a method of an object
    rename_i z mj' n hr
    obtain rfl : z = x := by rcases hi with h | h | h <;> cases h; rfl
    split at hc
    · rename_i aa T' hdr
      split at hc
      · rename_i o1 ho1
        cases hbq : Nat.beq o1.1 (ep_own P mj') with
        | false => rw [hbq] at hc; cases hc
        | true =>
          rw [hbq] at hc
          cases hc
          obtain ⟨h0, hk, hh, hlink, hinst, hsel, ⟨q, hq1, hq2⟩, hpn⟩ := hpool _ _ hr
          obtain ⟨hy, hyh, hwd, hdec, hini', hrk, hinit, hhc, -, hnl⟩ := hpr.1 mj hk
          have hle : n ≤ S.length := by
            have := congrArg List.length hdr
            rw [List.length_drop, List.length_cons] at this
            omega
          obtain ⟨e1, e2, e3, e4⟩ := ea_split hs n hle
          rw [hdr] at e4
          obtain ⟨_, rest, hst4, ⟨bb, rfl, hbb⟩, e5⟩ := ea_pop e4
          rw [hst4] at e1
          have hM := ea_met (vs := .ref bb :: (st.take n).reverse) hpr hst h0 hk (hg h0 hk) hwa ⟨⟨bb, rfl, hbb⟩, e3⟩
          refine ⟨rest, (Value.ref bb :: (st.take n).reverse).toArray, e5, ?_⟩
          have hw' := Nat.le_trans (Nat.le_of_eq (ea_wt_ok e5)) hw8
          have hwe : ea_hw P N mj = .code (en_y N mj) (en_b N mj) (ep_nls P mj) (en_r N mj) := by simp only [ea_hw, hh]
          have hrecv : ∃ cellB : Cell, H[bb]? = some cellB ∧ cellB.vm.isStatics = false ∧ s.vm.findClass (en_y N mj).cls = some cellB.cls := by
            obtain ⟨hP, hD, hS, hH⟩ := hW
            obtain ⟨a1, E, g1, g2, g3⟩ := ea_H_get hH ho1
            obtain rfl : bb = a1 := Option.some.inj (hbb.symm.trans g3)
            match E, g1, g2 with
            | .inr (ci', vs'), g1, ⟨e9, _⟩ =>
              obtain rfl : ci' = ep_own P mj := e9.symm.trans (Nat.eq_of_beq_eq_true hbq)
              rw [← hq2]
              exact va_recv hG.1 hP hq1 g1
          exact vx_runV (As := (st.take n).reverse) (b := bb) (C := (en_y N mj).cls) fix hM ⟨⟨rfl, rfl, (ea_room hpr hk hd).1, (ea_room hpr hk hd).2, ea_words hpr hk hts, by rw [hwe]; exact List.mem_cons_self, by rw [← hwe]; exact hts _ hwd, hts _ hinit, hyh, ea_parm hpn, hts _ hlink⟩, hts _ hinst, hts _ hsel⟩
            ⟨ea_blind hpr, hrecv, ea_pre hpr hcx hW _⟩ rfl e2 hsz e1 (lv_room hw') hdg hkk
      · cases hc
    · cases hc
  · cases hc
end EAM
end
section
/-! THE ABSTRACT MACHINE AND THE MACHINE: copies, throws, and the whole -/
section EAS
variable {P : EP} {N : EN} {D : va_G} {A : Nat → Prop} {sb : Nat} {l : Launch} {p : Program} {e : Env} {s : State} {m : MethodId} {args : Array Value} {below : List Frame} {meth : Method} {c : Code} {H : Heap} {locs : List Loc} {k w : Nat}
variable {pc : Nat} {ls : Array Slot} {st : List Value} {ws : va_W} {C : List AC}
theorem ea_K2 {cl : List vw_C} (hK : va_K D cl [] s) {t : Nat} {cA cB : ClassId} (h : ea_AT cl s t cA) (h' : ea_AT cl s t cB) : va_K D cl [(cA, ea_ty cl t), (cB, ea_ty cl t)] s := ⟨hK.1, fun k q hq => by
  have hz : k < 2 := (List.getElem?_eq_some_iff.mp hq).1
  rcases (show k = 0 ∨ k = 1 by omega) with rfl | rfl
  · cases hq; exact h
  · cases hq; exact h'⟩
set_option maxHeartbeats 4000000 in
theorem ea_cy_ok (hpr : ea_pr P N) {mi x k1 w1 : Nat} (hmi : mi < en_k N) {u : Nat × Nat} {S T : List AV} {C' : List AC} {Q : State → Prop} (hcx : ea_cx P N D A sb mi p l s m args meth c) (hW : ea_W D (en_cl N) A s sb C ws H locs) {L : List (Nat × AV)} (hl : ea_L (sb, ws.map Prod.fst) (ep_nls P mi) L ls) (hs : ea_rl (ea_gv (sb, ws.map Prod.fst)) S st)
    (hpe : ep_pl P mi x = some (9, u)) (hdg : decode (en_b N mi) pc = .ok (.invokestatic x, 3)) (hp : ea_cy S C = some (T, C')) (hd : 1 ≤ ep_dep P mi)
    (kk : ∀ (st' : List Value) (ws' : va_W) (H' : Heap) (locs' : List Loc), ea_W D (en_cl N) A s sb C' ws' H' locs' → ea_ext ws ws' → ea_L (sb, ws'.map Prod.fst) (ep_nls P mi) L ls → ea_rl (ea_gv (sb, ws'.map Prod.fst)) T st' → W p l e (ea_rm P mi k1 w1) s m args below meth c H' locs' k w Q (F0 m (pc + 3) ls st')) :
    W p l e (ea_rm P mi k1 w1) s m args below meth c H locs k w Q (F0 m pc ls st) := by
  obtain ⟨hexec, hb, hts, hown, hini, hlocks, hret, hml, hex, hG, hst, hX⟩ := id hcx
  obtain ⟨hlink, hnat, hstat, hsys⟩ := (hpr.1 mi hmi).2.2.2.2.2.2.2.2.1 _ _ hpe
  obtain ⟨hP, hD, hS, hH⟩ := hW
  have hsz : ls.size = ep_nls P mi := by obtain ⟨vl, -, h⟩ := hl; exact h.1
  have hnw : nativeFrameWords "java/lang/System" "arraycopy" 5 + 11 ≤ 90 := by decide
  have hro : ∀ z : Nat, z ≤ 8 → z + (nativeFrameWords "java/lang/System" "arraycopy" 5 + 11) ≤ 100 * ep_dep P mi := fun z hz => by omega
  unfold ea_cy at hp
  split at hp
  · rename_i n dp b sp a T0
    split at hp
    · rename_i t n0 d us t1 n1 d1 us1 ho hob
      split at hp
      · rename_i hc
        obtain ⟨rfl, ht2, rfl, hn31, rfl, rfl, rfl, hw8⟩ := hc
        cases hp
        obtain ⟨_, _, rfl, ⟨x1, rfl, h1⟩, hs1⟩ := ea_pop hs
        obtain ⟨_, _, rfl, ⟨x2, rfl, h2⟩, hs2⟩ := ea_pop hs1
        obtain ⟨_, _, rfl, ⟨bb, rfl, hbb⟩, hs3⟩ := ea_pop hs2
        obtain ⟨_, _, rfl, ⟨x4, rfl, h4⟩, hs4⟩ := ea_pop hs3
        obtain ⟨_, _, rfl, ⟨aa, rfl, haa⟩, hs5⟩ := ea_pop hs4
        obtain rfl : x1 = Int32.ofNat n0 := h1
        obtain rfl : x2 = 0 := h2
        obtain rfl : x4 = 0 := h4
        obtain ⟨a1, E, g1, g2, g3⟩ := ea_H_get hH ho
        obtain rfl : aa = a1 := Option.some.inj (haa.symm.trans g3)
        obtain ⟨b1, F, f1, f2, f3⟩ := ea_H_get hH hob
        obtain rfl : bb = b1 := Option.some.inj (hbb.symm.trans f3)
        have hcl : (Int32.ofNat n0).toNatClampNeg = n0 := nI_clamp hn31
        have hnn : ¬ Int32.ofNat n0 < 0 := nI_pos hn31
        have hwt := hro _ (Nat.le_trans (Nat.le_of_eq (ea_wt_ok hs5)) hw8)
        match E, g1, g2, F, f1, f2 with
        | .inl (cA, na, fa), g1, ⟨ea, hata, hka, hca⟩, .inl (cB, nb, fb), f1, ⟨eb, hatb, hkb, hcb⟩ =>
          dsimp only at ea eb hka hkb hca hcb hata hatb
          subst ea
          subst eb
          rcases (show t = 0 ∨ t = 1 by omega) with rfl | rfl
          · obtain ⟨f, rfl⟩ := hka
            obtain ⟨g, rfl⟩ := hkb
            refine va_copyi (ty := .int) hexec hb (hml.trans hsz.symm) hown (hts _ hlink) (hts _ hnat) (hts _ hstat) (hts _ hsys) (ea_K2 hG.1 hata hatb) hP hD hS a b 0 1 g1 f1 rfl rfl rfl (by decide) (by decide) hnn (by rw [hcl, sb_cl0, Nat.zero_add]; exact Nat.le_refl _) (by rw [hcl, sb_cl0, Nat.zero_add]; exact Nat.le_refl _) (fun _ _ => rfl) hd hwt hdg (fun H1 locs1 p1 d1 s1 => ?_)
            refine kk _ _ H1 locs1 ⟨p1, d1, s1, ea_H_set hH f1 ⟨rfl, hatb, ⟨_, rfl⟩, fun j hj => ?_⟩⟩ (fun k q h => by rw [ea_map_set f1]; exact h) (by rw [ea_map_set f1]; exact hl) (by rw [ea_map_set f1]; exact hs5)
            dsimp only
            have := hca j hj
            simp only [ea_cv] at this ⊢
            rw [hcl, sb_cl0, sb_cpy0 hj]
            exact this
          · obtain ⟨f, rfl⟩ := hka
            obtain ⟨g, rfl⟩ := hkb
            refine va_copyl (ty := .long) hexec hb (hml.trans hsz.symm) hown (hts _ hlink) (hts _ hnat) (hts _ hstat) (hts _ hsys) (ea_K2 hG.1 hata hatb) hP hD hS a b 0 1 g1 f1 rfl rfl rfl (by decide) (by decide) hnn (by rw [hcl, sb_cl0, Nat.zero_add]; exact Nat.le_refl _) (by rw [hcl, sb_cl0, Nat.zero_add]; exact Nat.le_refl _) (fun _ _ => rfl) hd hwt hdg (fun H1 locs1 p1 d1 s1 => ?_)
            refine kk _ _ H1 locs1 ⟨p1, d1, s1, ea_H_set hH f1 ⟨rfl, hatb, ⟨_, rfl⟩, fun j hj => ?_⟩⟩ (fun k q h => by rw [ea_map_set f1]; exact h) (by rw [ea_map_set f1]; exact hl) (by rw [ea_map_set f1]; exact hs5)
            dsimp only
            have := hca j hj
            simp only [ea_cv] at this ⊢
            rw [hcl, sb_cl0, pk_cpy_in (Nat.zero_le _) (by rw [Nat.zero_add]; exact hj), Nat.sub_zero, Nat.zero_add]
            exact this
      · cases hp
    · cases hp
  · cases hp
theorem ea_t2_ok (hpr : ea_pr P N) {mi ce y a b : Nat} (hmi : mi < en_k N) (hcx : ea_cx P N D A sb mi p l s m args meth c) (hp : ea_t2 P mi pc y a b = some ce) :
    ∃ x z tx sa, decode (en_b N mi) pc = .ok (.new x, 3) ∧ decode (en_b N mi) (pc + 3) = .ok (.dup, 1) ∧ decode (en_b N mi) (pc + a) = .ok (.invokespecial z, 3) ∧ decode (en_b N mi) (pc + b) = .ok (.athrow, 1) ∧ 9 ≤ ep_dep P mi ∧ (∀ q, ∀ x ∈ c.exceptionTable.toList, covers x q = false) ∧
      (Jvm.Cond.classLink (en_y N mi).cls x (en_x N ce)).before args s = true ∧ (Jvm.Cond.initialized (en_x N ce)).before args s = true ∧ vk_R (en_y N mi).cls y tx sa s ∧ Bundle.fit (en_x N ce) = true ∧ (∀ w ∈ vx_atS (en_y N mi).cls z (en_x N ce) (en_up N), w.before args s = true) ∧
      ∀ w ∈ Jvm.Cond.classLink (en_y N mi).cls x (en_x N ce) :: Jvm.Cond.initialized (en_x N ce) :: vx_atS (en_y N mi).cls z (en_x N ce) (en_up N), vx_ot w = true := by
  obtain ⟨hexec, hb, hts, hown, hini, hlocks, hret, hml, hex, hG, hst, hX⟩ := id hcx
  obtain ⟨hy, hyh, hwd, hdec, hini', hrk, hinit, hhc, hpool, hnl⟩ := hpr.1 mi hmi
  unfold ea_t2 at hp
  split at hp
  · rename_i x z h0 h3 h6 h9
    split at hp
    · rename_i ce1 u0 u1 u2 ce2 u3 q1 q2 q3
      cases hbq : (Nat.beq ce1 ce2 && Nat.ble 9 (ep_dep P mi)) with
      | false => rw [hbq] at hp; cases hp
      | true =>
        rw [hbq] at hp
        simp only [cond_true] at hp
        simp only [Bool.and_eq_true] at hbq
        obtain rfl : ce1 = ce2 := Nat.eq_of_beq_eq_true hbq.1
        have hd9 : 9 ≤ ep_dep P mi := Nat.le_of_ble_eq_true hbq.2
        split at hp
        · rename_i hnil
          cases hp
          obtain ⟨hcl, hci, go1, go2⟩ := hpool _ _ q1
          obtain ⟨tx, htx⟩ := hpool _ _ q2
          obtain ⟨hfit, hat⟩ := hpool _ _ q3
          obtain ⟨sa, hsa⟩ := hG.2.2.1 _ htx
          have hempty : ∀ q, ∀ x ∈ c.exceptionTable.toList, covers x q = false := by
            rw [hex]
            unfold ea_hs
            rw [hnil]
            intro q x hx
            cases hx
          refine ⟨x, z, tx, sa, hdec _ _ h0, hdec _ _ h3, hdec _ _ h6, hdec _ _ h9, hd9, hempty, hts _ hcl, hts _ hci, hsa, hfit, fun w hw => ?_, fun w hw => ?_⟩
          · rcases (hat w hw).1 with h | h
            · exact hts _ h
            · rcases hpr.2.2.2.1 w h with ⟨a, b, rfl⟩ | ⟨a, i, x, hh, rfl⟩
              · exact va_Nw.use rfl (hG.2.1 _ h)
              · exact va_Nw.use rfl (hG.2.1 _ h)
          · rcases List.mem_cons.mp hw with rfl | hw
            · exact go1
            · rcases List.mem_cons.mp hw with rfl | hw
              · exact go2
              · exact (hat w hw).2
        · cases hp
    · cases hp
  · cases hp
theorem ea_tw_ok (hpr : ea_pr P N) {mi ce : Nat} (hmi : mi < en_k N) {S : List AV} {ws0 : va_W} (hcx : ea_cx P N D A sb mi p l s m args meth c) (hW : ea_W D (en_cl N) A s sb C ws H locs) (hext : ea_ext ws0 ws) {L : List (Nat × AV)} (hl : ea_L (sb, ws.map Prod.fst) (ep_nls P mi) L ls) (hs : ea_rl (ea_gv (sb, ws.map Prod.fst)) S st)
    (hwt : ea_wt S ≤ 100) (hp : ea_tw P mi pc = some ce) :
    W p l e (ea_rm P mi (k + 1) (w + 6)) s m args below meth c H locs k w (vx_MQ below (ea_Qc N D A sb ws0 (.inr ce) C) (ea_XC N D A sb ws0 (.inr ce) C) args s (k + 1) (w + 6) A) (F0 m pc ls st) := by
  obtain ⟨hexec, hb, hts, hown, hini, hlocks, hret, hml, hex, hG, hst, hX⟩ := id hcx
  obtain ⟨hy, hyh, hwd, hdec, hini', hrk, hinit, hhc, hpool, hnl⟩ := hpr.1 mi hmi
  obtain ⟨hP, hD, hS, hH⟩ := hW
  have hsz : ls.size = ep_nls P mi := by obtain ⟨vl, -, h⟩ := hl; exact h.1
  have hup := hpr.2.2.2.2.2.1
  have hxx : ∀ t : State, s.vm.Alike t.vm → H.size ≤ t.heap.size → (∀ q : Nat, q < H.size → t.heap[q]? = H[q]?) → ea_XC N D A sb ws0 (.inr ce) C (en_x N ce) s t := fun t hal hz hk => by
    refine ⟨ws, rfl, hext, ⟨hP.kept (fun k x hx => hk x.1 (hP k x hx).lt), hD, ea_H_moved hal hH⟩, Nat.le_trans hS.1 hz, fun q h1 h2 => ?_⟩
    rw [hk q (Nat.lt_of_lt_of_le h1 hS.1)]
    exact hS.2.1 q h1 h2
  unfold ea_tw at hp
  split at hp
  · rename_i y h4
    obtain ⟨x, z, tx, sa, d0, d3, d6, d9, hd9, hempty, hcl, hci, hsa, hfit, hat, hgo⟩ := ea_t2_ok hpr hmi hcx hp
    refine vx_throwS (own := (en_y N mi).cls) (cls := en_x N ce) (names := en_up N) (A := A) (sa := sa) hexec hb hst hown hfit hpr.2.2.2.2.1 hcl hci hsa hat hgo hG.2.2.2.2.2.1 hG.2.2.2.2.2.2.1 hS (hsz.trans hml.symm) d0 d3 (hdec _ _ h4) d6 d9 (hempty _) ?_ ?_ (Nat.le_refl _) (Nat.le_refl _) hlocks hxx hS.2.2 (Nat.le_refl _) (Nat.le_refl _)
    · show (en_up N).length + 3 < ep_dep P mi
      omega
    · show _ ≤ 100 * ep_dep P mi
      rw [ea_wt_ok hs]
      omega
  · rename_i y h4
    obtain ⟨x, z, tx, sa, d0, d3, d6, d9, hd9, hempty, hcl, hci, hsa, hfit, hat, hgo⟩ := ea_t2_ok hpr hmi hcx hp
    refine vx_throwSW (own := (en_y N mi).cls) (cls := en_x N ce) (names := en_up N) (A := A) (sa := sa) hexec hb hst hown hfit hpr.2.2.2.2.1 hcl hci hsa hat hgo hG.2.2.2.2.2.1 hG.2.2.2.2.2.2.1 hS (hsz.trans hml.symm) d0 d3 (hdec _ _ h4) d6 d9 (hempty _) ?_ ?_ (Nat.le_refl _) (Nat.le_refl _) hlocks hxx hS.2.2 (Nat.le_refl _) (Nat.le_refl _)
    · show (en_up N).length + 3 < ep_dep P mi
      omega
    · show _ ≤ 100 * ep_dep P mi
      rw [ea_wt_ok hs]
      omega
  · cases hp
end EAS
end
section
/-! THE ABSTRACT MACHINE AND THE MACHINE: whatever it runs to its end, the machine runs so -/
/-- one instruction goes on: the machine does so -/
def ea_goes (P : EP) (N : EN) (D : va_G) (A : Nat → Prop) (sb : Nat) (l : Launch) (mi pc : Nat) (L : List (Nat × AV)) (S : List AV) (C : List AC) (k w : Nat) (f : AF) : Prop :=
  k ≤ f.2.2.2.2.1 ∧ w ≤ f.2.2.2.2.2 ∧ ∀ (k1 w1 : Nat) (p : Program) (e : Env) (s : State) (m : MethodId) (args : Array Value) (below : List Frame) (meth : Method) (c : Code) (H : Heap) (locs : List Loc) (ls : Array Slot) (st : List Value) (ws : va_W) (Q : State → Prop), f.2.2.2.2.1 ≤ k1 → f.2.2.2.2.2 ≤ w1 →
    ea_cx P N D A sb mi p l s m args meth c → ea_W D (en_cl N) A s sb C ws H locs → ea_L (sb, ws.map Prod.fst) (ep_nls P mi) L ls → ea_rl (ea_gv (sb, ws.map Prod.fst)) S st →
    (∀ (H' : Heap) (locs' : List Loc) (ls' : Array Slot) (st' : List Value) (ws' : va_W), ea_ext ws ws' → ea_W D (en_cl N) A s sb f.2.2.2.1 ws' H' locs' → ea_L (sb, ws'.map Prod.fst) (ep_nls P mi) f.2.1 ls' → ea_rl (ea_gv (sb, ws'.map Prod.fst)) f.2.2.1 st' → W p l e (ea_rm P mi k1 w1) s m args below meth c H' locs' f.2.2.2.2.1 f.2.2.2.2.2 Q (F0 m f.1 ls' st')) →
    W p l e (ea_rm P mi k1 w1) s m args below meth c H locs k w Q (F0 m pc ls st)
def ea_one (P : EP) (N : EN) (D : va_G) (A : Nat → Prop) (sb : Nat) (l : Launch) (mi pc : Nat) (L : List (Nat × AV)) (S : List AV) (C : List AC) (k w : Nat) (x : AF ⊕ AR) : Prop := match x with
  | .inl f => ea_goes P N D A sb l mi pc L S C k w f
  | .inr r => ea_good P N D A sb l mi pc L S C k w r.1 r.2.1 r.2.2.1 r.2.2.2
section EAW
variable {P : EP} {N : EN} {D : va_G} {A : Nat → Prop} {sb : Nat} {l : Launch}
theorem ea_good_call (hpr : ea_pr P N) (hst : l.stackTraces = false) {ih : Nat → Nat → List (Nat × AV) → List AV → List AC → Nat → Nat → Option AR}
    (IH : ∀ (mi pc : Nat) (L : List (Nat × AV)) (S : List AV) (C : List AC) (k w : Nat) (o : Option AV ⊕ Nat) (C' : List AC) (k1 w1 : Nat), mi < en_k N → ih mi pc L S C k w = some (o, C', k1, w1) → ea_good P N D A sb l mi pc L S C k w o C' k1 w1)
    {mi pc x k w : Nat} (hmi : mi < en_k N) {i : Instr} (hi : i = .invokestatic x ∨ i = .invokespecial x ∨ i = .invokevirtual x) (hdg : decode (en_b N mi) pc = .ok (i, 3)) {L : List (Nat × AV)} {S : List AV} {C : List AC} {z : AF ⊕ AR}
    (h : ea_q P ih mi pc L S C k w i (ep_pl P mi x) = some z) : ea_one P N D A sb l mi pc L S C k w z := by
  unfold ea_q at h
  split at h
  · rename_i mj as T b hc
    cases hb : (Nat.blt (ep_dep P mj) (ep_dep P mi) && (Nat.ble (ea_wt T) 8 && Nat.ble (ea_wt as) (ep_nls P mj))) with
    | false => rw [hb] at h; cases h
    | true =>
      rw [hb] at h
      simp only [cond_true] at h
      simp only [Bool.and_eq_true] at hb
      obtain ⟨hd0, hw8, hwa⟩ := hb
      have hd : ep_dep P mj < ep_dep P mi := Nat.le_of_ble_eq_true hd0
      have hw8 := Nat.le_of_ble_eq_true hw8
      have hwa := Nat.le_of_ble_eq_true hwa
      split at h
      · -- it comes back
        rename_i v C1 dk dw hcal
        rw [ea_fn_eq, ea_fn_eq, ea_fn_eq] at h
        cases h
        refine ⟨Nat.le_add_right _ _, Nat.le_add_right _ _, fun k1 w1 p e s m args below meth c H locs ls st ws Q hk1 hw1 hcx hW hl hs kk => ?_⟩
        obtain ⟨rest, a, hrest, hrun⟩ := ea_run (e := e) (below := below) (k := k) (w := w) (k1 := k1) (w1 := w1) hpr hmi hcx hW hl hs hi hdg hc (fun _ => ⟨v, rfl⟩) hd hw8 hwa ⟨hk1, hw1⟩ (fun h0 hk => IH _ _ _ _ _ _ _ _ _ _ _ hk hcal)
        refine ea_after hrun hW.2.2.1 (fun ov ho ws' v' H1 locs1 hW1 hext1 hrv => ?_) (fun ce ho => by cases ho)
        cases ho
        refine kk H1 locs1 ls _ ws' hext1 hW1 (ea_L_mono (ea_ext_p hext1 sb) hl) ?_
        have hrest' := ea_rl_mono (fun _ _ h => ea_gv_mono (ea_ext_p hext1 sb) h) hrest
        cases v with
        | none =>
          obtain rfl : v' = none := hrv
          exact hrest'
        | some a =>
          obtain ⟨x, rfl, hx⟩ := hrv
          exact ⟨hx, hrest'⟩
      · -- it throws
        rename_i ce C1 dk dw hcal
        cases b with
        | false => cases h
        | true =>
          simp only [cond_true] at h
          rw [ea_fn_eq, ea_fn_eq] at h
          obtain ⟨hy, hyh, hwd, hdec, hini', hrk, hinit, hhc, hpool, hnl⟩ := hpr.1 mi hmi
          split at h
          · -- caught here
            rename_i hpc hhd
            cases h
            refine ⟨Nat.le_add_right _ _, Nat.le_add_right _ _, fun k1 w1 p e s m args below meth c H locs ls st ws Q hk1 hw1 hcx hW hl hs kk => ?_⟩
            obtain ⟨rest, a, hrest, hrun⟩ := ea_run (e := e) (below := below) (k := k) (w := w) (k1 := k1) (w1 := w1) hpr hmi hcx hW hl hs hi hdg hc (fun q => by cases q) hd hw8 hwa ⟨hk1, hw1⟩ (fun h0 hk => IH _ _ _ _ _ _ _ _ _ _ _ hk hcal)
            refine ea_after hrun hW.2.2.1 (fun ov ho => by cases ho) (fun ce' ho ws' q cell H1 locs1 hW1 hext1 hq hv hcl => ?_)
            cases ho
            obtain ⟨hexec, hb, hts, hown, hini, hlocks, hret, hml, hex, hG, hst', hX⟩ := id hcx
            obtain ⟨pre, r, suf, e1, e2, e3, e4, e5, e6⟩ := ea_hd_some hhd
            have hr : r ∈ ep_hdl P mi := by rw [e1]; simp
            refine ec_catch (own := (en_y N mi).cls) (name := en_x N r.2.2.2.1) hown (tableOf (pre.map (fun q => (q.1, q.2.1, q.2.2.1, q.2.2.2.2)))) ⟨r.1, r.2.1, r.2.2.1, r.2.2.2.2⟩ (tableOf (suf.map (fun q => (q.1, q.2.1, q.2.2.1, q.2.2.2.2)))) ?_ ?_ ?_ (hhc r hr).1 (hts _ (hhc r hr).2) (va_Nw.use rfl (hG.2.1 _ (hpr.2.2.2.2.2.2.2.1 _ _ e5))) hq hv hcl ?_
            · rw [hex]
              unfold ea_hs
              rw [e1]
              simp [tableOf]
            · intro z hz
              simp only [tableOf, List.map_map, List.mem_map, Function.comp] at hz
              obtain ⟨y, hy1, rfl⟩ := hz
              by_cases hcov : y.1 ≤ pc ∧ pc < y.2.1
              · have hno : ep_sub P ce y.2.2.2.1 = false := by
                  cases hsb : ep_sub P ce y.2.2.2.1 with
                  | false => rfl
                  | true => exact absurd ⟨hcov.1, hcov.2, hsb⟩ (e2 y hy1)
                have hy2 : y ∈ ep_hdl P mi := by rw [e1]; exact List.mem_append_left _ hy1
                exact Or.inr ⟨(hhc y hy2).1, en_x N y.2.2.2.1, hts _ (hhc y hy2).2, hG.2.2.2.2.1 _ _ hno⟩
              · refine Or.inl ?_
                simp only [covers, Bool.and_eq_false_iff, decide_eq_false_iff_not]
                by_cases h1 : y.1 ≤ pc
                · exact Or.inr (fun h2 => hcov ⟨h1, h2⟩)
                · exact Or.inl h1
            · simp [covers, e3, e4]
            · dsimp only
              rw [e6]
              exact kk H1 locs1 ls _ ws' hext1 hW1 (ea_L_mono (ea_ext_p hext1 sb) hl) ⟨⟨q, rfl⟩, trivial⟩
          · -- not caught here
            rename_i hhd
            cases h
            refine ⟨Nat.le_add_right _ _, Nat.le_add_right _ _, fun p e s m args below meth c H locs ls st ws ws0 hcx hW hext hl hs => ?_⟩
            obtain ⟨rest, a, hrest, hrun⟩ := ea_run (e := e) (below := below) (k := k) (w := w) (k1 := k + dk) (w1 := w + dw) hpr hmi hcx hW hl hs hi hdg hc (fun q => by cases q) hd hw8 hwa ⟨by omega, by omega⟩ (fun h0 hk => IH _ _ _ _ _ _ _ _ _ _ _ hk hcal)
            refine ea_after hrun hW.2.2.1 (fun ov ho => by cases ho) (fun ce' ho ws' q cell H1 locs1 hW1 hext1 hq hv hcl => ?_)
            cases ho
            obtain ⟨hexec, hb, hts, hown, hini, hlocks, hret, hml, hex, hG, hst', hX⟩ := id hcx
            obtain ⟨hP1, hD1, hS1, hH1⟩ := hW1
            refine ec_out (own := (en_y N mi).cls) hown hlocks ?_ hq hv hcl (fun t ht hal => ⟨ws', rfl, ea_ext_t hext hext1, ⟨by rw [ht]; exact hP1, hD1, ea_H_moved hal hH1⟩, hS1.F ht⟩) hS1.2.2 (Nat.le_refl _) (Nat.le_refl _)
            intro z hz
            rw [hex] at hz
            simp only [ea_hs, tableOf, List.map_map, List.mem_map, Function.comp] at hz
            obtain ⟨y, hy1, rfl⟩ := hz
            by_cases hcov : y.1 ≤ pc ∧ pc < y.2.1
            · have hno : ep_sub P ce y.2.2.2.1 = false := by
                cases hsb : ep_sub P ce y.2.2.2.1 with
                | false => rfl
                | true => exact absurd ⟨hcov.1, hcov.2, hsb⟩ (ea_hd_none hhd y hy1)
              exact Or.inr ⟨(hhc y hy1).1, en_x N y.2.2.2.1, hts _ (hhc y hy1).2, hG.2.2.2.2.1 _ _ hno⟩
            · refine Or.inl ?_
              simp only [covers, Bool.and_eq_false_iff, decide_eq_false_iff_not]
              by_cases h1 : y.1 ≤ pc
              · exact Or.inr (fun h2 => hcov ⟨h1, h2⟩)
              · exact Or.inl h1
      · cases h
  · cases h
set_option maxHeartbeats 4000000 in
theorem ea_1_ok (hpr : ea_pr P N) (hst : l.stackTraces = false) {ih : Nat → Nat → List (Nat × AV) → List AV → List AC → Nat → Nat → Option AR}
    (IH : ∀ (mi pc : Nat) (L : List (Nat × AV)) (S : List AV) (C : List AC) (k w : Nat) (o : Option AV ⊕ Nat) (C' : List AC) (k1 w1 : Nat), mi < en_k N → ih mi pc L S C k w = some (o, C', k1, w1) → ea_good P N D A sb l mi pc L S C k w o C' k1 w1)
    {mi pc : Nat} {L : List (Nat × AV)} {S : List AV} {C : List AC} {k w : Nat} {z : AF ⊕ AR} (hmi : mi < en_k N) (h : ea_1 P ih mi pc L S C k w = some z) : ea_one P N D A sb l mi pc L S C k w z := by
  obtain ⟨hy, hyh, hwd, hdec, hini', hrk, hinit, hhc, hpool, hnl⟩ := hpr.1 mi hmi
  unfold ea_1 at h
  split at h
  · cases h
  · rename_i i len hcod
    have hdg := hdec _ _ hcod
    cases hle : (Nat.beq (ea_len i) 0 || Nat.beq (ea_len i) len) with
    | false => rw [hle] at h; cases h
    | true =>
      rw [hle] at h
      simp only [cond_true] at h
      have hlen : ea_len i = 0 ∨ ea_len i = len := by
        rcases Bool.or_eq_true _ _ ▸ hle with q | q
        · exact Or.inl (Nat.eq_of_beq_eq_true q)
        · exact Or.inr (Nat.eq_of_beq_eq_true q)
      split at h
      · -- no cell is touched
        rename_i pc' L' S' hp
        rw [ea_fn_eq, ea_fL_eq, ea_fS_eq] at h
        cases h
        refine ⟨Nat.le_refl _, Nat.le_refl _, fun k1 w1 p e s m args below meth c H locs ls st ws Q hk1 hw1 hcx hW hl hs kk => ?_⟩
        exact ea_p_ok hcx.1 hcx.2.1 hdg hlen hp hl hs (fun ls' st' hl' hs' => kk H locs ls' st' ws (ea_ext_r ws) hW hl' hs')
      · split at h
        · -- cells
          rename_i pc' S' C1 dk dw hp
          rw [ea_fn_eq, ea_fS_eq, ea_fn_eq, ea_fn_eq] at h
          obtain rfl : Sum.inl (pc', L, S', C1.getD C, k + dk, w + dw) = z := by
            cases C1 with
            | none => exact Option.some.inj h
            | some C1 => dsimp only at h; rw [ea_fL_eq] at h; exact Option.some.inj h
          refine ⟨Nat.le_add_right _ _, Nat.le_add_right _ _, fun k1 w1 p e s m args below meth c H locs ls st ws Q hk1 hw1 hcx hW hl hs kk => ?_⟩
          obtain ⟨hexec, hb, hts, hown, hini, hlocks, hret, hml, hex, hG, hst', hX⟩ := id hcx
          exact ea_h_ok hexec hb hts hown hini hG.1 hG.2.2.2.2.2.2.2 hpr.2.1 (fun x r hr => ea_po_of hG (hpool x r hr)) hpr.2.2.2.2.2.2.1 hX hdg hlen hp hW hl hs hk1 hw1 (fun st' ws' H' locs' hext' hW' hl' hs' => kk H' locs' ls st' ws' hext' hW' hl' hs')
        · split at h
          · -- the end
            rename_i v hv
            cases h
            exact ⟨Nat.le_refl _, Nat.le_refl _, fun p e s m args below meth c H locs ls st ws ws0 hcx hW hext hl hs => ea_rt_ok hcx hrk hdg hlen hv hW hext hs⟩
          · cases i with
            | invokespecial x =>
              dsimp only at h
              obtain rfl : 3 = len := by simpa [ea_len] using hlen
              split at h
              · rename_i T hoi
                obtain ⟨u, a, hpe, rfl⟩ := ea_oi_ok hoi
                cases hbb : (Nat.ble (ea_wt T) 8 && Nat.ble 1 (ep_dep P mi)) with
                | false => rw [hbb] at h; cases h
                | true =>
                  rw [hbb] at h
                  simp only [cond_true] at h
                  simp only [Bool.and_eq_true] at hbb
                  rw [ea_fn_eq] at h
                  cases h
                  refine ⟨Nat.le_refl _, Nat.le_refl _, fun k1 w1 p e s m args below meth c H locs ls st ws Q hk1 hw1 hcx hW hl hs kk => ?_⟩
                  obtain ⟨hexec, hb, hts, hown, hini, hlocks, hret, hml, hex, hG, hst', hX⟩ := id hcx
                  obtain ⟨q1, q2, q3⟩ := hpool _ _ hpe
                  obtain ⟨_, _, rfl, ⟨aa, rfl, haa⟩, hs1⟩ := ea_pop hs
                  have hsz : ls.size = ep_nls P mi := by obtain ⟨vl, -, h⟩ := hl; exact h.1
                  have hd1 : 1 ≤ ep_dep P mi := Nat.le_of_ble_eq_true hbb.2
                  refine W.objInit hexec hb hown (hts _ q1) (hts _ q2) (hts _ q3) rfl (hsz.trans hml.symm) rfl hdg hd1 ?_ (kk H locs ls _ ws (ea_ext_r ws) hW hl hs1)
                  show 2 * 0 + _ + 12 ≤ 100 * ep_dep P mi
                  rw [ea_wt_ok hs1]
                  have := Nat.le_of_ble_eq_true hbb.1
                  omega
              · exact ea_good_call hpr hst IH hmi (Or.inr (Or.inl rfl)) hdg h
            | invokestatic x =>
              dsimp only at h
              obtain rfl : 3 = len := by simpa [ea_len] using hlen
              cases h9 : ea_is9 (ep_pl P mi x) with
              | true =>
                obtain ⟨u, hpe⟩ := ea_is9_ok h9
                rw [h9] at h
                simp only [cond_true] at h
                split at h
                · rename_i T C1 hcy
                  cases hbb : Nat.ble 1 (ep_dep P mi) with
                  | false => rw [hbb] at h; cases h
                  | true =>
                    rw [hbb] at h
                    simp only [cond_true] at h
                    rw [ea_fn_eq, ea_fL_eq] at h
                    cases h
                    refine ⟨Nat.le_refl _, Nat.le_refl _, fun k1 w1 p e s m args below meth c H locs ls st ws Q hk1 hw1 hcx hW hl hs kk => ?_⟩
                    exact ea_cy_ok hpr hmi hcx hW hl hs hpe hdg hcy (Nat.le_of_ble_eq_true hbb) (fun st' ws' H' locs' hW' hext' hl' hs' => kk H' locs' ls st' ws' hext' hW' hl' hs')
                · cases h
              | false =>
                rw [h9] at h
                simp only [cond_false] at h
                exact ea_good_call hpr hst IH hmi (Or.inl rfl) hdg h
            | invokevirtual x =>
              dsimp only at h
              obtain rfl : 3 = len := by simpa [ea_len] using hlen
              exact ea_good_call hpr hst IH hmi (Or.inr (Or.inr rfl)) hdg h
            | new x =>
              dsimp only at h
              cases hbb : Nat.ble (ea_wt S) 100 with
              | false => rw [hbb] at h; cases h
              | true =>
                rw [hbb] at h
                simp only [cond_true] at h
                split at h
                · rename_i ce htw
                  cases h
                  exact ⟨Nat.le_add_right _ _, Nat.le_add_right _ _, fun p e s m args below meth c H locs ls st ws ws0 hcx hW hext hl hs => ea_tw_ok hpr hmi hcx hW hext hl hs (Nat.le_of_ble_eq_true hbb) htw⟩
                · cases h
            | _ => cases h
theorem ea_main (hpr : ea_pr P N) (hst : l.stackTraces = false) (n : Nat) : ∀ (mi pc : Nat) (L : List (Nat × AV)) (S : List AV) (C : List AC) (k w : Nat) (o : Option AV ⊕ Nat) (C' : List AC) (k1 w1 : Nat), mi < en_k N → ea_x P n mi pc L S C k w = some (o, C', k1, w1) → ea_good P N D A sb l mi pc L S C k w o C' k1 w1 := by
  induction n with
  | zero => intro mi pc L S C k w o C' k1 w1 _ h; cases h
  | succ n IH =>
    intro mi pc L S C k w o C' k1 w1 hmi hx
    have h : ea_b P (ea_x P n) mi pc L S C k w = some (o, C', k1, w1) := hx
    clear hx
    unfold ea_b at h
    split at h
    · rename_i pc' L' S' C2 k' w' h1
      obtain ⟨j1, j2, j3⟩ : ea_goes P N D A sb l mi pc L S C k w (pc', L', S', C2, k', w') := ea_1_ok hpr hst IH hmi h1
      obtain ⟨i1, i2, i3⟩ := IH _ _ _ _ _ _ _ _ _ _ _ hmi h
      dsimp only at j1 j2 j3
      refine ⟨Nat.le_trans j1 i1, Nat.le_trans j2 i2, fun p e s m args below meth c H locs ls st ws ws0 hcx hW hext hl hs => ?_⟩
      exact j3 k1 w1 p e s m args below meth c H locs ls st ws _ i1 i2 hcx hW hl hs (fun H' locs' ls' st' ws' hext' hW' hl' hs' => i3 p e s m args below meth c H' locs' ls' st' ws' ws0 hcx hW' (ea_ext_t hext hext') hl' hs')
    · rename_i r h1
      cases h
      exact ea_1_ok hpr hst IH hmi h1
    · cases h
/-- up to a place -/
theorem ea_upto (hpr : ea_pr P N) (hst : l.stackTraces = false) {cc mi stop : Nat} (hmi : mi < en_k N) (n : Nat) : ∀ (pc : Nat) (L : List (Nat × AV)) (S : List AV) (C : List AC) (k w : Nat) (f : AF), ea_y P cc mi stop n pc L S C k w = some f → f.1 = stop ∧ ea_goes P N D A sb l mi pc L S C k w f := by
  induction n with
  | zero => intro pc L S C k w f h; cases h
  | succ n IH =>
    intro pc L S C k w f hx
    have h : (bif Nat.beq pc stop then some (pc, L, S, C, k, w) else match ea_1 P (ea_x P cc) mi pc L S C k w with
      | some (.inl (pc, L, S, C, k, w)) => ea_y P cc mi stop n pc L S C k w
      | _ => none) = some f := hx
    clear hx
    cases hb : Nat.beq pc stop with
    | true =>
      rw [hb] at h
      cases h
      exact ⟨Nat.eq_of_beq_eq_true hb, Nat.le_refl _, Nat.le_refl _, fun k1 w1 p e s m args below meth c H locs ls st ws Q _ _ hcx hW hl hs kk => kk H locs ls st ws (ea_ext_r ws) hW hl hs⟩
    | false =>
      rw [hb] at h
      simp only [cond_false] at h
      split at h
      · rename_i pc' L' S' C2 k' w' h1
        obtain ⟨j1, j2, j3⟩ : ea_goes P N D A sb l mi pc L S C k w (pc', L', S', C2, k', w') := ea_1_ok hpr hst (ea_main hpr hst cc) hmi h1
        obtain ⟨i0, i1, i2, i3⟩ := IH _ _ _ _ _ _ _ h
        dsimp only at j1 j2 j3
        refine ⟨i0, Nat.le_trans j1 i1, Nat.le_trans j2 i2, fun k1 w1 p e s m args below meth c H locs ls st ws Q hk1 hw1 hcx hW hl hs kk => ?_⟩
        exact j3 k1 w1 p e s m args below meth c H locs ls st ws _ (Nat.le_trans i1 hk1) (Nat.le_trans i2 hw1) hcx hW hl hs (fun H' locs' ls' st' ws' hext' hW' hl' hs' => i3 k1 w1 p e s m args below meth c H' locs' ls' st' ws' Q hk1 hw1 hcx hW' hl' hs' (fun H2 locs2 ls2 st2 ws2 hext2 hW2 hl2 hs2 => kk H2 locs2 ls2 st2 ws2 (ea_ext_t hext' hext2) hW2 hl2 hs2))
      · cases h
end EAW
end
section
/-! THE LAW: a walk of its own method, where a branch on what is not known goes both ways -/
def ea_ir (q : Option (Instr × Nat)) : Bool := match q with
  | some (.ireturn, 1) => true
  | _ => false
theorem ea_ir_ok {q : Option (Instr × Nat)} (h : ea_ir q = true) : q = some (.ireturn, 1) := by
  unfold ea_ir at h
  split at h
  · rfl
  · cases h
/-- the law's end: 1 on the stack, within the room -/
def ea_e1 (K V : Nat) (S : List AV) (k w : Nat) : Bool := match S with
  | [.inl (.inl x)] => Nat.beq x.toUInt32.toNat 1 && (Nat.ble k K && Nat.ble w V)
  | _ => false
/-- a branch on what is not known -/
def ea_br (q : Option (Instr × Nat)) (pc : Nat) (S : List AV) : Option (Nat × List AV) := match q, S with
  | some (.ifCond _ off, 3), .inl _ :: T => match ea_to pc off with
    | some t => some (t, T)
    | none => none
  | _, _ => none
def ea_v (P : EP) (cal : Nat → Nat → List (Nat × AV) → List AV → List AC → Nat → Nat → Option AR) (K V : Nat) (n : Nat) : Nat → List (Nat × AV) → List AV → List AC → Nat → Nat → Bool := Nat.rec (fun _ _ _ _ _ _ => false) (fun _ ih pc L S C k w =>
  bif ea_ir (ep_cod P 0 pc) then ea_e1 K V S k w else match ea_1 P cal 0 pc L S C k w with
  | some (.inl (pc, L, S, C, k, w)) => ih pc L S C k w
  | some (.inr _) => false
  | none => match ea_br (ep_cod P 0 pc) pc S with
    | some (t, T) => ih t L T C k w && ih (pc + 3) L T C k w
    | none => false) n
/-- the script cut at hints, where the walk asks it -/
def ea_mk (lo hi : Int) : AI := if lo = hi then .inl (Int32.ofInt lo) else .inr (lo, hi)
def ea_bx (f : List AI → Bool) (hs : List (Nat × Int)) (X : List AI) : Bool := match hs with
  | [] => f X
  | q :: t => bif f X then true else match ea_nt X q.1 with
    | some i => bif decide (ea_lo i < q.2) && decide (q.2 ≤ ea_hi i) then ea_bx f t (X.set q.1 (ea_mk (ea_lo i) (q.2 - 1))) && ea_bx f t (X.set q.1 (ea_mk q.2 (ea_hi i))) else ea_bx f t X
    | none => false
theorem ea_br_ok {q : Option (Instr × Nat)} {pc : Nat} {S : List AV} {t : Nat} {T : List AV} (h : ea_br q pc S = some (t, T)) : ∃ c off a, q = some (.ifCond c off, 3) ∧ S = .inl a :: T ∧ ea_to pc off = some t := by
  unfold ea_br at h
  split at h
  · split at h
    · rename_i ht
      cases h
      exact ⟨_, _, _, rfl, rfl, ht⟩
    · cases h
  · cases h
def ea_Z (K V : Nat) (below : List Frame) (s : State) : State → Prop := fun t => ∃ o, t.status = .running ∧ Ended t below o ∧ o = .returned (some (.int 1)) ∧ Framed s o t [] K V
theorem ea_ret1 {p : Program} {l : Launch} {e : Env} {R : Room} {s : State} {m : MethodId} {args : Array Value} {below : List Frame} {meth : Method} {c : Code} {cc : ByteArray} {K V : Nat} (hx : p.tables.exec = Jvm.exec) (hb : c.code = cc) (hr : meth.sig.returnType = some .boolean) (hlocks : meth.locks = false) {pc : Nat} {H : Heap} {ls : Array Slot} (hdg : decode cc pc = .ok (.ireturn, 1)) : W p l e R s m args below meth c H [] K V (ea_Z K V below s) (F0 m pc ls [.int 1]) := by
  intro T hT X
  obtain ⟨fs, hret, hrun, hended, hW, hframe⟩ := X.leave (v := some (.int 1)) (hlocks := hlocks) (fun h => by rw [hr] at h; cases h)
  have hmeth' : T.vm.method? m = some meth := X.method'
  refine ⟨T.setFrames fs, ?_, .returned (some (.int 1)), hrun, hended, rfl, ⟨_, rfl⟩, hW, hframe⟩
  jvm_step X.here [X.here.top, hx, hb, hdg, hmeth', hr, narrow_b1]
  (try refine ⟨rfl, ?_⟩); (try refine ⟨rfl, ?_⟩)
  first | (intro acts; rw [hret _ acts rfl rfl rfl]) | rw [hret _ _ rfl rfl rfl]
  exact Steps.refl _
theorem ea_v_ok {P : EP} {N : EN} {D : va_G} {A : Nat → Prop} {sb : Nat} {l : Launch} (hpr : ea_pr P N) (hst : l.stackTraces = false) (h0 : 0 < en_k N) (hr0 : en_r N 0 = some .boolean) {cal : Nat → Nat → List (Nat × AV) → List AV → List AC → Nat → Nat → Option AR}
    (hcal : ∀ (mi pc : Nat) (L : List (Nat × AV)) (S : List AV) (C : List AC) (k w : Nat) (o : Option AV ⊕ Nat) (C' : List AC) (k1 w1 : Nat), mi < en_k N → cal mi pc L S C k w = some (o, C', k1, w1) → ea_good P N D A sb l mi pc L S C k w o C' k1 w1) {K V : Nat} (n : Nat) : ∀ (pc : Nat) (L : List (Nat × AV)) (S : List AV) (C : List AC) (k w : Nat), ea_v P cal K V n pc L S C k w = true →
    k ≤ K ∧ w ≤ V ∧ ∀ (p : Program) (e : Env) (s : State) (m : MethodId) (args : Array Value) (below : List Frame) (meth : Method) (c : Code) (H : Heap) (locs : List Loc) (ls : Array Slot) (st : List Value) (ws : va_W), (∀ q, A q → s.heap.size ≤ q) →
      ea_cx P N D A sb 0 p l s m args meth c → ea_W D (en_cl N) A s sb C ws H locs → ea_L (sb, ws.map Prod.fst) (ep_nls P 0) L ls → ea_rl (ea_gv (sb, ws.map Prod.fst)) S st →
      W p l e (ea_rm P 0 K V) s m args below meth c H locs k w (ea_Z K V below s) (F0 m pc ls st) := by
  induction n with
  | zero => intro pc L S C k w h; cases h
  | succ n IH =>
    intro pc L S C k w hx
    have h : (bif ea_ir (ep_cod P 0 pc) then ea_e1 K V S k w else match ea_1 P cal 0 pc L S C k w with
      | some (.inl (pc, L, S, C, k, w)) => ea_v P cal K V n pc L S C k w
      | some (.inr _) => false
      | none => match ea_br (ep_cod P 0 pc) pc S with
        | some (t, T) => ea_v P cal K V n t L T C k w && ea_v P cal K V n (pc + 3) L T C k w
        | none => false) = true := hx
    clear hx
    have hdec := (hpr.1 0 h0).2.2.2.1
    cases hi : ea_ir (ep_cod P 0 pc) with
    | true =>
      rw [hi] at h
      have hd := hdec _ _ (ea_ir_ok hi)
      simp only [cond_true] at h
      unfold ea_e1 at h
      split at h
      · rename_i x
        simp only [Bool.and_eq_true] at h
        obtain ⟨g1, g2, g3⟩ := h
        have hk := Nat.le_of_ble_eq_true g2
        have hw := Nat.le_of_ble_eq_true g3
        have hx1 : x = 1 := by
          have e1 : x.toUInt32.toNat = 1 := Nat.eq_of_beq_eq_true g1
          have e2 : x.toUInt32 = 1 := UInt32.toNat_inj.mp (by rw [e1]; rfl)
          rw [← Int32.toInt32_toUInt32 x, e2]; rfl
        refine ⟨hk, hw, fun p e s m args below meth c H locs ls st ws hA hcx hW hl hs => ?_⟩
        obtain ⟨_, _, rfl, ⟨y, rfl, hy⟩, hs1⟩ := ea_pop hs
        obtain rfl := ea_rl_nil hs1
        obtain rfl : y = x := hy
        subst hx1
        refine va_forget (fun q hq => hA _ (hW.2.2.1.2.2 q hq)) (W.widen hk hw ?_)
        exact ea_ret1 hcx.1 hcx.2.1 (hcx.2.2.2.2.2.2.1.trans hr0) hcx.2.2.2.2.2.1 hd
      · cases h
    | false =>
      rw [hi] at h
      simp only [cond_false] at h
      split at h
      · rename_i pc' L' S' C2 k' w' h1
        obtain ⟨j1, j2, j3⟩ : ea_goes P N D A sb l 0 pc L S C k w (pc', L', S', C2, k', w') := ea_1_ok hpr hst hcal h0 h1
        obtain ⟨i1, i2, i3⟩ := IH _ _ _ _ _ _ h
        dsimp only at j1 j2 j3
        refine ⟨Nat.le_trans j1 i1, Nat.le_trans j2 i2, fun p e s m args below meth c H locs ls st ws hA hcx hW hl hs => ?_⟩
        exact j3 K V p e s m args below meth c H locs ls st ws _ i1 i2 hcx hW hl hs (fun H' locs' ls' st' ws' hext' hW' hl' hs' => i3 p e s m args below meth c H' locs' ls' st' ws' hA hcx hW' hl' hs')
      · cases h
      · split at h
        · rename_i t T hbr
          simp only [Bool.and_eq_true] at h
          obtain ⟨cnd, off, a, hc, rfl, ht⟩ := ea_br_ok hbr
          have hd := hdec _ _ hc
          obtain ⟨i1, i2, i3⟩ := IH _ _ _ _ _ _ h.1
          obtain ⟨_, _, j3⟩ := IH _ _ _ _ _ _ h.2
          refine ⟨i1, i2, fun p e s m args below meth c H locs ls st ws hA hcx hW hl hs => ?_⟩
          obtain ⟨_, _, rfl, ⟨y, rfl, hy⟩, hs1⟩ := ea_pop hs
          have r1 := i3 p e s m args below meth c H locs ls _ ws hA hcx hW hl hs1
          have r2 := j3 p e s m args below meth c H locs ls _ ws hA hcx hW hl hs1
          cases cnd with
          | eq => exact lv_if_eq hcx.1 hcx.2.1 hd (ea_to_ok ht) (fun _ => r1) (fun _ => r2)
          | ne => exact lv_if_ne hcx.1 hcx.2.1 hd (ea_to_ok ht) (fun _ => r1) (fun _ => r2)
          | lt => exact lv_if_lt hcx.1 hcx.2.1 hd (ea_to_ok ht) (fun _ => r1) (fun _ => r2)
          | ge => exact lv_if_ge hcx.1 hcx.2.1 hd (ea_to_ok ht) (fun _ => r1) (fun _ => r2)
          | gt => exact lv_if_gt hcx.1 hcx.2.1 hd (ea_to_ok ht) (fun _ => r1) (fun _ => r2)
          | le => exact lv_if_le hcx.1 hcx.2.1 hd (ea_to_ok ht) (fun _ => r1) (fun _ => r2)
        · cases h
/-- more room -/
theorem ea_wider {p : Program} {l : Launch} {e : Env} {R R' : Room} {s : State} {m : MethodId} {args : Array Value} {below : List Frame} {meth : Method} {c : Code} {H : Heap} {locs : List Loc} {k w : Nat} {Q : State → Prop} {g : JFrame} (hR : R.frames ≤ R'.frames ∧ R.cells ≤ R'.cells ∧ R.slots ≤ R'.slots ∧ R.locals ≤ R'.locals) (kk : W p l e R s m args below meth c H locs k w Q g) : W p l e R' s m args below meth c H locs k w Q g := by
  intro T hT X
  have hr : s.hasRoom e.platform R = true := by
    have h := X.room
    simp only [State.hasRoom, Bool.and_eq_true, decide_eq_true_eq] at h ⊢
    obtain ⟨⟨⟨⟨h1, h2⟩, h3⟩, h4⟩, h5⟩ := h
    refine ⟨⟨⟨⟨by omega, ?_⟩, by omega⟩, by omega⟩, h5⟩
    omega
  exact kk T hT ⟨X.admits, X.cas, X.clock, X.frames, hr, X.hears, X.method, X.code, X.here, X.tail, X.warmed, X.limits, X.bytes, X.same⟩
/-- cuts of the script: one of them holds -/
theorem ea_mk_ok {lo hi : Int} {x : Int32} (h1 : lo ≤ x.toInt) (h2 : x.toInt ≤ hi) : ea_gi (ea_mk lo hi) x := by
  unfold ea_mk
  split
  · rename_i e
    show x = Int32.ofInt lo
    have : lo = x.toInt := by omega
    rw [this, Int32.ofInt_toInt]
  · exact ⟨h1, h2⟩
theorem ea_bx_ok (f : List AI → Bool) (xs : Nat → Int32) : ∀ (hs : List (Nat × Int)) (X : List AI), (∀ j v, X[j]? = some v → ea_gi v (xs j)) → ea_bx f hs X = true → ∃ X', f X' = true ∧ X'.length = X.length ∧ ∀ j v, X'[j]? = some v → ea_gi v (xs j)
  | [], X, hX, h => ⟨X, h, rfl, hX⟩
  | q :: t, X, hX, h => by
    unfold ea_bx at h
    cases hf : f X with
    | true => exact ⟨X, hf, rfl, hX⟩
    | false =>
      rw [hf] at h
      simp only [cond_false] at h
      split at h
      · rename_i i hi
        rw [ea_nt_eq] at hi
        have hxi := hX _ _ hi
        have hb := ea_bd hxi
        cases hc : (decide (ea_lo i < q.2) && decide (q.2 ≤ ea_hi i)) with
        | true =>
          rw [hc] at h
          simp only [cond_true, Bool.and_eq_true] at h
          have key : ∀ u : AI, ea_gi u (xs q.1) → ∀ j v, (X.set q.1 u)[j]? = some v → ea_gi v (xs j) := by
            intro u hu j v hv
            rw [List.getElem?_set] at hv
            split at hv
            · rename_i e
              subst e
              split at hv
              · cases hv; exact hu
              · cases hv
            · exact hX j v hv
          by_cases hlt : (xs q.1).toInt < q.2
          · obtain ⟨X', g1, g2, g3⟩ := ea_bx_ok f xs t _ (key _ (ea_mk_ok hb.1 (by omega))) h.1
            exact ⟨X', g1, by rw [g2, List.length_set], g3⟩
          · obtain ⟨X', g1, g2, g3⟩ := ea_bx_ok f xs t _ (key _ (ea_mk_ok (by omega) hb.2)) h.2
            exact ⟨X', g1, by rw [g2, List.length_set], g3⟩
        | false =>
          rw [hc] at h
          simp only [cond_false] at h
          exact ea_bx_ok f xs t X hX h
      · cases h
end
section
-- ===== PART A: goes FIRST, ahead of the names: the tables' words, and 'selects' of the private methods out of them =====
/-- a private method of a class that the tables say can be made, by its rows of tables_1 -/
def lw_okq (q : MethodName × Nat) : Prop := (q.1.cls ≠ "java/lang/invoke/MethodHandle" ∧ q.1.cls ≠ "java/lang/invoke/VarHandle") ∧ Cond.instantiable q.1.cls q.2 ∈ tables_1 ∧ Cond.privateMethod q.1 ∈ tables_1 ∧ Cond.instanceMethod q.1 ∈ tables_1
theorem lw_p0 : lw_okq (⟨"EarCode$Inquiry", "isForbiddenToAll", "(II)Z"⟩, 3) := ⟨⟨by decide +kernel, by decide +kernel⟩, List.mem_of_getElem? (i := 359) (by decide +kernel), List.mem_of_getElem? (i := 459) (by decide +kernel), List.mem_of_getElem? (i := 460) (by decide +kernel)⟩
theorem lw_p1 : lw_okq (⟨"EarCode$Inquiry", "forbidding", "(II)I"⟩, 3) := ⟨⟨by decide +kernel, by decide +kernel⟩, List.mem_of_getElem? (i := 359) (by decide +kernel), List.mem_of_getElem? (i := 464) (by decide +kernel), List.mem_of_getElem? (i := 465) (by decide +kernel)⟩
theorem lw_p2 : lw_okq (⟨"EarCode$Law", "holds", "(IIIII)Z"⟩, 9) := ⟨⟨by decide +kernel, by decide +kernel⟩, List.mem_of_getElem? (i := 83) (by decide +kernel), List.mem_of_getElem? (i := 483) (by decide +kernel), List.mem_of_getElem? (i := 484) (by decide +kernel)⟩
theorem lw_p3 : lw_okq (⟨"EarCode$Inquiry", "clearOthers", "()V"⟩, 3) := ⟨⟨by decide +kernel, by decide +kernel⟩, List.mem_of_getElem? (i := 359) (by decide +kernel), List.mem_of_getElem? (i := 495) (by decide +kernel), List.mem_of_getElem? (i := 496) (by decide +kernel)⟩
theorem lw_p4 : lw_okq (⟨"EarCode$Inquiry", "findOthers", "(I)V"⟩, 3) := ⟨⟨by decide +kernel, by decide +kernel⟩, List.mem_of_getElem? (i := 359) (by decide +kernel), List.mem_of_getElem? (i := 499) (by decide +kernel), List.mem_of_getElem? (i := 500) (by decide +kernel)⟩
theorem lw_p5 : lw_okq (⟨"EarCode$Inquiry", "demanding", "(II)I"⟩, 3) := ⟨⟨by decide +kernel, by decide +kernel⟩, List.mem_of_getElem? (i := 359) (by decide +kernel), List.mem_of_getElem? (i := 503) (by decide +kernel), List.mem_of_getElem? (i := 504) (by decide +kernel)⟩
theorem lw_p6 : lw_okq (⟨"EarCode$Inquiry", "addOthers", "(II)V"⟩, 3) := ⟨⟨by decide +kernel, by decide +kernel⟩, List.mem_of_getElem? (i := 359) (by decide +kernel), List.mem_of_getElem? (i := 507) (by decide +kernel), List.mem_of_getElem? (i := 508) (by decide +kernel)⟩
theorem lw_p7 : lw_okq (⟨"EarCode$Inquiry", "isRelief", "(I)Z"⟩, 3) := ⟨⟨by decide +kernel, by decide +kernel⟩, List.mem_of_getElem? (i := 359) (by decide +kernel), List.mem_of_getElem? (i := 513) (by decide +kernel), List.mem_of_getElem? (i := 514) (by decide +kernel)⟩
theorem lw_p8 : lw_okq (⟨"EarCode$Inquiry", "knownTogether", "(I)I"⟩, 3) := ⟨⟨by decide +kernel, by decide +kernel⟩, List.mem_of_getElem? (i := 359) (by decide +kernel), List.mem_of_getElem? (i := 525) (by decide +kernel), List.mem_of_getElem? (i := 526) (by decide +kernel)⟩
theorem lw_p9 : lw_okq (⟨"EarCode$World", "seersOf", "(I)I"⟩, 20) := ⟨⟨by decide +kernel, by decide +kernel⟩, List.mem_of_getElem? (i := 128) (by decide +kernel), List.mem_of_getElem? (i := 563) (by decide +kernel), List.mem_of_getElem? (i := 564) (by decide +kernel)⟩
theorem lw_p10 : lw_okq (⟨"EarCode$World", "letAllSee", "(I)Z"⟩, 20) := ⟨⟨by decide +kernel, by decide +kernel⟩, List.mem_of_getElem? (i := 128) (by decide +kernel), List.mem_of_getElem? (i := 571) (by decide +kernel), List.mem_of_getElem? (i := 572) (by decide +kernel)⟩
theorem lw_p11 : lw_okq (⟨"EarCode$World", "pickDoers", "(LEarCode$Law;I)I"⟩, 20) := ⟨⟨by decide +kernel, by decide +kernel⟩, List.mem_of_getElem? (i := 128) (by decide +kernel), List.mem_of_getElem? (i := 587) (by decide +kernel), List.mem_of_getElem? (i := 588) (by decide +kernel)⟩
theorem lw_p12 : lw_okq (⟨"EarCode$World", "keepsFrom", "(LEarCode$Law;I)Z"⟩, 20) := ⟨⟨by decide +kernel, by decide +kernel⟩, List.mem_of_getElem? (i := 128) (by decide +kernel), List.mem_of_getElem? (i := 591) (by decide +kernel), List.mem_of_getElem? (i := 592) (by decide +kernel)⟩
theorem lw_p13 : lw_okq (⟨"EarCode$World", "draw", "()I"⟩, 20) := ⟨⟨by decide +kernel, by decide +kernel⟩, List.mem_of_getElem? (i := 128) (by decide +kernel), List.mem_of_getElem? (i := 605) (by decide +kernel), List.mem_of_getElem? (i := 606) (by decide +kernel)⟩
theorem lw_p14 : lw_okq (⟨"EarCode$World", "judge", "(LEarCode$Law;III)V"⟩, 20) := ⟨⟨by decide +kernel, by decide +kernel⟩, List.mem_of_getElem? (i := 128) (by decide +kernel), List.mem_of_getElem? (i := 611) (by decide +kernel), List.mem_of_getElem? (i := 612) (by decide +kernel)⟩
theorem lw_p15 : lw_okq (⟨"EarCode$Text", "put", "(IIII)V"⟩, 6) := ⟨⟨by decide +kernel, by decide +kernel⟩, List.mem_of_getElem? (i := 58) (by decide +kernel), List.mem_of_getElem? (i := 750) (by decide +kernel), List.mem_of_getElem? (i := 751) (by decide +kernel)⟩
def lw_privs_1 : List (MethodName × Nat) := [(⟨"EarCode$Inquiry", "isForbiddenToAll", "(II)Z"⟩, 3), (⟨"EarCode$Inquiry", "forbidding", "(II)I"⟩, 3), (⟨"EarCode$Law", "holds", "(IIIII)Z"⟩, 9), (⟨"EarCode$Inquiry", "clearOthers", "()V"⟩, 3), (⟨"EarCode$Inquiry", "findOthers", "(I)V"⟩, 3), (⟨"EarCode$Inquiry", "demanding", "(II)I"⟩, 3), (⟨"EarCode$Inquiry", "addOthers", "(II)V"⟩, 3), (⟨"EarCode$Inquiry", "isRelief", "(I)Z"⟩, 3), (⟨"EarCode$Inquiry", "knownTogether", "(I)I"⟩, 3), (⟨"EarCode$World", "seersOf", "(I)I"⟩, 20), (⟨"EarCode$World", "letAllSee", "(I)Z"⟩, 20), (⟨"EarCode$World", "pickDoers", "(LEarCode$Law;I)I"⟩, 20), (⟨"EarCode$World", "keepsFrom", "(LEarCode$Law;I)Z"⟩, 20), (⟨"EarCode$World", "draw", "()I"⟩, 20), (⟨"EarCode$World", "judge", "(LEarCode$Law;III)V"⟩, 20), (⟨"EarCode$Text", "put", "(IIII)V"⟩, 6)]
theorem lw_r1 : ∀ q ∈ lw_privs_1, lw_okq q := List.forall_mem_cons.mpr ⟨lw_p0, List.forall_mem_cons.mpr ⟨lw_p1, List.forall_mem_cons.mpr ⟨lw_p2, List.forall_mem_cons.mpr ⟨lw_p3, List.forall_mem_cons.mpr ⟨lw_p4, List.forall_mem_cons.mpr ⟨lw_p5, List.forall_mem_cons.mpr ⟨lw_p6, List.forall_mem_cons.mpr ⟨lw_p7, List.forall_mem_cons.mpr ⟨lw_p8, List.forall_mem_cons.mpr ⟨lw_p9, List.forall_mem_cons.mpr ⟨lw_p10, List.forall_mem_cons.mpr ⟨lw_p11, List.forall_mem_cons.mpr ⟨lw_p12, List.forall_mem_cons.mpr ⟨lw_p13, List.forall_mem_cons.mpr ⟨lw_p14, List.forall_mem_cons.mpr ⟨lw_p15, fun _ h => absurd h List.not_mem_nil⟩⟩⟩⟩⟩⟩⟩⟩⟩⟩⟩⟩⟩⟩⟩⟩
theorem lw_p16 : lw_okq (⟨"EarCode$LawReader", "readClause", "()Z"⟩, 2) := ⟨⟨by decide +kernel, by decide +kernel⟩, List.mem_of_getElem? (i := 249) (by decide +kernel), List.mem_of_getElem? (i := 779) (by decide +kernel), List.mem_of_getElem? (i := 780) (by decide +kernel)⟩
theorem lw_p17 : lw_okq (⟨"EarCode$LawReader", "readCondition", "(I)Z"⟩, 2) := ⟨⟨by decide +kernel, by decide +kernel⟩, List.mem_of_getElem? (i := 249) (by decide +kernel), List.mem_of_getElem? (i := 796) (by decide +kernel), List.mem_of_getElem? (i := 797) (by decide +kernel)⟩
theorem lw_p18 : lw_okq (⟨"EarCode$LawReader", "readAtom", "(I)Z"⟩, 2) := ⟨⟨by decide +kernel, by decide +kernel⟩, List.mem_of_getElem? (i := 249) (by decide +kernel), List.mem_of_getElem? (i := 800) (by decide +kernel), List.mem_of_getElem? (i := 801) (by decide +kernel)⟩
theorem lw_p19 : lw_okq (⟨"EarCode$LawReader", "readComparison", "()Z"⟩, 2) := ⟨⟨by decide +kernel, by decide +kernel⟩, List.mem_of_getElem? (i := 249) (by decide +kernel), List.mem_of_getElem? (i := 808) (by decide +kernel), List.mem_of_getElem? (i := 809) (by decide +kernel)⟩
theorem lw_p20 : lw_okq (⟨"EarCode$LawReader", "readSum", "(II)Z"⟩, 2) := ⟨⟨by decide +kernel, by decide +kernel⟩, List.mem_of_getElem? (i := 249) (by decide +kernel), List.mem_of_getElem? (i := 816) (by decide +kernel), List.mem_of_getElem? (i := 817) (by decide +kernel)⟩
theorem lw_p21 : lw_okq (⟨"java/lang/Throwable", "fillInStackTrace", "(I)Ljava/lang/Throwable;"⟩, 6) := ⟨⟨by decide +kernel, by decide +kernel⟩, List.mem_of_getElem? (i := 869) (by decide +kernel), List.mem_of_getElem? (i := 867) (by decide +kernel), List.mem_of_getElem? (i := 868) (by decide +kernel)⟩
theorem lw_p22 : lw_okq (⟨"EarCode$RepublicReader", "readLine", "()Z"⟩, 3) := ⟨⟨by decide +kernel, by decide +kernel⟩, List.mem_of_getElem? (i := 262) (by decide +kernel), List.mem_of_getElem? (i := 928) (by decide +kernel), List.mem_of_getElem? (i := 929) (by decide +kernel)⟩
theorem lw_p23 : lw_okq (⟨"EarCode$RepublicReader", "readCitizen", "()Z"⟩, 3) := ⟨⟨by decide +kernel, by decide +kernel⟩, List.mem_of_getElem? (i := 262) (by decide +kernel), List.mem_of_getElem? (i := 933) (by decide +kernel), List.mem_of_getElem? (i := 934) (by decide +kernel)⟩
theorem lw_p24 : lw_okq (⟨"EarCode$RepublicReader", "readHabit", "(I)Z"⟩, 3) := ⟨⟨by decide +kernel, by decide +kernel⟩, List.mem_of_getElem? (i := 262) (by decide +kernel), List.mem_of_getElem? (i := 942) (by decide +kernel), List.mem_of_getElem? (i := 943) (by decide +kernel)⟩
theorem lw_p25 : lw_okq (⟨"EarCode$RepublicReader", "readMatter", "()I"⟩, 3) := ⟨⟨by decide +kernel, by decide +kernel⟩, List.mem_of_getElem? (i := 262) (by decide +kernel), List.mem_of_getElem? (i := 946) (by decide +kernel), List.mem_of_getElem? (i := 947) (by decide +kernel)⟩
theorem lw_p26 : lw_okq (⟨"EarCode$RepublicReader", "readKnows", "(I)Z"⟩, 3) := ⟨⟨by decide +kernel, by decide +kernel⟩, List.mem_of_getElem? (i := 262) (by decide +kernel), List.mem_of_getElem? (i := 959) (by decide +kernel), List.mem_of_getElem? (i := 960) (by decide +kernel)⟩
theorem lw_p27 : lw_okq (⟨"EarCode$RepublicReader", "readWatch", "()Z"⟩, 3) := ⟨⟨by decide +kernel, by decide +kernel⟩, List.mem_of_getElem? (i := 262) (by decide +kernel), List.mem_of_getElem? (i := 963) (by decide +kernel), List.mem_of_getElem? (i := 964) (by decide +kernel)⟩
theorem lw_p28 : lw_okq (⟨"EarCode$RepublicReader", "readTerm", "()Z"⟩, 3) := ⟨⟨by decide +kernel, by decide +kernel⟩, List.mem_of_getElem? (i := 262) (by decide +kernel), List.mem_of_getElem? (i := 967) (by decide +kernel), List.mem_of_getElem? (i := 968) (by decide +kernel)⟩
theorem lw_p29 : lw_okq (⟨"EarCode$RepublicReader", "readHarm", "()Z"⟩, 3) := ⟨⟨by decide +kernel, by decide +kernel⟩, List.mem_of_getElem? (i := 262) (by decide +kernel), List.mem_of_getElem? (i := 971) (by decide +kernel), List.mem_of_getElem? (i := 972) (by decide +kernel)⟩
theorem lw_p30 : lw_okq (⟨"EarCode$RepublicReader", "readWed", "()Z"⟩, 3) := ⟨⟨by decide +kernel, by decide +kernel⟩, List.mem_of_getElem? (i := 262) (by decide +kernel), List.mem_of_getElem? (i := 975) (by decide +kernel), List.mem_of_getElem? (i := 976) (by decide +kernel)⟩
theorem lw_p31 : lw_okq (⟨"EarCode$RepublicReader", "readLiving", "(ZI)I"⟩, 3) := ⟨⟨by decide +kernel, by decide +kernel⟩, List.mem_of_getElem? (i := 262) (by decide +kernel), List.mem_of_getElem? (i := 979) (by decide +kernel), List.mem_of_getElem? (i := 980) (by decide +kernel)⟩
def lw_privs_2 : List (MethodName × Nat) := [(⟨"EarCode$LawReader", "readClause", "()Z"⟩, 2), (⟨"EarCode$LawReader", "readCondition", "(I)Z"⟩, 2), (⟨"EarCode$LawReader", "readAtom", "(I)Z"⟩, 2), (⟨"EarCode$LawReader", "readComparison", "()Z"⟩, 2), (⟨"EarCode$LawReader", "readSum", "(II)Z"⟩, 2), (⟨"java/lang/Throwable", "fillInStackTrace", "(I)Ljava/lang/Throwable;"⟩, 6), (⟨"EarCode$RepublicReader", "readLine", "()Z"⟩, 3), (⟨"EarCode$RepublicReader", "readCitizen", "()Z"⟩, 3), (⟨"EarCode$RepublicReader", "readHabit", "(I)Z"⟩, 3), (⟨"EarCode$RepublicReader", "readMatter", "()I"⟩, 3), (⟨"EarCode$RepublicReader", "readKnows", "(I)Z"⟩, 3), (⟨"EarCode$RepublicReader", "readWatch", "()Z"⟩, 3), (⟨"EarCode$RepublicReader", "readTerm", "()Z"⟩, 3), (⟨"EarCode$RepublicReader", "readHarm", "()Z"⟩, 3), (⟨"EarCode$RepublicReader", "readWed", "()Z"⟩, 3), (⟨"EarCode$RepublicReader", "readLiving", "(ZI)I"⟩, 3)]
theorem lw_r2 : ∀ q ∈ lw_privs_2, lw_okq q := List.forall_mem_cons.mpr ⟨lw_p16, List.forall_mem_cons.mpr ⟨lw_p17, List.forall_mem_cons.mpr ⟨lw_p18, List.forall_mem_cons.mpr ⟨lw_p19, List.forall_mem_cons.mpr ⟨lw_p20, List.forall_mem_cons.mpr ⟨lw_p21, List.forall_mem_cons.mpr ⟨lw_p22, List.forall_mem_cons.mpr ⟨lw_p23, List.forall_mem_cons.mpr ⟨lw_p24, List.forall_mem_cons.mpr ⟨lw_p25, List.forall_mem_cons.mpr ⟨lw_p26, List.forall_mem_cons.mpr ⟨lw_p27, List.forall_mem_cons.mpr ⟨lw_p28, List.forall_mem_cons.mpr ⟨lw_p29, List.forall_mem_cons.mpr ⟨lw_p30, List.forall_mem_cons.mpr ⟨lw_p31, fun _ h => absurd h List.not_mem_nil⟩⟩⟩⟩⟩⟩⟩⟩⟩⟩⟩⟩⟩⟩⟩⟩
theorem lw_p32 : lw_okq (⟨"EarCode$RepublicReader", "readSeen", "()Z"⟩, 3) := ⟨⟨by decide +kernel, by decide +kernel⟩, List.mem_of_getElem? (i := 262) (by decide +kernel), List.mem_of_getElem? (i := 988) (by decide +kernel), List.mem_of_getElem? (i := 989) (by decide +kernel)⟩
theorem lw_p33 : lw_okq (⟨"EarCode", "needClause", "(I)V"⟩, 16) := ⟨⟨by decide +kernel, by decide +kernel⟩, List.mem_of_getElem? (i := 31) (by decide +kernel), List.mem_of_getElem? (i := 1018) (by decide +kernel), List.mem_of_getElem? (i := 1019) (by decide +kernel)⟩
theorem lw_p34 : lw_okq (⟨"EarCode", "needCitizen", "(I)V"⟩, 16) := ⟨⟨by decide +kernel, by decide +kernel⟩, List.mem_of_getElem? (i := 31) (by decide +kernel), List.mem_of_getElem? (i := 1073) (by decide +kernel), List.mem_of_getElem? (i := 1074) (by decide +kernel)⟩
theorem lw_p35 : lw_okq (⟨"EarCode", "needAlive", "(I)V"⟩, 16) := ⟨⟨by decide +kernel, by decide +kernel⟩, List.mem_of_getElem? (i := 31) (by decide +kernel), List.mem_of_getElem? (i := 1114) (by decide +kernel), List.mem_of_getElem? (i := 1115) (by decide +kernel)⟩
theorem lw_p36 : lw_okq (⟨"EarCode$Reading", "takeRow", "(III)Z"⟩, 9) := ⟨⟨by decide +kernel, by decide +kernel⟩, List.mem_of_getElem? (i := 298) (by decide +kernel), List.mem_of_getElem? (i := 1215) (by decide +kernel), List.mem_of_getElem? (i := 1216) (by decide +kernel)⟩
theorem lw_p37 : lw_okq (⟨"EarCode$Reading", "addNeed", "(I)V"⟩, 9) := ⟨⟨by decide +kernel, by decide +kernel⟩, List.mem_of_getElem? (i := 298) (by decide +kernel), List.mem_of_getElem? (i := 1222) (by decide +kernel), List.mem_of_getElem? (i := 1223) (by decide +kernel)⟩
theorem lw_p38 : lw_okq (⟨"EarCode$Reading", "meetsNeeds", "(I)Z"⟩, 9) := ⟨⟨by decide +kernel, by decide +kernel⟩, List.mem_of_getElem? (i := 298) (by decide +kernel), List.mem_of_getElem? (i := 1235) (by decide +kernel), List.mem_of_getElem? (i := 1236) (by decide +kernel)⟩
theorem lw_p39 : lw_okq (⟨"EarCode$Reading", "sumOverSubsets", "()V"⟩, 9) := ⟨⟨by decide +kernel, by decide +kernel⟩, List.mem_of_getElem? (i := 298) (by decide +kernel), List.mem_of_getElem? (i := 1250) (by decide +kernel), List.mem_of_getElem? (i := 1251) (by decide +kernel)⟩
theorem lw_p40 : lw_okq (⟨"EarCode$Outlook", "foresee", "(IIII)V"⟩, 5) := ⟨⟨by decide +kernel, by decide +kernel⟩, List.mem_of_getElem? (i := 335) (by decide +kernel), List.mem_of_getElem? (i := 1291) (by decide +kernel), List.mem_of_getElem? (i := 1292) (by decide +kernel)⟩
theorem lw_p41 : lw_okq (⟨"EarCode$Outlook", "riskyDays", "(III)I"⟩, 5) := ⟨⟨by decide +kernel, by decide +kernel⟩, List.mem_of_getElem? (i := 335) (by decide +kernel), List.mem_of_getElem? (i := 1298) (by decide +kernel), List.mem_of_getElem? (i := 1299) (by decide +kernel)⟩
theorem lw_p42 : lw_okq (⟨"EarCode$Outlook", "findTellingOf", "(III)V"⟩, 5) := ⟨⟨by decide +kernel, by decide +kernel⟩, List.mem_of_getElem? (i := 335) (by decide +kernel), List.mem_of_getElem? (i := 1337) (by decide +kernel), List.mem_of_getElem? (i := 1338) (by decide +kernel)⟩
theorem lw_p43 : lw_okq (⟨"EarCode$Inquiry", "isAllowedToAny", "(I)Z"⟩, 3) := ⟨⟨by decide +kernel, by decide +kernel⟩, List.mem_of_getElem? (i := 359) (by decide +kernel), List.mem_of_getElem? (i := 1365) (by decide +kernel), List.mem_of_getElem? (i := 1366) (by decide +kernel)⟩
theorem lw_p44 : lw_okq (⟨"EarCode$Inquiry", "timesInHabits", "(I)I"⟩, 3) := ⟨⟨by decide +kernel, by decide +kernel⟩, List.mem_of_getElem? (i := 359) (by decide +kernel), List.mem_of_getElem? (i := 1381) (by decide +kernel), List.mem_of_getElem? (i := 1382) (by decide +kernel)⟩
theorem lw_p45 : lw_okq (⟨"EarCode", "tryDays", "(II)V"⟩, 16) := ⟨⟨by decide +kernel, by decide +kernel⟩, List.mem_of_getElem? (i := 31) (by decide +kernel), List.mem_of_getElem? (i := 1445) (by decide +kernel), List.mem_of_getElem? (i := 1446) (by decide +kernel)⟩
theorem lw_p46 : lw_okq (⟨"EarCodeModel", "readAll", "(Z)I"⟩, 38) := ⟨⟨by decide +kernel, by decide +kernel⟩, List.mem_of_getElem? (i := 1479) (by decide +kernel), List.mem_of_getElem? (i := 1634) (by decide +kernel), List.mem_of_getElem? (i := 1635) (by decide +kernel)⟩
theorem lw_p47 : lw_okq (⟨"EarCodeModel", "uses", "()V"⟩, 38) := ⟨⟨by decide +kernel, by decide +kernel⟩, List.mem_of_getElem? (i := 1479) (by decide +kernel), List.mem_of_getElem? (i := 1638) (by decide +kernel), List.mem_of_getElem? (i := 1639) (by decide +kernel)⟩
def lw_privs_3 : List (MethodName × Nat) := [(⟨"EarCode$RepublicReader", "readSeen", "()Z"⟩, 3), (⟨"EarCode", "needClause", "(I)V"⟩, 16), (⟨"EarCode", "needCitizen", "(I)V"⟩, 16), (⟨"EarCode", "needAlive", "(I)V"⟩, 16), (⟨"EarCode$Reading", "takeRow", "(III)Z"⟩, 9), (⟨"EarCode$Reading", "addNeed", "(I)V"⟩, 9), (⟨"EarCode$Reading", "meetsNeeds", "(I)Z"⟩, 9), (⟨"EarCode$Reading", "sumOverSubsets", "()V"⟩, 9), (⟨"EarCode$Outlook", "foresee", "(IIII)V"⟩, 5), (⟨"EarCode$Outlook", "riskyDays", "(III)I"⟩, 5), (⟨"EarCode$Outlook", "findTellingOf", "(III)V"⟩, 5), (⟨"EarCode$Inquiry", "isAllowedToAny", "(I)Z"⟩, 3), (⟨"EarCode$Inquiry", "timesInHabits", "(I)I"⟩, 3), (⟨"EarCode", "tryDays", "(II)V"⟩, 16), (⟨"EarCodeModel", "readAll", "(Z)I"⟩, 38), (⟨"EarCodeModel", "uses", "()V"⟩, 38)]
theorem lw_r3 : ∀ q ∈ lw_privs_3, lw_okq q := List.forall_mem_cons.mpr ⟨lw_p32, List.forall_mem_cons.mpr ⟨lw_p33, List.forall_mem_cons.mpr ⟨lw_p34, List.forall_mem_cons.mpr ⟨lw_p35, List.forall_mem_cons.mpr ⟨lw_p36, List.forall_mem_cons.mpr ⟨lw_p37, List.forall_mem_cons.mpr ⟨lw_p38, List.forall_mem_cons.mpr ⟨lw_p39, List.forall_mem_cons.mpr ⟨lw_p40, List.forall_mem_cons.mpr ⟨lw_p41, List.forall_mem_cons.mpr ⟨lw_p42, List.forall_mem_cons.mpr ⟨lw_p43, List.forall_mem_cons.mpr ⟨lw_p44, List.forall_mem_cons.mpr ⟨lw_p45, List.forall_mem_cons.mpr ⟨lw_p46, List.forall_mem_cons.mpr ⟨lw_p47, fun _ h => absurd h List.not_mem_nil⟩⟩⟩⟩⟩⟩⟩⟩⟩⟩⟩⟩⟩⟩⟩⟩
theorem lw_p48 : lw_okq (⟨"EarCodeModel", "blanks", "()V"⟩, 38) := ⟨⟨by decide +kernel, by decide +kernel⟩, List.mem_of_getElem? (i := 1479) (by decide +kernel), List.mem_of_getElem? (i := 1642) (by decide +kernel), List.mem_of_getElem? (i := 1643) (by decide +kernel)⟩
theorem lw_p49 : lw_okq (⟨"EarCodeModel", "isAt", "(II)Z"⟩, 38) := ⟨⟨by decide +kernel, by decide +kernel⟩, List.mem_of_getElem? (i := 1479) (by decide +kernel), List.mem_of_getElem? (i := 1646) (by decide +kernel), List.mem_of_getElem? (i := 1647) (by decide +kernel)⟩
theorem lw_p50 : lw_okq (⟨"EarCodeModel", "readLine", "(ZI)Z"⟩, 38) := ⟨⟨by decide +kernel, by decide +kernel⟩, List.mem_of_getElem? (i := 1479) (by decide +kernel), List.mem_of_getElem? (i := 1650) (by decide +kernel), List.mem_of_getElem? (i := 1651) (by decide +kernel)⟩
theorem lw_p51 : lw_okq (⟨"EarCodeModel", "letters", "()V"⟩, 38) := ⟨⟨by decide +kernel, by decide +kernel⟩, List.mem_of_getElem? (i := 1479) (by decide +kernel), List.mem_of_getElem? (i := 1654) (by decide +kernel), List.mem_of_getElem? (i := 1655) (by decide +kernel)⟩
theorem lw_p52 : lw_okq (⟨"EarCodeModel", "readClause", "(I)Z"⟩, 38) := ⟨⟨by decide +kernel, by decide +kernel⟩, List.mem_of_getElem? (i := 1479) (by decide +kernel), List.mem_of_getElem? (i := 1658) (by decide +kernel), List.mem_of_getElem? (i := 1659) (by decide +kernel)⟩
theorem lw_p53 : lw_okq (⟨"EarCodeModel", "isWord", "(Ljava/lang/String;)Z"⟩, 38) := ⟨⟨by decide +kernel, by decide +kernel⟩, List.mem_of_getElem? (i := 1479) (by decide +kernel), List.mem_of_getElem? (i := 1663) (by decide +kernel), List.mem_of_getElem? (i := 1664) (by decide +kernel)⟩
theorem lw_p54 : lw_okq (⟨"EarCodeModel", "number", "(II)I"⟩, 38) := ⟨⟨by decide +kernel, by decide +kernel⟩, List.mem_of_getElem? (i := 1479) (by decide +kernel), List.mem_of_getElem? (i := 1670) (by decide +kernel), List.mem_of_getElem? (i := 1671) (by decide +kernel)⟩
theorem lw_p55 : lw_okq (⟨"EarCodeModel", "passes", "(Ljava/lang/String;)Z"⟩, 38) := ⟨⟨by decide +kernel, by decide +kernel⟩, List.mem_of_getElem? (i := 1479) (by decide +kernel), List.mem_of_getElem? (i := 1675) (by decide +kernel), List.mem_of_getElem? (i := 1676) (by decide +kernel)⟩
theorem lw_p56 : lw_okq (⟨"EarCodeModel", "readCond", "()Z"⟩, 38) := ⟨⟨by decide +kernel, by decide +kernel⟩, List.mem_of_getElem? (i := 1479) (by decide +kernel), List.mem_of_getElem? (i := 1679) (by decide +kernel), List.mem_of_getElem? (i := 1680) (by decide +kernel)⟩
theorem lw_p57 : lw_okq (⟨"EarCodeModel", "readAllOf", "()Z"⟩, 38) := ⟨⟨by decide +kernel, by decide +kernel⟩, List.mem_of_getElem? (i := 1479) (by decide +kernel), List.mem_of_getElem? (i := 1683) (by decide +kernel), List.mem_of_getElem? (i := 1684) (by decide +kernel)⟩
theorem lw_p58 : lw_okq (⟨"EarCodeModel", "readAtom", "()Z"⟩, 38) := ⟨⟨by decide +kernel, by decide +kernel⟩, List.mem_of_getElem? (i := 1479) (by decide +kernel), List.mem_of_getElem? (i := 1687) (by decide +kernel), List.mem_of_getElem? (i := 1688) (by decide +kernel)⟩
theorem lw_p59 : lw_okq (⟨"EarCodeModel", "sign", "(I)Z"⟩, 38) := ⟨⟨by decide +kernel, by decide +kernel⟩, List.mem_of_getElem? (i := 1479) (by decide +kernel), List.mem_of_getElem? (i := 1691) (by decide +kernel), List.mem_of_getElem? (i := 1692) (by decide +kernel)⟩
theorem lw_p60 : lw_okq (⟨"EarCodeModel", "emits", "(II)V"⟩, 38) := ⟨⟨by decide +kernel, by decide +kernel⟩, List.mem_of_getElem? (i := 1479) (by decide +kernel), List.mem_of_getElem? (i := 1696) (by decide +kernel), List.mem_of_getElem? (i := 1697) (by decide +kernel)⟩
theorem lw_p61 : lw_okq (⟨"EarCodeModel", "readSum", "()Z"⟩, 38) := ⟨⟨by decide +kernel, by decide +kernel⟩, List.mem_of_getElem? (i := 1479) (by decide +kernel), List.mem_of_getElem? (i := 1701) (by decide +kernel), List.mem_of_getElem? (i := 1702) (by decide +kernel)⟩
theorem lw_p62 : lw_okq (⟨"EarCodeModel", "readPart", "()Z"⟩, 38) := ⟨⟨by decide +kernel, by decide +kernel⟩, List.mem_of_getElem? (i := 1479) (by decide +kernel), List.mem_of_getElem? (i := 1705) (by decide +kernel), List.mem_of_getElem? (i := 1706) (by decide +kernel)⟩
theorem lw_p63 : lw_okq (⟨"EarCodeModel", "readRepublicLine", "(I)Z"⟩, 38) := ⟨⟨by decide +kernel, by decide +kernel⟩, List.mem_of_getElem? (i := 1479) (by decide +kernel), List.mem_of_getElem? (i := 1715) (by decide +kernel), List.mem_of_getElem? (i := 1716) (by decide +kernel)⟩
def lw_privs_4 : List (MethodName × Nat) := [(⟨"EarCodeModel", "blanks", "()V"⟩, 38), (⟨"EarCodeModel", "isAt", "(II)Z"⟩, 38), (⟨"EarCodeModel", "readLine", "(ZI)Z"⟩, 38), (⟨"EarCodeModel", "letters", "()V"⟩, 38), (⟨"EarCodeModel", "readClause", "(I)Z"⟩, 38), (⟨"EarCodeModel", "isWord", "(Ljava/lang/String;)Z"⟩, 38), (⟨"EarCodeModel", "number", "(II)I"⟩, 38), (⟨"EarCodeModel", "passes", "(Ljava/lang/String;)Z"⟩, 38), (⟨"EarCodeModel", "readCond", "()Z"⟩, 38), (⟨"EarCodeModel", "readAllOf", "()Z"⟩, 38), (⟨"EarCodeModel", "readAtom", "()Z"⟩, 38), (⟨"EarCodeModel", "sign", "(I)Z"⟩, 38), (⟨"EarCodeModel", "emits", "(II)V"⟩, 38), (⟨"EarCodeModel", "readSum", "()Z"⟩, 38), (⟨"EarCodeModel", "readPart", "()Z"⟩, 38), (⟨"EarCodeModel", "readRepublicLine", "(I)Z"⟩, 38)]
theorem lw_r4 : ∀ q ∈ lw_privs_4, lw_okq q := List.forall_mem_cons.mpr ⟨lw_p48, List.forall_mem_cons.mpr ⟨lw_p49, List.forall_mem_cons.mpr ⟨lw_p50, List.forall_mem_cons.mpr ⟨lw_p51, List.forall_mem_cons.mpr ⟨lw_p52, List.forall_mem_cons.mpr ⟨lw_p53, List.forall_mem_cons.mpr ⟨lw_p54, List.forall_mem_cons.mpr ⟨lw_p55, List.forall_mem_cons.mpr ⟨lw_p56, List.forall_mem_cons.mpr ⟨lw_p57, List.forall_mem_cons.mpr ⟨lw_p58, List.forall_mem_cons.mpr ⟨lw_p59, List.forall_mem_cons.mpr ⟨lw_p60, List.forall_mem_cons.mpr ⟨lw_p61, List.forall_mem_cons.mpr ⟨lw_p62, List.forall_mem_cons.mpr ⟨lw_p63, fun _ h => absurd h List.not_mem_nil⟩⟩⟩⟩⟩⟩⟩⟩⟩⟩⟩⟩⟩⟩⟩⟩
theorem lw_p64 : lw_okq (⟨"EarCodeModel", "readCitizen", "()Z"⟩, 38) := ⟨⟨by decide +kernel, by decide +kernel⟩, List.mem_of_getElem? (i := 1479) (by decide +kernel), List.mem_of_getElem? (i := 1720) (by decide +kernel), List.mem_of_getElem? (i := 1721) (by decide +kernel)⟩
theorem lw_p65 : lw_okq (⟨"EarCodeModel", "citizens", "()I"⟩, 38) := ⟨⟨by decide +kernel, by decide +kernel⟩, List.mem_of_getElem? (i := 1479) (by decide +kernel), List.mem_of_getElem? (i := 1724) (by decide +kernel), List.mem_of_getElem? (i := 1725) (by decide +kernel)⟩
theorem lw_p66 : lw_okq (⟨"EarCodeModel", "sets", "(III)V"⟩, 38) := ⟨⟨by decide +kernel, by decide +kernel⟩, List.mem_of_getElem? (i := 1479) (by decide +kernel), List.mem_of_getElem? (i := 1728) (by decide +kernel), List.mem_of_getElem? (i := 1729) (by decide +kernel)⟩
theorem lw_p67 : lw_okq (⟨"EarCodeModel", "of", "(II)I"⟩, 38) := ⟨⟨by decide +kernel, by decide +kernel⟩, List.mem_of_getElem? (i := 1479) (by decide +kernel), List.mem_of_getElem? (i := 1733) (by decide +kernel), List.mem_of_getElem? (i := 1734) (by decide +kernel)⟩
theorem lw_p68 : lw_okq (⟨"EarCodeModel", "readHabit", "(I)Z"⟩, 38) := ⟨⟨by decide +kernel, by decide +kernel⟩, List.mem_of_getElem? (i := 1479) (by decide +kernel), List.mem_of_getElem? (i := 1738) (by decide +kernel), List.mem_of_getElem? (i := 1739) (by decide +kernel)⟩
theorem lw_p69 : lw_okq (⟨"EarCodeModel", "matterTold", "()I"⟩, 38) := ⟨⟨by decide +kernel, by decide +kernel⟩, List.mem_of_getElem? (i := 1479) (by decide +kernel), List.mem_of_getElem? (i := 1742) (by decide +kernel), List.mem_of_getElem? (i := 1743) (by decide +kernel)⟩
theorem lw_p70 : lw_okq (⟨"EarCodeModel", "isFigure", "()Z"⟩, 38) := ⟨⟨by decide +kernel, by decide +kernel⟩, List.mem_of_getElem? (i := 1479) (by decide +kernel), List.mem_of_getElem? (i := 1746) (by decide +kernel), List.mem_of_getElem? (i := 1747) (by decide +kernel)⟩
theorem lw_p71 : lw_okq (⟨"EarCodeModel", "readKnows", "(I)Z"⟩, 38) := ⟨⟨by decide +kernel, by decide +kernel⟩, List.mem_of_getElem? (i := 1479) (by decide +kernel), List.mem_of_getElem? (i := 1751) (by decide +kernel), List.mem_of_getElem? (i := 1752) (by decide +kernel)⟩
theorem lw_p72 : lw_okq (⟨"EarCodeModel", "clauses", "()I"⟩, 38) := ⟨⟨by decide +kernel, by decide +kernel⟩, List.mem_of_getElem? (i := 1479) (by decide +kernel), List.mem_of_getElem? (i := 1755) (by decide +kernel), List.mem_of_getElem? (i := 1756) (by decide +kernel)⟩
theorem lw_p73 : lw_okq (⟨"EarCodeModel", "readNumber", "(III)Z"⟩, 38) := ⟨⟨by decide +kernel, by decide +kernel⟩, List.mem_of_getElem? (i := 1479) (by decide +kernel), List.mem_of_getElem? (i := 1761) (by decide +kernel), List.mem_of_getElem? (i := 1762) (by decide +kernel)⟩
theorem lw_p74 : lw_okq (⟨"EarCodeModel", "readWed", "()Z"⟩, 38) := ⟨⟨by decide +kernel, by decide +kernel⟩, List.mem_of_getElem? (i := 1479) (by decide +kernel), List.mem_of_getElem? (i := 1767) (by decide +kernel), List.mem_of_getElem? (i := 1768) (by decide +kernel)⟩
theorem lw_p75 : lw_okq (⟨"EarCodeModel", "citizenTold", "()I"⟩, 38) := ⟨⟨by decide +kernel, by decide +kernel⟩, List.mem_of_getElem? (i := 1479) (by decide +kernel), List.mem_of_getElem? (i := 1771) (by decide +kernel), List.mem_of_getElem? (i := 1772) (by decide +kernel)⟩
theorem lw_p76 : lw_okq (⟨"EarCodeModel", "isAlive", "(I)Z"⟩, 38) := ⟨⟨by decide +kernel, by decide +kernel⟩, List.mem_of_getElem? (i := 1479) (by decide +kernel), List.mem_of_getElem? (i := 1775) (by decide +kernel), List.mem_of_getElem? (i := 1776) (by decide +kernel)⟩
theorem lw_p77 : lw_okq (⟨"EarCodeModel", "isSingle", "(I)Z"⟩, 38) := ⟨⟨by decide +kernel, by decide +kernel⟩, List.mem_of_getElem? (i := 1479) (by decide +kernel), List.mem_of_getElem? (i := 1779) (by decide +kernel), List.mem_of_getElem? (i := 1780) (by decide +kernel)⟩
theorem lw_p78 : lw_okq (⟨"EarCodeModel", "weds", "(II)V"⟩, 38) := ⟨⟨by decide +kernel, by decide +kernel⟩, List.mem_of_getElem? (i := 1479) (by decide +kernel), List.mem_of_getElem? (i := 1783) (by decide +kernel), List.mem_of_getElem? (i := 1784) (by decide +kernel)⟩
theorem lw_p79 : lw_okq (⟨"EarCodeModel", "readSeen", "()Z"⟩, 38) := ⟨⟨by decide +kernel, by decide +kernel⟩, List.mem_of_getElem? (i := 1479) (by decide +kernel), List.mem_of_getElem? (i := 1788) (by decide +kernel), List.mem_of_getElem? (i := 1789) (by decide +kernel)⟩
def lw_privs_5 : List (MethodName × Nat) := [(⟨"EarCodeModel", "readCitizen", "()Z"⟩, 38), (⟨"EarCodeModel", "citizens", "()I"⟩, 38), (⟨"EarCodeModel", "sets", "(III)V"⟩, 38), (⟨"EarCodeModel", "of", "(II)I"⟩, 38), (⟨"EarCodeModel", "readHabit", "(I)Z"⟩, 38), (⟨"EarCodeModel", "matterTold", "()I"⟩, 38), (⟨"EarCodeModel", "isFigure", "()Z"⟩, 38), (⟨"EarCodeModel", "readKnows", "(I)Z"⟩, 38), (⟨"EarCodeModel", "clauses", "()I"⟩, 38), (⟨"EarCodeModel", "readNumber", "(III)Z"⟩, 38), (⟨"EarCodeModel", "readWed", "()Z"⟩, 38), (⟨"EarCodeModel", "citizenTold", "()I"⟩, 38), (⟨"EarCodeModel", "isAlive", "(I)Z"⟩, 38), (⟨"EarCodeModel", "isSingle", "(I)Z"⟩, 38), (⟨"EarCodeModel", "weds", "(II)V"⟩, 38), (⟨"EarCodeModel", "readSeen", "()Z"⟩, 38)]
theorem lw_r5 : ∀ q ∈ lw_privs_5, lw_okq q := List.forall_mem_cons.mpr ⟨lw_p64, List.forall_mem_cons.mpr ⟨lw_p65, List.forall_mem_cons.mpr ⟨lw_p66, List.forall_mem_cons.mpr ⟨lw_p67, List.forall_mem_cons.mpr ⟨lw_p68, List.forall_mem_cons.mpr ⟨lw_p69, List.forall_mem_cons.mpr ⟨lw_p70, List.forall_mem_cons.mpr ⟨lw_p71, List.forall_mem_cons.mpr ⟨lw_p72, List.forall_mem_cons.mpr ⟨lw_p73, List.forall_mem_cons.mpr ⟨lw_p74, List.forall_mem_cons.mpr ⟨lw_p75, List.forall_mem_cons.mpr ⟨lw_p76, List.forall_mem_cons.mpr ⟨lw_p77, List.forall_mem_cons.mpr ⟨lw_p78, List.forall_mem_cons.mpr ⟨lw_p79, fun _ h => absurd h List.not_mem_nil⟩⟩⟩⟩⟩⟩⟩⟩⟩⟩⟩⟩⟩⟩⟩⟩
theorem lw_p80 : lw_okq (⟨"EarCodeModel", "throwsIf", "(ZI)Z"⟩, 38) := ⟨⟨by decide +kernel, by decide +kernel⟩, List.mem_of_getElem? (i := 1479) (by decide +kernel), List.mem_of_getElem? (i := 1793) (by decide +kernel), List.mem_of_getElem? (i := 1794) (by decide +kernel)⟩
theorem lw_p81 : lw_okq (⟨"EarCodeModel", "noClause", "(I)Z"⟩, 38) := ⟨⟨by decide +kernel, by decide +kernel⟩, List.mem_of_getElem? (i := 1479) (by decide +kernel), List.mem_of_getElem? (i := 1805) (by decide +kernel), List.mem_of_getElem? (i := 1806) (by decide +kernel)⟩
theorem lw_p82 : lw_okq (⟨"EarCodeModel", "demands", "(I)Z"⟩, 38) := ⟨⟨by decide +kernel, by decide +kernel⟩, List.mem_of_getElem? (i := 1479) (by decide +kernel), List.mem_of_getElem? (i := 1812) (by decide +kernel), List.mem_of_getElem? (i := 1813) (by decide +kernel)⟩
theorem lw_p83 : lw_okq (⟨"EarCodeModel", "deedOf", "(I)I"⟩, 38) := ⟨⟨by decide +kernel, by decide +kernel⟩, List.mem_of_getElem? (i := 1479) (by decide +kernel), List.mem_of_getElem? (i := 1816) (by decide +kernel), List.mem_of_getElem? (i := 1817) (by decide +kernel)⟩
theorem lw_p84 : lw_okq (⟨"EarCodeModel", "inForce", "()I"⟩, 38) := ⟨⟨by decide +kernel, by decide +kernel⟩, List.mem_of_getElem? (i := 1479) (by decide +kernel), List.mem_of_getElem? (i := 1820) (by decide +kernel), List.mem_of_getElem? (i := 1821) (by decide +kernel)⟩
theorem lw_p85 : lw_okq (⟨"EarCodeModel", "knowers", "(I)I"⟩, 38) := ⟨⟨by decide +kernel, by decide +kernel⟩, List.mem_of_getElem? (i := 1479) (by decide +kernel), List.mem_of_getElem? (i := 1824) (by decide +kernel), List.mem_of_getElem? (i := 1825) (by decide +kernel)⟩
theorem lw_p86 : lw_okq (⟨"EarCodeModel", "knows", "(II)Z"⟩, 38) := ⟨⟨by decide +kernel, by decide +kernel⟩, List.mem_of_getElem? (i := 1479) (by decide +kernel), List.mem_of_getElem? (i := 1828) (by decide +kernel), List.mem_of_getElem? (i := 1829) (by decide +kernel)⟩
theorem lw_p87 : lw_okq (⟨"EarCodeModel", "contradicting", "(I)I"⟩, 38) := ⟨⟨by decide +kernel, by decide +kernel⟩, List.mem_of_getElem? (i := 1479) (by decide +kernel), List.mem_of_getElem? (i := 1835) (by decide +kernel), List.mem_of_getElem? (i := 1836) (by decide +kernel)⟩
theorem lw_p88 : lw_okq (⟨"EarCodeModel", "contradict", "(II)Z"⟩, 38) := ⟨⟨by decide +kernel, by decide +kernel⟩, List.mem_of_getElem? (i := 1479) (by decide +kernel), List.mem_of_getElem? (i := 1839) (by decide +kernel), List.mem_of_getElem? (i := 1840) (by decide +kernel)⟩
theorem lw_p89 : lw_okq (⟨"EarCodeModel", "isOf", "(IIII)Z"⟩, 38) := ⟨⟨by decide +kernel, by decide +kernel⟩, List.mem_of_getElem? (i := 1479) (by decide +kernel), List.mem_of_getElem? (i := 1843) (by decide +kernel), List.mem_of_getElem? (i := 1844) (by decide +kernel)⟩
theorem lw_p90 : lw_okq (⟨"EarCodeModel", "factOf", "(IIIII)I"⟩, 38) := ⟨⟨by decide +kernel, by decide +kernel⟩, List.mem_of_getElem? (i := 1479) (by decide +kernel), List.mem_of_getElem? (i := 1847) (by decide +kernel), List.mem_of_getElem? (i := 1848) (by decide +kernel)⟩
theorem lw_p91 : lw_okq (⟨"EarCodeModel", "noCitizen", "(I)Z"⟩, 38) := ⟨⟨by decide +kernel, by decide +kernel⟩, List.mem_of_getElem? (i := 1479) (by decide +kernel), List.mem_of_getElem? (i := 1856) (by decide +kernel), List.mem_of_getElem? (i := 1857) (by decide +kernel)⟩
theorem lw_p92 : lw_okq (⟨"EarCodeModel", "doesIn", "(II)I"⟩, 38) := ⟨⟨by decide +kernel, by decide +kernel⟩, List.mem_of_getElem? (i := 1479) (by decide +kernel), List.mem_of_getElem? (i := 1860) (by decide +kernel), List.mem_of_getElem? (i := 1861) (by decide +kernel)⟩
theorem lw_p93 : lw_okq (⟨"EarCodeModel", "pooled", "(I)I"⟩, 38) := ⟨⟨by decide +kernel, by decide +kernel⟩, List.mem_of_getElem? (i := 1479) (by decide +kernel), List.mem_of_getElem? (i := 1864) (by decide +kernel), List.mem_of_getElem? (i := 1865) (by decide +kernel)⟩
theorem lw_p94 : lw_okq (⟨"EarCodeModel", "saying", "(IZIII)I"⟩, 38) := ⟨⟨by decide +kernel, by decide +kernel⟩, List.mem_of_getElem? (i := 1479) (by decide +kernel), List.mem_of_getElem? (i := 1884) (by decide +kernel), List.mem_of_getElem? (i := 1885) (by decide +kernel)⟩
theorem lw_p95 : lw_okq (⟨"EarCodeModel", "may", "(II)Z"⟩, 38) := ⟨⟨by decide +kernel, by decide +kernel⟩, List.mem_of_getElem? (i := 1479) (by decide +kernel), List.mem_of_getElem? (i := 1888) (by decide +kernel), List.mem_of_getElem? (i := 1889) (by decide +kernel)⟩
def lw_privs_6 : List (MethodName × Nat) := [(⟨"EarCodeModel", "throwsIf", "(ZI)Z"⟩, 38), (⟨"EarCodeModel", "noClause", "(I)Z"⟩, 38), (⟨"EarCodeModel", "demands", "(I)Z"⟩, 38), (⟨"EarCodeModel", "deedOf", "(I)I"⟩, 38), (⟨"EarCodeModel", "inForce", "()I"⟩, 38), (⟨"EarCodeModel", "knowers", "(I)I"⟩, 38), (⟨"EarCodeModel", "knows", "(II)Z"⟩, 38), (⟨"EarCodeModel", "contradicting", "(I)I"⟩, 38), (⟨"EarCodeModel", "contradict", "(II)Z"⟩, 38), (⟨"EarCodeModel", "isOf", "(IIII)Z"⟩, 38), (⟨"EarCodeModel", "factOf", "(IIIII)I"⟩, 38), (⟨"EarCodeModel", "noCitizen", "(I)Z"⟩, 38), (⟨"EarCodeModel", "doesIn", "(II)I"⟩, 38), (⟨"EarCodeModel", "pooled", "(I)I"⟩, 38), (⟨"EarCodeModel", "saying", "(IZIII)I"⟩, 38), (⟨"EarCodeModel", "may", "(II)Z"⟩, 38)]
theorem lw_r6 : ∀ q ∈ lw_privs_6, lw_okq q := List.forall_mem_cons.mpr ⟨lw_p80, List.forall_mem_cons.mpr ⟨lw_p81, List.forall_mem_cons.mpr ⟨lw_p82, List.forall_mem_cons.mpr ⟨lw_p83, List.forall_mem_cons.mpr ⟨lw_p84, List.forall_mem_cons.mpr ⟨lw_p85, List.forall_mem_cons.mpr ⟨lw_p86, List.forall_mem_cons.mpr ⟨lw_p87, List.forall_mem_cons.mpr ⟨lw_p88, List.forall_mem_cons.mpr ⟨lw_p89, List.forall_mem_cons.mpr ⟨lw_p90, List.forall_mem_cons.mpr ⟨lw_p91, List.forall_mem_cons.mpr ⟨lw_p92, List.forall_mem_cons.mpr ⟨lw_p93, List.forall_mem_cons.mpr ⟨lw_p94, List.forall_mem_cons.mpr ⟨lw_p95, fun _ h => absurd h List.not_mem_nil⟩⟩⟩⟩⟩⟩⟩⟩⟩⟩⟩⟩⟩⟩⟩⟩
theorem lw_p96 : lw_okq (⟨"EarCodeModel", "forbidsNow", "(III)I"⟩, 38) := ⟨⟨by decide +kernel, by decide +kernel⟩, List.mem_of_getElem? (i := 1479) (by decide +kernel), List.mem_of_getElem? (i := 1892) (by decide +kernel), List.mem_of_getElem? (i := 1893) (by decide +kernel)⟩
theorem lw_p97 : lw_okq (⟨"EarCodeModel", "forbidding", "(IIII)I"⟩, 38) := ⟨⟨by decide +kernel, by decide +kernel⟩, List.mem_of_getElem? (i := 1479) (by decide +kernel), List.mem_of_getElem? (i := 1896) (by decide +kernel), List.mem_of_getElem? (i := 1897) (by decide +kernel)⟩
theorem lw_p98 : lw_okq (⟨"EarCodeModel", "remembers", "()V"⟩, 38) := ⟨⟨by decide +kernel, by decide +kernel⟩, List.mem_of_getElem? (i := 1479) (by decide +kernel), List.mem_of_getElem? (i := 1907) (by decide +kernel), List.mem_of_getElem? (i := 1908) (by decide +kernel)⟩
theorem lw_p99 : lw_okq (⟨"EarCodeModel", "oneDay", "()V"⟩, 38) := ⟨⟨by decide +kernel, by decide +kernel⟩, List.mem_of_getElem? (i := 1479) (by decide +kernel), List.mem_of_getElem? (i := 1932) (by decide +kernel), List.mem_of_getElem? (i := 1933) (by decide +kernel)⟩
theorem lw_p100 : lw_okq (⟨"EarCodeModel", "keeps", "(II)Z"⟩, 38) := ⟨⟨by decide +kernel, by decide +kernel⟩, List.mem_of_getElem? (i := 1479) (by decide +kernel), List.mem_of_getElem? (i := 1936) (by decide +kernel), List.mem_of_getElem? (i := 1937) (by decide +kernel)⟩
theorem lw_p101 : lw_okq (⟨"EarCodeModel", "draw", "(I)I"⟩, 38) := ⟨⟨by decide +kernel, by decide +kernel⟩, List.mem_of_getElem? (i := 1479) (by decide +kernel), List.mem_of_getElem? (i := 1940) (by decide +kernel), List.mem_of_getElem? (i := 1941) (by decide +kernel)⟩
theorem lw_p102 : lw_okq (⟨"EarCodeModel", "breaks", "(III)V"⟩, 38) := ⟨⟨by decide +kernel, by decide +kernel⟩, List.mem_of_getElem? (i := 1479) (by decide +kernel), List.mem_of_getElem? (i := 1945) (by decide +kernel), List.mem_of_getElem? (i := 1946) (by decide +kernel)⟩
theorem lw_p103 : lw_okq (⟨"EarCodeModel", "isLogged", "(III)V"⟩, 38) := ⟨⟨by decide +kernel, by decide +kernel⟩, List.mem_of_getElem? (i := 1479) (by decide +kernel), List.mem_of_getElem? (i := 1953) (by decide +kernel), List.mem_of_getElem? (i := 1954) (by decide +kernel)⟩
theorem lw_p104 : lw_okq (⟨"EarCodeModel", "alive", "()I"⟩, 38) := ⟨⟨by decide +kernel, by decide +kernel⟩, List.mem_of_getElem? (i := 1479) (by decide +kernel), List.mem_of_getElem? (i := 1961) (by decide +kernel), List.mem_of_getElem? (i := 1962) (by decide +kernel)⟩
theorem lw_p105 : lw_okq (⟨"EarCodeModel", "isWatched", "()Z"⟩, 38) := ⟨⟨by decide +kernel, by decide +kernel⟩, List.mem_of_getElem? (i := 1479) (by decide +kernel), List.mem_of_getElem? (i := 1973) (by decide +kernel), List.mem_of_getElem? (i := 1974) (by decide +kernel)⟩
theorem lw_p106 : lw_okq (⟨"EarCodeModel", "laysWatched", "()V"⟩, 38) := ⟨⟨by decide +kernel, by decide +kernel⟩, List.mem_of_getElem? (i := 1479) (by decide +kernel), List.mem_of_getElem? (i := 1977) (by decide +kernel), List.mem_of_getElem? (i := 1978) (by decide +kernel)⟩
theorem lw_p107 : lw_okq (⟨"EarCodeModel", "nevers", "()I"⟩, 38) := ⟨⟨by decide +kernel, by decide +kernel⟩, List.mem_of_getElem? (i := 1479) (by decide +kernel), List.mem_of_getElem? (i := 1981) (by decide +kernel), List.mem_of_getElem? (i := 1982) (by decide +kernel)⟩
theorem lw_p108 : lw_okq (⟨"EarCodeModel", "isCode", "(I)Z"⟩, 38) := ⟨⟨by decide +kernel, by decide +kernel⟩, List.mem_of_getElem? (i := 1479) (by decide +kernel), List.mem_of_getElem? (i := 1985) (by decide +kernel), List.mem_of_getElem? (i := 1986) (by decide +kernel)⟩
theorem lw_p109 : lw_okq (⟨"EarCodeModel", "riskOf", "(III)I"⟩, 38) := ⟨⟨by decide +kernel, by decide +kernel⟩, List.mem_of_getElem? (i := 1479) (by decide +kernel), List.mem_of_getElem? (i := 2012) (by decide +kernel), List.mem_of_getElem? (i := 2013) (by decide +kernel)⟩
theorem lw_p110 : lw_okq (⟨"EarCodeModel", "goesRound", "()Z"⟩, 38) := ⟨⟨by decide +kernel, by decide +kernel⟩, List.mem_of_getElem? (i := 1479) (by decide +kernel), List.mem_of_getElem? (i := 2052) (by decide +kernel), List.mem_of_getElem? (i := 2053) (by decide +kernel)⟩
theorem lw_p111 : lw_okq (⟨"EarCodeModel", "halfOfOthers", "(I)J"⟩, 38) := ⟨⟨by decide +kernel, by decide +kernel⟩, List.mem_of_getElem? (i := 1479) (by decide +kernel), List.mem_of_getElem? (i := 2056) (by decide +kernel), List.mem_of_getElem? (i := 2057) (by decide +kernel)⟩
def lw_privs_7 : List (MethodName × Nat) := [(⟨"EarCodeModel", "forbidsNow", "(III)I"⟩, 38), (⟨"EarCodeModel", "forbidding", "(IIII)I"⟩, 38), (⟨"EarCodeModel", "remembers", "()V"⟩, 38), (⟨"EarCodeModel", "oneDay", "()V"⟩, 38), (⟨"EarCodeModel", "keeps", "(II)Z"⟩, 38), (⟨"EarCodeModel", "draw", "(I)I"⟩, 38), (⟨"EarCodeModel", "breaks", "(III)V"⟩, 38), (⟨"EarCodeModel", "isLogged", "(III)V"⟩, 38), (⟨"EarCodeModel", "alive", "()I"⟩, 38), (⟨"EarCodeModel", "isWatched", "()Z"⟩, 38), (⟨"EarCodeModel", "laysWatched", "()V"⟩, 38), (⟨"EarCodeModel", "nevers", "()I"⟩, 38), (⟨"EarCodeModel", "isCode", "(I)Z"⟩, 38), (⟨"EarCodeModel", "riskOf", "(III)I"⟩, 38), (⟨"EarCodeModel", "goesRound", "()Z"⟩, 38), (⟨"EarCodeModel", "halfOfOthers", "(I)J"⟩, 38)]
theorem lw_r7 : ∀ q ∈ lw_privs_7, lw_okq q := List.forall_mem_cons.mpr ⟨lw_p96, List.forall_mem_cons.mpr ⟨lw_p97, List.forall_mem_cons.mpr ⟨lw_p98, List.forall_mem_cons.mpr ⟨lw_p99, List.forall_mem_cons.mpr ⟨lw_p100, List.forall_mem_cons.mpr ⟨lw_p101, List.forall_mem_cons.mpr ⟨lw_p102, List.forall_mem_cons.mpr ⟨lw_p103, List.forall_mem_cons.mpr ⟨lw_p104, List.forall_mem_cons.mpr ⟨lw_p105, List.forall_mem_cons.mpr ⟨lw_p106, List.forall_mem_cons.mpr ⟨lw_p107, List.forall_mem_cons.mpr ⟨lw_p108, List.forall_mem_cons.mpr ⟨lw_p109, List.forall_mem_cons.mpr ⟨lw_p110, List.forall_mem_cons.mpr ⟨lw_p111, fun _ h => absurd h List.not_mem_nil⟩⟩⟩⟩⟩⟩⟩⟩⟩⟩⟩⟩⟩⟩⟩⟩
theorem lw_p112 : lw_okq (⟨"EarCodeModel", "sumOf", "([J)I"⟩, 38) := ⟨⟨by decide +kernel, by decide +kernel⟩, List.mem_of_getElem? (i := 1479) (by decide +kernel), List.mem_of_getElem? (i := 2060) (by decide +kernel), List.mem_of_getElem? (i := 2061) (by decide +kernel)⟩
theorem lw_p113 : lw_okq (⟨"EarCodeModel", "worthiest", "(II)I"⟩, 38) := ⟨⟨by decide +kernel, by decide +kernel⟩, List.mem_of_getElem? (i := 1479) (by decide +kernel), List.mem_of_getElem? (i := 2072) (by decide +kernel), List.mem_of_getElem? (i := 2073) (by decide +kernel)⟩
theorem lw_p114 : lw_okq (⟨"EarCodeModel", "worthOf", "(II)I"⟩, 38) := ⟨⟨by decide +kernel, by decide +kernel⟩, List.mem_of_getElem? (i := 1479) (by decide +kernel), List.mem_of_getElem? (i := 2076) (by decide +kernel), List.mem_of_getElem? (i := 2077) (by decide +kernel)⟩
theorem lw_p115 : lw_okq (⟨"EarCodeModel", "keepsAll", "()V"⟩, 38) := ⟨⟨by decide +kernel, by decide +kernel⟩, List.mem_of_getElem? (i := 1479) (by decide +kernel), List.mem_of_getElem? (i := 2092) (by decide +kernel), List.mem_of_getElem? (i := 2093) (by decide +kernel)⟩
theorem lw_p116 : lw_okq (⟨"EarCodeModel", "takenNow", "()I"⟩, 38) := ⟨⟨by decide +kernel, by decide +kernel⟩, List.mem_of_getElem? (i := 1479) (by decide +kernel), List.mem_of_getElem? (i := 2096) (by decide +kernel), List.mem_of_getElem? (i := 2097) (by decide +kernel)⟩
theorem lw_p117 : lw_okq (⟨"EarCodeModel", "bringsBack", "()V"⟩, 38) := ⟨⟨by decide +kernel, by decide +kernel⟩, List.mem_of_getElem? (i := 1479) (by decide +kernel), List.mem_of_getElem? (i := 2100) (by decide +kernel), List.mem_of_getElem? (i := 2101) (by decide +kernel)⟩
theorem lw_p118 : lw_okq (⟨"EarCodeModel", "ofLog", "(II)I"⟩, 38) := ⟨⟨by decide +kernel, by decide +kernel⟩, List.mem_of_getElem? (i := 1479) (by decide +kernel), List.mem_of_getElem? (i := 2116) (by decide +kernel), List.mem_of_getElem? (i := 2117) (by decide +kernel)⟩
theorem lw_p119 : lw_okq (⟨"EarCodeModel", "takenFor", "(I)I"⟩, 38) := ⟨⟨by decide +kernel, by decide +kernel⟩, List.mem_of_getElem? (i := 1479) (by decide +kernel), List.mem_of_getElem? (i := 2124) (by decide +kernel), List.mem_of_getElem? (i := 2125) (by decide +kernel)⟩
def lw_privs_8 : List (MethodName × Nat) := [(⟨"EarCodeModel", "sumOf", "([J)I"⟩, 38), (⟨"EarCodeModel", "worthiest", "(II)I"⟩, 38), (⟨"EarCodeModel", "worthOf", "(II)I"⟩, 38), (⟨"EarCodeModel", "keepsAll", "()V"⟩, 38), (⟨"EarCodeModel", "takenNow", "()I"⟩, 38), (⟨"EarCodeModel", "bringsBack", "()V"⟩, 38), (⟨"EarCodeModel", "ofLog", "(II)I"⟩, 38), (⟨"EarCodeModel", "takenFor", "(I)I"⟩, 38)]
theorem lw_r8 : ∀ q ∈ lw_privs_8, lw_okq q := List.forall_mem_cons.mpr ⟨lw_p112, List.forall_mem_cons.mpr ⟨lw_p113, List.forall_mem_cons.mpr ⟨lw_p114, List.forall_mem_cons.mpr ⟨lw_p115, List.forall_mem_cons.mpr ⟨lw_p116, List.forall_mem_cons.mpr ⟨lw_p117, List.forall_mem_cons.mpr ⟨lw_p118, List.forall_mem_cons.mpr ⟨lw_p119, fun _ h => absurd h List.not_mem_nil⟩⟩⟩⟩⟩⟩⟩⟩
def lw_privs : List (MethodName × Nat) := lw_privs_1 ++ (lw_privs_2 ++ (lw_privs_3 ++ (lw_privs_4 ++ (lw_privs_5 ++ (lw_privs_6 ++ (lw_privs_7 ++ (lw_privs_8)))))))
def lw_tbl : List Cond := k2_sels lw_privs ++ tables_1
theorem lw_privs_ok : ∀ q ∈ lw_privs, lw_okq q := by
  show ∀ q ∈ lw_privs_1 ++ (lw_privs_2 ++ (lw_privs_3 ++ (lw_privs_4 ++ (lw_privs_5 ++ (lw_privs_6 ++ (lw_privs_7 ++ (lw_privs_8))))))), lw_okq q
  exact List.forall_mem_append.mpr ⟨lw_r1, List.forall_mem_append.mpr ⟨lw_r2, List.forall_mem_append.mpr ⟨lw_r3, List.forall_mem_append.mpr ⟨lw_r4, List.forall_mem_append.mpr ⟨lw_r5, List.forall_mem_append.mpr ⟨lw_r6, List.forall_mem_append.mpr ⟨lw_r7, lw_r8⟩⟩⟩⟩⟩⟩⟩
end
section
def RX0 : String := "EarCode$Inquiry"
def TX0 : u_T := fun k => match k with
  | 0 => ("EarCode$Inquiry", "law", "LEarCode$Law;", true)
  | 1 => ("EarCode$Inquiry", "world", "LEarCode$World;", true)
  | _ => ("EarCode$Inquiry", "others", "[I", true)
def tyX0 : Nat → FieldType := fun k => match k with
  | 0 => .object "EarCode$Law"
  | 1 => .object "EarCode$World"
  | _ => .array .int
theorem nmX0 : ∀ a, a < 3 → ∀ b, b < 3 → a ≠ b → (TX0 a).2.1 ≠ (TX0 b).2.1 := by decide +kernel
theorem tyX0_ok : ∀ k, k < 3 → parseFieldDescriptor (TX0 k).2.2.1 = some (tyX0 k) := by decide +kernel
def RX1 : String := "EarCode$Law"
def TX1 : u_T := fun k => match k with
  | 0 => ("EarCode$Law", "told", "Z", false)
  | 1 => ("EarCode$Law", "clauses", "I", false)
  | 2 => ("EarCode$Law", "always", "I", false)
  | 3 => ("EarCode$Law", "deeds", "[I", true)
  | 4 => ("EarCode$Law", "ends", "[I", true)
  | 5 => ("EarCode$Law", "steps", "[I", true)
  | 6 => ("EarCode$Law", "stepsSize", "I", false)
  | 7 => ("EarCode$Law", "terms", "[I", true)
  | _ => ("EarCode$Law", "termsSize", "I", false)
def tyX1 : Nat → FieldType := fun k => match k with
  | 0 => .boolean
  | 1 => .int
  | 2 => .int
  | 3 => .array .int
  | 4 => .array .int
  | 5 => .array .int
  | 6 => .int
  | 7 => .array .int
  | _ => .int
theorem nmX1 : ∀ a, a < 9 → ∀ b, b < 9 → a ≠ b → (TX1 a).2.1 ≠ (TX1 b).2.1 := by decide +kernel
theorem tyX1_ok : ∀ k, k < 9 → parseFieldDescriptor (TX1 k).2.2.1 = some (tyX1 k) := by decide +kernel
def RX2 : String := "EarCode$LawReader"
def TX2 : u_T := fun k => match k with
  | 0 => ("EarCode$LawReader", "text", "LEarCode$Text;", true)
  | _ => ("EarCode$LawReader", "law", "LEarCode$Law;", true)
def tyX2 : Nat → FieldType := fun k => match k with
  | 0 => .object "EarCode$Text"
  | _ => .object "EarCode$Law"
theorem nmX2 : ∀ a, a < 2 → ∀ b, b < 2 → a ≠ b → (TX2 a).2.1 ≠ (TX2 b).2.1 := by decide +kernel
theorem tyX2_ok : ∀ k, k < 2 → parseFieldDescriptor (TX2 k).2.2.1 = some (tyX2 k) := by decide +kernel
def RX3 : String := "EarCode$Log"
def TX3 : u_T := fun k => match k with
  | 0 => ("EarCode$Log", "rows", "[I", true)
  | 1 => ("EarCode$Log", "size", "I", false)
  | _ => ("EarCode$Log", "end", "I", false)
def tyX3 : Nat → FieldType := fun k => match k with
  | 0 => .array .int
  | 1 => .int
  | _ => .int
theorem nmX3 : ∀ a, a < 3 → ∀ b, b < 3 → a ≠ b → (TX3 a).2.1 ≠ (TX3 b).2.1 := by decide +kernel
theorem tyX3_ok : ∀ k, k < 3 → parseFieldDescriptor (TX3 k).2.2.1 = some (tyX3 k) := by decide +kernel
def RX4 : String := "EarCode$Memory"
def TX4 : u_T := fun k => match k with
  | 0 => ("EarCode$Memory", "worlds", "[LEarCode$World;", true)
  | 1 => ("EarCode$Memory", "end", "I", false)
  | _ => ("EarCode$Memory", "size", "I", false)
def tyX4 : Nat → FieldType := fun k => match k with
  | 0 => .array (.object "EarCode$World")
  | 1 => .int
  | _ => .int
theorem nmX4 : ∀ a, a < 3 → ∀ b, b < 3 → a ≠ b → (TX4 a).2.1 ≠ (TX4 b).2.1 := by decide +kernel
theorem tyX4_ok : ∀ k, k < 3 → parseFieldDescriptor (TX4 k).2.2.1 = some (tyX4 k) := by decide +kernel
def RX5 : String := "EarCode$Outlook"
def TX5 : u_T := fun k => match k with
  | 0 => ("EarCode$Outlook", "law", "LEarCode$Law;", true)
  | 1 => ("EarCode$Outlook", "world", "LEarCode$World;", true)
  | 2 => ("EarCode$Outlook", "forbidding", "[I", true)
  | 3 => ("EarCode$Outlook", "bestPair", "I", false)
  | _ => ("EarCode$Outlook", "bestLess", "I", false)
def tyX5 : Nat → FieldType := fun k => match k with
  | 0 => .object "EarCode$Law"
  | 1 => .object "EarCode$World"
  | 2 => .array .int
  | 3 => .int
  | _ => .int
theorem nmX5 : ∀ a, a < 5 → ∀ b, b < 5 → a ≠ b → (TX5 a).2.1 ≠ (TX5 b).2.1 := by decide +kernel
theorem tyX5_ok : ∀ k, k < 5 → parseFieldDescriptor (TX5 k).2.2.1 = some (tyX5 k) := by decide +kernel
def RX6 : String := "EarCode$Reading"
def TX6 : u_T := fun k => match k with
  | 0 => ("EarCode$Reading", "law", "LEarCode$Law;", true)
  | 1 => ("EarCode$Reading", "world", "LEarCode$World;", true)
  | 2 => ("EarCode$Reading", "needs", "[I", true)
  | 3 => ("EarCode$Reading", "needed", "I", false)
  | 4 => ("EarCode$Reading", "barred", "I", false)
  | 5 => ("EarCode$Reading", "marks", "[I", true)
  | 6 => ("EarCode$Reading", "codes", "I", false)
  | 7 => ("EarCode$Reading", "sure", "I", false)
  | _ => ("EarCode$Reading", "possible", "I", false)
def tyX6 : Nat → FieldType := fun k => match k with
  | 0 => .object "EarCode$Law"
  | 1 => .object "EarCode$World"
  | 2 => .array .int
  | 3 => .int
  | 4 => .int
  | 5 => .array .int
  | 6 => .int
  | 7 => .int
  | _ => .int
theorem nmX6 : ∀ a, a < 9 → ∀ b, b < 9 → a ≠ b → (TX6 a).2.1 ≠ (TX6 b).2.1 := by decide +kernel
theorem tyX6_ok : ∀ k, k < 9 → parseFieldDescriptor (TX6 k).2.2.1 = some (tyX6 k) := by decide +kernel
def RX7 : String := "EarCode$RepublicReader"
def TX7 : u_T := fun k => match k with
  | 0 => ("EarCode$RepublicReader", "text", "LEarCode$Text;", true)
  | 1 => ("EarCode$RepublicReader", "law", "LEarCode$Law;", true)
  | _ => ("EarCode$RepublicReader", "world", "LEarCode$World;", true)
def tyX7 : Nat → FieldType := fun k => match k with
  | 0 => .object "EarCode$Text"
  | 1 => .object "EarCode$Law"
  | _ => .object "EarCode$World"
theorem nmX7 : ∀ a, a < 3 → ∀ b, b < 3 → a ≠ b → (TX7 a).2.1 ≠ (TX7 b).2.1 := by decide +kernel
theorem tyX7_ok : ∀ k, k < 3 → parseFieldDescriptor (TX7 k).2.2.1 = some (tyX7 k) := by decide +kernel
def RX8 : String := "EarCode$Tape"
def TX8 : u_T := fun k => match k with
  | 0 => ("EarCode$Tape", "bytes", "[I", true)
  | _ => ("EarCode$Tape", "size", "I", false)
def tyX8 : Nat → FieldType := fun k => match k with
  | 0 => .array .int
  | _ => .int
theorem nmX8 : ∀ a, a < 2 → ∀ b, b < 2 → a ≠ b → (TX8 a).2.1 ≠ (TX8 b).2.1 := by decide +kernel
theorem tyX8_ok : ∀ k, k < 2 → parseFieldDescriptor (TX8 k).2.2.1 = some (tyX8 k) := by decide +kernel
def RX9 : String := "EarCode$Text"
def TX9 : u_T := fun k => match k with
  | 0 => ("EarCode$Text", "kinds", "[I", true)
  | 1 => ("EarCode$Text", "begins", "[I", true)
  | 2 => ("EarCode$Text", "sizes", "[I", true)
  | 3 => ("EarCode$Text", "values", "[I", true)
  | 4 => ("EarCode$Text", "things", "I", false)
  | _ => ("EarCode$Text", "at", "I", false)
def tyX9 : Nat → FieldType := fun k => match k with
  | 0 => .array .int
  | 1 => .array .int
  | 2 => .array .int
  | 3 => .array .int
  | 4 => .int
  | _ => .int
theorem nmX9 : ∀ a, a < 6 → ∀ b, b < 6 → a ≠ b → (TX9 a).2.1 ≠ (TX9 b).2.1 := by decide +kernel
theorem tyX9_ok : ∀ k, k < 6 → parseFieldDescriptor (TX9 k).2.2.1 = some (tyX9 k) := by decide +kernel
def RX10 : String := "EarCode$World"
def TX10 : u_T := fun k => match k with
  | 0 => ("EarCode$World", "citizens", "I", false)
  | 1 => ("EarCode$World", "living", "I", false)
  | 2 => ("EarCode$World", "knows", "[I", true)
  | 3 => ("EarCode$World", "fear", "[I", true)
  | 4 => ("EarCode$World", "taken", "[I", true)
  | 5 => ("EarCode$World", "spouse", "[I", true)
  | 6 => ("EarCode$World", "habits", "[I", true)
  | 7 => ("EarCode$World", "habitSize", "[I", true)
  | 8 => ("EarCode$World", "habitNext", "[I", true)
  | 9 => ("EarCode$World", "seen", "[J", true)
  | 10 => ("EarCode$World", "harm", "[I", true)
  | 11 => ("EarCode$World", "watch", "I", false)
  | 12 => ("EarCode$World", "term", "I", false)
  | 13 => ("EarCode$World", "day", "I", false)
  | 14 => ("EarCode$World", "seed", "I", false)
  | 15 => ("EarCode$World", "texts", "I", false)
  | 16 => ("EarCode$World", "arrests", "I", false)
  | 17 => ("EarCode$World", "harmDone", "I", false)
  | 18 => ("EarCode$World", "kept", "I", false)
  | _ => ("EarCode$World", "log", "LEarCode$Log;", true)
def tyX10 : Nat → FieldType := fun k => match k with
  | 0 => .int
  | 1 => .int
  | 2 => .array .int
  | 3 => .array .int
  | 4 => .array .int
  | 5 => .array .int
  | 6 => .array .int
  | 7 => .array .int
  | 8 => .array .int
  | 9 => .array .long
  | 10 => .array .int
  | 11 => .int
  | 12 => .int
  | 13 => .int
  | 14 => .int
  | 15 => .int
  | 16 => .int
  | 17 => .int
  | 18 => .int
  | _ => .object "EarCode$Log"
theorem nmX10 : ∀ a, a < 20 → ∀ b, b < 20 → a ≠ b → (TX10 a).2.1 ≠ (TX10 b).2.1 := by decide +kernel
theorem tyX10_ok : ∀ k, k < 20 → parseFieldDescriptor (TX10 k).2.2.1 = some (tyX10 k) := by decide +kernel
def RX11 : String := "EarCode"
def TX11 : u_T := fun k => match k with
  | 0 => ("EarCode", "tape", "LEarCode$Tape;", true)
  | 1 => ("EarCode", "text", "LEarCode$Text;", true)
  | 2 => ("EarCode", "law", "LEarCode$Law;", true)
  | 3 => ("EarCode", "newLaw", "LEarCode$Law;", true)
  | 4 => ("EarCode", "world", "LEarCode$World;", true)
  | 5 => ("EarCode", "tryout", "LEarCode$World;", true)
  | 6 => ("EarCode", "lawReader", "LEarCode$LawReader;", true)
  | 7 => ("EarCode", "republicReader", "LEarCode$RepublicReader;", true)
  | 8 => ("EarCode", "memory", "LEarCode$Memory;", true)
  | 9 => ("EarCode", "reading", "LEarCode$Reading;", true)
  | 10 => ("EarCode", "outlook", "LEarCode$Outlook;", true)
  | 11 => ("EarCode", "inquiry", "LEarCode$Inquiry;", true)
  | 12 => ("EarCode", "imageLaw", "LEarCode$Law;", true)
  | 13 => ("EarCode", "imageWorld", "LEarCode$World;", true)
  | 14 => ("EarCode", "imaged", "Z", false)
  | _ => ("EarCode", "faultAt", "I", false)
def tyX11 : Nat → FieldType := fun k => match k with
  | 0 => .object "EarCode$Tape"
  | 1 => .object "EarCode$Text"
  | 2 => .object "EarCode$Law"
  | 3 => .object "EarCode$Law"
  | 4 => .object "EarCode$World"
  | 5 => .object "EarCode$World"
  | 6 => .object "EarCode$LawReader"
  | 7 => .object "EarCode$RepublicReader"
  | 8 => .object "EarCode$Memory"
  | 9 => .object "EarCode$Reading"
  | 10 => .object "EarCode$Outlook"
  | 11 => .object "EarCode$Inquiry"
  | 12 => .object "EarCode$Law"
  | 13 => .object "EarCode$World"
  | 14 => .boolean
  | _ => .int
theorem nmX11 : ∀ a, a < 16 → ∀ b, b < 16 → a ≠ b → (TX11 a).2.1 ≠ (TX11 b).2.1 := by decide +kernel
theorem tyX11_ok : ∀ k, k < 16 → parseFieldDescriptor (TX11 k).2.2.1 = some (tyX11 k) := by decide +kernel
def RX12 : String := "EarCodeModel"
def TX12 : u_T := fun k => match k with
  | 0 => ("EarCodeModel", "thrown", "I", false)
  | 1 => ("EarCodeModel", "world", "[I", true)
  | 2 => ("EarCodeModel", "image", "[I", true)
  | 3 => ("EarCodeModel", "before", "[I", true)
  | 4 => ("EarCodeModel", "trial", "[I", true)
  | 5 => ("EarCodeModel", "acts", "[I", true)
  | 6 => ("EarCodeModel", "seen", "[J", true)
  | 7 => ("EarCodeModel", "imageSeen", "[J", true)
  | 8 => ("EarCodeModel", "beforeSeen", "[J", true)
  | 9 => ("EarCodeModel", "trialSeen", "[J", true)
  | 10 => ("EarCodeModel", "actsSeen", "[J", true)
  | 11 => ("EarCodeModel", "hasImage", "Z", false)
  | 12 => ("EarCodeModel", "remembered", "I", false)
  | 13 => ("EarCodeModel", "clauses", "[I", true)
  | 14 => ("EarCodeModel", "told", "[I", true)
  | 15 => ("EarCodeModel", "clauseCount", "I", false)
  | 16 => ("EarCodeModel", "imageCount", "I", false)
  | 17 => ("EarCodeModel", "tape", "[B", true)
  | 18 => ("EarCodeModel", "taped", "I", false)
  | 19 => ("EarCodeModel", "point", "I", false)
  | 20 => ("EarCodeModel", "end", "I", false)
  | 21 => ("EarCodeModel", "begin", "I", false)
  | 22 => ("EarCodeModel", "deep", "I", false)
  | 23 => ("EarCodeModel", "faultAt", "I", false)
  | 24 => ("EarCodeModel", "five", "[I", true)
  | 25 => ("EarCodeModel", "steps", "I", false)
  | 26 => ("EarCodeModel", "hadClauses", "[I", true)
  | 27 => ("EarCodeModel", "hadTold", "[I", true)
  | 28 => ("EarCodeModel", "value", "[I", true)
  | 29 => ("EarCodeModel", "free", "I", false)
  | 30 => ("EarCodeModel", "done", "I", false)
  | 31 => ("EarCodeModel", "against", "[I", true)
  | 32 => ("EarCodeModel", "byWhom", "[I", true)
  | 33 => ("EarCodeModel", "codesBy", "[I", true)
  | 34 => ("EarCodeModel", "forbids", "[I", true)
  | 35 => ("EarCodeModel", "usuals", "[I", true)
  | 36 => ("EarCodeModel", "fears", "[J", true)
  | _ => ("EarCodeModel", "fearsThen", "[J", true)
def tyX12 : Nat → FieldType := fun k => match k with
  | 0 => .int
  | 1 => .array .int
  | 2 => .array .int
  | 3 => .array .int
  | 4 => .array .int
  | 5 => .array .int
  | 6 => .array .long
  | 7 => .array .long
  | 8 => .array .long
  | 9 => .array .long
  | 10 => .array .long
  | 11 => .boolean
  | 12 => .int
  | 13 => .array .int
  | 14 => .array .int
  | 15 => .int
  | 16 => .int
  | 17 => .array .byte
  | 18 => .int
  | 19 => .int
  | 20 => .int
  | 21 => .int
  | 22 => .int
  | 23 => .int
  | 24 => .array .int
  | 25 => .int
  | 26 => .array .int
  | 27 => .array .int
  | 28 => .array .int
  | 29 => .int
  | 30 => .int
  | 31 => .array .int
  | 32 => .array .int
  | 33 => .array .int
  | 34 => .array .int
  | 35 => .array .int
  | 36 => .array .long
  | _ => .array .long
theorem nmX12 : ∀ a, a < 38 → ∀ b, b < 38 → a ≠ b → (TX12 a).2.1 ≠ (TX12 b).2.1 := by decide +kernel
theorem tyX12_ok : ∀ k, k < 38 → parseFieldDescriptor (TX12 k).2.2.1 = some (tyX12 k) := by decide +kernel
def tb_cl : List vw_C := [(RX0, TX0, 3), (RX1, TX1, 9), (RX2, TX2, 2), (RX3, TX3, 3), (RX4, TX4, 3), (RX5, TX5, 5), (RX6, TX6, 9), (RX7, TX7, 3), (RX8, TX8, 2), (RX9, TX9, 6), (RX10, TX10, 20), (RX11, TX11, 16), (RX12, TX12, 38)]
/-- the kinds of the fields -/
def tb_ft : List (List Nat) := [[3, 3, 3], [2, 0, 0, 3, 3, 3, 0, 3, 0], [3, 3], [3, 0, 0], [3, 0, 0], [3, 3, 3, 0, 0], [3, 3, 3, 0, 0, 3, 0, 0, 0], [3, 3, 3], [3, 0], [3, 3, 3, 3, 0, 0], [0, 0, 3, 3, 3, 3, 3, 3, 3, 3, 3, 0, 0, 0, 0, 0, 0, 0, 0, 3], [3, 3, 3, 3, 3, 3, 3, 3, 3, 3, 3, 3, 3, 3, 2, 0], [0, 3, 3, 3, 3, 3, 3, 3, 3, 3, 3, 2, 0, 3, 3, 0, 0, 3, 0, 0, 0, 0, 0, 0, 3, 0, 3, 3, 3, 0, 0, 3, 3, 3, 3, 3, 3, 3]]
end
section
/-! the instructions of each method, by number -/
def tc_0_0 : List (Nat × Instr × Nat × Nat) := [(0, .new 8, 3, 0), (3, .dup, 4, 0), (4, .invokespecial 121, 7, 0), (7, .astore_n 1, 8, 0), (8, .new 122, 11, 0), (11, .dup, 12, 0), (12, .invokespecial 124, 15, 0), (15, .astore_n 2, 16, 0), (16, .iconst (Int.ofNat 1), 17, 0), (17, .newarray .long, 19, 0), (19, .astore_n 3, 20, 0), (20, .iconst (Int.ofNat 0), 21, 0), (21, .istore 4, 23, 0), (23, .iload 4, 25, 0), (25, .aload_n 0, 26, 0), (26, .arraylength, 27, 0), (27, .bipush (Int.ofNat 6), 29, 0), (29, .isub, 30, 0), (30, .if_icmp .gt 2569, 33, 2599), (33, .aload_n 0, 34, 0), (34, .iload 4, 36, 0), (36, .iaload, 37, 0), (37, .bipush (Int.ofNat 63), 39, 0), (39, .iand, 40, 0), (40, .tableswitch 2553 0 46 #[204, 277, 302, 346, 390, 403, 471, 539, 594, 662, 742, 810, 866, 934, 990, 1046, 1102, 1115, 1128, 1184, 1240, 1253, 1309, 1365, 1433, 1501, 1569, 1653, 1709, 1765, 1821, 1863, 1919, 1932, 2016, 2084, 2164, 2232, 2316, 2329, 2385, 2398, 2466, 2491, 2504, 2515, 2528], 244, 0), (244, .aload_n 1, 245, 0), (245, .aload_n 0, 246, 0), (246, .iload 4, 248, 0), (248, .iconst (Int.ofNat 1), 249, 0), (249, .iadd, 250, 0), (250, .iaload, 251, 0), (251, .aload_n 0, 252, 0), (252, .iload 4, 254, 0), (254, .iconst (Int.ofNat 2), 255, 0), (255, .iadd, 256, 0), (256, .iaload, 257, 0), (257, .aload_n 0, 258, 0), (258, .iload 4, 260, 0), (260, .iconst (Int.ofNat 3), 261, 0), (261, .iadd, 262, 0), (262, .iaload, 263, 0), (263, .aload_n 0, 264, 0), (264, .iload 4, 266, 0), (266, .iconst (Int.ofNat 4), 267, 0), (267, .iadd, 268, 0), (268, .iaload, 269, 0), (269, .aload_n 0, 270, 0), (270, .iload 4, 272, 0), (272, .iconst (Int.ofNat 5), 273, 0), (273, .iadd, 274, 0), (274, .iaload, 275, 0), (275, .invokevirtual 125, 278, 0), (278, .aload_n 2, 279, 0), (279, .aload_n 0, 280, 0), (280, .iload 4, 282, 0), (282, .iconst (Int.ofNat 1), 283, 0), (283, .iadd, 284, 0), (284, .iaload, 285, 0), (285, .aload_n 0, 286, 0), (286, .iload 4, 288, 0)]
def tc_0_1 : List (Nat × Instr × Nat × Nat) := [(288, .iconst (Int.ofNat 2), 289, 0), (289, .iadd, 290, 0), (290, .iaload, 291, 0), (291, .aload_n 0, 292, 0), (292, .iload 4, 294, 0), (294, .iconst (Int.ofNat 3), 295, 0), (295, .iadd, 296, 0), (296, .iaload, 297, 0), (297, .aload_n 0, 298, 0), (298, .iload 4, 300, 0), (300, .iconst (Int.ofNat 4), 301, 0), (301, .iadd, 302, 0), (302, .iaload, 303, 0), (303, .aload_n 0, 304, 0), (304, .iload 4, 306, 0), (306, .iconst (Int.ofNat 5), 307, 0), (307, .iadd, 308, 0), (308, .iaload, 309, 0), (309, .invokevirtual 129, 312, 0), (312, .if_icmp .eq 2281, 315, 2593), (315, .iconst (Int.ofNat 0), 316, 0), (316, .ireturn, 317, 0), (317, .aload_n 1, 318, 0), (318, .aload_n 0, 319, 0), (319, .iload 4, 321, 0), (321, .iconst (Int.ofNat 1), 322, 0), (322, .iadd, 323, 0), (323, .iaload, 324, 0), (324, .invokevirtual 130, 327, 0), (327, .aload_n 2, 328, 0), (328, .aload_n 0, 329, 0), (329, .iload 4, 331, 0), (331, .iconst (Int.ofNat 1), 332, 0), (332, .iadd, 333, 0), (333, .iaload, 334, 0), (334, .invokevirtual 134, 337, 0), (337, .if_icmp .eq 2256, 340, 2593), (340, .iconst (Int.ofNat 0), 341, 0), (341, .ireturn, 342, 0), (342, .aload_n 1, 343, 0), (343, .aload_n 3, 344, 0), (344, .invokestatic 135, 347, 0), (347, .istore 5, 349, 0), (349, .aload_n 2, 350, 0), (350, .invokevirtual 140, 353, 0), (353, .istore 6, 355, 0), (355, .aload_n 2, 356, 0), (356, .invokevirtual 141, 359, 0), (359, .iload 5, 361, 0), (361, .if_icmp .eq 5, 364, 366), (364, .iconst (Int.ofNat 0), 365, 0), (365, .ireturn, 366, 0), (366, .iload 5, 368, 0), (368, .ifCond .ne 15, 371, 383), (371, .aload_n 3, 372, 0), (372, .iconst (Int.ofNat 0), 373, 0), (373, .laload, 374, 0), (374, .iload 6, 376, 0), (376, .i2l, 377, 0), (377, .lcmp, 378, 0)]
def tc_0_2 : List (Nat × Instr × Nat × Nat) := [(378, .ifCond .eq 5, 381, 383), (381, .iconst (Int.ofNat 0), 382, 0), (382, .ireturn, 383, 0), (383, .goto 2210, 386, 2593), (386, .aload_n 1, 387, 0), (387, .aload_n 3, 388, 0), (388, .invokestatic 144, 391, 0), (391, .istore 5, 393, 0), (393, .aload_n 2, 394, 0), (394, .invokevirtual 146, 397, 0), (397, .istore 6, 399, 0), (399, .aload_n 2, 400, 0), (400, .invokevirtual 141, 403, 0), (403, .iload 5, 405, 0), (405, .if_icmp .eq 5, 408, 410), (408, .iconst (Int.ofNat 0), 409, 0), (409, .ireturn, 410, 0), (410, .iload 5, 412, 0), (412, .ifCond .ne 15, 415, 427), (415, .aload_n 3, 416, 0), (416, .iconst (Int.ofNat 0), 417, 0), (417, .laload, 418, 0), (418, .iload 6, 420, 0), (420, .i2l, 421, 0), (421, .lcmp, 422, 0), (422, .ifCond .eq 5, 425, 427), (425, .iconst (Int.ofNat 0), 426, 0), (426, .ireturn, 427, 0), (427, .goto 2166, 430, 2593), (430, .aload_n 1, 431, 0), (431, .invokevirtual 147, 434, 0), (434, .aload_n 2, 435, 0), (435, .invokevirtual 150, 438, 0), (438, .if_icmp .eq 2155, 441, 2593), (441, .iconst (Int.ofNat 0), 442, 0), (442, .ireturn, 443, 0), (443, .aload_n 1, 444, 0), (444, .aload_n 0, 445, 0), (445, .iload 4, 447, 0), (447, .iconst (Int.ofNat 1), 448, 0), (448, .iadd, 449, 0), (449, .iaload, 450, 0), (450, .aload_n 0, 451, 0), (451, .iload 4, 453, 0), (453, .iconst (Int.ofNat 2), 454, 0), (454, .iadd, 455, 0), (455, .iaload, 456, 0), (456, .aload_n 3, 457, 0), (457, .invokestatic 151, 460, 0), (460, .istore 5, 462, 0), (462, .aload_n 2, 463, 0), (463, .aload_n 0, 464, 0), (464, .iload 4, 466, 0), (466, .iconst (Int.ofNat 1), 467, 0), (467, .iadd, 468, 0), (468, .iaload, 469, 0), (469, .aload_n 0, 470, 0), (470, .iload 4, 472, 0), (472, .iconst (Int.ofNat 2), 473, 0), (473, .iadd, 474, 0)]
def tc_0_3 : List (Nat × Instr × Nat × Nat) := [(474, .iaload, 475, 0), (475, .invokevirtual 154, 478, 0), (478, .istore 6, 480, 0), (480, .aload_n 2, 481, 0), (481, .invokevirtual 141, 484, 0), (484, .iload 5, 486, 0), (486, .if_icmp .eq 5, 489, 491), (489, .iconst (Int.ofNat 0), 490, 0), (490, .ireturn, 491, 0), (491, .iload 5, 493, 0), (493, .ifCond .ne 15, 496, 508), (496, .aload_n 3, 497, 0), (497, .iconst (Int.ofNat 0), 498, 0), (498, .laload, 499, 0), (499, .iload 6, 501, 0), (501, .i2l, 502, 0), (502, .lcmp, 503, 0), (503, .ifCond .eq 5, 506, 508), (506, .iconst (Int.ofNat 0), 507, 0), (507, .ireturn, 508, 0), (508, .goto 2085, 511, 2593), (511, .aload_n 1, 512, 0), (512, .aload_n 0, 513, 0), (513, .iload 4, 515, 0), (515, .iconst (Int.ofNat 1), 516, 0), (516, .iadd, 517, 0), (517, .iaload, 518, 0), (518, .aload_n 0, 519, 0), (519, .iload 4, 521, 0), (521, .iconst (Int.ofNat 2), 522, 0), (522, .iadd, 523, 0), (523, .iaload, 524, 0), (524, .aload_n 3, 525, 0), (525, .invokestatic 155, 528, 0), (528, .istore 5, 530, 0), (530, .aload_n 2, 531, 0), (531, .aload_n 0, 532, 0), (532, .iload 4, 534, 0), (534, .iconst (Int.ofNat 1), 535, 0), (535, .iadd, 536, 0), (536, .iaload, 537, 0), (537, .aload_n 0, 538, 0), (538, .iload 4, 540, 0), (540, .iconst (Int.ofNat 2), 541, 0), (541, .iadd, 542, 0), (542, .iaload, 543, 0), (543, .invokevirtual 157, 546, 0), (546, .istore 6, 548, 0), (548, .aload_n 2, 549, 0), (549, .invokevirtual 141, 552, 0), (552, .iload 5, 554, 0), (554, .if_icmp .eq 5, 557, 559), (557, .iconst (Int.ofNat 0), 558, 0), (558, .ireturn, 559, 0), (559, .iload 5, 561, 0), (561, .ifCond .ne 15, 564, 576), (564, .aload_n 3, 565, 0), (565, .iconst (Int.ofNat 0), 566, 0), (566, .laload, 567, 0), (567, .iload 6, 569, 0)]
def tc_0_4 : List (Nat × Instr × Nat × Nat) := [(569, .i2l, 570, 0), (570, .lcmp, 571, 0), (571, .ifCond .eq 5, 574, 576), (574, .iconst (Int.ofNat 0), 575, 0), (575, .ireturn, 576, 0), (576, .goto 2017, 579, 2593), (579, .aload_n 1, 580, 0), (580, .aload_n 0, 581, 0), (581, .iload 4, 583, 0), (583, .iconst (Int.ofNat 1), 584, 0), (584, .iadd, 585, 0), (585, .iaload, 586, 0), (586, .aload_n 3, 587, 0), (587, .invokestatic 158, 590, 0), (590, .istore 5, 592, 0), (592, .aload_n 2, 593, 0), (593, .aload_n 0, 594, 0), (594, .iload 4, 596, 0), (596, .iconst (Int.ofNat 1), 597, 0), (597, .iadd, 598, 0), (598, .iaload, 599, 0), (599, .invokevirtual 161, 602, 0), (602, .lstore 6, 604, 0), (604, .aload_n 2, 605, 0), (605, .invokevirtual 141, 608, 0), (608, .iload 5, 610, 0), (610, .if_icmp .eq 5, 613, 615), (613, .iconst (Int.ofNat 0), 614, 0), (614, .ireturn, 615, 0), (615, .iload 5, 617, 0), (617, .ifCond .ne 14, 620, 631), (620, .aload_n 3, 621, 0), (621, .iconst (Int.ofNat 0), 622, 0), (622, .laload, 623, 0), (623, .lload 6, 625, 0), (625, .lcmp, 626, 0), (626, .ifCond .eq 5, 629, 631), (629, .iconst (Int.ofNat 0), 630, 0), (630, .ireturn, 631, 0), (631, .goto 1962, 634, 2593), (634, .aload_n 1, 635, 0), (635, .aload_n 0, 636, 0), (636, .iload 4, 638, 0), (638, .iconst (Int.ofNat 1), 639, 0), (639, .iadd, 640, 0), (640, .iaload, 641, 0), (641, .aload_n 0, 642, 0), (642, .iload 4, 644, 0), (644, .iconst (Int.ofNat 2), 645, 0), (645, .iadd, 646, 0), (646, .iaload, 647, 0), (647, .aload_n 3, 648, 0), (648, .invokestatic 162, 651, 0), (651, .istore 5, 653, 0), (653, .aload_n 2, 654, 0), (654, .aload_n 0, 655, 0), (655, .iload 4, 657, 0), (657, .iconst (Int.ofNat 1), 658, 0), (658, .iadd, 659, 0), (659, .iaload, 660, 0)]
def tc_0_5 : List (Nat × Instr × Nat × Nat) := [(660, .aload_n 0, 661, 0), (661, .iload 4, 663, 0), (663, .iconst (Int.ofNat 2), 664, 0), (664, .iadd, 665, 0), (665, .iaload, 666, 0), (666, .invokevirtual 164, 669, 0), (669, .istore 6, 671, 0), (671, .aload_n 2, 672, 0), (672, .invokevirtual 141, 675, 0), (675, .iload 5, 677, 0), (677, .if_icmp .eq 5, 680, 682), (680, .iconst (Int.ofNat 0), 681, 0), (681, .ireturn, 682, 0), (682, .iload 5, 684, 0), (684, .ifCond .ne 15, 687, 699), (687, .aload_n 3, 688, 0), (688, .iconst (Int.ofNat 0), 689, 0), (689, .laload, 690, 0), (690, .iload 6, 692, 0), (692, .i2l, 693, 0), (693, .lcmp, 694, 0), (694, .ifCond .eq 5, 697, 699), (697, .iconst (Int.ofNat 0), 698, 0), (698, .ireturn, 699, 0), (699, .goto 1894, 702, 2593), (702, .aload_n 1, 703, 0), (703, .aload_n 0, 704, 0), (704, .iload 4, 706, 0), (706, .iconst (Int.ofNat 1), 707, 0), (707, .iadd, 708, 0), (708, .iaload, 709, 0), (709, .aload_n 0, 710, 0), (710, .iload 4, 712, 0), (712, .iconst (Int.ofNat 2), 713, 0), (713, .iadd, 714, 0), (714, .iaload, 715, 0), (715, .aload_n 0, 716, 0), (716, .iload 4, 718, 0), (718, .iconst (Int.ofNat 3), 719, 0), (719, .iadd, 720, 0), (720, .iaload, 721, 0), (721, .aload_n 3, 722, 0), (722, .invokestatic 165, 725, 0), (725, .istore 5, 727, 0), (727, .aload_n 2, 728, 0), (728, .aload_n 0, 729, 0), (729, .iload 4, 731, 0), (731, .iconst (Int.ofNat 1), 732, 0), (732, .iadd, 733, 0), (733, .iaload, 734, 0), (734, .aload_n 0, 735, 0), (735, .iload 4, 737, 0), (737, .iconst (Int.ofNat 2), 738, 0), (738, .iadd, 739, 0), (739, .iaload, 740, 0), (740, .aload_n 0, 741, 0), (741, .iload 4, 743, 0), (743, .iconst (Int.ofNat 3), 744, 0), (744, .iadd, 745, 0), (745, .iaload, 746, 0)]
def tc_0_6 : List (Nat × Instr × Nat × Nat) := [(746, .invokevirtual 168, 749, 0), (749, .istore 6, 751, 0), (751, .aload_n 2, 752, 0), (752, .invokevirtual 141, 755, 0), (755, .iload 5, 757, 0), (757, .if_icmp .eq 5, 760, 762), (760, .iconst (Int.ofNat 0), 761, 0), (761, .ireturn, 762, 0), (762, .iload 5, 764, 0), (764, .ifCond .ne 15, 767, 779), (767, .aload_n 3, 768, 0), (768, .iconst (Int.ofNat 0), 769, 0), (769, .laload, 770, 0), (770, .iload 6, 772, 0), (772, .i2l, 773, 0), (773, .lcmp, 774, 0), (774, .ifCond .eq 5, 777, 779), (777, .iconst (Int.ofNat 0), 778, 0), (778, .ireturn, 779, 0), (779, .goto 1814, 782, 2593), (782, .aload_n 1, 783, 0), (783, .aload_n 0, 784, 0), (784, .iload 4, 786, 0), (786, .iconst (Int.ofNat 1), 787, 0), (787, .iadd, 788, 0), (788, .iaload, 789, 0), (789, .aload_n 0, 790, 0), (790, .iload 4, 792, 0), (792, .iconst (Int.ofNat 2), 793, 0), (793, .iadd, 794, 0), (794, .iaload, 795, 0), (795, .aload_n 3, 796, 0), (796, .invokestatic 169, 799, 0), (799, .istore 5, 801, 0), (801, .aload_n 2, 802, 0), (802, .aload_n 0, 803, 0), (803, .iload 4, 805, 0), (805, .iconst (Int.ofNat 1), 806, 0), (806, .iadd, 807, 0), (807, .iaload, 808, 0), (808, .aload_n 0, 809, 0), (809, .iload 4, 811, 0), (811, .iconst (Int.ofNat 2), 812, 0), (812, .iadd, 813, 0), (813, .iaload, 814, 0), (814, .invokevirtual 171, 817, 0), (817, .istore 6, 819, 0), (819, .aload_n 2, 820, 0), (820, .invokevirtual 141, 823, 0), (823, .iload 5, 825, 0), (825, .if_icmp .eq 5, 828, 830), (828, .iconst (Int.ofNat 0), 829, 0), (829, .ireturn, 830, 0), (830, .iload 5, 832, 0), (832, .ifCond .ne 15, 835, 847), (835, .aload_n 3, 836, 0), (836, .iconst (Int.ofNat 0), 837, 0), (837, .laload, 838, 0), (838, .iload 6, 840, 0), (840, .i2l, 841, 0)]
def tc_0_7 : List (Nat × Instr × Nat × Nat) := [(841, .lcmp, 842, 0), (842, .ifCond .eq 5, 845, 847), (845, .iconst (Int.ofNat 0), 846, 0), (846, .ireturn, 847, 0), (847, .goto 1746, 850, 2593), (850, .aload_n 1, 851, 0), (851, .aload_n 0, 852, 0), (852, .iload 4, 854, 0), (854, .iconst (Int.ofNat 1), 855, 0), (855, .iadd, 856, 0), (856, .iaload, 857, 0), (857, .aload_n 3, 858, 0), (858, .invokestatic 172, 861, 0), (861, .istore 5, 863, 0), (863, .aload_n 2, 864, 0), (864, .aload_n 0, 865, 0), (865, .iload 4, 867, 0), (867, .iconst (Int.ofNat 1), 868, 0), (868, .iadd, 869, 0), (869, .iaload, 870, 0), (870, .invokevirtual 174, 873, 0), (873, .istore 6, 875, 0), (875, .aload_n 2, 876, 0), (876, .invokevirtual 141, 879, 0), (879, .iload 5, 881, 0), (881, .if_icmp .eq 5, 884, 886), (884, .iconst (Int.ofNat 0), 885, 0), (885, .ireturn, 886, 0), (886, .iload 5, 888, 0), (888, .ifCond .ne 15, 891, 903), (891, .aload_n 3, 892, 0), (892, .iconst (Int.ofNat 0), 893, 0), (893, .laload, 894, 0), (894, .iload 6, 896, 0), (896, .i2l, 897, 0), (897, .lcmp, 898, 0), (898, .ifCond .eq 5, 901, 903), (901, .iconst (Int.ofNat 0), 902, 0), (902, .ireturn, 903, 0), (903, .goto 1690, 906, 2593), (906, .aload_n 1, 907, 0), (907, .aload_n 0, 908, 0), (908, .iload 4, 910, 0), (910, .iconst (Int.ofNat 1), 911, 0), (911, .iadd, 912, 0), (912, .iaload, 913, 0), (913, .aload_n 0, 914, 0), (914, .iload 4, 916, 0), (916, .iconst (Int.ofNat 2), 917, 0), (917, .iadd, 918, 0), (918, .iaload, 919, 0), (919, .aload_n 3, 920, 0), (920, .invokestatic 175, 923, 0), (923, .istore 5, 925, 0), (925, .aload_n 2, 926, 0), (926, .aload_n 0, 927, 0), (927, .iload 4, 929, 0), (929, .iconst (Int.ofNat 1), 930, 0), (930, .iadd, 931, 0), (931, .iaload, 932, 0)]
def tc_0_8 : List (Nat × Instr × Nat × Nat) := [(932, .aload_n 0, 933, 0), (933, .iload 4, 935, 0), (935, .iconst (Int.ofNat 2), 936, 0), (936, .iadd, 937, 0), (937, .iaload, 938, 0), (938, .invokevirtual 177, 941, 0), (941, .istore 6, 943, 0), (943, .aload_n 2, 944, 0), (944, .invokevirtual 141, 947, 0), (947, .iload 5, 949, 0), (949, .if_icmp .eq 5, 952, 954), (952, .iconst (Int.ofNat 0), 953, 0), (953, .ireturn, 954, 0), (954, .iload 5, 956, 0), (956, .ifCond .ne 15, 959, 971), (959, .aload_n 3, 960, 0), (960, .iconst (Int.ofNat 0), 961, 0), (961, .laload, 962, 0), (962, .iload 6, 964, 0), (964, .i2l, 965, 0), (965, .lcmp, 966, 0), (966, .ifCond .eq 5, 969, 971), (969, .iconst (Int.ofNat 0), 970, 0), (970, .ireturn, 971, 0), (971, .goto 1622, 974, 2593), (974, .aload_n 1, 975, 0), (975, .aload_n 0, 976, 0), (976, .iload 4, 978, 0), (978, .iconst (Int.ofNat 1), 979, 0), (979, .iadd, 980, 0), (980, .iaload, 981, 0), (981, .aload_n 3, 982, 0), (982, .invokestatic 178, 985, 0), (985, .istore 5, 987, 0), (987, .aload_n 2, 988, 0), (988, .aload_n 0, 989, 0), (989, .iload 4, 991, 0), (991, .iconst (Int.ofNat 1), 992, 0), (992, .iadd, 993, 0), (993, .iaload, 994, 0), (994, .invokevirtual 180, 997, 0), (997, .istore 6, 999, 0), (999, .aload_n 2, 1000, 0), (1000, .invokevirtual 141, 1003, 0), (1003, .iload 5, 1005, 0), (1005, .if_icmp .eq 5, 1008, 1010), (1008, .iconst (Int.ofNat 0), 1009, 0), (1009, .ireturn, 1010, 0), (1010, .iload 5, 1012, 0), (1012, .ifCond .ne 15, 1015, 1027), (1015, .aload_n 3, 1016, 0), (1016, .iconst (Int.ofNat 0), 1017, 0), (1017, .laload, 1018, 0), (1018, .iload 6, 1020, 0), (1020, .i2l, 1021, 0), (1021, .lcmp, 1022, 0), (1022, .ifCond .eq 5, 1025, 1027), (1025, .iconst (Int.ofNat 0), 1026, 0), (1026, .ireturn, 1027, 0), (1027, .goto 1566, 1030, 2593)]
def tc_0_9 : List (Nat × Instr × Nat × Nat) := [(1030, .aload_n 1, 1031, 0), (1031, .aload_n 0, 1032, 0), (1032, .iload 4, 1034, 0), (1034, .iconst (Int.ofNat 1), 1035, 0), (1035, .iadd, 1036, 0), (1036, .iaload, 1037, 0), (1037, .aload_n 3, 1038, 0), (1038, .invokestatic 181, 1041, 0), (1041, .istore 5, 1043, 0), (1043, .aload_n 2, 1044, 0), (1044, .aload_n 0, 1045, 0), (1045, .iload 4, 1047, 0), (1047, .iconst (Int.ofNat 1), 1048, 0), (1048, .iadd, 1049, 0), (1049, .iaload, 1050, 0), (1050, .invokevirtual 183, 1053, 0), (1053, .istore 6, 1055, 0), (1055, .aload_n 2, 1056, 0), (1056, .invokevirtual 141, 1059, 0), (1059, .iload 5, 1061, 0), (1061, .if_icmp .eq 5, 1064, 1066), (1064, .iconst (Int.ofNat 0), 1065, 0), (1065, .ireturn, 1066, 0), (1066, .iload 5, 1068, 0), (1068, .ifCond .ne 15, 1071, 1083), (1071, .aload_n 3, 1072, 0), (1072, .iconst (Int.ofNat 0), 1073, 0), (1073, .laload, 1074, 0), (1074, .iload 6, 1076, 0), (1076, .i2l, 1077, 0), (1077, .lcmp, 1078, 0), (1078, .ifCond .eq 5, 1081, 1083), (1081, .iconst (Int.ofNat 0), 1082, 0), (1082, .ireturn, 1083, 0), (1083, .goto 1510, 1086, 2593), (1086, .aload_n 1, 1087, 0), (1087, .aload_n 0, 1088, 0), (1088, .iload 4, 1090, 0), (1090, .iconst (Int.ofNat 1), 1091, 0), (1091, .iadd, 1092, 0), (1092, .iaload, 1093, 0), (1093, .aload_n 3, 1094, 0), (1094, .invokestatic 184, 1097, 0), (1097, .istore 5, 1099, 0), (1099, .aload_n 2, 1100, 0), (1100, .aload_n 0, 1101, 0), (1101, .iload 4, 1103, 0), (1103, .iconst (Int.ofNat 1), 1104, 0), (1104, .iadd, 1105, 0), (1105, .iaload, 1106, 0), (1106, .invokevirtual 186, 1109, 0), (1109, .istore 6, 1111, 0), (1111, .aload_n 2, 1112, 0), (1112, .invokevirtual 141, 1115, 0), (1115, .iload 5, 1117, 0), (1117, .if_icmp .eq 5, 1120, 1122), (1120, .iconst (Int.ofNat 0), 1121, 0), (1121, .ireturn, 1122, 0), (1122, .iload 5, 1124, 0), (1124, .ifCond .ne 15, 1127, 1139)]
def tc_0_10 : List (Nat × Instr × Nat × Nat) := [(1127, .aload_n 3, 1128, 0), (1128, .iconst (Int.ofNat 0), 1129, 0), (1129, .laload, 1130, 0), (1130, .iload 6, 1132, 0), (1132, .i2l, 1133, 0), (1133, .lcmp, 1134, 0), (1134, .ifCond .eq 5, 1137, 1139), (1137, .iconst (Int.ofNat 0), 1138, 0), (1138, .ireturn, 1139, 0), (1139, .goto 1454, 1142, 2593), (1142, .aload_n 1, 1143, 0), (1143, .invokevirtual 187, 1146, 0), (1146, .aload_n 2, 1147, 0), (1147, .invokevirtual 190, 1150, 0), (1150, .if_icmp .eq 1443, 1153, 2593), (1153, .iconst (Int.ofNat 0), 1154, 0), (1154, .ireturn, 1155, 0), (1155, .aload_n 1, 1156, 0), (1156, .invokevirtual 191, 1159, 0), (1159, .aload_n 2, 1160, 0), (1160, .invokevirtual 194, 1163, 0), (1163, .if_icmp .eq 1430, 1166, 2593), (1166, .iconst (Int.ofNat 0), 1167, 0), (1167, .ireturn, 1168, 0), (1168, .aload_n 1, 1169, 0), (1169, .aload_n 0, 1170, 0), (1170, .iload 4, 1172, 0), (1172, .iconst (Int.ofNat 1), 1173, 0), (1173, .iadd, 1174, 0), (1174, .iaload, 1175, 0), (1175, .aload_n 3, 1176, 0), (1176, .invokestatic 195, 1179, 0), (1179, .istore 5, 1181, 0), (1181, .aload_n 2, 1182, 0), (1182, .aload_n 0, 1183, 0), (1183, .iload 4, 1185, 0), (1185, .iconst (Int.ofNat 1), 1186, 0), (1186, .iadd, 1187, 0), (1187, .iaload, 1188, 0), (1188, .invokevirtual 197, 1191, 0), (1191, .istore 6, 1193, 0), (1193, .aload_n 2, 1194, 0), (1194, .invokevirtual 141, 1197, 0), (1197, .iload 5, 1199, 0), (1199, .if_icmp .eq 5, 1202, 1204), (1202, .iconst (Int.ofNat 0), 1203, 0), (1203, .ireturn, 1204, 0), (1204, .iload 5, 1206, 0), (1206, .ifCond .ne 15, 1209, 1221), (1209, .aload_n 3, 1210, 0), (1210, .iconst (Int.ofNat 0), 1211, 0), (1211, .laload, 1212, 0), (1212, .iload 6, 1214, 0), (1214, .i2l, 1215, 0), (1215, .lcmp, 1216, 0), (1216, .ifCond .eq 5, 1219, 1221), (1219, .iconst (Int.ofNat 0), 1220, 0), (1220, .ireturn, 1221, 0), (1221, .goto 1372, 1224, 2593), (1224, .aload_n 1, 1225, 0)]
def tc_0_11 : List (Nat × Instr × Nat × Nat) := [(1225, .aload_n 0, 1226, 0), (1226, .iload 4, 1228, 0), (1228, .iconst (Int.ofNat 1), 1229, 0), (1229, .iadd, 1230, 0), (1230, .iaload, 1231, 0), (1231, .aload_n 3, 1232, 0), (1232, .invokestatic 198, 1235, 0), (1235, .istore 5, 1237, 0), (1237, .aload_n 2, 1238, 0), (1238, .aload_n 0, 1239, 0), (1239, .iload 4, 1241, 0), (1241, .iconst (Int.ofNat 1), 1242, 0), (1242, .iadd, 1243, 0), (1243, .iaload, 1244, 0), (1244, .invokevirtual 200, 1247, 0), (1247, .istore 6, 1249, 0), (1249, .aload_n 2, 1250, 0), (1250, .invokevirtual 141, 1253, 0), (1253, .iload 5, 1255, 0), (1255, .if_icmp .eq 5, 1258, 1260), (1258, .iconst (Int.ofNat 0), 1259, 0), (1259, .ireturn, 1260, 0), (1260, .iload 5, 1262, 0), (1262, .ifCond .ne 15, 1265, 1277), (1265, .aload_n 3, 1266, 0), (1266, .iconst (Int.ofNat 0), 1267, 0), (1267, .laload, 1268, 0), (1268, .iload 6, 1270, 0), (1270, .i2l, 1271, 0), (1271, .lcmp, 1272, 0), (1272, .ifCond .eq 5, 1275, 1277), (1275, .iconst (Int.ofNat 0), 1276, 0), (1276, .ireturn, 1277, 0), (1277, .goto 1316, 1280, 2593), (1280, .aload_n 1, 1281, 0), (1281, .invokevirtual 201, 1284, 0), (1284, .aload_n 2, 1285, 0), (1285, .invokevirtual 204, 1288, 0), (1288, .if_icmp .eq 1305, 1291, 2593), (1291, .iconst (Int.ofNat 0), 1292, 0), (1292, .ireturn, 1293, 0), (1293, .aload_n 1, 1294, 0), (1294, .aload_n 0, 1295, 0), (1295, .iload 4, 1297, 0), (1297, .iconst (Int.ofNat 1), 1298, 0), (1298, .iadd, 1299, 0), (1299, .iaload, 1300, 0), (1300, .aload_n 3, 1301, 0), (1301, .invokestatic 205, 1304, 0), (1304, .istore 5, 1306, 0), (1306, .aload_n 2, 1307, 0), (1307, .aload_n 0, 1308, 0), (1308, .iload 4, 1310, 0), (1310, .iconst (Int.ofNat 1), 1311, 0), (1311, .iadd, 1312, 0), (1312, .iaload, 1313, 0), (1313, .invokevirtual 207, 1316, 0), (1316, .istore 6, 1318, 0), (1318, .aload_n 2, 1319, 0), (1319, .invokevirtual 141, 1322, 0)]
def tc_0_12 : List (Nat × Instr × Nat × Nat) := [(1322, .iload 5, 1324, 0), (1324, .if_icmp .eq 5, 1327, 1329), (1327, .iconst (Int.ofNat 0), 1328, 0), (1328, .ireturn, 1329, 0), (1329, .iload 5, 1331, 0), (1331, .ifCond .ne 15, 1334, 1346), (1334, .aload_n 3, 1335, 0), (1335, .iconst (Int.ofNat 0), 1336, 0), (1336, .laload, 1337, 0), (1337, .iload 6, 1339, 0), (1339, .i2l, 1340, 0), (1340, .lcmp, 1341, 0), (1341, .ifCond .eq 5, 1344, 1346), (1344, .iconst (Int.ofNat 0), 1345, 0), (1345, .ireturn, 1346, 0), (1346, .goto 1247, 1349, 2593), (1349, .aload_n 1, 1350, 0), (1350, .aload_n 0, 1351, 0), (1351, .iload 4, 1353, 0), (1353, .iconst (Int.ofNat 1), 1354, 0), (1354, .iadd, 1355, 0), (1355, .iaload, 1356, 0), (1356, .aload_n 3, 1357, 0), (1357, .invokestatic 208, 1360, 0), (1360, .istore 5, 1362, 0), (1362, .aload_n 2, 1363, 0), (1363, .aload_n 0, 1364, 0), (1364, .iload 4, 1366, 0), (1366, .iconst (Int.ofNat 1), 1367, 0), (1367, .iadd, 1368, 0), (1368, .iaload, 1369, 0), (1369, .invokevirtual 210, 1372, 0), (1372, .istore 6, 1374, 0), (1374, .aload_n 2, 1375, 0), (1375, .invokevirtual 141, 1378, 0), (1378, .iload 5, 1380, 0), (1380, .if_icmp .eq 5, 1383, 1385), (1383, .iconst (Int.ofNat 0), 1384, 0), (1384, .ireturn, 1385, 0), (1385, .iload 5, 1387, 0), (1387, .ifCond .ne 15, 1390, 1402), (1390, .aload_n 3, 1391, 0), (1391, .iconst (Int.ofNat 0), 1392, 0), (1392, .laload, 1393, 0), (1393, .iload 6, 1395, 0), (1395, .i2l, 1396, 0), (1396, .lcmp, 1397, 0), (1397, .ifCond .eq 5, 1400, 1402), (1400, .iconst (Int.ofNat 0), 1401, 0), (1401, .ireturn, 1402, 0), (1402, .goto 1191, 1405, 2593), (1405, .aload_n 1, 1406, 0), (1406, .aload_n 0, 1407, 0), (1407, .iload 4, 1409, 0), (1409, .iconst (Int.ofNat 1), 1410, 0), (1410, .iadd, 1411, 0), (1411, .iaload, 1412, 0), (1412, .aload_n 0, 1413, 0), (1413, .iload 4, 1415, 0), (1415, .iconst (Int.ofNat 2), 1416, 0)]
def tc_0_13 : List (Nat × Instr × Nat × Nat) := [(1416, .iadd, 1417, 0), (1417, .iaload, 1418, 0), (1418, .aload_n 3, 1419, 0), (1419, .invokestatic 211, 1422, 0), (1422, .istore 5, 1424, 0), (1424, .aload_n 2, 1425, 0), (1425, .aload_n 0, 1426, 0), (1426, .iload 4, 1428, 0), (1428, .iconst (Int.ofNat 1), 1429, 0), (1429, .iadd, 1430, 0), (1430, .iaload, 1431, 0), (1431, .aload_n 0, 1432, 0), (1432, .iload 4, 1434, 0), (1434, .iconst (Int.ofNat 2), 1435, 0), (1435, .iadd, 1436, 0), (1436, .iaload, 1437, 0), (1437, .invokevirtual 213, 1440, 0), (1440, .istore 6, 1442, 0), (1442, .aload_n 2, 1443, 0), (1443, .invokevirtual 141, 1446, 0), (1446, .iload 5, 1448, 0), (1448, .if_icmp .eq 5, 1451, 1453), (1451, .iconst (Int.ofNat 0), 1452, 0), (1452, .ireturn, 1453, 0), (1453, .iload 5, 1455, 0), (1455, .ifCond .ne 15, 1458, 1470), (1458, .aload_n 3, 1459, 0), (1459, .iconst (Int.ofNat 0), 1460, 0), (1460, .laload, 1461, 0), (1461, .iload 6, 1463, 0), (1463, .i2l, 1464, 0), (1464, .lcmp, 1465, 0), (1465, .ifCond .eq 5, 1468, 1470), (1468, .iconst (Int.ofNat 0), 1469, 0), (1469, .ireturn, 1470, 0), (1470, .goto 1123, 1473, 2593), (1473, .aload_n 1, 1474, 0), (1474, .aload_n 0, 1475, 0), (1475, .iload 4, 1477, 0), (1477, .iconst (Int.ofNat 1), 1478, 0), (1478, .iadd, 1479, 0), (1479, .iaload, 1480, 0), (1480, .aload_n 0, 1481, 0), (1481, .iload 4, 1483, 0), (1483, .iconst (Int.ofNat 2), 1484, 0), (1484, .iadd, 1485, 0), (1485, .iaload, 1486, 0), (1486, .aload_n 3, 1487, 0), (1487, .invokestatic 214, 1490, 0), (1490, .istore 5, 1492, 0), (1492, .aload_n 2, 1493, 0), (1493, .aload_n 0, 1494, 0), (1494, .iload 4, 1496, 0), (1496, .iconst (Int.ofNat 1), 1497, 0), (1497, .iadd, 1498, 0), (1498, .iaload, 1499, 0), (1499, .aload_n 0, 1500, 0), (1500, .iload 4, 1502, 0), (1502, .iconst (Int.ofNat 2), 1503, 0), (1503, .iadd, 1504, 0)]
def tc_0_14 : List (Nat × Instr × Nat × Nat) := [(1504, .iaload, 1505, 0), (1505, .invokevirtual 216, 1508, 0), (1508, .istore 6, 1510, 0), (1510, .aload_n 2, 1511, 0), (1511, .invokevirtual 141, 1514, 0), (1514, .iload 5, 1516, 0), (1516, .if_icmp .eq 5, 1519, 1521), (1519, .iconst (Int.ofNat 0), 1520, 0), (1520, .ireturn, 1521, 0), (1521, .iload 5, 1523, 0), (1523, .ifCond .ne 15, 1526, 1538), (1526, .aload_n 3, 1527, 0), (1527, .iconst (Int.ofNat 0), 1528, 0), (1528, .laload, 1529, 0), (1529, .iload 6, 1531, 0), (1531, .i2l, 1532, 0), (1532, .lcmp, 1533, 0), (1533, .ifCond .eq 5, 1536, 1538), (1536, .iconst (Int.ofNat 0), 1537, 0), (1537, .ireturn, 1538, 0), (1538, .goto 1055, 1541, 2593), (1541, .aload_n 1, 1542, 0), (1542, .aload_n 0, 1543, 0), (1543, .iload 4, 1545, 0), (1545, .iconst (Int.ofNat 1), 1546, 0), (1546, .iadd, 1547, 0), (1547, .iaload, 1548, 0), (1548, .aload_n 0, 1549, 0), (1549, .iload 4, 1551, 0), (1551, .iconst (Int.ofNat 2), 1552, 0), (1552, .iadd, 1553, 0), (1553, .iaload, 1554, 0), (1554, .aload_n 3, 1555, 0), (1555, .invokestatic 217, 1558, 0), (1558, .istore 5, 1560, 0), (1560, .aload_n 2, 1561, 0), (1561, .aload_n 0, 1562, 0), (1562, .iload 4, 1564, 0), (1564, .iconst (Int.ofNat 1), 1565, 0), (1565, .iadd, 1566, 0), (1566, .iaload, 1567, 0), (1567, .aload_n 0, 1568, 0), (1568, .iload 4, 1570, 0), (1570, .iconst (Int.ofNat 2), 1571, 0), (1571, .iadd, 1572, 0), (1572, .iaload, 1573, 0), (1573, .invokevirtual 219, 1576, 0), (1576, .istore 6, 1578, 0), (1578, .aload_n 2, 1579, 0), (1579, .invokevirtual 141, 1582, 0), (1582, .iload 5, 1584, 0), (1584, .if_icmp .eq 5, 1587, 1589), (1587, .iconst (Int.ofNat 0), 1588, 0), (1588, .ireturn, 1589, 0), (1589, .iload 5, 1591, 0), (1591, .ifCond .ne 15, 1594, 1606), (1594, .aload_n 3, 1595, 0), (1595, .iconst (Int.ofNat 0), 1596, 0), (1596, .laload, 1597, 0), (1597, .iload 6, 1599, 0)]
def tc_0_15 : List (Nat × Instr × Nat × Nat) := [(1599, .i2l, 1600, 0), (1600, .lcmp, 1601, 0), (1601, .ifCond .eq 5, 1604, 1606), (1604, .iconst (Int.ofNat 0), 1605, 0), (1605, .ireturn, 1606, 0), (1606, .goto 987, 1609, 2593), (1609, .aload_n 1, 1610, 0), (1610, .aload_n 0, 1611, 0), (1611, .iload 4, 1613, 0), (1613, .iconst (Int.ofNat 1), 1614, 0), (1614, .iadd, 1615, 0), (1615, .iaload, 1616, 0), (1616, .aload_n 0, 1617, 0), (1617, .iload 4, 1619, 0), (1619, .iconst (Int.ofNat 2), 1620, 0), (1620, .iadd, 1621, 0), (1621, .iaload, 1622, 0), (1622, .ifCond .eq 7, 1625, 1629), (1625, .iconst (Int.ofNat 1), 1626, 0), (1626, .goto 4, 1629, 1630), (1629, .iconst (Int.ofNat 0), 1630, 0), (1630, .aload_n 3, 1631, 0), (1631, .invokestatic 220, 1634, 0), (1634, .istore 5, 1636, 0), (1636, .aload_n 2, 1637, 0), (1637, .aload_n 0, 1638, 0), (1638, .iload 4, 1640, 0), (1640, .iconst (Int.ofNat 1), 1641, 0), (1641, .iadd, 1642, 0), (1642, .iaload, 1643, 0), (1643, .aload_n 0, 1644, 0), (1644, .iload 4, 1646, 0), (1646, .iconst (Int.ofNat 2), 1647, 0), (1647, .iadd, 1648, 0), (1648, .iaload, 1649, 0), (1649, .ifCond .eq 7, 1652, 1656), (1652, .iconst (Int.ofNat 1), 1653, 0), (1653, .goto 4, 1656, 1657), (1656, .iconst (Int.ofNat 0), 1657, 0), (1657, .invokevirtual 223, 1660, 0), (1660, .istore 6, 1662, 0), (1662, .aload_n 2, 1663, 0), (1663, .invokevirtual 141, 1666, 0), (1666, .iload 5, 1668, 0), (1668, .if_icmp .eq 5, 1671, 1673), (1671, .iconst (Int.ofNat 0), 1672, 0), (1672, .ireturn, 1673, 0), (1673, .iload 5, 1675, 0), (1675, .ifCond .ne 15, 1678, 1690), (1678, .aload_n 3, 1679, 0), (1679, .iconst (Int.ofNat 0), 1680, 0), (1680, .laload, 1681, 0), (1681, .iload 6, 1683, 0), (1683, .i2l, 1684, 0), (1684, .lcmp, 1685, 0), (1685, .ifCond .eq 5, 1688, 1690), (1688, .iconst (Int.ofNat 0), 1689, 0), (1689, .ireturn, 1690, 0), (1690, .goto 903, 1693, 2593), (1693, .aload_n 1, 1694, 0)]
def tc_0_16 : List (Nat × Instr × Nat × Nat) := [(1694, .aload_n 0, 1695, 0), (1695, .iload 4, 1697, 0), (1697, .iconst (Int.ofNat 1), 1698, 0), (1698, .iadd, 1699, 0), (1699, .iaload, 1700, 0), (1700, .aload_n 3, 1701, 0), (1701, .invokestatic 224, 1704, 0), (1704, .istore 5, 1706, 0), (1706, .aload_n 2, 1707, 0), (1707, .aload_n 0, 1708, 0), (1708, .iload 4, 1710, 0), (1710, .iconst (Int.ofNat 1), 1711, 0), (1711, .iadd, 1712, 0), (1712, .iaload, 1713, 0), (1713, .invokevirtual 226, 1716, 0), (1716, .istore 6, 1718, 0), (1718, .aload_n 2, 1719, 0), (1719, .invokevirtual 141, 1722, 0), (1722, .iload 5, 1724, 0), (1724, .if_icmp .eq 5, 1727, 1729), (1727, .iconst (Int.ofNat 0), 1728, 0), (1728, .ireturn, 1729, 0), (1729, .iload 5, 1731, 0), (1731, .ifCond .ne 15, 1734, 1746), (1734, .aload_n 3, 1735, 0), (1735, .iconst (Int.ofNat 0), 1736, 0), (1736, .laload, 1737, 0), (1737, .iload 6, 1739, 0), (1739, .i2l, 1740, 0), (1740, .lcmp, 1741, 0), (1741, .ifCond .eq 5, 1744, 1746), (1744, .iconst (Int.ofNat 0), 1745, 0), (1745, .ireturn, 1746, 0), (1746, .goto 847, 1749, 2593), (1749, .aload_n 1, 1750, 0), (1750, .aload_n 0, 1751, 0), (1751, .iload 4, 1753, 0), (1753, .iconst (Int.ofNat 1), 1754, 0), (1754, .iadd, 1755, 0), (1755, .iaload, 1756, 0), (1756, .aload_n 3, 1757, 0), (1757, .invokestatic 227, 1760, 0), (1760, .istore 5, 1762, 0), (1762, .aload_n 2, 1763, 0), (1763, .aload_n 0, 1764, 0), (1764, .iload 4, 1766, 0), (1766, .iconst (Int.ofNat 1), 1767, 0), (1767, .iadd, 1768, 0), (1768, .iaload, 1769, 0), (1769, .invokevirtual 229, 1772, 0), (1772, .istore 6, 1774, 0), (1774, .aload_n 2, 1775, 0), (1775, .invokevirtual 141, 1778, 0), (1778, .iload 5, 1780, 0), (1780, .if_icmp .eq 5, 1783, 1785), (1783, .iconst (Int.ofNat 0), 1784, 0), (1784, .ireturn, 1785, 0), (1785, .iload 5, 1787, 0), (1787, .ifCond .ne 15, 1790, 1802), (1790, .aload_n 3, 1791, 0)]
def tc_0_17 : List (Nat × Instr × Nat × Nat) := [(1791, .iconst (Int.ofNat 0), 1792, 0), (1792, .laload, 1793, 0), (1793, .iload 6, 1795, 0), (1795, .i2l, 1796, 0), (1796, .lcmp, 1797, 0), (1797, .ifCond .eq 5, 1800, 1802), (1800, .iconst (Int.ofNat 0), 1801, 0), (1801, .ireturn, 1802, 0), (1802, .goto 791, 1805, 2593), (1805, .aload_n 1, 1806, 0), (1806, .aload_n 0, 1807, 0), (1807, .iload 4, 1809, 0), (1809, .iconst (Int.ofNat 1), 1810, 0), (1810, .iadd, 1811, 0), (1811, .iaload, 1812, 0), (1812, .aload_n 3, 1813, 0), (1813, .invokestatic 230, 1816, 0), (1816, .istore 5, 1818, 0), (1818, .aload_n 2, 1819, 0), (1819, .aload_n 0, 1820, 0), (1820, .iload 4, 1822, 0), (1822, .iconst (Int.ofNat 1), 1823, 0), (1823, .iadd, 1824, 0), (1824, .iaload, 1825, 0), (1825, .invokevirtual 232, 1828, 0), (1828, .istore 6, 1830, 0), (1830, .aload_n 2, 1831, 0), (1831, .invokevirtual 141, 1834, 0), (1834, .iload 5, 1836, 0), (1836, .if_icmp .eq 5, 1839, 1841), (1839, .iconst (Int.ofNat 0), 1840, 0), (1840, .ireturn, 1841, 0), (1841, .iload 5, 1843, 0), (1843, .ifCond .ne 15, 1846, 1858), (1846, .aload_n 3, 1847, 0), (1847, .iconst (Int.ofNat 0), 1848, 0), (1848, .laload, 1849, 0), (1849, .iload 6, 1851, 0), (1851, .i2l, 1852, 0), (1852, .lcmp, 1853, 0), (1853, .ifCond .eq 5, 1856, 1858), (1856, .iconst (Int.ofNat 0), 1857, 0), (1857, .ireturn, 1858, 0), (1858, .goto 735, 1861, 2593), (1861, .aload_n 1, 1862, 0), (1862, .aload_n 0, 1863, 0), (1863, .iload 4, 1865, 0), (1865, .iconst (Int.ofNat 1), 1866, 0), (1866, .iadd, 1867, 0), (1867, .iaload, 1868, 0), (1868, .ifCond .eq 7, 1871, 1875), (1871, .iconst (Int.ofNat 1), 1872, 0), (1872, .goto 4, 1875, 1876), (1875, .iconst (Int.ofNat 0), 1876, 0), (1876, .invokevirtual 233, 1879, 0), (1879, .aload_n 2, 1880, 0), (1880, .aload_n 0, 1881, 0), (1881, .iload 4, 1883, 0), (1883, .iconst (Int.ofNat 1), 1884, 0), (1884, .iadd, 1885, 0)]
def tc_0_18 : List (Nat × Instr × Nat × Nat) := [(1885, .iaload, 1886, 0), (1886, .ifCond .eq 7, 1889, 1893), (1889, .iconst (Int.ofNat 1), 1890, 0), (1890, .goto 4, 1893, 1894), (1893, .iconst (Int.ofNat 0), 1894, 0), (1894, .invokevirtual 237, 1897, 0), (1897, .lcmp, 1898, 0), (1898, .ifCond .eq 695, 1901, 2593), (1901, .iconst (Int.ofNat 0), 1902, 0), (1902, .ireturn, 1903, 0), (1903, .aload_n 1, 1904, 0), (1904, .aload_n 0, 1905, 0), (1905, .iload 4, 1907, 0), (1907, .iconst (Int.ofNat 1), 1908, 0), (1908, .iadd, 1909, 0), (1909, .iaload, 1910, 0), (1910, .aload_n 3, 1911, 0), (1911, .invokestatic 238, 1914, 0), (1914, .istore 5, 1916, 0), (1916, .aload_n 2, 1917, 0), (1917, .aload_n 0, 1918, 0), (1918, .iload 4, 1920, 0), (1920, .iconst (Int.ofNat 1), 1921, 0), (1921, .iadd, 1922, 0), (1922, .iaload, 1923, 0), (1923, .invokevirtual 240, 1926, 0), (1926, .istore 6, 1928, 0), (1928, .aload_n 2, 1929, 0), (1929, .invokevirtual 141, 1932, 0), (1932, .iload 5, 1934, 0), (1934, .if_icmp .eq 5, 1937, 1939), (1937, .iconst (Int.ofNat 0), 1938, 0), (1938, .ireturn, 1939, 0), (1939, .iload 5, 1941, 0), (1941, .ifCond .ne 15, 1944, 1956), (1944, .aload_n 3, 1945, 0), (1945, .iconst (Int.ofNat 0), 1946, 0), (1946, .laload, 1947, 0), (1947, .iload 6, 1949, 0), (1949, .i2l, 1950, 0), (1950, .lcmp, 1951, 0), (1951, .ifCond .eq 5, 1954, 1956), (1954, .iconst (Int.ofNat 0), 1955, 0), (1955, .ireturn, 1956, 0), (1956, .goto 637, 1959, 2593), (1959, .aload_n 1, 1960, 0), (1960, .invokevirtual 241, 1963, 0), (1963, .aload_n 2, 1964, 0), (1964, .invokevirtual 244, 1967, 0), (1967, .if_icmp .eq 626, 1970, 2593), (1970, .iconst (Int.ofNat 0), 1971, 0), (1971, .ireturn, 1972, 0), (1972, .aload_n 1, 1973, 0), (1973, .aload_n 0, 1974, 0), (1974, .iload 4, 1976, 0), (1976, .iconst (Int.ofNat 1), 1977, 0), (1977, .iadd, 1978, 0), (1978, .iaload, 1979, 0), (1979, .aload_n 0, 1980, 0), (1980, .iload 4, 1982, 0)]
def tc_0_19 : List (Nat × Instr × Nat × Nat) := [(1982, .iconst (Int.ofNat 2), 1983, 0), (1983, .iadd, 1984, 0), (1984, .iaload, 1985, 0), (1985, .ifCond .eq 7, 1988, 1992), (1988, .iconst (Int.ofNat 1), 1989, 0), (1989, .goto 4, 1992, 1993), (1992, .iconst (Int.ofNat 0), 1993, 0), (1993, .aload_n 3, 1994, 0), (1994, .invokestatic 245, 1997, 0), (1997, .istore 5, 1999, 0), (1999, .aload_n 2, 2000, 0), (2000, .aload_n 0, 2001, 0), (2001, .iload 4, 2003, 0), (2003, .iconst (Int.ofNat 1), 2004, 0), (2004, .iadd, 2005, 0), (2005, .iaload, 2006, 0), (2006, .aload_n 0, 2007, 0), (2007, .iload 4, 2009, 0), (2009, .iconst (Int.ofNat 2), 2010, 0), (2010, .iadd, 2011, 0), (2011, .iaload, 2012, 0), (2012, .ifCond .eq 7, 2015, 2019), (2015, .iconst (Int.ofNat 1), 2016, 0), (2016, .goto 4, 2019, 2020), (2019, .iconst (Int.ofNat 0), 2020, 0), (2020, .invokevirtual 247, 2023, 0), (2023, .istore 6, 2025, 0), (2025, .aload_n 2, 2026, 0), (2026, .invokevirtual 141, 2029, 0), (2029, .iload 5, 2031, 0), (2031, .if_icmp .eq 5, 2034, 2036), (2034, .iconst (Int.ofNat 0), 2035, 0), (2035, .ireturn, 2036, 0), (2036, .iload 5, 2038, 0), (2038, .ifCond .ne 15, 2041, 2053), (2041, .aload_n 3, 2042, 0), (2042, .iconst (Int.ofNat 0), 2043, 0), (2043, .laload, 2044, 0), (2044, .iload 6, 2046, 0), (2046, .i2l, 2047, 0), (2047, .lcmp, 2048, 0), (2048, .ifCond .eq 5, 2051, 2053), (2051, .iconst (Int.ofNat 0), 2052, 0), (2052, .ireturn, 2053, 0), (2053, .goto 540, 2056, 2593), (2056, .aload_n 1, 2057, 0), (2057, .aload_n 0, 2058, 0), (2058, .iload 4, 2060, 0), (2060, .iconst (Int.ofNat 1), 2061, 0), (2061, .iadd, 2062, 0), (2062, .iaload, 2063, 0), (2063, .aload_n 0, 2064, 0), (2064, .iload 4, 2066, 0), (2066, .iconst (Int.ofNat 2), 2067, 0), (2067, .iadd, 2068, 0), (2068, .iaload, 2069, 0), (2069, .aload_n 3, 2070, 0), (2070, .invokestatic 248, 2073, 0), (2073, .istore 5, 2075, 0), (2075, .aload_n 2, 2076, 0)]
def tc_0_20 : List (Nat × Instr × Nat × Nat) := [(2076, .aload_n 0, 2077, 0), (2077, .iload 4, 2079, 0), (2079, .iconst (Int.ofNat 1), 2080, 0), (2080, .iadd, 2081, 0), (2081, .iaload, 2082, 0), (2082, .aload_n 0, 2083, 0), (2083, .iload 4, 2085, 0), (2085, .iconst (Int.ofNat 2), 2086, 0), (2086, .iadd, 2087, 0), (2087, .iaload, 2088, 0), (2088, .invokevirtual 250, 2091, 0), (2091, .istore 6, 2093, 0), (2093, .aload_n 2, 2094, 0), (2094, .invokevirtual 141, 2097, 0), (2097, .iload 5, 2099, 0), (2099, .if_icmp .eq 5, 2102, 2104), (2102, .iconst (Int.ofNat 0), 2103, 0), (2103, .ireturn, 2104, 0), (2104, .iload 5, 2106, 0), (2106, .ifCond .ne 15, 2109, 2121), (2109, .aload_n 3, 2110, 0), (2110, .iconst (Int.ofNat 0), 2111, 0), (2111, .laload, 2112, 0), (2112, .iload 6, 2114, 0), (2114, .i2l, 2115, 0), (2115, .lcmp, 2116, 0), (2116, .ifCond .eq 5, 2119, 2121), (2119, .iconst (Int.ofNat 0), 2120, 0), (2120, .ireturn, 2121, 0), (2121, .goto 472, 2124, 2593), (2124, .aload_n 1, 2125, 0), (2125, .aload_n 0, 2126, 0), (2126, .iload 4, 2128, 0), (2128, .iconst (Int.ofNat 1), 2129, 0), (2129, .iadd, 2130, 0), (2130, .iaload, 2131, 0), (2131, .aload_n 0, 2132, 0), (2132, .iload 4, 2134, 0), (2134, .iconst (Int.ofNat 2), 2135, 0), (2135, .iadd, 2136, 0), (2136, .iaload, 2137, 0), (2137, .aload_n 0, 2138, 0), (2138, .iload 4, 2140, 0), (2140, .iconst (Int.ofNat 3), 2141, 0), (2141, .iadd, 2142, 0), (2142, .iaload, 2143, 0), (2143, .aload_n 3, 2144, 0), (2144, .invokestatic 251, 2147, 0), (2147, .istore 5, 2149, 0), (2149, .aload_n 2, 2150, 0), (2150, .aload_n 0, 2151, 0), (2151, .iload 4, 2153, 0), (2153, .iconst (Int.ofNat 1), 2154, 0), (2154, .iadd, 2155, 0), (2155, .iaload, 2156, 0), (2156, .aload_n 0, 2157, 0), (2157, .iload 4, 2159, 0), (2159, .iconst (Int.ofNat 2), 2160, 0), (2160, .iadd, 2161, 0), (2161, .iaload, 2162, 0)]
def tc_0_21 : List (Nat × Instr × Nat × Nat) := [(2162, .aload_n 0, 2163, 0), (2163, .iload 4, 2165, 0), (2165, .iconst (Int.ofNat 3), 2166, 0), (2166, .iadd, 2167, 0), (2167, .iaload, 2168, 0), (2168, .invokevirtual 253, 2171, 0), (2171, .istore 6, 2173, 0), (2173, .aload_n 2, 2174, 0), (2174, .invokevirtual 141, 2177, 0), (2177, .iload 5, 2179, 0), (2179, .if_icmp .eq 5, 2182, 2184), (2182, .iconst (Int.ofNat 0), 2183, 0), (2183, .ireturn, 2184, 0), (2184, .iload 5, 2186, 0), (2186, .ifCond .ne 15, 2189, 2201), (2189, .aload_n 3, 2190, 0), (2190, .iconst (Int.ofNat 0), 2191, 0), (2191, .laload, 2192, 0), (2192, .iload 6, 2194, 0), (2194, .i2l, 2195, 0), (2195, .lcmp, 2196, 0), (2196, .ifCond .eq 5, 2199, 2201), (2199, .iconst (Int.ofNat 0), 2200, 0), (2200, .ireturn, 2201, 0), (2201, .goto 392, 2204, 2593), (2204, .aload_n 1, 2205, 0), (2205, .aload_n 0, 2206, 0), (2206, .iload 4, 2208, 0), (2208, .iconst (Int.ofNat 1), 2209, 0), (2209, .iadd, 2210, 0), (2210, .iaload, 2211, 0), (2211, .aload_n 0, 2212, 0), (2212, .iload 4, 2214, 0), (2214, .iconst (Int.ofNat 2), 2215, 0), (2215, .iadd, 2216, 0), (2216, .iaload, 2217, 0), (2217, .aload_n 3, 2218, 0), (2218, .invokestatic 254, 2221, 0), (2221, .istore 5, 2223, 0), (2223, .aload_n 2, 2224, 0), (2224, .aload_n 0, 2225, 0), (2225, .iload 4, 2227, 0), (2227, .iconst (Int.ofNat 1), 2228, 0), (2228, .iadd, 2229, 0), (2229, .iaload, 2230, 0), (2230, .aload_n 0, 2231, 0), (2231, .iload 4, 2233, 0), (2233, .iconst (Int.ofNat 2), 2234, 0), (2234, .iadd, 2235, 0), (2235, .iaload, 2236, 0), (2236, .invokevirtual 256, 2239, 0), (2239, .istore 6, 2241, 0), (2241, .aload_n 2, 2242, 0), (2242, .invokevirtual 141, 2245, 0), (2245, .iload 5, 2247, 0), (2247, .if_icmp .eq 5, 2250, 2252), (2250, .iconst (Int.ofNat 0), 2251, 0), (2251, .ireturn, 2252, 0), (2252, .iload 5, 2254, 0), (2254, .ifCond .ne 15, 2257, 2269)]
def tc_0_22 : List (Nat × Instr × Nat × Nat) := [(2257, .aload_n 3, 2258, 0), (2258, .iconst (Int.ofNat 0), 2259, 0), (2259, .laload, 2260, 0), (2260, .iload 6, 2262, 0), (2262, .i2l, 2263, 0), (2263, .lcmp, 2264, 0), (2264, .ifCond .eq 5, 2267, 2269), (2267, .iconst (Int.ofNat 0), 2268, 0), (2268, .ireturn, 2269, 0), (2269, .goto 324, 2272, 2593), (2272, .aload_n 1, 2273, 0), (2273, .aload_n 0, 2274, 0), (2274, .iload 4, 2276, 0), (2276, .iconst (Int.ofNat 1), 2277, 0), (2277, .iadd, 2278, 0), (2278, .iaload, 2279, 0), (2279, .aload_n 0, 2280, 0), (2280, .iload 4, 2282, 0), (2282, .iconst (Int.ofNat 2), 2283, 0), (2283, .iadd, 2284, 0), (2284, .iaload, 2285, 0), (2285, .ifCond .eq 7, 2288, 2292), (2288, .iconst (Int.ofNat 1), 2289, 0), (2289, .goto 4, 2292, 2293), (2292, .iconst (Int.ofNat 0), 2293, 0), (2293, .aload_n 3, 2294, 0), (2294, .invokestatic 257, 2297, 0), (2297, .istore 5, 2299, 0), (2299, .aload_n 2, 2300, 0), (2300, .aload_n 0, 2301, 0), (2301, .iload 4, 2303, 0), (2303, .iconst (Int.ofNat 1), 2304, 0), (2304, .iadd, 2305, 0), (2305, .iaload, 2306, 0), (2306, .aload_n 0, 2307, 0), (2307, .iload 4, 2309, 0), (2309, .iconst (Int.ofNat 2), 2310, 0), (2310, .iadd, 2311, 0), (2311, .iaload, 2312, 0), (2312, .ifCond .eq 7, 2315, 2319), (2315, .iconst (Int.ofNat 1), 2316, 0), (2316, .goto 4, 2319, 2320), (2319, .iconst (Int.ofNat 0), 2320, 0), (2320, .invokevirtual 259, 2323, 0), (2323, .istore 6, 2325, 0), (2325, .aload_n 2, 2326, 0), (2326, .invokevirtual 141, 2329, 0), (2329, .iload 5, 2331, 0), (2331, .if_icmp .eq 5, 2334, 2336), (2334, .iconst (Int.ofNat 0), 2335, 0), (2335, .ireturn, 2336, 0), (2336, .iload 5, 2338, 0), (2338, .ifCond .ne 15, 2341, 2353), (2341, .aload_n 3, 2342, 0), (2342, .iconst (Int.ofNat 0), 2343, 0), (2343, .laload, 2344, 0), (2344, .iload 6, 2346, 0), (2346, .i2l, 2347, 0), (2347, .lcmp, 2348, 0), (2348, .ifCond .eq 5, 2351, 2353)]
def tc_0_23 : List (Nat × Instr × Nat × Nat) := [(2351, .iconst (Int.ofNat 0), 2352, 0), (2352, .ireturn, 2353, 0), (2353, .goto 240, 2356, 2593), (2356, .aload_n 1, 2357, 0), (2357, .invokevirtual 260, 2360, 0), (2360, .aload_n 2, 2361, 0), (2361, .invokevirtual 263, 2364, 0), (2364, .if_icmp .eq 229, 2367, 2593), (2367, .iconst (Int.ofNat 0), 2368, 0), (2368, .ireturn, 2369, 0), (2369, .aload_n 1, 2370, 0), (2370, .aload_n 0, 2371, 0), (2371, .iload 4, 2373, 0), (2373, .iconst (Int.ofNat 1), 2374, 0), (2374, .iadd, 2375, 0), (2375, .iaload, 2376, 0), (2376, .aload_n 3, 2377, 0), (2377, .invokestatic 264, 2380, 0), (2380, .istore 5, 2382, 0), (2382, .aload_n 2, 2383, 0), (2383, .aload_n 0, 2384, 0), (2384, .iload 4, 2386, 0), (2386, .iconst (Int.ofNat 1), 2387, 0), (2387, .iadd, 2388, 0), (2388, .iaload, 2389, 0), (2389, .invokevirtual 266, 2392, 0), (2392, .istore 6, 2394, 0), (2394, .aload_n 2, 2395, 0), (2395, .invokevirtual 141, 2398, 0), (2398, .iload 5, 2400, 0), (2400, .if_icmp .eq 5, 2403, 2405), (2403, .iconst (Int.ofNat 0), 2404, 0), (2404, .ireturn, 2405, 0), (2405, .iload 5, 2407, 0), (2407, .ifCond .ne 15, 2410, 2422), (2410, .aload_n 3, 2411, 0), (2411, .iconst (Int.ofNat 0), 2412, 0), (2412, .laload, 2413, 0), (2413, .iload 6, 2415, 0), (2415, .i2l, 2416, 0), (2416, .lcmp, 2417, 0), (2417, .ifCond .eq 5, 2420, 2422), (2420, .iconst (Int.ofNat 0), 2421, 0), (2421, .ireturn, 2422, 0), (2422, .goto 171, 2425, 2593), (2425, .aload_n 1, 2426, 0), (2426, .invokevirtual 267, 2429, 0), (2429, .aload_n 2, 2430, 0), (2430, .invokevirtual 270, 2433, 0), (2433, .if_icmp .eq 160, 2436, 2593), (2436, .iconst (Int.ofNat 0), 2437, 0), (2437, .ireturn, 2438, 0), (2438, .aload_n 1, 2439, 0), (2439, .aload_n 0, 2440, 0), (2440, .iload 4, 2442, 0), (2442, .iconst (Int.ofNat 1), 2443, 0), (2443, .iadd, 2444, 0), (2444, .iaload, 2445, 0), (2445, .aload_n 0, 2446, 0), (2446, .iload 4, 2448, 0)]
def tc_0_24 : List (Nat × Instr × Nat × Nat) := [(2448, .iconst (Int.ofNat 2), 2449, 0), (2449, .iadd, 2450, 0), (2450, .iaload, 2451, 0), (2451, .aload_n 3, 2452, 0), (2452, .invokestatic 271, 2455, 0), (2455, .istore 5, 2457, 0), (2457, .aload_n 2, 2458, 0), (2458, .aload_n 0, 2459, 0), (2459, .iload 4, 2461, 0), (2461, .iconst (Int.ofNat 1), 2462, 0), (2462, .iadd, 2463, 0), (2463, .iaload, 2464, 0), (2464, .aload_n 0, 2465, 0), (2465, .iload 4, 2467, 0), (2467, .iconst (Int.ofNat 2), 2468, 0), (2468, .iadd, 2469, 0), (2469, .iaload, 2470, 0), (2470, .invokevirtual 273, 2473, 0), (2473, .istore 6, 2475, 0), (2475, .aload_n 2, 2476, 0), (2476, .invokevirtual 141, 2479, 0), (2479, .iload 5, 2481, 0), (2481, .if_icmp .eq 5, 2484, 2486), (2484, .iconst (Int.ofNat 0), 2485, 0), (2485, .ireturn, 2486, 0), (2486, .iload 5, 2488, 0), (2488, .ifCond .ne 15, 2491, 2503), (2491, .aload_n 3, 2492, 0), (2492, .iconst (Int.ofNat 0), 2493, 0), (2493, .laload, 2494, 0), (2494, .iload 6, 2496, 0), (2496, .i2l, 2497, 0), (2497, .lcmp, 2498, 0), (2498, .ifCond .eq 5, 2501, 2503), (2501, .iconst (Int.ofNat 0), 2502, 0), (2502, .ireturn, 2503, 0), (2503, .goto 90, 2506, 2593), (2506, .aload_n 1, 2507, 0), (2507, .aload_n 0, 2508, 0), (2508, .iload 4, 2510, 0), (2510, .iconst (Int.ofNat 1), 2511, 0), (2511, .iadd, 2512, 0), (2512, .iaload, 2513, 0), (2513, .invokevirtual 274, 2516, 0), (2516, .aload_n 2, 2517, 0), (2517, .aload_n 0, 2518, 0), (2518, .iload 4, 2520, 0), (2520, .iconst (Int.ofNat 1), 2521, 0), (2521, .iadd, 2522, 0), (2522, .iaload, 2523, 0), (2523, .invokevirtual 277, 2526, 0), (2526, .if_icmp .eq 67, 2529, 2593), (2529, .iconst (Int.ofNat 0), 2530, 0), (2530, .ireturn, 2531, 0), (2531, .aload_n 1, 2532, 0), (2532, .invokevirtual 278, 2535, 0), (2535, .aload_n 2, 2536, 0), (2536, .invokevirtual 282, 2539, 0), (2539, .if_icmp .eq 54, 2542, 2593), (2542, .iconst (Int.ofNat 0), 2543, 0)]
def tc_0_25 : List (Nat × Instr × Nat × Nat) := [(2543, .ireturn, 2544, 0), (2544, .aload_n 1, 2545, 0), (2545, .invokevirtual 283, 2548, 0), (2548, .aload_n 2, 2549, 0), (2549, .invokevirtual 286, 2552, 0), (2552, .goto 41, 2555, 2593), (2555, .aload_n 1, 2556, 0), (2556, .invokevirtual 287, 2559, 0), (2559, .aload_n 2, 2560, 0), (2560, .invokevirtual 290, 2563, 0), (2563, .if_icmp .eq 30, 2566, 2593), (2566, .iconst (Int.ofNat 0), 2567, 0), (2567, .ireturn, 2568, 0), (2568, .aload_n 1, 2569, 0), (2569, .aload_n 0, 2570, 0), (2570, .iload 4, 2572, 0), (2572, .iconst (Int.ofNat 1), 2573, 0), (2573, .iadd, 2574, 0), (2574, .iaload, 2575, 0), (2575, .invokevirtual 291, 2578, 0), (2578, .aload_n 2, 2579, 0), (2579, .aload_n 0, 2580, 0), (2580, .iload 4, 2582, 0), (2582, .iconst (Int.ofNat 1), 2583, 0), (2583, .iadd, 2584, 0), (2584, .iaload, 2585, 0), (2585, .invokevirtual 294, 2588, 0), (2588, .if_icmp .eq 5, 2591, 2593), (2591, .iconst (Int.ofNat 0), 2592, 0), (2592, .ireturn, 2593, 0), (2593, .iinc 4 6, 2596, 0), (2596, .goto (-2573), 2599, 23), (2599, .iconst (Int.ofNat 1), 2600, 0), (2600, .ireturn, 2601, 0)]
def tc_0 : List (Nat × Instr × Nat × Nat) := tc_0_0 ++ (tc_0_1 ++ (tc_0_2 ++ (tc_0_3 ++ (tc_0_4 ++ (tc_0_5 ++ (tc_0_6 ++ (tc_0_7 ++ (tc_0_8 ++ (tc_0_9 ++ (tc_0_10 ++ (tc_0_11 ++ (tc_0_12 ++ (tc_0_13 ++ (tc_0_14 ++ (tc_0_15 ++ (tc_0_16 ++ (tc_0_17 ++ (tc_0_18 ++ (tc_0_19 ++ (tc_0_20 ++ (tc_0_21 ++ (tc_0_22 ++ (tc_0_23 ++ (tc_0_24 ++ tc_0_25))))))))))))))))))))))))
def tc_1 : List (Nat × Instr × Nat × Nat) := [(0, .aload_n 0, 1, 0), (1, .invokespecial 3, 4, 0), (4, .aload_n 0, 5, 0), (5, .bipush (Int.ofNat 12), 7, 0), (7, .newarray .int, 9, 0), (9, .putfield 9, 12, 0), (12, .aload_n 0, 13, 0), (13, .aload_n 1, 14, 0), (14, .putfield 15, 17, 0), (17, .aload_n 0, 18, 0), (18, .aload_n 2, 19, 0), (19, .putfield 19, 22, 0), (22, .return_, 23, 0)]
def tc_2 : List (Nat × Instr × Nat × Nat) := [(0, .aload_n 0, 1, 0), (1, .getfield 15, 4, 0), (4, .iconst (Int.ofNat 0), 5, 0), (5, .iload_n 2, 6, 0), (6, .iload_n 1, 7, 0), (7, .aload_n 0, 8, 0), (8, .getfield 19, 11, 0), (11, .iload_n 1, 12, 0), (12, .invokevirtual 23, 15, 0), (15, .aload_n 0, 16, 0), (16, .getfield 19, 19, 0), (19, .getfield 29, 22, 0), (22, .invokevirtual 33, 25, 0), (25, .ireturn, 26, 0)]
def tc_3 : List (Nat × Instr × Nat × Nat) := [(0, .aload_n 0, 1, 0), (1, .getfield 15, 4, 0), (4, .iconst (Int.ofNat 1), 5, 0), (5, .iload_n 2, 6, 0), (6, .iload_n 1, 7, 0), (7, .aload_n 0, 8, 0), (8, .getfield 19, 11, 0), (11, .iload_n 1, 12, 0), (12, .invokevirtual 23, 15, 0), (15, .aload_n 0, 16, 0), (16, .getfield 19, 19, 0), (19, .getfield 29, 22, 0), (22, .invokevirtual 33, 25, 0), (25, .ireturn, 26, 0)]
def tc_4 : List (Nat × Instr × Nat × Nat) := [(0, .aload_n 0, 1, 0), (1, .iload_n 1, 2, 0), (2, .iload_n 2, 3, 0), (3, .invokevirtual 39, 6, 0), (6, .aload_n 0, 7, 0), (7, .getfield 19, 10, 0), (10, .invokevirtual 43, 13, 0), (13, .iand, 14, 0), (14, .ireturn, 15, 0)]
def tc_5 : List (Nat × Instr × Nat × Nat) := [(0, .aload_n 0, 1, 0), (1, .iload_n 1, 2, 0), (2, .iload_n 2, 3, 0), (3, .invokevirtual 47, 6, 0), (6, .aload_n 0, 7, 0), (7, .getfield 19, 10, 0), (10, .invokevirtual 43, 13, 0), (13, .iand, 14, 0), (14, .ireturn, 15, 0)]
def tc_6 : List (Nat × Instr × Nat × Nat) := [(0, .aload_n 0, 1, 0), (1, .iload_n 1, 2, 0), (2, .iload_n 2, 3, 0), (3, .invokevirtual 39, 6, 0), (6, .aload_n 0, 7, 0), (7, .getfield 19, 10, 0), (10, .getfield 50, 13, 0), (13, .iload_n 1, 14, 0), (14, .iaload, 15, 0), (15, .iand, 16, 0), (16, .ifCond .ne 7, 19, 23), (19, .iconst (Int.ofNat 1), 20, 0), (20, .goto 4, 23, 24), (23, .iconst (Int.ofNat 0), 24, 0), (24, .ireturn, 25, 0)]
def tc_7 : List (Nat × Instr × Nat × Nat) := [(0, .iconst (Int.ofNat 0), 1, 0), (1, .istore_n 1, 2, 0), (2, .aload_n 0, 3, 0), (3, .getfield 19, 6, 0), (6, .invokevirtual 43, 9, 0), (9, .istore_n 2, 10, 0), (10, .iconst (Int.ofNat 0), 11, 0), (11, .istore_n 3, 12, 0), (12, .iload_n 3, 13, 0), (13, .bipush (Int.ofNat 8), 15, 0), (15, .if_icmp .ge 34, 18, 49), (18, .aload_n 0, 19, 0), (19, .getfield 19, 22, 0), (22, .getfield 53, 25, 0), (25, .ifCond .eq 24, 28, 49), (28, .aload_n 0, 29, 0), (29, .iload_n 3, 30, 0), (30, .iload_n 2, 31, 0), (31, .invokevirtual 56, 34, 0), (34, .ifCond .eq 9, 37, 43), (37, .iload_n 1, 38, 0), (38, .iconst (Int.ofNat 1), 39, 0), (39, .iload_n 3, 40, 0), (40, .ishl, 41, 0), (41, .ior, 42, 0), (42, .istore_n 1, 43, 0), (43, .iinc 3 1, 46, 0), (46, .goto (-34), 49, 12), (49, .iload_n 1, 50, 0), (50, .ireturn, 51, 0)]
def tc_8 : List (Nat × Instr × Nat × Nat) := [(0, .iconst (Int.ofNat 0), 1, 0), (1, .istore_n 3, 2, 0), (2, .iload_n 3, 3, 0), (3, .aload_n 0, 4, 0), (4, .getfield 19, 7, 0), (7, .getfield 60, 10, 0), (10, .if_icmp .ge 55, 13, 65), (13, .iconst (Int.ofNat 0), 14, 0), (14, .istore 4, 16, 0), (16, .iload 4, 18, 0), (18, .bipush (Int.ofNat 8), 20, 0), (20, .if_icmp .ge 39, 23, 59), (23, .aload_n 0, 24, 0), (24, .getfield 19, 27, 0), (27, .iload_n 3, 28, 0), (28, .invokevirtual 63, 31, 0), (31, .ifCond .eq 28, 34, 59), (34, .aload_n 0, 35, 0), (35, .iload_n 3, 36, 0), (36, .iload_n 1, 37, 0), (37, .bipush (Int.ofNat 8), 39, 0), (39, .imul, 40, 0), (40, .iload 4, 42, 0), (42, .iadd, 43, 0), (43, .invokevirtual 39, 46, 0), (46, .iload_n 2, 47, 0), (47, .iand, 48, 0), (48, .ifCond .ne 5, 51, 53), (51, .iconst (Int.ofNat 0), 52, 0), (52, .ireturn, 53, 0), (53, .iinc 4 1, 56, 0), (56, .goto (-40), 59, 16), (59, .iinc 3 1, 62, 0), (62, .goto (-60), 65, 2), (65, .iconst (Int.ofNat 1), 66, 0), (66, .ireturn, 67, 0)]
def tc_9 : List (Nat × Instr × Nat × Nat) := [(0, .aload_n 0, 1, 0), (1, .invokevirtual 67, 4, 0), (4, .aload_n 0, 5, 0), (5, .aload_n 0, 6, 0), (6, .getfield 15, 9, 0), (9, .getfield 70, 12, 0), (12, .iload_n 1, 13, 0), (13, .iaload, 14, 0), (14, .invokevirtual 73, 17, 0), (17, .aload_n 0, 18, 0), (18, .getfield 9, 21, 0), (21, .iload_n 1, 22, 0), (22, .iaload, 23, 0), (23, .ireturn, 24, 0)]
def tc_10 : List (Nat × Instr × Nat × Nat) := [(0, .aload_n 0, 1, 0), (1, .invokevirtual 67, 4, 0), (4, .iconst (Int.ofNat 0), 5, 0), (5, .istore_n 1, 6, 0), (6, .iload_n 1, 7, 0), (7, .bipush (Int.ofNat 8), 9, 0), (9, .if_icmp .ge 14, 12, 23), (12, .aload_n 0, 13, 0), (13, .iload_n 1, 14, 0), (14, .invokevirtual 73, 17, 0), (17, .iinc 1 1, 20, 0), (20, .goto (-14), 23, 6), (23, .iconst (Int.ofNat 0), 24, 0), (24, .istore_n 1, 25, 0), (25, .bipush (Int.ofNat 13), 27, 0), (27, .istore_n 2, 28, 0), (28, .iconst (Int.ofNat 0), 29, 0), (29, .istore_n 3, 30, 0), (30, .iload_n 3, 31, 0), (31, .iconst (Int.ofNat 1), 32, 0), (32, .aload_n 0, 33, 0), (33, .getfield 15, 36, 0), (36, .getfield 77, 39, 0), (39, .ishl, 40, 0), (40, .if_icmp .ge 34, 43, 74), (43, .iload_n 3, 44, 0), (44, .invokestatic 80, 47, 0), (47, .istore 4, 49, 0), (49, .iload 4, 51, 0), (51, .iload_n 2, 52, 0), (52, .if_icmp .ge 16, 55, 68), (55, .aload_n 0, 56, 0), (56, .iload_n 3, 57, 0), (57, .invokevirtual 85, 60, 0), (60, .ifCond .eq 8, 63, 68), (63, .iload 4, 65, 0), (65, .istore_n 2, 66, 0), (66, .iload_n 3, 67, 0), (67, .istore_n 1, 68, 0), (68, .iinc 3 1, 71, 0), (71, .goto (-41), 74, 30), (74, .iload_n 1, 75, 0), (75, .ireturn, 76, 0)]
def tc_11 : List (Nat × Instr × Nat × Nat) := [(0, .iconst (Int.ofNat 0), 1, 0), (1, .istore_n 2, 2, 0), (2, .iload_n 2, 3, 0), (3, .aload_n 0, 4, 0), (4, .getfield 15, 7, 0), (7, .getfield 77, 10, 0), (10, .if_icmp .ge 32, 13, 42), (13, .iload_n 1, 14, 0), (14, .iload_n 2, 15, 0), (15, .invokestatic 88, 18, 0), (18, .ifCond .ne 18, 21, 36), (21, .aload_n 0, 22, 0), (22, .getfield 9, 25, 0), (25, .iload_n 2, 26, 0), (26, .iaload, 27, 0), (27, .iload_n 1, 28, 0), (28, .iconst (Int.negSucc 0), 29, 0), (29, .ixor, 30, 0), (30, .iand, 31, 0), (31, .ifCond .eq 5, 34, 36), (34, .iconst (Int.ofNat 0), 35, 0), (35, .ireturn, 36, 0), (36, .iinc 2 1, 39, 0), (39, .goto (-37), 42, 2), (42, .iconst (Int.ofNat 1), 43, 0), (43, .ireturn, 44, 0)]
def tc_12 : List (Nat × Instr × Nat × Nat) := [(0, .iconst (Int.ofNat 0), 1, 0), (1, .istore_n 1, 2, 0), (2, .iload_n 1, 3, 0), (3, .bipush (Int.ofNat 12), 5, 0), (5, .if_icmp .ge 16, 8, 21), (8, .aload_n 0, 9, 0), (9, .getfield 9, 12, 0), (12, .iload_n 1, 13, 0), (13, .iconst (Int.ofNat 0), 14, 0), (14, .iastore, 15, 0), (15, .iinc 1 1, 18, 0), (18, .goto (-16), 21, 2), (21, .return_, 22, 0)]
def tc_13 : List (Nat × Instr × Nat × Nat) := [(0, .iconst (Int.ofNat 0), 1, 0), (1, .istore_n 2, 2, 0), (2, .iload_n 2, 3, 0), (3, .aload_n 0, 4, 0), (4, .getfield 19, 7, 0), (7, .getfield 60, 10, 0), (10, .if_icmp .ge 60, 13, 70), (13, .iconst (Int.ofNat 0), 14, 0), (14, .istore_n 3, 15, 0), (15, .iload_n 3, 16, 0), (16, .bipush (Int.ofNat 8), 18, 0), (18, .if_icmp .ge 46, 21, 64), (21, .aload_n 0, 22, 0), (22, .getfield 19, 25, 0), (25, .iload_n 2, 26, 0), (26, .invokevirtual 63, 29, 0), (29, .ifCond .eq 35, 32, 64), (32, .iload_n 1, 33, 0), (33, .bipush (Int.ofNat 8), 35, 0), (35, .imul, 36, 0), (36, .iload_n 3, 37, 0), (37, .iadd, 38, 0), (38, .istore 4, 40, 0), (40, .aload_n 0, 41, 0), (41, .aload_n 0, 42, 0), (42, .iload_n 2, 43, 0), (43, .iload 4, 45, 0), (45, .invokevirtual 39, 48, 0), (48, .aload_n 0, 49, 0), (49, .iload_n 2, 50, 0), (50, .iload 4, 52, 0), (52, .invokevirtual 47, 55, 0), (55, .invokevirtual 91, 58, 0), (58, .iinc 3 1, 61, 0), (61, .goto (-46), 64, 15), (64, .iinc 2 1, 67, 0), (67, .goto (-65), 70, 2), (70, .return_, 71, 0)]
def tc_14 : List (Nat × Instr × Nat × Nat) := [(0, .iconst (Int.ofNat 0), 1, 0), (1, .istore_n 3, 2, 0), (2, .iload_n 3, 3, 0), (3, .aload_n 0, 4, 0), (4, .getfield 15, 7, 0), (7, .getfield 77, 10, 0), (10, .if_icmp .ge 50, 13, 60), (13, .iload_n 1, 14, 0), (14, .iload_n 3, 15, 0), (15, .invokestatic 88, 18, 0), (18, .iconst (Int.ofNat 1), 19, 0), (19, .if_icmp .ne 16, 22, 35), (22, .aload_n 0, 23, 0), (23, .getfield 9, 26, 0), (26, .iload_n 3, 27, 0), (27, .dup2, 28, 0), (28, .iaload, 29, 0), (29, .iload_n 2, 30, 0), (30, .ior, 31, 0), (31, .iastore, 32, 0), (32, .goto 22, 35, 54), (35, .iload_n 2, 36, 0), (36, .iload_n 3, 37, 0), (37, .invokestatic 88, 40, 0), (40, .iconst (Int.ofNat 1), 41, 0), (41, .if_icmp .ne 13, 44, 54), (44, .aload_n 0, 45, 0), (45, .getfield 9, 48, 0), (48, .iload_n 3, 49, 0), (49, .dup2, 50, 0), (50, .iaload, 51, 0), (51, .iload_n 1, 52, 0), (52, .ior, 53, 0), (53, .iastore, 54, 0), (54, .iinc 3 1, 57, 0), (57, .goto (-55), 60, 2), (60, .return_, 61, 0)]
def tc_15 : List (Nat × Instr × Nat × Nat) := [(0, .aload_n 0, 1, 0), (1, .getfield 19, 4, 0), (4, .invokevirtual 43, 7, 0), (7, .istore_n 1, 8, 0), (8, .iconst (Int.ofNat 0), 9, 0), (9, .istore_n 2, 10, 0), (10, .bipush (Int.ofNat 11), 12, 0), (12, .istore_n 3, 13, 0), (13, .iconst (Int.ofNat 0), 14, 0), (14, .istore 4, 16, 0), (16, .iload 4, 18, 0), (18, .iconst (Int.ofNat 1), 19, 0), (19, .aload_n 0, 20, 0), (20, .getfield 19, 23, 0), (23, .getfield 60, 26, 0), (26, .ishl, 27, 0), (27, .if_icmp .ge 53, 30, 80), (30, .iload 4, 32, 0), (32, .invokestatic 80, 35, 0), (35, .istore 5, 37, 0), (37, .iload 5, 39, 0), (39, .iload_n 3, 40, 0), (40, .if_icmp .ge 34, 43, 74), (43, .iload 4, 45, 0), (45, .aload_n 0, 46, 0), (46, .getfield 19, 49, 0), (49, .getfield 53, 52, 0), (52, .iconst (Int.negSucc 0), 53, 0), (53, .ixor, 54, 0), (54, .iand, 55, 0), (55, .ifCond .ne 19, 58, 74), (58, .aload_n 0, 59, 0), (59, .iload 4, 61, 0), (61, .invokevirtual 95, 64, 0), (64, .iload_n 1, 65, 0), (65, .if_icmp .ne 9, 68, 74), (68, .iload 5, 70, 0), (70, .istore_n 3, 71, 0), (71, .iload 4, 73, 0), (73, .istore_n 2, 74, 0), (74, .iinc 4 1, 77, 0), (77, .goto (-61), 80, 16), (80, .iload_n 2, 81, 0), (81, .ireturn, 82, 0)]
def tc_16 : List (Nat × Instr × Nat × Nat) := [(0, .iconst (Int.ofNat 0), 1, 0), (1, .istore_n 2, 2, 0), (2, .iconst (Int.ofNat 0), 3, 0), (3, .istore_n 3, 4, 0), (4, .iload_n 3, 5, 0), (5, .aload_n 0, 6, 0), (6, .getfield 19, 9, 0), (9, .getfield 60, 12, 0), (12, .if_icmp .ge 30, 15, 42), (15, .iload_n 1, 16, 0), (16, .iload_n 3, 17, 0), (17, .invokestatic 88, 20, 0), (20, .iconst (Int.ofNat 1), 21, 0), (21, .if_icmp .ne 15, 24, 36), (24, .iload_n 2, 25, 0), (25, .aload_n 0, 26, 0), (26, .getfield 19, 29, 0), (29, .getfield 50, 32, 0), (32, .iload_n 3, 33, 0), (33, .iaload, 34, 0), (34, .ior, 35, 0), (35, .istore_n 2, 36, 0), (36, .iinc 3 1, 39, 0), (39, .goto (-35), 42, 4), (42, .iload_n 2, 43, 0), (43, .ireturn, 44, 0)]
def tc_17 : List (Nat × Instr × Nat × Nat) := [(0, .aload_n 0, 1, 0), (1, .getfield 19, 4, 0), (4, .getfield 50, 7, 0), (7, .iload_n 1, 8, 0), (8, .iaload, 9, 0), (9, .aload_n 0, 10, 0), (10, .aload_n 0, 11, 0), (11, .getfield 19, 14, 0), (14, .getfield 53, 17, 0), (17, .iconst (Int.ofNat 1), 18, 0), (18, .iload_n 1, 19, 0), (19, .ishl, 20, 0), (20, .iconst (Int.negSucc 0), 21, 0), (21, .ixor, 22, 0), (22, .iand, 23, 0), (23, .invokevirtual 95, 26, 0), (26, .iconst (Int.negSucc 0), 27, 0), (27, .ixor, 28, 0), (28, .iand, 29, 0), (29, .ireturn, 30, 0)]
def tc_18 : List (Nat × Instr × Nat × Nat) := [(0, .aload_n 0, 1, 0), (1, .getfield 19, 4, 0), (4, .getfield 53, 7, 0), (7, .invokestatic 80, 10, 0), (10, .iload_n 1, 11, 0), (11, .if_icmp .ge 5, 14, 16), (14, .iconst (Int.negSucc 0), 15, 0), (15, .ireturn, 16, 0), (16, .aload_n 0, 17, 0), (17, .getfield 19, 20, 0), (20, .invokevirtual 43, 23, 0), (23, .istore_n 2, 24, 0), (24, .iconst (Int.ofNat 0), 25, 0), (25, .istore_n 3, 26, 0), (26, .iconst (Int.ofNat 0), 27, 0), (27, .istore 4, 29, 0), (29, .iload 4, 31, 0), (31, .aload_n 0, 32, 0), (32, .getfield 15, 35, 0), (35, .getfield 77, 38, 0), (38, .if_icmp .ge 40, 41, 78), (41, .iload_n 2, 42, 0), (42, .iload 4, 44, 0), (44, .invokestatic 88, 47, 0), (47, .iconst (Int.ofNat 1), 48, 0), (48, .if_icmp .ne 24, 51, 72), (51, .iload_n 3, 52, 0), (52, .iconst (Int.ofNat 0), 53, 0), (53, .iload_n 1, 54, 0), (54, .aload_n 0, 55, 0), (55, .getfield 19, 58, 0), (58, .iload 4, 60, 0), (60, .invokevirtual 98, 63, 0), (63, .invokestatic 80, 66, 0), (66, .isub, 67, 0), (67, .invokestatic 101, 70, 0), (70, .iadd, 71, 0), (71, .istore_n 3, 72, 0), (72, .iinc 4 1, 75, 0), (75, .goto (-46), 78, 29), (78, .iload_n 3, 79, 0), (79, .ireturn, 80, 0)]
def tc_19 : List (Nat × Instr × Nat × Nat) := [(0, .aload_n 0, 1, 0), (1, .getfield 19, 4, 0), (4, .invokevirtual 43, 7, 0), (7, .istore_n 3, 8, 0), (8, .iconst (Int.ofNat 0), 9, 0), (9, .istore 4, 11, 0), (11, .iload 4, 13, 0), (13, .bipush (Int.ofNat 8), 15, 0), (15, .if_icmp .ge 29, 18, 44), (18, .aload_n 0, 19, 0), (19, .iload_n 1, 20, 0), (20, .iload_n 2, 21, 0), (21, .bipush (Int.ofNat 8), 23, 0), (23, .imul, 24, 0), (24, .iload 4, 26, 0), (26, .iadd, 27, 0), (27, .invokevirtual 39, 30, 0), (30, .iload_n 3, 31, 0), (31, .iand, 32, 0), (32, .ifCond .ne 6, 35, 38), (35, .iload 4, 37, 0), (37, .ireturn, 38, 0), (38, .iinc 4 1, 41, 0), (41, .goto (-30), 44, 11), (44, .iconst (Int.negSucc 0), 45, 0), (45, .ireturn, 46, 0)]
def tc_20 : List (Nat × Instr × Nat × Nat) := [(0, .iconst (Int.ofNat 0), 1, 0), (1, .istore_n 2, 2, 0), (2, .iconst (Int.ofNat 0), 3, 0), (3, .istore_n 3, 4, 0), (4, .iload_n 3, 5, 0), (5, .bipush (Int.ofNat 64), 7, 0), (7, .if_icmp .ge 30, 10, 37), (10, .aload_n 0, 11, 0), (11, .getfield 19, 14, 0), (14, .iload_n 1, 15, 0), (15, .iload_n 3, 16, 0), (16, .invokevirtual 106, 19, 0), (19, .ifCond .eq 12, 22, 31), (22, .iload_n 2, 23, 0), (23, .aload_n 0, 24, 0), (24, .iload_n 1, 25, 0), (25, .iload_n 3, 26, 0), (26, .invokevirtual 39, 29, 0), (29, .ior, 30, 0), (30, .istore_n 2, 31, 0), (31, .iinc 3 1, 34, 0), (34, .goto (-30), 37, 4), (37, .iload_n 2, 38, 0), (38, .aload_n 0, 39, 0), (39, .getfield 19, 42, 0), (42, .invokevirtual 43, 45, 0), (45, .iand, 46, 0), (46, .aload_n 0, 47, 0), (47, .getfield 19, 50, 0), (50, .getfield 50, 53, 0), (53, .iload_n 1, 54, 0), (54, .iaload, 55, 0), (55, .iconst (Int.negSucc 0), 56, 0), (56, .ixor, 57, 0), (57, .iand, 58, 0), (58, .ireturn, 59, 0)]
def tc_21 : List (Nat × Instr × Nat × Nat) := [(0, .iconst (Int.ofNat 0), 1, 0), (1, .istore_n 2, 2, 0), (2, .iconst (Int.ofNat 0), 3, 0), (3, .istore_n 3, 4, 0), (4, .iload_n 3, 5, 0), (5, .bipush (Int.ofNat 8), 7, 0), (7, .if_icmp .ge 38, 10, 45), (10, .aload_n 0, 11, 0), (11, .getfield 19, 14, 0), (14, .getfield 53, 17, 0), (17, .ifCond .eq 28, 20, 45), (20, .aload_n 0, 21, 0), (21, .iload_n 1, 22, 0), (22, .bipush (Int.ofNat 8), 24, 0), (24, .imul, 25, 0), (25, .iload_n 3, 26, 0), (26, .iadd, 27, 0), (27, .invokevirtual 109, 30, 0), (30, .ifCond .ne 9, 33, 39), (33, .iload_n 2, 34, 0), (34, .iconst (Int.ofNat 1), 35, 0), (35, .iload_n 3, 36, 0), (36, .ishl, 37, 0), (37, .ior, 38, 0), (38, .istore_n 2, 39, 0), (39, .iinc 3 1, 42, 0), (42, .goto (-38), 45, 4), (45, .iload_n 2, 46, 0), (46, .ireturn, 47, 0)]
def tc_22 : List (Nat × Instr × Nat × Nat) := [(0, .iconst (Int.ofNat 0), 1, 0), (1, .istore_n 2, 2, 0), (2, .iload_n 2, 3, 0), (3, .aload_n 0, 4, 0), (4, .getfield 19, 7, 0), (7, .getfield 60, 10, 0), (10, .if_icmp .ge 31, 13, 41), (13, .aload_n 0, 14, 0), (14, .getfield 19, 17, 0), (17, .iload_n 2, 18, 0), (18, .invokevirtual 63, 21, 0), (21, .ifCond .eq 14, 24, 35), (24, .aload_n 0, 25, 0), (25, .iload_n 2, 26, 0), (26, .iload_n 1, 27, 0), (27, .invokevirtual 112, 30, 0), (30, .ifCond .eq 5, 33, 35), (33, .iconst (Int.ofNat 1), 34, 0), (34, .ireturn, 35, 0), (35, .iinc 2 1, 38, 0), (38, .goto (-36), 41, 2), (41, .iconst (Int.ofNat 0), 42, 0), (42, .ireturn, 43, 0)]
def tc_23 : List (Nat × Instr × Nat × Nat) := [(0, .iconst (Int.negSucc 0), 1, 0), (1, .istore_n 2, 2, 0), (2, .iconst (Int.ofNat 0), 3, 0), (3, .istore_n 3, 4, 0), (4, .iconst (Int.ofNat 0), 5, 0), (5, .istore 4, 7, 0), (7, .iload 4, 9, 0), (9, .bipush (Int.ofNat 8), 11, 0), (11, .if_icmp .ge 34, 14, 45), (14, .aload_n 0, 15, 0), (15, .iload 4, 17, 0), (17, .bipush (Int.ofNat 8), 19, 0), (19, .imul, 20, 0), (20, .iload_n 1, 21, 0), (21, .iadd, 22, 0), (22, .invokevirtual 115, 25, 0), (25, .istore 5, 27, 0), (27, .iload 5, 29, 0), (29, .iload_n 3, 30, 0), (30, .if_icmp .le 9, 33, 39), (33, .iload 5, 35, 0), (35, .istore_n 3, 36, 0), (36, .iload 4, 38, 0), (38, .istore_n 2, 39, 0), (39, .iinc 4 1, 42, 0), (42, .goto (-35), 45, 7), (45, .iload_n 2, 46, 0), (46, .ireturn, 47, 0)]
def tc_24 : List (Nat × Instr × Nat × Nat) := [(0, .iconst (Int.ofNat 0), 1, 0), (1, .istore_n 2, 2, 0), (2, .iconst (Int.ofNat 0), 3, 0), (3, .istore_n 3, 4, 0), (4, .iload_n 3, 5, 0), (5, .aload_n 0, 6, 0), (6, .getfield 19, 9, 0), (9, .getfield 60, 12, 0), (12, .if_icmp .ge 60, 15, 72), (15, .iconst (Int.ofNat 0), 16, 0), (16, .istore 4, 18, 0), (18, .iload 4, 20, 0), (20, .aload_n 0, 21, 0), (21, .getfield 19, 24, 0), (24, .getfield 118, 27, 0), (27, .iload_n 3, 28, 0), (28, .iaload, 29, 0), (29, .if_icmp .ge 37, 32, 66), (32, .aload_n 0, 33, 0), (33, .getfield 19, 36, 0), (36, .iload_n 3, 37, 0), (37, .invokevirtual 63, 40, 0), (40, .ifCond .eq 26, 43, 66), (43, .aload_n 0, 44, 0), (44, .getfield 19, 47, 0), (47, .iload_n 3, 48, 0), (48, .iload 4, 50, 0), (50, .invokevirtual 121, 53, 0), (53, .iload_n 1, 54, 0), (54, .if_icmp .ne 6, 57, 60), (57, .iinc 2 1, 60, 0), (60, .iinc 4 1, 63, 0), (63, .goto (-45), 66, 18), (66, .iinc 3 1, 69, 0), (69, .goto (-65), 72, 4), (72, .iload_n 2, 73, 0), (73, .ireturn, 74, 0)]
def tc_25 : List (Nat × Instr × Nat × Nat) := [(0, .iconst (Int.negSucc 0), 1, 0), (1, .istore_n 3, 2, 0), (2, .iconst (Int.ofNat 0), 3, 0), (3, .istore 4, 5, 0), (5, .iload 4, 7, 0), (7, .aload_n 0, 8, 0), (8, .getfield 19, 11, 0), (11, .getfield 118, 14, 0), (14, .iload_n 1, 15, 0), (15, .iaload, 16, 0), (16, .if_icmp .ge 39, 19, 55), (19, .iload 4, 21, 0), (21, .iload_n 2, 22, 0), (22, .if_icmp .eq 27, 25, 49), (25, .iload_n 3, 26, 0), (26, .iconst (Int.negSucc 0), 27, 0), (27, .if_icmp .eq 19, 30, 46), (30, .aload_n 0, 31, 0), (31, .iload_n 1, 32, 0), (32, .iload 4, 34, 0), (34, .invokevirtual 124, 37, 0), (37, .aload_n 0, 38, 0), (38, .iload_n 1, 39, 0), (39, .iload_n 3, 40, 0), (40, .invokevirtual 124, 43, 0), (43, .if_icmp .le 6, 46, 49), (46, .iload 4, 48, 0), (48, .istore_n 3, 49, 0), (49, .iinc 4 1, 52, 0), (52, .goto (-47), 55, 5), (55, .iload_n 3, 56, 0), (56, .ireturn, 57, 0)]
def tc_26 : List (Nat × Instr × Nat × Nat) := [(0, .iload_n 2, 1, 0), (1, .ifCond .lt 16, 4, 17), (4, .iload_n 2, 5, 0), (5, .aload_n 0, 6, 0), (6, .getfield 19, 9, 0), (9, .getfield 118, 12, 0), (12, .iload_n 1, 13, 0), (13, .iaload, 14, 0), (14, .if_icmp .lt 5, 17, 19), (17, .iconst (Int.ofNat 0), 18, 0), (18, .ireturn, 19, 0), (19, .aload_n 0, 20, 0), (20, .getfield 19, 23, 0), (23, .iload_n 1, 24, 0), (24, .iload_n 2, 25, 0), (25, .invokevirtual 121, 28, 0), (28, .istore_n 3, 29, 0), (29, .aload_n 0, 30, 0), (30, .getfield 19, 33, 0), (33, .getfield 127, 36, 0), (36, .iload_n 3, 37, 0), (37, .bipush (Int.ofNat 8), 39, 0), (39, .idiv, 40, 0), (40, .iaload, 41, 0), (41, .istore 4, 43, 0), (43, .aload_n 0, 44, 0), (44, .iload_n 1, 45, 0), (45, .iload_n 3, 46, 0), (46, .invokevirtual 130, 49, 0), (49, .ifCond .ne 8, 52, 57), (52, .iload 4, 54, 0), (54, .goto 6, 57, 60), (57, .iload 4, 59, 0), (59, .ineg, 60, 0), (60, .ireturn, 61, 0)]
def tc_27 : List (Nat × Instr × Nat × Nat) := [(0, .iconst (Int.ofNat 0), 1, 0), (1, .istore_n 3, 2, 0), (2, .iconst (Int.ofNat 0), 3, 0), (3, .istore 4, 5, 0), (5, .iload 4, 7, 0), (7, .aload_n 0, 8, 0), (8, .getfield 19, 11, 0), (11, .getfield 60, 14, 0), (14, .if_icmp .ge 42, 17, 56), (17, .aload_n 0, 18, 0), (18, .getfield 19, 21, 0), (21, .iload 4, 23, 0), (23, .invokevirtual 63, 26, 0), (26, .ifCond .eq 24, 29, 50), (29, .aload_n 0, 30, 0), (30, .getfield 19, 33, 0), (33, .iload 4, 35, 0), (35, .iload_n 2, 36, 0), (36, .invokevirtual 133, 39, 0), (39, .iload_n 1, 40, 0), (40, .if_icmp .ne 10, 43, 50), (43, .iload_n 3, 44, 0), (44, .iconst (Int.ofNat 1), 45, 0), (45, .iload 4, 47, 0), (47, .ishl, 48, 0), (48, .ior, 49, 0), (49, .istore_n 3, 50, 0), (50, .iinc 4 1, 53, 0), (53, .goto (-48), 56, 5), (56, .iload_n 3, 57, 0), (57, .ireturn, 58, 0)]
def tc_28 : List (Nat × Instr × Nat × Nat) := [(0, .iconst (Int.ofNat 0), 1, 0), (1, .istore 4, 3, 0), (3, .iconst (Int.ofNat 0), 4, 0), (4, .istore 5, 6, 0), (6, .iload 5, 8, 0), (8, .iload_n 3, 9, 0), (9, .if_icmp .ge 35, 12, 44), (12, .aload_n 0, 13, 0), (13, .getfield 19, 16, 0), (16, .iload_n 1, 17, 0), (17, .iload 5, 19, 0), (19, .invokevirtual 133, 22, 0), (22, .aload_n 0, 23, 0), (23, .getfield 19, 26, 0), (26, .iload_n 2, 27, 0), (27, .iload 5, 29, 0), (29, .invokevirtual 133, 32, 0), (32, .if_icmp .ne 6, 35, 38), (35, .iinc 4 1, 38, 0), (38, .iinc 5 1, 41, 0), (41, .goto (-35), 44, 6), (44, .iload 4, 46, 0), (46, .ireturn, 47, 0)]
def tc_29 : List (Nat × Instr × Nat × Nat) := [(0, .aload_n 0, 1, 0), (1, .invokespecial 3, 4, 0), (4, .aload_n 0, 5, 0), (5, .bipush (Int.ofNat 12), 7, 0), (7, .newarray .int, 9, 0), (9, .putfield 9, 12, 0), (12, .aload_n 0, 13, 0), (13, .bipush (Int.ofNat 12), 15, 0), (15, .newarray .int, 17, 0), (17, .putfield 15, 20, 0), (20, .aload_n 0, 21, 0), (21, .sipush (Int.ofNat 200), 24, 0), (24, .newarray .int, 26, 0), (26, .putfield 18, 29, 0), (29, .aload_n 0, 30, 0), (30, .sipush (Int.ofNat 665), 33, 0), (33, .newarray .int, 35, 0), (35, .putfield 21, 38, 0), (38, .return_, 39, 0)]
def tc_30 : List (Nat × Instr × Nat × Nat) := [(0, .aload_n 0, 1, 0), (1, .aload_n 1, 2, 0), (2, .getfield 24, 5, 0), (5, .putfield 24, 8, 0), (8, .aload_n 0, 9, 0), (9, .aload_n 1, 10, 0), (10, .getfield 28, 13, 0), (13, .putfield 28, 16, 0), (16, .aload_n 0, 17, 0), (17, .aload_n 1, 18, 0), (18, .getfield 32, 21, 0), (21, .putfield 32, 24, 0), (24, .aload_n 0, 25, 0), (25, .aload_n 1, 26, 0), (26, .getfield 35, 29, 0), (29, .putfield 35, 32, 0), (32, .aload_n 0, 33, 0), (33, .aload_n 1, 34, 0), (34, .getfield 38, 37, 0), (37, .putfield 38, 40, 0), (40, .aload_n 1, 41, 0), (41, .getfield 9, 44, 0), (44, .iconst (Int.ofNat 0), 45, 0), (45, .aload_n 0, 46, 0), (46, .getfield 9, 49, 0), (49, .iconst (Int.ofNat 0), 50, 0), (50, .aload_n 0, 51, 0), (51, .getfield 9, 54, 0), (54, .arraylength, 55, 0), (55, .invokestatic 41, 58, 0), (58, .aload_n 1, 59, 0), (59, .getfield 15, 62, 0), (62, .iconst (Int.ofNat 0), 63, 0), (63, .aload_n 0, 64, 0), (64, .getfield 15, 67, 0), (67, .iconst (Int.ofNat 0), 68, 0), (68, .aload_n 0, 69, 0), (69, .getfield 15, 72, 0), (72, .arraylength, 73, 0), (73, .invokestatic 41, 76, 0), (76, .aload_n 1, 77, 0), (77, .getfield 18, 80, 0), (80, .iconst (Int.ofNat 0), 81, 0), (81, .aload_n 0, 82, 0), (82, .getfield 18, 85, 0), (85, .iconst (Int.ofNat 0), 86, 0), (86, .aload_n 0, 87, 0), (87, .getfield 18, 90, 0), (90, .arraylength, 91, 0), (91, .invokestatic 41, 94, 0), (94, .aload_n 1, 95, 0), (95, .getfield 21, 98, 0), (98, .iconst (Int.ofNat 0), 99, 0), (99, .aload_n 0, 100, 0), (100, .getfield 21, 103, 0), (103, .iconst (Int.ofNat 0), 104, 0), (104, .aload_n 0, 105, 0), (105, .getfield 21, 108, 0), (108, .arraylength, 109, 0), (109, .invokestatic 41, 112, 0), (112, .return_, 113, 0)]
def tc_31 : List (Nat × Instr × Nat × Nat) := [(0, .aload_n 0, 1, 0), (1, .iconst (Int.ofNat 0), 2, 0), (2, .putfield 24, 5, 0), (5, .aload_n 0, 6, 0), (6, .iconst (Int.ofNat 0), 7, 0), (7, .putfield 28, 10, 0), (10, .aload_n 0, 11, 0), (11, .iconst (Int.ofNat 0), 12, 0), (12, .putfield 32, 15, 0), (15, .aload_n 0, 16, 0), (16, .iconst (Int.ofNat 0), 17, 0), (17, .putfield 35, 20, 0), (20, .aload_n 0, 21, 0), (21, .iconst (Int.ofNat 0), 22, 0), (22, .putfield 38, 25, 0), (25, .return_, 26, 0)]
def tc_32 : List (Nat × Instr × Nat × Nat) := [(0, .aload_n 0, 1, 0), (1, .getfield 35, 4, 0), (4, .aload_n 0, 5, 0), (5, .getfield 18, 8, 0), (8, .arraylength, 9, 0), (9, .if_icmp .ge 23, 12, 32), (12, .aload_n 0, 13, 0), (13, .getfield 18, 16, 0), (16, .aload_n 0, 17, 0), (17, .getfield 35, 20, 0), (20, .iload_n 1, 21, 0), (21, .iastore, 22, 0), (22, .aload_n 0, 23, 0), (23, .dup, 24, 0), (24, .getfield 35, 27, 0), (27, .iconst (Int.ofNat 1), 28, 0), (28, .iadd, 29, 0), (29, .putfield 35, 32, 0), (32, .return_, 33, 0)]
def tc_33 : List (Nat × Instr × Nat × Nat) := [(0, .aload_n 0, 1, 0), (1, .getfield 38, 4, 0), (4, .istore_n 1, 5, 0), (5, .iload_n 1, 6, 0), (6, .iconst (Int.ofNat 5), 7, 0), (7, .iadd, 8, 0), (8, .aload_n 0, 9, 0), (9, .getfield 21, 12, 0), (12, .arraylength, 13, 0), (13, .if_icmp .le 5, 16, 18), (16, .iconst (Int.negSucc 0), 17, 0), (17, .ireturn, 18, 0), (18, .iconst (Int.ofNat 0), 19, 0), (19, .istore_n 2, 20, 0), (20, .iload_n 2, 21, 0), (21, .iconst (Int.ofNat 5), 22, 0), (22, .if_icmp .ge 18, 25, 40), (25, .aload_n 0, 26, 0), (26, .getfield 21, 29, 0), (29, .iload_n 1, 30, 0), (30, .iload_n 2, 31, 0), (31, .iadd, 32, 0), (32, .iconst (Int.ofNat 0), 33, 0), (33, .iastore, 34, 0), (34, .iinc 2 1, 37, 0), (37, .goto (-17), 40, 20), (40, .aload_n 0, 41, 0), (41, .dup, 42, 0), (42, .getfield 38, 45, 0), (45, .iconst (Int.ofNat 5), 46, 0), (46, .iadd, 47, 0), (47, .putfield 38, 50, 0), (50, .iload_n 1, 51, 0), (51, .ireturn, 52, 0)]
def tc_34 : List (Nat × Instr × Nat × Nat) := [(0, .aload_n 0, 1, 0), (1, .getfield 28, 4, 0), (4, .bipush (Int.ofNat 12), 6, 0), (6, .if_icmp .ge 59, 9, 65), (9, .aload_n 0, 10, 0), (10, .getfield 9, 13, 0), (13, .aload_n 0, 14, 0), (14, .getfield 28, 17, 0), (17, .iload_n 2, 18, 0), (18, .iastore, 19, 0), (19, .aload_n 0, 20, 0), (20, .getfield 15, 23, 0), (23, .aload_n 0, 24, 0), (24, .getfield 28, 27, 0), (27, .aload_n 0, 28, 0), (28, .getfield 35, 31, 0), (31, .iastore, 32, 0), (32, .aload_n 0, 33, 0), (33, .dup, 34, 0), (34, .getfield 32, 37, 0), (37, .iload_n 1, 38, 0), (38, .ifCond .eq 12, 41, 50), (41, .iconst (Int.ofNat 1), 42, 0), (42, .aload_n 0, 43, 0), (43, .getfield 28, 46, 0), (46, .ishl, 47, 0), (47, .goto 4, 50, 51), (50, .iconst (Int.ofNat 0), 51, 0), (51, .ior, 52, 0), (52, .putfield 32, 55, 0), (55, .aload_n 0, 56, 0), (56, .dup, 57, 0), (57, .getfield 28, 60, 0), (60, .iconst (Int.ofNat 1), 61, 0), (61, .iadd, 62, 0), (62, .putfield 28, 65, 0), (65, .return_, 66, 0)]
def tc_35 : List (Nat × Instr × Nat × Nat) := [(0, .aload_n 0, 1, 0), (1, .getfield 32, 4, 0), (4, .iconst (Int.negSucc 0), 5, 0), (5, .ixor, 6, 0), (6, .iconst (Int.ofNat 1), 7, 0), (7, .aload_n 0, 8, 0), (8, .getfield 28, 11, 0), (11, .ishl, 12, 0), (12, .iconst (Int.ofNat 1), 13, 0), (13, .isub, 14, 0), (14, .iand, 15, 0), (15, .ireturn, 16, 0)]
def tc_36 : List (Nat × Instr × Nat × Nat) := [(0, .iconst (Int.ofNat 0), 1, 0), (1, .istore 6, 3, 0), (3, .iload_n 2, 4, 0), (4, .bipush (Int.ofNat 8), 6, 0), (6, .idiv, 7, 0), (7, .istore 7, 9, 0), (9, .iload_n 1, 10, 0), (10, .ifCond .eq 7, 13, 17), (13, .iconst (Int.ofNat 1), 14, 0), (14, .goto 4, 17, 18), (17, .iconst (Int.ofNat 0), 18, 0), (18, .istore 8, 20, 0), (20, .iconst (Int.ofNat 0), 21, 0), (21, .istore 9, 23, 0), (23, .iload 9, 25, 0), (25, .aload_n 0, 26, 0), (26, .getfield 28, 29, 0), (29, .if_icmp .ge 62, 32, 91), (32, .aload_n 0, 33, 0), (33, .getfield 9, 36, 0), (36, .iload 9, 38, 0), (38, .iaload, 39, 0), (39, .iload 7, 41, 0), (41, .if_icmp .ne 44, 44, 85), (44, .aload_n 0, 45, 0), (45, .getfield 32, 48, 0), (48, .iload 9, 50, 0), (50, .invokestatic 47, 53, 0), (53, .iload 8, 55, 0), (55, .if_icmp .ne 30, 58, 85), (58, .aload_n 0, 59, 0), (59, .iload 9, 61, 0), (61, .iload_n 2, 62, 0), (62, .bipush (Int.ofNat 8), 64, 0), (64, .irem, 65, 0), (65, .iload_n 3, 66, 0), (66, .iload 4, 68, 0), (68, .iload 5, 70, 0), (70, .invokevirtual 51, 73, 0), (73, .ifCond .eq 12, 76, 85), (76, .iload 6, 78, 0), (78, .iconst (Int.ofNat 1), 79, 0), (79, .iload 9, 81, 0), (81, .ishl, 82, 0), (82, .ior, 83, 0), (83, .istore 6, 85, 0), (85, .iinc 9 1, 88, 0), (88, .goto (-65), 91, 23), (91, .iload 6, 93, 0), (93, .ireturn, 94, 0)]
def tc_37_0 : List (Nat × Instr × Nat × Nat) := [(0, .iload_n 1, 1, 0), (1, .ifCond .ne 7, 4, 8), (4, .iconst (Int.ofNat 0), 5, 0), (5, .goto 11, 8, 16), (8, .aload_n 0, 9, 0), (9, .getfield 15, 12, 0), (12, .iload_n 1, 13, 0), (13, .iconst (Int.ofNat 1), 14, 0), (14, .isub, 15, 0), (15, .iaload, 16, 0), (16, .istore 6, 18, 0), (18, .iconst (Int.ofNat 1), 19, 0), (19, .istore 7, 21, 0), (21, .iload 6, 23, 0), (23, .istore 8, 25, 0), (25, .iload 8, 27, 0), (27, .aload_n 0, 28, 0), (28, .getfield 15, 31, 0), (31, .iload_n 1, 32, 0), (32, .iaload, 33, 0), (33, .if_icmp .ge 203, 36, 236), (36, .aload_n 0, 37, 0), (37, .getfield 18, 40, 0), (40, .iload 8, 42, 0), (42, .iaload, 43, 0), (43, .istore 9, 45, 0), (45, .iload 7, 47, 0), (47, .iconst (Int.ofNat 1), 48, 0), (48, .iand, 49, 0), (49, .istore 10, 51, 0), (51, .iload 9, 53, 0), (53, .iconst (Int.negSucc 0), 54, 0), (54, .if_icmp .ne 26, 57, 80), (57, .iload 7, 59, 0), (59, .iconst (Int.ofNat 1), 60, 0), (60, .ishl, 61, 0), (61, .iload 5, 63, 0), (63, .bipush (Int.ofNat 7), 65, 0), (65, .irem, 66, 0), (66, .ifCond .ne 7, 69, 73), (69, .iconst (Int.ofNat 1), 70, 0), (70, .goto 4, 73, 74), (73, .iconst (Int.ofNat 0), 74, 0), (74, .ior, 75, 0), (75, .istore 7, 77, 0), (77, .goto 153, 80, 230), (80, .iload 9, 82, 0), (82, .bipush (Int.negSucc 1), 84, 0), (84, .if_icmp .ne 12, 87, 96), (87, .iload 7, 89, 0), (89, .iconst (Int.ofNat 1), 90, 0), (90, .ixor, 91, 0), (91, .istore 7, 93, 0), (93, .goto 137, 96, 230), (96, .iload 9, 98, 0), (98, .bipush (Int.negSucc 2), 100, 0), (100, .if_icmp .ne 18, 103, 118), (103, .iload 7, 105, 0), (105, .iconst (Int.ofNat 1), 106, 0), (106, .ishr, 107, 0)]
def tc_37_1 : List (Nat × Instr × Nat × Nat) := [(107, .iload 10, 109, 0), (109, .bipush (Int.negSucc 1), 111, 0), (111, .ior, 112, 0), (112, .iand, 113, 0), (113, .istore 7, 115, 0), (115, .goto 115, 118, 230), (118, .iload 9, 120, 0), (120, .bipush (Int.negSucc 3), 122, 0), (122, .if_icmp .ne 15, 125, 137), (125, .iload 7, 127, 0), (127, .iconst (Int.ofNat 1), 128, 0), (128, .ishr, 129, 0), (129, .iload 10, 131, 0), (131, .ior, 132, 0), (132, .istore 7, 134, 0), (134, .goto 96, 137, 230), (137, .iload 9, 139, 0), (139, .ifCond .lt 91, 142, 230), (142, .iload 9, 144, 0), (144, .iconst (Int.ofNat 5), 145, 0), (145, .iadd, 146, 0), (146, .aload_n 0, 147, 0), (147, .getfield 21, 150, 0), (150, .arraylength, 151, 0), (151, .if_icmp .gt 79, 154, 230), (154, .aload_n 0, 155, 0), (155, .getfield 21, 158, 0), (158, .iload 9, 160, 0), (160, .iaload, 161, 0), (161, .aload_n 0, 162, 0), (162, .getfield 21, 165, 0), (165, .iload 9, 167, 0), (167, .iconst (Int.ofNat 1), 168, 0), (168, .iadd, 169, 0), (169, .iaload, 170, 0), (170, .iload_n 2, 171, 0), (171, .imul, 172, 0), (172, .iadd, 173, 0), (173, .aload_n 0, 174, 0), (174, .getfield 21, 177, 0), (177, .iload 9, 179, 0), (179, .iconst (Int.ofNat 2), 180, 0), (180, .iadd, 181, 0), (181, .iaload, 182, 0), (182, .iload 5, 184, 0), (184, .imul, 185, 0), (185, .iadd, 186, 0), (186, .aload_n 0, 187, 0), (187, .getfield 21, 190, 0), (190, .iload 9, 192, 0), (192, .iconst (Int.ofNat 3), 193, 0), (193, .iadd, 194, 0), (194, .iaload, 195, 0), (195, .iload_n 3, 196, 0), (196, .imul, 197, 0), (197, .iadd, 198, 0), (198, .aload_n 0, 199, 0), (199, .getfield 21, 202, 0), (202, .iload 9, 204, 0), (204, .iconst (Int.ofNat 4), 205, 0)]
def tc_37_2 : List (Nat × Instr × Nat × Nat) := [(205, .iadd, 206, 0), (206, .iaload, 207, 0), (207, .iload 4, 209, 0), (209, .imul, 210, 0), (210, .iadd, 211, 0), (211, .istore 11, 213, 0), (213, .iload 7, 215, 0), (215, .iconst (Int.ofNat 1), 216, 0), (216, .ishl, 217, 0), (217, .iload 11, 219, 0), (219, .ifCond .le 7, 222, 226), (222, .iconst (Int.ofNat 1), 223, 0), (223, .goto 4, 226, 227), (226, .iconst (Int.ofNat 0), 227, 0), (227, .ior, 228, 0), (228, .istore 7, 230, 0), (230, .iinc 8 1, 233, 0), (233, .goto (-208), 236, 25), (236, .iload 7, 238, 0), (238, .iconst (Int.ofNat 1), 239, 0), (239, .iand, 240, 0), (240, .iconst (Int.ofNat 1), 241, 0), (241, .if_icmp .ne 7, 244, 248), (244, .iconst (Int.ofNat 1), 245, 0), (245, .goto 4, 248, 249), (248, .iconst (Int.ofNat 0), 249, 0), (249, .ireturn, 250, 0)]
def tc_37 : List (Nat × Instr × Nat × Nat) := tc_37_0 ++ (tc_37_1 ++ tc_37_2)
def tc_38 : List (Nat × Instr × Nat × Nat) := [(0, .aload_n 0, 1, 0), (1, .invokespecial 3, 4, 0), (4, .aload_n 0, 5, 0), (5, .aload_n 1, 6, 0), (6, .putfield 9, 9, 0), (9, .aload_n 0, 10, 0), (10, .aload_n 2, 11, 0), (11, .putfield 15, 14, 0), (14, .return_, 15, 0)]
def tc_39 : List (Nat × Instr × Nat × Nat) := [(0, .aload_n 0, 1, 0), (1, .getfield 15, 4, 0), (4, .invokevirtual 19, 7, 0), (7, .aload_n 0, 8, 0), (8, .getfield 15, 11, 0), (11, .iconst (Int.ofNat 1), 12, 0), (12, .putfield 24, 15, 0), (15, .aload_n 0, 16, 0), (16, .getfield 9, 19, 0), (19, .invokevirtual 28, 22, 0), (22, .bipush (Int.ofNat 21), 24, 0), (24, .if_icmp .ne 5, 27, 29), (27, .iconst (Int.negSucc 0), 28, 0), (28, .ireturn, 29, 0), (29, .iconst (Int.ofNat 0), 30, 0), (30, .istore_n 1, 31, 0), (31, .iload_n 1, 32, 0), (32, .bipush (Int.ofNat 12), 34, 0), (34, .if_icmp .ge 65, 37, 99), (37, .aload_n 0, 38, 0), (38, .invokevirtual 34, 41, 0), (41, .ifCond .ne 11, 44, 52), (44, .aload_n 0, 45, 0), (45, .getfield 9, 48, 0), (48, .invokevirtual 38, 51, 0), (51, .ireturn, 52, 0), (52, .aload_n 0, 53, 0), (53, .getfield 9, 56, 0), (56, .invokevirtual 28, 59, 0), (59, .bipush (Int.ofNat 21), 61, 0), (61, .if_icmp .ne 5, 64, 66), (64, .iconst (Int.negSucc 0), 65, 0), (65, .ireturn, 66, 0), (66, .aload_n 0, 67, 0), (67, .getfield 9, 70, 0), (70, .invokevirtual 28, 73, 0), (73, .bipush (Int.ofNat 59), 75, 0), (75, .if_icmp .eq 11, 78, 86), (78, .aload_n 0, 79, 0), (79, .getfield 9, 82, 0), (82, .invokevirtual 38, 85, 0), (85, .ireturn, 86, 0), (86, .aload_n 0, 87, 0), (87, .getfield 9, 90, 0), (90, .invokevirtual 41, 93, 0), (93, .iinc 1 1, 96, 0), (96, .goto (-65), 99, 31), (99, .aload_n 0, 100, 0), (100, .getfield 9, 103, 0), (103, .invokevirtual 38, 106, 0), (106, .ireturn, 107, 0)]
def tc_40 : List (Nat × Instr × Nat × Nat) := [(0, .aload_n 0, 1, 0), (1, .getfield 9, 4, 0), (4, .invokevirtual 28, 7, 0), (7, .iconst (Int.ofNat 1), 8, 0), (8, .if_icmp .ne 7, 11, 15), (11, .iconst (Int.ofNat 1), 12, 0), (12, .goto 4, 15, 16), (15, .iconst (Int.ofNat 0), 16, 0), (16, .istore_n 1, 17, 0), (17, .iload_n 1, 18, 0), (18, .ifCond .ne 15, 21, 33), (21, .aload_n 0, 22, 0), (22, .getfield 9, 25, 0), (25, .invokevirtual 28, 28, 0), (28, .ifCond .eq 5, 31, 33), (31, .iconst (Int.ofNat 0), 32, 0), (32, .ireturn, 33, 0), (33, .aload_n 0, 34, 0), (34, .getfield 9, 37, 0), (37, .invokevirtual 41, 40, 0), (40, .aload_n 0, 41, 0), (41, .getfield 9, 44, 0), (44, .iconst (Int.ofNat 0), 45, 0), (45, .bipush (Int.ofNat 7), 47, 0), (47, .invokevirtual 44, 50, 0), (50, .istore_n 2, 51, 0), (51, .iload_n 2, 52, 0), (52, .iconst (Int.negSucc 0), 53, 0), (53, .if_icmp .ne 5, 56, 58), (56, .iconst (Int.ofNat 0), 57, 0), (57, .ireturn, 58, 0), (58, .aload_n 0, 59, 0), (59, .getfield 9, 62, 0), (62, .invokevirtual 28, 65, 0), (65, .iconst (Int.ofNat 2), 66, 0), (66, .if_icmp .ne 20, 69, 86), (69, .aload_n 0, 70, 0), (70, .getfield 9, 73, 0), (73, .invokevirtual 41, 76, 0), (76, .aload_n 0, 77, 0), (77, .iconst (Int.ofNat 0), 78, 0), (78, .invokevirtual 48, 81, 0), (81, .ifCond .ne 5, 84, 86), (84, .iconst (Int.ofNat 0), 85, 0), (85, .ireturn, 86, 0), (86, .aload_n 0, 87, 0), (87, .getfield 15, 90, 0), (90, .iload_n 1, 91, 0), (91, .iload_n 2, 92, 0), (92, .invokevirtual 52, 95, 0), (95, .iconst (Int.ofNat 1), 96, 0), (96, .ireturn, 97, 0)]
def tc_41 : List (Nat × Instr × Nat × Nat) := [(0, .iconst (Int.ofNat 0), 1, 0), (1, .istore_n 2, 2, 0), (2, .iconst (Int.ofNat 0), 3, 0), (3, .istore_n 3, 4, 0), (4, .iconst (Int.ofNat 0), 5, 0), (5, .istore 4, 7, 0), (7, .iload 4, 9, 0), (9, .sipush (Int.ofNat 400), 12, 0), (12, .if_icmp .ge 96, 15, 108), (15, .aload_n 0, 16, 0), (16, .iload_n 1, 17, 0), (17, .invokevirtual 56, 20, 0), (20, .ifCond .ne 5, 23, 25), (23, .iconst (Int.ofNat 0), 24, 0), (24, .ireturn, 25, 0), (25, .iload_n 2, 26, 0), (26, .ifCond .eq 12, 29, 38), (29, .aload_n 0, 30, 0), (30, .getfield 15, 33, 0), (33, .bipush (Int.negSucc 2), 35, 0), (35, .invokevirtual 59, 38, 0), (38, .aload_n 0, 39, 0), (39, .getfield 9, 42, 0), (42, .invokevirtual 28, 45, 0), (45, .iconst (Int.ofNat 4), 46, 0), (46, .if_icmp .ne 7, 49, 53), (49, .iconst (Int.ofNat 1), 50, 0), (50, .goto 4, 53, 54), (53, .iconst (Int.ofNat 0), 54, 0), (54, .istore_n 2, 55, 0), (55, .iload_n 2, 56, 0), (56, .ifCond .ne 39, 59, 95), (59, .iload_n 3, 60, 0), (60, .ifCond .eq 12, 63, 72), (63, .aload_n 0, 64, 0), (64, .getfield 15, 67, 0), (67, .bipush (Int.negSucc 3), 69, 0), (69, .invokevirtual 59, 72, 0), (72, .aload_n 0, 73, 0), (73, .getfield 9, 76, 0), (76, .invokevirtual 28, 79, 0), (79, .iconst (Int.ofNat 3), 80, 0), (80, .if_icmp .ne 7, 83, 87), (83, .iconst (Int.ofNat 1), 84, 0), (84, .goto 4, 87, 88), (87, .iconst (Int.ofNat 0), 88, 0), (88, .istore_n 3, 89, 0), (89, .iload_n 3, 90, 0), (90, .ifCond .ne 5, 93, 95), (93, .iconst (Int.ofNat 1), 94, 0), (94, .ireturn, 95, 0), (95, .aload_n 0, 96, 0), (96, .getfield 9, 99, 0), (99, .invokevirtual 41, 102, 0), (102, .iinc 4 1, 105, 0), (105, .goto (-98), 108, 7), (108, .iconst (Int.ofNat 0), 109, 0), (109, .ireturn, 110, 0)]
def tc_42 : List (Nat × Instr × Nat × Nat) := [(0, .aload_n 0, 1, 0), (1, .getfield 9, 4, 0), (4, .invokevirtual 28, 7, 0), (7, .istore_n 2, 8, 0), (8, .iload_n 2, 9, 0), (9, .bipush (Int.ofNat 6), 11, 0), (11, .if_icmp .ne 20, 14, 31), (14, .aload_n 0, 15, 0), (15, .getfield 9, 18, 0), (18, .invokevirtual 41, 21, 0), (21, .aload_n 0, 22, 0), (22, .getfield 15, 25, 0), (25, .iconst (Int.negSucc 0), 26, 0), (26, .invokevirtual 59, 29, 0), (29, .iconst (Int.ofNat 1), 30, 0), (30, .ireturn, 31, 0), (31, .iload_n 2, 32, 0), (32, .iconst (Int.ofNat 5), 33, 0), (33, .if_icmp .eq 14, 36, 47), (36, .iload_n 2, 37, 0), (37, .bipush (Int.ofNat 40), 39, 0), (39, .if_icmp .eq 8, 42, 47), (42, .aload_n 0, 43, 0), (43, .invokevirtual 63, 46, 0), (46, .ireturn, 47, 0), (47, .iload_n 1, 48, 0), (48, .bipush (Int.ofNat 6), 50, 0), (50, .if_icmp .lt 5, 53, 55), (53, .iconst (Int.ofNat 0), 54, 0), (54, .ireturn, 55, 0), (55, .aload_n 0, 56, 0), (56, .getfield 9, 59, 0), (59, .invokevirtual 41, 62, 0), (62, .iload_n 2, 63, 0), (63, .iconst (Int.ofNat 5), 64, 0), (64, .if_icmp .ne 26, 67, 90), (67, .aload_n 0, 68, 0), (68, .iload_n 1, 69, 0), (69, .iconst (Int.ofNat 1), 70, 0), (70, .iadd, 71, 0), (71, .invokevirtual 56, 74, 0), (74, .ifCond .ne 5, 77, 79), (77, .iconst (Int.ofNat 0), 78, 0), (78, .ireturn, 79, 0), (79, .aload_n 0, 80, 0), (80, .getfield 15, 83, 0), (83, .bipush (Int.negSucc 1), 85, 0), (85, .invokevirtual 59, 88, 0), (88, .iconst (Int.ofNat 1), 89, 0), (89, .ireturn, 90, 0), (90, .aload_n 0, 91, 0), (91, .iload_n 1, 92, 0), (92, .iconst (Int.ofNat 1), 93, 0), (93, .iadd, 94, 0), (94, .invokevirtual 48, 97, 0), (97, .ifCond .eq 15, 100, 112), (100, .aload_n 0, 101, 0), (101, .getfield 9, 104, 0), (104, .invokevirtual 28, 107, 0), (107, .bipush (Int.ofNat 41), 109, 0), (109, .if_icmp .eq 5, 112, 114), (112, .iconst (Int.ofNat 0), 113, 0), (113, .ireturn, 114, 0), (114, .aload_n 0, 115, 0), (115, .getfield 9, 118, 0), (118, .invokevirtual 41, 121, 0), (121, .iconst (Int.ofNat 1), 122, 0), (122, .ireturn, 123, 0)]
def tc_43 : List (Nat × Instr × Nat × Nat) := [(0, .aload_n 0, 1, 0), (1, .getfield 15, 4, 0), (4, .invokevirtual 66, 7, 0), (7, .istore_n 1, 8, 0), (8, .iload_n 1, 9, 0), (9, .iconst (Int.negSucc 0), 10, 0), (10, .if_icmp .eq 12, 13, 22), (13, .aload_n 0, 14, 0), (14, .iload_n 1, 15, 0), (15, .iconst (Int.ofNat 1), 16, 0), (16, .invokevirtual 69, 19, 0), (19, .ifCond .ne 5, 22, 24), (22, .iconst (Int.ofNat 0), 23, 0), (23, .ireturn, 24, 0), (24, .aload_n 0, 25, 0), (25, .getfield 9, 28, 0), (28, .invokevirtual 28, 31, 0), (31, .istore_n 2, 32, 0), (32, .iload_n 2, 33, 0), (33, .bipush (Int.ofNat 60), 35, 0), (35, .if_icmp .eq 11, 38, 46), (38, .iload_n 2, 39, 0), (39, .bipush (Int.ofNat 62), 41, 0), (41, .if_icmp .eq 5, 44, 46), (44, .iconst (Int.ofNat 0), 45, 0), (45, .ireturn, 46, 0), (46, .aload_n 0, 47, 0), (47, .getfield 9, 50, 0), (50, .invokevirtual 41, 53, 0), (53, .iload_n 2, 54, 0), (54, .bipush (Int.ofNat 60), 56, 0), (56, .if_icmp .ne 39, 59, 95), (59, .iconst (Int.ofNat 0), 60, 0), (60, .istore_n 3, 61, 0), (61, .iload_n 3, 62, 0), (62, .iconst (Int.ofNat 5), 63, 0), (63, .if_icmp .ge 32, 66, 95), (66, .aload_n 0, 67, 0), (67, .getfield 15, 70, 0), (70, .getfield 73, 73, 0), (73, .iload_n 1, 74, 0), (74, .iload_n 3, 75, 0), (75, .iadd, 76, 0), (76, .aload_n 0, 77, 0), (77, .getfield 15, 80, 0), (80, .getfield 73, 83, 0), (83, .iload_n 1, 84, 0), (84, .iload_n 3, 85, 0), (85, .iadd, 86, 0), (86, .iaload, 87, 0), (87, .ineg, 88, 0), (88, .iastore, 89, 0), (89, .iinc 3 1, 92, 0), (92, .goto (-31), 95, 61), (95, .aload_n 0, 96, 0), (96, .iload_n 1, 97, 0), (97, .iload_n 2, 98, 0), (98, .bipush (Int.ofNat 60), 100, 0), (100, .if_icmp .ne 7, 103, 107), (103, .iconst (Int.ofNat 1), 104, 0), (104, .goto 4, 107, 108), (107, .iconst (Int.negSucc 0), 108, 0), (108, .invokevirtual 69, 111, 0), (111, .ifCond .ne 5, 114, 116), (114, .iconst (Int.ofNat 0), 115, 0), (115, .ireturn, 116, 0), (116, .aload_n 0, 117, 0), (117, .getfield 15, 120, 0), (120, .iload_n 1, 121, 0), (121, .invokevirtual 59, 124, 0), (124, .iconst (Int.ofNat 1), 125, 0), (125, .ireturn, 126, 0)]
def tc_44_0 : List (Nat × Instr × Nat × Nat) := [(0, .iconst (Int.ofNat 0), 1, 0), (1, .istore_n 3, 2, 0), (2, .iload_n 3, 3, 0), (3, .sipush (Int.ofNat 400), 6, 0), (6, .if_icmp .ge 192, 9, 198), (9, .aload_n 0, 10, 0), (10, .getfield 9, 13, 0), (13, .invokevirtual 28, 16, 0), (16, .istore 4, 18, 0), (18, .iload 4, 20, 0), (20, .bipush (Int.ofNat 20), 22, 0), (22, .if_icmp .ne 40, 25, 62), (25, .aload_n 0, 26, 0), (26, .getfield 9, 29, 0), (29, .invokevirtual 77, 32, 0), (32, .sipush (Int.ofNat 999), 35, 0), (35, .if_icmp .gt 27, 38, 62), (38, .aload_n 0, 39, 0), (39, .getfield 15, 42, 0), (42, .getfield 73, 45, 0), (45, .iload_n 1, 46, 0), (46, .dup2, 47, 0), (47, .iaload, 48, 0), (48, .iload_n 2, 49, 0), (49, .aload_n 0, 50, 0), (50, .getfield 9, 53, 0), (53, .invokevirtual 77, 56, 0), (56, .imul, 57, 0), (57, .iadd, 58, 0), (58, .iastore, 59, 0), (59, .goto 105, 62, 164), (62, .iload 4, 64, 0), (64, .bipush (Int.ofNat 7), 66, 0), (66, .if_icmp .ne 21, 69, 87), (69, .aload_n 0, 70, 0), (70, .getfield 15, 73, 0), (73, .getfield 73, 76, 0), (76, .iload_n 1, 77, 0), (77, .iconst (Int.ofNat 1), 78, 0), (78, .iadd, 79, 0), (79, .dup2, 80, 0), (80, .iaload, 81, 0), (81, .iload_n 2, 82, 0), (82, .iadd, 83, 0), (83, .iastore, 84, 0), (84, .goto 80, 87, 164), (87, .iload 4, 89, 0), (89, .bipush (Int.ofNat 8), 91, 0), (91, .if_icmp .ne 21, 94, 112), (94, .aload_n 0, 95, 0), (95, .getfield 15, 98, 0), (98, .getfield 73, 101, 0), (101, .iload_n 1, 102, 0), (102, .iconst (Int.ofNat 2), 103, 0), (103, .iadd, 104, 0), (104, .dup2, 105, 0), (105, .iaload, 106, 0), (106, .iload_n 2, 107, 0), (107, .iadd, 108, 0), (108, .iastore, 109, 0)]
def tc_44_1 : List (Nat × Instr × Nat × Nat) := [(109, .goto 55, 112, 164), (112, .iload 4, 114, 0), (114, .bipush (Int.ofNat 9), 116, 0), (116, .if_icmp .ne 21, 119, 137), (119, .aload_n 0, 120, 0), (120, .getfield 15, 123, 0), (123, .getfield 73, 126, 0), (126, .iload_n 1, 127, 0), (127, .iconst (Int.ofNat 3), 128, 0), (128, .iadd, 129, 0), (129, .dup2, 130, 0), (130, .iaload, 131, 0), (131, .iload_n 2, 132, 0), (132, .iadd, 133, 0), (133, .iastore, 134, 0), (134, .goto 30, 137, 164), (137, .iload 4, 139, 0), (139, .bipush (Int.ofNat 10), 141, 0), (141, .if_icmp .ne 21, 144, 162), (144, .aload_n 0, 145, 0), (145, .getfield 15, 148, 0), (148, .getfield 73, 151, 0), (151, .iload_n 1, 152, 0), (152, .iconst (Int.ofNat 4), 153, 0), (153, .iadd, 154, 0), (154, .dup2, 155, 0), (155, .iaload, 156, 0), (156, .iload_n 2, 157, 0), (157, .iadd, 158, 0), (158, .iastore, 159, 0), (159, .goto 5, 162, 164), (162, .iconst (Int.ofNat 0), 163, 0), (163, .ireturn, 164, 0), (164, .aload_n 0, 165, 0), (165, .getfield 9, 168, 0), (168, .invokevirtual 41, 171, 0), (171, .aload_n 0, 172, 0), (172, .getfield 9, 175, 0), (175, .invokevirtual 28, 178, 0), (178, .bipush (Int.ofNat 43), 180, 0), (180, .if_icmp .eq 5, 183, 185), (183, .iconst (Int.ofNat 1), 184, 0), (184, .ireturn, 185, 0), (185, .aload_n 0, 186, 0), (186, .getfield 9, 189, 0), (189, .invokevirtual 41, 192, 0), (192, .iinc 3 1, 195, 0), (195, .goto (-193), 198, 2), (198, .iconst (Int.ofNat 0), 199, 0), (199, .ireturn, 200, 0)]
def tc_44 : List (Nat × Instr × Nat × Nat) := tc_44_0 ++ tc_44_1
def tc_45 : List (Nat × Instr × Nat × Nat) := [(0, .aload_n 0, 1, 0), (1, .invokespecial 3, 4, 0), (4, .aload_n 0, 5, 0), (5, .sipush (Int.ofNat 240), 8, 0), (8, .newarray .int, 10, 0), (10, .putfield 11, 13, 0), (13, .return_, 14, 0)]
def tc_46 : List (Nat × Instr × Nat × Nat) := [(0, .aload_n 1, 1, 0), (1, .getfield 11, 4, 0), (4, .iconst (Int.ofNat 0), 5, 0), (5, .aload_n 0, 6, 0), (6, .getfield 11, 9, 0), (9, .iconst (Int.ofNat 0), 10, 0), (10, .aload_n 0, 11, 0), (11, .getfield 11, 14, 0), (14, .arraylength, 15, 0), (15, .invokestatic 15, 18, 0), (18, .aload_n 0, 19, 0), (19, .aload_n 1, 20, 0), (20, .getfield 21, 23, 0), (23, .putfield 21, 26, 0), (26, .aload_n 0, 27, 0), (27, .aload_n 1, 28, 0), (28, .getfield 25, 31, 0), (31, .putfield 25, 34, 0), (34, .return_, 35, 0)]
def tc_47 : List (Nat × Instr × Nat × Nat) := [(0, .aload_n 0, 1, 0), (1, .getfield 25, 4, 0), (4, .iconst (Int.ofNat 4), 5, 0), (5, .imul, 6, 0), (6, .istore 5, 8, 0), (8, .aload_n 0, 9, 0), (9, .getfield 11, 12, 0), (12, .iload 5, 14, 0), (14, .iload_n 1, 15, 0), (15, .iastore, 16, 0), (16, .aload_n 0, 17, 0), (17, .getfield 11, 20, 0), (20, .iload 5, 22, 0), (22, .iconst (Int.ofNat 1), 23, 0), (23, .iadd, 24, 0), (24, .iload_n 2, 25, 0), (25, .iastore, 26, 0), (26, .aload_n 0, 27, 0), (27, .getfield 11, 30, 0), (30, .iload 5, 32, 0), (32, .iconst (Int.ofNat 2), 33, 0), (33, .iadd, 34, 0), (34, .iload_n 3, 35, 0), (35, .iastore, 36, 0), (36, .aload_n 0, 37, 0), (37, .getfield 11, 40, 0), (40, .iload 5, 42, 0), (42, .iconst (Int.ofNat 3), 43, 0), (43, .iadd, 44, 0), (44, .iload 4, 46, 0), (46, .iastore, 47, 0), (47, .aload_n 0, 48, 0), (48, .aload_n 0, 49, 0), (49, .getfield 25, 52, 0), (52, .iconst (Int.ofNat 1), 53, 0), (53, .iadd, 54, 0), (54, .bipush (Int.ofNat 60), 56, 0), (56, .irem, 57, 0), (57, .putfield 25, 60, 0), (60, .aload_n 0, 61, 0), (61, .aload_n 0, 62, 0), (62, .getfield 21, 65, 0), (65, .iconst (Int.ofNat 1), 66, 0), (66, .iadd, 67, 0), (67, .bipush (Int.ofNat 60), 69, 0), (69, .invokestatic 28, 72, 0), (72, .putfield 21, 75, 0), (75, .return_, 76, 0)]
def tc_48 : List (Nat × Instr × Nat × Nat) := [(0, .iload_n 1, 1, 0), (1, .ifCond .lt 11, 4, 12), (4, .iload_n 1, 5, 0), (5, .aload_n 0, 6, 0), (6, .getfield 21, 9, 0), (9, .if_icmp .lt 5, 12, 14), (12, .iconst (Int.negSucc 0), 13, 0), (13, .ireturn, 14, 0), (14, .aload_n 0, 15, 0), (15, .getfield 11, 18, 0), (18, .aload_n 0, 19, 0), (19, .getfield 25, 22, 0), (22, .bipush (Int.ofNat 60), 24, 0), (24, .iadd, 25, 0), (25, .iconst (Int.ofNat 1), 26, 0), (26, .isub, 27, 0), (27, .iload_n 1, 28, 0), (28, .isub, 29, 0), (29, .bipush (Int.ofNat 60), 31, 0), (31, .irem, 32, 0), (32, .iconst (Int.ofNat 4), 33, 0), (33, .imul, 34, 0), (34, .iload_n 2, 35, 0), (35, .iadd, 36, 0), (36, .iaload, 37, 0), (37, .ireturn, 38, 0)]
def tc_49 : List (Nat × Instr × Nat × Nat) := [(0, .iconst (Int.ofNat 0), 1, 0), (1, .istore_n 2, 2, 0), (2, .iconst (Int.ofNat 0), 3, 0), (3, .istore_n 3, 4, 0), (4, .iload_n 3, 5, 0), (5, .aload_n 0, 6, 0), (6, .getfield 21, 9, 0), (9, .if_icmp .ge 35, 12, 44), (12, .iload_n 1, 13, 0), (13, .iconst (Int.negSucc 0), 14, 0), (14, .if_icmp .eq 13, 17, 27), (17, .aload_n 0, 18, 0), (18, .iload_n 3, 19, 0), (19, .iconst (Int.ofNat 1), 20, 0), (20, .invokevirtual 34, 23, 0), (23, .iload_n 1, 24, 0), (24, .if_icmp .ne 14, 27, 38), (27, .iload_n 2, 28, 0), (28, .iconst (Int.ofNat 1), 29, 0), (29, .aload_n 0, 30, 0), (30, .iload_n 3, 31, 0), (31, .iconst (Int.ofNat 3), 32, 0), (32, .invokevirtual 34, 35, 0), (35, .ishl, 36, 0), (36, .ior, 37, 0), (37, .istore_n 2, 38, 0), (38, .iinc 3 1, 41, 0), (41, .goto (-37), 44, 4), (44, .iload_n 2, 45, 0), (45, .ireturn, 46, 0)]
def tc_50 : List (Nat × Instr × Nat × Nat) := [(0, .iconst (Int.negSucc 0), 1, 0), (1, .istore_n 1, 2, 0), (2, .iconst (Int.ofNat 0), 3, 0), (3, .istore_n 2, 4, 0), (4, .iconst (Int.ofNat 0), 5, 0), (5, .istore_n 3, 6, 0), (6, .iload_n 3, 7, 0), (7, .bipush (Int.ofNat 12), 9, 0), (9, .if_icmp .ge 55, 12, 64), (12, .iconst (Int.ofNat 0), 13, 0), (13, .istore 4, 15, 0), (15, .iconst (Int.ofNat 0), 16, 0), (16, .istore 5, 18, 0), (18, .iload 5, 20, 0), (20, .aload_n 0, 21, 0), (21, .getfield 21, 24, 0), (24, .if_icmp .ge 23, 27, 47), (27, .aload_n 0, 28, 0), (28, .iload 5, 30, 0), (30, .iconst (Int.ofNat 3), 31, 0), (31, .invokevirtual 34, 34, 0), (34, .iload_n 3, 35, 0), (35, .if_icmp .ne 6, 38, 41), (38, .iinc 4 1, 41, 0), (41, .iinc 5 1, 44, 0), (44, .goto (-26), 47, 18), (47, .iload 4, 49, 0), (49, .iload_n 2, 50, 0), (50, .if_icmp .le 8, 53, 58), (53, .iload 4, 55, 0), (55, .istore_n 2, 56, 0), (56, .iload_n 3, 57, 0), (57, .istore_n 1, 58, 0), (58, .iinc 3 1, 61, 0), (61, .goto (-55), 64, 6), (64, .iload_n 1, 65, 0), (65, .ireturn, 66, 0)]
def tc_51 : List (Nat × Instr × Nat × Nat) := [(0, .aload_n 0, 1, 0), (1, .invokespecial 3, 4, 0), (4, .aload_n 0, 5, 0), (5, .bipush (Int.ofNat 10), 7, 0), (7, .anewarray 9, 10, 0), (10, .putfield 11, 13, 0), (13, .iconst (Int.ofNat 0), 14, 0), (14, .istore_n 1, 15, 0), (15, .iload_n 1, 16, 0), (16, .bipush (Int.ofNat 10), 18, 0), (18, .if_icmp .ge 22, 21, 40), (21, .aload_n 0, 22, 0), (22, .getfield 11, 25, 0), (25, .iload_n 1, 26, 0), (26, .new 9, 29, 0), (29, .dup, 30, 0), (30, .invokespecial 17, 33, 0), (33, .aastore, 34, 0), (34, .iinc 1 1, 37, 0), (37, .goto (-22), 40, 15), (40, .return_, 41, 0)]
def tc_52 : List (Nat × Instr × Nat × Nat) := [(0, .aload_n 0, 1, 0), (1, .getfield 11, 4, 0), (4, .aload_n 0, 5, 0), (5, .getfield 18, 8, 0), (8, .aaload, 9, 0), (9, .aload_n 1, 10, 0), (10, .invokevirtual 22, 13, 0), (13, .aload_n 0, 14, 0), (14, .aload_n 0, 15, 0), (15, .getfield 18, 18, 0), (18, .iconst (Int.ofNat 1), 19, 0), (19, .iadd, 20, 0), (20, .bipush (Int.ofNat 10), 22, 0), (22, .irem, 23, 0), (23, .putfield 18, 26, 0), (26, .aload_n 0, 27, 0), (27, .aload_n 0, 28, 0), (28, .getfield 26, 31, 0), (31, .iconst (Int.ofNat 1), 32, 0), (32, .iadd, 33, 0), (33, .bipush (Int.ofNat 10), 35, 0), (35, .invokestatic 29, 38, 0), (38, .putfield 26, 41, 0), (41, .return_, 42, 0)]
def tc_53 : List (Nat × Instr × Nat × Nat) := [(0, .aload_n 0, 1, 0), (1, .getfield 26, 4, 0), (4, .ifCond .ne 5, 7, 9), (7, .iconst (Int.ofNat 0), 8, 0), (8, .ireturn, 9, 0), (9, .aload_n 0, 10, 0), (10, .aload_n 0, 11, 0), (11, .getfield 18, 14, 0), (14, .bipush (Int.ofNat 10), 16, 0), (16, .iadd, 17, 0), (17, .iconst (Int.ofNat 1), 18, 0), (18, .isub, 19, 0), (19, .bipush (Int.ofNat 10), 21, 0), (21, .irem, 22, 0), (22, .putfield 18, 25, 0), (25, .aload_n 0, 26, 0), (26, .dup, 27, 0), (27, .getfield 26, 30, 0), (30, .iconst (Int.ofNat 1), 31, 0), (31, .isub, 32, 0), (32, .putfield 26, 35, 0), (35, .aload_n 1, 36, 0), (36, .aload_n 0, 37, 0), (37, .getfield 11, 40, 0), (40, .aload_n 0, 41, 0), (41, .getfield 18, 44, 0), (44, .aaload, 45, 0), (45, .invokevirtual 22, 48, 0), (48, .iconst (Int.ofNat 1), 49, 0), (49, .ireturn, 50, 0)]
def tc_54 : List (Nat × Instr × Nat × Nat) := [(0, .aload_n 0, 1, 0), (1, .iconst (Int.ofNat 0), 2, 0), (2, .putfield 26, 5, 0), (5, .return_, 6, 0)]
def tc_55 : List (Nat × Instr × Nat × Nat) := [(0, .aload_n 0, 1, 0), (1, .invokespecial 3, 4, 0), (4, .aload_n 0, 5, 0), (5, .bipush (Int.ofNat 60), 7, 0), (7, .newarray .int, 9, 0), (9, .putfield 9, 12, 0), (12, .aload_n 0, 13, 0), (13, .aload_n 1, 14, 0), (14, .putfield 15, 17, 0), (17, .aload_n 0, 18, 0), (18, .aload_n 2, 19, 0), (19, .putfield 19, 22, 0), (22, .return_, 23, 0)]
def tc_56 : List (Nat × Instr × Nat × Nat) := [(0, .aload_n 0, 1, 0), (1, .iload_n 1, 2, 0), (2, .iload_n 2, 3, 0), (3, .aload_n 0, 4, 0), (4, .getfield 19, 7, 0), (7, .iload_n 1, 8, 0), (8, .invokevirtual 23, 11, 0), (11, .iload_n 3, 12, 0), (12, .invokevirtual 29, 15, 0), (15, .aload_n 0, 16, 0), (16, .iload_n 3, 17, 0), (17, .aload_n 0, 18, 0), (18, .getfield 19, 21, 0), (21, .invokevirtual 33, 24, 0), (24, .aload_n 0, 25, 0), (25, .getfield 19, 28, 0), (28, .getfield 37, 31, 0), (31, .iload_n 1, 32, 0), (32, .iaload, 33, 0), (33, .invokevirtual 40, 36, 0), (36, .ireturn, 37, 0)]
def tc_57 : List (Nat × Instr × Nat × Nat) := [(0, .iconst (Int.ofNat 0), 1, 0), (1, .istore 5, 3, 0), (3, .iload 5, 5, 0), (5, .iload 4, 7, 0), (7, .if_icmp .ge 59, 10, 66), (10, .iload 5, 12, 0), (12, .bipush (Int.ofNat 60), 14, 0), (14, .if_icmp .ge 52, 17, 66), (17, .aload_n 0, 18, 0), (18, .getfield 19, 21, 0), (21, .iload_n 1, 22, 0), (22, .iload_n 2, 23, 0), (23, .iload 5, 25, 0), (25, .iadd, 26, 0), (26, .invokevirtual 44, 29, 0), (29, .istore 6, 31, 0), (31, .aload_n 0, 32, 0), (32, .getfield 9, 35, 0), (35, .iload 5, 37, 0), (37, .aload_n 0, 38, 0), (38, .getfield 15, 41, 0), (41, .iconst (Int.ofNat 0), 42, 0), (42, .iload 6, 44, 0), (44, .iload_n 1, 45, 0), (45, .iload_n 3, 46, 0), (46, .aload_n 0, 47, 0), (47, .getfield 19, 50, 0), (50, .getfield 48, 53, 0), (53, .iload 5, 55, 0), (55, .iadd, 56, 0), (56, .invokevirtual 52, 59, 0), (59, .iastore, 60, 0), (60, .iinc 5 1, 63, 0), (63, .goto (-60), 66, 3), (66, .return_, 67, 0)]
def tc_58 : List (Nat × Instr × Nat × Nat) := [(0, .iconst (Int.ofNat 0), 1, 0), (1, .istore 4, 3, 0), (3, .iconst (Int.ofNat 0), 4, 0), (4, .istore 5, 6, 0), (6, .iload 5, 8, 0), (8, .iload_n 1, 9, 0), (9, .if_icmp .ge 43, 12, 52), (12, .iload 5, 14, 0), (14, .bipush (Int.ofNat 60), 16, 0), (16, .if_icmp .ge 36, 19, 52), (19, .aload_n 0, 20, 0), (20, .getfield 9, 23, 0), (23, .iload 5, 25, 0), (25, .iaload, 26, 0), (26, .iload_n 2, 27, 0), (27, .iand, 28, 0), (28, .ifCond .eq 18, 31, 46), (31, .aload_n 0, 32, 0), (32, .getfield 9, 35, 0), (35, .iload 5, 37, 0), (37, .iaload, 38, 0), (38, .iload_n 3, 39, 0), (39, .iand, 40, 0), (40, .ifCond .ne 6, 43, 46), (43, .iinc 4 1, 46, 0), (46, .iinc 5 1, 49, 0), (49, .goto (-43), 52, 6), (52, .iload 4, 54, 0), (54, .ireturn, 55, 0)]
def tc_59 : List (Nat × Instr × Nat × Nat) := [(0, .iconst (Int.ofNat 0), 1, 0), (1, .istore_n 3, 2, 0), (2, .aload_n 0, 3, 0), (3, .iload_n 1, 4, 0), (4, .iconst (Int.ofNat 0), 5, 0), (5, .iload_n 2, 6, 0), (6, .invokevirtual 58, 9, 0), (9, .istore 4, 11, 0), (11, .iconst (Int.ofNat 1), 12, 0), (12, .istore 5, 14, 0), (14, .iload 5, 16, 0), (16, .aload_n 0, 17, 0), (17, .getfield 19, 20, 0), (20, .getfield 61, 23, 0), (23, .iload_n 1, 24, 0), (24, .iaload, 25, 0), (25, .if_icmp .ge 33, 28, 58), (28, .aload_n 0, 29, 0), (29, .iload_n 1, 30, 0), (30, .iload 5, 32, 0), (32, .iload_n 2, 33, 0), (33, .invokevirtual 58, 36, 0), (36, .istore 6, 38, 0), (38, .iload 6, 40, 0), (40, .iload 4, 42, 0), (42, .if_icmp .ge 10, 45, 52), (45, .iload 6, 47, 0), (47, .istore 4, 49, 0), (49, .iload 5, 51, 0), (51, .istore_n 3, 52, 0), (52, .iinc 5 1, 55, 0), (55, .goto (-41), 58, 14), (58, .iload_n 3, 59, 0), (59, .ireturn, 60, 0)]
def tc_60 : List (Nat × Instr × Nat × Nat) := [(0, .aload_n 0, 1, 0), (1, .iconst (Int.negSucc 0), 2, 0), (2, .putfield 64, 5, 0), (5, .aload_n 0, 6, 0), (6, .iconst (Int.ofNat 0), 7, 0), (7, .putfield 67, 10, 0), (10, .aload_n 0, 11, 0), (11, .getfield 19, 14, 0), (14, .invokevirtual 33, 17, 0), (17, .istore_n 2, 18, 0), (18, .iconst (Int.ofNat 0), 19, 0), (19, .istore_n 3, 20, 0), (20, .iload_n 3, 21, 0), (21, .aload_n 0, 22, 0), (22, .getfield 19, 25, 0), (25, .getfield 70, 28, 0), (28, .if_icmp .ge 27, 31, 55), (31, .aload_n 0, 32, 0), (32, .getfield 19, 35, 0), (35, .iload_n 3, 36, 0), (36, .invokevirtual 73, 39, 0), (39, .ifCond .eq 10, 42, 49), (42, .aload_n 0, 43, 0), (43, .iload_n 3, 44, 0), (44, .iload_n 1, 45, 0), (45, .iload_n 2, 46, 0), (46, .invokevirtual 77, 49, 0), (49, .iinc 3 1, 52, 0), (52, .goto (-32), 55, 20), (55, .return_, 56, 0)]
def tc_61 : List (Nat × Instr × Nat × Nat) := [(0, .aload_n 0, 1, 0), (1, .getfield 19, 4, 0), (4, .getfield 37, 7, 0), (7, .iload_n 1, 8, 0), (8, .iaload, 9, 0), (9, .istore 4, 11, 0), (11, .aload_n 0, 12, 0), (12, .iload_n 1, 13, 0), (13, .iconst (Int.ofNat 0), 14, 0), (14, .iload_n 2, 15, 0), (15, .invokevirtual 58, 18, 0), (18, .istore 5, 20, 0), (20, .aload_n 0, 21, 0), (21, .iload_n 1, 22, 0), (22, .iconst (Int.ofNat 0), 23, 0), (23, .aload_n 0, 24, 0), (24, .getfield 19, 27, 0), (27, .iload_n 1, 28, 0), (28, .invokevirtual 23, 31, 0), (31, .iconst (Int.ofNat 1), 32, 0), (32, .iadd, 33, 0), (33, .iload_n 2, 34, 0), (34, .invokevirtual 29, 37, 0), (37, .iconst (Int.ofNat 0), 38, 0), (38, .istore 6, 40, 0), (40, .iload 6, 42, 0), (42, .aload_n 0, 43, 0), (43, .getfield 15, 46, 0), (46, .getfield 81, 49, 0), (49, .if_icmp .ge 76, 52, 125), (52, .iload_n 3, 53, 0), (53, .iload 4, 55, 0), (55, .iconst (Int.negSucc 0), 56, 0), (56, .ixor, 57, 0), (57, .iand, 58, 0), (58, .iload 6, 60, 0), (60, .invokestatic 84, 63, 0), (63, .iconst (Int.ofNat 1), 64, 0), (64, .if_icmp .ne 55, 67, 119), (67, .iload 5, 69, 0), (69, .aload_n 0, 70, 0), (70, .iload_n 2, 71, 0), (71, .iload_n 3, 72, 0), (72, .iload 4, 74, 0), (74, .iconst (Int.ofNat 1), 75, 0), (75, .iload 6, 77, 0), (77, .ishl, 78, 0), (78, .ior, 79, 0), (79, .invokevirtual 40, 82, 0), (82, .isub, 83, 0), (83, .istore 7, 85, 0), (85, .aload_n 0, 86, 0), (86, .getfield 64, 89, 0), (89, .iconst (Int.negSucc 0), 90, 0), (90, .if_icmp .eq 12, 93, 102), (93, .iload 7, 95, 0), (95, .aload_n 0, 96, 0), (96, .getfield 67, 99, 0), (99, .if_icmp .le 20, 102, 119), (102, .aload_n 0, 103, 0), (103, .bipush (Int.ofNat 100), 105, 0), (105, .iload_n 1, 106, 0), (106, .imul, 107, 0), (107, .iload 6, 109, 0), (109, .iadd, 110, 0), (110, .putfield 64, 113, 0), (113, .aload_n 0, 114, 0), (114, .iload 7, 116, 0), (116, .putfield 67, 119, 0), (119, .iinc 6 1, 122, 0), (122, .goto (-82), 125, 40), (125, .return_, 126, 0)]
def tc_62 : List (Nat × Instr × Nat × Nat) := [(0, .aload_n 0, 1, 0), (1, .invokespecial 3, 4, 0), (4, .aload_n 0, 5, 0), (5, .sipush (Int.ofNat 133), 8, 0), (8, .newarray .int, 10, 0), (10, .putfield 11, 13, 0), (13, .aload_n 0, 14, 0), (14, .sipush (Int.ofNat 4096), 17, 0), (17, .newarray .int, 19, 0), (19, .putfield 15, 22, 0), (22, .aload_n 0, 23, 0), (23, .aload_n 1, 24, 0), (24, .putfield 18, 27, 0), (27, .aload_n 0, 28, 0), (28, .aload_n 2, 29, 0), (29, .putfield 22, 32, 0), (32, .return_, 33, 0)]
def tc_63 : List (Nat × Instr × Nat × Nat) := [(0, .aload_n 0, 1, 0), (1, .iconst (Int.ofNat 0), 2, 0), (2, .putfield 26, 5, 0), (5, .aload_n 0, 6, 0), (6, .iconst (Int.ofNat 0), 7, 0), (7, .putfield 30, 10, 0), (10, .iconst (Int.ofNat 0), 11, 0), (11, .istore_n 2, 12, 0), (12, .iload_n 2, 13, 0), (13, .aload_n 1, 14, 0), (14, .getfield 33, 17, 0), (17, .if_icmp .ge 50, 20, 67), (20, .iload_n 2, 21, 0), (21, .iconst (Int.ofNat 3), 22, 0), (22, .iadd, 23, 0), (23, .aload_n 1, 24, 0), (24, .getfield 33, 27, 0), (27, .if_icmp .gt 32, 30, 59), (30, .aload_n 0, 31, 0), (31, .aload_n 1, 32, 0), (32, .getfield 38, 35, 0), (35, .iload_n 2, 36, 0), (36, .iaload, 37, 0), (37, .aload_n 1, 38, 0), (38, .getfield 38, 41, 0), (41, .iload_n 2, 42, 0), (42, .iconst (Int.ofNat 1), 43, 0), (43, .iadd, 44, 0), (44, .iaload, 45, 0), (45, .aload_n 1, 46, 0), (46, .getfield 38, 49, 0), (49, .iload_n 2, 50, 0), (50, .iconst (Int.ofNat 2), 51, 0), (51, .iadd, 52, 0), (52, .iaload, 53, 0), (53, .invokevirtual 41, 56, 0), (56, .ifCond .ne 5, 59, 61), (59, .iconst (Int.ofNat 0), 60, 0), (60, .ireturn, 61, 0), (61, .iinc 2 3, 64, 0), (64, .goto (-52), 67, 12), (67, .iconst (Int.ofNat 1), 68, 0), (68, .ireturn, 69, 0)]
def tc_64 : List (Nat × Instr × Nat × Nat) := [(0, .iload_n 1, 1, 0), (1, .aload_n 0, 2, 0), (2, .getfield 22, 5, 0), (5, .getfield 45, 8, 0), (8, .if_icmp .ge 25, 11, 33), (11, .aload_n 0, 12, 0), (12, .getfield 22, 15, 0), (15, .iload_n 1, 16, 0), (16, .invokevirtual 50, 19, 0), (19, .ifCond .eq 14, 22, 33), (22, .iload_n 2, 23, 0), (23, .bipush (Int.ofNat 64), 25, 0), (25, .if_icmp .ge 8, 28, 33), (28, .iload_n 3, 29, 0), (29, .iconst (Int.ofNat 1), 30, 0), (30, .if_icmp .le 5, 33, 35), (33, .iconst (Int.ofNat 0), 34, 0), (34, .ireturn, 35, 0), (35, .aload_n 0, 36, 0), (36, .getfield 18, 39, 0), (39, .iconst (Int.ofNat 0), 40, 0), (40, .iload_n 2, 41, 0), (41, .iload_n 1, 42, 0), (42, .aload_n 0, 43, 0), (43, .getfield 22, 46, 0), (46, .iload_n 1, 47, 0), (47, .invokevirtual 54, 50, 0), (50, .aload_n 0, 51, 0), (51, .getfield 22, 54, 0), (54, .getfield 58, 57, 0), (57, .invokevirtual 61, 60, 0), (60, .istore 4, 62, 0), (62, .iload_n 3, 63, 0), (63, .ifCond .ne 17, 66, 80), (66, .aload_n 0, 67, 0), (67, .dup, 68, 0), (68, .getfield 30, 71, 0), (71, .iload 4, 73, 0), (73, .ior, 74, 0), (74, .putfield 30, 77, 0), (77, .goto 9, 80, 86), (80, .aload_n 0, 81, 0), (81, .iload 4, 83, 0), (83, .invokevirtual 67, 86, 0), (86, .iconst (Int.ofNat 1), 87, 0), (87, .ireturn, 88, 0)]
def tc_65 : List (Nat × Instr × Nat × Nat) := [(0, .iconst (Int.ofNat 0), 1, 0), (1, .istore_n 2, 2, 0), (2, .iload_n 2, 3, 0), (3, .aload_n 0, 4, 0), (4, .getfield 26, 7, 0), (7, .if_icmp .ge 20, 10, 27), (10, .aload_n 0, 11, 0), (11, .getfield 11, 14, 0), (14, .iload_n 2, 15, 0), (15, .iaload, 16, 0), (16, .iload_n 1, 17, 0), (17, .if_icmp .ne 4, 20, 21), (20, .return_, 21, 0), (21, .iinc 2 1, 24, 0), (24, .goto (-22), 27, 2), (27, .aload_n 0, 28, 0), (28, .getfield 26, 31, 0), (31, .aload_n 0, 32, 0), (32, .getfield 11, 35, 0), (35, .arraylength, 36, 0), (36, .if_icmp .ge 23, 39, 59), (39, .aload_n 0, 40, 0), (40, .getfield 11, 43, 0), (43, .aload_n 0, 44, 0), (44, .getfield 26, 47, 0), (47, .iload_n 1, 48, 0), (48, .iastore, 49, 0), (49, .aload_n 0, 50, 0), (50, .dup, 51, 0), (51, .getfield 26, 54, 0), (54, .iconst (Int.ofNat 1), 55, 0), (55, .iadd, 56, 0), (56, .putfield 26, 59, 0), (59, .return_, 60, 0)]
def tc_66 : List (Nat × Instr × Nat × Nat) := [(0, .aload_n 0, 1, 0), (1, .getfield 18, 4, 0), (4, .invokevirtual 71, 7, 0), (7, .aload_n 0, 8, 0), (8, .getfield 30, 11, 0), (11, .iconst (Int.negSucc 0), 12, 0), (12, .ixor, 13, 0), (13, .iand, 14, 0), (14, .istore_n 1, 15, 0), (15, .iconst (Int.ofNat 1), 16, 0), (16, .aload_n 0, 17, 0), (17, .getfield 18, 20, 0), (20, .getfield 75, 23, 0), (23, .ishl, 24, 0), (24, .istore_n 2, 25, 0), (25, .aload_n 0, 26, 0), (26, .iconst (Int.ofNat 0), 27, 0), (27, .putfield 78, 30, 0), (30, .aload_n 0, 31, 0), (31, .iconst (Int.negSucc 0), 32, 0), (32, .putfield 81, 35, 0), (35, .aload_n 0, 36, 0), (36, .iconst (Int.ofNat 0), 37, 0), (37, .putfield 84, 40, 0), (40, .iconst (Int.ofNat 0), 41, 0), (41, .istore_n 3, 42, 0), (42, .iload_n 3, 43, 0), (43, .iload_n 2, 44, 0), (44, .if_icmp .ge 83, 47, 127), (47, .iload_n 3, 48, 0), (48, .iload_n 1, 49, 0), (49, .iconst (Int.negSucc 0), 50, 0), (50, .ixor, 51, 0), (51, .iand, 52, 0), (52, .ifCond .ne 15, 55, 67), (55, .aload_n 0, 56, 0), (56, .iload_n 3, 57, 0), (57, .invokevirtual 87, 60, 0), (60, .ifCond .eq 7, 63, 67), (63, .iconst (Int.ofNat 1), 64, 0), (64, .goto 4, 67, 68), (67, .iconst (Int.ofNat 0), 68, 0), (68, .istore 4, 70, 0), (70, .aload_n 0, 71, 0), (71, .getfield 15, 74, 0), (74, .iload_n 3, 75, 0), (75, .iload 4, 77, 0), (77, .ifCond .eq 7, 80, 84), (80, .iconst (Int.ofNat 1), 81, 0), (81, .goto 4, 84, 85), (84, .iconst (Int.ofNat 0), 85, 0), (85, .iastore, 86, 0), (86, .iload 4, 88, 0), (88, .ifCond .eq 33, 91, 121), (91, .aload_n 0, 92, 0), (92, .dup, 93, 0), (93, .getfield 78, 96, 0), (96, .iconst (Int.ofNat 1), 97, 0), (97, .iadd, 98, 0), (98, .putfield 78, 101, 0), (101, .aload_n 0, 102, 0), (102, .dup, 103, 0), (103, .getfield 81, 106, 0), (106, .iload_n 3, 107, 0), (107, .iand, 108, 0), (108, .putfield 81, 111, 0), (111, .aload_n 0, 112, 0), (112, .dup, 113, 0), (113, .getfield 84, 116, 0), (116, .iload_n 3, 117, 0), (117, .ior, 118, 0), (118, .putfield 84, 121, 0), (121, .iinc 3 1, 124, 0), (124, .goto (-82), 127, 42), (127, .aload_n 0, 128, 0), (128, .getfield 78, 131, 0), (131, .ifCond .ne 8, 134, 139), (134, .aload_n 0, 135, 0), (135, .iconst (Int.ofNat 0), 136, 0), (136, .putfield 81, 139, 0), (139, .return_, 140, 0)]
def tc_67 : List (Nat × Instr × Nat × Nat) := [(0, .iconst (Int.ofNat 0), 1, 0), (1, .istore_n 2, 2, 0), (2, .iload_n 2, 3, 0), (3, .aload_n 0, 4, 0), (4, .getfield 26, 7, 0), (7, .if_icmp .ge 22, 10, 29), (10, .aload_n 0, 11, 0), (11, .getfield 11, 14, 0), (14, .iload_n 2, 15, 0), (15, .iaload, 16, 0), (16, .iload_n 1, 17, 0), (17, .iand, 18, 0), (18, .ifCond .ne 5, 21, 23), (21, .iconst (Int.ofNat 0), 22, 0), (22, .ireturn, 23, 0), (23, .iinc 2 1, 26, 0), (26, .goto (-24), 29, 2), (29, .iconst (Int.ofNat 1), 30, 0), (30, .ireturn, 31, 0)]
def tc_68 : List (Nat × Instr × Nat × Nat) := [(0, .aload_n 0, 1, 0), (1, .invokevirtual 90, 4, 0), (4, .iconst (Int.ofNat 1), 5, 0), (5, .aload_n 0, 6, 0), (6, .getfield 18, 9, 0), (9, .getfield 75, 12, 0), (12, .ishl, 13, 0), (13, .iconst (Int.ofNat 1), 14, 0), (14, .isub, 15, 0), (15, .istore_n 2, 16, 0), (16, .iconst (Int.negSucc 0), 17, 0), (17, .istore_n 3, 18, 0), (18, .iconst (Int.ofNat 0), 19, 0), (19, .istore 4, 21, 0), (21, .iconst (Int.ofNat 0), 22, 0), (22, .istore 5, 24, 0), (24, .iload 5, 26, 0), (26, .bipush (Int.ofNat 64), 28, 0), (28, .if_icmp .ge 83, 31, 111), (31, .aload_n 0, 32, 0), (32, .getfield 18, 35, 0), (35, .iconst (Int.ofNat 0), 36, 0), (36, .iload 5, 38, 0), (38, .iload_n 1, 39, 0), (39, .aload_n 0, 40, 0), (40, .getfield 22, 43, 0), (43, .iload_n 1, 44, 0), (44, .invokevirtual 54, 47, 0), (47, .aload_n 0, 48, 0), (48, .getfield 22, 51, 0), (51, .getfield 58, 54, 0), (54, .invokevirtual 61, 57, 0), (57, .istore 6, 59, 0), (59, .aload_n 0, 60, 0), (60, .getfield 15, 63, 0), (63, .iload_n 2, 64, 0), (64, .iload 6, 66, 0), (66, .iconst (Int.negSucc 0), 67, 0), (67, .ixor, 68, 0), (68, .iand, 69, 0), (69, .iaload, 70, 0), (70, .istore 7, 72, 0), (72, .iload 7, 74, 0), (74, .aload_n 0, 75, 0), (75, .getfield 78, 78, 0), (78, .iload 7, 80, 0), (80, .isub, 81, 0), (81, .invokestatic 93, 84, 0), (84, .istore 8, 86, 0), (86, .iload_n 3, 87, 0), (87, .iconst (Int.negSucc 0), 88, 0), (88, .if_icmp .eq 10, 91, 98), (91, .iload 8, 93, 0), (93, .iload 4, 95, 0), (95, .if_icmp .ge 10, 98, 105), (98, .iload 5, 100, 0), (100, .istore_n 3, 101, 0), (101, .iload 8, 103, 0), (103, .istore 4, 105, 0), (105, .iinc 5 1, 108, 0), (108, .goto (-84), 111, 24), (111, .iload_n 3, 112, 0), (112, .ireturn, 113, 0)]
def tc_69 : List (Nat × Instr × Nat × Nat) := [(0, .iconst (Int.ofNat 1), 1, 0), (1, .aload_n 0, 2, 0), (2, .getfield 18, 5, 0), (5, .getfield 75, 8, 0), (8, .ishl, 9, 0), (9, .istore_n 1, 10, 0), (10, .iconst (Int.ofNat 1), 11, 0), (11, .istore_n 2, 12, 0), (12, .iload_n 2, 13, 0), (13, .iload_n 1, 14, 0), (14, .if_icmp .ge 46, 17, 60), (17, .iconst (Int.ofNat 0), 18, 0), (18, .istore_n 3, 19, 0), (19, .iload_n 3, 20, 0), (20, .iload_n 1, 21, 0), (21, .if_icmp .ge 32, 24, 53), (24, .iload_n 3, 25, 0), (25, .iload_n 2, 26, 0), (26, .iand, 27, 0), (27, .ifCond .eq 20, 30, 47), (30, .aload_n 0, 31, 0), (31, .getfield 15, 34, 0), (34, .iload_n 3, 35, 0), (35, .dup2, 36, 0), (36, .iaload, 37, 0), (37, .aload_n 0, 38, 0), (38, .getfield 15, 41, 0), (41, .iload_n 3, 42, 0), (42, .iload_n 2, 43, 0), (43, .ixor, 44, 0), (44, .iaload, 45, 0), (45, .iadd, 46, 0), (46, .iastore, 47, 0), (47, .iinc 3 1, 50, 0), (50, .goto (-31), 53, 19), (53, .iload_n 2, 54, 0), (54, .iconst (Int.ofNat 1), 55, 0), (55, .ishl, 56, 0), (56, .istore_n 2, 57, 0), (57, .goto (-45), 60, 12), (60, .return_, 61, 0)]
def tc_70 : List (Nat × Instr × Nat × Nat) := [(0, .aload_n 0, 1, 0), (1, .invokespecial 3, 4, 0), (4, .aload_n 0, 5, 0), (5, .aload_n 1, 6, 0), (6, .putfield 9, 9, 0), (9, .aload_n 0, 10, 0), (10, .aload_n 2, 11, 0), (11, .putfield 15, 14, 0), (14, .aload_n 0, 15, 0), (15, .aload_n 3, 16, 0), (16, .putfield 19, 19, 0), (19, .return_, 20, 0)]
def tc_71 : List (Nat × Instr × Nat × Nat) := [(0, .aload_n 0, 1, 0), (1, .getfield 9, 4, 0), (4, .invokevirtual 23, 7, 0), (7, .bipush (Int.ofNat 21), 9, 0), (9, .if_icmp .ne 5, 12, 14), (12, .iconst (Int.negSucc 0), 13, 0), (13, .ireturn, 14, 0), (14, .iconst (Int.ofNat 0), 15, 0), (15, .istore_n 1, 16, 0), (16, .iload_n 1, 17, 0), (17, .bipush (Int.ofNat 14), 19, 0), (19, .if_icmp .ge 65, 22, 84), (22, .aload_n 0, 23, 0), (23, .invokevirtual 29, 26, 0), (26, .ifCond .ne 11, 29, 37), (29, .aload_n 0, 30, 0), (30, .getfield 9, 33, 0), (33, .invokevirtual 33, 36, 0), (36, .ireturn, 37, 0), (37, .aload_n 0, 38, 0), (38, .getfield 9, 41, 0), (41, .invokevirtual 23, 44, 0), (44, .bipush (Int.ofNat 21), 46, 0), (46, .if_icmp .ne 5, 49, 51), (49, .iconst (Int.negSucc 0), 50, 0), (50, .ireturn, 51, 0), (51, .aload_n 0, 52, 0), (52, .getfield 9, 55, 0), (55, .invokevirtual 23, 58, 0), (58, .bipush (Int.ofNat 59), 60, 0), (60, .if_icmp .eq 11, 63, 71), (63, .aload_n 0, 64, 0), (64, .getfield 9, 67, 0), (67, .invokevirtual 33, 70, 0), (70, .ireturn, 71, 0), (71, .aload_n 0, 72, 0), (72, .getfield 9, 75, 0), (75, .invokevirtual 36, 78, 0), (78, .iinc 1 1, 81, 0), (81, .goto (-65), 84, 16), (84, .aload_n 0, 85, 0), (85, .getfield 9, 88, 0), (88, .invokevirtual 33, 91, 0), (91, .ireturn, 92, 0)]
def tc_72 : List (Nat × Instr × Nat × Nat) := [(0, .aload_n 0, 1, 0), (1, .getfield 9, 4, 0), (4, .invokevirtual 23, 7, 0), (7, .istore_n 1, 8, 0), (8, .iload_n 1, 9, 0), (9, .bipush (Int.ofNat 11), 11, 0), (11, .if_icmp .ne 17, 14, 28), (14, .aload_n 0, 15, 0), (15, .getfield 19, 18, 0), (18, .getfield 39, 21, 0), (21, .bipush (Int.ofNat 10), 23, 0), (23, .if_icmp .lt 5, 26, 28), (26, .iconst (Int.ofNat 0), 27, 0), (27, .ireturn, 28, 0), (28, .iload_n 1, 29, 0), (29, .bipush (Int.ofNat 11), 31, 0), (31, .if_icmp .lt 27, 34, 58), (34, .iload_n 1, 35, 0), (35, .bipush (Int.ofNat 19), 37, 0), (37, .if_icmp .gt 21, 40, 58), (40, .iload_n 1, 41, 0), (41, .bipush (Int.ofNat 12), 43, 0), (43, .if_icmp .eq 15, 46, 58), (46, .iload_n 1, 47, 0), (47, .bipush (Int.ofNat 13), 49, 0), (49, .if_icmp .eq 9, 52, 58), (52, .iload_n 1, 53, 0), (53, .bipush (Int.ofNat 14), 55, 0), (55, .if_icmp .ne 5, 58, 60), (58, .iconst (Int.ofNat 0), 59, 0), (59, .ireturn, 60, 0), (60, .aload_n 0, 61, 0), (61, .getfield 9, 64, 0), (64, .invokevirtual 36, 67, 0), (67, .iload_n 1, 68, 0), (68, .tableswitch 73 11 18 #[48, 73, 73, 73, 53, 58, 63, 68], 116, 0), (116, .aload_n 0, 117, 0), (117, .invokevirtual 45, 120, 0), (120, .ireturn, 121, 0), (121, .aload_n 0, 122, 0), (122, .invokevirtual 48, 125, 0), (125, .ireturn, 126, 0), (126, .aload_n 0, 127, 0), (127, .invokevirtual 51, 130, 0), (130, .ireturn, 131, 0), (131, .aload_n 0, 132, 0), (132, .invokevirtual 54, 135, 0), (135, .ireturn, 136, 0), (136, .aload_n 0, 137, 0), (137, .invokevirtual 57, 140, 0), (140, .ireturn, 141, 0), (141, .aload_n 0, 142, 0), (142, .invokevirtual 60, 145, 0), (145, .ireturn, 146, 0)]
def tc_73 : List (Nat × Instr × Nat × Nat) := [(0, .aload_n 0, 1, 0), (1, .getfield 9, 4, 0), (4, .invokevirtual 23, 7, 0), (7, .bipush (Int.ofNat 12), 9, 0), (9, .if_icmp .eq 5, 12, 14), (12, .iconst (Int.ofNat 0), 13, 0), (13, .ireturn, 14, 0), (14, .aload_n 0, 15, 0), (15, .getfield 9, 18, 0), (18, .invokevirtual 36, 21, 0), (21, .aload_n 0, 22, 0), (22, .getfield 9, 25, 0), (25, .iconst (Int.ofNat 0), 26, 0), (26, .bipush (Int.ofNat 100), 28, 0), (28, .invokevirtual 63, 31, 0), (31, .istore_n 1, 32, 0), (32, .iload_n 1, 33, 0), (33, .iconst (Int.negSucc 0), 34, 0), (34, .if_icmp .eq 15, 37, 49), (37, .aload_n 0, 38, 0), (38, .getfield 9, 41, 0), (41, .invokevirtual 23, 44, 0), (44, .bipush (Int.ofNat 13), 46, 0), (46, .if_icmp .eq 5, 49, 51), (49, .iconst (Int.ofNat 0), 50, 0), (50, .ireturn, 51, 0), (51, .aload_n 0, 52, 0), (52, .getfield 9, 55, 0), (55, .invokevirtual 36, 58, 0), (58, .aload_n 0, 59, 0), (59, .getfield 19, 62, 0), (62, .iload_n 1, 63, 0), (63, .invokevirtual 67, 66, 0), (66, .istore_n 2, 67, 0), (67, .iload_n 2, 68, 0), (68, .iconst (Int.negSucc 0), 69, 0), (69, .if_icmp .eq 11, 72, 80), (72, .aload_n 0, 73, 0), (73, .iload_n 2, 74, 0), (74, .invokevirtual 71, 77, 0), (77, .ifCond .ne 5, 80, 82), (80, .iconst (Int.ofNat 0), 81, 0), (81, .ireturn, 82, 0), (82, .aload_n 0, 83, 0), (83, .getfield 9, 86, 0), (86, .invokevirtual 23, 89, 0), (89, .bipush (Int.ofNat 14), 91, 0), (91, .if_icmp .ne 11, 94, 102), (94, .aload_n 0, 95, 0), (95, .iload_n 2, 96, 0), (96, .invokevirtual 75, 99, 0), (99, .ifCond .eq 7, 102, 106), (102, .iconst (Int.ofNat 1), 103, 0), (103, .goto 4, 106, 107), (106, .iconst (Int.ofNat 0), 107, 0), (107, .ireturn, 108, 0)]
def tc_74 : List (Nat × Instr × Nat × Nat) := [(0, .iconst (Int.ofNat 0), 1, 0), (1, .istore_n 2, 2, 0), (2, .iload_n 2, 3, 0), (3, .bipush (Int.ofNat 6), 5, 0), (5, .if_icmp .ge 44, 8, 49), (8, .aload_n 0, 9, 0), (9, .invokevirtual 78, 12, 0), (12, .istore_n 3, 13, 0), (13, .iload_n 3, 14, 0), (14, .iconst (Int.negSucc 0), 15, 0), (15, .if_icmp .ne 5, 18, 20), (18, .iconst (Int.ofNat 0), 19, 0), (19, .ireturn, 20, 0), (20, .aload_n 0, 21, 0), (21, .getfield 19, 24, 0), (24, .iload_n 1, 25, 0), (25, .iload_n 3, 26, 0), (26, .invokevirtual 81, 29, 0), (29, .aload_n 0, 30, 0), (30, .getfield 9, 33, 0), (33, .invokevirtual 23, 36, 0), (36, .bipush (Int.ofNat 20), 38, 0), (38, .if_icmp .eq 5, 41, 43), (41, .iconst (Int.ofNat 1), 42, 0), (42, .ireturn, 43, 0), (43, .iinc 2 1, 46, 0), (46, .goto (-44), 49, 2), (49, .iconst (Int.ofNat 0), 50, 0), (50, .ireturn, 51, 0)]
def tc_75 : List (Nat × Instr × Nat × Nat) := [(0, .aload_n 0, 1, 0), (1, .getfield 9, 4, 0), (4, .invokevirtual 36, 7, 0), (7, .iconst (Int.ofNat 0), 8, 0), (8, .istore_n 2, 9, 0), (9, .iload_n 2, 10, 0), (10, .sipush (Int.ofNat 400), 13, 0), (13, .if_icmp .ge 63, 16, 76), (16, .aload_n 0, 17, 0), (17, .getfield 9, 20, 0), (20, .iconst (Int.ofNat 0), 21, 0), (21, .aload_n 0, 22, 0), (22, .getfield 15, 25, 0), (25, .getfield 85, 28, 0), (28, .iconst (Int.ofNat 1), 29, 0), (29, .isub, 30, 0), (30, .invokevirtual 63, 33, 0), (33, .istore_n 3, 34, 0), (34, .iload_n 3, 35, 0), (35, .iconst (Int.negSucc 0), 36, 0), (36, .if_icmp .ne 5, 39, 41), (39, .iconst (Int.ofNat 0), 40, 0), (40, .ireturn, 41, 0), (41, .aload_n 0, 42, 0), (42, .getfield 19, 45, 0), (45, .getfield 90, 48, 0), (48, .iload_n 1, 49, 0), (49, .dup2, 50, 0), (50, .iaload, 51, 0), (51, .iconst (Int.ofNat 1), 52, 0), (52, .iload_n 3, 53, 0), (53, .ishl, 54, 0), (54, .ior, 55, 0), (55, .iastore, 56, 0), (56, .aload_n 0, 57, 0), (57, .getfield 9, 60, 0), (60, .invokevirtual 23, 63, 0), (63, .bipush (Int.ofNat 20), 65, 0), (65, .if_icmp .eq 5, 68, 70), (68, .iconst (Int.ofNat 1), 69, 0), (69, .ireturn, 70, 0), (70, .iinc 2 1, 73, 0), (73, .goto (-64), 76, 9), (76, .iconst (Int.ofNat 0), 77, 0), (77, .ireturn, 78, 0)]
def tc_76 : List (Nat × Instr × Nat × Nat) := [(0, .aload_n 0, 1, 0), (1, .getfield 9, 4, 0), (4, .iconst (Int.ofNat 0), 5, 0), (5, .bipush (Int.ofNat 100), 7, 0), (7, .invokevirtual 63, 10, 0), (10, .istore_n 1, 11, 0), (11, .aload_n 0, 12, 0), (12, .getfield 19, 15, 0), (15, .iload_n 1, 16, 0), (16, .putfield 94, 19, 0), (19, .iload_n 1, 20, 0), (20, .iconst (Int.negSucc 0), 21, 0), (21, .if_icmp .eq 7, 24, 28), (24, .iconst (Int.ofNat 1), 25, 0), (25, .goto 4, 28, 29), (28, .iconst (Int.ofNat 0), 29, 0), (29, .ireturn, 30, 0)]
def tc_77 : List (Nat × Instr × Nat × Nat) := [(0, .aload_n 0, 1, 0), (1, .getfield 9, 4, 0), (4, .iconst (Int.ofNat 1), 5, 0), (5, .bipush (Int.ofNat 30), 7, 0), (7, .invokevirtual 63, 10, 0), (10, .istore_n 1, 11, 0), (11, .aload_n 0, 12, 0), (12, .getfield 19, 15, 0), (15, .iload_n 1, 16, 0), (16, .putfield 97, 19, 0), (19, .iload_n 1, 20, 0), (20, .iconst (Int.negSucc 0), 21, 0), (21, .if_icmp .eq 7, 24, 28), (24, .iconst (Int.ofNat 1), 25, 0), (25, .goto 4, 28, 29), (28, .iconst (Int.ofNat 0), 29, 0), (29, .ireturn, 30, 0)]
def tc_78 : List (Nat × Instr × Nat × Nat) := [(0, .aload_n 0, 1, 0), (1, .getfield 9, 4, 0), (4, .iconst (Int.ofNat 0), 5, 0), (5, .bipush (Int.ofNat 7), 7, 0), (7, .invokevirtual 63, 10, 0), (10, .istore_n 1, 11, 0), (11, .iload_n 1, 12, 0), (12, .iconst (Int.negSucc 0), 13, 0), (13, .if_icmp .ne 5, 16, 18), (16, .iconst (Int.ofNat 0), 17, 0), (17, .ireturn, 18, 0), (18, .aload_n 0, 19, 0), (19, .getfield 9, 22, 0), (22, .iconst (Int.ofNat 0), 23, 0), (23, .bipush (Int.ofNat 99), 25, 0), (25, .invokevirtual 63, 28, 0), (28, .istore_n 2, 29, 0), (29, .aload_n 0, 30, 0), (30, .getfield 19, 33, 0), (33, .getfield 100, 36, 0), (36, .iload_n 1, 37, 0), (37, .iload_n 2, 38, 0), (38, .iastore, 39, 0), (39, .iload_n 2, 40, 0), (40, .iconst (Int.negSucc 0), 41, 0), (41, .if_icmp .eq 7, 44, 48), (44, .iconst (Int.ofNat 1), 45, 0), (45, .goto 4, 48, 49), (48, .iconst (Int.ofNat 0), 49, 0), (49, .ireturn, 50, 0)]
def tc_79 : List (Nat × Instr × Nat × Nat) := [(0, .aload_n 0, 1, 0), (1, .iconst (Int.ofNat 1), 2, 0), (2, .iconst (Int.negSucc 0), 3, 0), (3, .invokevirtual 103, 6, 0), (6, .istore_n 1, 7, 0), (7, .iload_n 1, 8, 0), (8, .iconst (Int.negSucc 0), 9, 0), (9, .if_icmp .ne 5, 12, 14), (12, .iconst (Int.ofNat 0), 13, 0), (13, .ireturn, 14, 0), (14, .aload_n 0, 15, 0), (15, .iconst (Int.ofNat 1), 16, 0), (16, .iload_n 1, 17, 0), (17, .invokevirtual 103, 20, 0), (20, .istore_n 2, 21, 0), (21, .iload_n 2, 22, 0), (22, .iconst (Int.negSucc 0), 23, 0), (23, .if_icmp .ne 5, 26, 28), (26, .iconst (Int.ofNat 0), 27, 0), (27, .ireturn, 28, 0), (28, .aload_n 0, 29, 0), (29, .getfield 19, 32, 0), (32, .iload_n 1, 33, 0), (33, .iload_n 2, 34, 0), (34, .invokevirtual 107, 37, 0), (37, .iconst (Int.ofNat 1), 38, 0), (38, .ireturn, 39, 0)]
def tc_80 : List (Nat × Instr × Nat × Nat) := [(0, .aload_n 0, 1, 0), (1, .iconst (Int.ofNat 0), 2, 0), (2, .iconst (Int.negSucc 0), 3, 0), (3, .invokevirtual 103, 6, 0), (6, .istore_n 1, 7, 0), (7, .iload_n 1, 8, 0), (8, .iconst (Int.negSucc 0), 9, 0), (9, .if_icmp .ne 5, 12, 14), (12, .iconst (Int.ofNat 0), 13, 0), (13, .ireturn, 14, 0), (14, .aload_n 0, 15, 0), (15, .invokevirtual 78, 18, 0), (18, .istore_n 2, 19, 0), (19, .iload_n 2, 20, 0), (20, .iconst (Int.negSucc 0), 21, 0), (21, .if_icmp .ne 5, 24, 26), (24, .iconst (Int.ofNat 0), 25, 0), (25, .ireturn, 26, 0), (26, .aload_n 0, 27, 0), (27, .getfield 19, 30, 0), (30, .getfield 110, 33, 0), (33, .iload_n 1, 34, 0), (34, .dup2, 35, 0), (35, .laload, 36, 0), (36, .lconst 1, 37, 0), (37, .iload_n 2, 38, 0), (38, .lshl, 39, 0), (39, .lor, 40, 0), (40, .lastore, 41, 0), (41, .iconst (Int.ofNat 1), 42, 0), (42, .ireturn, 43, 0)]
def tc_81 : List (Nat × Instr × Nat × Nat) := [(0, .aload_n 0, 1, 0), (1, .getfield 9, 4, 0), (4, .invokevirtual 114, 7, 0), (7, .istore_n 3, 8, 0), (8, .aload_n 0, 9, 0), (9, .getfield 9, 12, 0), (12, .invokevirtual 23, 15, 0), (15, .bipush (Int.ofNat 20), 17, 0), (17, .if_icmp .ne 47, 20, 64), (20, .iload_n 3, 21, 0), (21, .aload_n 0, 22, 0), (22, .getfield 19, 25, 0), (25, .getfield 39, 28, 0), (28, .if_icmp .ge 36, 31, 64), (31, .iload_n 3, 32, 0), (32, .iload_n 2, 33, 0), (33, .if_icmp .eq 31, 36, 64), (36, .aload_n 0, 37, 0), (37, .getfield 19, 40, 0), (40, .iload_n 3, 41, 0), (41, .invokevirtual 117, 44, 0), (44, .ifCond .eq 20, 47, 64), (47, .iload_n 1, 48, 0), (48, .ifCond .eq 18, 51, 66), (51, .aload_n 0, 52, 0), (52, .getfield 19, 55, 0), (55, .getfield 120, 58, 0), (58, .iload_n 3, 59, 0), (59, .iaload, 60, 0), (60, .iconst (Int.negSucc 0), 61, 0), (61, .if_icmp .eq 5, 64, 66), (64, .iconst (Int.negSucc 0), 65, 0), (65, .ireturn, 66, 0), (66, .aload_n 0, 67, 0), (67, .getfield 9, 70, 0), (70, .invokevirtual 36, 73, 0), (73, .iload_n 3, 74, 0), (74, .ireturn, 75, 0)]
def tc_82 : List (Nat × Instr × Nat × Nat) := [(0, .aload_n 0, 1, 0), (1, .getfield 9, 4, 0), (4, .invokevirtual 114, 7, 0), (7, .bipush (Int.ofNat 10), 9, 0), (9, .idiv, 10, 0), (10, .istore_n 1, 11, 0), (11, .aload_n 0, 12, 0), (12, .getfield 9, 15, 0), (15, .invokevirtual 114, 18, 0), (18, .bipush (Int.ofNat 10), 20, 0), (20, .irem, 21, 0), (21, .istore_n 2, 22, 0), (22, .aload_n 0, 23, 0), (23, .getfield 9, 26, 0), (26, .invokevirtual 23, 29, 0), (29, .bipush (Int.ofNat 20), 31, 0), (31, .if_icmp .ne 26, 34, 57), (34, .aload_n 0, 35, 0), (35, .getfield 9, 38, 0), (38, .invokevirtual 123, 41, 0), (41, .iconst (Int.ofNat 2), 42, 0), (42, .if_icmp .ne 15, 45, 57), (45, .iload_n 1, 46, 0), (46, .bipush (Int.ofNat 8), 48, 0), (48, .if_icmp .ge 9, 51, 57), (51, .iload_n 2, 52, 0), (52, .bipush (Int.ofNat 8), 54, 0), (54, .if_icmp .lt 5, 57, 59), (57, .iconst (Int.negSucc 0), 58, 0), (58, .ireturn, 59, 0), (59, .aload_n 0, 60, 0), (60, .getfield 9, 63, 0), (63, .invokevirtual 36, 66, 0), (66, .iload_n 1, 67, 0), (67, .bipush (Int.ofNat 8), 69, 0), (69, .imul, 70, 0), (70, .iload_n 2, 71, 0), (71, .iadd, 72, 0), (72, .ireturn, 73, 0)]
def tc_83 : List (Nat × Instr × Nat × Nat) := [(0, .aload_n 0, 1, 0), (1, .invokespecial 3, 4, 0), (4, .aload_n 0, 5, 0), (5, .sipush (Int.ofNat 400), 8, 0), (8, .newarray .int, 10, 0), (10, .putfield 9, 13, 0), (13, .return_, 14, 0)]
def tc_84 : List (Nat × Instr × Nat × Nat) := [(0, .aload_n 0, 1, 0), (1, .getfield 15, 4, 0), (4, .iconst (Int.ofNat 4), 5, 0), (5, .iadd, 6, 0), (6, .aload_n 0, 7, 0), (7, .getfield 9, 10, 0), (10, .arraylength, 11, 0), (11, .if_icmp .le 4, 14, 15), (14, .return_, 15, 0), (15, .bipush (Int.ofNat 24), 17, 0), (17, .istore_n 2, 18, 0), (18, .iload_n 2, 19, 0), (19, .ifCond .lt 35, 22, 54), (22, .aload_n 0, 23, 0), (23, .getfield 9, 26, 0), (26, .aload_n 0, 27, 0), (27, .getfield 15, 30, 0), (30, .iload_n 1, 31, 0), (31, .iload_n 2, 32, 0), (32, .iushr, 33, 0), (33, .sipush (Int.ofNat 255), 36, 0), (36, .iand, 37, 0), (37, .iastore, 38, 0), (38, .aload_n 0, 39, 0), (39, .dup, 40, 0), (40, .getfield 15, 43, 0), (43, .iconst (Int.ofNat 1), 44, 0), (44, .iadd, 45, 0), (45, .putfield 15, 48, 0), (48, .iinc 2 (-8), 51, 0), (51, .goto (-33), 54, 18), (54, .return_, 55, 0)]
def tc_85 : List (Nat × Instr × Nat × Nat) := [(0, .iload_n 1, 1, 0), (1, .ifCond .lt 37, 4, 38), (4, .iload_n 1, 5, 0), (5, .aload_n 0, 6, 0), (6, .getfield 15, 9, 0), (9, .if_icmp .ge 29, 12, 38), (12, .aload_n 0, 13, 0), (13, .getfield 9, 16, 0), (16, .iload_n 1, 17, 0), (17, .iaload, 18, 0), (18, .bipush (Int.ofNat 97), 20, 0), (20, .if_icmp .lt 18, 23, 38), (23, .aload_n 0, 24, 0), (24, .getfield 9, 27, 0), (27, .iload_n 1, 28, 0), (28, .iaload, 29, 0), (29, .bipush (Int.ofNat 122), 31, 0), (31, .if_icmp .gt 7, 34, 38), (34, .iconst (Int.ofNat 1), 35, 0), (35, .goto 4, 38, 39), (38, .iconst (Int.ofNat 0), 39, 0), (39, .ireturn, 40, 0)]
def tc_86 : List (Nat × Instr × Nat × Nat) := [(0, .iload_n 1, 1, 0), (1, .ifCond .lt 37, 4, 38), (4, .iload_n 1, 5, 0), (5, .aload_n 0, 6, 0), (6, .getfield 15, 9, 0), (9, .if_icmp .ge 29, 12, 38), (12, .aload_n 0, 13, 0), (13, .getfield 9, 16, 0), (16, .iload_n 1, 17, 0), (17, .iaload, 18, 0), (18, .bipush (Int.ofNat 48), 20, 0), (20, .if_icmp .lt 18, 23, 38), (23, .aload_n 0, 24, 0), (24, .getfield 9, 27, 0), (27, .iload_n 1, 28, 0), (28, .iaload, 29, 0), (29, .bipush (Int.ofNat 57), 31, 0), (31, .if_icmp .gt 7, 34, 38), (34, .iconst (Int.ofNat 1), 35, 0), (35, .goto 4, 38, 39), (38, .iconst (Int.ofNat 0), 39, 0), (39, .ireturn, 40, 0)]
def tc_87 : List (Nat × Instr × Nat × Nat) := [(0, .aload_n 0, 1, 0), (1, .invokespecial 3, 4, 0), (4, .aload_n 0, 5, 0), (5, .sipush (Int.ofNat 401), 8, 0), (8, .newarray .int, 10, 0), (10, .putfield 9, 13, 0), (13, .aload_n 0, 14, 0), (14, .sipush (Int.ofNat 401), 17, 0), (17, .newarray .int, 19, 0), (19, .putfield 15, 22, 0), (22, .aload_n 0, 23, 0), (23, .sipush (Int.ofNat 401), 26, 0), (26, .newarray .int, 28, 0), (28, .putfield 18, 31, 0), (31, .aload_n 0, 32, 0), (32, .sipush (Int.ofNat 401), 35, 0), (35, .newarray .int, 37, 0), (37, .putfield 21, 40, 0), (40, .return_, 41, 0)]
def tc_88 : List (Nat × Instr × Nat × Nat) := [(0, .aload_n 0, 1, 0), (1, .iconst (Int.ofNat 0), 2, 0), (2, .putfield 24, 5, 0), (5, .aload_n 0, 6, 0), (6, .iconst (Int.ofNat 0), 7, 0), (7, .putfield 28, 10, 0), (10, .iconst (Int.ofNat 0), 11, 0), (11, .istore_n 2, 12, 0), (12, .iload_n 2, 13, 0), (13, .aload_n 1, 14, 0), (14, .getfield 31, 17, 0), (17, .if_icmp .ge 121, 20, 138), (20, .aload_n 1, 21, 0), (21, .iload_n 2, 22, 0), (22, .invokevirtual 36, 25, 0), (25, .ifCond .eq 35, 28, 60), (28, .aload_n 1, 29, 0), (29, .iload_n 2, 30, 0), (30, .iconst (Int.ofNat 1), 31, 0), (31, .isub, 32, 0), (32, .invokevirtual 36, 35, 0), (35, .ifCond .ne 97, 38, 132), (38, .aload_n 1, 39, 0), (39, .iload_n 2, 40, 0), (40, .invokestatic 40, 43, 0), (43, .istore_n 3, 44, 0), (44, .aload_n 0, 45, 0), (45, .aload_n 1, 46, 0), (46, .iload_n 2, 47, 0), (47, .iload_n 3, 48, 0), (48, .invokestatic 44, 51, 0), (51, .iload_n 2, 52, 0), (52, .iload_n 3, 53, 0), (53, .iconst (Int.ofNat 0), 54, 0), (54, .invokevirtual 48, 57, 0), (57, .goto 75, 60, 132), (60, .aload_n 1, 61, 0), (61, .iload_n 2, 62, 0), (62, .invokevirtual 52, 65, 0), (65, .ifCond .eq 36, 68, 101), (68, .aload_n 1, 69, 0), (69, .iload_n 2, 70, 0), (70, .iconst (Int.ofNat 1), 71, 0), (71, .isub, 72, 0), (72, .invokevirtual 52, 75, 0), (75, .ifCond .ne 57, 78, 132), (78, .aload_n 1, 79, 0), (79, .iload_n 2, 80, 0), (80, .invokestatic 55, 83, 0), (83, .istore_n 3, 84, 0), (84, .aload_n 0, 85, 0), (85, .bipush (Int.ofNat 20), 87, 0), (87, .iload_n 2, 88, 0), (88, .iload_n 3, 89, 0), (89, .aload_n 1, 90, 0), (90, .iload_n 2, 91, 0), (91, .iload_n 3, 92, 0), (92, .invokestatic 58, 95, 0), (95, .invokevirtual 48, 98, 0), (98, .goto 34, 101, 132), (101, .aload_n 1, 102, 0), (102, .getfield 61, 105, 0), (105, .iload_n 2, 106, 0), (106, .iaload, 107, 0), (107, .bipush (Int.ofNat 32), 109, 0), (109, .if_icmp .eq 23, 112, 132), (112, .aload_n 0, 113, 0), (113, .aload_n 1, 114, 0), (114, .getfield 61, 117, 0), (117, .iload_n 2, 118, 0), (118, .iaload, 119, 0), (119, .bipush (Int.ofNat 22), 121, 0), (121, .invokestatic 64, 124, 0), (124, .iload_n 2, 125, 0), (125, .iload_n 2, 126, 0), (126, .iconst (Int.ofNat 1), 127, 0), (127, .iadd, 128, 0), (128, .iconst (Int.ofNat 0), 129, 0), (129, .invokevirtual 48, 132, 0), (132, .iinc 2 1, 135, 0), (135, .goto (-123), 138, 12), (138, .aload_n 0, 139, 0), (139, .bipush (Int.ofNat 21), 141, 0), (141, .aload_n 1, 142, 0), (142, .getfield 31, 145, 0), (145, .aload_n 1, 146, 0), (146, .getfield 31, 149, 0), (149, .iconst (Int.ofNat 0), 150, 0), (150, .invokevirtual 48, 153, 0), (153, .return_, 154, 0)]
def tc_89 : List (Nat × Instr × Nat × Nat) := [(0, .aload_n 0, 1, 0), (1, .getfield 24, 4, 0), (4, .aload_n 0, 5, 0), (5, .getfield 9, 8, 0), (8, .arraylength, 9, 0), (9, .if_icmp .lt 4, 12, 13), (12, .return_, 13, 0), (13, .aload_n 0, 14, 0), (14, .getfield 9, 17, 0), (17, .aload_n 0, 18, 0), (18, .getfield 24, 21, 0), (21, .iload_n 1, 22, 0), (22, .iastore, 23, 0), (23, .aload_n 0, 24, 0), (24, .getfield 15, 27, 0), (27, .aload_n 0, 28, 0), (28, .getfield 24, 31, 0), (31, .iload_n 2, 32, 0), (32, .iastore, 33, 0), (33, .aload_n 0, 34, 0), (34, .getfield 18, 37, 0), (37, .aload_n 0, 38, 0), (38, .getfield 24, 41, 0), (41, .iload_n 3, 42, 0), (42, .iload_n 2, 43, 0), (43, .isub, 44, 0), (44, .iastore, 45, 0), (45, .aload_n 0, 46, 0), (46, .getfield 21, 49, 0), (49, .aload_n 0, 50, 0), (50, .getfield 24, 53, 0), (53, .iload 4, 55, 0), (55, .iastore, 56, 0), (56, .aload_n 0, 57, 0), (57, .dup, 58, 0), (58, .getfield 24, 61, 0), (61, .iconst (Int.ofNat 1), 62, 0), (62, .iadd, 63, 0), (63, .putfield 24, 66, 0), (66, .return_, 67, 0)]
def tc_90 : List (Nat × Instr × Nat × Nat) := [(0, .iload_n 1, 1, 0), (1, .iconst (Int.ofNat 1), 2, 0), (2, .iadd, 3, 0), (3, .istore_n 2, 4, 0), (4, .iload_n 2, 5, 0), (5, .aload_n 0, 6, 0), (6, .getfield 31, 9, 0), (9, .if_icmp .ge 17, 12, 26), (12, .aload_n 0, 13, 0), (13, .iload_n 2, 14, 0), (14, .invokevirtual 36, 17, 0), (17, .ifCond .eq 9, 20, 26), (20, .iinc 2 1, 23, 0), (23, .goto (-19), 26, 4), (26, .iload_n 2, 27, 0), (27, .ireturn, 28, 0)]
def tc_91 : List (Nat × Instr × Nat × Nat) := [(0, .iload_n 1, 1, 0), (1, .iconst (Int.ofNat 1), 2, 0), (2, .iadd, 3, 0), (3, .istore_n 2, 4, 0), (4, .iload_n 2, 5, 0), (5, .aload_n 0, 6, 0), (6, .getfield 31, 9, 0), (9, .if_icmp .ge 17, 12, 26), (12, .aload_n 0, 13, 0), (13, .iload_n 2, 14, 0), (14, .invokevirtual 52, 17, 0), (17, .ifCond .eq 9, 20, 26), (20, .iinc 2 1, 23, 0), (23, .goto (-19), 26, 4), (26, .iload_n 2, 27, 0), (27, .ireturn, 28, 0)]
def tc_92 : List (Nat × Instr × Nat × Nat) := [(0, .iload_n 2, 1, 0), (1, .iload_n 1, 2, 0), (2, .isub, 3, 0), (3, .iconst (Int.ofNat 3), 4, 0), (4, .if_icmp .le 7, 7, 11), (7, .sipush (Int.ofNat 1000), 10, 0), (10, .ireturn, 11, 0), (11, .iconst (Int.ofNat 0), 12, 0), (12, .istore_n 3, 13, 0), (13, .iload_n 1, 14, 0), (14, .istore 4, 16, 0), (16, .iload 4, 18, 0), (18, .iload_n 2, 19, 0), (19, .if_icmp .ge 25, 22, 44), (22, .iload_n 3, 23, 0), (23, .bipush (Int.ofNat 10), 25, 0), (25, .imul, 26, 0), (26, .aload_n 0, 27, 0), (27, .getfield 61, 30, 0), (30, .iload 4, 32, 0), (32, .iaload, 33, 0), (33, .iadd, 34, 0), (34, .bipush (Int.ofNat 48), 36, 0), (36, .isub, 37, 0), (37, .istore_n 3, 38, 0), (38, .iinc 4 1, 41, 0), (41, .goto (-25), 44, 16), (44, .iload_n 3, 45, 0), (45, .ireturn, 46, 0)]
def tc_93 : List (Nat × Instr × Nat × Nat) := [(0, .iconst (Int.ofNat 0), 1, 0), (1, .istore_n 3, 2, 0), (2, .iload_n 1, 3, 0), (3, .istore 4, 5, 0), (5, .iconst (Int.ofNat 1), 6, 0), (6, .istore 5, 8, 0), (8, .iconst (Int.ofNat 0), 9, 0), (9, .istore 6, 11, 0), (11, .iload 6, 13, 0), (13, .ldc 70, 15, 0), (15, .invokevirtual 72, 18, 0), (18, .if_icmp .ge 83, 21, 101), (21, .ldc 70, 23, 0), (23, .iload 6, 25, 0), (25, .invokevirtual 78, 28, 0), (28, .istore 7, 30, 0), (30, .iload 7, 32, 0), (32, .bipush (Int.ofNat 32), 34, 0), (34, .if_icmp .eq 39, 37, 73), (37, .iload 5, 39, 0), (39, .ifCond .eq 25, 42, 64), (42, .iload 4, 44, 0), (44, .iload_n 2, 45, 0), (45, .if_icmp .ge 19, 48, 64), (48, .aload_n 0, 49, 0), (49, .getfield 61, 52, 0), (52, .iload 4, 54, 0), (54, .iaload, 55, 0), (55, .iload 7, 57, 0), (57, .if_icmp .ne 7, 60, 64), (60, .iconst (Int.ofNat 1), 61, 0), (61, .goto 4, 64, 65), (64, .iconst (Int.ofNat 0), 65, 0), (65, .istore 5, 67, 0), (67, .iinc 4 1, 70, 0), (70, .goto 25, 73, 95), (73, .iload 5, 75, 0), (75, .ifCond .eq 11, 78, 86), (78, .iload 4, 80, 0), (80, .iload_n 2, 81, 0), (81, .if_icmp .ne 5, 84, 86), (84, .iload_n 3, 85, 0), (85, .ireturn, 86, 0), (86, .iinc 3 1, 89, 0), (89, .iload_n 1, 90, 0), (90, .istore 4, 92, 0), (92, .iconst (Int.ofNat 1), 93, 0), (93, .istore 5, 95, 0), (95, .iinc 6 1, 98, 0), (98, .goto (-87), 101, 11), (101, .bipush (Int.ofNat 22), 103, 0), (103, .ireturn, 104, 0)]
def tc_94 : List (Nat × Instr × Nat × Nat) := [(0, .aload_n 0, 1, 0), (1, .getfield 28, 4, 0), (4, .aload_n 0, 5, 0), (5, .getfield 24, 8, 0), (8, .if_icmp .ge 15, 11, 23), (11, .aload_n 0, 12, 0), (12, .getfield 9, 15, 0), (15, .aload_n 0, 16, 0), (16, .getfield 28, 19, 0), (19, .iaload, 20, 0), (20, .goto 5, 23, 25), (23, .bipush (Int.ofNat 21), 25, 0), (25, .ireturn, 26, 0)]
def tc_95 : List (Nat × Instr × Nat × Nat) := [(0, .aload_n 0, 1, 0), (1, .getfield 28, 4, 0), (4, .aload_n 0, 5, 0), (5, .getfield 24, 8, 0), (8, .if_icmp .ge 15, 11, 23), (11, .aload_n 0, 12, 0), (12, .getfield 21, 15, 0), (15, .aload_n 0, 16, 0), (16, .getfield 28, 19, 0), (19, .iaload, 20, 0), (20, .goto 4, 23, 24), (23, .iconst (Int.ofNat 0), 24, 0), (24, .ireturn, 25, 0)]
def tc_96 : List (Nat × Instr × Nat × Nat) := [(0, .aload_n 0, 1, 0), (1, .getfield 28, 4, 0), (4, .aload_n 0, 5, 0), (5, .getfield 24, 8, 0), (8, .if_icmp .ge 15, 11, 23), (11, .aload_n 0, 12, 0), (12, .getfield 18, 15, 0), (15, .aload_n 0, 16, 0), (16, .getfield 28, 19, 0), (19, .iaload, 20, 0), (20, .goto 4, 23, 24), (23, .iconst (Int.ofNat 0), 24, 0), (24, .ireturn, 25, 0)]
def tc_97 : List (Nat × Instr × Nat × Nat) := [(0, .aload_n 0, 1, 0), (1, .getfield 28, 4, 0), (4, .aload_n 0, 5, 0), (5, .getfield 24, 8, 0), (8, .if_icmp .ge 15, 11, 23), (11, .aload_n 0, 12, 0), (12, .getfield 15, 15, 0), (15, .aload_n 0, 16, 0), (16, .getfield 28, 19, 0), (19, .iaload, 20, 0), (20, .goto 4, 23, 24), (23, .iconst (Int.ofNat 0), 24, 0), (24, .ireturn, 25, 0)]
def tc_98 : List (Nat × Instr × Nat × Nat) := [(0, .aload_n 0, 1, 0), (1, .dup, 2, 0), (2, .getfield 28, 5, 0), (5, .iconst (Int.ofNat 1), 6, 0), (6, .iadd, 7, 0), (7, .putfield 28, 10, 0), (10, .return_, 11, 0)]
def tc_99 : List (Nat × Instr × Nat × Nat) := [(0, .aload_n 0, 1, 0), (1, .invokevirtual 82, 4, 0), (4, .istore_n 3, 5, 0), (5, .aload_n 0, 6, 0), (6, .invokevirtual 85, 9, 0), (9, .bipush (Int.ofNat 20), 11, 0), (11, .if_icmp .ne 13, 14, 24), (14, .iload_n 3, 15, 0), (15, .iload_n 1, 16, 0), (16, .if_icmp .lt 8, 19, 24), (19, .iload_n 3, 20, 0), (20, .iload_n 2, 21, 0), (21, .if_icmp .le 5, 24, 26), (24, .iconst (Int.negSucc 0), 25, 0), (25, .ireturn, 26, 0), (26, .aload_n 0, 27, 0), (27, .dup, 28, 0), (28, .getfield 28, 31, 0), (31, .iconst (Int.ofNat 1), 32, 0), (32, .iadd, 33, 0), (33, .putfield 28, 36, 0), (36, .iload_n 3, 37, 0), (37, .ireturn, 38, 0)]
def tc_100 : List (Nat × Instr × Nat × Nat) := [(0, .aload_n 0, 1, 0), (1, .invokespecial 3, 4, 0), (4, .aload_n 0, 5, 0), (5, .bipush (Int.ofNat 10), 7, 0), (7, .newarray .int, 9, 0), (9, .putfield 9, 12, 0), (12, .aload_n 0, 13, 0), (13, .bipush (Int.ofNat 10), 15, 0), (15, .newarray .int, 17, 0), (17, .putfield 15, 20, 0), (20, .aload_n 0, 21, 0), (21, .bipush (Int.ofNat 10), 23, 0), (23, .newarray .int, 25, 0), (25, .putfield 18, 28, 0), (28, .aload_n 0, 29, 0), (29, .bipush (Int.ofNat 10), 31, 0), (31, .newarray .int, 33, 0), (33, .putfield 21, 36, 0), (36, .aload_n 0, 37, 0), (37, .bipush (Int.ofNat 60), 39, 0), (39, .newarray .int, 41, 0), (41, .putfield 24, 44, 0), (44, .aload_n 0, 45, 0), (45, .bipush (Int.ofNat 10), 47, 0), (47, .newarray .int, 49, 0), (49, .putfield 27, 52, 0), (52, .aload_n 0, 53, 0), (53, .bipush (Int.ofNat 10), 55, 0), (55, .newarray .int, 57, 0), (57, .putfield 30, 60, 0), (60, .aload_n 0, 61, 0), (61, .bipush (Int.ofNat 10), 63, 0), (63, .newarray .long, 65, 0), (65, .putfield 33, 68, 0), (68, .aload_n 0, 69, 0), (69, .bipush (Int.ofNat 8), 71, 0), (71, .newarray .int, 73, 0), (73, .dup, 74, 0), (74, .iconst (Int.ofNat 0), 75, 0), (75, .iconst (Int.ofNat 1), 76, 0), (76, .iastore, 77, 0), (77, .dup, 78, 0), (78, .iconst (Int.ofNat 1), 79, 0), (79, .iconst (Int.ofNat 1), 80, 0), (80, .iastore, 81, 0), (81, .dup, 82, 0), (82, .iconst (Int.ofNat 2), 83, 0), (83, .iconst (Int.ofNat 1), 84, 0), (84, .iastore, 85, 0), (85, .dup, 86, 0), (86, .iconst (Int.ofNat 3), 87, 0), (87, .iconst (Int.ofNat 1), 88, 0), (88, .iastore, 89, 0), (89, .dup, 90, 0), (90, .iconst (Int.ofNat 4), 91, 0), (91, .iconst (Int.ofNat 1), 92, 0), (92, .iastore, 93, 0), (93, .dup, 94, 0), (94, .iconst (Int.ofNat 5), 95, 0), (95, .iconst (Int.ofNat 1), 96, 0), (96, .iastore, 97, 0), (97, .dup, 98, 0), (98, .bipush (Int.ofNat 6), 100, 0), (100, .iconst (Int.ofNat 1), 101, 0), (101, .iastore, 102, 0), (102, .dup, 103, 0), (103, .bipush (Int.ofNat 7), 105, 0), (105, .iconst (Int.ofNat 1), 106, 0), (106, .iastore, 107, 0), (107, .putfield 37, 110, 0), (110, .aload_n 0, 111, 0), (111, .bipush (Int.ofNat 100), 113, 0), (113, .putfield 40, 116, 0), (116, .aload_n 0, 117, 0), (117, .iconst (Int.ofNat 3), 118, 0), (118, .putfield 44, 121, 0), (121, .aload_n 0, 122, 0), (122, .iconst (Int.ofNat 1), 123, 0), (123, .putfield 47, 126, 0), (126, .aload_n 0, 127, 0), (127, .new 50, 130, 0), (130, .dup, 131, 0), (131, .invokespecial 52, 134, 0), (134, .putfield 53, 137, 0), (137, .return_, 138, 0)]
def tc_101_0 : List (Nat × Instr × Nat × Nat) := [(0, .aload_n 0, 1, 0), (1, .aload_n 1, 2, 0), (2, .getfield 57, 5, 0), (5, .putfield 57, 8, 0), (8, .aload_n 0, 9, 0), (9, .aload_n 1, 10, 0), (10, .getfield 60, 13, 0), (13, .putfield 60, 16, 0), (16, .aload_n 1, 17, 0), (17, .getfield 9, 20, 0), (20, .iconst (Int.ofNat 0), 21, 0), (21, .aload_n 0, 22, 0), (22, .getfield 9, 25, 0), (25, .iconst (Int.ofNat 0), 26, 0), (26, .aload_n 0, 27, 0), (27, .getfield 9, 30, 0), (30, .arraylength, 31, 0), (31, .invokestatic 63, 34, 0), (34, .aload_n 1, 35, 0), (35, .getfield 15, 38, 0), (38, .iconst (Int.ofNat 0), 39, 0), (39, .aload_n 0, 40, 0), (40, .getfield 15, 43, 0), (43, .iconst (Int.ofNat 0), 44, 0), (44, .aload_n 0, 45, 0), (45, .getfield 15, 48, 0), (48, .arraylength, 49, 0), (49, .invokestatic 63, 52, 0), (52, .aload_n 1, 53, 0), (53, .getfield 18, 56, 0), (56, .iconst (Int.ofNat 0), 57, 0), (57, .aload_n 0, 58, 0), (58, .getfield 18, 61, 0), (61, .iconst (Int.ofNat 0), 62, 0), (62, .aload_n 0, 63, 0), (63, .getfield 18, 66, 0), (66, .arraylength, 67, 0), (67, .invokestatic 63, 70, 0), (70, .aload_n 1, 71, 0), (71, .getfield 21, 74, 0), (74, .iconst (Int.ofNat 0), 75, 0), (75, .aload_n 0, 76, 0), (76, .getfield 21, 79, 0), (79, .iconst (Int.ofNat 0), 80, 0), (80, .aload_n 0, 81, 0), (81, .getfield 21, 84, 0), (84, .arraylength, 85, 0), (85, .invokestatic 63, 88, 0), (88, .aload_n 1, 89, 0), (89, .getfield 24, 92, 0), (92, .iconst (Int.ofNat 0), 93, 0), (93, .aload_n 0, 94, 0), (94, .getfield 24, 97, 0), (97, .iconst (Int.ofNat 0), 98, 0), (98, .aload_n 0, 99, 0), (99, .getfield 24, 102, 0), (102, .arraylength, 103, 0), (103, .invokestatic 63, 106, 0), (106, .aload_n 1, 107, 0), (107, .getfield 27, 110, 0)]
def tc_101_1 : List (Nat × Instr × Nat × Nat) := [(110, .iconst (Int.ofNat 0), 111, 0), (111, .aload_n 0, 112, 0), (112, .getfield 27, 115, 0), (115, .iconst (Int.ofNat 0), 116, 0), (116, .aload_n 0, 117, 0), (117, .getfield 27, 120, 0), (120, .arraylength, 121, 0), (121, .invokestatic 63, 124, 0), (124, .aload_n 1, 125, 0), (125, .getfield 30, 128, 0), (128, .iconst (Int.ofNat 0), 129, 0), (129, .aload_n 0, 130, 0), (130, .getfield 30, 133, 0), (133, .iconst (Int.ofNat 0), 134, 0), (134, .aload_n 0, 135, 0), (135, .getfield 30, 138, 0), (138, .arraylength, 139, 0), (139, .invokestatic 63, 142, 0), (142, .aload_n 1, 143, 0), (143, .getfield 33, 146, 0), (146, .iconst (Int.ofNat 0), 147, 0), (147, .aload_n 0, 148, 0), (148, .getfield 33, 151, 0), (151, .iconst (Int.ofNat 0), 152, 0), (152, .aload_n 0, 153, 0), (153, .getfield 33, 156, 0), (156, .arraylength, 157, 0), (157, .invokestatic 63, 160, 0), (160, .aload_n 1, 161, 0), (161, .getfield 37, 164, 0), (164, .iconst (Int.ofNat 0), 165, 0), (165, .aload_n 0, 166, 0), (166, .getfield 37, 169, 0), (169, .iconst (Int.ofNat 0), 170, 0), (170, .aload_n 0, 171, 0), (171, .getfield 37, 174, 0), (174, .arraylength, 175, 0), (175, .invokestatic 63, 178, 0), (178, .aload_n 0, 179, 0), (179, .aload_n 1, 180, 0), (180, .getfield 40, 183, 0), (183, .putfield 40, 186, 0), (186, .aload_n 0, 187, 0), (187, .aload_n 1, 188, 0), (188, .getfield 44, 191, 0), (191, .putfield 44, 194, 0), (194, .aload_n 0, 195, 0), (195, .aload_n 1, 196, 0), (196, .getfield 69, 199, 0), (199, .putfield 69, 202, 0), (202, .aload_n 0, 203, 0), (203, .aload_n 1, 204, 0), (204, .getfield 47, 207, 0), (207, .putfield 47, 210, 0), (210, .aload_n 0, 211, 0), (211, .aload_n 1, 212, 0), (212, .getfield 72, 215, 0), (215, .putfield 72, 218, 0), (218, .aload_n 0, 219, 0), (219, .aload_n 1, 220, 0)]
def tc_101_2 : List (Nat × Instr × Nat × Nat) := [(220, .getfield 75, 223, 0), (223, .putfield 75, 226, 0), (226, .aload_n 0, 227, 0), (227, .aload_n 1, 228, 0), (228, .getfield 78, 231, 0), (231, .putfield 78, 234, 0), (234, .aload_n 0, 235, 0), (235, .aload_n 1, 236, 0), (236, .getfield 81, 239, 0), (239, .putfield 81, 242, 0), (242, .aload_n 0, 243, 0), (243, .getfield 53, 246, 0), (246, .aload_n 1, 247, 0), (247, .getfield 53, 250, 0), (250, .invokevirtual 84, 253, 0), (253, .return_, 254, 0)]
def tc_101 : List (Nat × Instr × Nat × Nat) := tc_101_0 ++ (tc_101_1 ++ tc_101_2)
def tc_102 : List (Nat × Instr × Nat × Nat) := [(0, .aload_n 0, 1, 0), (1, .getfield 57, 4, 0), (4, .istore_n 2, 5, 0), (5, .iload_n 2, 6, 0), (6, .bipush (Int.ofNat 10), 8, 0), (8, .if_icmp .lt 5, 11, 13), (11, .iconst (Int.negSucc 0), 12, 0), (12, .ireturn, 13, 0), (13, .aload_n 0, 14, 0), (14, .dup, 15, 0), (15, .getfield 57, 18, 0), (18, .iconst (Int.ofNat 1), 19, 0), (19, .iadd, 20, 0), (20, .putfield 57, 23, 0), (23, .aload_n 0, 24, 0), (24, .dup, 25, 0), (25, .getfield 60, 28, 0), (28, .iconst (Int.ofNat 1), 29, 0), (29, .iload_n 2, 30, 0), (30, .ishl, 31, 0), (31, .ior, 32, 0), (32, .putfield 60, 35, 0), (35, .aload_n 0, 36, 0), (36, .getfield 9, 39, 0), (39, .iload_n 2, 40, 0), (40, .iconst (Int.ofNat 0), 41, 0), (41, .iastore, 42, 0), (42, .aload_n 0, 43, 0), (43, .getfield 15, 46, 0), (46, .iload_n 2, 47, 0), (47, .iload_n 1, 48, 0), (48, .iastore, 49, 0), (49, .aload_n 0, 50, 0), (50, .getfield 18, 53, 0), (53, .iload_n 2, 54, 0), (54, .iconst (Int.ofNat 0), 55, 0), (55, .iastore, 56, 0), (56, .aload_n 0, 57, 0), (57, .getfield 21, 60, 0), (60, .iload_n 2, 61, 0), (61, .iconst (Int.negSucc 0), 62, 0), (62, .iastore, 63, 0), (63, .aload_n 0, 64, 0), (64, .getfield 27, 67, 0), (67, .iload_n 2, 68, 0), (68, .iconst (Int.ofNat 0), 69, 0), (69, .iastore, 70, 0), (70, .aload_n 0, 71, 0), (71, .getfield 30, 74, 0), (74, .iload_n 2, 75, 0), (75, .iconst (Int.ofNat 0), 76, 0), (76, .iastore, 77, 0), (77, .aload_n 0, 78, 0), (78, .getfield 33, 81, 0), (81, .iload_n 2, 82, 0), (82, .lconst 0, 83, 0), (83, .lastore, 84, 0), (84, .iload_n 2, 85, 0), (85, .ireturn, 86, 0)]
def tc_103 : List (Nat × Instr × Nat × Nat) := [(0, .aload_n 0, 1, 0), (1, .getfield 27, 4, 0), (4, .iload_n 1, 5, 0), (5, .iaload, 6, 0), (6, .istore_n 3, 7, 0), (7, .iload_n 3, 8, 0), (8, .bipush (Int.ofNat 6), 10, 0), (10, .if_icmp .ge 25, 13, 35), (13, .aload_n 0, 14, 0), (14, .getfield 24, 17, 0), (17, .iload_n 1, 18, 0), (18, .bipush (Int.ofNat 6), 20, 0), (20, .imul, 21, 0), (21, .iload_n 3, 22, 0), (22, .iadd, 23, 0), (23, .iload_n 2, 24, 0), (24, .iastore, 25, 0), (25, .aload_n 0, 26, 0), (26, .getfield 27, 29, 0), (29, .iload_n 1, 30, 0), (30, .dup2, 31, 0), (31, .iaload, 32, 0), (32, .iconst (Int.ofNat 1), 33, 0), (33, .iadd, 34, 0), (34, .iastore, 35, 0), (35, .return_, 36, 0)]
def tc_104 : List (Nat × Instr × Nat × Nat) := [(0, .aload_n 0, 1, 0), (1, .aload_n 0, 2, 0), (2, .getfield 15, 5, 0), (5, .iload_n 1, 6, 0), (6, .iaload, 7, 0), (7, .invokevirtual 88, 10, 0), (10, .istore_n 2, 11, 0), (11, .iload_n 2, 12, 0), (12, .iconst (Int.negSucc 0), 13, 0), (13, .if_icmp .eq 32, 16, 45), (16, .iconst (Int.ofNat 0), 17, 0), (17, .istore_n 3, 18, 0), (18, .iload_n 3, 19, 0), (19, .aload_n 0, 20, 0), (20, .getfield 27, 23, 0), (23, .iload_n 1, 24, 0), (24, .iaload, 25, 0), (25, .if_icmp .ge 20, 28, 45), (28, .aload_n 0, 29, 0), (29, .iload_n 2, 30, 0), (30, .aload_n 0, 31, 0), (31, .iload_n 1, 32, 0), (32, .iload_n 3, 33, 0), (33, .invokevirtual 92, 36, 0), (36, .invokevirtual 96, 39, 0), (39, .iinc 3 1, 42, 0), (42, .goto (-24), 45, 18), (45, .iload_n 2, 46, 0), (46, .ireturn, 47, 0)]
def tc_105 : List (Nat × Instr × Nat × Nat) := [(0, .aload_n 0, 1, 0), (1, .dup, 2, 0), (2, .getfield 60, 5, 0), (5, .iconst (Int.ofNat 1), 6, 0), (6, .iload_n 1, 7, 0), (7, .ishl, 8, 0), (8, .iconst (Int.negSucc 0), 9, 0), (9, .ixor, 10, 0), (10, .iand, 11, 0), (11, .putfield 60, 14, 0), (14, .aload_n 0, 15, 0), (15, .getfield 18, 18, 0), (18, .iload_n 1, 19, 0), (19, .iconst (Int.ofNat 0), 20, 0), (20, .iastore, 21, 0), (21, .aload_n 0, 22, 0), (22, .getfield 21, 25, 0), (25, .iload_n 1, 26, 0), (26, .iaload, 27, 0), (27, .istore_n 2, 28, 0), (28, .aload_n 0, 29, 0), (29, .iload_n 2, 30, 0), (30, .invokevirtual 100, 33, 0), (33, .ifCond .eq 10, 36, 43), (36, .aload_n 0, 37, 0), (37, .getfield 21, 40, 0), (40, .iload_n 2, 41, 0), (41, .iconst (Int.negSucc 0), 42, 0), (42, .iastore, 43, 0), (43, .aload_n 0, 44, 0), (44, .getfield 21, 47, 0), (47, .iload_n 1, 48, 0), (48, .iconst (Int.negSucc 0), 49, 0), (49, .iastore, 50, 0), (50, .return_, 51, 0)]
def tc_106 : List (Nat × Instr × Nat × Nat) := [(0, .aload_n 0, 1, 0), (1, .getfield 21, 4, 0), (4, .iload_n 1, 5, 0), (5, .iload_n 2, 6, 0), (6, .iastore, 7, 0), (7, .aload_n 0, 8, 0), (8, .getfield 21, 11, 0), (11, .iload_n 2, 12, 0), (12, .iload_n 1, 13, 0), (13, .iastore, 14, 0), (14, .aload_n 0, 15, 0), (15, .getfield 9, 18, 0), (18, .iload_n 1, 19, 0), (19, .dup2, 20, 0), (20, .iaload, 21, 0), (21, .aload_n 0, 22, 0), (22, .getfield 9, 25, 0), (25, .iload_n 2, 26, 0), (26, .iaload, 27, 0), (27, .ior, 28, 0), (28, .iastore, 29, 0), (29, .aload_n 0, 30, 0), (30, .getfield 9, 33, 0), (33, .iload_n 2, 34, 0), (34, .aload_n 0, 35, 0), (35, .getfield 9, 38, 0), (38, .iload_n 1, 39, 0), (39, .iaload, 40, 0), (40, .iastore, 41, 0), (41, .return_, 42, 0)]
def tc_107 : List (Nat × Instr × Nat × Nat) := [(0, .iload_n 1, 1, 0), (1, .ifCond .lt 15, 4, 16), (4, .iload_n 1, 5, 0), (5, .aload_n 0, 6, 0), (6, .getfield 57, 9, 0), (9, .if_icmp .ge 7, 12, 16), (12, .iconst (Int.ofNat 1), 13, 0), (13, .goto 4, 16, 17), (16, .iconst (Int.ofNat 0), 17, 0), (17, .ireturn, 18, 0)]
def tc_108 : List (Nat × Instr × Nat × Nat) := [(0, .aload_n 0, 1, 0), (1, .getfield 60, 4, 0), (4, .iload_n 1, 5, 0), (5, .invokestatic 104, 8, 0), (8, .iconst (Int.ofNat 1), 9, 0), (9, .if_icmp .ne 7, 12, 16), (12, .iconst (Int.ofNat 1), 13, 0), (13, .goto 4, 16, 17), (16, .iconst (Int.ofNat 0), 17, 0), (17, .ireturn, 18, 0)]
def tc_109 : List (Nat × Instr × Nat × Nat) := [(0, .aload_n 0, 1, 0), (1, .getfield 33, 4, 0), (4, .iload_n 1, 5, 0), (5, .laload, 6, 0), (6, .iload_n 2, 7, 0), (7, .lushr, 8, 0), (8, .lconst 1, 9, 0), (9, .land, 10, 0), (10, .lconst 1, 11, 0), (11, .lcmp, 12, 0), (12, .ifCond .ne 7, 15, 19), (15, .iconst (Int.ofNat 1), 16, 0), (16, .goto 4, 19, 20), (19, .iconst (Int.ofNat 0), 20, 0), (20, .ireturn, 21, 0)]
def tc_110 : List (Nat × Instr × Nat × Nat) := [(0, .aload_n 0, 1, 0), (1, .getfield 24, 4, 0), (4, .iload_n 1, 5, 0), (5, .bipush (Int.ofNat 6), 7, 0), (7, .imul, 8, 0), (8, .iload_n 2, 9, 0), (9, .iadd, 10, 0), (10, .iaload, 11, 0), (11, .ireturn, 12, 0)]
def tc_111 : List (Nat × Instr × Nat × Nat) := [(0, .aload_n 0, 1, 0), (1, .getfield 27, 4, 0), (4, .iload_n 1, 5, 0), (5, .iaload, 6, 0), (6, .istore_n 3, 7, 0), (7, .iload_n 3, 8, 0), (8, .iconst (Int.ofNat 1), 9, 0), (9, .if_icmp .ge 7, 12, 16), (12, .iconst (Int.ofNat 0), 13, 0), (13, .goto 18, 16, 31), (16, .aload_n 0, 17, 0), (17, .iload_n 1, 18, 0), (18, .aload_n 0, 19, 0), (19, .getfield 30, 22, 0), (22, .iload_n 1, 23, 0), (23, .iaload, 24, 0), (24, .iload_n 2, 25, 0), (25, .iadd, 26, 0), (26, .iload_n 3, 27, 0), (27, .irem, 28, 0), (28, .invokevirtual 92, 31, 0), (31, .ireturn, 32, 0)]
def tc_112 : List (Nat × Instr × Nat × Nat) := [(0, .aload_n 0, 1, 0), (1, .iload_n 1, 2, 0), (2, .iload_n 2, 3, 0), (3, .invokevirtual 107, 6, 0), (6, .bipush (Int.ofNat 8), 8, 0), (8, .irem, 9, 0), (9, .ireturn, 10, 0)]
def tc_113 : List (Nat × Instr × Nat × Nat) := [(0, .aload_n 0, 1, 0), (1, .getfield 9, 4, 0), (4, .iload_n 1, 5, 0), (5, .iaload, 6, 0), (6, .invokestatic 110, 9, 0), (9, .ireturn, 10, 0)]
def tc_114 : List (Nat × Instr × Nat × Nat) := [(0, .aload_n 0, 1, 0), (1, .getfield 21, 4, 0), (4, .iload_n 1, 5, 0), (5, .iaload, 6, 0), (6, .istore_n 2, 7, 0), (7, .aload_n 0, 8, 0), (8, .iload_n 2, 9, 0), (9, .invokevirtual 100, 12, 0), (12, .ifCond .eq 19, 15, 31), (15, .aload_n 0, 16, 0), (16, .getfield 9, 19, 0), (19, .iload_n 1, 20, 0), (20, .iaload, 21, 0), (21, .aload_n 0, 22, 0), (22, .getfield 9, 25, 0), (25, .iload_n 2, 26, 0), (26, .iaload, 27, 0), (27, .ior, 28, 0), (28, .goto 9, 31, 37), (31, .aload_n 0, 32, 0), (32, .getfield 9, 35, 0), (35, .iload_n 1, 36, 0), (36, .iaload, 37, 0), (37, .ireturn, 38, 0)]
def tc_115 : List (Nat × Instr × Nat × Nat) := [(0, .iconst (Int.ofNat 0), 1, 0), (1, .istore_n 1, 2, 0), (2, .iconst (Int.ofNat 0), 3, 0), (3, .istore_n 2, 4, 0), (4, .iload_n 2, 5, 0), (5, .aload_n 0, 6, 0), (6, .getfield 57, 9, 0), (9, .if_icmp .ge 26, 12, 35), (12, .aload_n 0, 13, 0), (13, .iload_n 2, 14, 0), (14, .invokevirtual 115, 17, 0), (17, .ifCond .eq 12, 20, 29), (20, .iload_n 1, 21, 0), (21, .aload_n 0, 22, 0), (22, .getfield 9, 25, 0), (25, .iload_n 2, 26, 0), (26, .iaload, 27, 0), (27, .ior, 28, 0), (28, .istore_n 1, 29, 0), (29, .iinc 2 1, 32, 0), (32, .goto (-28), 35, 4), (35, .iload_n 1, 36, 0), (36, .ireturn, 37, 0)]
def tc_116 : List (Nat × Instr × Nat × Nat) := [(0, .iconst (Int.ofNat 0), 1, 0), (1, .istore_n 2, 2, 0), (2, .iconst (Int.ofNat 0), 3, 0), (3, .istore_n 3, 4, 0), (4, .iload_n 3, 5, 0), (5, .aload_n 0, 6, 0), (6, .getfield 57, 9, 0), (9, .if_icmp .ge 37, 12, 46), (12, .aload_n 0, 13, 0), (13, .iload_n 3, 14, 0), (14, .invokevirtual 115, 17, 0), (17, .ifCond .eq 23, 20, 40), (20, .aload_n 0, 21, 0), (21, .getfield 9, 24, 0), (24, .iload_n 3, 25, 0), (25, .iaload, 26, 0), (26, .iload_n 1, 27, 0), (27, .invokestatic 104, 30, 0), (30, .iconst (Int.ofNat 1), 31, 0), (31, .if_icmp .ne 9, 34, 40), (34, .iload_n 2, 35, 0), (35, .iconst (Int.ofNat 1), 36, 0), (36, .iload_n 3, 37, 0), (37, .ishl, 38, 0), (38, .ior, 39, 0), (39, .istore_n 2, 40, 0), (40, .iinc 3 1, 43, 0), (43, .goto (-39), 46, 4), (46, .iload_n 2, 47, 0), (47, .ireturn, 48, 0)]
def tc_117 : List (Nat × Instr × Nat × Nat) := [(0, .iconst (Int.ofNat 0), 1, 0), (1, .istore_n 1, 2, 0), (2, .iconst (Int.ofNat 0), 3, 0), (3, .istore_n 2, 4, 0), (4, .iload_n 2, 5, 0), (5, .aload_n 0, 6, 0), (6, .getfield 57, 9, 0), (9, .if_icmp .ge 24, 12, 33), (12, .aload_n 0, 13, 0), (13, .getfield 18, 16, 0), (16, .iload_n 2, 17, 0), (17, .iaload, 18, 0), (18, .ifCond .le 9, 21, 27), (21, .iload_n 1, 22, 0), (22, .iconst (Int.ofNat 1), 23, 0), (23, .iload_n 2, 24, 0), (24, .ishl, 25, 0), (25, .ior, 26, 0), (26, .istore_n 1, 27, 0), (27, .iinc 2 1, 30, 0), (30, .goto (-26), 33, 4), (33, .iload_n 1, 34, 0), (34, .ireturn, 35, 0)]
def tc_118 : List (Nat × Instr × Nat × Nat) := [(0, .aload_n 0, 1, 0), (1, .getfield 60, 4, 0), (4, .aload_n 0, 5, 0), (5, .invokevirtual 118, 8, 0), (8, .iconst (Int.negSucc 0), 9, 0), (9, .ixor, 10, 0), (10, .iand, 11, 0), (11, .istore_n 2, 12, 0), (12, .aload_n 0, 13, 0), (13, .aload_n 1, 14, 0), (14, .iload_n 2, 15, 0), (15, .invokevirtual 122, 18, 0), (18, .istore_n 3, 19, 0), (19, .aload_n 0, 20, 0), (20, .invokevirtual 126, 23, 0), (23, .istore 4, 25, 0), (25, .iconst (Int.ofNat 0), 26, 0), (26, .istore 5, 28, 0), (28, .iload 5, 30, 0), (30, .aload_n 0, 31, 0), (31, .getfield 57, 34, 0), (34, .if_icmp .ge 29, 37, 63), (37, .iload_n 3, 38, 0), (38, .iload 5, 40, 0), (40, .invokestatic 104, 43, 0), (43, .iconst (Int.ofNat 1), 44, 0), (44, .if_icmp .ne 13, 47, 57), (47, .aload_n 0, 48, 0), (48, .aload_n 1, 49, 0), (49, .iload 5, 51, 0), (51, .iload_n 2, 52, 0), (52, .iload 4, 54, 0), (54, .invokevirtual 129, 57, 0), (57, .iinc 5 1, 60, 0), (60, .goto (-32), 63, 28), (63, .iconst (Int.ofNat 0), 64, 0), (64, .istore 5, 66, 0), (66, .iload 5, 68, 0), (68, .aload_n 0, 69, 0), (69, .getfield 57, 72, 0), (72, .if_icmp .ge 75, 75, 147), (75, .iload_n 2, 76, 0), (76, .iload 5, 78, 0), (78, .invokestatic 104, 81, 0), (81, .ifCond .ne 24, 84, 105), (84, .aload_n 0, 85, 0), (85, .getfield 18, 88, 0), (88, .iload 5, 90, 0), (90, .iaload, 91, 0), (91, .ifCond .le 14, 94, 105), (94, .aload_n 0, 95, 0), (95, .getfield 18, 98, 0), (98, .iload 5, 100, 0), (100, .dup2, 101, 0), (101, .iaload, 102, 0), (102, .iconst (Int.ofNat 1), 103, 0), (103, .isub, 104, 0), (104, .iastore, 105, 0), (105, .aload_n 0, 106, 0), (106, .getfield 30, 109, 0), (109, .iload 5, 111, 0), (111, .dup2, 112, 0), (112, .iaload, 113, 0), (113, .iconst (Int.ofNat 1), 114, 0), (114, .iadd, 115, 0), (115, .iastore, 116, 0), (116, .aload_n 0, 117, 0), (117, .getfield 30, 120, 0), (120, .iload 5, 122, 0), (122, .iaload, 123, 0), (123, .aload_n 0, 124, 0), (124, .getfield 27, 127, 0), (127, .iload 5, 129, 0), (129, .iaload, 130, 0), (130, .if_icmp .lt 11, 133, 141), (133, .aload_n 0, 134, 0), (134, .getfield 30, 137, 0), (137, .iload 5, 139, 0), (139, .iconst (Int.ofNat 0), 140, 0), (140, .iastore, 141, 0), (141, .iinc 5 1, 144, 0), (144, .goto (-78), 147, 66), (147, .aload_n 0, 148, 0), (148, .dup, 149, 0), (149, .getfield 69, 152, 0), (152, .iconst (Int.ofNat 1), 153, 0), (153, .iadd, 154, 0), (154, .putfield 69, 157, 0), (157, .return_, 158, 0)]
def tc_119 : List (Nat × Instr × Nat × Nat) := [(0, .iconst (Int.ofNat 0), 1, 0), (1, .istore_n 3, 2, 0), (2, .iconst (Int.ofNat 0), 3, 0), (3, .istore 4, 5, 0), (5, .iload 4, 7, 0), (7, .aload_n 0, 8, 0), (8, .getfield 57, 11, 0), (11, .if_icmp .ge 49, 14, 60), (14, .iload_n 2, 15, 0), (15, .iload 4, 17, 0), (17, .invokestatic 104, 20, 0), (20, .iconst (Int.ofNat 1), 21, 0), (21, .if_icmp .ne 33, 24, 54), (24, .aload_n 0, 25, 0), (25, .aload_n 1, 26, 0), (26, .iload 4, 28, 0), (28, .invokevirtual 133, 31, 0), (31, .ifCond .eq 16, 34, 47), (34, .aload_n 0, 35, 0), (35, .dup, 36, 0), (36, .getfield 81, 39, 0), (39, .iconst (Int.ofNat 1), 40, 0), (40, .iadd, 41, 0), (41, .putfield 81, 44, 0), (44, .goto 10, 47, 54), (47, .iload_n 3, 48, 0), (48, .iconst (Int.ofNat 1), 49, 0), (49, .iload 4, 51, 0), (51, .ishl, 52, 0), (52, .ior, 53, 0), (53, .istore_n 3, 54, 0), (54, .iinc 4 1, 57, 0), (57, .goto (-52), 60, 5), (60, .iload_n 3, 61, 0), (61, .ireturn, 62, 0)]
def tc_120 : List (Nat × Instr × Nat × Nat) := [(0, .aload_n 0, 1, 0), (1, .iload_n 2, 2, 0), (2, .iconst (Int.ofNat 0), 3, 0), (3, .invokevirtual 107, 6, 0), (6, .istore_n 3, 7, 0), (7, .aload_n 1, 8, 0), (8, .iconst (Int.ofNat 0), 9, 0), (9, .iload_n 3, 10, 0), (10, .iload_n 2, 11, 0), (11, .aload_n 0, 12, 0), (12, .iload_n 2, 13, 0), (13, .invokevirtual 137, 16, 0), (16, .aload_n 0, 17, 0), (17, .getfield 69, 20, 0), (20, .invokevirtual 140, 23, 0), (23, .istore 4, 25, 0), (25, .iload 4, 27, 0), (27, .aload_n 0, 28, 0), (28, .getfield 9, 31, 0), (31, .iload_n 2, 32, 0), (32, .iaload, 33, 0), (33, .iand, 34, 0), (34, .ifCond .eq 5, 37, 39), (37, .iconst (Int.ofNat 1), 38, 0), (38, .ireturn, 39, 0), (39, .aload_n 0, 40, 0), (40, .iload_n 2, 41, 0), (41, .iload_n 3, 42, 0), (42, .invokevirtual 146, 45, 0), (45, .ifCond .eq 23, 48, 68), (48, .aload_n 0, 49, 0), (49, .invokevirtual 150, 52, 0), (52, .bipush (Int.ofNat 100), 54, 0), (54, .irem, 55, 0), (55, .aload_n 0, 56, 0), (56, .getfield 15, 59, 0), (59, .iload_n 2, 60, 0), (60, .iaload, 61, 0), (61, .if_icmp .ge 7, 64, 68), (64, .iconst (Int.ofNat 1), 65, 0), (65, .goto 4, 68, 69), (68, .iconst (Int.ofNat 0), 69, 0), (69, .ireturn, 70, 0)]
def tc_121_0 : List (Nat × Instr × Nat × Nat) := [(0, .aload_n 0, 1, 0), (1, .iload_n 2, 2, 0), (2, .iconst (Int.ofNat 0), 3, 0), (3, .invokevirtual 107, 6, 0), (6, .istore 5, 8, 0), (8, .iload 4, 10, 0), (10, .aload_n 1, 11, 0), (11, .iconst (Int.ofNat 0), 12, 0), (12, .iload 5, 14, 0), (14, .iload_n 2, 15, 0), (15, .aload_n 0, 16, 0), (16, .iload_n 2, 17, 0), (17, .invokevirtual 137, 20, 0), (20, .aload_n 0, 21, 0), (21, .getfield 69, 24, 0), (24, .invokevirtual 140, 27, 0), (27, .iand, 28, 0), (28, .istore 6, 30, 0), (30, .iload 6, 32, 0), (32, .ifCond .ne 4, 35, 36), (35, .return_, 36, 0), (36, .aload_n 0, 37, 0), (37, .dup, 38, 0), (38, .getfield 78, 41, 0), (41, .aload_n 0, 42, 0), (42, .getfield 37, 45, 0), (45, .iload 5, 47, 0), (47, .bipush (Int.ofNat 8), 49, 0), (49, .idiv, 50, 0), (50, .iaload, 51, 0), (51, .iadd, 52, 0), (52, .putfield 78, 55, 0), (55, .aload_n 0, 56, 0), (56, .invokevirtual 150, 59, 0), (59, .bipush (Int.ofNat 100), 61, 0), (61, .irem, 62, 0), (62, .aload_n 0, 63, 0), (63, .getfield 40, 66, 0), (66, .if_icmp .lt 4, 69, 70), (69, .return_, 70, 0), (70, .aload_n 0, 71, 0), (71, .getfield 18, 74, 0), (74, .iload_n 2, 75, 0), (75, .aload_n 0, 76, 0), (76, .getfield 44, 79, 0), (79, .iastore, 80, 0), (80, .aload_n 0, 81, 0), (81, .dup, 82, 0), (82, .getfield 75, 85, 0), (85, .iconst (Int.ofNat 1), 86, 0), (86, .iadd, 87, 0), (87, .putfield 75, 90, 0), (90, .aload_n 0, 91, 0), (91, .getfield 53, 94, 0), (94, .aload_n 0, 95, 0), (95, .getfield 69, 98, 0), (98, .iload_n 2, 99, 0), (99, .iload 5, 101, 0), (101, .iload 6, 103, 0), (103, .invokestatic 153, 106, 0)]
def tc_121_1 : List (Nat × Instr × Nat × Nat) := [(106, .invokevirtual 156, 109, 0), (109, .iconst (Int.ofNat 0), 110, 0), (110, .istore 7, 112, 0), (112, .iload 7, 114, 0), (114, .aload_n 0, 115, 0), (115, .getfield 57, 118, 0), (118, .if_icmp .ge 48, 121, 166), (121, .iload_n 3, 122, 0), (122, .iload 7, 124, 0), (124, .invokestatic 104, 127, 0), (127, .iconst (Int.ofNat 1), 128, 0), (128, .if_icmp .ne 32, 131, 160), (131, .aload_n 0, 132, 0), (132, .iload 7, 134, 0), (134, .iconst (Int.ofNat 0), 135, 0), (135, .invokevirtual 160, 138, 0), (138, .iload 5, 140, 0), (140, .bipush (Int.ofNat 8), 142, 0), (142, .irem, 143, 0), (143, .if_icmp .ne 17, 146, 160), (146, .aload_n 0, 147, 0), (147, .getfield 33, 150, 0), (150, .iload 7, 152, 0), (152, .dup2, 153, 0), (153, .laload, 154, 0), (154, .lconst 1, 155, 0), (155, .iload 5, 157, 0), (157, .lshl, 158, 0), (158, .lor, 159, 0), (159, .lastore, 160, 0), (160, .iinc 7 1, 163, 0), (163, .goto (-51), 166, 112), (166, .return_, 167, 0)]
def tc_121 : List (Nat × Instr × Nat × Nat) := tc_121_0 ++ tc_121_1
def tc_122 : List (Nat × Instr × Nat × Nat) := [(0, .iconst (Int.ofNat 0), 1, 0), (1, .istore_n 1, 2, 0), (2, .iload_n 1, 3, 0), (3, .bipush (Int.ofNat 12), 5, 0), (5, .if_icmp .ge 20, 8, 25), (8, .iload_n 0, 9, 0), (9, .iload_n 1, 10, 0), (10, .invokestatic 104, 13, 0), (13, .iconst (Int.ofNat 1), 14, 0), (14, .if_icmp .ne 5, 17, 19), (17, .iload_n 1, 18, 0), (18, .ireturn, 19, 0), (19, .iinc 1 1, 22, 0), (22, .goto (-20), 25, 2), (25, .iconst (Int.negSucc 0), 26, 0), (26, .ireturn, 27, 0)]
def tc_123 : List (Nat × Instr × Nat × Nat) := [(0, .aload_n 0, 1, 0), (1, .ldc 163, 3, 0), (3, .aload_n 0, 4, 0), (4, .getfield 47, 7, 0), (7, .imul, 8, 0), (8, .sipush (Int.ofNat 12345), 11, 0), (11, .iadd, 12, 0), (12, .putfield 47, 15, 0), (15, .aload_n 0, 16, 0), (16, .getfield 47, 19, 0), (19, .bipush (Int.ofNat 16), 21, 0), (21, .iushr, 22, 0), (22, .sipush (Int.ofNat 32767), 25, 0), (25, .iand, 26, 0), (26, .ireturn, 27, 0)]
def tc_124 : List (Nat × Instr × Nat × Nat) := [(0, .iconst (Int.ofNat 0), 1, 0), (1, .istore_n 1, 2, 0), (2, .aload_n 0, 3, 0), (3, .getfield 60, 6, 0), (6, .invokestatic 110, 9, 0), (9, .iconst (Int.ofNat 1), 10, 0), (10, .isub, 11, 0), (11, .istore_n 2, 12, 0), (12, .iconst (Int.ofNat 0), 13, 0), (13, .istore_n 3, 14, 0), (14, .iload_n 3, 15, 0), (15, .bipush (Int.ofNat 64), 17, 0), (17, .if_icmp .ge 30, 20, 47), (20, .aload_n 0, 21, 0), (21, .iload_n 3, 22, 0), (22, .invokevirtual 164, 25, 0), (25, .iconst (Int.ofNat 2), 26, 0), (26, .imul, 27, 0), (27, .iload_n 2, 28, 0), (28, .if_icmp .le 13, 31, 41), (31, .aload_n 0, 32, 0), (32, .iload_n 3, 33, 0), (33, .invokevirtual 167, 36, 0), (36, .ifCond .eq 5, 39, 41), (39, .iconst (Int.ofNat 1), 40, 0), (40, .istore_n 1, 41, 0), (41, .iinc 3 1, 44, 0), (44, .goto (-30), 47, 14), (47, .iload_n 1, 48, 0), (48, .ireturn, 49, 0)]
def tc_125 : List (Nat × Instr × Nat × Nat) := [(0, .iconst (Int.ofNat 0), 1, 0), (1, .istore_n 2, 2, 0), (2, .iconst (Int.ofNat 0), 3, 0), (3, .istore_n 3, 4, 0), (4, .iload_n 3, 5, 0), (5, .aload_n 0, 6, 0), (6, .getfield 57, 9, 0), (9, .if_icmp .ge 29, 12, 38), (12, .aload_n 0, 13, 0), (13, .iload_n 3, 14, 0), (14, .invokevirtual 115, 17, 0), (17, .ifCond .eq 15, 20, 32), (20, .aload_n 0, 21, 0), (21, .iload_n 3, 22, 0), (22, .iload_n 1, 23, 0), (23, .invokevirtual 146, 26, 0), (26, .ifCond .eq 6, 29, 32), (29, .iinc 2 1, 32, 0), (32, .iinc 3 1, 35, 0), (35, .goto (-31), 38, 4), (38, .iload_n 2, 39, 0), (39, .ireturn, 40, 0)]
def tc_126 : List (Nat × Instr × Nat × Nat) := [(0, .iconst (Int.ofNat 0), 1, 0), (1, .istore_n 2, 2, 0), (2, .iconst (Int.ofNat 0), 3, 0), (3, .istore_n 3, 4, 0), (4, .iload_n 3, 5, 0), (5, .aload_n 0, 6, 0), (6, .getfield 57, 9, 0), (9, .if_icmp .ge 40, 12, 49), (12, .aload_n 0, 13, 0), (13, .iload_n 3, 14, 0), (14, .invokevirtual 115, 17, 0), (17, .ifCond .eq 26, 20, 43), (20, .aload_n 0, 21, 0), (21, .iload_n 3, 22, 0), (22, .iload_n 1, 23, 0), (23, .invokevirtual 146, 26, 0), (26, .ifCond .ne 17, 29, 43), (29, .aload_n 0, 30, 0), (30, .getfield 33, 33, 0), (33, .iload_n 3, 34, 0), (34, .dup2, 35, 0), (35, .laload, 36, 0), (36, .lconst 1, 37, 0), (37, .iload_n 1, 38, 0), (38, .lshl, 39, 0), (39, .lor, 40, 0), (40, .lastore, 41, 0), (41, .iconst (Int.ofNat 1), 42, 0), (42, .istore_n 2, 43, 0), (43, .iinc 3 1, 46, 0), (46, .goto (-42), 49, 4), (49, .iload_n 2, 50, 0), (50, .ireturn, 51, 0)]
def tc_127 : List (Nat × Instr × Nat × Nat) := [(0, .iconst (Int.ofNat 0), 1, 0), (1, .istore_n 1, 2, 0), (2, .iconst (Int.ofNat 0), 3, 0), (3, .istore_n 2, 4, 0), (4, .iload_n 2, 5, 0), (5, .aload_n 0, 6, 0), (6, .getfield 57, 9, 0), (9, .if_icmp .ge 21, 12, 30), (12, .iload_n 1, 13, 0), (13, .aload_n 0, 14, 0), (14, .getfield 33, 17, 0), (17, .iload_n 2, 18, 0), (18, .laload, 19, 0), (19, .invokestatic 170, 22, 0), (22, .iadd, 23, 0), (23, .istore_n 1, 24, 0), (24, .iinc 2 1, 27, 0), (27, .goto (-23), 30, 4), (30, .iload_n 1, 31, 0), (31, .ireturn, 32, 0)]
def tc_128 : List (Nat × Instr × Nat × Nat) := [(0, .ldc2_w 175, 3, 0), (3, .lstore_n 1, 4, 0), (4, .iconst (Int.ofNat 0), 5, 0), (5, .istore_n 3, 6, 0), (6, .iload_n 3, 7, 0), (7, .aload_n 0, 8, 0), (8, .getfield 57, 11, 0), (11, .if_icmp .ge 26, 14, 37), (14, .aload_n 0, 15, 0), (15, .iload_n 3, 16, 0), (16, .invokevirtual 115, 19, 0), (19, .ifCond .eq 12, 22, 31), (22, .lload_n 1, 23, 0), (23, .aload_n 0, 24, 0), (24, .getfield 33, 27, 0), (27, .iload_n 3, 28, 0), (28, .laload, 29, 0), (29, .land, 30, 0), (30, .lstore_n 1, 31, 0), (31, .iinc 3 1, 34, 0), (34, .goto (-28), 37, 6), (37, .lload_n 1, 38, 0), (38, .lreturn, 39, 0)]
def tc_129 : List (Nat × Instr × Nat × Nat) := [(0, .lconst 0, 1, 0), (1, .lstore_n 1, 2, 0), (2, .iconst (Int.ofNat 0), 3, 0), (3, .istore_n 3, 4, 0), (4, .iload_n 3, 5, 0), (5, .aload_n 0, 6, 0), (6, .getfield 57, 9, 0), (9, .if_icmp .ge 26, 12, 35), (12, .aload_n 0, 13, 0), (13, .iload_n 3, 14, 0), (14, .invokevirtual 115, 17, 0), (17, .ifCond .eq 12, 20, 29), (20, .lload_n 1, 21, 0), (21, .aload_n 0, 22, 0), (22, .getfield 33, 25, 0), (25, .iload_n 3, 26, 0), (26, .laload, 27, 0), (27, .lor, 28, 0), (28, .lstore_n 1, 29, 0), (29, .iinc 3 1, 32, 0), (32, .goto (-28), 35, 4), (35, .lload_n 1, 36, 0), (36, .lreturn, 37, 0)]
def tc_130_0 : List (Nat × Instr × Nat × Nat) := [(0, .aload_n 0, 1, 0), (1, .invokespecial 1, 4, 0), (4, .aload_n 0, 5, 0), (5, .new 7, 8, 0), (8, .dup, 9, 0), (9, .invokespecial 9, 12, 0), (12, .putfield 10, 15, 0), (15, .aload_n 0, 16, 0), (16, .new 16, 19, 0), (19, .dup, 20, 0), (20, .invokespecial 18, 23, 0), (23, .putfield 19, 26, 0), (26, .aload_n 0, 27, 0), (27, .new 23, 30, 0), (30, .dup, 31, 0), (31, .invokespecial 25, 34, 0), (34, .putfield 26, 37, 0), (37, .aload_n 0, 38, 0), (38, .new 23, 41, 0), (41, .dup, 42, 0), (42, .invokespecial 25, 45, 0), (45, .putfield 30, 48, 0), (48, .aload_n 0, 49, 0), (49, .new 33, 52, 0), (52, .dup, 53, 0), (53, .invokespecial 35, 56, 0), (56, .putfield 36, 59, 0), (59, .aload_n 0, 60, 0), (60, .new 33, 63, 0), (63, .dup, 64, 0), (64, .invokespecial 35, 67, 0), (67, .putfield 40, 70, 0), (70, .aload_n 0, 71, 0), (71, .new 43, 74, 0), (74, .dup, 75, 0), (75, .aload_n 0, 76, 0), (76, .getfield 19, 79, 0), (79, .aload_n 0, 80, 0), (80, .getfield 30, 83, 0), (83, .invokespecial 45, 86, 0), (86, .putfield 48, 89, 0), (89, .aload_n 0, 90, 0), (90, .new 52, 93, 0), (93, .dup, 94, 0), (94, .aload_n 0, 95, 0), (95, .getfield 19, 98, 0), (98, .aload_n 0, 99, 0), (99, .getfield 26, 102, 0), (102, .aload_n 0, 103, 0), (103, .getfield 40, 106, 0), (106, .invokespecial 54, 109, 0), (109, .putfield 57, 112, 0), (112, .aload_n 0, 113, 0), (113, .new 61, 116, 0), (116, .dup, 117, 0), (117, .invokespecial 63, 120, 0), (120, .putfield 64, 123, 0), (123, .aload_n 0, 124, 0), (124, .new 68, 127, 0), (127, .dup, 128, 0)]
def tc_130_1 : List (Nat × Instr × Nat × Nat) := [(128, .aload_n 0, 129, 0), (129, .getfield 26, 132, 0), (132, .aload_n 0, 133, 0), (133, .getfield 36, 136, 0), (136, .invokespecial 70, 139, 0), (139, .putfield 73, 142, 0), (142, .aload_n 0, 143, 0), (143, .new 77, 146, 0), (146, .dup, 147, 0), (147, .aload_n 0, 148, 0), (148, .getfield 26, 151, 0), (151, .aload_n 0, 152, 0), (152, .getfield 36, 155, 0), (155, .invokespecial 79, 158, 0), (158, .putfield 80, 161, 0), (161, .aload_n 0, 162, 0), (162, .new 84, 165, 0), (165, .dup, 166, 0), (166, .aload_n 0, 167, 0), (167, .getfield 26, 170, 0), (170, .aload_n 0, 171, 0), (171, .getfield 36, 174, 0), (174, .invokespecial 86, 177, 0), (177, .putfield 87, 180, 0), (180, .aload_n 0, 181, 0), (181, .new 23, 184, 0), (184, .dup, 185, 0), (185, .invokespecial 25, 188, 0), (188, .putfield 91, 191, 0), (191, .aload_n 0, 192, 0), (192, .new 33, 195, 0), (195, .dup, 196, 0), (196, .invokespecial 35, 199, 0), (199, .putfield 94, 202, 0), (202, .aload_n 0, 203, 0), (203, .iconst (Int.ofNat 0), 204, 0), (204, .putfield 97, 207, 0), (207, .aload_n 0, 208, 0), (208, .iconst (Int.negSucc 0), 209, 0), (209, .putfield 101, 212, 0), (212, .return_, 213, 0)]
def tc_130 : List (Nat × Instr × Nat × Nat) := tc_130_0 ++ tc_130_1
def tc_131 : List (Nat × Instr × Nat × Nat) := [(0, .aload_n 0, 1, 0), (1, .getfield 10, 4, 0), (4, .getfield 105, 7, 0), (7, .bipush (Int.ofNat 20), 9, 0), (9, .iadd, 10, 0), (10, .sipush (Int.ofNat 400), 13, 0), (13, .if_icmp .le 5, 16, 18), (16, .iconst (Int.negSucc 0), 17, 0), (17, .ireturn, 18, 0), (18, .aload_n 0, 19, 0), (19, .getfield 10, 22, 0), (22, .iload_n 1, 23, 0), (23, .invokevirtual 108, 26, 0), (26, .aload_n 0, 27, 0), (27, .getfield 10, 30, 0), (30, .iload_n 2, 31, 0), (31, .invokevirtual 108, 34, 0), (34, .aload_n 0, 35, 0), (35, .getfield 10, 38, 0), (38, .iload_n 3, 39, 0), (39, .invokevirtual 108, 42, 0), (42, .aload_n 0, 43, 0), (43, .getfield 10, 46, 0), (46, .iload 4, 48, 0), (48, .invokevirtual 108, 51, 0), (51, .aload_n 0, 52, 0), (52, .getfield 10, 55, 0), (55, .iload 5, 57, 0), (57, .invokevirtual 108, 60, 0), (60, .aload_n 0, 61, 0), (61, .getfield 10, 64, 0), (64, .getfield 105, 67, 0), (67, .ireturn, 68, 0)]
def tc_132 : List (Nat × Instr × Nat × Nat) := [(0, .iload_n 1, 1, 0), (1, .ifCond .lt 14, 4, 15), (4, .iload_n 1, 5, 0), (5, .aload_n 0, 6, 0), (6, .getfield 10, 9, 0), (9, .getfield 105, 12, 0), (12, .if_icmp .le 5, 15, 17), (15, .iconst (Int.ofNat 0), 16, 0), (16, .ireturn, 17, 0), (17, .aload_n 0, 18, 0), (18, .getfield 10, 21, 0), (21, .iload_n 1, 22, 0), (22, .putfield 105, 25, 0), (25, .iconst (Int.ofNat 1), 26, 0), (26, .ireturn, 27, 0)]
def tc_133 : List (Nat × Instr × Nat × Nat) := [(0, .aload_n 0, 1, 0), (1, .getfield 19, 4, 0), (4, .aload_n 0, 5, 0), (5, .getfield 10, 8, 0), (8, .invokevirtual 112, 11, 0), (11, .aload_n 0, 12, 0), (12, .getfield 10, 15, 0), (15, .iconst (Int.ofNat 0), 16, 0), (16, .putfield 105, 19, 0), (19, .aload_n 0, 20, 0), (20, .aload_n 0, 21, 0), (21, .getfield 48, 24, 0), (24, .invokevirtual 116, 27, 0), (27, .putfield 101, 30, 0), (30, .aload_n 0, 31, 0), (31, .getfield 101, 34, 0), (34, .iconst (Int.negSucc 0), 35, 0), (35, .if_icmp .eq 13, 38, 48), (38, .new 120, 41, 0), (41, .dup, 42, 0), (42, .ldc 122, 44, 0), (44, .invokespecial 124, 47, 0), (47, .athrow, 48, 0), (48, .aload_n 0, 49, 0), (49, .getfield 26, 52, 0), (52, .getfield 127, 55, 0), (55, .ifCond .ne 13, 58, 68), (58, .aload_n 0, 59, 0), (59, .getfield 36, 62, 0), (62, .getfield 130, 65, 0), (65, .ifCond .le 13, 68, 78), (68, .new 133, 71, 0), (71, .dup, 72, 0), (72, .ldc 135, 74, 0), (74, .invokespecial 137, 77, 0), (77, .athrow, 78, 0), (78, .aload_n 0, 79, 0), (79, .getfield 26, 82, 0), (82, .aload_n 0, 83, 0), (83, .getfield 30, 86, 0), (86, .invokevirtual 138, 89, 0), (89, .aload_n 0, 90, 0), (90, .getfield 64, 93, 0), (93, .invokevirtual 142, 96, 0), (96, .aload_n 0, 97, 0), (97, .getfield 26, 100, 0), (100, .getfield 145, 103, 0), (103, .ireturn, 104, 0)]
def tc_134 : List (Nat × Instr × Nat × Nat) := [(0, .aload_n 0, 1, 0), (1, .getfield 19, 4, 0), (4, .aload_n 0, 5, 0), (5, .getfield 10, 8, 0), (8, .invokevirtual 112, 11, 0), (11, .aload_n 0, 12, 0), (12, .getfield 10, 15, 0), (15, .iconst (Int.ofNat 0), 16, 0), (16, .putfield 105, 19, 0), (19, .aload_n 0, 20, 0), (20, .getfield 40, 23, 0), (23, .aload_n 0, 24, 0), (24, .getfield 36, 27, 0), (27, .invokevirtual 148, 30, 0), (30, .aload_n 0, 31, 0), (31, .aload_n 0, 32, 0), (32, .getfield 57, 35, 0), (35, .invokevirtual 151, 38, 0), (38, .putfield 101, 41, 0), (41, .aload_n 0, 42, 0), (42, .getfield 101, 45, 0), (45, .iconst (Int.negSucc 0), 46, 0), (46, .if_icmp .eq 13, 49, 59), (49, .new 120, 52, 0), (52, .dup, 53, 0), (53, .ldc 122, 55, 0), (55, .invokespecial 124, 58, 0), (58, .athrow, 59, 0), (59, .aload_n 0, 60, 0), (60, .getfield 36, 63, 0), (63, .getfield 152, 66, 0), (66, .bipush (Int.ofNat 12), 68, 0), (68, .if_icmp .lt 13, 71, 81), (71, .new 155, 74, 0), (74, .dup, 75, 0), (75, .ldc 157, 77, 0), (77, .invokespecial 159, 80, 0), (80, .athrow, 81, 0), (81, .aload_n 0, 82, 0), (82, .getfield 36, 85, 0), (85, .aload_n 0, 86, 0), (86, .getfield 40, 89, 0), (89, .invokevirtual 148, 92, 0), (92, .aload_n 0, 93, 0), (93, .getfield 36, 96, 0), (96, .dup, 97, 0), (97, .getfield 152, 100, 0), (100, .iconst (Int.ofNat 1), 101, 0), (101, .iadd, 102, 0), (102, .putfield 152, 105, 0), (105, .aload_n 0, 106, 0), (106, .getfield 64, 109, 0), (109, .invokevirtual 142, 112, 0), (112, .aload_n 0, 113, 0), (113, .getfield 36, 116, 0), (116, .getfield 152, 119, 0), (119, .ireturn, 120, 0)]
def tc_135 : List (Nat × Instr × Nat × Nat) := [(0, .aload_n 0, 1, 0), (1, .getfield 101, 4, 0), (4, .ireturn, 5, 0)]
def tc_136 : List (Nat × Instr × Nat × Nat) := [(0, .aload_n 0, 1, 0), (1, .iload_n 1, 2, 0), (2, .invokevirtual 160, 5, 0), (5, .iload_n 2, 6, 0), (6, .tableswitch 86 0 4 #[34, 46, 56, 68, 77], 40, 0), (40, .aload_n 0, 41, 0), (41, .getfield 26, 44, 0), (44, .getfield 163, 47, 0), (47, .iload_n 1, 48, 0), (48, .invokestatic 166, 51, 0), (51, .ireturn, 52, 0), (52, .aload_n 0, 53, 0), (53, .getfield 26, 56, 0), (56, .getfield 170, 59, 0), (59, .iload_n 1, 60, 0), (60, .iaload, 61, 0), (61, .ireturn, 62, 0), (62, .aload_n 0, 63, 0), (63, .getfield 36, 66, 0), (66, .invokevirtual 174, 69, 0), (69, .iload_n 1, 70, 0), (70, .invokestatic 166, 73, 0), (73, .ireturn, 74, 0), (74, .aload_n 0, 75, 0), (75, .getfield 36, 78, 0), (78, .iload_n 1, 79, 0), (79, .invokevirtual 177, 82, 0), (82, .ireturn, 83, 0), (83, .aload_n 0, 84, 0), (84, .getfield 87, 87, 0), (87, .iload_n 1, 88, 0), (88, .invokevirtual 181, 91, 0), (91, .ireturn, 92, 0), (92, .new 184, 95, 0), (95, .dup, 96, 0), (96, .ldc 186, 98, 0), (98, .invokespecial 188, 101, 0), (101, .athrow, 102, 0)]
def tc_137 : List (Nat × Instr × Nat × Nat) := [(0, .aload_n 0, 1, 0), (1, .iload_n 1, 2, 0), (2, .invokevirtual 189, 5, 0), (5, .iload_n 2, 6, 0), (6, .tableswitch 144 0 8 #[50, 62, 72, 82, 92, 102, 112, 122, 131], 56, 0), (56, .aload_n 0, 57, 0), (57, .getfield 36, 60, 0), (60, .getfield 192, 63, 0), (63, .iload_n 1, 64, 0), (64, .invokestatic 166, 67, 0), (67, .ireturn, 68, 0), (68, .aload_n 0, 69, 0), (69, .getfield 36, 72, 0), (72, .getfield 195, 75, 0), (75, .iload_n 1, 76, 0), (76, .iaload, 77, 0), (77, .ireturn, 78, 0), (78, .aload_n 0, 79, 0), (79, .getfield 36, 82, 0), (82, .getfield 198, 85, 0), (85, .iload_n 1, 86, 0), (86, .iaload, 87, 0), (87, .ireturn, 88, 0), (88, .aload_n 0, 89, 0), (89, .getfield 36, 92, 0), (92, .getfield 201, 95, 0), (95, .iload_n 1, 96, 0), (96, .iaload, 97, 0), (97, .ireturn, 98, 0), (98, .aload_n 0, 99, 0), (99, .getfield 36, 102, 0), (102, .getfield 204, 105, 0), (105, .iload_n 1, 106, 0), (106, .iaload, 107, 0), (107, .ireturn, 108, 0), (108, .aload_n 0, 109, 0), (109, .getfield 36, 112, 0), (112, .getfield 207, 115, 0), (115, .iload_n 1, 116, 0), (116, .iaload, 117, 0), (117, .ireturn, 118, 0), (118, .aload_n 0, 119, 0), (119, .getfield 36, 122, 0), (122, .iload_n 1, 123, 0), (123, .iconst (Int.ofNat 0), 124, 0), (124, .invokevirtual 210, 127, 0), (127, .ireturn, 128, 0), (128, .aload_n 0, 129, 0), (129, .getfield 36, 132, 0), (132, .iload_n 1, 133, 0), (133, .invokevirtual 213, 136, 0), (136, .ireturn, 137, 0), (137, .aload_n 0, 138, 0), (138, .getfield 36, 141, 0), (141, .getfield 216, 144, 0), (144, .iload_n 1, 145, 0), (145, .laload, 146, 0), (146, .invokestatic 220, 149, 0), (149, .ireturn, 150, 0), (150, .new 184, 153, 0), (153, .dup, 154, 0), (154, .ldc 186, 156, 0), (156, .invokespecial 188, 159, 0), (159, .athrow, 160, 0)]
def tc_138 : List (Nat × Instr × Nat × Nat) := [(0, .aload_n 0, 1, 0), (1, .iload_n 1, 2, 0), (2, .invokevirtual 189, 5, 0), (5, .aload_n 0, 6, 0), (6, .getfield 36, 9, 0), (9, .getfield 216, 12, 0), (12, .iload_n 1, 13, 0), (13, .laload, 14, 0), (14, .lreturn, 15, 0)]
def tc_139 : List (Nat × Instr × Nat × Nat) := [(0, .aload_n 0, 1, 0), (1, .iload_n 1, 2, 0), (2, .invokevirtual 189, 5, 0), (5, .iload_n 2, 6, 0), (6, .ifCond .lt 16, 9, 22), (9, .iload_n 2, 10, 0), (10, .aload_n 0, 11, 0), (11, .getfield 36, 14, 0), (14, .getfield 207, 17, 0), (17, .iload_n 1, 18, 0), (18, .iaload, 19, 0), (19, .if_icmp .lt 7, 22, 26), (22, .iconst (Int.negSucc 0), 23, 0), (23, .goto 12, 26, 35), (26, .aload_n 0, 27, 0), (27, .getfield 36, 30, 0), (30, .iload_n 1, 31, 0), (31, .iload_n 2, 32, 0), (32, .invokevirtual 226, 35, 0), (35, .ireturn, 36, 0)]
def tc_140 : List (Nat × Instr × Nat × Nat) := [(0, .iload_n 1, 1, 0), (1, .bipush (Int.ofNat 64), 3, 0), (3, .invokestatic 229, 6, 0), (6, .aload_n 0, 7, 0), (7, .iload_n 2, 8, 0), (8, .invokevirtual 189, 11, 0), (11, .aload_n 0, 12, 0), (12, .iload_n 2, 13, 0), (13, .invokevirtual 233, 16, 0), (16, .iload_n 3, 17, 0), (17, .tableswitch 99 0 3 #[31, 41, 51, 69], 48, 0), (48, .aload_n 0, 49, 0), (49, .getfield 87, 52, 0), (52, .iload_n 2, 53, 0), (53, .iload_n 1, 54, 0), (54, .invokevirtual 236, 57, 0), (57, .ireturn, 58, 0), (58, .aload_n 0, 59, 0), (59, .getfield 87, 62, 0), (62, .iload_n 2, 63, 0), (63, .iload_n 1, 64, 0), (64, .invokevirtual 239, 67, 0), (67, .ireturn, 68, 0), (68, .aload_n 0, 69, 0), (69, .getfield 87, 72, 0), (72, .iload_n 2, 73, 0), (73, .iload_n 1, 74, 0), (74, .invokevirtual 242, 77, 0), (77, .ifCond .eq 7, 80, 84), (80, .iconst (Int.ofNat 1), 81, 0), (81, .goto 4, 84, 85), (84, .iconst (Int.ofNat 0), 85, 0), (85, .ireturn, 86, 0), (86, .aload_n 0, 87, 0), (87, .getfield 87, 90, 0), (90, .iload_n 2, 91, 0), (91, .iload_n 1, 92, 0), (92, .invokevirtual 242, 95, 0), (95, .ifCond .eq 19, 98, 114), (98, .aload_n 0, 99, 0), (99, .getfield 36, 102, 0), (102, .iload_n 2, 103, 0), (103, .iload_n 1, 104, 0), (104, .invokevirtual 246, 107, 0), (107, .ifCond .ne 7, 110, 114), (110, .iconst (Int.ofNat 1), 111, 0), (111, .goto 4, 114, 115), (114, .iconst (Int.ofNat 0), 115, 0), (115, .ireturn, 116, 0), (116, .new 184, 119, 0), (119, .dup, 120, 0), (120, .ldc 186, 122, 0), (122, .invokespecial 188, 125, 0), (125, .athrow, 126, 0)]
def tc_141 : List (Nat × Instr × Nat × Nat) := [(0, .aload_n 0, 1, 0), (1, .iload_n 1, 2, 0), (2, .invokevirtual 189, 5, 0), (5, .aload_n 0, 6, 0), (6, .iload_n 2, 7, 0), (7, .invokevirtual 160, 10, 0), (10, .aload_n 0, 11, 0), (11, .iload_n 1, 12, 0), (12, .invokevirtual 233, 15, 0), (15, .aload_n 0, 16, 0), (16, .getfield 36, 19, 0), (19, .getfield 195, 22, 0), (22, .iload_n 1, 23, 0), (23, .iaload, 24, 0), (24, .iload_n 2, 25, 0), (25, .invokestatic 166, 28, 0), (28, .iconst (Int.ofNat 1), 29, 0), (29, .if_icmp .ne 13, 32, 42), (32, .new 133, 35, 0), (35, .dup, 36, 0), (36, .ldc 249, 38, 0), (38, .invokespecial 137, 41, 0), (41, .athrow, 42, 0), (42, .aload_n 0, 43, 0), (43, .getfield 64, 46, 0), (46, .aload_n 0, 47, 0), (47, .getfield 36, 50, 0), (50, .invokevirtual 251, 53, 0), (53, .aload_n 0, 54, 0), (54, .getfield 36, 57, 0), (57, .getfield 195, 60, 0), (60, .iload_n 1, 61, 0), (61, .dup2, 62, 0), (62, .iaload, 63, 0), (63, .iconst (Int.ofNat 1), 64, 0), (64, .iload_n 2, 65, 0), (65, .ishl, 66, 0), (66, .ior, 67, 0), (67, .iastore, 68, 0), (68, .aload_n 0, 69, 0), (69, .getfield 36, 72, 0), (72, .iload_n 1, 73, 0), (73, .invokevirtual 254, 76, 0), (76, .ireturn, 77, 0)]
def tc_142 : List (Nat × Instr × Nat × Nat) := [(0, .aload_n 0, 1, 0), (1, .iload_n 1, 2, 0), (2, .invokevirtual 189, 5, 0), (5, .aload_n 0, 6, 0), (6, .iload_n 1, 7, 0), (7, .invokevirtual 233, 10, 0), (10, .aload_n 0, 11, 0), (11, .getfield 64, 14, 0), (14, .aload_n 0, 15, 0), (15, .getfield 36, 18, 0), (18, .invokevirtual 251, 21, 0), (21, .aload_n 0, 22, 0), (22, .getfield 36, 25, 0), (25, .invokevirtual 174, 28, 0), (28, .istore_n 2, 29, 0), (29, .aload_n 0, 30, 0), (30, .getfield 36, 33, 0), (33, .iload_n 1, 34, 0), (34, .invokevirtual 257, 37, 0), (37, .iload_n 2, 38, 0), (38, .aload_n 0, 39, 0), (39, .getfield 36, 42, 0), (42, .invokevirtual 174, 45, 0), (45, .iconst (Int.negSucc 0), 46, 0), (46, .ixor, 47, 0), (47, .iand, 48, 0), (48, .ireturn, 49, 0)]
def tc_143 : List (Nat × Instr × Nat × Nat) := [(0, .aload_n 0, 1, 0), (1, .iload_n 1, 2, 0), (2, .invokevirtual 189, 5, 0), (5, .aload_n 0, 6, 0), (6, .iload_n 2, 7, 0), (7, .invokevirtual 189, 10, 0), (10, .iload_n 1, 11, 0), (11, .iload_n 2, 12, 0), (12, .invokestatic 260, 15, 0), (15, .aload_n 0, 16, 0), (16, .iload_n 1, 17, 0), (17, .invokevirtual 233, 20, 0), (20, .aload_n 0, 21, 0), (21, .iload_n 2, 22, 0), (22, .invokevirtual 233, 25, 0), (25, .aload_n 0, 26, 0), (26, .getfield 36, 29, 0), (29, .getfield 204, 32, 0), (32, .iload_n 1, 33, 0), (33, .iaload, 34, 0), (34, .iconst (Int.negSucc 0), 35, 0), (35, .if_icmp .ne 16, 38, 51), (38, .aload_n 0, 39, 0), (39, .getfield 36, 42, 0), (42, .getfield 204, 45, 0), (45, .iload_n 2, 46, 0), (46, .iaload, 47, 0), (47, .iconst (Int.negSucc 0), 48, 0), (48, .if_icmp .eq 14, 51, 62), (51, .new 133, 54, 0), (54, .dup, 55, 0), (55, .ldc_w 263, 58, 0), (58, .invokespecial 137, 61, 0), (61, .athrow, 62, 0), (62, .aload_n 0, 63, 0), (63, .getfield 64, 66, 0), (66, .aload_n 0, 67, 0), (67, .getfield 36, 70, 0), (70, .invokevirtual 251, 73, 0), (73, .aload_n 0, 74, 0), (74, .getfield 36, 77, 0), (77, .iload_n 1, 78, 0), (78, .iload_n 2, 79, 0), (79, .invokevirtual 265, 82, 0), (82, .aload_n 0, 83, 0), (83, .getfield 36, 86, 0), (86, .getfield 195, 89, 0), (89, .iload_n 1, 90, 0), (90, .iaload, 91, 0), (91, .ireturn, 92, 0)]
def tc_144 : List (Nat × Instr × Nat × Nat) := [(0, .aload_n 0, 1, 0), (1, .iload_n 1, 2, 0), (2, .invokevirtual 189, 5, 0), (5, .aload_n 0, 6, 0), (6, .iload_n 1, 7, 0), (7, .invokevirtual 233, 10, 0), (10, .aload_n 0, 11, 0), (11, .getfield 36, 14, 0), (14, .getfield 130, 17, 0), (17, .bipush (Int.ofNat 10), 19, 0), (19, .if_icmp .lt 14, 22, 33), (22, .new 155, 25, 0), (25, .dup, 26, 0), (26, .ldc_w 268, 29, 0), (29, .invokespecial 159, 32, 0), (32, .athrow, 33, 0), (33, .aload_n 0, 34, 0), (34, .getfield 64, 37, 0), (37, .aload_n 0, 38, 0), (38, .getfield 36, 41, 0), (41, .invokevirtual 251, 44, 0), (44, .aload_n 0, 45, 0), (45, .getfield 36, 48, 0), (48, .iload_n 1, 49, 0), (49, .invokevirtual 270, 52, 0), (52, .ireturn, 53, 0)]
def tc_145 : List (Nat × Instr × Nat × Nat) := [(0, .aload_n 0, 1, 0), (1, .iload_n 1, 2, 0), (2, .invokevirtual 189, 5, 0), (5, .aload_n 0, 6, 0), (6, .iload_n 1, 7, 0), (7, .invokevirtual 233, 10, 0), (10, .aload_n 0, 11, 0), (11, .getfield 36, 14, 0), (14, .getfield 201, 17, 0), (17, .iload_n 1, 18, 0), (18, .iaload, 19, 0), (19, .istore_n 2, 20, 0), (20, .iload_n 2, 21, 0), (21, .ifCond .ne 14, 24, 35), (24, .new 133, 27, 0), (27, .dup, 28, 0), (28, .ldc_w 273, 31, 0), (31, .invokespecial 137, 34, 0), (34, .athrow, 35, 0), (35, .aload_n 0, 36, 0), (36, .getfield 64, 39, 0), (39, .aload_n 0, 40, 0), (40, .getfield 36, 43, 0), (43, .invokevirtual 251, 46, 0), (46, .aload_n 0, 47, 0), (47, .getfield 36, 50, 0), (50, .getfield 201, 53, 0), (53, .iload_n 1, 54, 0), (54, .iconst (Int.ofNat 0), 55, 0), (55, .iastore, 56, 0), (56, .iload_n 2, 57, 0), (57, .ireturn, 58, 0)]
def tc_146 : List (Nat × Instr × Nat × Nat) := [(0, .iload_n 1, 1, 0), (1, .iconst (Int.ofNat 1), 2, 0), (2, .bipush (Int.ofNat 50), 4, 0), (4, .invokestatic 275, 7, 0), (7, .aload_n 0, 8, 0), (8, .getfield 64, 11, 0), (11, .aload_n 0, 12, 0), (12, .getfield 36, 15, 0), (15, .invokevirtual 251, 18, 0), (18, .aload_n 0, 19, 0), (19, .getfield 36, 22, 0), (22, .getfield 279, 25, 0), (25, .istore_n 2, 26, 0), (26, .iconst (Int.ofNat 0), 27, 0), (27, .istore_n 3, 28, 0), (28, .iload_n 3, 29, 0), (29, .iload_n 1, 30, 0), (30, .if_icmp .ge 20, 33, 50), (33, .aload_n 0, 34, 0), (34, .getfield 36, 37, 0), (37, .aload_n 0, 38, 0), (38, .getfield 26, 41, 0), (41, .invokevirtual 282, 44, 0), (44, .iinc 3 1, 47, 0), (47, .goto (-19), 50, 28), (50, .aload_n 0, 51, 0), (51, .getfield 36, 54, 0), (54, .getfield 279, 57, 0), (57, .iload_n 2, 58, 0), (58, .isub, 59, 0), (59, .ireturn, 60, 0)]
def tc_147 : List (Nat × Instr × Nat × Nat) := [(0, .aload_n 0, 1, 0), (1, .getfield 87, 4, 0), (4, .invokevirtual 285, 7, 0), (7, .ireturn, 8, 0)]
def tc_148 : List (Nat × Instr × Nat × Nat) := [(0, .aload_n 0, 1, 0), (1, .getfield 87, 4, 0), (4, .invokevirtual 288, 7, 0), (7, .ireturn, 8, 0)]
def tc_149 : List (Nat × Instr × Nat × Nat) := [(0, .aload_n 0, 1, 0), (1, .getfield 73, 4, 0), (4, .aload_n 0, 5, 0), (5, .getfield 10, 8, 0), (8, .invokevirtual 291, 11, 0), (11, .istore_n 2, 12, 0), (12, .aload_n 0, 13, 0), (13, .getfield 10, 16, 0), (16, .iconst (Int.ofNat 0), 17, 0), (17, .putfield 105, 20, 0), (20, .iload_n 2, 21, 0), (21, .ifCond .ne 14, 24, 35), (24, .new 120, 27, 0), (27, .dup, 28, 0), (28, .ldc_w 295, 31, 0), (31, .invokespecial 124, 34, 0), (34, .athrow, 35, 0), (35, .iload_n 1, 36, 0), (36, .ifCond .lt 8, 39, 44), (39, .iload_n 1, 40, 0), (40, .iconst (Int.ofNat 2), 41, 0), (41, .if_icmp .le 13, 44, 54), (44, .new 184, 47, 0), (47, .dup, 48, 0), (48, .ldc 186, 50, 0), (50, .invokespecial 188, 53, 0), (53, .athrow, 54, 0), (54, .aload_n 0, 55, 0), (55, .getfield 73, 58, 0), (58, .invokevirtual 297, 61, 0), (61, .iload_n 1, 62, 0), (62, .ifCond .ne 13, 65, 75), (65, .aload_n 0, 66, 0), (66, .getfield 73, 69, 0), (69, .getfield 300, 72, 0), (72, .goto 25, 75, 97), (75, .iload_n 1, 76, 0), (76, .iconst (Int.ofNat 1), 77, 0), (77, .if_icmp .ne 13, 80, 90), (80, .aload_n 0, 81, 0), (81, .getfield 73, 84, 0), (84, .getfield 303, 87, 0), (87, .goto 10, 90, 97), (90, .aload_n 0, 91, 0), (91, .getfield 73, 94, 0), (94, .getfield 306, 97, 0), (97, .ireturn, 98, 0)]
def tc_150 : List (Nat × Instr × Nat × Nat) := [(0, .aload_n 0, 1, 0), (1, .getfield 73, 4, 0), (4, .aload_n 0, 5, 0), (5, .getfield 10, 8, 0), (8, .invokevirtual 291, 11, 0), (11, .istore_n 2, 12, 0), (12, .aload_n 0, 13, 0), (13, .getfield 10, 16, 0), (16, .iconst (Int.ofNat 0), 17, 0), (17, .putfield 105, 20, 0), (20, .aload_n 0, 21, 0), (21, .iload_n 1, 22, 0), (22, .invokevirtual 189, 25, 0), (25, .iload_n 2, 26, 0), (26, .ifCond .ne 14, 29, 40), (29, .new 120, 32, 0), (32, .dup, 33, 0), (33, .ldc_w 295, 36, 0), (36, .invokespecial 124, 39, 0), (39, .athrow, 40, 0), (40, .aload_n 0, 41, 0), (41, .iload_n 1, 42, 0), (42, .invokevirtual 233, 45, 0), (45, .aload_n 0, 46, 0), (46, .getfield 73, 49, 0), (49, .invokevirtual 297, 52, 0), (52, .aload_n 0, 53, 0), (53, .getfield 73, 56, 0), (56, .getfield 300, 59, 0), (59, .iconst (Int.ofNat 2), 60, 0), (60, .if_icmp .ge 7, 63, 67), (63, .iconst (Int.negSucc 0), 64, 0), (64, .goto 11, 67, 75), (67, .aload_n 0, 68, 0), (68, .getfield 73, 71, 0), (71, .iload_n 1, 72, 0), (72, .invokevirtual 309, 75, 0), (75, .ireturn, 76, 0)]
def tc_151 : List (Nat × Instr × Nat × Nat) := [(0, .aload_n 0, 1, 0), (1, .getfield 87, 4, 0), (4, .invokevirtual 312, 7, 0), (7, .ireturn, 8, 0)]
def tc_152 : List (Nat × Instr × Nat × Nat) := [(0, .aload_n 0, 1, 0), (1, .iload_n 1, 2, 0), (2, .invokevirtual 189, 5, 0), (5, .aload_n 0, 6, 0), (6, .iload_n 1, 7, 0), (7, .invokevirtual 233, 10, 0), (10, .aload_n 0, 11, 0), (11, .getfield 87, 14, 0), (14, .iload_n 1, 15, 0), (15, .invokevirtual 315, 18, 0), (18, .ireturn, 19, 0)]
def tc_153 : List (Nat × Instr × Nat × Nat) := [(0, .iload_n 1, 1, 0), (1, .iconst (Int.ofNat 1), 2, 0), (2, .bipush (Int.ofNat 10), 4, 0), (4, .invokestatic 275, 7, 0), (7, .aload_n 0, 8, 0), (8, .getfield 87, 11, 0), (11, .iload_n 1, 12, 0), (12, .invokevirtual 318, 15, 0), (15, .ireturn, 16, 0)]
def tc_154 : List (Nat × Instr × Nat × Nat) := [(0, .aload_n 0, 1, 0), (1, .iload_n 1, 2, 0), (2, .invokevirtual 189, 5, 0), (5, .iload_n 2, 6, 0), (6, .iconst (Int.ofNat 1), 7, 0), (7, .bipush (Int.ofNat 60), 9, 0), (9, .invokestatic 275, 12, 0), (12, .aload_n 0, 13, 0), (13, .iload_n 1, 14, 0), (14, .invokevirtual 233, 17, 0), (17, .aload_n 0, 18, 0), (18, .getfield 80, 21, 0), (21, .iload_n 1, 22, 0), (22, .iconst (Int.ofNat 0), 23, 0), (23, .iload_n 2, 24, 0), (24, .invokevirtual 321, 27, 0), (27, .ireturn, 28, 0)]
def tc_155 : List (Nat × Instr × Nat × Nat) := [(0, .aload_n 0, 1, 0), (1, .iload_n 1, 2, 0), (2, .invokevirtual 189, 5, 0), (5, .iload_n 2, 6, 0), (6, .bipush (Int.ofNat 8), 8, 0), (8, .invokestatic 229, 11, 0), (11, .aload_n 0, 12, 0), (12, .iload_n 1, 13, 0), (13, .invokevirtual 233, 16, 0), (16, .aload_n 0, 17, 0), (17, .getfield 87, 20, 0), (20, .iload_n 1, 21, 0), (21, .iload_n 2, 22, 0), (22, .invokevirtual 325, 25, 0), (25, .ireturn, 26, 0)]
def tc_156 : List (Nat × Instr × Nat × Nat) := [(0, .aload_n 0, 1, 0), (1, .iload_n 1, 2, 0), (2, .invokevirtual 189, 5, 0), (5, .iload_n 2, 6, 0), (6, .iconst (Int.ofNat 1), 7, 0), (7, .bipush (Int.ofNat 60), 9, 0), (9, .invokestatic 275, 12, 0), (12, .aload_n 0, 13, 0), (13, .iload_n 1, 14, 0), (14, .invokevirtual 233, 17, 0), (17, .aload_n 0, 18, 0), (18, .getfield 80, 21, 0), (21, .iload_n 1, 22, 0), (22, .iload_n 2, 23, 0), (23, .invokevirtual 328, 26, 0), (26, .ireturn, 27, 0)]
def tc_157 : List (Nat × Instr × Nat × Nat) := [(0, .iload_n 1, 1, 0), (1, .iconst (Int.ofNat 1), 2, 0), (2, .bipush (Int.ofNat 60), 4, 0), (4, .invokestatic 275, 7, 0), (7, .aload_n 0, 8, 0), (8, .getfield 80, 11, 0), (11, .iload_n 1, 12, 0), (12, .invokevirtual 331, 15, 0), (15, .iload_n 2, 16, 0), (16, .ifCond .eq 13, 19, 29), (19, .aload_n 0, 20, 0), (20, .getfield 80, 23, 0), (23, .getfield 334, 26, 0), (26, .goto 10, 29, 36), (29, .aload_n 0, 30, 0), (30, .getfield 80, 33, 0), (33, .getfield 337, 36, 0), (36, .ireturn, 37, 0)]
def tc_158 : List (Nat × Instr × Nat × Nat) := [(0, .aload_n 0, 1, 0), (1, .iload_n 1, 2, 0), (2, .invokevirtual 189, 5, 0), (5, .aload_n 0, 6, 0), (6, .iload_n 1, 7, 0), (7, .invokevirtual 233, 10, 0), (10, .aload_n 0, 11, 0), (11, .getfield 87, 14, 0), (14, .iload_n 1, 15, 0), (15, .invokevirtual 340, 18, 0), (18, .ireturn, 19, 0)]
def tc_159 : List (Nat × Instr × Nat × Nat) := [(0, .iload_n 1, 1, 0), (1, .bipush (Int.ofNat 8), 3, 0), (3, .invokestatic 229, 6, 0), (6, .aload_n 0, 7, 0), (7, .getfield 87, 10, 0), (10, .iload_n 1, 11, 0), (11, .invokevirtual 343, 14, 0), (14, .ireturn, 15, 0)]
def tc_160 : List (Nat × Instr × Nat × Nat) := [(0, .iload_n 1, 1, 0), (1, .bipush (Int.ofNat 8), 3, 0), (3, .invokestatic 229, 6, 0), (6, .aload_n 0, 7, 0), (7, .getfield 87, 10, 0), (10, .iload_n 1, 11, 0), (11, .invokevirtual 346, 14, 0), (14, .ireturn, 15, 0)]
def tc_161 : List (Nat × Instr × Nat × Nat) := [(0, .aload_n 0, 1, 0), (1, .getfield 36, 4, 0), (4, .getfield 192, 7, 0), (7, .ifCond .ne 7, 10, 14), (10, .lconst 0, 11, 0), (11, .goto 28, 14, 39), (14, .iload_n 1, 15, 0), (15, .ifCond .eq 13, 18, 28), (18, .aload_n 0, 19, 0), (19, .getfield 36, 22, 0), (22, .invokevirtual 349, 25, 0), (25, .goto 14, 28, 39), (28, .aload_n 0, 29, 0), (29, .getfield 36, 32, 0), (32, .invokevirtual 353, 35, 0), (35, .ldc2_w 356, 38, 0), (38, .lxor, 39, 0), (39, .lreturn, 40, 0)]
def tc_162 : List (Nat × Instr × Nat × Nat) := [(0, .iload_n 1, 1, 0), (1, .iconst (Int.ofNat 0), 2, 0), (2, .bipush (Int.ofNat 30), 4, 0), (4, .invokestatic 275, 7, 0), (7, .aload_n 0, 8, 0), (8, .getfield 40, 11, 0), (11, .aload_n 0, 12, 0), (12, .getfield 36, 15, 0), (15, .invokevirtual 148, 18, 0), (18, .iconst (Int.ofNat 1), 19, 0), (19, .istore_n 2, 20, 0), (20, .iconst (Int.ofNat 0), 21, 0), (21, .istore_n 3, 22, 0), (22, .iload_n 3, 23, 0), (23, .iload_n 1, 24, 0), (24, .if_icmp .ge 21, 27, 45), (27, .iload_n 2, 28, 0), (28, .ifCond .eq 17, 31, 45), (31, .aload_n 0, 32, 0), (32, .getfield 40, 35, 0), (35, .invokevirtual 358, 38, 0), (38, .istore_n 2, 39, 0), (39, .iinc 3 1, 42, 0), (42, .goto (-20), 45, 22), (45, .aload_n 0, 46, 0), (46, .getfield 40, 49, 0), (49, .invokevirtual 362, 52, 0), (52, .ireturn, 53, 0)]
def tc_163 : List (Nat × Instr × Nat × Nat) := [(0, .aload_n 0, 1, 0), (1, .getfield 40, 4, 0), (4, .aload_n 0, 5, 0), (5, .getfield 36, 8, 0), (8, .invokevirtual 148, 11, 0), (11, .iconst (Int.ofNat 0), 12, 0), (12, .istore_n 1, 13, 0), (13, .iload_n 1, 14, 0), (14, .bipush (Int.ofNat 30), 16, 0), (16, .if_icmp .gt 21, 19, 37), (19, .aload_n 0, 20, 0), (20, .getfield 40, 23, 0), (23, .invokevirtual 358, 26, 0), (26, .ifCond .ne 5, 29, 31), (29, .iload_n 1, 30, 0), (30, .ireturn, 31, 0), (31, .iinc 1 1, 34, 0), (34, .goto (-21), 37, 13), (37, .iconst (Int.negSucc 0), 38, 0), (38, .ireturn, 39, 0)]
def tc_164 : List (Nat × Instr × Nat × Nat) := [(0, .aload_n 0, 1, 0), (1, .iload_n 1, 2, 0), (2, .invokevirtual 189, 5, 0), (5, .aload_n 0, 6, 0), (6, .iload_n 1, 7, 0), (7, .invokevirtual 233, 10, 0), (10, .aload_n 0, 11, 0), (11, .getfield 87, 14, 0), (14, .iload_n 1, 15, 0), (15, .iconst (Int.negSucc 0), 16, 0), (16, .invokevirtual 365, 19, 0), (19, .istore_n 3, 20, 0), (20, .iload_n 2, 21, 0), (21, .ifCond .ne 13, 24, 34), (24, .aload_n 0, 25, 0), (25, .getfield 87, 28, 0), (28, .iload_n 1, 29, 0), (29, .iload_n 3, 30, 0), (30, .invokevirtual 368, 33, 0), (33, .ireturn, 34, 0), (34, .aload_n 0, 35, 0), (35, .getfield 87, 38, 0), (38, .iload_n 1, 39, 0), (39, .iload_n 3, 40, 0), (40, .invokevirtual 365, 43, 0), (43, .istore 4, 45, 0), (45, .iload 4, 47, 0), (47, .iconst (Int.negSucc 0), 48, 0), (48, .if_icmp .ne 7, 51, 55), (51, .iconst (Int.ofNat 0), 52, 0), (52, .goto 13, 55, 65), (55, .aload_n 0, 56, 0), (56, .getfield 87, 59, 0), (59, .iload_n 1, 60, 0), (60, .iload 4, 62, 0), (62, .invokevirtual 368, 65, 0), (65, .ireturn, 66, 0)]
def tc_165 : List (Nat × Instr × Nat × Nat) := [(0, .iload_n 1, 1, 0), (1, .bipush (Int.ofNat 8), 3, 0), (3, .invokestatic 229, 6, 0), (6, .iload_n 2, 7, 0), (7, .iconst (Int.ofNat 0), 8, 0), (8, .bipush (Int.ofNat 60), 10, 0), (10, .invokestatic 275, 13, 0), (13, .aload_n 0, 14, 0), (14, .getfield 87, 17, 0), (17, .iload_n 1, 18, 0), (18, .iload_n 2, 19, 0), (19, .invokevirtual 371, 22, 0), (22, .ireturn, 23, 0)]
def tc_166 : List (Nat × Instr × Nat × Nat) := [(0, .aload_n 0, 1, 0), (1, .iload_n 1, 2, 0), (2, .invokevirtual 189, 5, 0), (5, .aload_n 0, 6, 0), (6, .iload_n 2, 7, 0), (7, .invokevirtual 189, 10, 0), (10, .iload_n 1, 11, 0), (11, .iload_n 2, 12, 0), (12, .invokestatic 260, 15, 0), (15, .iload_n 3, 16, 0), (16, .iconst (Int.ofNat 1), 17, 0), (17, .bipush (Int.ofNat 60), 19, 0), (19, .invokestatic 275, 22, 0), (22, .aload_n 0, 23, 0), (23, .getfield 87, 26, 0), (26, .iload_n 1, 27, 0), (27, .iload_n 2, 28, 0), (28, .iload_n 3, 29, 0), (29, .invokevirtual 374, 32, 0), (32, .ireturn, 33, 0)]
def tc_167 : List (Nat × Instr × Nat × Nat) := [(0, .iload_n 1, 1, 0), (1, .iconst (Int.ofNat 0), 2, 0), (2, .bipush (Int.ofNat 40), 4, 0), (4, .invokestatic 275, 7, 0), (7, .iload_n 2, 8, 0), (8, .ifCond .lt 8, 11, 16), (11, .iload_n 2, 12, 0), (12, .iconst (Int.ofNat 3), 13, 0), (13, .if_icmp .le 13, 16, 26), (16, .new 184, 19, 0), (19, .dup, 20, 0), (20, .ldc 186, 22, 0), (22, .invokespecial 188, 25, 0), (25, .athrow, 26, 0), (26, .aload_n 0, 27, 0), (27, .iload_n 1, 28, 0), (28, .aload_n 0, 29, 0), (29, .getfield 36, 32, 0), (32, .getfield 377, 35, 0), (35, .invokevirtual 380, 38, 0), (38, .iload_n 2, 39, 0), (39, .tableswitch 65 0 2 #[25, 41, 57], 64, 0), (64, .aload_n 0, 65, 0), (65, .getfield 40, 68, 0), (68, .getfield 279, 71, 0), (71, .aload_n 0, 72, 0), (72, .getfield 36, 75, 0), (75, .getfield 279, 78, 0), (78, .isub, 79, 0), (79, .ireturn, 80, 0), (80, .aload_n 0, 81, 0), (81, .getfield 40, 84, 0), (84, .getfield 383, 87, 0), (87, .aload_n 0, 88, 0), (88, .getfield 36, 91, 0), (91, .getfield 383, 94, 0), (94, .isub, 95, 0), (95, .ireturn, 96, 0), (96, .aload_n 0, 97, 0), (97, .getfield 40, 100, 0), (100, .invokevirtual 386, 103, 0), (103, .ireturn, 104, 0), (104, .aload_n 0, 105, 0), (105, .getfield 40, 108, 0), (108, .invokevirtual 362, 111, 0), (111, .ireturn, 112, 0)]
def tc_168 : List (Nat × Instr × Nat × Nat) := [(0, .iload_n 1, 1, 0), (1, .iconst (Int.ofNat 0), 2, 0), (2, .bipush (Int.ofNat 40), 4, 0), (4, .invokestatic 275, 7, 0), (7, .iconst (Int.negSucc 0), 8, 0), (8, .istore_n 3, 9, 0), (9, .iconst (Int.ofNat 1), 10, 0), (10, .istore 4, 12, 0), (12, .iload 4, 14, 0), (14, .bipush (Int.ofNat 6), 16, 0), (16, .if_icmp .gt 60, 19, 76), (19, .aload_n 0, 20, 0), (20, .iload_n 1, 21, 0), (21, .iload 4, 23, 0), (23, .invokevirtual 380, 26, 0), (26, .aload_n 0, 27, 0), (27, .getfield 40, 30, 0), (30, .getfield 279, 33, 0), (33, .aload_n 0, 34, 0), (34, .getfield 36, 37, 0), (37, .getfield 279, 40, 0), (40, .isub, 41, 0), (41, .istore 5, 43, 0), (43, .iload_n 3, 44, 0), (44, .iconst (Int.negSucc 0), 45, 0), (45, .if_icmp .eq 22, 48, 67), (48, .iload_n 2, 49, 0), (49, .ifCond .eq 12, 52, 61), (52, .iload 5, 54, 0), (54, .iload_n 3, 55, 0), (55, .if_icmp .le 15, 58, 70), (58, .goto 9, 61, 67), (61, .iload 5, 63, 0), (63, .iload_n 3, 64, 0), (64, .if_icmp .ge 6, 67, 70), (67, .iload 5, 69, 0), (69, .istore_n 3, 70, 0), (70, .iinc 4 1, 73, 0), (73, .goto (-61), 76, 12), (76, .iload_n 3, 77, 0), (77, .ireturn, 78, 0)]
def tc_169 : List (Nat × Instr × Nat × Nat) := [(0, .aload_n 0, 1, 0), (1, .getfield 40, 4, 0), (4, .aload_n 0, 5, 0), (5, .getfield 36, 8, 0), (8, .invokevirtual 148, 11, 0), (11, .iconst (Int.ofNat 1), 12, 0), (12, .istore_n 1, 13, 0), (13, .iload_n 1, 14, 0), (14, .bipush (Int.ofNat 40), 16, 0), (16, .if_icmp .gt 39, 19, 55), (19, .aload_n 0, 20, 0), (20, .getfield 40, 23, 0), (23, .aload_n 0, 24, 0), (24, .getfield 26, 27, 0), (27, .invokevirtual 282, 30, 0), (30, .aload_n 0, 31, 0), (31, .getfield 40, 34, 0), (34, .getfield 279, 37, 0), (37, .aload_n 0, 38, 0), (38, .getfield 36, 41, 0), (41, .getfield 279, 44, 0), (44, .if_icmp .eq 5, 47, 49), (47, .iload_n 1, 48, 0), (48, .ireturn, 49, 0), (49, .iinc 1 1, 52, 0), (52, .goto (-39), 55, 13), (55, .iconst (Int.negSucc 0), 56, 0), (56, .ireturn, 57, 0)]
def tc_170 : List (Nat × Instr × Nat × Nat) := [(0, .iload_n 1, 1, 0), (1, .iconst (Int.negSucc 0), 2, 0), (2, .if_icmp .eq 8, 5, 10), (5, .aload_n 0, 6, 0), (6, .iload_n 1, 7, 0), (7, .invokevirtual 189, 10, 0), (10, .aload_n 0, 11, 0), (11, .getfield 36, 14, 0), (14, .getfield 389, 17, 0), (17, .iload_n 1, 18, 0), (18, .invokevirtual 393, 21, 0), (21, .ireturn, 22, 0)]
def tc_171 : List (Nat × Instr × Nat × Nat) := [(0, .aload_n 0, 1, 0), (1, .getfield 36, 4, 0), (4, .getfield 389, 7, 0), (7, .invokevirtual 398, 10, 0), (10, .ireturn, 11, 0)]
def tc_172 : List (Nat × Instr × Nat × Nat) := [(0, .iload_n 2, 1, 0), (1, .ifCond .lt 8, 4, 9), (4, .iload_n 2, 5, 0), (5, .iconst (Int.ofNat 4), 6, 0), (6, .if_icmp .lt 13, 9, 19), (9, .new 184, 12, 0), (12, .dup, 13, 0), (13, .ldc 186, 15, 0), (15, .invokespecial 188, 18, 0), (18, .athrow, 19, 0), (19, .aload_n 0, 20, 0), (20, .getfield 36, 23, 0), (23, .getfield 389, 26, 0), (26, .iload_n 1, 27, 0), (27, .iload_n 2, 28, 0), (28, .invokevirtual 401, 31, 0), (31, .ireturn, 32, 0)]
def tc_173 : List (Nat × Instr × Nat × Nat) := [(0, .aload_n 0, 1, 0), (1, .getfield 36, 4, 0), (4, .getfield 377, 7, 0), (7, .istore_n 2, 8, 0), (8, .aload_n 0, 9, 0), (9, .getfield 36, 12, 0), (12, .iload_n 1, 13, 0), (13, .putfield 377, 16, 0), (16, .iload_n 2, 17, 0), (17, .ireturn, 18, 0)]
def tc_174 : List (Nat × Instr × Nat × Nat) := [(0, .aload_n 0, 1, 0), (1, .getfield 64, 4, 0), (4, .aload_n 0, 5, 0), (5, .getfield 36, 8, 0), (8, .invokevirtual 404, 11, 0), (11, .ireturn, 12, 0)]
def tc_175 : List (Nat × Instr × Nat × Nat) := [(0, .aload_n 0, 1, 0), (1, .getfield 91, 4, 0), (4, .aload_n 0, 5, 0), (5, .getfield 26, 8, 0), (8, .invokevirtual 138, 11, 0), (11, .aload_n 0, 12, 0), (12, .getfield 94, 15, 0), (15, .aload_n 0, 16, 0), (16, .getfield 36, 19, 0), (19, .invokevirtual 148, 22, 0), (22, .aload_n 0, 23, 0), (23, .iconst (Int.ofNat 1), 24, 0), (24, .putfield 97, 27, 0), (27, .return_, 28, 0)]
def tc_176 : List (Nat × Instr × Nat × Nat) := [(0, .aload_n 0, 1, 0), (1, .getfield 97, 4, 0), (4, .ifCond .ne 5, 7, 9), (7, .iconst (Int.ofNat 0), 8, 0), (8, .ireturn, 9, 0), (9, .aload_n 0, 10, 0), (10, .getfield 26, 13, 0), (13, .aload_n 0, 14, 0), (14, .getfield 91, 17, 0), (17, .invokevirtual 138, 20, 0), (20, .aload_n 0, 21, 0), (21, .getfield 36, 24, 0), (24, .aload_n 0, 25, 0), (25, .getfield 94, 28, 0), (28, .invokevirtual 148, 31, 0), (31, .aload_n 0, 32, 0), (32, .getfield 64, 35, 0), (35, .invokevirtual 142, 38, 0), (38, .iconst (Int.ofNat 1), 39, 0), (39, .ireturn, 40, 0)]
def tc_177 : List (Nat × Instr × Nat × Nat) := [(0, .iload_n 1, 1, 0), (1, .tableswitch 203 0 13 #[71, 93, 101, 112, 120, 128, 136, 144, 152, 160, 168, 179, 187, 195], 72, 0), (72, .aload_n 0, 73, 0), (73, .getfield 26, 76, 0), (76, .getfield 127, 79, 0), (79, .ifCond .eq 13, 82, 92), (82, .aload_n 0, 83, 0), (83, .getfield 26, 86, 0), (86, .getfield 145, 89, 0), (89, .goto 4, 92, 93), (92, .iconst (Int.negSucc 0), 93, 0), (93, .ireturn, 94, 0), (94, .aload_n 0, 95, 0), (95, .getfield 36, 98, 0), (98, .getfield 130, 101, 0), (101, .ireturn, 102, 0), (102, .aload_n 0, 103, 0), (103, .getfield 36, 106, 0), (106, .getfield 192, 109, 0), (109, .invokestatic 408, 112, 0), (112, .ireturn, 113, 0), (113, .aload_n 0, 114, 0), (114, .getfield 36, 117, 0), (117, .getfield 152, 120, 0), (120, .ireturn, 121, 0), (121, .aload_n 0, 122, 0), (122, .getfield 36, 125, 0), (125, .getfield 412, 128, 0), (128, .ireturn, 129, 0), (129, .aload_n 0, 130, 0), (130, .getfield 36, 133, 0), (133, .invokevirtual 174, 136, 0), (136, .ireturn, 137, 0), (137, .aload_n 0, 138, 0), (138, .getfield 36, 141, 0), (141, .invokevirtual 386, 144, 0), (144, .ireturn, 145, 0), (145, .aload_n 0, 146, 0), (146, .getfield 36, 149, 0), (149, .getfield 279, 152, 0), (152, .ireturn, 153, 0), (153, .aload_n 0, 154, 0), (154, .getfield 36, 157, 0), (157, .getfield 383, 160, 0), (160, .ireturn, 161, 0), (161, .aload_n 0, 162, 0), (162, .getfield 36, 165, 0), (165, .getfield 415, 168, 0), (168, .ireturn, 169, 0), (169, .aload_n 0, 170, 0), (170, .getfield 36, 173, 0), (173, .getfield 389, 176, 0), (176, .getfield 418, 179, 0), (179, .ireturn, 180, 0), (180, .aload_n 0, 181, 0), (181, .getfield 36, 184, 0), (184, .getfield 419, 187, 0), (187, .ireturn, 188, 0), (188, .aload_n 0, 189, 0), (189, .getfield 36, 192, 0), (192, .getfield 422, 195, 0), (195, .ireturn, 196, 0), (196, .aload_n 0, 197, 0), (197, .getfield 64, 200, 0), (200, .getfield 425, 203, 0), (203, .ireturn, 204, 0), (204, .iconst (Int.negSucc 0), 205, 0), (205, .ireturn, 206, 0)]
def tc_178 : List (Nat × Instr × Nat × Nat) := [(0, .aload_n 0, 1, 0), (1, .getfield 40, 4, 0), (4, .aload_n 0, 5, 0), (5, .getfield 36, 8, 0), (8, .invokevirtual 148, 11, 0), (11, .aload_n 0, 12, 0), (12, .getfield 40, 15, 0), (15, .iload_n 2, 16, 0), (16, .putfield 377, 19, 0), (19, .iconst (Int.ofNat 0), 20, 0), (20, .istore_n 3, 21, 0), (21, .iload_n 3, 22, 0), (22, .iload_n 1, 23, 0), (23, .if_icmp .ge 20, 26, 43), (26, .aload_n 0, 27, 0), (27, .getfield 40, 30, 0), (30, .aload_n 0, 31, 0), (31, .getfield 26, 34, 0), (34, .invokevirtual 282, 37, 0), (37, .iinc 3 1, 40, 0), (40, .goto (-19), 43, 21), (43, .return_, 44, 0)]
def tc_179 : List (Nat × Instr × Nat × Nat) := [(0, .iload_n 1, 1, 0), (1, .aload_n 0, 2, 0), (2, .getfield 36, 5, 0), (5, .getfield 130, 8, 0), (8, .invokestatic 229, 11, 0), (11, .return_, 12, 0)]
def tc_180 : List (Nat × Instr × Nat × Nat) := [(0, .iload_n 1, 1, 0), (1, .aload_n 0, 2, 0), (2, .getfield 26, 5, 0), (5, .getfield 145, 8, 0), (8, .invokestatic 229, 11, 0), (11, .return_, 12, 0)]
def tc_181 : List (Nat × Instr × Nat × Nat) := [(0, .iload_n 0, 1, 0), (1, .ifCond .lt 8, 4, 9), (4, .iload_n 0, 5, 0), (5, .iload_n 1, 6, 0), (6, .if_icmp .lt 14, 9, 20), (9, .new 426, 12, 0), (12, .dup, 13, 0), (13, .ldc_w 428, 16, 0), (16, .invokespecial 430, 19, 0), (19, .athrow, 20, 0), (20, .return_, 21, 0)]
def tc_182 : List (Nat × Instr × Nat × Nat) := [(0, .aload_n 0, 1, 0), (1, .getfield 36, 4, 0), (4, .iload_n 1, 5, 0), (5, .invokevirtual 431, 8, 0), (8, .ifCond .ne 14, 11, 22), (11, .new 133, 14, 0), (14, .dup, 15, 0), (15, .ldc_w 435, 18, 0), (18, .invokespecial 137, 21, 0), (21, .athrow, 22, 0), (22, .return_, 23, 0)]
def tc_183 : List (Nat × Instr × Nat × Nat) := [(0, .iload_n 0, 1, 0), (1, .iload_n 1, 2, 0), (2, .if_icmp .lt 8, 5, 10), (5, .iload_n 0, 6, 0), (6, .iload_n 2, 7, 0), (7, .if_icmp .le 14, 10, 21), (10, .new 120, 13, 0), (13, .dup, 14, 0), (14, .ldc_w 437, 17, 0), (17, .invokespecial 124, 20, 0), (20, .athrow, 21, 0), (21, .return_, 22, 0)]
def tc_184 : List (Nat × Instr × Nat × Nat) := [(0, .iload_n 0, 1, 0), (1, .iload_n 1, 2, 0), (2, .if_icmp .ne 14, 5, 16), (5, .new 120, 8, 0), (8, .dup, 9, 0), (9, .ldc_w 439, 12, 0), (12, .invokespecial 124, 15, 0), (15, .athrow, 16, 0), (16, .return_, 17, 0)]
def tc_185 : List (Nat × Instr × Nat × Nat) := [(0, .iload_n 0, 1, 0), (1, .iload_n 1, 2, 0), (2, .ishr, 3, 0), (3, .iconst (Int.ofNat 1), 4, 0), (4, .iand, 5, 0), (5, .ireturn, 6, 0)]
def tc_186 : List (Nat × Instr × Nat × Nat) := [(0, .aload_n 0, 1, 0), (1, .getfield 3, 4, 0), (4, .ireturn, 5, 0)]
def tc_187 : List (Nat × Instr × Nat × Nat) := [(0, .iload_n 1, 1, 0), (1, .ifCond .eq 8, 4, 9), (4, .aload_n 0, 5, 0), (5, .iload_n 2, 6, 0), (6, .putfield 3, 9, 0), (9, .iload_n 1, 10, 0), (10, .ireturn, 11, 0)]
def tc_188 : List (Nat × Instr × Nat × Nat) := [(0, .iload_n 0, 1, 0), (1, .iload_n 1, 2, 0), (2, .if_icmp .lt 12, 5, 14), (5, .iload_n 0, 6, 0), (6, .iload_n 2, 7, 0), (7, .if_icmp .gt 7, 10, 14), (10, .iconst (Int.ofNat 1), 11, 0), (11, .goto 4, 14, 15), (14, .iconst (Int.ofNat 0), 15, 0), (15, .ireturn, 16, 0)]
def tc_189 : List (Nat × Instr × Nat × Nat) := [(0, .iload_n 0, 1, 0), (1, .iload_n 1, 2, 0), (2, .ishr, 3, 0), (3, .iconst (Int.ofNat 1), 4, 0), (4, .iand, 5, 0), (5, .iconst (Int.ofNat 1), 6, 0), (6, .if_icmp .ne 7, 9, 13), (9, .iconst (Int.ofNat 1), 10, 0), (10, .goto 4, 13, 14), (13, .iconst (Int.ofNat 0), 14, 0), (14, .ireturn, 15, 0)]
def tc_190 : List (Nat × Instr × Nat × Nat) := [(0, .lload_n 0, 1, 0), (1, .iload_n 2, 2, 0), (2, .lshr, 3, 0), (3, .lconst 1, 4, 0), (4, .land, 5, 0), (5, .lconst 1, 6, 0), (6, .lcmp, 7, 0), (7, .ifCond .ne 7, 10, 14), (10, .iconst (Int.ofNat 1), 11, 0), (11, .goto 4, 14, 15), (14, .iconst (Int.ofNat 0), 15, 0), (15, .ireturn, 16, 0)]
def tc_191_0 : List (Nat × Instr × Nat × Nat) := [(0, .aload_n 0, 1, 0), (1, .invokespecial 7, 4, 0), (4, .aload_n 0, 5, 0), (5, .sipush (Int.ofNat 388), 8, 0), (8, .newarray .int, 10, 0), (10, .putfield 13, 13, 0), (13, .aload_n 0, 14, 0), (14, .sipush (Int.ofNat 388), 17, 0), (17, .newarray .int, 19, 0), (19, .putfield 17, 22, 0), (22, .aload_n 0, 23, 0), (23, .sipush (Int.ofNat 388), 26, 0), (26, .newarray .int, 28, 0), (28, .putfield 20, 31, 0), (31, .aload_n 0, 32, 0), (32, .sipush (Int.ofNat 388), 35, 0), (35, .newarray .int, 37, 0), (37, .putfield 23, 40, 0), (40, .aload_n 0, 41, 0), (41, .sipush (Int.ofNat 3880), 44, 0), (44, .newarray .int, 46, 0), (46, .putfield 26, 49, 0), (49, .aload_n 0, 50, 0), (50, .bipush (Int.ofNat 10), 52, 0), (52, .newarray .long, 54, 0), (54, .putfield 29, 57, 0), (57, .aload_n 0, 58, 0), (58, .bipush (Int.ofNat 10), 60, 0), (60, .newarray .long, 62, 0), (62, .putfield 33, 65, 0), (65, .aload_n 0, 66, 0), (66, .bipush (Int.ofNat 10), 68, 0), (68, .newarray .long, 70, 0), (70, .putfield 36, 73, 0), (73, .aload_n 0, 74, 0), (74, .bipush (Int.ofNat 10), 76, 0), (76, .newarray .long, 78, 0), (78, .putfield 39, 81, 0), (81, .aload_n 0, 82, 0), (82, .bipush (Int.ofNat 100), 84, 0), (84, .newarray .long, 86, 0), (86, .putfield 42, 89, 0), (89, .aload_n 0, 90, 0), (90, .bipush (Int.ofNat 48), 92, 0), (92, .newarray .int, 94, 0), (94, .putfield 45, 97, 0), (97, .aload_n 0, 98, 0), (98, .sipush (Int.ofNat 800), 101, 0), (101, .newarray .int, 103, 0), (103, .putfield 48, 106, 0), (106, .aload_n 0, 107, 0), (107, .iconst (Int.negSucc 0), 108, 0), (108, .putfield 51, 111, 0), (111, .aload_n 0, 112, 0), (112, .iconst (Int.negSucc 0), 113, 0), (113, .putfield 54, 116, 0), (116, .aload_n 0, 117, 0), (117, .sipush (Int.ofNat 400), 120, 0), (120, .newarray .byte, 122, 0), (122, .putfield 57, 125, 0)]
def tc_191_1 : List (Nat × Instr × Nat × Nat) := [(125, .aload_n 0, 126, 0), (126, .iconst (Int.negSucc 0), 127, 0), (127, .putfield 61, 130, 0), (130, .aload_n 0, 131, 0), (131, .iconst (Int.ofNat 5), 132, 0), (132, .newarray .int, 134, 0), (134, .putfield 64, 137, 0), (137, .aload_n 0, 138, 0), (138, .bipush (Int.ofNat 48), 140, 0), (140, .newarray .int, 142, 0), (142, .putfield 67, 145, 0), (145, .aload_n 0, 146, 0), (146, .sipush (Int.ofNat 800), 149, 0), (149, .newarray .int, 151, 0), (151, .putfield 70, 154, 0), (154, .aload_n 0, 155, 0), (155, .sipush (Int.ofNat 400), 158, 0), (158, .newarray .int, 160, 0), (160, .putfield 73, 163, 0), (163, .aload_n 0, 164, 0), (164, .bipush (Int.ofNat 12), 166, 0), (166, .newarray .int, 168, 0), (168, .putfield 76, 171, 0), (171, .aload_n 0, 172, 0), (172, .sipush (Int.ofNat 400), 175, 0), (175, .newarray .int, 177, 0), (177, .putfield 79, 180, 0), (180, .aload_n 0, 181, 0), (181, .bipush (Int.ofNat 64), 183, 0), (183, .newarray .int, 185, 0), (185, .putfield 82, 188, 0), (188, .aload_n 0, 189, 0), (189, .bipush (Int.ofNat 64), 191, 0), (191, .newarray .int, 193, 0), (193, .putfield 85, 196, 0), (196, .aload_n 0, 197, 0), (197, .bipush (Int.ofNat 8), 199, 0), (199, .newarray .int, 201, 0), (201, .putfield 88, 204, 0), (204, .aload_n 0, 205, 0), (205, .bipush (Int.ofNat 10), 207, 0), (207, .newarray .long, 209, 0), (209, .putfield 91, 212, 0), (212, .aload_n 0, 213, 0), (213, .bipush (Int.ofNat 10), 215, 0), (215, .newarray .long, 217, 0), (217, .putfield 94, 220, 0), (220, .aload_n 0, 221, 0), (221, .getfield 13, 224, 0), (224, .bipush (Int.ofNat 7), 226, 0), (226, .bipush (Int.ofNat 100), 228, 0), (228, .iastore, 229, 0), (229, .aload_n 0, 230, 0), (230, .getfield 13, 233, 0), (233, .bipush (Int.ofNat 8), 235, 0), (235, .iconst (Int.ofNat 3), 236, 0), (236, .iastore, 237, 0), (237, .aload_n 0, 238, 0), (238, .getfield 13, 241, 0), (241, .bipush (Int.ofNat 9), 243, 0)]
def tc_191_2 : List (Nat × Instr × Nat × Nat) := [(243, .iconst (Int.ofNat 1), 244, 0), (244, .iastore, 245, 0), (245, .iconst (Int.ofNat 0), 246, 0), (246, .istore_n 1, 247, 0), (247, .iload_n 1, 248, 0), (248, .bipush (Int.ofNat 8), 250, 0), (250, .if_icmp .ge 19, 253, 269), (253, .aload_n 0, 254, 0), (254, .getfield 13, 257, 0), (257, .bipush (Int.ofNat 10), 259, 0), (259, .iload_n 1, 260, 0), (260, .iadd, 261, 0), (261, .iconst (Int.ofNat 1), 262, 0), (262, .iastore, 263, 0), (263, .iinc 1 1, 266, 0), (266, .goto (-19), 269, 247), (269, .return_, 270, 0)]
def tc_191 : List (Nat × Instr × Nat × Nat) := tc_191_0 ++ (tc_191_1 ++ tc_191_2)
def tc_192 : List (Nat × Instr × Nat × Nat) := [(0, .iconst (Int.ofNat 0), 1, 0), (1, .istore 4, 3, 0), (3, .iload 4, 5, 0), (5, .sipush (Int.ofNat 388), 8, 0), (8, .if_icmp .ge 21, 11, 29), (11, .aload_n 2, 12, 0), (12, .iload_n 3, 13, 0), (13, .iload 4, 15, 0), (15, .iadd, 16, 0), (16, .aload_n 0, 17, 0), (17, .iload_n 1, 18, 0), (18, .iload 4, 20, 0), (20, .iadd, 21, 0), (21, .iaload, 22, 0), (22, .iastore, 23, 0), (23, .iinc 4 1, 26, 0), (26, .goto (-23), 29, 3), (29, .return_, 30, 0)]
def tc_193 : List (Nat × Instr × Nat × Nat) := [(0, .iconst (Int.ofNat 0), 1, 0), (1, .istore 4, 3, 0), (3, .iload 4, 5, 0), (5, .bipush (Int.ofNat 10), 7, 0), (7, .if_icmp .ge 21, 10, 28), (10, .aload_n 2, 11, 0), (11, .iload_n 3, 12, 0), (12, .iload 4, 14, 0), (14, .iadd, 15, 0), (15, .aload_n 0, 16, 0), (16, .iload_n 1, 17, 0), (17, .iload 4, 19, 0), (19, .iadd, 20, 0), (20, .laload, 21, 0), (21, .lastore, 22, 0), (22, .iinc 4 1, 25, 0), (25, .goto (-22), 28, 3), (28, .return_, 29, 0)]
def tc_194 : List (Nat × Instr × Nat × Nat) := [(0, .aload_n 0, 1, 0), (1, .iconst (Int.ofNat 0), 2, 0), (2, .putfield 3, 5, 0), (5, .aload_n 0, 6, 0), (6, .getfield 13, 9, 0), (9, .iconst (Int.ofNat 0), 10, 0), (10, .aload_n 0, 11, 0), (11, .getfield 17, 14, 0), (14, .iconst (Int.ofNat 0), 15, 0), (15, .invokestatic 97, 18, 0), (18, .aload_n 0, 19, 0), (19, .getfield 29, 22, 0), (22, .iconst (Int.ofNat 0), 23, 0), (23, .aload_n 0, 24, 0), (24, .getfield 33, 27, 0), (27, .iconst (Int.ofNat 0), 28, 0), (28, .invokestatic 101, 31, 0), (31, .aload_n 0, 32, 0), (32, .aload_n 0, 33, 0), (33, .getfield 51, 36, 0), (36, .putfield 54, 39, 0), (39, .aload_n 0, 40, 0), (40, .iconst (Int.ofNat 1), 41, 0), (41, .putfield 105, 44, 0), (44, .return_, 45, 0)]
def tc_195 : List (Nat × Instr × Nat × Nat) := [(0, .aload_n 0, 1, 0), (1, .iconst (Int.ofNat 0), 2, 0), (2, .putfield 3, 5, 0), (5, .aload_n 0, 6, 0), (6, .getfield 105, 9, 0), (9, .ifCond .ne 5, 12, 14), (12, .iconst (Int.ofNat 0), 13, 0), (13, .ireturn, 14, 0), (14, .aload_n 0, 15, 0), (15, .getfield 17, 18, 0), (18, .iconst (Int.ofNat 0), 19, 0), (19, .aload_n 0, 20, 0), (20, .getfield 13, 23, 0), (23, .iconst (Int.ofNat 0), 24, 0), (24, .invokestatic 97, 27, 0), (27, .aload_n 0, 28, 0), (28, .getfield 33, 31, 0), (31, .iconst (Int.ofNat 0), 32, 0), (32, .aload_n 0, 33, 0), (33, .getfield 29, 36, 0), (36, .iconst (Int.ofNat 0), 37, 0), (37, .invokestatic 101, 40, 0), (40, .aload_n 0, 41, 0), (41, .aload_n 0, 42, 0), (42, .getfield 54, 45, 0), (45, .putfield 51, 48, 0), (48, .aload_n 0, 49, 0), (49, .iconst (Int.ofNat 0), 50, 0), (50, .putfield 109, 53, 0), (53, .iconst (Int.ofNat 1), 54, 0), (54, .ireturn, 55, 0)]
def tc_196 : List (Nat × Instr × Nat × Nat) := [(0, .iconst (Int.ofNat 1), 1, 0), (1, .istore_n 1, 2, 0), (2, .iload_n 1, 3, 0), (3, .bipush (Int.ofNat 10), 5, 0), (5, .if_icmp .ge 62, 8, 67), (8, .aload_n 0, 9, 0), (9, .getfield 109, 12, 0), (12, .bipush (Int.ofNat 10), 14, 0), (14, .if_icmp .ne 53, 17, 67), (17, .aload_n 0, 18, 0), (18, .getfield 26, 21, 0), (21, .sipush (Int.ofNat 388), 24, 0), (24, .iload_n 1, 25, 0), (25, .imul, 26, 0), (26, .aload_n 0, 27, 0), (27, .getfield 26, 30, 0), (30, .sipush (Int.ofNat 388), 33, 0), (33, .iload_n 1, 34, 0), (34, .iconst (Int.ofNat 1), 35, 0), (35, .isub, 36, 0), (36, .imul, 37, 0), (37, .invokestatic 97, 40, 0), (40, .aload_n 0, 41, 0), (41, .getfield 42, 44, 0), (44, .bipush (Int.ofNat 10), 46, 0), (46, .iload_n 1, 47, 0), (47, .imul, 48, 0), (48, .aload_n 0, 49, 0), (49, .getfield 42, 52, 0), (52, .bipush (Int.ofNat 10), 54, 0), (54, .iload_n 1, 55, 0), (55, .iconst (Int.ofNat 1), 56, 0), (56, .isub, 57, 0), (57, .imul, 58, 0), (58, .invokestatic 101, 61, 0), (61, .iinc 1 1, 64, 0), (64, .goto (-62), 67, 2), (67, .aload_n 0, 68, 0), (68, .bipush (Int.ofNat 10), 70, 0), (70, .aload_n 0, 71, 0), (71, .getfield 109, 74, 0), (74, .iconst (Int.ofNat 1), 75, 0), (75, .iadd, 76, 0), (76, .invokestatic 112, 79, 0), (79, .putfield 109, 82, 0), (82, .aload_n 0, 83, 0), (83, .getfield 13, 86, 0), (86, .iconst (Int.ofNat 0), 87, 0), (87, .aload_n 0, 88, 0), (88, .getfield 26, 91, 0), (91, .sipush (Int.ofNat 388), 94, 0), (94, .aload_n 0, 95, 0), (95, .getfield 109, 98, 0), (98, .iconst (Int.ofNat 1), 99, 0), (99, .isub, 100, 0), (100, .imul, 101, 0), (101, .invokestatic 97, 104, 0), (104, .aload_n 0, 105, 0), (105, .getfield 29, 108, 0), (108, .iconst (Int.ofNat 0), 109, 0), (109, .aload_n 0, 110, 0), (110, .getfield 42, 113, 0), (113, .bipush (Int.ofNat 10), 115, 0), (115, .aload_n 0, 116, 0), (116, .getfield 109, 119, 0), (119, .iconst (Int.ofNat 1), 120, 0), (120, .isub, 121, 0), (121, .imul, 122, 0), (122, .invokestatic 101, 125, 0), (125, .return_, 126, 0)]
def tc_197 : List (Nat × Instr × Nat × Nat) := [(0, .aload_n 0, 1, 0), (1, .iconst (Int.ofNat 0), 2, 0), (2, .putfield 3, 5, 0), (5, .aload_n 0, 6, 0), (6, .getfield 109, 9, 0), (9, .ifCond .ne 5, 12, 14), (12, .iconst (Int.ofNat 0), 13, 0), (13, .ireturn, 14, 0), (14, .aload_n 0, 15, 0), (15, .dup, 16, 0), (16, .getfield 109, 19, 0), (19, .iconst (Int.ofNat 1), 20, 0), (20, .isub, 21, 0), (21, .putfield 109, 24, 0), (24, .aload_n 0, 25, 0), (25, .getfield 26, 28, 0), (28, .sipush (Int.ofNat 388), 31, 0), (31, .aload_n 0, 32, 0), (32, .getfield 109, 35, 0), (35, .imul, 36, 0), (36, .aload_n 0, 37, 0), (37, .getfield 13, 40, 0), (40, .iconst (Int.ofNat 0), 41, 0), (41, .invokestatic 97, 44, 0), (44, .aload_n 0, 45, 0), (45, .getfield 42, 48, 0), (48, .bipush (Int.ofNat 10), 50, 0), (50, .aload_n 0, 51, 0), (51, .getfield 109, 54, 0), (54, .imul, 55, 0), (55, .aload_n 0, 56, 0), (56, .getfield 29, 59, 0), (59, .iconst (Int.ofNat 0), 60, 0), (60, .invokestatic 101, 63, 0), (63, .iconst (Int.ofNat 1), 64, 0), (64, .ireturn, 65, 0)]
def tc_198 : List (Nat × Instr × Nat × Nat) := [(0, .iconst (Int.ofNat 0), 1, 0), (1, .aload_n 0, 2, 0), (2, .getfield 51, 5, 0), (5, .invokestatic 118, 8, 0), (8, .ireturn, 9, 0)]
def tc_199 : List (Nat × Instr × Nat × Nat) := [(0, .aload_n 0, 1, 0), (1, .getfield 13, 4, 0), (4, .iconst (Int.ofNat 0), 5, 0), (5, .iaload, 6, 0), (6, .ireturn, 7, 0)]
def tc_200 : List (Nat × Instr × Nat × Nat) := [(0, .aload_n 0, 1, 0), (1, .getfield 13, 4, 0), (4, .bipush (Int.ofNat 18), 6, 0), (6, .bipush (Int.ofNat 13), 8, 0), (8, .iload_n 1, 9, 0), (9, .imul, 10, 0), (10, .iadd, 11, 0), (11, .iload_n 2, 12, 0), (12, .iadd, 13, 0), (13, .iaload, 14, 0), (14, .ireturn, 15, 0)]
def tc_201 : List (Nat × Instr × Nat × Nat) := [(0, .aload_n 0, 1, 0), (1, .getfield 13, 4, 0), (4, .bipush (Int.ofNat 18), 6, 0), (6, .bipush (Int.ofNat 13), 8, 0), (8, .iload_n 1, 9, 0), (9, .imul, 10, 0), (10, .iadd, 11, 0), (11, .iload_n 2, 12, 0), (12, .iadd, 13, 0), (13, .iload_n 3, 14, 0), (14, .iastore, 15, 0), (15, .return_, 16, 0)]
def tc_202 : List (Nat × Instr × Nat × Nat) := [(0, .aload_n 0, 1, 0), (1, .iload_n 1, 2, 0), (2, .iconst (Int.ofNat 0), 3, 0), (3, .invokevirtual 121, 6, 0), (6, .iconst (Int.ofNat 1), 7, 0), (7, .if_icmp .ne 7, 10, 14), (10, .iconst (Int.ofNat 1), 11, 0), (11, .goto 4, 14, 15), (14, .iconst (Int.ofNat 0), 15, 0), (15, .ireturn, 16, 0)]
def tc_203 : List (Nat × Instr × Nat × Nat) := [(0, .aload_n 0, 1, 0), (1, .iload_n 1, 2, 0), (2, .iconst (Int.ofNat 1), 3, 0), (3, .invokevirtual 121, 6, 0), (6, .iload_n 2, 7, 0), (7, .invokestatic 124, 10, 0), (10, .ireturn, 11, 0)]
def tc_204 : List (Nat × Instr × Nat × Nat) := [(0, .aload_n 0, 1, 0), (1, .getfield 45, 4, 0), (4, .iconst (Int.ofNat 4), 5, 0), (5, .iload_n 1, 6, 0), (6, .imul, 7, 0), (7, .iaload, 8, 0), (8, .iconst (Int.ofNat 1), 9, 0), (9, .if_icmp .ne 7, 12, 16), (12, .iconst (Int.ofNat 1), 13, 0), (13, .goto 4, 16, 17), (16, .iconst (Int.ofNat 0), 17, 0), (17, .ireturn, 18, 0)]
def tc_205 : List (Nat × Instr × Nat × Nat) := [(0, .aload_n 0, 1, 0), (1, .getfield 45, 4, 0), (4, .iconst (Int.ofNat 4), 5, 0), (5, .iload_n 1, 6, 0), (6, .imul, 7, 0), (7, .iconst (Int.ofNat 1), 8, 0), (8, .iadd, 9, 0), (9, .iaload, 10, 0), (10, .ireturn, 11, 0)]
def tc_206 : List (Nat × Instr × Nat × Nat) := [(0, .iload_n 1, 1, 0), (1, .iconst (Int.ofNat 0), 2, 0), (2, .aload_n 0, 3, 0), (3, .invokevirtual 128, 6, 0), (6, .iconst (Int.ofNat 1), 7, 0), (7, .isub, 8, 0), (8, .invokestatic 132, 11, 0), (11, .ifCond .ne 7, 14, 18), (14, .iconst (Int.ofNat 1), 15, 0), (15, .goto 4, 18, 19), (18, .iconst (Int.ofNat 0), 19, 0), (19, .ireturn, 20, 0)]
def tc_207 : List (Nat × Instr × Nat × Nat) := [(0, .iload_n 1, 1, 0), (1, .iconst (Int.ofNat 0), 2, 0), (2, .aload_n 0, 3, 0), (3, .invokevirtual 136, 6, 0), (6, .iconst (Int.ofNat 1), 7, 0), (7, .isub, 8, 0), (8, .invokestatic 132, 11, 0), (11, .ifCond .ne 7, 14, 18), (14, .iconst (Int.ofNat 1), 15, 0), (15, .goto 4, 18, 19), (18, .iconst (Int.ofNat 0), 19, 0), (19, .ireturn, 20, 0)]
def tc_208 : List (Nat × Instr × Nat × Nat) := [(0, .iload_n 0, 1, 0), (1, .iconst (Int.ofNat 0), 2, 0), (2, .bipush (Int.ofNat 63), 4, 0), (4, .invokestatic 132, 7, 0), (7, .ifCond .ne 7, 10, 14), (10, .iconst (Int.ofNat 1), 11, 0), (11, .goto 4, 14, 15), (14, .iconst (Int.ofNat 0), 15, 0), (15, .ireturn, 16, 0)]
def tc_209 : List (Nat × Instr × Nat × Nat) := [(0, .iload_n 0, 1, 0), (1, .iconst (Int.ofNat 0), 2, 0), (2, .bipush (Int.ofNat 7), 4, 0), (4, .invokestatic 132, 7, 0), (7, .ifCond .ne 7, 10, 14), (10, .iconst (Int.ofNat 1), 11, 0), (11, .goto 4, 14, 15), (14, .iconst (Int.ofNat 0), 15, 0), (15, .ireturn, 16, 0)]
def tc_210 : List (Nat × Instr × Nat × Nat) := [(0, .aload_n 0, 1, 0), (1, .iload_n 1, 2, 0), (2, .bipush (Int.ofNat 7), 4, 0), (4, .aload_n 0, 5, 0), (5, .iload_n 1, 6, 0), (6, .bipush (Int.ofNat 6), 8, 0), (8, .invokevirtual 121, 11, 0), (11, .iload_n 2, 12, 0), (12, .iadd, 13, 0), (13, .aload_n 0, 14, 0), (14, .iload_n 1, 15, 0), (15, .iconst (Int.ofNat 5), 16, 0), (16, .invokevirtual 121, 19, 0), (19, .irem, 20, 0), (20, .iadd, 21, 0), (21, .invokevirtual 121, 24, 0), (24, .ireturn, 25, 0)]
def tc_211 : List (Nat × Instr × Nat × Nat) := [(0, .aload_n 0, 1, 0), (1, .getfield 13, 4, 0), (4, .bipush (Int.ofNat 9), 6, 0), (6, .ldc 138, 8, 0), (8, .aload_n 0, 9, 0), (9, .getfield 13, 12, 0), (12, .bipush (Int.ofNat 9), 14, 0), (14, .iaload, 15, 0), (15, .imul, 16, 0), (16, .sipush (Int.ofNat 12345), 19, 0), (19, .iadd, 20, 0), (20, .iastore, 21, 0), (21, .aload_n 0, 22, 0), (22, .getfield 13, 25, 0), (25, .bipush (Int.ofNat 9), 27, 0), (27, .iaload, 28, 0), (28, .bipush (Int.ofNat 16), 30, 0), (30, .ishr, 31, 0), (31, .sipush (Int.ofNat 32767), 34, 0), (34, .iand, 35, 0), (35, .iload_n 1, 36, 0), (36, .irem, 37, 0), (37, .ireturn, 38, 0)]
def tc_212 : List (Nat × Instr × Nat × Nat) := [(0, .aload_n 0, 1, 0), (1, .iconst (Int.ofNat 0), 2, 0), (2, .putfield 3, 5, 0), (5, .aload_n 0, 6, 0), (6, .getfield 139, 9, 0), (9, .bipush (Int.ofNat 20), 11, 0), (11, .iadd, 12, 0), (12, .sipush (Int.ofNat 400), 15, 0), (15, .if_icmp .le 5, 18, 20), (18, .iconst (Int.negSucc 0), 19, 0), (19, .ireturn, 20, 0), (20, .aload_n 0, 21, 0), (21, .getfield 64, 24, 0), (24, .iconst (Int.ofNat 0), 25, 0), (25, .iload_n 1, 26, 0), (26, .iastore, 27, 0), (27, .aload_n 0, 28, 0), (28, .getfield 64, 31, 0), (31, .iconst (Int.ofNat 1), 32, 0), (32, .iload_n 2, 33, 0), (33, .iastore, 34, 0), (34, .aload_n 0, 35, 0), (35, .getfield 64, 38, 0), (38, .iconst (Int.ofNat 2), 39, 0), (39, .iload_n 3, 40, 0), (40, .iastore, 41, 0), (41, .aload_n 0, 42, 0), (42, .getfield 64, 45, 0), (45, .iconst (Int.ofNat 3), 46, 0), (46, .iload 4, 48, 0), (48, .iastore, 49, 0), (49, .aload_n 0, 50, 0), (50, .getfield 64, 53, 0), (53, .iconst (Int.ofNat 4), 54, 0), (54, .iload 5, 56, 0), (56, .iastore, 57, 0), (57, .iconst (Int.ofNat 0), 58, 0), (58, .istore 6, 60, 0), (60, .iload 6, 62, 0), (62, .bipush (Int.ofNat 20), 64, 0), (64, .if_icmp .ge 42, 67, 106), (67, .aload_n 0, 68, 0), (68, .getfield 57, 71, 0), (71, .aload_n 0, 72, 0), (72, .getfield 139, 75, 0), (75, .iload 6, 77, 0), (77, .iadd, 78, 0), (78, .aload_n 0, 79, 0), (79, .getfield 64, 82, 0), (82, .iload 6, 84, 0), (84, .iconst (Int.ofNat 4), 85, 0), (85, .idiv, 86, 0), (86, .iaload, 87, 0), (87, .bipush (Int.ofNat 24), 89, 0), (89, .bipush (Int.ofNat 8), 91, 0), (91, .iload 6, 93, 0), (93, .iconst (Int.ofNat 4), 94, 0), (94, .irem, 95, 0), (95, .imul, 96, 0), (96, .isub, 97, 0), (97, .ishr, 98, 0), (98, .i2b, 99, 0), (99, .bastore, 100, 0), (100, .iinc 6 1, 103, 0), (103, .goto (-43), 106, 60), (106, .aload_n 0, 107, 0), (107, .dup, 108, 0), (108, .getfield 139, 111, 0), (111, .bipush (Int.ofNat 20), 113, 0), (113, .iadd, 114, 0), (114, .putfield 139, 117, 0), (117, .aload_n 0, 118, 0), (118, .getfield 139, 121, 0), (121, .ireturn, 122, 0)]
def tc_213 : List (Nat × Instr × Nat × Nat) := [(0, .aload_n 0, 1, 0), (1, .iconst (Int.ofNat 0), 2, 0), (2, .putfield 3, 5, 0), (5, .iload_n 1, 6, 0), (6, .ifCond .lt 11, 9, 17), (9, .iload_n 1, 10, 0), (10, .aload_n 0, 11, 0), (11, .getfield 139, 14, 0), (14, .if_icmp .le 5, 17, 19), (17, .iconst (Int.ofNat 0), 18, 0), (18, .ireturn, 19, 0), (19, .aload_n 0, 20, 0), (20, .iload_n 1, 21, 0), (21, .putfield 139, 24, 0), (24, .iconst (Int.ofNat 1), 25, 0), (25, .ireturn, 26, 0)]
def tc_214 : List (Nat × Instr × Nat × Nat) := [(0, .aload_n 0, 1, 0), (1, .getfield 142, 4, 0), (4, .aload_n 0, 5, 0), (5, .getfield 145, 8, 0), (8, .if_icmp .ge 33, 11, 41), (11, .aload_n 0, 12, 0), (12, .getfield 57, 15, 0), (15, .aload_n 0, 16, 0), (16, .getfield 142, 19, 0), (19, .baload, 20, 0), (20, .iload_n 1, 21, 0), (21, .if_icmp .lt 20, 24, 41), (24, .aload_n 0, 25, 0), (25, .getfield 57, 28, 0), (28, .aload_n 0, 29, 0), (29, .getfield 142, 32, 0), (32, .baload, 33, 0), (33, .iload_n 2, 34, 0), (34, .if_icmp .gt 7, 37, 41), (37, .iconst (Int.ofNat 1), 38, 0), (38, .goto 4, 41, 42), (41, .iconst (Int.ofNat 0), 42, 0), (42, .ireturn, 43, 0)]
def tc_215 : List (Nat × Instr × Nat × Nat) := [(0, .aload_n 0, 1, 0), (1, .bipush (Int.ofNat 32), 3, 0), (3, .bipush (Int.ofNat 32), 5, 0), (5, .invokevirtual 148, 8, 0), (8, .ifCond .eq 16, 11, 24), (11, .aload_n 0, 12, 0), (12, .dup, 13, 0), (13, .getfield 142, 16, 0), (16, .iconst (Int.ofNat 1), 17, 0), (17, .iadd, 18, 0), (18, .putfield 142, 21, 0), (21, .goto (-21), 24, 0), (24, .aload_n 0, 25, 0), (25, .aload_n 0, 26, 0), (26, .getfield 142, 29, 0), (29, .putfield 151, 32, 0), (32, .return_, 33, 0)]
def tc_216 : List (Nat × Instr × Nat × Nat) := [(0, .aload_n 0, 1, 0), (1, .invokevirtual 154, 4, 0), (4, .aload_n 0, 5, 0), (5, .bipush (Int.ofNat 97), 7, 0), (7, .bipush (Int.ofNat 122), 9, 0), (9, .invokevirtual 148, 12, 0), (12, .ifCond .eq 16, 15, 28), (15, .aload_n 0, 16, 0), (16, .dup, 17, 0), (17, .getfield 142, 20, 0), (20, .iconst (Int.ofNat 1), 21, 0), (21, .iadd, 22, 0), (22, .putfield 142, 25, 0), (25, .goto (-21), 28, 4), (28, .return_, 29, 0)]
def tc_217 : List (Nat × Instr × Nat × Nat) := [(0, .aload_n 0, 1, 0), (1, .getfield 142, 4, 0), (4, .aload_n 0, 5, 0), (5, .getfield 151, 8, 0), (8, .isub, 9, 0), (9, .aload_n 1, 10, 0), (10, .invokevirtual 157, 13, 0), (13, .if_icmp .ne 7, 16, 20), (16, .iconst (Int.ofNat 1), 17, 0), (17, .goto 4, 20, 21), (20, .iconst (Int.ofNat 0), 21, 0), (21, .istore_n 2, 22, 0), (22, .iconst (Int.ofNat 0), 23, 0), (23, .istore_n 3, 24, 0), (24, .iload_n 2, 25, 0), (25, .ifCond .eq 42, 28, 67), (28, .iload_n 3, 29, 0), (29, .aload_n 1, 30, 0), (30, .invokevirtual 157, 33, 0), (33, .if_icmp .ge 34, 36, 67), (36, .aload_n 0, 37, 0), (37, .getfield 57, 40, 0), (40, .aload_n 0, 41, 0), (41, .getfield 151, 44, 0), (44, .iload_n 3, 45, 0), (45, .iadd, 46, 0), (46, .baload, 47, 0), (47, .aload_n 1, 48, 0), (48, .iload_n 3, 49, 0), (49, .invokevirtual 162, 52, 0), (52, .if_icmp .ne 7, 55, 59), (55, .iconst (Int.ofNat 1), 56, 0), (56, .goto 4, 59, 60), (59, .iconst (Int.ofNat 0), 60, 0), (60, .istore_n 2, 61, 0), (61, .iinc 3 1, 64, 0), (64, .goto (-40), 67, 24), (67, .iload_n 2, 68, 0), (68, .ireturn, 69, 0)]
def tc_218 : List (Nat × Instr × Nat × Nat) := [(0, .aload_n 0, 1, 0), (1, .invokevirtual 166, 4, 0), (4, .aload_n 0, 5, 0), (5, .aload_n 1, 6, 0), (6, .invokevirtual 169, 9, 0), (9, .ifCond .eq 5, 12, 14), (12, .iconst (Int.ofNat 1), 13, 0), (13, .ireturn, 14, 0), (14, .aload_n 0, 15, 0), (15, .aload_n 0, 16, 0), (16, .getfield 151, 19, 0), (19, .putfield 142, 22, 0), (22, .iconst (Int.ofNat 0), 23, 0), (23, .ireturn, 24, 0)]
def tc_219 : List (Nat × Instr × Nat × Nat) := [(0, .aload_n 0, 1, 0), (1, .invokevirtual 154, 4, 0), (4, .aload_n 0, 5, 0), (5, .iload_n 1, 6, 0), (6, .iload_n 1, 7, 0), (7, .invokevirtual 148, 10, 0), (10, .ifCond .ne 5, 13, 15), (13, .iconst (Int.ofNat 0), 14, 0), (14, .ireturn, 15, 0), (15, .aload_n 0, 16, 0), (16, .dup, 17, 0), (17, .getfield 142, 20, 0), (20, .iconst (Int.ofNat 1), 21, 0), (21, .iadd, 22, 0), (22, .putfield 142, 25, 0), (25, .iconst (Int.ofNat 1), 26, 0), (26, .ireturn, 27, 0)]
def tc_220 : List (Nat × Instr × Nat × Nat) := [(0, .aload_n 0, 1, 0), (1, .invokevirtual 154, 4, 0), (4, .iconst (Int.ofNat 0), 5, 0), (5, .istore_n 3, 6, 0), (6, .aload_n 0, 7, 0), (7, .bipush (Int.ofNat 48), 9, 0), (9, .bipush (Int.ofNat 57), 11, 0), (11, .invokevirtual 148, 14, 0), (14, .ifCond .eq 51, 17, 65), (17, .aload_n 0, 18, 0), (18, .getfield 142, 21, 0), (21, .aload_n 0, 22, 0), (22, .getfield 151, 25, 0), (25, .isub, 26, 0), (26, .iconst (Int.ofNat 3), 27, 0), (27, .if_icmp .ge 23, 30, 50), (30, .bipush (Int.ofNat 10), 32, 0), (32, .iload_n 3, 33, 0), (33, .imul, 34, 0), (34, .aload_n 0, 35, 0), (35, .getfield 57, 38, 0), (38, .aload_n 0, 39, 0), (39, .getfield 142, 42, 0), (42, .baload, 43, 0), (43, .iadd, 44, 0), (44, .bipush (Int.ofNat 48), 46, 0), (46, .isub, 47, 0), (47, .goto 4, 50, 51), (50, .iload_n 3, 51, 0), (51, .istore_n 3, 52, 0), (52, .aload_n 0, 53, 0), (53, .dup, 54, 0), (54, .getfield 142, 57, 0), (57, .iconst (Int.ofNat 1), 58, 0), (58, .iadd, 59, 0), (59, .putfield 142, 62, 0), (62, .goto (-56), 65, 6), (65, .aload_n 0, 66, 0), (66, .getfield 142, 69, 0), (69, .aload_n 0, 70, 0), (70, .getfield 151, 73, 0), (73, .if_icmp .eq 26, 76, 99), (76, .aload_n 0, 77, 0), (77, .getfield 142, 80, 0), (80, .aload_n 0, 81, 0), (81, .getfield 151, 84, 0), (84, .isub, 85, 0), (85, .iconst (Int.ofNat 3), 86, 0), (86, .if_icmp .gt 13, 89, 99), (89, .iload_n 3, 90, 0), (90, .iload_n 1, 91, 0), (91, .if_icmp .lt 8, 94, 99), (94, .iload_n 3, 95, 0), (95, .iload_n 2, 96, 0), (96, .if_icmp .le 7, 99, 103), (99, .iconst (Int.negSucc 0), 100, 0), (100, .goto 4, 103, 104), (103, .iload_n 3, 104, 0), (104, .ireturn, 105, 0)]
def tc_221 : List (Nat × Instr × Nat × Nat) := [(0, .aload_n 0, 1, 0), (1, .invokevirtual 154, 4, 0), (4, .aload_n 0, 5, 0), (5, .bipush (Int.ofNat 48), 7, 0), (7, .bipush (Int.ofNat 57), 9, 0), (9, .invokevirtual 148, 12, 0), (12, .ireturn, 13, 0)]
def tc_222 : List (Nat × Instr × Nat × Nat) := [(0, .aload_n 0, 1, 0), (1, .invokevirtual 154, 4, 0), (4, .aload_n 0, 5, 0), (5, .bipush (Int.ofNat 48), 7, 0), (7, .bipush (Int.ofNat 57), 9, 0), (9, .invokevirtual 148, 12, 0), (12, .ifCond .eq 16, 15, 28), (15, .aload_n 0, 16, 0), (16, .dup, 17, 0), (17, .getfield 142, 20, 0), (20, .iconst (Int.ofNat 1), 21, 0), (21, .iadd, 22, 0), (22, .putfield 142, 25, 0), (25, .goto (-21), 28, 4), (28, .aload_n 0, 29, 0), (29, .getfield 142, 32, 0), (32, .aload_n 0, 33, 0), (33, .getfield 151, 36, 0), (36, .isub, 37, 0), (37, .iconst (Int.ofNat 2), 38, 0), (38, .if_icmp .eq 5, 41, 43), (41, .iconst (Int.negSucc 0), 42, 0), (42, .ireturn, 43, 0), (43, .aload_n 0, 44, 0), (44, .getfield 57, 47, 0), (47, .aload_n 0, 48, 0), (48, .getfield 151, 51, 0), (51, .baload, 52, 0), (52, .bipush (Int.ofNat 48), 54, 0), (54, .isub, 55, 0), (55, .istore_n 1, 56, 0), (56, .aload_n 0, 57, 0), (57, .getfield 57, 60, 0), (60, .aload_n 0, 61, 0), (61, .getfield 151, 64, 0), (64, .iconst (Int.ofNat 1), 65, 0), (65, .iadd, 66, 0), (66, .baload, 67, 0), (67, .bipush (Int.ofNat 48), 69, 0), (69, .isub, 70, 0), (70, .istore_n 2, 71, 0), (71, .iload_n 1, 72, 0), (72, .bipush (Int.ofNat 8), 74, 0), (74, .if_icmp .ge 18, 77, 92), (77, .iload_n 2, 78, 0), (78, .bipush (Int.ofNat 8), 80, 0), (80, .if_icmp .ge 12, 83, 92), (83, .bipush (Int.ofNat 8), 85, 0), (85, .iload_n 1, 86, 0), (86, .imul, 87, 0), (87, .iload_n 2, 88, 0), (88, .iadd, 89, 0), (89, .goto 4, 92, 93), (92, .iconst (Int.negSucc 0), 93, 0), (93, .ireturn, 94, 0)]
def tc_223 : List (Nat × Instr × Nat × Nat) := [(0, .aload_n 0, 1, 0), (1, .iconst (Int.ofNat 0), 2, 0), (2, .putfield 3, 5, 0), (5, .aload_n 0, 6, 0), (6, .getfield 61, 9, 0), (9, .ireturn, 10, 0)]
def tc_224 : List (Nat × Instr × Nat × Nat) := [(0, .aload_n 0, 1, 0), (1, .iconst (Int.ofNat 0), 2, 0), (2, .putfield 3, 5, 0), (5, .aload_n 0, 6, 0), (6, .aload_n 0, 7, 0), (7, .getfield 139, 10, 0), (10, .putfield 145, 13, 0), (13, .aload_n 0, 14, 0), (14, .iconst (Int.ofNat 0), 15, 0), (15, .putfield 139, 18, 0), (18, .aload_n 0, 19, 0), (19, .iconst (Int.ofNat 0), 20, 0), (20, .putfield 142, 23, 0), (23, .return_, 24, 0)]
def tc_225 : List (Nat × Instr × Nat × Nat) := [(0, .aload_n 0, 1, 0), (1, .getfield 48, 4, 0), (4, .iconst (Int.ofNat 2), 5, 0), (5, .aload_n 0, 6, 0), (6, .getfield 173, 9, 0), (9, .imul, 10, 0), (10, .iload_n 1, 11, 0), (11, .iastore, 12, 0), (12, .aload_n 0, 13, 0), (13, .getfield 48, 16, 0), (16, .iconst (Int.ofNat 2), 17, 0), (17, .aload_n 0, 18, 0), (18, .getfield 173, 21, 0), (21, .imul, 22, 0), (22, .iconst (Int.ofNat 1), 23, 0), (23, .iadd, 24, 0), (24, .iload_n 2, 25, 0), (25, .iastore, 26, 0), (26, .aload_n 0, 27, 0), (27, .dup, 28, 0), (28, .getfield 173, 31, 0), (31, .iconst (Int.ofNat 1), 32, 0), (32, .iadd, 33, 0), (33, .putfield 173, 36, 0), (36, .return_, 37, 0)]
def tc_226 : List (Nat × Instr × Nat × Nat) := [(0, .aload_n 0, 1, 0), (1, .invokevirtual 166, 4, 0), (4, .aload_n 0, 5, 0), (5, .getfield 142, 8, 0), (8, .aload_n 0, 9, 0), (9, .getfield 151, 12, 0), (12, .if_icmp .ne 21, 15, 33), (15, .aload_n 0, 16, 0), (16, .iconst (Int.ofNat 0), 17, 0), (17, .sipush (Int.ofNat 999), 20, 0), (20, .invokevirtual 176, 23, 0), (23, .istore_n 1, 24, 0), (24, .aload_n 0, 25, 0), (25, .iconst (Int.ofNat 5), 26, 0), (26, .iload_n 1, 27, 0), (27, .invokevirtual 179, 30, 0), (30, .goto 63, 33, 93), (33, .aload_n 0, 34, 0), (34, .ldc 183, 36, 0), (36, .invokevirtual 169, 39, 0), (39, .ifCond .eq 7, 42, 46), (42, .iconst (Int.ofNat 0), 43, 0), (43, .goto 43, 46, 86), (46, .aload_n 0, 47, 0), (47, .ldc 185, 49, 0), (49, .invokevirtual 169, 52, 0), (52, .ifCond .eq 7, 55, 59), (55, .iconst (Int.ofNat 1), 56, 0), (56, .goto 30, 59, 86), (59, .aload_n 0, 60, 0), (60, .ldc 187, 62, 0), (62, .invokevirtual 169, 65, 0), (65, .ifCond .eq 7, 68, 72), (68, .iconst (Int.ofNat 2), 69, 0), (69, .goto 17, 72, 86), (72, .aload_n 0, 73, 0), (73, .ldc 189, 75, 0), (75, .invokevirtual 169, 78, 0), (78, .ifCond .eq 7, 81, 85), (81, .iconst (Int.ofNat 3), 82, 0), (82, .goto 4, 85, 86), (85, .iconst (Int.negSucc 0), 86, 0), (86, .istore_n 1, 87, 0), (87, .aload_n 0, 88, 0), (88, .iload_n 1, 89, 0), (89, .iconst (Int.ofNat 0), 90, 0), (90, .invokevirtual 179, 93, 0), (93, .iload_n 1, 94, 0), (94, .ifCond .lt 7, 97, 101), (97, .iconst (Int.ofNat 1), 98, 0), (98, .goto 4, 101, 102), (101, .iconst (Int.ofNat 0), 102, 0), (102, .ireturn, 103, 0)]
def tc_227 : List (Nat × Instr × Nat × Nat) := [(0, .aload_n 0, 1, 0), (1, .invokevirtual 191, 4, 0), (4, .ifCond .ne 5, 7, 9), (7, .iconst (Int.ofNat 0), 8, 0), (8, .ireturn, 9, 0), (9, .aload_n 0, 10, 0), (10, .bipush (Int.ofNat 43), 12, 0), (12, .invokevirtual 195, 15, 0), (15, .ifCond .eq 22, 18, 37), (18, .aload_n 0, 19, 0), (19, .invokevirtual 191, 22, 0), (22, .ifCond .ne 5, 25, 27), (25, .iconst (Int.ofNat 0), 26, 0), (26, .ireturn, 27, 0), (27, .aload_n 0, 28, 0), (28, .bipush (Int.ofNat 6), 30, 0), (30, .iconst (Int.ofNat 0), 31, 0), (31, .invokevirtual 179, 34, 0), (34, .goto (-25), 37, 9), (37, .iconst (Int.ofNat 1), 38, 0), (38, .ireturn, 39, 0)]
def tc_228_0 : List (Nat × Instr × Nat × Nat) := [(0, .aload_n 0, 1, 0), (1, .bipush (Int.ofNat 40), 3, 0), (3, .invokevirtual 195, 6, 0), (6, .ifCond .eq 50, 9, 56), (9, .aload_n 0, 10, 0), (10, .getfield 199, 13, 0), (13, .bipush (Int.ofNat 6), 15, 0), (15, .if_icmp .ne 5, 18, 20), (18, .iconst (Int.ofNat 0), 19, 0), (19, .ireturn, 20, 0), (20, .aload_n 0, 21, 0), (21, .dup, 22, 0), (22, .getfield 199, 25, 0), (25, .iconst (Int.ofNat 1), 26, 0), (26, .iadd, 27, 0), (27, .putfield 199, 30, 0), (30, .aload_n 0, 31, 0), (31, .invokevirtual 202, 34, 0), (34, .ifCond .ne 5, 37, 39), (37, .iconst (Int.ofNat 0), 38, 0), (38, .ireturn, 39, 0), (39, .aload_n 0, 40, 0), (40, .dup, 41, 0), (41, .getfield 199, 44, 0), (44, .iconst (Int.ofNat 1), 45, 0), (45, .isub, 46, 0), (46, .putfield 199, 49, 0), (49, .aload_n 0, 50, 0), (50, .bipush (Int.ofNat 41), 52, 0), (52, .invokevirtual 195, 55, 0), (55, .ireturn, 56, 0), (56, .aload_n 0, 57, 0), (57, .ldc 205, 59, 0), (59, .invokevirtual 207, 62, 0), (62, .ifCond .eq 52, 65, 114), (65, .aload_n 0, 66, 0), (66, .getfield 199, 69, 0), (69, .bipush (Int.ofNat 6), 71, 0), (71, .if_icmp .ne 5, 74, 76), (74, .iconst (Int.ofNat 0), 75, 0), (75, .ireturn, 76, 0), (76, .aload_n 0, 77, 0), (77, .dup, 78, 0), (78, .getfield 199, 81, 0), (81, .iconst (Int.ofNat 1), 82, 0), (82, .iadd, 83, 0), (83, .putfield 199, 86, 0), (86, .aload_n 0, 87, 0), (87, .invokevirtual 210, 90, 0), (90, .ifCond .ne 5, 93, 95), (93, .iconst (Int.ofNat 0), 94, 0), (94, .ireturn, 95, 0), (95, .aload_n 0, 96, 0), (96, .dup, 97, 0), (97, .getfield 199, 100, 0), (100, .iconst (Int.ofNat 1), 101, 0), (101, .isub, 102, 0), (102, .putfield 199, 105, 0), (105, .aload_n 0, 106, 0), (106, .bipush (Int.ofNat 9), 108, 0)]
def tc_228_1 : List (Nat × Instr × Nat × Nat) := [(108, .iconst (Int.ofNat 0), 109, 0), (109, .invokevirtual 179, 112, 0), (112, .iconst (Int.ofNat 1), 113, 0), (113, .ireturn, 114, 0), (114, .aload_n 0, 115, 0), (115, .ldc 213, 117, 0), (117, .invokevirtual 207, 120, 0), (120, .ifCond .eq 11, 123, 131), (123, .aload_n 0, 124, 0), (124, .iconst (Int.ofNat 4), 125, 0), (125, .iconst (Int.ofNat 0), 126, 0), (126, .invokevirtual 179, 129, 0), (129, .iconst (Int.ofNat 1), 130, 0), (130, .ireturn, 131, 0), (131, .aload_n 0, 132, 0), (132, .invokevirtual 215, 135, 0), (135, .ifCond .ne 5, 138, 140), (138, .iconst (Int.ofNat 0), 139, 0), (139, .ireturn, 140, 0), (140, .aload_n 0, 141, 0), (141, .bipush (Int.ofNat 60), 143, 0), (143, .invokevirtual 195, 146, 0), (146, .istore_n 1, 147, 0), (147, .iload_n 1, 148, 0), (148, .ifCond .ne 12, 151, 160), (151, .aload_n 0, 152, 0), (152, .bipush (Int.ofNat 62), 154, 0), (154, .invokevirtual 195, 157, 0), (157, .ifCond .eq 10, 160, 167), (160, .aload_n 0, 161, 0), (161, .invokevirtual 215, 164, 0), (164, .ifCond .ne 5, 167, 169), (167, .iconst (Int.ofNat 0), 168, 0), (168, .ireturn, 169, 0), (169, .aload_n 0, 170, 0), (170, .iload_n 1, 171, 0), (171, .ifCond .eq 8, 174, 179), (174, .bipush (Int.ofNat 7), 176, 0), (176, .goto 5, 179, 181), (179, .bipush (Int.ofNat 8), 181, 0), (181, .iconst (Int.ofNat 0), 182, 0), (182, .invokevirtual 179, 185, 0), (185, .iconst (Int.ofNat 1), 186, 0), (186, .ireturn, 187, 0)]
def tc_228 : List (Nat × Instr × Nat × Nat) := tc_228_0 ++ tc_228_1
def tc_229 : List (Nat × Instr × Nat × Nat) := [(0, .aload_n 0, 1, 0), (1, .invokevirtual 210, 4, 0), (4, .ifCond .ne 5, 7, 9), (7, .iconst (Int.ofNat 0), 8, 0), (8, .ireturn, 9, 0), (9, .aload_n 0, 10, 0), (10, .ldc 218, 12, 0), (12, .invokevirtual 207, 15, 0), (15, .ifCond .eq 22, 18, 37), (18, .aload_n 0, 19, 0), (19, .invokevirtual 210, 22, 0), (22, .ifCond .ne 5, 25, 27), (25, .iconst (Int.ofNat 0), 26, 0), (26, .ireturn, 27, 0), (27, .aload_n 0, 28, 0), (28, .bipush (Int.ofNat 10), 30, 0), (30, .iconst (Int.ofNat 0), 31, 0), (31, .invokevirtual 179, 34, 0), (34, .goto (-25), 37, 9), (37, .iconst (Int.ofNat 1), 38, 0), (38, .ireturn, 39, 0)]
def tc_230 : List (Nat × Instr × Nat × Nat) := [(0, .aload_n 0, 1, 0), (1, .invokevirtual 220, 4, 0), (4, .ifCond .ne 5, 7, 9), (7, .iconst (Int.ofNat 0), 8, 0), (8, .ireturn, 9, 0), (9, .aload_n 0, 10, 0), (10, .ldc 223, 12, 0), (12, .invokevirtual 207, 15, 0), (15, .ifCond .eq 22, 18, 37), (18, .aload_n 0, 19, 0), (19, .invokevirtual 220, 22, 0), (22, .ifCond .ne 5, 25, 27), (25, .iconst (Int.ofNat 0), 26, 0), (26, .ireturn, 27, 0), (27, .aload_n 0, 28, 0), (28, .bipush (Int.ofNat 11), 30, 0), (30, .iconst (Int.ofNat 0), 31, 0), (31, .invokevirtual 179, 34, 0), (34, .goto (-25), 37, 9), (37, .iconst (Int.ofNat 1), 38, 0), (38, .ireturn, 39, 0)]
def tc_231 : List (Nat × Instr × Nat × Nat) := [(0, .iload_n 1, 1, 0), (1, .bipush (Int.ofNat 12), 3, 0), (3, .if_icmp .ne 5, 6, 8), (6, .iconst (Int.ofNat 0), 7, 0), (7, .ireturn, 8, 0), (8, .aload_n 0, 9, 0), (9, .ldc 225, 11, 0), (11, .invokevirtual 169, 14, 0), (14, .istore_n 2, 15, 0), (15, .iload_n 2, 16, 0), (16, .ifCond .ne 14, 19, 30), (19, .aload_n 0, 20, 0), (20, .ldc 227, 22, 0), (22, .invokevirtual 169, 25, 0), (25, .ifCond .ne 5, 28, 30), (28, .iconst (Int.ofNat 0), 29, 0), (29, .ireturn, 30, 0), (30, .aload_n 0, 31, 0), (31, .getfield 45, 34, 0), (34, .iconst (Int.ofNat 4), 35, 0), (35, .iload_n 1, 36, 0), (36, .imul, 37, 0), (37, .iload_n 2, 38, 0), (38, .ifCond .eq 7, 41, 45), (41, .iconst (Int.ofNat 1), 42, 0), (42, .goto 4, 45, 46), (45, .iconst (Int.ofNat 0), 46, 0), (46, .iastore, 47, 0), (47, .aload_n 0, 48, 0), (48, .getfield 45, 51, 0), (51, .iconst (Int.ofNat 4), 52, 0), (52, .iload_n 1, 53, 0), (53, .imul, 54, 0), (54, .iconst (Int.ofNat 1), 55, 0), (55, .iadd, 56, 0), (56, .aload_n 0, 57, 0), (57, .iconst (Int.ofNat 0), 58, 0), (58, .bipush (Int.ofNat 7), 60, 0), (60, .invokevirtual 176, 63, 0), (63, .iastore, 64, 0), (64, .aload_n 0, 65, 0), (65, .getfield 45, 68, 0), (68, .iconst (Int.ofNat 4), 69, 0), (69, .iload_n 1, 70, 0), (70, .imul, 71, 0), (71, .iconst (Int.ofNat 1), 72, 0), (72, .iadd, 73, 0), (73, .iaload, 74, 0), (74, .ifCond .ge 5, 77, 79), (77, .iconst (Int.ofNat 0), 78, 0), (78, .ireturn, 79, 0), (79, .aload_n 0, 80, 0), (80, .getfield 45, 83, 0), (83, .iconst (Int.ofNat 4), 84, 0), (84, .iload_n 1, 85, 0), (85, .imul, 86, 0), (86, .iconst (Int.ofNat 2), 87, 0), (87, .iadd, 88, 0), (88, .aload_n 0, 89, 0), (89, .getfield 173, 92, 0), (92, .iastore, 93, 0), (93, .aload_n 0, 94, 0), (94, .iconst (Int.ofNat 0), 95, 0), (95, .putfield 199, 98, 0), (98, .aload_n 0, 99, 0), (99, .ldc 229, 101, 0), (101, .invokevirtual 207, 104, 0), (104, .ifCond .eq 12, 107, 116), (107, .aload_n 0, 108, 0), (108, .invokevirtual 202, 111, 0), (111, .ifCond .ne 5, 114, 116), (114, .iconst (Int.ofNat 0), 115, 0), (115, .ireturn, 116, 0), (116, .aload_n 0, 117, 0), (117, .getfield 45, 120, 0), (120, .iconst (Int.ofNat 4), 121, 0), (121, .iload_n 1, 122, 0), (122, .imul, 123, 0), (123, .iconst (Int.ofNat 3), 124, 0), (124, .iadd, 125, 0), (125, .aload_n 0, 126, 0), (126, .getfield 173, 129, 0), (129, .iastore, 130, 0), (130, .iconst (Int.ofNat 1), 131, 0), (131, .ireturn, 132, 0)]
def tc_232 : List (Nat × Instr × Nat × Nat) := [(0, .iconst (Int.ofNat 0), 1, 0), (1, .istore_n 2, 2, 0), (2, .iload_n 2, 3, 0), (3, .bipush (Int.ofNat 6), 5, 0), (5, .if_icmp .ne 7, 8, 12), (8, .iconst (Int.negSucc 0), 9, 0), (9, .goto 7, 12, 16), (12, .aload_n 0, 13, 0), (13, .invokevirtual 231, 16, 0), (16, .istore_n 3, 17, 0), (17, .iload_n 3, 18, 0), (18, .ifCond .ge 5, 21, 23), (21, .iconst (Int.ofNat 0), 22, 0), (22, .ireturn, 23, 0), (23, .aload_n 0, 24, 0), (24, .iload_n 1, 25, 0), (25, .bipush (Int.ofNat 7), 27, 0), (27, .iload_n 2, 28, 0), (28, .iadd, 29, 0), (29, .iload_n 3, 30, 0), (30, .invokevirtual 234, 33, 0), (33, .iinc 2 1, 36, 0), (36, .aload_n 0, 37, 0), (37, .invokevirtual 238, 40, 0), (40, .ifCond .ne (-38), 43, 2), (43, .aload_n 0, 44, 0), (44, .iload_n 1, 45, 0), (45, .iconst (Int.ofNat 5), 46, 0), (46, .iload_n 2, 47, 0), (47, .invokevirtual 234, 50, 0), (50, .iconst (Int.ofNat 1), 51, 0), (51, .ireturn, 52, 0)]
def tc_233 : List (Nat × Instr × Nat × Nat) := [(0, .aload_n 0, 1, 0), (1, .iconst (Int.ofNat 0), 2, 0), (2, .aload_n 0, 3, 0), (3, .invokevirtual 136, 6, 0), (6, .iconst (Int.ofNat 1), 7, 0), (7, .isub, 8, 0), (8, .invokevirtual 176, 11, 0), (11, .istore_n 2, 12, 0), (12, .iload_n 2, 13, 0), (13, .ifCond .ge 5, 16, 18), (16, .iconst (Int.ofNat 0), 17, 0), (17, .ireturn, 18, 0), (18, .aload_n 0, 19, 0), (19, .iload_n 1, 20, 0), (20, .iconst (Int.ofNat 1), 21, 0), (21, .aload_n 0, 22, 0), (22, .iload_n 1, 23, 0), (23, .iconst (Int.ofNat 1), 24, 0), (24, .invokevirtual 121, 27, 0), (27, .iconst (Int.ofNat 1), 28, 0), (28, .iload_n 2, 29, 0), (29, .ishl, 30, 0), (30, .ior, 31, 0), (31, .invokevirtual 234, 34, 0), (34, .aload_n 0, 35, 0), (35, .invokevirtual 238, 38, 0), (38, .ifCond .ne (-38), 41, 0), (41, .iconst (Int.ofNat 1), 42, 0), (42, .ireturn, 43, 0)]
def tc_234 : List (Nat × Instr × Nat × Nat) := [(0, .aload_n 0, 1, 0), (1, .invokevirtual 128, 4, 0), (4, .istore_n 1, 5, 0), (5, .iload_n 1, 6, 0), (6, .bipush (Int.ofNat 10), 8, 0), (8, .if_icmp .ne 5, 11, 13), (11, .iconst (Int.ofNat 0), 12, 0), (12, .ireturn, 13, 0), (13, .iconst (Int.ofNat 0), 14, 0), (14, .istore_n 2, 15, 0), (15, .iload_n 2, 16, 0), (16, .bipush (Int.ofNat 13), 18, 0), (18, .if_icmp .ge 16, 21, 34), (21, .aload_n 0, 22, 0), (22, .iload_n 1, 23, 0), (23, .iload_n 2, 24, 0), (24, .iconst (Int.ofNat 0), 25, 0), (25, .invokevirtual 234, 28, 0), (28, .iinc 2 1, 31, 0), (31, .goto (-16), 34, 15), (34, .aload_n 0, 35, 0), (35, .getfield 29, 38, 0), (38, .iload_n 1, 39, 0), (39, .lconst 0, 40, 0), (40, .lastore, 41, 0), (41, .aload_n 0, 42, 0), (42, .iload_n 1, 43, 0), (43, .iconst (Int.ofNat 0), 44, 0), (44, .iconst (Int.ofNat 1), 45, 0), (45, .invokevirtual 234, 48, 0), (48, .aload_n 0, 49, 0), (49, .iload_n 1, 50, 0), (50, .iconst (Int.ofNat 4), 51, 0), (51, .iconst (Int.negSucc 0), 52, 0), (52, .invokevirtual 234, 55, 0), (55, .aload_n 0, 56, 0), (56, .invokevirtual 166, 59, 0), (59, .aload_n 0, 60, 0), (60, .ldc 241, 62, 0), (62, .invokevirtual 169, 65, 0), (65, .ifCond .ne 5, 68, 70), (68, .iconst (Int.ofNat 0), 69, 0), (69, .ireturn, 70, 0), (70, .aload_n 0, 71, 0), (71, .iload_n 1, 72, 0), (72, .iconst (Int.ofNat 2), 73, 0), (73, .aload_n 0, 74, 0), (74, .iconst (Int.ofNat 0), 75, 0), (75, .bipush (Int.ofNat 100), 77, 0), (77, .invokevirtual 176, 80, 0), (80, .invokevirtual 234, 83, 0), (83, .aload_n 0, 84, 0), (84, .iload_n 1, 85, 0), (85, .iconst (Int.ofNat 2), 86, 0), (86, .invokevirtual 121, 89, 0), (89, .ifCond .ge 5, 92, 94), (92, .iconst (Int.ofNat 0), 93, 0), (93, .ireturn, 94, 0), (94, .aload_n 0, 95, 0), (95, .invokevirtual 166, 98, 0), (98, .aload_n 0, 99, 0), (99, .ldc 243, 101, 0), (101, .invokevirtual 169, 104, 0), (104, .ifCond .eq 11, 107, 115), (107, .aload_n 0, 108, 0), (108, .iload_n 1, 109, 0), (109, .invokevirtual 245, 112, 0), (112, .ifCond .ne 5, 115, 117), (115, .iconst (Int.ofNat 0), 116, 0), (116, .ireturn, 117, 0), (117, .aload_n 0, 118, 0), (118, .ldc 248, 120, 0), (120, .invokevirtual 207, 123, 0), (123, .ifCond .eq 13, 126, 136), (126, .aload_n 0, 127, 0), (127, .iload_n 1, 128, 0), (128, .invokevirtual 250, 131, 0), (131, .ifCond .ne 5, 134, 136), (134, .iconst (Int.ofNat 0), 135, 0), (135, .ireturn, 136, 0), (136, .aload_n 0, 137, 0), (137, .getfield 13, 140, 0), (140, .iconst (Int.ofNat 0), 141, 0), (141, .dup2, 142, 0), (142, .iaload, 143, 0), (143, .iconst (Int.ofNat 1), 144, 0), (144, .iadd, 145, 0), (145, .iastore, 146, 0), (146, .iconst (Int.ofNat 1), 147, 0), (147, .ireturn, 148, 0)]
def tc_235 : List (Nat × Instr × Nat × Nat) := [(0, .aload_n 0, 1, 0), (1, .iconst (Int.ofNat 0), 2, 0), (2, .aload_n 0, 3, 0), (3, .invokevirtual 128, 6, 0), (6, .iconst (Int.ofNat 1), 7, 0), (7, .isub, 8, 0), (8, .invokevirtual 176, 11, 0), (11, .istore_n 1, 12, 0), (12, .iload_n 1, 13, 0), (13, .ifCond .lt 11, 16, 24), (16, .aload_n 0, 17, 0), (17, .iload_n 1, 18, 0), (18, .invokevirtual 253, 21, 0), (21, .ifCond .ne 7, 24, 28), (24, .iconst (Int.negSucc 0), 25, 0), (25, .goto 4, 28, 29), (28, .iload_n 1, 29, 0), (29, .ireturn, 30, 0)]
def tc_236 : List (Nat × Instr × Nat × Nat) := [(0, .iload_n 1, 1, 0), (1, .ifCond .lt 16, 4, 17), (4, .aload_n 0, 5, 0), (5, .iload_n 1, 6, 0), (6, .iconst (Int.ofNat 4), 7, 0), (7, .invokevirtual 121, 10, 0), (10, .ifCond .ge 7, 13, 17), (13, .iconst (Int.ofNat 1), 14, 0), (14, .goto 4, 17, 18), (17, .iconst (Int.ofNat 0), 18, 0), (18, .ireturn, 19, 0)]
def tc_237 : List (Nat × Instr × Nat × Nat) := [(0, .aload_n 0, 1, 0), (1, .iload_n 1, 2, 0), (2, .iconst (Int.ofNat 1), 3, 0), (3, .invokevirtual 121, 6, 0), (6, .aload_n 0, 7, 0), (7, .iload_n 2, 8, 0), (8, .iconst (Int.ofNat 1), 9, 0), (9, .invokevirtual 121, 12, 0), (12, .ior, 13, 0), (13, .istore_n 3, 14, 0), (14, .aload_n 0, 15, 0), (15, .iload_n 1, 16, 0), (16, .iconst (Int.ofNat 4), 17, 0), (17, .iload_n 2, 18, 0), (18, .invokevirtual 234, 21, 0), (21, .aload_n 0, 22, 0), (22, .iload_n 2, 23, 0), (23, .iconst (Int.ofNat 4), 24, 0), (24, .iload_n 1, 25, 0), (25, .invokevirtual 234, 28, 0), (28, .aload_n 0, 29, 0), (29, .iload_n 1, 30, 0), (30, .iconst (Int.ofNat 1), 31, 0), (31, .iload_n 3, 32, 0), (32, .invokevirtual 234, 35, 0), (35, .aload_n 0, 36, 0), (36, .iload_n 2, 37, 0), (37, .iconst (Int.ofNat 1), 38, 0), (38, .iload_n 3, 39, 0), (39, .invokevirtual 234, 42, 0), (42, .return_, 43, 0)]
def tc_238 : List (Nat × Instr × Nat × Nat) := [(0, .aload_n 0, 1, 0), (1, .invokevirtual 256, 4, 0), (4, .istore_n 1, 5, 0), (5, .aload_n 0, 6, 0), (6, .iload_n 1, 7, 0), (7, .invokevirtual 259, 10, 0), (10, .ifCond .ne 5, 13, 15), (13, .iconst (Int.ofNat 0), 14, 0), (14, .ireturn, 15, 0), (15, .aload_n 0, 16, 0), (16, .invokevirtual 256, 19, 0), (19, .istore_n 2, 20, 0), (20, .aload_n 0, 21, 0), (21, .iload_n 2, 22, 0), (22, .invokevirtual 259, 25, 0), (25, .ifCond .eq 8, 28, 33), (28, .iload_n 1, 29, 0), (29, .iload_n 2, 30, 0), (30, .if_icmp .ne 5, 33, 35), (33, .iconst (Int.ofNat 0), 34, 0), (34, .ireturn, 35, 0), (35, .aload_n 0, 36, 0), (36, .iload_n 1, 37, 0), (37, .iload_n 2, 38, 0), (38, .invokevirtual 262, 41, 0), (41, .iconst (Int.ofNat 1), 42, 0), (42, .ireturn, 43, 0)]
def tc_239 : List (Nat × Instr × Nat × Nat) := [(0, .aload_n 0, 1, 0), (1, .invokevirtual 256, 4, 0), (4, .istore_n 1, 5, 0), (5, .iload_n 1, 6, 0), (6, .ifCond .ge 7, 9, 13), (9, .iconst (Int.negSucc 0), 10, 0), (10, .goto 7, 13, 17), (13, .aload_n 0, 14, 0), (14, .invokevirtual 231, 17, 0), (17, .istore_n 2, 18, 0), (18, .iload_n 2, 19, 0), (19, .ifCond .lt 15, 22, 34), (22, .aload_n 0, 23, 0), (23, .getfield 29, 26, 0), (26, .iload_n 1, 27, 0), (27, .dup2, 28, 0), (28, .laload, 29, 0), (29, .lconst 1, 30, 0), (30, .iload_n 2, 31, 0), (31, .lshl, 32, 0), (32, .lor, 33, 0), (33, .lastore, 34, 0), (34, .iload_n 2, 35, 0), (35, .ifCond .lt 7, 38, 42), (38, .iconst (Int.ofNat 1), 39, 0), (39, .goto 4, 42, 43), (42, .iconst (Int.ofNat 0), 43, 0), (43, .ireturn, 44, 0)]
def tc_240 : List (Nat × Instr × Nat × Nat) := [(0, .aload_n 0, 1, 0), (1, .iload_n 2, 2, 0), (2, .iload_n 3, 3, 0), (3, .invokevirtual 176, 6, 0), (6, .istore 4, 8, 0), (8, .aload_n 0, 9, 0), (9, .getfield 13, 12, 0), (12, .iload_n 1, 13, 0), (13, .iload 4, 15, 0), (15, .iastore, 16, 0), (16, .iload 4, 18, 0), (18, .ifCond .lt 7, 21, 25), (21, .iconst (Int.ofNat 1), 22, 0), (22, .goto 4, 25, 26), (25, .iconst (Int.ofNat 0), 26, 0), (26, .ireturn, 27, 0)]
def tc_241 : List (Nat × Instr × Nat × Nat) := [(0, .iload_n 1, 1, 0), (1, .bipush (Int.ofNat 14), 3, 0), (3, .if_icmp .ne 5, 6, 8), (6, .iconst (Int.ofNat 0), 7, 0), (7, .ireturn, 8, 0), (8, .aload_n 0, 9, 0), (9, .ldc_w 265, 12, 0), (12, .invokevirtual 169, 15, 0), (15, .ifCond .eq 8, 18, 23), (18, .aload_n 0, 19, 0), (19, .invokevirtual 267, 22, 0), (22, .ireturn, 23, 0), (23, .aload_n 0, 24, 0), (24, .ldc_w 270, 27, 0), (27, .invokevirtual 169, 30, 0), (30, .ifCond .eq 13, 33, 43), (33, .aload_n 0, 34, 0), (34, .bipush (Int.ofNat 7), 36, 0), (36, .iconst (Int.ofNat 0), 37, 0), (37, .bipush (Int.ofNat 100), 39, 0), (39, .invokevirtual 272, 42, 0), (42, .ireturn, 43, 0), (43, .aload_n 0, 44, 0), (44, .ldc_w 275, 47, 0), (47, .invokevirtual 169, 50, 0), (50, .ifCond .eq 13, 53, 63), (53, .aload_n 0, 54, 0), (54, .bipush (Int.ofNat 8), 56, 0), (56, .iconst (Int.ofNat 1), 57, 0), (57, .bipush (Int.ofNat 30), 59, 0), (59, .invokevirtual 272, 62, 0), (62, .ireturn, 63, 0), (63, .aload_n 0, 64, 0), (64, .ldc_w 277, 67, 0), (67, .invokevirtual 169, 70, 0), (70, .ifCond .eq 8, 73, 78), (73, .aload_n 0, 74, 0), (74, .invokevirtual 279, 77, 0), (77, .ireturn, 78, 0), (78, .aload_n 0, 79, 0), (79, .ldc_w 282, 82, 0), (82, .invokevirtual 169, 85, 0), (85, .ifCond .eq 8, 88, 93), (88, .aload_n 0, 89, 0), (89, .invokevirtual 283, 92, 0), (92, .ireturn, 93, 0), (93, .aload_n 0, 94, 0), (94, .ldc_w 286, 97, 0), (97, .invokevirtual 169, 100, 0), (100, .ifCond .ne 5, 103, 105), (103, .iconst (Int.ofNat 0), 104, 0), (104, .ireturn, 105, 0), (105, .aload_n 0, 106, 0), (106, .iconst (Int.ofNat 0), 107, 0), (107, .bipush (Int.ofNat 7), 109, 0), (109, .invokevirtual 176, 112, 0), (112, .istore_n 2, 113, 0), (113, .iload_n 2, 114, 0), (114, .ifCond .lt 21, 117, 135), (117, .aload_n 0, 118, 0), (118, .bipush (Int.ofNat 10), 120, 0), (120, .iload_n 2, 121, 0), (121, .iadd, 122, 0), (122, .iconst (Int.ofNat 0), 123, 0), (123, .bipush (Int.ofNat 99), 125, 0), (125, .invokevirtual 272, 128, 0), (128, .ifCond .eq 7, 131, 135), (131, .iconst (Int.ofNat 1), 132, 0), (132, .goto 4, 135, 136), (135, .iconst (Int.ofNat 0), 136, 0), (136, .ireturn, 137, 0)]
def tc_242 : List (Nat × Instr × Nat × Nat) := [(0, .aload_n 0, 1, 0), (1, .invokevirtual 166, 4, 0), (4, .iload_n 1, 5, 0), (5, .ifCond .eq 11, 8, 16), (8, .aload_n 0, 9, 0), (9, .iload_n 2, 10, 0), (10, .invokevirtual 288, 13, 0), (13, .goto 8, 16, 21), (16, .aload_n 0, 17, 0), (17, .iload_n 2, 18, 0), (18, .invokevirtual 291, 21, 0), (21, .ireturn, 22, 0)]
def tc_243 : List (Nat × Instr × Nat × Nat) := [(0, .aload_n 0, 1, 0), (1, .invokevirtual 294, 4, 0), (4, .aload_n 0, 5, 0), (5, .iconst (Int.ofNat 0), 6, 0), (6, .putfield 173, 9, 0), (9, .aload_n 0, 10, 0), (10, .invokevirtual 154, 13, 0), (13, .aload_n 0, 14, 0), (14, .getfield 142, 17, 0), (17, .aload_n 0, 18, 0), (18, .getfield 145, 21, 0), (21, .if_icmp .ne 5, 24, 26), (24, .iconst (Int.ofNat 0), 25, 0), (25, .ireturn, 26, 0), (26, .iconst (Int.ofNat 0), 27, 0), (27, .istore_n 2, 28, 0), (28, .aload_n 0, 29, 0), (29, .iload_n 1, 30, 0), (30, .iload_n 2, 31, 0), (31, .invokevirtual 297, 34, 0), (34, .ifCond .ne 5, 37, 39), (37, .iconst (Int.negSucc 0), 38, 0), (38, .ireturn, 39, 0), (39, .aload_n 0, 40, 0), (40, .invokevirtual 154, 43, 0), (43, .aload_n 0, 44, 0), (44, .getfield 142, 47, 0), (47, .aload_n 0, 48, 0), (48, .getfield 145, 51, 0), (51, .if_icmp .ne 7, 54, 58), (54, .iload_n 2, 55, 0), (55, .iconst (Int.ofNat 1), 56, 0), (56, .iadd, 57, 0), (57, .ireturn, 58, 0), (58, .aload_n 0, 59, 0), (59, .bipush (Int.ofNat 59), 61, 0), (61, .bipush (Int.ofNat 59), 63, 0), (63, .invokevirtual 148, 66, 0), (66, .ifCond .ne 5, 69, 71), (69, .iconst (Int.negSucc 0), 70, 0), (70, .ireturn, 71, 0), (71, .aload_n 0, 72, 0), (72, .dup, 73, 0), (73, .getfield 142, 76, 0), (76, .iconst (Int.ofNat 1), 77, 0), (77, .iadd, 78, 0), (78, .putfield 142, 81, 0), (81, .iinc 2 1, 84, 0), (84, .goto (-56), 87, 28)]
def tc_244_0 : List (Nat × Instr × Nat × Nat) := [(0, .iconst (Int.ofNat 0), 1, 0), (1, .istore_n 1, 2, 0), (2, .iload_n 1, 3, 0), (3, .aload_n 0, 4, 0), (4, .getfield 67, 7, 0), (7, .arraylength, 8, 0), (8, .if_icmp .ge 21, 11, 29), (11, .aload_n 0, 12, 0), (12, .getfield 67, 15, 0), (15, .iload_n 1, 16, 0), (16, .aload_n 0, 17, 0), (17, .getfield 45, 20, 0), (20, .iload_n 1, 21, 0), (21, .iaload, 22, 0), (22, .iastore, 23, 0), (23, .iinc 1 1, 26, 0), (26, .goto (-24), 29, 2), (29, .iconst (Int.ofNat 0), 30, 0), (30, .istore_n 1, 31, 0), (31, .iload_n 1, 32, 0), (32, .aload_n 0, 33, 0), (33, .getfield 70, 36, 0), (36, .arraylength, 37, 0), (37, .if_icmp .ge 21, 40, 58), (40, .aload_n 0, 41, 0), (41, .getfield 70, 44, 0), (44, .iload_n 1, 45, 0), (45, .aload_n 0, 46, 0), (46, .getfield 48, 49, 0), (49, .iload_n 1, 50, 0), (50, .iaload, 51, 0), (51, .iastore, 52, 0), (52, .iinc 1 1, 55, 0), (55, .goto (-24), 58, 31), (58, .aload_n 0, 59, 0), (59, .iconst (Int.ofNat 1), 60, 0), (60, .invokevirtual 301, 63, 0), (63, .istore_n 1, 64, 0), (64, .aload_n 0, 65, 0), (65, .iload_n 1, 66, 0), (66, .ifCond .ge 10, 69, 76), (69, .aload_n 0, 70, 0), (70, .getfield 151, 73, 0), (73, .goto 4, 76, 77), (76, .iconst (Int.negSucc 0), 77, 0), (77, .putfield 61, 80, 0), (80, .aload_n 0, 81, 0), (81, .iload_n 1, 82, 0), (82, .ifCond .ge 7, 85, 89), (85, .iconst (Int.ofNat 1), 86, 0), (86, .goto 4, 89, 90), (89, .iconst (Int.ofNat 0), 90, 0), (90, .iconst (Int.ofNat 1), 91, 0), (91, .invokevirtual 305, 94, 0), (94, .ifCond .ne 30, 97, 124), (97, .aload_n 0, 98, 0), (98, .aload_n 0, 99, 0), (99, .getfield 51, 102, 0), (102, .ifCond .ge 10, 105, 112), (105, .aload_n 0, 106, 0)]
def tc_244_1 : List (Nat × Instr × Nat × Nat) := [(106, .invokevirtual 128, 109, 0), (109, .ifCond .le 7, 112, 116), (112, .iconst (Int.ofNat 1), 113, 0), (113, .goto 4, 116, 117), (116, .iconst (Int.ofNat 0), 117, 0), (117, .iconst (Int.ofNat 2), 118, 0), (118, .invokevirtual 305, 121, 0), (121, .ifCond .eq 63, 124, 184), (124, .iconst (Int.ofNat 0), 125, 0), (125, .istore_n 2, 126, 0), (126, .iload_n 2, 127, 0), (127, .aload_n 0, 128, 0), (128, .getfield 67, 131, 0), (131, .arraylength, 132, 0), (132, .if_icmp .ge 21, 135, 153), (135, .aload_n 0, 136, 0), (136, .getfield 45, 139, 0), (139, .iload_n 2, 140, 0), (140, .aload_n 0, 141, 0), (141, .getfield 67, 144, 0), (144, .iload_n 2, 145, 0), (145, .iaload, 146, 0), (146, .iastore, 147, 0), (147, .iinc 2 1, 150, 0), (150, .goto (-24), 153, 126), (153, .iconst (Int.ofNat 0), 154, 0), (154, .istore_n 2, 155, 0), (155, .iload_n 2, 156, 0), (156, .aload_n 0, 157, 0), (157, .getfield 70, 160, 0), (160, .arraylength, 161, 0), (161, .if_icmp .ge 21, 164, 182), (164, .aload_n 0, 165, 0), (165, .getfield 48, 168, 0), (168, .iload_n 2, 169, 0), (169, .aload_n 0, 170, 0), (170, .getfield 70, 173, 0), (173, .iload_n 2, 174, 0), (174, .iaload, 175, 0), (175, .iastore, 176, 0), (176, .iinc 2 1, 179, 0), (179, .goto (-24), 182, 155), (182, .iconst (Int.ofNat 0), 183, 0), (183, .ireturn, 184, 0), (184, .aload_n 0, 185, 0), (185, .iload_n 1, 186, 0), (186, .putfield 51, 189, 0), (189, .aload_n 0, 190, 0), (190, .iconst (Int.ofNat 0), 191, 0), (191, .putfield 109, 194, 0), (194, .iload_n 1, 195, 0), (195, .ireturn, 196, 0)]
def tc_244 : List (Nat × Instr × Nat × Nat) := tc_244_0 ++ tc_244_1
def tc_245 : List (Nat × Instr × Nat × Nat) := [(0, .aload_n 0, 1, 0), (1, .getfield 13, 4, 0), (4, .iconst (Int.ofNat 0), 5, 0), (5, .aload_n 0, 6, 0), (6, .getfield 20, 9, 0), (9, .iconst (Int.ofNat 0), 10, 0), (10, .invokestatic 97, 13, 0), (13, .aload_n 0, 14, 0), (14, .getfield 29, 17, 0), (17, .iconst (Int.ofNat 0), 18, 0), (18, .aload_n 0, 19, 0), (19, .getfield 36, 22, 0), (22, .iconst (Int.ofNat 0), 23, 0), (23, .invokestatic 101, 26, 0), (26, .aload_n 0, 27, 0), (27, .iconst (Int.ofNat 0), 28, 0), (28, .invokevirtual 301, 31, 0), (31, .istore_n 1, 32, 0), (32, .aload_n 0, 33, 0), (33, .iload_n 1, 34, 0), (34, .ifCond .ge 10, 37, 44), (37, .aload_n 0, 38, 0), (38, .getfield 151, 41, 0), (41, .goto 4, 44, 45), (44, .iconst (Int.negSucc 0), 45, 0), (45, .putfield 61, 48, 0), (48, .aload_n 0, 49, 0), (49, .iload_n 1, 50, 0), (50, .ifCond .ge 7, 53, 57), (53, .iconst (Int.ofNat 1), 54, 0), (54, .goto 4, 57, 58), (57, .iconst (Int.ofNat 0), 58, 0), (58, .iconst (Int.ofNat 1), 59, 0), (59, .invokevirtual 305, 62, 0), (62, .ifCond .ne 27, 65, 89), (65, .aload_n 0, 66, 0), (66, .aload_n 0, 67, 0), (67, .getfield 13, 70, 0), (70, .iconst (Int.ofNat 1), 71, 0), (71, .iaload, 72, 0), (72, .bipush (Int.ofNat 12), 74, 0), (74, .if_icmp .ne 7, 77, 81), (77, .iconst (Int.ofNat 1), 78, 0), (78, .goto 4, 81, 82), (81, .iconst (Int.ofNat 0), 82, 0), (82, .iconst (Int.ofNat 2), 83, 0), (83, .invokevirtual 305, 86, 0), (86, .ifCond .eq 31, 89, 117), (89, .aload_n 0, 90, 0), (90, .getfield 20, 93, 0), (93, .iconst (Int.ofNat 0), 94, 0), (94, .aload_n 0, 95, 0), (95, .getfield 13, 98, 0), (98, .iconst (Int.ofNat 0), 99, 0), (99, .invokestatic 97, 102, 0), (102, .aload_n 0, 103, 0), (103, .getfield 36, 106, 0), (106, .iconst (Int.ofNat 0), 107, 0), (107, .aload_n 0, 108, 0), (108, .getfield 29, 111, 0), (111, .iconst (Int.ofNat 0), 112, 0), (112, .invokestatic 101, 115, 0), (115, .iconst (Int.ofNat 0), 116, 0), (116, .ireturn, 117, 0), (117, .aload_n 0, 118, 0), (118, .getfield 13, 121, 0), (121, .iconst (Int.ofNat 1), 122, 0), (122, .dup2, 123, 0), (123, .iaload, 124, 0), (124, .iconst (Int.ofNat 1), 125, 0), (125, .iadd, 126, 0), (126, .iastore, 127, 0), (127, .aload_n 0, 128, 0), (128, .iconst (Int.ofNat 0), 129, 0), (129, .putfield 109, 132, 0), (132, .aload_n 0, 133, 0), (133, .getfield 13, 136, 0), (136, .iconst (Int.ofNat 1), 137, 0), (137, .iaload, 138, 0), (138, .ireturn, 139, 0)]
def tc_246 : List (Nat × Instr × Nat × Nat) := [(0, .iload_n 1, 1, 0), (1, .tableswitch 68 0 4 #[35, 37, 40, 43, 54], 36, 0), (36, .iload_n 3, 37, 0), (37, .ireturn, 38, 0), (38, .iload 5, 40, 0), (40, .ireturn, 41, 0), (41, .iload 4, 43, 0), (43, .ireturn, 44, 0), (44, .aload_n 0, 45, 0), (45, .iload 4, 47, 0), (47, .iconst (Int.ofNat 1), 48, 0), (48, .invokevirtual 121, 51, 0), (51, .invokestatic 308, 54, 0), (54, .ireturn, 55, 0), (55, .iload 5, 57, 0), (57, .bipush (Int.ofNat 7), 59, 0), (59, .irem, 60, 0), (60, .ifCond .ne 7, 63, 67), (63, .iconst (Int.ofNat 1), 64, 0), (64, .goto 4, 67, 68), (67, .iconst (Int.ofNat 0), 68, 0), (68, .ireturn, 69, 0), (69, .iload_n 2, 70, 0), (70, .ireturn, 71, 0)]
def tc_247_0 : List (Nat × Instr × Nat × Nat) := [(0, .aload_n 0, 1, 0), (1, .iload_n 1, 2, 0), (2, .invokevirtual 314, 5, 0), (5, .iload_n 2, 6, 0), (6, .bipush (Int.ofNat 8), 8, 0), (8, .idiv, 9, 0), (9, .if_icmp .eq 5, 12, 14), (12, .iconst (Int.ofNat 0), 13, 0), (13, .ireturn, 14, 0), (14, .iconst (Int.ofNat 0), 15, 0), (15, .istore 5, 17, 0), (17, .aload_n 0, 18, 0), (18, .getfield 45, 21, 0), (21, .iconst (Int.ofNat 4), 22, 0), (22, .iload_n 1, 23, 0), (23, .imul, 24, 0), (24, .iconst (Int.ofNat 2), 25, 0), (25, .iadd, 26, 0), (26, .iaload, 27, 0), (27, .istore 6, 29, 0), (29, .iload 6, 31, 0), (31, .aload_n 0, 32, 0), (32, .getfield 45, 35, 0), (35, .iconst (Int.ofNat 4), 36, 0), (36, .iload_n 1, 37, 0), (37, .imul, 38, 0), (38, .iconst (Int.ofNat 3), 39, 0), (39, .iadd, 40, 0), (40, .iaload, 41, 0), (41, .if_icmp .ge 233, 44, 274), (44, .aload_n 0, 45, 0), (45, .getfield 48, 48, 0), (48, .iconst (Int.ofNat 2), 49, 0), (49, .iload 6, 51, 0), (51, .imul, 52, 0), (52, .iaload, 53, 0), (53, .istore 7, 55, 0), (55, .iload 7, 57, 0), (57, .iconst (Int.ofNat 5), 58, 0), (58, .if_icmp .gt 40, 61, 98), (61, .aload_n 0, 62, 0), (62, .getfield 73, 65, 0), (65, .iload 5, 67, 0), (67, .aload_n 0, 68, 0), (68, .iload 7, 70, 0), (70, .aload_n 0, 71, 0), (71, .getfield 48, 74, 0), (74, .iconst (Int.ofNat 2), 75, 0), (75, .iload 6, 77, 0), (77, .imul, 78, 0), (78, .iconst (Int.ofNat 1), 79, 0), (79, .iadd, 80, 0), (80, .iaload, 81, 0), (81, .iload_n 2, 82, 0), (82, .bipush (Int.ofNat 8), 84, 0), (84, .irem, 85, 0), (85, .iload_n 3, 86, 0), (86, .iload 4, 88, 0), (88, .invokevirtual 317, 91, 0), (91, .iastore, 92, 0)]
def tc_247_1 : List (Nat × Instr × Nat × Nat) := [(92, .iinc 5 1, 95, 0), (95, .goto 173, 98, 268), (98, .iload 7, 100, 0), (100, .bipush (Int.ofNat 9), 102, 0), (102, .if_icmp .ne 26, 105, 128), (105, .aload_n 0, 106, 0), (106, .getfield 73, 109, 0), (109, .iload 5, 111, 0), (111, .iconst (Int.ofNat 1), 112, 0), (112, .isub, 113, 0), (113, .iconst (Int.ofNat 1), 114, 0), (114, .aload_n 0, 115, 0), (115, .getfield 73, 118, 0), (118, .iload 5, 120, 0), (120, .iconst (Int.ofNat 1), 121, 0), (121, .isub, 122, 0), (122, .iaload, 123, 0), (123, .isub, 124, 0), (124, .iastore, 125, 0), (125, .goto 143, 128, 268), (128, .iinc 5 (-1), 131, 0), (131, .aload_n 0, 132, 0), (132, .getfield 73, 135, 0), (135, .iload 5, 137, 0), (137, .iconst (Int.ofNat 1), 138, 0), (138, .isub, 139, 0), (139, .iaload, 140, 0), (140, .istore 8, 142, 0), (142, .aload_n 0, 143, 0), (143, .getfield 73, 146, 0), (146, .iload 5, 148, 0), (148, .iaload, 149, 0), (149, .istore 9, 151, 0), (151, .iload 7, 153, 0), (153, .bipush (Int.ofNat 7), 155, 0), (155, .if_icmp .ne 18, 158, 173), (158, .iload 8, 160, 0), (160, .iload 9, 162, 0), (162, .if_icmp .ge 7, 165, 169), (165, .iconst (Int.ofNat 1), 166, 0), (166, .goto 66, 169, 232), (169, .iconst (Int.ofNat 0), 170, 0), (170, .goto 62, 173, 232), (173, .iload 7, 175, 0), (175, .bipush (Int.ofNat 8), 177, 0), (177, .if_icmp .ne 18, 180, 195), (180, .iload 8, 182, 0), (182, .iload 9, 184, 0), (184, .if_icmp .le 7, 187, 191), (187, .iconst (Int.ofNat 1), 188, 0), (188, .goto 44, 191, 232), (191, .iconst (Int.ofNat 0), 192, 0), (192, .goto 40, 195, 232), (195, .iload 7, 197, 0), (197, .bipush (Int.ofNat 10), 199, 0), (199, .if_icmp .ne 20, 202, 219), (202, .iload 8, 204, 0), (204, .iload 9, 206, 0), (206, .iadd, 207, 0), (207, .iconst (Int.ofNat 2), 208, 0)]
def tc_247_2 : List (Nat × Instr × Nat × Nat) := [(208, .if_icmp .ne 7, 211, 215), (211, .iconst (Int.ofNat 1), 212, 0), (212, .goto 20, 215, 232), (215, .iconst (Int.ofNat 0), 216, 0), (216, .goto 16, 219, 232), (219, .iload 8, 221, 0), (221, .iload 9, 223, 0), (223, .iadd, 224, 0), (224, .ifCond .le 7, 227, 231), (227, .iconst (Int.ofNat 1), 228, 0), (228, .goto 4, 231, 232), (231, .iconst (Int.ofNat 0), 232, 0), (232, .istore 10, 234, 0), (234, .aload_n 0, 235, 0), (235, .getfield 73, 238, 0), (238, .iload 5, 240, 0), (240, .iconst (Int.ofNat 1), 241, 0), (241, .isub, 242, 0), (242, .iload 7, 244, 0), (244, .bipush (Int.ofNat 6), 246, 0), (246, .if_icmp .ne 11, 249, 257), (249, .iload 8, 251, 0), (251, .iload 9, 253, 0), (253, .iadd, 254, 0), (254, .goto 13, 257, 267), (257, .iload 10, 259, 0), (259, .ifCond .eq 7, 262, 266), (262, .iconst (Int.ofNat 1), 263, 0), (263, .goto 4, 266, 267), (266, .iconst (Int.ofNat 0), 267, 0), (267, .iastore, 268, 0), (268, .iinc 6 1, 271, 0), (271, .goto (-242), 274, 29), (274, .iload 5, 276, 0), (276, .ifCond .eq 13, 279, 289), (279, .aload_n 0, 280, 0), (280, .getfield 73, 283, 0), (283, .iconst (Int.ofNat 0), 284, 0), (284, .iaload, 285, 0), (285, .iconst (Int.ofNat 1), 286, 0), (286, .if_icmp .ne 7, 289, 293), (289, .iconst (Int.ofNat 1), 290, 0), (290, .goto 4, 293, 294), (293, .iconst (Int.ofNat 0), 294, 0), (294, .ireturn, 295, 0)]
def tc_247 : List (Nat × Instr × Nat × Nat) := tc_247_0 ++ (tc_247_1 ++ tc_247_2)
def tc_248 : List (Nat × Instr × Nat × Nat) := [(0, .iconst (Int.ofNat 0), 1, 0), (1, .istore_n 1, 2, 0), (2, .iconst (Int.ofNat 0), 3, 0), (3, .istore_n 2, 4, 0), (4, .iload_n 2, 5, 0), (5, .aload_n 0, 6, 0), (6, .invokevirtual 128, 9, 0), (9, .if_icmp .ge 30, 12, 39), (12, .iload_n 1, 13, 0), (13, .aload_n 0, 14, 0), (14, .iload_n 2, 15, 0), (15, .invokevirtual 253, 18, 0), (18, .ifCond .eq 12, 21, 30), (21, .aload_n 0, 22, 0), (22, .iload_n 2, 23, 0), (23, .iconst (Int.ofNat 1), 24, 0), (24, .invokevirtual 121, 27, 0), (27, .goto 4, 30, 31), (30, .iconst (Int.ofNat 0), 31, 0), (31, .ior, 32, 0), (32, .istore_n 1, 33, 0), (33, .iinc 2 1, 36, 0), (36, .goto (-32), 39, 4), (39, .iload_n 1, 40, 0), (40, .ireturn, 41, 0)]
def tc_249 : List (Nat × Instr × Nat × Nat) := [(0, .iconst (Int.ofNat 0), 1, 0), (1, .istore 6, 3, 0), (3, .iconst (Int.ofNat 0), 4, 0), (4, .istore 7, 6, 0), (6, .iload 7, 8, 0), (8, .aload_n 0, 9, 0), (9, .invokevirtual 136, 12, 0), (12, .if_icmp .ge 55, 15, 67), (15, .iload 6, 17, 0), (17, .iload_n 1, 18, 0), (18, .iload 7, 20, 0), (20, .invokestatic 124, 23, 0), (23, .ifCond .eq 34, 26, 57), (26, .aload_n 0, 27, 0), (27, .iload 7, 29, 0), (29, .invokevirtual 321, 32, 0), (32, .iload_n 2, 33, 0), (33, .if_icmp .ne 24, 36, 57), (36, .aload_n 0, 37, 0), (37, .iload 7, 39, 0), (39, .iload_n 3, 40, 0), (40, .iload 4, 42, 0), (42, .iload 5, 44, 0), (44, .invokevirtual 324, 47, 0), (47, .ifCond .eq 10, 50, 57), (50, .iconst (Int.ofNat 1), 51, 0), (51, .iload 7, 53, 0), (53, .ishl, 54, 0), (54, .goto 4, 57, 58), (57, .iconst (Int.ofNat 0), 58, 0), (58, .ior, 59, 0), (59, .istore 6, 61, 0), (61, .iinc 7 1, 64, 0), (64, .goto (-58), 67, 6), (67, .iload 6, 69, 0), (69, .ireturn, 70, 0)]
def tc_250 : List (Nat × Instr × Nat × Nat) := [(0, .aload_n 0, 1, 0), (1, .iload_n 1, 2, 0), (2, .iconst (Int.ofNat 0), 3, 0), (3, .iload_n 2, 4, 0), (4, .iload_n 3, 5, 0), (5, .iload 4, 7, 0), (7, .invokevirtual 328, 10, 0), (10, .ireturn, 11, 0)]
def tc_251 : List (Nat × Instr × Nat × Nat) := [(0, .aload_n 0, 1, 0), (1, .iload_n 1, 2, 0), (2, .iload_n 2, 3, 0), (3, .iload_n 3, 4, 0), (4, .aload_n 0, 5, 0), (5, .getfield 13, 8, 0), (8, .iconst (Int.ofNat 2), 9, 0), (9, .iaload, 10, 0), (10, .invokevirtual 332, 13, 0), (13, .ireturn, 14, 0)]
def tc_252 : List (Nat × Instr × Nat × Nat) := [(0, .iconst (Int.ofNat 0), 1, 0), (1, .istore_n 2, 2, 0), (2, .iconst (Int.ofNat 0), 3, 0), (3, .istore_n 3, 4, 0), (4, .iload_n 3, 5, 0), (5, .aload_n 0, 6, 0), (6, .invokevirtual 128, 9, 0), (9, .if_icmp .ge 36, 12, 45), (12, .iload_n 2, 13, 0), (13, .aload_n 0, 14, 0), (14, .iload_n 3, 15, 0), (15, .invokevirtual 253, 18, 0), (18, .ifCond .eq 18, 21, 36), (21, .aload_n 0, 22, 0), (22, .iload_n 3, 23, 0), (23, .iload_n 1, 24, 0), (24, .invokevirtual 336, 27, 0), (27, .ifCond .eq 9, 30, 36), (30, .iconst (Int.ofNat 1), 31, 0), (31, .iload_n 3, 32, 0), (32, .ishl, 33, 0), (33, .goto 4, 36, 37), (36, .iconst (Int.ofNat 0), 37, 0), (37, .ior, 38, 0), (38, .istore_n 2, 39, 0), (39, .iinc 3 1, 42, 0), (42, .goto (-38), 45, 4), (45, .iload_n 2, 46, 0), (46, .ireturn, 47, 0)]
def tc_253 : List (Nat × Instr × Nat × Nat) := [(0, .iconst (Int.ofNat 0), 1, 0), (1, .istore_n 1, 2, 0), (2, .iconst (Int.ofNat 0), 3, 0), (3, .istore_n 2, 4, 0), (4, .iload_n 2, 5, 0), (5, .aload_n 0, 6, 0), (6, .invokevirtual 128, 9, 0), (9, .if_icmp .ge 27, 12, 36), (12, .iload_n 1, 13, 0), (13, .aload_n 0, 14, 0), (14, .iload_n 2, 15, 0), (15, .invokevirtual 253, 18, 0), (18, .ifCond .eq 9, 21, 27), (21, .iconst (Int.ofNat 1), 22, 0), (22, .iload_n 2, 23, 0), (23, .ishl, 24, 0), (24, .goto 4, 27, 28), (27, .iconst (Int.ofNat 0), 28, 0), (28, .ior, 29, 0), (29, .istore_n 1, 30, 0), (30, .iinc 2 1, 33, 0), (33, .goto (-29), 36, 4), (36, .iload_n 1, 37, 0), (37, .ireturn, 38, 0)]
def tc_254 : List (Nat × Instr × Nat × Nat) := [(0, .iconst (Int.ofNat 0), 1, 0), (1, .istore_n 3, 2, 0), (2, .iconst (Int.ofNat 0), 3, 0), (3, .istore 4, 5, 0), (5, .iload 4, 7, 0), (7, .bipush (Int.ofNat 8), 9, 0), (9, .if_icmp .ge 125, 12, 134), (12, .iload_n 3, 13, 0), (13, .ifCond .ne 121, 16, 134), (16, .aload_n 0, 17, 0), (17, .iload_n 1, 18, 0), (18, .invokevirtual 321, 21, 0), (21, .aload_n 0, 22, 0), (22, .iload_n 2, 23, 0), (23, .invokevirtual 321, 26, 0), (26, .if_icmp .eq 108, 29, 134), (29, .aload_n 0, 30, 0), (30, .iload_n 1, 31, 0), (31, .invokevirtual 314, 34, 0), (34, .aload_n 0, 35, 0), (35, .iload_n 2, 36, 0), (36, .invokevirtual 314, 39, 0), (39, .if_icmp .ne 95, 42, 134), (42, .iconst (Int.ofNat 0), 43, 0), (43, .istore 5, 45, 0), (45, .iload 5, 47, 0), (47, .aload_n 0, 48, 0), (48, .invokevirtual 128, 51, 0), (51, .if_icmp .ge 77, 54, 128), (54, .bipush (Int.ofNat 8), 56, 0), (56, .aload_n 0, 57, 0), (57, .iload_n 1, 58, 0), (58, .invokevirtual 314, 61, 0), (61, .imul, 62, 0), (62, .iload 4, 64, 0), (64, .iadd, 65, 0), (65, .istore 6, 67, 0), (67, .iload_n 3, 68, 0), (68, .ifCond .ne 48, 71, 116), (71, .aload_n 0, 72, 0), (72, .iload 5, 74, 0), (74, .invokevirtual 253, 77, 0), (77, .ifCond .eq 43, 80, 120), (80, .aload_n 0, 81, 0), (81, .iload_n 1, 82, 0), (82, .iload 6, 84, 0), (84, .iload 5, 86, 0), (86, .aload_n 0, 87, 0), (87, .getfield 13, 90, 0), (90, .iconst (Int.ofNat 2), 91, 0), (91, .iaload, 92, 0), (92, .invokevirtual 324, 95, 0), (95, .ifCond .eq 25, 98, 120), (98, .aload_n 0, 99, 0), (99, .iload_n 2, 100, 0), (100, .iload 6, 102, 0), (102, .iload 5, 104, 0), (104, .aload_n 0, 105, 0), (105, .getfield 13, 108, 0), (108, .iconst (Int.ofNat 2), 109, 0), (109, .iaload, 110, 0), (110, .invokevirtual 324, 113, 0), (113, .ifCond .eq 7, 116, 120), (116, .iconst (Int.ofNat 1), 117, 0), (117, .goto 4, 120, 121), (120, .iconst (Int.ofNat 0), 121, 0), (121, .istore_n 3, 122, 0), (122, .iinc 5 1, 125, 0), (125, .goto (-80), 128, 45), (128, .iinc 4 1, 131, 0), (131, .goto (-126), 134, 5), (134, .iload_n 3, 135, 0), (135, .ireturn, 136, 0)]
def tc_255 : List (Nat × Instr × Nat × Nat) := [(0, .iconst (Int.ofNat 0), 1, 0), (1, .istore_n 2, 2, 0), (2, .iconst (Int.ofNat 0), 3, 0), (3, .istore_n 3, 4, 0), (4, .iload_n 3, 5, 0), (5, .aload_n 0, 6, 0), (6, .invokevirtual 136, 9, 0), (9, .if_icmp .ge 28, 12, 37), (12, .iload_n 2, 13, 0), (13, .aload_n 0, 14, 0), (14, .iload_n 1, 15, 0), (15, .iload_n 3, 16, 0), (16, .invokevirtual 338, 19, 0), (19, .ifCond .eq 9, 22, 28), (22, .iconst (Int.ofNat 1), 23, 0), (23, .iload_n 3, 24, 0), (24, .ishl, 25, 0), (25, .goto 4, 28, 29), (28, .iconst (Int.ofNat 0), 29, 0), (29, .ior, 30, 0), (30, .istore_n 2, 31, 0), (31, .iinc 3 1, 34, 0), (34, .goto (-30), 37, 4), (37, .iload_n 2, 38, 0), (38, .ireturn, 39, 0)]
def tc_256 : List (Nat × Instr × Nat × Nat) := [(0, .aload_n 0, 1, 0), (1, .iconst (Int.ofNat 0), 2, 0), (2, .putfield 3, 5, 0), (5, .aload_n 0, 6, 0), (6, .aload_n 0, 7, 0), (7, .iload_n 1, 8, 0), (8, .invokevirtual 341, 11, 0), (11, .iconst (Int.ofNat 1), 12, 0), (12, .invokevirtual 305, 15, 0), (15, .ifCond .ne 25, 18, 40), (18, .aload_n 0, 19, 0), (19, .iload_n 2, 20, 0), (20, .iconst (Int.ofNat 0), 21, 0), (21, .iconst (Int.ofNat 4), 22, 0), (22, .invokestatic 132, 25, 0), (25, .ifCond .ne 7, 28, 32), (28, .iconst (Int.ofNat 1), 29, 0), (29, .goto 4, 32, 33), (32, .iconst (Int.ofNat 0), 33, 0), (33, .iconst (Int.ofNat 2), 34, 0), (34, .invokevirtual 305, 37, 0), (37, .ifCond .eq 5, 40, 42), (40, .iconst (Int.ofNat 0), 41, 0), (41, .ireturn, 42, 0), (42, .iload_n 2, 43, 0), (43, .tableswitch 64 0 3 #[29, 43, 49, 58], 72, 0), (72, .aload_n 0, 73, 0), (73, .iload_n 1, 74, 0), (74, .invokevirtual 321, 77, 0), (77, .ifCond .eq 7, 80, 84), (80, .iconst (Int.ofNat 1), 81, 0), (81, .goto 4, 84, 85), (84, .iconst (Int.ofNat 0), 85, 0), (85, .ireturn, 86, 0), (86, .aload_n 0, 87, 0), (87, .iload_n 1, 88, 0), (88, .invokevirtual 314, 91, 0), (91, .ireturn, 92, 0), (92, .aload_n 0, 93, 0), (93, .invokevirtual 344, 96, 0), (96, .iload_n 1, 97, 0), (97, .ishr, 98, 0), (98, .iconst (Int.ofNat 1), 99, 0), (99, .iand, 100, 0), (100, .ireturn, 101, 0), (101, .aload_n 0, 102, 0), (102, .iload_n 1, 103, 0), (103, .invokevirtual 347, 106, 0), (106, .ireturn, 107, 0), (107, .aload_n 0, 108, 0), (108, .iload_n 1, 109, 0), (109, .invokevirtual 350, 112, 0), (112, .ireturn, 113, 0)]
def tc_257 : List (Nat × Instr × Nat × Nat) := [(0, .aload_n 0, 1, 0), (1, .iload_n 1, 2, 0), (2, .iconst (Int.ofNat 1), 3, 0), (3, .invokevirtual 121, 6, 0), (6, .aload_n 0, 7, 0), (7, .iload_n 1, 8, 0), (8, .iconst (Int.ofNat 4), 9, 0), (9, .invokevirtual 121, 12, 0), (12, .ifCond .ge 7, 15, 19), (15, .iconst (Int.ofNat 0), 16, 0), (16, .goto 14, 19, 30), (19, .aload_n 0, 20, 0), (20, .aload_n 0, 21, 0), (21, .iload_n 1, 22, 0), (22, .iconst (Int.ofNat 4), 23, 0), (23, .invokevirtual 121, 26, 0), (26, .iconst (Int.ofNat 1), 27, 0), (27, .invokevirtual 121, 30, 0), (30, .ior, 31, 0), (31, .ireturn, 32, 0)]
def tc_258 : List (Nat × Instr × Nat × Nat) := [(0, .aload_n 0, 1, 0), (1, .iconst (Int.ofNat 0), 2, 0), (2, .putfield 3, 5, 0), (5, .aload_n 0, 6, 0), (6, .aload_n 0, 7, 0), (7, .iload_n 1, 8, 0), (8, .invokevirtual 353, 11, 0), (11, .iconst (Int.ofNat 1), 12, 0), (12, .invokevirtual 305, 15, 0), (15, .ifCond .ne 26, 18, 41), (18, .aload_n 0, 19, 0), (19, .iload_n 2, 20, 0), (20, .iconst (Int.ofNat 0), 21, 0), (21, .bipush (Int.ofNat 8), 23, 0), (23, .invokestatic 132, 26, 0), (26, .ifCond .ne 7, 29, 33), (29, .iconst (Int.ofNat 1), 30, 0), (30, .goto 4, 33, 34), (33, .iconst (Int.ofNat 0), 34, 0), (34, .iconst (Int.ofNat 2), 35, 0), (35, .invokevirtual 305, 38, 0), (38, .ifCond .eq 5, 41, 43), (41, .iconst (Int.ofNat 0), 42, 0), (42, .ireturn, 43, 0), (43, .iload_n 2, 44, 0), (44, .tableswitch 51 6 8 #[28, 35, 41], 72, 0), (72, .aload_n 0, 73, 0), (73, .iload_n 1, 74, 0), (74, .iconst (Int.ofNat 0), 75, 0), (75, .invokevirtual 356, 78, 0), (78, .ireturn, 79, 0), (79, .aload_n 0, 80, 0), (80, .iload_n 1, 81, 0), (81, .invokevirtual 359, 84, 0), (84, .ireturn, 85, 0), (85, .aload_n 0, 86, 0), (86, .getfield 29, 89, 0), (89, .iload_n 1, 90, 0), (90, .laload, 91, 0), (91, .invokestatic 362, 94, 0), (94, .ireturn, 95, 0), (95, .aload_n 0, 96, 0), (96, .iload_n 1, 97, 0), (97, .iload_n 2, 98, 0), (98, .invokevirtual 121, 101, 0), (101, .ireturn, 102, 0)]
def tc_259 : List (Nat × Instr × Nat × Nat) := [(0, .aload_n 0, 1, 0), (1, .iconst (Int.ofNat 0), 2, 0), (2, .putfield 3, 5, 0), (5, .aload_n 0, 6, 0), (6, .aload_n 0, 7, 0), (7, .iload_n 1, 8, 0), (8, .invokevirtual 353, 11, 0), (11, .iconst (Int.ofNat 1), 12, 0), (12, .invokevirtual 305, 15, 0), (15, .ifCond .eq 7, 18, 22), (18, .lconst 0, 19, 0), (19, .goto 9, 22, 28), (22, .aload_n 0, 23, 0), (23, .getfield 29, 26, 0), (26, .iload_n 1, 27, 0), (27, .laload, 28, 0), (28, .lreturn, 29, 0)]
def tc_260 : List (Nat × Instr × Nat × Nat) := [(0, .aload_n 0, 1, 0), (1, .iconst (Int.ofNat 0), 2, 0), (2, .putfield 3, 5, 0), (5, .aload_n 0, 6, 0), (6, .aload_n 0, 7, 0), (7, .iload_n 1, 8, 0), (8, .invokevirtual 353, 11, 0), (11, .iconst (Int.ofNat 1), 12, 0), (12, .invokevirtual 305, 15, 0), (15, .ifCond .eq 5, 18, 20), (18, .iconst (Int.ofNat 0), 19, 0), (19, .ireturn, 20, 0), (20, .iload_n 2, 21, 0), (21, .iconst (Int.ofNat 0), 22, 0), (22, .aload_n 0, 23, 0), (23, .iload_n 1, 24, 0), (24, .iconst (Int.ofNat 5), 25, 0), (25, .invokevirtual 121, 28, 0), (28, .iconst (Int.ofNat 1), 29, 0), (29, .isub, 30, 0), (30, .invokestatic 132, 33, 0), (33, .ifCond .eq 15, 36, 48), (36, .aload_n 0, 37, 0), (37, .iload_n 1, 38, 0), (38, .bipush (Int.ofNat 7), 40, 0), (40, .iload_n 2, 41, 0), (41, .iadd, 42, 0), (42, .invokevirtual 121, 45, 0), (45, .goto 4, 48, 49), (48, .iconst (Int.negSucc 0), 49, 0), (49, .ireturn, 50, 0)]
def tc_261 : List (Nat × Instr × Nat × Nat) := [(0, .aload_n 0, 1, 0), (1, .aload_n 0, 2, 0), (2, .iload_n 2, 3, 0), (3, .iconst (Int.ofNat 1), 4, 0), (4, .invokevirtual 121, 7, 0), (7, .iload_n 1, 8, 0), (8, .iload_n 2, 9, 0), (9, .invokevirtual 367, 12, 0), (12, .ifCond .ne 7, 15, 19), (15, .iconst (Int.ofNat 1), 16, 0), (16, .goto 4, 19, 20), (19, .iconst (Int.ofNat 0), 20, 0), (20, .ireturn, 21, 0)]
def tc_262 : List (Nat × Instr × Nat × Nat) := [(0, .aload_n 0, 1, 0), (1, .iconst (Int.ofNat 0), 2, 0), (2, .putfield 3, 5, 0), (5, .aload_n 0, 6, 0), (6, .iload_n 1, 7, 0), (7, .invokestatic 371, 10, 0), (10, .ifCond .ne 11, 13, 21), (13, .aload_n 0, 14, 0), (14, .iload_n 2, 15, 0), (15, .invokevirtual 353, 18, 0), (18, .ifCond .eq 7, 21, 25), (21, .iconst (Int.ofNat 1), 22, 0), (22, .goto 4, 25, 26), (25, .iconst (Int.ofNat 0), 26, 0), (26, .iconst (Int.ofNat 1), 27, 0), (27, .invokevirtual 305, 30, 0), (30, .ifCond .ne 46, 33, 76), (33, .aload_n 0, 34, 0), (34, .aload_n 0, 35, 0), (35, .iload_n 2, 36, 0), (36, .invokevirtual 253, 39, 0), (39, .ifCond .ne 7, 42, 46), (42, .iconst (Int.ofNat 1), 43, 0), (43, .goto 4, 46, 47), (46, .iconst (Int.ofNat 0), 47, 0), (47, .iconst (Int.ofNat 2), 48, 0), (48, .invokevirtual 305, 51, 0), (51, .ifCond .ne 25, 54, 76), (54, .aload_n 0, 55, 0), (55, .iload_n 3, 56, 0), (56, .iconst (Int.ofNat 0), 57, 0), (57, .iconst (Int.ofNat 3), 58, 0), (58, .invokestatic 132, 61, 0), (61, .ifCond .ne 7, 64, 68), (64, .iconst (Int.ofNat 1), 65, 0), (65, .goto 4, 68, 69), (68, .iconst (Int.ofNat 0), 69, 0), (69, .iconst (Int.ofNat 3), 70, 0), (70, .invokevirtual 305, 73, 0), (73, .ifCond .eq 5, 76, 78), (76, .iconst (Int.ofNat 0), 77, 0), (77, .ireturn, 78, 0), (78, .iload_n 3, 79, 0), (79, .iconst (Int.ofNat 2), 80, 0), (80, .if_icmp .ge 30, 83, 110), (83, .aload_n 0, 84, 0), (84, .aload_n 0, 85, 0), (85, .invokevirtual 344, 88, 0), (88, .iload_n 3, 89, 0), (89, .iconst (Int.ofNat 1), 90, 0), (90, .if_icmp .ne 7, 93, 97), (93, .iconst (Int.ofNat 1), 94, 0), (94, .goto 4, 97, 98), (97, .iconst (Int.ofNat 0), 98, 0), (98, .iload_n 1, 99, 0), (99, .iload_n 2, 100, 0), (100, .aload_n 0, 101, 0), (101, .getfield 13, 104, 0), (104, .iconst (Int.ofNat 2), 105, 0), (105, .iaload, 106, 0), (106, .invokevirtual 328, 109, 0), (109, .ireturn, 110, 0), (110, .aload_n 0, 111, 0), (111, .iload_n 1, 112, 0), (112, .iload_n 2, 113, 0), (113, .invokevirtual 374, 116, 0), (116, .ifCond .eq 25, 119, 141), (119, .iload_n 3, 120, 0), (120, .iconst (Int.ofNat 2), 121, 0), (121, .if_icmp .eq 16, 124, 137), (124, .aload_n 0, 125, 0), (125, .getfield 29, 128, 0), (128, .iload_n 2, 129, 0), (129, .laload, 130, 0), (130, .iload_n 1, 131, 0), (131, .invokestatic 377, 134, 0), (134, .ifCond .ne 7, 137, 141), (137, .iconst (Int.ofNat 1), 138, 0), (138, .goto 4, 141, 142), (141, .iconst (Int.ofNat 0), 142, 0), (142, .ireturn, 143, 0)]
def tc_263 : List (Nat × Instr × Nat × Nat) := [(0, .aload_n 0, 1, 0), (1, .iconst (Int.ofNat 0), 2, 0), (2, .putfield 3, 5, 0), (5, .aload_n 0, 6, 0), (6, .aload_n 0, 7, 0), (7, .iload_n 1, 8, 0), (8, .invokevirtual 353, 11, 0), (11, .ifCond .ne 11, 14, 22), (14, .aload_n 0, 15, 0), (15, .iload_n 2, 16, 0), (16, .invokevirtual 341, 19, 0), (19, .ifCond .eq 7, 22, 26), (22, .iconst (Int.ofNat 1), 23, 0), (23, .goto 4, 26, 27), (26, .iconst (Int.ofNat 0), 27, 0), (27, .iconst (Int.ofNat 1), 28, 0), (28, .invokevirtual 305, 31, 0), (31, .ifCond .ne 33, 34, 64), (34, .aload_n 0, 35, 0), (35, .aload_n 0, 36, 0), (36, .iload_n 1, 37, 0), (37, .invokevirtual 253, 40, 0), (40, .ifCond .eq 12, 43, 52), (43, .aload_n 0, 44, 0), (44, .iload_n 1, 45, 0), (45, .iload_n 2, 46, 0), (46, .invokevirtual 336, 49, 0), (49, .ifCond .eq 7, 52, 56), (52, .iconst (Int.ofNat 1), 53, 0), (53, .goto 4, 56, 57), (56, .iconst (Int.ofNat 0), 57, 0), (57, .iconst (Int.ofNat 2), 58, 0), (58, .invokevirtual 305, 61, 0), (61, .ifCond .eq 5, 64, 66), (64, .iconst (Int.ofNat 0), 65, 0), (65, .ireturn, 66, 0), (66, .aload_n 0, 67, 0), (67, .invokevirtual 381, 70, 0), (70, .aload_n 0, 71, 0), (71, .iload_n 1, 72, 0), (72, .iconst (Int.ofNat 1), 73, 0), (73, .aload_n 0, 74, 0), (74, .iload_n 1, 75, 0), (75, .iconst (Int.ofNat 1), 76, 0), (76, .invokevirtual 121, 79, 0), (79, .iconst (Int.ofNat 1), 80, 0), (80, .iload_n 2, 81, 0), (81, .ishl, 82, 0), (82, .ior, 83, 0), (83, .invokevirtual 234, 86, 0), (86, .aload_n 0, 87, 0), (87, .iload_n 1, 88, 0), (88, .iconst (Int.ofNat 1), 89, 0), (89, .invokevirtual 121, 92, 0), (92, .invokestatic 308, 95, 0), (95, .ireturn, 96, 0)]
def tc_264 : List (Nat × Instr × Nat × Nat) := [(0, .aload_n 0, 1, 0), (1, .iconst (Int.ofNat 0), 2, 0), (2, .putfield 3, 5, 0), (5, .aload_n 0, 6, 0), (6, .aload_n 0, 7, 0), (7, .iload_n 1, 8, 0), (8, .invokevirtual 353, 11, 0), (11, .iconst (Int.ofNat 1), 12, 0), (12, .invokevirtual 305, 15, 0), (15, .ifCond .ne 24, 18, 39), (18, .aload_n 0, 19, 0), (19, .aload_n 0, 20, 0), (20, .iload_n 1, 21, 0), (21, .invokevirtual 253, 24, 0), (24, .ifCond .ne 7, 27, 31), (27, .iconst (Int.ofNat 1), 28, 0), (28, .goto 4, 31, 32), (31, .iconst (Int.ofNat 0), 32, 0), (32, .iconst (Int.ofNat 2), 33, 0), (33, .invokevirtual 305, 36, 0), (36, .ifCond .eq 5, 39, 41), (39, .iconst (Int.ofNat 0), 40, 0), (40, .ireturn, 41, 0), (41, .aload_n 0, 42, 0), (42, .invokevirtual 381, 45, 0), (45, .aload_n 0, 46, 0), (46, .invokevirtual 344, 49, 0), (49, .istore_n 2, 50, 0), (50, .aload_n 0, 51, 0), (51, .iload_n 1, 52, 0), (52, .iconst (Int.ofNat 4), 53, 0), (53, .invokevirtual 121, 56, 0), (56, .istore_n 3, 57, 0), (57, .iload_n 3, 58, 0), (58, .ifCond .lt 10, 61, 68), (61, .aload_n 0, 62, 0), (62, .iload_n 3, 63, 0), (63, .iconst (Int.ofNat 4), 64, 0), (64, .iconst (Int.negSucc 0), 65, 0), (65, .invokevirtual 234, 68, 0), (68, .aload_n 0, 69, 0), (69, .iload_n 1, 70, 0), (70, .iconst (Int.ofNat 4), 71, 0), (71, .iconst (Int.negSucc 0), 72, 0), (72, .invokevirtual 234, 75, 0), (75, .aload_n 0, 76, 0), (76, .iload_n 1, 77, 0), (77, .iconst (Int.ofNat 3), 78, 0), (78, .iconst (Int.ofNat 0), 79, 0), (79, .invokevirtual 234, 82, 0), (82, .aload_n 0, 83, 0), (83, .iload_n 1, 84, 0), (84, .iconst (Int.ofNat 0), 85, 0), (85, .iconst (Int.ofNat 0), 86, 0), (86, .invokevirtual 234, 89, 0), (89, .iload_n 2, 90, 0), (90, .aload_n 0, 91, 0), (91, .invokevirtual 344, 94, 0), (94, .iconst (Int.negSucc 0), 95, 0), (95, .ixor, 96, 0), (96, .iand, 97, 0), (97, .ireturn, 98, 0)]
def tc_265 : List (Nat × Instr × Nat × Nat) := [(0, .aload_n 0, 1, 0), (1, .iconst (Int.ofNat 0), 2, 0), (2, .putfield 3, 5, 0), (5, .aload_n 0, 6, 0), (6, .aload_n 0, 7, 0), (7, .iload_n 1, 8, 0), (8, .invokevirtual 353, 11, 0), (11, .ifCond .ne 11, 14, 22), (14, .aload_n 0, 15, 0), (15, .iload_n 2, 16, 0), (16, .invokevirtual 353, 19, 0), (19, .ifCond .eq 7, 22, 26), (22, .iconst (Int.ofNat 1), 23, 0), (23, .goto 4, 26, 27), (26, .iconst (Int.ofNat 0), 27, 0), (27, .iconst (Int.ofNat 1), 28, 0), (28, .invokevirtual 305, 31, 0), (31, .ifCond .ne 21, 34, 52), (34, .aload_n 0, 35, 0), (35, .iload_n 1, 36, 0), (36, .iload_n 2, 37, 0), (37, .if_icmp .ne 7, 40, 44), (40, .iconst (Int.ofNat 1), 41, 0), (41, .goto 4, 44, 45), (44, .iconst (Int.ofNat 0), 45, 0), (45, .iconst (Int.ofNat 2), 46, 0), (46, .invokevirtual 305, 49, 0), (49, .ifCond .eq 5, 52, 54), (52, .iconst (Int.ofNat 0), 53, 0), (53, .ireturn, 54, 0), (54, .aload_n 0, 55, 0), (55, .iload_n 1, 56, 0), (56, .invokevirtual 253, 59, 0), (59, .ifCond .eq 31, 62, 90), (62, .aload_n 0, 63, 0), (63, .iload_n 2, 64, 0), (64, .invokevirtual 253, 67, 0), (67, .ifCond .eq 23, 70, 90), (70, .aload_n 0, 71, 0), (71, .iload_n 1, 72, 0), (72, .invokevirtual 259, 75, 0), (75, .ifCond .eq 15, 78, 90), (78, .aload_n 0, 79, 0), (79, .iload_n 2, 80, 0), (80, .invokevirtual 259, 83, 0), (83, .ifCond .eq 7, 86, 90), (86, .iconst (Int.ofNat 1), 87, 0), (87, .goto 4, 90, 91), (90, .iconst (Int.ofNat 0), 91, 0), (91, .istore_n 3, 92, 0), (92, .aload_n 0, 93, 0), (93, .iload_n 3, 94, 0), (94, .ifCond .ne 7, 97, 101), (97, .iconst (Int.ofNat 1), 98, 0), (98, .goto 4, 101, 102), (101, .iconst (Int.ofNat 0), 102, 0), (102, .iconst (Int.ofNat 3), 103, 0), (103, .invokevirtual 305, 106, 0), (106, .ifCond .eq 5, 109, 111), (109, .iconst (Int.ofNat 0), 110, 0), (110, .ireturn, 111, 0), (111, .aload_n 0, 112, 0), (112, .invokevirtual 381, 115, 0), (115, .aload_n 0, 116, 0), (116, .iload_n 1, 117, 0), (117, .iload_n 2, 118, 0), (118, .invokevirtual 262, 121, 0), (121, .aload_n 0, 122, 0), (122, .iload_n 1, 123, 0), (123, .iconst (Int.ofNat 1), 124, 0), (124, .invokevirtual 121, 127, 0), (127, .ireturn, 128, 0)]
def tc_266 : List (Nat × Instr × Nat × Nat) := [(0, .aload_n 0, 1, 0), (1, .iconst (Int.ofNat 0), 2, 0), (2, .putfield 3, 5, 0), (5, .aload_n 0, 6, 0), (6, .aload_n 0, 7, 0), (7, .iload_n 1, 8, 0), (8, .invokevirtual 353, 11, 0), (11, .iconst (Int.ofNat 1), 12, 0), (12, .invokevirtual 305, 15, 0), (15, .ifCond .ne 46, 18, 61), (18, .aload_n 0, 19, 0), (19, .aload_n 0, 20, 0), (20, .iload_n 1, 21, 0), (21, .invokevirtual 253, 24, 0), (24, .ifCond .ne 7, 27, 31), (27, .iconst (Int.ofNat 1), 28, 0), (28, .goto 4, 31, 32), (31, .iconst (Int.ofNat 0), 32, 0), (32, .iconst (Int.ofNat 2), 33, 0), (33, .invokevirtual 305, 36, 0), (36, .ifCond .ne 25, 39, 61), (39, .aload_n 0, 40, 0), (40, .aload_n 0, 41, 0), (41, .invokevirtual 128, 44, 0), (44, .bipush (Int.ofNat 10), 46, 0), (46, .if_icmp .ne 7, 49, 53), (49, .iconst (Int.ofNat 1), 50, 0), (50, .goto 4, 53, 54), (53, .iconst (Int.ofNat 0), 54, 0), (54, .iconst (Int.ofNat 3), 55, 0), (55, .invokevirtual 305, 58, 0), (58, .ifCond .eq 5, 61, 63), (61, .iconst (Int.ofNat 0), 62, 0), (62, .ireturn, 63, 0), (63, .aload_n 0, 64, 0), (64, .invokevirtual 381, 67, 0), (67, .aload_n 0, 68, 0), (68, .invokevirtual 128, 71, 0), (71, .istore_n 2, 72, 0), (72, .iconst (Int.ofNat 0), 73, 0), (73, .istore_n 3, 74, 0), (74, .iload_n 3, 75, 0), (75, .bipush (Int.ofNat 13), 77, 0), (77, .if_icmp .ge 21, 80, 98), (80, .aload_n 0, 81, 0), (81, .iload_n 2, 82, 0), (82, .iload_n 3, 83, 0), (83, .aload_n 0, 84, 0), (84, .iload_n 1, 85, 0), (85, .iload_n 3, 86, 0), (86, .invokevirtual 121, 89, 0), (89, .invokevirtual 234, 92, 0), (92, .iinc 3 1, 95, 0), (95, .goto (-21), 98, 74), (98, .aload_n 0, 99, 0), (99, .iload_n 2, 100, 0), (100, .iconst (Int.ofNat 1), 101, 0), (101, .iconst (Int.ofNat 0), 102, 0), (102, .invokevirtual 234, 105, 0), (105, .aload_n 0, 106, 0), (106, .iload_n 2, 107, 0), (107, .iconst (Int.ofNat 3), 108, 0), (108, .iconst (Int.ofNat 0), 109, 0), (109, .invokevirtual 234, 112, 0), (112, .aload_n 0, 113, 0), (113, .iload_n 2, 114, 0), (114, .iconst (Int.ofNat 4), 115, 0), (115, .iconst (Int.negSucc 0), 116, 0), (116, .invokevirtual 234, 119, 0), (119, .aload_n 0, 120, 0), (120, .iload_n 2, 121, 0), (121, .bipush (Int.ofNat 6), 123, 0), (123, .iconst (Int.ofNat 0), 124, 0), (124, .invokevirtual 234, 127, 0), (127, .aload_n 0, 128, 0), (128, .getfield 29, 131, 0), (131, .iload_n 2, 132, 0), (132, .lconst 0, 133, 0), (133, .lastore, 134, 0), (134, .aload_n 0, 135, 0), (135, .getfield 13, 138, 0), (138, .iconst (Int.ofNat 0), 139, 0), (139, .dup2, 140, 0), (140, .iaload, 141, 0), (141, .iconst (Int.ofNat 1), 142, 0), (142, .iadd, 143, 0), (143, .iastore, 144, 0), (144, .iload_n 2, 145, 0), (145, .ireturn, 146, 0)]
def tc_267 : List (Nat × Instr × Nat × Nat) := [(0, .aload_n 0, 1, 0), (1, .iconst (Int.ofNat 0), 2, 0), (2, .putfield 3, 5, 0), (5, .aload_n 0, 6, 0), (6, .aload_n 0, 7, 0), (7, .iload_n 1, 8, 0), (8, .invokevirtual 353, 11, 0), (11, .iconst (Int.ofNat 1), 12, 0), (12, .invokevirtual 305, 15, 0), (15, .ifCond .ne 33, 18, 48), (18, .aload_n 0, 19, 0), (19, .aload_n 0, 20, 0), (20, .iload_n 1, 21, 0), (21, .invokevirtual 253, 24, 0), (24, .ifCond .eq 12, 27, 36), (27, .aload_n 0, 28, 0), (28, .iload_n 1, 29, 0), (29, .iconst (Int.ofNat 3), 30, 0), (30, .invokevirtual 121, 33, 0), (33, .ifCond .ne 7, 36, 40), (36, .iconst (Int.ofNat 1), 37, 0), (37, .goto 4, 40, 41), (40, .iconst (Int.ofNat 0), 41, 0), (41, .iconst (Int.ofNat 2), 42, 0), (42, .invokevirtual 305, 45, 0), (45, .ifCond .eq 5, 48, 50), (48, .iconst (Int.ofNat 0), 49, 0), (49, .ireturn, 50, 0), (50, .aload_n 0, 51, 0), (51, .invokevirtual 381, 54, 0), (54, .aload_n 0, 55, 0), (55, .iload_n 1, 56, 0), (56, .iconst (Int.ofNat 3), 57, 0), (57, .invokevirtual 121, 60, 0), (60, .istore_n 2, 61, 0), (61, .aload_n 0, 62, 0), (62, .iload_n 1, 63, 0), (63, .iconst (Int.ofNat 3), 64, 0), (64, .iconst (Int.ofNat 0), 65, 0), (65, .invokevirtual 234, 68, 0), (68, .iload_n 2, 69, 0), (69, .ireturn, 70, 0)]
def tc_268 : List (Nat × Instr × Nat × Nat) := [(0, .aload_n 0, 1, 0), (1, .iload_n 2, 2, 0), (2, .iload_n 1, 3, 0), (3, .invokevirtual 374, 6, 0), (6, .ifCond .ne 5, 9, 11), (9, .iconst (Int.ofNat 1), 10, 0), (10, .ireturn, 11, 0), (11, .aload_n 0, 12, 0), (12, .getfield 29, 15, 0), (15, .iload_n 1, 16, 0), (16, .laload, 17, 0), (17, .iload_n 2, 18, 0), (18, .invokestatic 377, 21, 0), (21, .ifCond .eq 22, 24, 43), (24, .aload_n 0, 25, 0), (25, .bipush (Int.ofNat 100), 27, 0), (27, .invokevirtual 384, 30, 0), (30, .aload_n 0, 31, 0), (31, .iload_n 1, 32, 0), (32, .iconst (Int.ofNat 2), 33, 0), (33, .invokevirtual 121, 36, 0), (36, .if_icmp .ge 7, 39, 43), (39, .iconst (Int.ofNat 1), 40, 0), (40, .goto 4, 43, 44), (43, .iconst (Int.ofNat 0), 44, 0), (44, .ireturn, 45, 0)]
def tc_269 : List (Nat × Instr × Nat × Nat) := [(0, .sipush (Int.ofNat 239), 3, 0), (3, .istore 4, 5, 0), (5, .iload 4, 7, 0), (7, .iconst (Int.ofNat 4), 8, 0), (8, .if_icmp .lt 33, 11, 41), (11, .aload_n 0, 12, 0), (12, .getfield 13, 15, 0), (15, .sipush (Int.ofNat 148), 18, 0), (18, .iload 4, 20, 0), (20, .iadd, 21, 0), (21, .aload_n 0, 22, 0), (22, .getfield 13, 25, 0), (25, .sipush (Int.ofNat 148), 28, 0), (28, .iload 4, 30, 0), (30, .iadd, 31, 0), (31, .iconst (Int.ofNat 4), 32, 0), (32, .isub, 33, 0), (33, .iaload, 34, 0), (34, .iastore, 35, 0), (35, .iinc 4 (-1), 38, 0), (38, .goto (-33), 41, 5), (41, .aload_n 0, 42, 0), (42, .getfield 13, 45, 0), (45, .sipush (Int.ofNat 148), 48, 0), (48, .aload_n 0, 49, 0), (49, .getfield 13, 52, 0), (52, .iconst (Int.ofNat 2), 53, 0), (53, .iaload, 54, 0), (54, .iastore, 55, 0), (55, .aload_n 0, 56, 0), (56, .getfield 13, 59, 0), (59, .sipush (Int.ofNat 149), 62, 0), (62, .iload_n 1, 63, 0), (63, .iastore, 64, 0), (64, .aload_n 0, 65, 0), (65, .getfield 13, 68, 0), (68, .sipush (Int.ofNat 150), 71, 0), (71, .iload_n 2, 72, 0), (72, .iastore, 73, 0), (73, .aload_n 0, 74, 0), (74, .getfield 13, 77, 0), (77, .sipush (Int.ofNat 151), 80, 0), (80, .iload_n 3, 81, 0), (81, .iastore, 82, 0), (82, .aload_n 0, 83, 0), (83, .getfield 13, 86, 0), (86, .bipush (Int.ofNat 6), 88, 0), (88, .bipush (Int.ofNat 60), 90, 0), (90, .aload_n 0, 91, 0), (91, .getfield 13, 94, 0), (94, .bipush (Int.ofNat 6), 96, 0), (96, .iaload, 97, 0), (97, .iconst (Int.ofNat 1), 98, 0), (98, .iadd, 99, 0), (99, .invokestatic 112, 102, 0), (102, .iastore, 103, 0), (103, .return_, 104, 0)]
def tc_270 : List (Nat × Instr × Nat × Nat) := [(0, .aload_n 0, 1, 0), (1, .getfield 13, 4, 0), (4, .iconst (Int.ofNat 4), 5, 0), (5, .dup2, 6, 0), (6, .iaload, 7, 0), (7, .aload_n 0, 8, 0), (8, .getfield 13, 11, 0), (11, .bipush (Int.ofNat 10), 13, 0), (13, .iload_n 2, 14, 0), (14, .bipush (Int.ofNat 8), 16, 0), (16, .idiv, 17, 0), (17, .iadd, 18, 0), (18, .iaload, 19, 0), (19, .iadd, 20, 0), (20, .iastore, 21, 0), (21, .aload_n 0, 22, 0), (22, .bipush (Int.ofNat 100), 24, 0), (24, .invokevirtual 384, 27, 0), (27, .aload_n 0, 28, 0), (28, .getfield 13, 31, 0), (31, .bipush (Int.ofNat 7), 33, 0), (33, .iaload, 34, 0), (34, .if_icmp .lt 4, 37, 38), (37, .return_, 38, 0), (38, .aload_n 0, 39, 0), (39, .getfield 13, 42, 0), (42, .iconst (Int.ofNat 3), 43, 0), (43, .dup2, 44, 0), (44, .iaload, 45, 0), (45, .iconst (Int.ofNat 1), 46, 0), (46, .iadd, 47, 0), (47, .iastore, 48, 0), (48, .aload_n 0, 49, 0), (49, .iload_n 1, 50, 0), (50, .iconst (Int.ofNat 3), 51, 0), (51, .aload_n 0, 52, 0), (52, .getfield 13, 55, 0), (55, .bipush (Int.ofNat 8), 57, 0), (57, .iaload, 58, 0), (58, .invokevirtual 234, 61, 0), (61, .aload_n 0, 62, 0), (62, .iload_n 1, 63, 0), (63, .iload_n 2, 64, 0), (64, .iload_n 3, 65, 0), (65, .invokestatic 387, 68, 0), (68, .invokevirtual 390, 71, 0), (71, .iconst (Int.ofNat 0), 72, 0), (72, .istore 4, 74, 0), (74, .iload 4, 76, 0), (76, .aload_n 0, 77, 0), (77, .invokevirtual 128, 80, 0), (80, .if_icmp .ge 51, 83, 131), (83, .aload_n 0, 84, 0), (84, .getfield 393, 87, 0), (87, .iload 4, 89, 0), (89, .invokestatic 124, 92, 0), (92, .ifCond .eq 33, 95, 125), (95, .aload_n 0, 96, 0), (96, .iload 4, 98, 0), (98, .iconst (Int.ofNat 0), 99, 0), (99, .invokevirtual 356, 102, 0), (102, .bipush (Int.ofNat 8), 104, 0), (104, .irem, 105, 0), (105, .iload_n 2, 106, 0), (106, .bipush (Int.ofNat 8), 108, 0), (108, .irem, 109, 0), (109, .if_icmp .ne 16, 112, 125), (112, .aload_n 0, 113, 0), (113, .getfield 29, 116, 0), (116, .iload 4, 118, 0), (118, .dup2, 119, 0), (119, .laload, 120, 0), (120, .lconst 1, 121, 0), (121, .iload_n 2, 122, 0), (122, .lshl, 123, 0), (123, .lor, 124, 0), (124, .lastore, 125, 0), (125, .iinc 4 1, 128, 0), (128, .goto (-54), 131, 74), (131, .return_, 132, 0)]
def tc_271_0 : List (Nat × Instr × Nat × Nat) := [(0, .aload_n 0, 1, 0), (1, .iconst (Int.ofNat 0), 2, 0), (2, .putfield 393, 5, 0), (5, .aload_n 0, 6, 0), (6, .iconst (Int.ofNat 0), 7, 0), (7, .putfield 396, 10, 0), (10, .iconst (Int.ofNat 0), 11, 0), (11, .istore_n 1, 12, 0), (12, .iload_n 1, 13, 0), (13, .aload_n 0, 14, 0), (14, .invokevirtual 128, 17, 0), (17, .if_icmp .ge 80, 20, 97), (20, .aload_n 0, 21, 0), (21, .iload_n 1, 22, 0), (22, .invokevirtual 253, 25, 0), (25, .ifCond .eq 66, 28, 91), (28, .aload_n 0, 29, 0), (29, .iload_n 1, 30, 0), (30, .iconst (Int.ofNat 3), 31, 0), (31, .invokevirtual 121, 34, 0), (34, .ifCond .le 6, 37, 40), (37, .goto 54, 40, 91), (40, .aload_n 0, 41, 0), (41, .dup, 42, 0), (42, .getfield 393, 45, 0), (45, .iconst (Int.ofNat 1), 46, 0), (46, .iload_n 1, 47, 0), (47, .ishl, 48, 0), (48, .ior, 49, 0), (49, .putfield 393, 52, 0), (52, .aload_n 0, 53, 0), (53, .iload_n 1, 54, 0), (54, .aload_n 0, 55, 0), (55, .iload_n 1, 56, 0), (56, .iconst (Int.ofNat 0), 57, 0), (57, .invokevirtual 356, 60, 0), (60, .invokevirtual 399, 63, 0), (63, .ifCond .eq 16, 66, 79), (66, .aload_n 0, 67, 0), (67, .getfield 13, 70, 0), (70, .iconst (Int.ofNat 5), 71, 0), (71, .dup2, 72, 0), (72, .iaload, 73, 0), (73, .iconst (Int.ofNat 1), 74, 0), (74, .iadd, 75, 0), (75, .iastore, 76, 0), (76, .goto 15, 79, 91), (79, .aload_n 0, 80, 0), (80, .dup, 81, 0), (81, .getfield 396, 84, 0), (84, .iconst (Int.ofNat 1), 85, 0), (85, .iload_n 1, 86, 0), (86, .ishl, 87, 0), (87, .ior, 88, 0), (88, .putfield 396, 91, 0), (91, .iinc 1 1, 94, 0), (94, .goto (-82), 97, 12), (97, .aload_n 0, 98, 0), (98, .invokevirtual 344, 101, 0), (101, .istore_n 1, 102, 0)]
def tc_271_1 : List (Nat × Instr × Nat × Nat) := [(102, .iconst (Int.ofNat 0), 103, 0), (103, .istore_n 2, 104, 0), (104, .iload_n 2, 105, 0), (105, .aload_n 0, 106, 0), (106, .invokevirtual 128, 109, 0), (109, .if_icmp .ge 53, 112, 162), (112, .aload_n 0, 113, 0), (113, .getfield 396, 116, 0), (116, .iload_n 2, 117, 0), (117, .invokestatic 124, 120, 0), (120, .ifCond .eq 18, 123, 138), (123, .aload_n 0, 124, 0), (124, .iload_n 1, 125, 0), (125, .aload_n 0, 126, 0), (126, .iload_n 2, 127, 0), (127, .iconst (Int.ofNat 0), 128, 0), (128, .invokevirtual 356, 131, 0), (131, .iload_n 2, 132, 0), (132, .invokevirtual 367, 135, 0), (135, .goto 4, 138, 139), (138, .iconst (Int.ofNat 0), 139, 0), (139, .istore_n 3, 140, 0), (140, .iload_n 3, 141, 0), (141, .ifCond .eq 15, 144, 156), (144, .aload_n 0, 145, 0), (145, .iload_n 2, 146, 0), (146, .aload_n 0, 147, 0), (147, .iload_n 2, 148, 0), (148, .iconst (Int.ofNat 0), 149, 0), (149, .invokevirtual 356, 152, 0), (152, .iload_n 3, 153, 0), (153, .invokevirtual 402, 156, 0), (156, .iinc 2 1, 159, 0), (159, .goto (-55), 162, 104), (162, .iconst (Int.ofNat 0), 163, 0), (163, .istore_n 2, 164, 0), (164, .iload_n 2, 165, 0), (165, .aload_n 0, 166, 0), (166, .invokevirtual 128, 169, 0), (169, .if_icmp .ge 61, 172, 230), (172, .aload_n 0, 173, 0), (173, .getfield 393, 176, 0), (176, .iload_n 2, 177, 0), (177, .invokestatic 124, 180, 0), (180, .ifCond .ne 21, 183, 201), (183, .aload_n 0, 184, 0), (184, .iload_n 2, 185, 0), (185, .iconst (Int.ofNat 3), 186, 0), (186, .iconst (Int.ofNat 0), 187, 0), (187, .aload_n 0, 188, 0), (188, .iload_n 2, 189, 0), (189, .iconst (Int.ofNat 3), 190, 0), (190, .invokevirtual 121, 193, 0), (193, .iconst (Int.ofNat 1), 194, 0), (194, .isub, 195, 0), (195, .invokestatic 118, 198, 0), (198, .invokevirtual 234, 201, 0), (201, .aload_n 0, 202, 0), (202, .iload_n 2, 203, 0), (203, .bipush (Int.ofNat 6), 205, 0)]
def tc_271_2 : List (Nat × Instr × Nat × Nat) := [(205, .aload_n 0, 206, 0), (206, .iload_n 2, 207, 0), (207, .bipush (Int.ofNat 6), 209, 0), (209, .invokevirtual 121, 212, 0), (212, .iconst (Int.ofNat 1), 213, 0), (213, .iadd, 214, 0), (214, .aload_n 0, 215, 0), (215, .iload_n 2, 216, 0), (216, .iconst (Int.ofNat 5), 217, 0), (217, .invokevirtual 121, 220, 0), (220, .irem, 221, 0), (221, .invokevirtual 234, 224, 0), (224, .iinc 2 1, 227, 0), (227, .goto (-63), 230, 164), (230, .aload_n 0, 231, 0), (231, .getfield 13, 234, 0), (234, .iconst (Int.ofNat 2), 235, 0), (235, .dup2, 236, 0), (236, .iaload, 237, 0), (237, .iconst (Int.ofNat 1), 238, 0), (238, .iadd, 239, 0), (239, .iastore, 240, 0), (240, .return_, 241, 0)]
def tc_271 : List (Nat × Instr × Nat × Nat) := tc_271_0 ++ (tc_271_1 ++ tc_271_2)
def tc_272 : List (Nat × Instr × Nat × Nat) := [(0, .aload_n 0, 1, 0), (1, .iconst (Int.ofNat 0), 2, 0), (2, .putfield 3, 5, 0), (5, .aload_n 0, 6, 0), (6, .iload_n 1, 7, 0), (7, .iconst (Int.ofNat 1), 8, 0), (8, .bipush (Int.ofNat 50), 10, 0), (10, .invokestatic 132, 13, 0), (13, .ifCond .ne 7, 16, 20), (16, .iconst (Int.ofNat 1), 17, 0), (17, .goto 4, 20, 21), (20, .iconst (Int.ofNat 0), 21, 0), (21, .iconst (Int.ofNat 1), 22, 0), (22, .invokevirtual 305, 25, 0), (25, .ifCond .eq 5, 28, 30), (28, .iconst (Int.ofNat 0), 29, 0), (29, .ireturn, 30, 0), (30, .aload_n 0, 31, 0), (31, .invokevirtual 381, 34, 0), (34, .aload_n 0, 35, 0), (35, .getfield 13, 38, 0), (38, .iconst (Int.ofNat 3), 39, 0), (39, .iaload, 40, 0), (40, .istore_n 2, 41, 0), (41, .iconst (Int.ofNat 0), 42, 0), (42, .istore_n 3, 43, 0), (43, .iload_n 3, 44, 0), (44, .iload_n 1, 45, 0), (45, .if_icmp .ge 13, 48, 58), (48, .aload_n 0, 49, 0), (49, .invokevirtual 405, 52, 0), (52, .iinc 3 1, 55, 0), (55, .goto (-12), 58, 43), (58, .aload_n 0, 59, 0), (59, .getfield 13, 62, 0), (62, .iconst (Int.ofNat 3), 63, 0), (63, .iaload, 64, 0), (64, .iload_n 2, 65, 0), (65, .isub, 66, 0), (66, .ireturn, 67, 0)]
def tc_273 : List (Nat × Instr × Nat × Nat) := [(0, .aload_n 0, 1, 0), (1, .iconst (Int.ofNat 0), 2, 0), (2, .putfield 3, 5, 0), (5, .aload_n 0, 6, 0), (6, .invokevirtual 344, 9, 0), (9, .istore_n 1, 10, 0), (10, .aload_n 0, 11, 0), (11, .invokevirtual 408, 14, 0), (14, .ifCond .ne 7, 17, 21), (17, .iconst (Int.ofNat 0), 18, 0), (18, .goto 6, 21, 24), (21, .sipush (Int.ofNat 255), 24, 0), (24, .istore_n 2, 25, 0), (25, .iconst (Int.ofNat 0), 26, 0), (26, .istore_n 3, 27, 0), (27, .iload_n 3, 28, 0), (28, .bipush (Int.ofNat 64), 30, 0), (30, .if_icmp .ge 58, 33, 88), (33, .iconst (Int.ofNat 0), 34, 0), (34, .istore 4, 36, 0), (36, .iload 4, 38, 0), (38, .aload_n 0, 39, 0), (39, .invokevirtual 128, 42, 0), (42, .if_icmp .ge 40, 45, 82), (45, .aload_n 0, 46, 0), (46, .iload 4, 48, 0), (48, .invokevirtual 253, 51, 0), (51, .ifCond .eq 25, 54, 76), (54, .aload_n 0, 55, 0), (55, .iload_n 1, 56, 0), (56, .iload_n 3, 57, 0), (57, .iload 4, 59, 0), (59, .invokevirtual 367, 62, 0), (62, .ifCond .ne 14, 65, 76), (65, .iload_n 2, 66, 0), (66, .iconst (Int.ofNat 1), 67, 0), (67, .iload_n 3, 68, 0), (68, .bipush (Int.ofNat 8), 70, 0), (70, .idiv, 71, 0), (71, .ishl, 72, 0), (72, .iconst (Int.negSucc 0), 73, 0), (73, .ixor, 74, 0), (74, .iand, 75, 0), (75, .istore_n 2, 76, 0), (76, .iinc 4 1, 79, 0), (79, .goto (-43), 82, 36), (82, .iinc 3 1, 85, 0), (85, .goto (-58), 88, 27), (88, .iload_n 2, 89, 0), (89, .ireturn, 90, 0)]
def tc_274 : List (Nat × Instr × Nat × Nat) := [(0, .aload_n 0, 1, 0), (1, .iconst (Int.ofNat 0), 2, 0), (2, .putfield 3, 5, 0), (5, .iconst (Int.ofNat 0), 6, 0), (6, .istore_n 1, 7, 0), (7, .iload_n 1, 8, 0), (8, .aload_n 0, 9, 0), (9, .invokevirtual 136, 12, 0), (12, .if_icmp .ge 20, 15, 32), (15, .aload_n 0, 16, 0), (16, .getfield 76, 19, 0), (19, .iload_n 1, 20, 0), (20, .aload_n 0, 21, 0), (21, .iload_n 1, 22, 0), (22, .invokevirtual 350, 25, 0), (25, .iastore, 26, 0), (26, .iinc 1 1, 29, 0), (29, .goto (-22), 32, 7), (32, .iconst (Int.ofNat 1), 33, 0), (33, .aload_n 0, 34, 0), (34, .invokevirtual 136, 37, 0), (37, .ishl, 38, 0), (38, .iconst (Int.ofNat 1), 39, 0), (39, .isub, 40, 0), (40, .istore_n 1, 41, 0), (41, .iload_n 1, 42, 0), (42, .istore_n 2, 43, 0), (43, .iload_n 2, 44, 0), (44, .ifCond .lt 86, 47, 130), (47, .iload_n 2, 48, 0), (48, .invokestatic 308, 51, 0), (51, .iload_n 1, 52, 0), (52, .invokestatic 308, 55, 0), (55, .if_icmp .le 6, 58, 61), (58, .goto 66, 61, 124), (61, .iconst (Int.ofNat 1), 62, 0), (62, .istore_n 3, 63, 0), (63, .iconst (Int.ofNat 0), 64, 0), (64, .istore 4, 66, 0), (66, .iload 4, 68, 0), (68, .aload_n 0, 69, 0), (69, .invokevirtual 136, 72, 0), (72, .if_icmp .ge 42, 75, 114), (75, .iload_n 3, 76, 0), (76, .ifCond .eq 30, 79, 106), (79, .iload_n 2, 80, 0), (80, .iload 4, 82, 0), (82, .invokestatic 124, 85, 0), (85, .ifCond .ne 17, 88, 102), (88, .aload_n 0, 89, 0), (89, .getfield 76, 92, 0), (92, .iload 4, 94, 0), (94, .iaload, 95, 0), (95, .iload_n 2, 96, 0), (96, .iconst (Int.negSucc 0), 97, 0), (97, .ixor, 98, 0), (98, .iand, 99, 0), (99, .ifCond .ne 7, 102, 106), (102, .iconst (Int.ofNat 1), 103, 0), (103, .goto 4, 106, 107), (106, .iconst (Int.ofNat 0), 107, 0), (107, .istore_n 3, 108, 0), (108, .iinc 4 1, 111, 0), (111, .goto (-45), 114, 66), (114, .iload_n 3, 115, 0), (115, .ifCond .eq 7, 118, 122), (118, .iload_n 2, 119, 0), (119, .goto 4, 122, 123), (122, .iload_n 1, 123, 0), (123, .istore_n 1, 124, 0), (124, .iinc 2 (-1), 127, 0), (127, .goto (-84), 130, 43), (130, .iload_n 1, 131, 0), (131, .ireturn, 132, 0)]
def tc_275 : List (Nat × Instr × Nat × Nat) := [(0, .aload_n 0, 1, 0), (1, .invokevirtual 294, 4, 0), (4, .aload_n 0, 5, 0), (5, .getfield 145, 8, 0), (8, .iconst (Int.ofNat 3), 9, 0), (9, .irem, 10, 0), (10, .ifCond .ne 7, 13, 17), (13, .iconst (Int.ofNat 1), 14, 0), (14, .goto 4, 17, 18), (17, .iconst (Int.ofNat 0), 18, 0), (18, .istore_n 1, 19, 0), (19, .iconst (Int.ofNat 0), 20, 0), (20, .istore_n 2, 21, 0), (21, .iload_n 2, 22, 0), (22, .iconst (Int.ofNat 2), 23, 0), (23, .iadd, 24, 0), (24, .aload_n 0, 25, 0), (25, .getfield 145, 28, 0), (28, .if_icmp .ge 75, 31, 103), (31, .iload_n 1, 32, 0), (32, .ifCond .eq 71, 35, 103), (35, .aload_n 0, 36, 0), (36, .aload_n 0, 37, 0), (37, .getfield 57, 40, 0), (40, .iload_n 2, 41, 0), (41, .baload, 42, 0), (42, .invokevirtual 353, 45, 0), (45, .ifCond .ne 50, 48, 95), (48, .aload_n 0, 49, 0), (49, .aload_n 0, 50, 0), (50, .getfield 57, 53, 0), (53, .iload_n 2, 54, 0), (54, .baload, 55, 0), (55, .invokevirtual 253, 58, 0), (58, .ifCond .eq 37, 61, 95), (61, .aload_n 0, 62, 0), (62, .getfield 57, 65, 0), (65, .iload_n 2, 66, 0), (66, .iconst (Int.ofNat 1), 67, 0), (67, .iadd, 68, 0), (68, .baload, 69, 0), (69, .invokestatic 371, 72, 0), (72, .ifCond .ne 23, 75, 95), (75, .aload_n 0, 76, 0), (76, .getfield 57, 79, 0), (79, .iload_n 2, 80, 0), (80, .iconst (Int.ofNat 2), 81, 0), (81, .iadd, 82, 0), (82, .baload, 83, 0), (83, .iconst (Int.ofNat 0), 84, 0), (84, .iconst (Int.ofNat 1), 85, 0), (85, .invokestatic 132, 88, 0), (88, .ifCond .eq 7, 91, 95), (91, .iconst (Int.ofNat 1), 92, 0), (92, .goto 4, 95, 96), (95, .iconst (Int.ofNat 0), 96, 0), (96, .istore_n 1, 97, 0), (97, .iinc 2 3, 100, 0), (100, .goto (-79), 103, 21), (103, .iload_n 1, 104, 0), (104, .ireturn, 105, 0)]
def tc_276 : List (Nat × Instr × Nat × Nat) := [(0, .iconst (Int.ofNat 0), 1, 0), (1, .istore_n 1, 2, 0), (2, .iconst (Int.ofNat 0), 3, 0), (3, .istore_n 2, 4, 0), (4, .iload_n 2, 5, 0), (5, .aload_n 0, 6, 0), (6, .invokevirtual 136, 9, 0), (9, .if_icmp .ge 27, 12, 36), (12, .iload_n 1, 13, 0), (13, .aload_n 0, 14, 0), (14, .iload_n 2, 15, 0), (15, .invokevirtual 321, 18, 0), (18, .ifCond .eq 7, 21, 25), (21, .iconst (Int.ofNat 0), 22, 0), (22, .goto 6, 25, 28), (25, .iconst (Int.ofNat 1), 26, 0), (26, .iload_n 2, 27, 0), (27, .ishl, 28, 0), (28, .ior, 29, 0), (29, .istore_n 1, 30, 0), (30, .iinc 2 1, 33, 0), (33, .goto (-29), 36, 4), (36, .iload_n 1, 37, 0), (37, .ireturn, 38, 0)]
def tc_277 : List (Nat × Instr × Nat × Nat) := [(0, .iconst (Int.ofNat 0), 1, 0), (1, .istore_n 1, 2, 0), (2, .iload_n 1, 3, 0), (3, .aload_n 0, 4, 0), (4, .getfield 145, 7, 0), (7, .if_icmp .ge 37, 10, 44), (10, .aload_n 0, 11, 0), (11, .getfield 79, 14, 0), (14, .iload_n 1, 15, 0), (15, .aload_n 0, 16, 0), (16, .aload_n 0, 17, 0), (17, .invokevirtual 411, 20, 0), (20, .aload_n 0, 21, 0), (21, .getfield 57, 24, 0), (24, .iload_n 1, 25, 0), (25, .iconst (Int.ofNat 1), 26, 0), (26, .iadd, 27, 0), (27, .baload, 28, 0), (28, .aload_n 0, 29, 0), (29, .getfield 57, 32, 0), (32, .iload_n 1, 33, 0), (33, .baload, 34, 0), (34, .invokevirtual 367, 37, 0), (37, .iastore, 38, 0), (38, .iinc 1 3, 41, 0), (41, .goto (-39), 44, 2), (44, .return_, 45, 0)]
def tc_278 : List (Nat × Instr × Nat × Nat) := [(0, .iload_n 1, 1, 0), (1, .aload_n 0, 2, 0), (2, .invokevirtual 411, 5, 0), (5, .iconst (Int.negSucc 0), 6, 0), (6, .ixor, 7, 0), (7, .iand, 8, 0), (8, .ifCond .ne 7, 11, 15), (11, .iconst (Int.ofNat 1), 12, 0), (12, .goto 4, 15, 16), (15, .iconst (Int.ofNat 0), 16, 0), (16, .istore_n 2, 17, 0), (17, .iconst (Int.ofNat 0), 18, 0), (18, .istore_n 3, 19, 0), (19, .iload_n 3, 20, 0), (20, .aload_n 0, 21, 0), (21, .getfield 145, 24, 0), (24, .if_icmp .ge 55, 27, 79), (27, .iload_n 2, 28, 0), (28, .ifCond .eq 51, 31, 79), (31, .aload_n 0, 32, 0), (32, .getfield 79, 35, 0), (35, .iload_n 3, 36, 0), (36, .iaload, 37, 0), (37, .iload_n 1, 38, 0), (38, .iand, 39, 0), (39, .ifCond .eq 7, 42, 46), (42, .iconst (Int.ofNat 1), 43, 0), (43, .goto 4, 46, 47), (46, .iconst (Int.ofNat 0), 47, 0), (47, .aload_n 0, 48, 0), (48, .getfield 57, 51, 0), (51, .iload_n 3, 52, 0), (52, .iconst (Int.ofNat 2), 53, 0), (53, .iadd, 54, 0), (54, .baload, 55, 0), (55, .iconst (Int.ofNat 1), 56, 0), (56, .if_icmp .ne 7, 59, 63), (59, .iconst (Int.ofNat 1), 60, 0), (60, .goto 4, 63, 64), (63, .iconst (Int.ofNat 0), 64, 0), (64, .if_icmp .ne 7, 67, 71), (67, .iconst (Int.ofNat 1), 68, 0), (68, .goto 4, 71, 72), (71, .iconst (Int.ofNat 0), 72, 0), (72, .istore_n 2, 73, 0), (73, .iinc 3 3, 76, 0), (76, .goto (-57), 79, 19), (79, .iload_n 2, 80, 0), (80, .ireturn, 81, 0)]
def tc_279 : List (Nat × Instr × Nat × Nat) := [(0, .aload_n 0, 1, 0), (1, .invokevirtual 414, 4, 0), (4, .istore_n 2, 5, 0), (5, .aload_n 0, 6, 0), (6, .iload_n 2, 7, 0), (7, .ifCond .ne 7, 10, 14), (10, .iconst (Int.ofNat 1), 11, 0), (11, .goto 4, 14, 15), (14, .iconst (Int.ofNat 0), 15, 0), (15, .iconst (Int.ofNat 1), 16, 0), (16, .invokevirtual 305, 19, 0), (19, .ifCond .ne 25, 22, 44), (22, .aload_n 0, 23, 0), (23, .iload_n 1, 24, 0), (24, .iconst (Int.ofNat 0), 25, 0), (25, .iconst (Int.ofNat 2), 26, 0), (26, .invokestatic 132, 29, 0), (29, .ifCond .ne 7, 32, 36), (32, .iconst (Int.ofNat 1), 33, 0), (33, .goto 4, 36, 37), (36, .iconst (Int.ofNat 0), 37, 0), (37, .iconst (Int.ofNat 2), 38, 0), (38, .invokevirtual 305, 41, 0), (41, .ifCond .eq 5, 44, 46), (44, .iconst (Int.ofNat 0), 45, 0), (45, .ireturn, 46, 0), (46, .aload_n 0, 47, 0), (47, .invokevirtual 417, 50, 0), (50, .iconst (Int.ofNat 0), 51, 0), (51, .istore_n 3, 52, 0), (52, .iconst (Int.ofNat 1), 53, 0), (53, .aload_n 0, 54, 0), (54, .invokevirtual 136, 57, 0), (57, .ishl, 58, 0), (58, .iconst (Int.ofNat 1), 59, 0), (59, .isub, 60, 0), (60, .istore 4, 62, 0), (62, .iconst (Int.ofNat 0), 63, 0), (63, .istore 5, 65, 0), (65, .iconst (Int.ofNat 0), 66, 0), (66, .istore 6, 68, 0), (68, .iload 6, 70, 0), (70, .iconst (Int.ofNat 1), 71, 0), (71, .aload_n 0, 72, 0), (72, .invokevirtual 136, 75, 0), (75, .ishl, 76, 0), (76, .if_icmp .ge 38, 79, 114), (79, .aload_n 0, 80, 0), (80, .iload 6, 82, 0), (82, .invokevirtual 420, 85, 0), (85, .ifCond .ne 6, 88, 91), (88, .goto 20, 91, 108), (91, .iinc 3 1, 94, 0), (94, .iload 4, 96, 0), (96, .iload 6, 98, 0), (98, .iand, 99, 0), (99, .istore 4, 101, 0), (101, .iload 5, 103, 0), (103, .iload 6, 105, 0), (105, .ior, 106, 0), (106, .istore 5, 108, 0), (108, .iinc 6 1, 111, 0), (111, .goto (-43), 114, 68), (114, .iload_n 1, 115, 0), (115, .ifCond .eq 7, 118, 122), (118, .iload_n 3, 119, 0), (119, .ifCond .ne 7, 122, 126), (122, .iload_n 3, 123, 0), (123, .goto 15, 126, 138), (126, .iload_n 1, 127, 0), (127, .iconst (Int.ofNat 1), 128, 0), (128, .if_icmp .ne 8, 131, 136), (131, .iload 4, 133, 0), (133, .goto 5, 136, 138), (136, .iload 5, 138, 0), (138, .ireturn, 139, 0)]
def tc_280_0 : List (Nat × Instr × Nat × Nat) := [(0, .aload_n 0, 1, 0), (1, .invokevirtual 414, 4, 0), (4, .istore_n 2, 5, 0), (5, .aload_n 0, 6, 0), (6, .aload_n 0, 7, 0), (7, .iload_n 1, 8, 0), (8, .invokevirtual 353, 11, 0), (11, .iconst (Int.ofNat 1), 12, 0), (12, .invokevirtual 305, 15, 0), (15, .ifCond .ne 41, 18, 56), (18, .aload_n 0, 19, 0), (19, .iload_n 2, 20, 0), (20, .ifCond .ne 7, 23, 27), (23, .iconst (Int.ofNat 1), 24, 0), (24, .goto 4, 27, 28), (27, .iconst (Int.ofNat 0), 28, 0), (28, .iconst (Int.ofNat 2), 29, 0), (29, .invokevirtual 305, 32, 0), (32, .ifCond .ne 24, 35, 56), (35, .aload_n 0, 36, 0), (36, .aload_n 0, 37, 0), (37, .iload_n 1, 38, 0), (38, .invokevirtual 253, 41, 0), (41, .ifCond .ne 7, 44, 48), (44, .iconst (Int.ofNat 1), 45, 0), (45, .goto 4, 48, 49), (48, .iconst (Int.ofNat 0), 49, 0), (49, .iconst (Int.ofNat 3), 50, 0), (50, .invokevirtual 305, 53, 0), (53, .ifCond .eq 5, 56, 58), (56, .iconst (Int.ofNat 0), 57, 0), (57, .ireturn, 58, 0), (58, .aload_n 0, 59, 0), (59, .invokevirtual 417, 62, 0), (62, .iconst (Int.ofNat 0), 63, 0), (63, .istore_n 3, 64, 0), (64, .iload_n 3, 65, 0), (65, .bipush (Int.ofNat 64), 67, 0), (67, .if_icmp .ge 32, 70, 99), (70, .aload_n 0, 71, 0), (71, .getfield 82, 74, 0), (74, .iload_n 3, 75, 0), (75, .iconst (Int.ofNat 0), 76, 0), (76, .iastore, 77, 0), (77, .aload_n 0, 78, 0), (78, .getfield 85, 81, 0), (81, .iload_n 3, 82, 0), (82, .aload_n 0, 83, 0), (83, .aload_n 0, 84, 0), (84, .invokevirtual 411, 87, 0), (87, .iload_n 3, 88, 0), (88, .iload_n 1, 89, 0), (89, .invokevirtual 367, 92, 0), (92, .iastore, 93, 0), (93, .iinc 3 1, 96, 0), (96, .goto (-32), 99, 64), (99, .iconst (Int.ofNat 0), 100, 0), (100, .istore_n 3, 101, 0), (101, .iconst (Int.ofNat 0), 102, 0), (102, .istore 4, 104, 0)]
def tc_280_1 : List (Nat × Instr × Nat × Nat) := [(104, .iload 4, 106, 0), (106, .iconst (Int.ofNat 1), 107, 0), (107, .aload_n 0, 108, 0), (108, .invokevirtual 136, 111, 0), (111, .ishl, 112, 0), (112, .if_icmp .ge 68, 115, 180), (115, .aload_n 0, 116, 0), (116, .iload 4, 118, 0), (118, .invokevirtual 420, 121, 0), (121, .ifCond .ne 6, 124, 127), (124, .goto 50, 127, 174), (127, .iinc 3 1, 130, 0), (130, .iconst (Int.ofNat 0), 131, 0), (131, .istore 5, 133, 0), (133, .iload 5, 135, 0), (135, .bipush (Int.ofNat 64), 137, 0), (137, .if_icmp .ge 37, 140, 174), (140, .aload_n 0, 141, 0), (141, .getfield 82, 144, 0), (144, .iload 5, 146, 0), (146, .dup2, 147, 0), (147, .iaload, 148, 0), (148, .aload_n 0, 149, 0), (149, .getfield 85, 152, 0), (152, .iload 5, 154, 0), (154, .iaload, 155, 0), (155, .iload 4, 157, 0), (157, .iand, 158, 0), (158, .ifCond .eq 7, 161, 165), (161, .iconst (Int.ofNat 1), 162, 0), (162, .goto 4, 165, 166), (165, .iconst (Int.ofNat 0), 166, 0), (166, .iadd, 167, 0), (167, .iastore, 168, 0), (168, .iinc 5 1, 171, 0), (171, .goto (-38), 174, 133), (174, .iinc 4 1, 177, 0), (177, .goto (-73), 180, 104), (180, .iconst (Int.ofNat 0), 181, 0), (181, .istore 4, 183, 0), (183, .iconst (Int.ofNat 1), 184, 0), (184, .istore 5, 186, 0), (186, .iload 5, 188, 0), (188, .bipush (Int.ofNat 64), 190, 0), (190, .if_icmp .ge 59, 193, 249), (193, .aload_n 0, 194, 0), (194, .getfield 82, 197, 0), (197, .iload 5, 199, 0), (199, .iaload, 200, 0), (200, .iload_n 3, 201, 0), (201, .aload_n 0, 202, 0), (202, .getfield 82, 205, 0), (205, .iload 5, 207, 0), (207, .iaload, 208, 0), (208, .isub, 209, 0), (209, .invokestatic 118, 212, 0), (212, .aload_n 0, 213, 0), (213, .getfield 82, 216, 0), (216, .iload 4, 218, 0), (218, .iaload, 219, 0)]
def tc_280_2 : List (Nat × Instr × Nat × Nat) := [(219, .iload_n 3, 220, 0), (220, .aload_n 0, 221, 0), (221, .getfield 82, 224, 0), (224, .iload 4, 226, 0), (226, .iaload, 227, 0), (227, .isub, 228, 0), (228, .invokestatic 118, 231, 0), (231, .if_icmp .ge 8, 234, 239), (234, .iload 5, 236, 0), (236, .goto 5, 239, 241), (239, .iload 4, 241, 0), (241, .istore 4, 243, 0), (243, .iinc 5 1, 246, 0), (246, .goto (-60), 249, 186), (249, .iload_n 3, 250, 0), (250, .iconst (Int.ofNat 2), 251, 0), (251, .if_icmp .ge 7, 254, 258), (254, .iconst (Int.negSucc 0), 255, 0), (255, .goto 5, 258, 260), (258, .iload 4, 260, 0), (260, .ireturn, 261, 0)]
def tc_280 : List (Nat × Instr × Nat × Nat) := tc_280_0 ++ (tc_280_1 ++ tc_280_2)
def tc_281 : List (Nat × Instr × Nat × Nat) := [(0, .aload_n 0, 1, 0), (1, .iconst (Int.ofNat 0), 2, 0), (2, .putfield 3, 5, 0), (5, .aload_n 0, 6, 0), (6, .invokevirtual 344, 9, 0), (9, .istore_n 1, 10, 0), (10, .aload_n 0, 11, 0), (11, .invokevirtual 408, 14, 0), (14, .istore_n 2, 15, 0), (15, .iload_n 2, 16, 0), (16, .istore_n 3, 17, 0), (17, .iload_n 3, 18, 0), (18, .ifCond .lt 92, 21, 110), (21, .iload_n 3, 22, 0), (22, .aload_n 0, 23, 0), (23, .invokevirtual 408, 26, 0), (26, .iconst (Int.negSucc 0), 27, 0), (27, .ixor, 28, 0), (28, .iand, 29, 0), (29, .ifCond .ne 75, 32, 104), (32, .iload_n 3, 33, 0), (33, .invokestatic 308, 36, 0), (36, .iload_n 2, 37, 0), (37, .invokestatic 308, 40, 0), (40, .if_icmp .le 6, 43, 46), (43, .goto 61, 46, 104), (46, .iconst (Int.ofNat 0), 47, 0), (47, .istore 4, 49, 0), (49, .iconst (Int.ofNat 0), 50, 0), (50, .istore 5, 52, 0), (52, .iload 5, 54, 0), (54, .aload_n 0, 55, 0), (55, .invokevirtual 128, 58, 0), (58, .if_icmp .ge 34, 61, 92), (61, .iload 4, 63, 0), (63, .iload_n 3, 64, 0), (64, .iload 5, 66, 0), (66, .invokestatic 124, 69, 0), (69, .ifCond .eq 13, 72, 82), (72, .aload_n 0, 73, 0), (73, .iload 5, 75, 0), (75, .iconst (Int.ofNat 1), 76, 0), (76, .invokevirtual 121, 79, 0), (79, .goto 4, 82, 83), (82, .iconst (Int.ofNat 0), 83, 0), (83, .ior, 84, 0), (84, .istore 4, 86, 0), (86, .iinc 5 1, 89, 0), (89, .goto (-37), 92, 52), (92, .iload 4, 94, 0), (94, .iload_n 1, 95, 0), (95, .if_icmp .ne 7, 98, 102), (98, .iload_n 3, 99, 0), (99, .goto 4, 102, 103), (102, .iload_n 2, 103, 0), (103, .istore_n 2, 104, 0), (104, .iinc 3 (-1), 107, 0), (107, .goto (-90), 110, 17), (110, .iload_n 2, 111, 0), (111, .ireturn, 112, 0)]
def tc_282 : List (Nat × Instr × Nat × Nat) := [(0, .aload_n 0, 1, 0), (1, .iconst (Int.ofNat 0), 2, 0), (2, .putfield 3, 5, 0), (5, .aload_n 0, 6, 0), (6, .aload_n 0, 7, 0), (7, .iload_n 1, 8, 0), (8, .invokevirtual 353, 11, 0), (11, .iconst (Int.ofNat 1), 12, 0), (12, .invokevirtual 305, 15, 0), (15, .ifCond .ne 24, 18, 39), (18, .aload_n 0, 19, 0), (19, .aload_n 0, 20, 0), (20, .iload_n 1, 21, 0), (21, .invokevirtual 253, 24, 0), (24, .ifCond .ne 7, 27, 31), (27, .iconst (Int.ofNat 1), 28, 0), (28, .goto 4, 31, 32), (31, .iconst (Int.ofNat 0), 32, 0), (32, .iconst (Int.ofNat 2), 33, 0), (33, .invokevirtual 305, 36, 0), (36, .ifCond .eq 5, 39, 41), (39, .iconst (Int.ofNat 0), 40, 0), (40, .ireturn, 41, 0), (41, .iconst (Int.ofNat 0), 42, 0), (42, .istore_n 2, 43, 0), (43, .iconst (Int.ofNat 0), 44, 0), (44, .istore_n 3, 45, 0), (45, .iload_n 3, 46, 0), (46, .aload_n 0, 47, 0), (47, .invokevirtual 136, 50, 0), (50, .if_icmp .ge 30, 53, 80), (53, .iload_n 2, 54, 0), (54, .aload_n 0, 55, 0), (55, .iload_n 3, 56, 0), (56, .invokevirtual 347, 59, 0), (59, .iconst (Int.ofNat 1), 60, 0), (60, .iload_n 1, 61, 0), (61, .ishl, 62, 0), (62, .if_icmp .ne 9, 65, 71), (65, .iconst (Int.ofNat 1), 66, 0), (66, .iload_n 3, 67, 0), (67, .ishl, 68, 0), (68, .goto 4, 71, 72), (71, .iconst (Int.ofNat 0), 72, 0), (72, .ior, 73, 0), (73, .istore_n 2, 74, 0), (74, .iinc 3 1, 77, 0), (77, .goto (-32), 80, 45), (80, .iload_n 2, 81, 0), (81, .ireturn, 82, 0)]
def tc_283 : List (Nat × Instr × Nat × Nat) := [(0, .aload_n 0, 1, 0), (1, .iconst (Int.ofNat 0), 2, 0), (2, .putfield 3, 5, 0), (5, .aload_n 0, 6, 0), (6, .iload_n 1, 7, 0), (7, .iconst (Int.ofNat 1), 8, 0), (8, .bipush (Int.ofNat 10), 10, 0), (10, .invokestatic 132, 13, 0), (13, .ifCond .ne 7, 16, 20), (16, .iconst (Int.ofNat 1), 17, 0), (17, .goto 4, 20, 21), (20, .iconst (Int.ofNat 0), 21, 0), (21, .iconst (Int.ofNat 1), 22, 0), (22, .invokevirtual 305, 25, 0), (25, .ifCond .eq 5, 28, 30), (28, .iconst (Int.ofNat 0), 29, 0), (29, .ireturn, 30, 0), (30, .aload_n 0, 31, 0), (31, .invokevirtual 408, 34, 0), (34, .invokestatic 308, 37, 0), (37, .iload_n 1, 38, 0), (38, .if_icmp .ge 5, 41, 43), (41, .iconst (Int.negSucc 0), 42, 0), (42, .ireturn, 43, 0), (43, .iconst (Int.ofNat 0), 44, 0), (44, .istore_n 2, 45, 0), (45, .iconst (Int.ofNat 0), 46, 0), (46, .istore_n 3, 47, 0), (47, .iload_n 3, 48, 0), (48, .aload_n 0, 49, 0), (49, .invokevirtual 136, 52, 0), (52, .if_icmp .ge 41, 55, 93), (55, .iload_n 2, 56, 0), (56, .aload_n 0, 57, 0), (57, .invokevirtual 344, 60, 0), (60, .iload_n 3, 61, 0), (61, .invokestatic 124, 64, 0), (64, .ifCond .eq 20, 67, 84), (67, .iconst (Int.ofNat 0), 68, 0), (68, .iload_n 1, 69, 0), (69, .aload_n 0, 70, 0), (70, .iload_n 3, 71, 0), (71, .invokevirtual 347, 74, 0), (74, .invokestatic 308, 77, 0), (77, .isub, 78, 0), (78, .invokestatic 118, 81, 0), (81, .goto 4, 84, 85), (84, .iconst (Int.ofNat 0), 85, 0), (85, .iadd, 86, 0), (86, .istore_n 2, 87, 0), (87, .iinc 3 1, 90, 0), (90, .goto (-43), 93, 47), (93, .iload_n 2, 94, 0), (94, .ireturn, 95, 0)]
def tc_284 : List (Nat × Instr × Nat × Nat) := [(0, .iload_n 0, 1, 0), (1, .iconst (Int.ofNat 1), 2, 0), (2, .bipush (Int.ofNat 60), 4, 0), (4, .invokestatic 132, 7, 0), (7, .ifCond .ne 7, 10, 14), (10, .iconst (Int.ofNat 1), 11, 0), (11, .goto 4, 14, 15), (14, .iconst (Int.ofNat 0), 15, 0), (15, .ireturn, 16, 0)]
def tc_285 : List (Nat × Instr × Nat × Nat) := [(0, .aload_n 0, 1, 0), (1, .invokevirtual 344, 4, 0), (4, .istore 4, 6, 0), (6, .iconst (Int.ofNat 0), 7, 0), (7, .istore 5, 9, 0), (9, .iconst (Int.ofNat 0), 10, 0), (10, .istore 6, 12, 0), (12, .iload 6, 14, 0), (14, .iload_n 2, 15, 0), (15, .if_icmp .ge 73, 18, 88), (18, .aload_n 0, 19, 0), (19, .iload_n 1, 20, 0), (20, .iload_n 3, 21, 0), (21, .iload 6, 23, 0), (23, .iadd, 24, 0), (24, .invokevirtual 356, 27, 0), (27, .istore 7, 29, 0), (29, .aload_n 0, 30, 0), (30, .getfield 13, 33, 0), (33, .iconst (Int.ofNat 2), 34, 0), (34, .iaload, 35, 0), (35, .iload 6, 37, 0), (37, .iadd, 38, 0), (38, .istore 8, 40, 0), (40, .iload 5, 42, 0), (42, .aload_n 0, 43, 0), (43, .iload 4, 45, 0), (45, .iload 7, 47, 0), (47, .iload_n 1, 48, 0), (48, .iload 8, 50, 0), (50, .invokevirtual 332, 53, 0), (53, .ifCond .eq 25, 56, 78), (56, .aload_n 0, 57, 0), (57, .aload_n 0, 58, 0), (58, .iload_n 1, 59, 0), (59, .iconst (Int.ofNat 1), 60, 0), (60, .invokevirtual 121, 63, 0), (63, .iload 7, 65, 0), (65, .iload_n 1, 66, 0), (66, .iload 8, 68, 0), (68, .invokevirtual 332, 71, 0), (71, .ifCond .ne 7, 74, 78), (74, .iconst (Int.ofNat 1), 75, 0), (75, .goto 4, 78, 79), (78, .iconst (Int.ofNat 0), 79, 0), (79, .iadd, 80, 0), (80, .istore 5, 82, 0), (82, .iinc 6 1, 85, 0), (85, .goto (-73), 88, 12), (88, .iload 5, 90, 0), (90, .ireturn, 91, 0)]
def tc_286 : List (Nat × Instr × Nat × Nat) := [(0, .aload_n 0, 1, 0), (1, .iconst (Int.ofNat 0), 2, 0), (2, .putfield 3, 5, 0), (5, .aload_n 0, 6, 0), (6, .aload_n 0, 7, 0), (7, .iload_n 1, 8, 0), (8, .invokevirtual 353, 11, 0), (11, .iconst (Int.ofNat 1), 12, 0), (12, .invokevirtual 305, 15, 0), (15, .ifCond .ne 36, 18, 51), (18, .aload_n 0, 19, 0), (19, .iload_n 2, 20, 0), (20, .invokestatic 423, 23, 0), (23, .iconst (Int.ofNat 2), 24, 0), (24, .invokevirtual 305, 27, 0), (27, .ifCond .ne 24, 30, 51), (30, .aload_n 0, 31, 0), (31, .aload_n 0, 32, 0), (32, .iload_n 1, 33, 0), (33, .invokevirtual 253, 36, 0), (36, .ifCond .ne 7, 39, 43), (39, .iconst (Int.ofNat 1), 40, 0), (40, .goto 4, 43, 44), (43, .iconst (Int.ofNat 0), 44, 0), (44, .iconst (Int.ofNat 3), 45, 0), (45, .invokevirtual 305, 48, 0), (48, .ifCond .eq 5, 51, 53), (51, .iconst (Int.ofNat 0), 52, 0), (52, .ireturn, 53, 0), (53, .aload_n 0, 54, 0), (54, .iload_n 1, 55, 0), (55, .iload_n 2, 56, 0), (56, .iconst (Int.ofNat 0), 57, 0), (57, .invokevirtual 426, 60, 0), (60, .ireturn, 61, 0)]
def tc_287 : List (Nat × Instr × Nat × Nat) := [(0, .aload_n 0, 1, 0), (1, .iconst (Int.ofNat 0), 2, 0), (2, .putfield 3, 5, 0), (5, .aload_n 0, 6, 0), (6, .aload_n 0, 7, 0), (7, .iload_n 1, 8, 0), (8, .invokevirtual 353, 11, 0), (11, .ifCond .ne 10, 14, 21), (14, .iload_n 2, 15, 0), (15, .invokestatic 429, 18, 0), (18, .ifCond .eq 7, 21, 25), (21, .iconst (Int.ofNat 1), 22, 0), (22, .goto 4, 25, 26), (25, .iconst (Int.ofNat 0), 26, 0), (26, .iconst (Int.ofNat 1), 27, 0), (27, .invokevirtual 305, 30, 0), (30, .ifCond .ne 24, 33, 54), (33, .aload_n 0, 34, 0), (34, .aload_n 0, 35, 0), (35, .iload_n 1, 36, 0), (36, .invokevirtual 253, 39, 0), (39, .ifCond .ne 7, 42, 46), (42, .iconst (Int.ofNat 1), 43, 0), (43, .goto 4, 46, 47), (46, .iconst (Int.ofNat 0), 47, 0), (47, .iconst (Int.ofNat 2), 48, 0), (48, .invokevirtual 305, 51, 0), (51, .ifCond .eq 5, 54, 56), (54, .iconst (Int.ofNat 0), 55, 0), (55, .ireturn, 56, 0), (56, .aload_n 0, 57, 0), (57, .invokevirtual 344, 60, 0), (60, .istore_n 3, 61, 0), (61, .iconst (Int.ofNat 0), 62, 0), (62, .istore 4, 64, 0), (64, .iload 4, 66, 0), (66, .bipush (Int.ofNat 8), 68, 0), (68, .if_icmp .ge 28, 71, 96), (71, .aload_n 0, 72, 0), (72, .iload_n 3, 73, 0), (73, .bipush (Int.ofNat 8), 75, 0), (75, .iload_n 2, 76, 0), (76, .imul, 77, 0), (77, .iload 4, 79, 0), (79, .iadd, 80, 0), (80, .iload_n 1, 81, 0), (81, .invokevirtual 367, 84, 0), (84, .ifCond .ne 6, 87, 90), (87, .iload 4, 89, 0), (89, .ireturn, 90, 0), (90, .iinc 4 1, 93, 0), (93, .goto (-29), 96, 64), (96, .iconst (Int.negSucc 0), 97, 0), (97, .ireturn, 98, 0)]
def tc_288 : List (Nat × Instr × Nat × Nat) := [(0, .aload_n 0, 1, 0), (1, .iconst (Int.ofNat 0), 2, 0), (2, .putfield 3, 5, 0), (5, .aload_n 0, 6, 0), (6, .aload_n 0, 7, 0), (7, .iload_n 1, 8, 0), (8, .invokevirtual 353, 11, 0), (11, .iconst (Int.ofNat 1), 12, 0), (12, .invokevirtual 305, 15, 0), (15, .ifCond .ne 36, 18, 51), (18, .aload_n 0, 19, 0), (19, .iload_n 2, 20, 0), (20, .invokestatic 423, 23, 0), (23, .iconst (Int.ofNat 2), 24, 0), (24, .invokevirtual 305, 27, 0), (27, .ifCond .ne 24, 30, 51), (30, .aload_n 0, 31, 0), (31, .aload_n 0, 32, 0), (32, .iload_n 1, 33, 0), (33, .invokevirtual 253, 36, 0), (36, .ifCond .ne 7, 39, 43), (39, .iconst (Int.ofNat 1), 40, 0), (40, .goto 4, 43, 44), (43, .iconst (Int.ofNat 0), 44, 0), (44, .iconst (Int.ofNat 3), 45, 0), (45, .invokevirtual 305, 48, 0), (48, .ifCond .eq 5, 51, 53), (51, .iconst (Int.ofNat 0), 52, 0), (52, .ireturn, 53, 0), (53, .iconst (Int.ofNat 0), 54, 0), (54, .istore_n 3, 55, 0), (55, .iconst (Int.ofNat 1), 56, 0), (56, .istore 4, 58, 0), (58, .iload 4, 60, 0), (60, .aload_n 0, 61, 0), (61, .iload_n 1, 62, 0), (62, .iconst (Int.ofNat 5), 63, 0), (63, .invokevirtual 121, 66, 0), (66, .if_icmp .ge 34, 69, 100), (69, .aload_n 0, 70, 0), (70, .iload_n 1, 71, 0), (71, .iload_n 2, 72, 0), (72, .iload 4, 74, 0), (74, .invokevirtual 426, 77, 0), (77, .aload_n 0, 78, 0), (78, .iload_n 1, 79, 0), (79, .iload_n 2, 80, 0), (80, .iload_n 3, 81, 0), (81, .invokevirtual 426, 84, 0), (84, .if_icmp .ge 8, 87, 92), (87, .iload 4, 89, 0), (89, .goto 4, 92, 93), (92, .iload_n 3, 93, 0), (93, .istore_n 3, 94, 0), (94, .iinc 4 1, 97, 0), (97, .goto (-39), 100, 58), (100, .iload_n 3, 101, 0), (101, .ireturn, 102, 0)]
def tc_289_0 : List (Nat × Instr × Nat × Nat) := [(0, .aload_n 0, 1, 0), (1, .iconst (Int.ofNat 0), 2, 0), (2, .putfield 3, 5, 0), (5, .aload_n 0, 6, 0), (6, .iload_n 1, 7, 0), (7, .invokestatic 423, 10, 0), (10, .iconst (Int.ofNat 1), 11, 0), (11, .invokevirtual 305, 14, 0), (14, .ifCond .eq 5, 17, 19), (17, .iconst (Int.ofNat 0), 18, 0), (18, .ireturn, 19, 0), (19, .aload_n 0, 20, 0), (20, .invokevirtual 344, 23, 0), (23, .istore_n 3, 24, 0), (24, .iconst (Int.negSucc 0), 25, 0), (25, .istore 4, 27, 0), (27, .iconst (Int.ofNat 0), 28, 0), (28, .istore 5, 30, 0), (30, .iconst (Int.ofNat 0), 31, 0), (31, .istore 6, 33, 0), (33, .iload 6, 35, 0), (35, .aload_n 0, 36, 0), (36, .invokevirtual 128, 39, 0), (39, .if_icmp .ge 145, 42, 184), (42, .aload_n 0, 43, 0), (43, .iload 6, 45, 0), (45, .invokevirtual 253, 48, 0), (48, .ifCond .ne 6, 51, 54), (51, .goto 127, 54, 178), (54, .aload_n 0, 55, 0), (55, .iload 6, 57, 0), (57, .iconst (Int.ofNat 1), 58, 0), (58, .invokevirtual 121, 61, 0), (61, .istore 7, 63, 0), (63, .aload_n 0, 64, 0), (64, .iload 6, 66, 0), (66, .iload_n 1, 67, 0), (67, .iconst (Int.ofNat 0), 68, 0), (68, .invokevirtual 426, 71, 0), (71, .istore 8, 73, 0), (73, .iconst (Int.ofNat 0), 74, 0), (74, .istore 9, 76, 0), (76, .iload 9, 78, 0), (78, .aload_n 0, 79, 0), (79, .invokevirtual 136, 82, 0), (82, .if_icmp .ge 96, 85, 178), (85, .iload 7, 87, 0), (87, .iload 9, 89, 0), (89, .invokestatic 124, 92, 0), (92, .ifCond .ne 80, 95, 172), (95, .iload_n 3, 96, 0), (96, .iload 9, 98, 0), (98, .invokestatic 124, 101, 0), (101, .ifCond .ne 6, 104, 107), (104, .goto 68, 107, 172), (107, .aload_n 0, 108, 0), (108, .iload 6, 110, 0), (110, .iconst (Int.ofNat 1), 111, 0), (111, .iload 7, 113, 0), (113, .iconst (Int.ofNat 1), 114, 0)]
def tc_289_1 : List (Nat × Instr × Nat × Nat) := [(114, .iload 9, 116, 0), (116, .ishl, 117, 0), (117, .ior, 118, 0), (118, .invokevirtual 234, 121, 0), (121, .iload 8, 123, 0), (123, .aload_n 0, 124, 0), (124, .iload 6, 126, 0), (126, .iload_n 1, 127, 0), (127, .iconst (Int.ofNat 0), 128, 0), (128, .invokevirtual 426, 131, 0), (131, .isub, 132, 0), (132, .istore 10, 134, 0), (134, .aload_n 0, 135, 0), (135, .iload 6, 137, 0), (137, .iconst (Int.ofNat 1), 138, 0), (138, .iload 7, 140, 0), (140, .invokevirtual 234, 143, 0), (143, .iload 4, 145, 0), (145, .ifCond .lt 13, 148, 158), (148, .iload 10, 150, 0), (150, .iload 5, 152, 0), (152, .if_icmp .gt 6, 155, 158), (155, .goto 17, 158, 172), (158, .bipush (Int.ofNat 100), 160, 0), (160, .iload 6, 162, 0), (162, .imul, 163, 0), (163, .iload 9, 165, 0), (165, .iadd, 166, 0), (166, .istore 4, 168, 0), (168, .iload 10, 170, 0), (170, .istore 5, 172, 0), (172, .iinc 9 1, 175, 0), (175, .goto (-99), 178, 76), (178, .iinc 6 1, 181, 0), (181, .goto (-148), 184, 33), (184, .iload_n 2, 185, 0), (185, .ifCond .eq 8, 188, 193), (188, .iload 5, 190, 0), (190, .goto 5, 193, 195), (193, .iload 4, 195, 0), (195, .ireturn, 196, 0)]
def tc_289 : List (Nat × Instr × Nat × Nat) := tc_289_0 ++ tc_289_1
def tc_290 : List (Nat × Instr × Nat × Nat) := [(0, .aload_n 0, 1, 0), (1, .iconst (Int.ofNat 0), 2, 0), (2, .putfield 3, 5, 0), (5, .aload_n 0, 6, 0), (6, .aload_n 0, 7, 0), (7, .iload_n 1, 8, 0), (8, .invokevirtual 353, 11, 0), (11, .iconst (Int.ofNat 1), 12, 0), (12, .invokevirtual 305, 15, 0), (15, .ifCond .ne 24, 18, 39), (18, .aload_n 0, 19, 0), (19, .aload_n 0, 20, 0), (20, .iload_n 1, 21, 0), (21, .invokevirtual 253, 24, 0), (24, .ifCond .ne 7, 27, 31), (27, .iconst (Int.ofNat 1), 28, 0), (28, .goto 4, 31, 32), (31, .iconst (Int.ofNat 0), 32, 0), (32, .iconst (Int.ofNat 2), 33, 0), (33, .invokevirtual 305, 36, 0), (36, .ifCond .eq 5, 39, 41), (39, .iconst (Int.ofNat 0), 40, 0), (40, .ireturn, 41, 0), (41, .iconst (Int.ofNat 0), 42, 0), (42, .istore_n 2, 43, 0), (43, .iconst (Int.ofNat 0), 44, 0), (44, .istore_n 3, 45, 0), (45, .iload_n 3, 46, 0), (46, .bipush (Int.ofNat 64), 48, 0), (48, .if_icmp .ge 48, 51, 96), (51, .iload_n 2, 52, 0), (52, .aload_n 0, 53, 0), (53, .getfield 29, 56, 0), (56, .iload_n 1, 57, 0), (57, .laload, 58, 0), (58, .iload_n 3, 59, 0), (59, .invokestatic 377, 62, 0), (62, .ifCond .eq 25, 65, 87), (65, .aload_n 0, 66, 0), (66, .aload_n 0, 67, 0), (67, .invokevirtual 344, 70, 0), (70, .aload_n 0, 71, 0), (71, .iload_n 1, 72, 0), (72, .iconst (Int.ofNat 1), 73, 0), (73, .invokevirtual 121, 76, 0), (76, .iconst (Int.negSucc 0), 77, 0), (77, .ixor, 78, 0), (78, .iand, 79, 0), (79, .iload_n 3, 80, 0), (80, .iload_n 1, 81, 0), (81, .invokevirtual 367, 84, 0), (84, .goto 4, 87, 88), (87, .iconst (Int.ofNat 0), 88, 0), (88, .ior, 89, 0), (89, .istore_n 2, 90, 0), (90, .iinc 3 1, 93, 0), (93, .goto (-48), 96, 45), (96, .iload_n 2, 97, 0), (97, .ireturn, 98, 0)]
def tc_291 : List (Nat × Instr × Nat × Nat) := [(0, .aload_n 0, 1, 0), (1, .iconst (Int.ofNat 0), 2, 0), (2, .putfield 3, 5, 0), (5, .aload_n 0, 6, 0), (6, .iload_n 1, 7, 0), (7, .invokestatic 429, 10, 0), (10, .iconst (Int.ofNat 1), 11, 0), (11, .invokevirtual 305, 14, 0), (14, .ifCond .eq 5, 17, 19), (17, .iconst (Int.ofNat 0), 18, 0), (18, .ireturn, 19, 0), (19, .aload_n 0, 20, 0), (20, .invokevirtual 408, 23, 0), (23, .ifCond .ne 7, 26, 30), (26, .iconst (Int.ofNat 0), 27, 0), (27, .goto 6, 30, 33), (30, .sipush (Int.ofNat 255), 33, 0), (33, .istore_n 2, 34, 0), (34, .iconst (Int.ofNat 0), 35, 0), (35, .istore_n 3, 36, 0), (36, .iload_n 3, 37, 0), (37, .bipush (Int.ofNat 8), 39, 0), (39, .if_icmp .ge 59, 42, 98), (42, .iconst (Int.ofNat 0), 43, 0), (43, .istore 4, 45, 0), (45, .iload 4, 47, 0), (47, .aload_n 0, 48, 0), (48, .invokevirtual 128, 51, 0), (51, .if_icmp .ge 41, 54, 92), (54, .aload_n 0, 55, 0), (55, .iload 4, 57, 0), (57, .invokevirtual 253, 60, 0), (60, .ifCond .eq 26, 63, 86), (63, .aload_n 0, 64, 0), (64, .bipush (Int.ofNat 8), 66, 0), (66, .iload_n 1, 67, 0), (67, .imul, 68, 0), (68, .iload_n 3, 69, 0), (69, .iadd, 70, 0), (70, .iload 4, 72, 0), (72, .invokevirtual 374, 75, 0), (75, .ifCond .eq 11, 78, 86), (78, .iload_n 2, 79, 0), (79, .iconst (Int.ofNat 1), 80, 0), (80, .iload_n 3, 81, 0), (81, .ishl, 82, 0), (82, .iconst (Int.negSucc 0), 83, 0), (83, .ixor, 84, 0), (84, .iand, 85, 0), (85, .istore_n 2, 86, 0), (86, .iinc 4 1, 89, 0), (89, .goto (-44), 92, 45), (92, .iinc 3 1, 95, 0), (95, .goto (-59), 98, 36), (98, .iload_n 2, 99, 0), (99, .ireturn, 100, 0)]
def tc_292_0 : List (Nat × Instr × Nat × Nat) := [(0, .aload_n 0, 1, 0), (1, .iconst (Int.ofNat 0), 2, 0), (2, .putfield 3, 5, 0), (5, .aload_n 0, 6, 0), (6, .iload_n 1, 7, 0), (7, .invokestatic 429, 10, 0), (10, .iconst (Int.ofNat 1), 11, 0), (11, .invokevirtual 305, 14, 0), (14, .ifCond .eq 5, 17, 19), (17, .iconst (Int.ofNat 0), 18, 0), (18, .ireturn, 19, 0), (19, .iconst (Int.ofNat 0), 20, 0), (20, .istore_n 2, 21, 0), (21, .iload_n 2, 22, 0), (22, .bipush (Int.ofNat 8), 24, 0), (24, .if_icmp .ge 16, 27, 40), (27, .aload_n 0, 28, 0), (28, .getfield 88, 31, 0), (31, .iload_n 2, 32, 0), (32, .iconst (Int.ofNat 0), 33, 0), (33, .iastore, 34, 0), (34, .iinc 2 1, 37, 0), (37, .goto (-16), 40, 21), (40, .iconst (Int.ofNat 0), 41, 0), (41, .istore_n 2, 42, 0), (42, .iload_n 2, 43, 0), (43, .aload_n 0, 44, 0), (44, .invokevirtual 128, 47, 0), (47, .if_icmp .ge 72, 50, 119), (50, .iconst (Int.ofNat 0), 51, 0), (51, .istore_n 3, 52, 0), (52, .aload_n 0, 53, 0), (53, .iload_n 2, 54, 0), (54, .invokevirtual 253, 57, 0), (57, .ifCond .eq 56, 60, 113), (60, .iload_n 3, 61, 0), (61, .aload_n 0, 62, 0), (62, .iload_n 2, 63, 0), (63, .iconst (Int.ofNat 5), 64, 0), (64, .invokevirtual 121, 67, 0), (67, .if_icmp .ge 46, 70, 113), (70, .aload_n 0, 71, 0), (71, .iload_n 2, 72, 0), (72, .bipush (Int.ofNat 7), 74, 0), (74, .iload_n 3, 75, 0), (75, .iadd, 76, 0), (76, .invokevirtual 121, 79, 0), (79, .bipush (Int.ofNat 8), 81, 0), (81, .irem, 82, 0), (82, .iload_n 1, 83, 0), (83, .if_icmp .ne 24, 86, 107), (86, .aload_n 0, 87, 0), (87, .getfield 88, 90, 0), (90, .aload_n 0, 91, 0), (91, .iload_n 2, 92, 0), (92, .bipush (Int.ofNat 7), 94, 0), (94, .iload_n 3, 95, 0), (95, .iadd, 96, 0), (96, .invokevirtual 121, 99, 0), (99, .bipush (Int.ofNat 8), 101, 0)]
def tc_292_1 : List (Nat × Instr × Nat × Nat) := [(101, .idiv, 102, 0), (102, .dup2, 103, 0), (103, .iaload, 104, 0), (104, .iconst (Int.ofNat 1), 105, 0), (105, .iadd, 106, 0), (106, .iastore, 107, 0), (107, .iinc 3 1, 110, 0), (110, .goto (-58), 113, 52), (113, .iinc 2 1, 116, 0), (116, .goto (-74), 119, 42), (119, .iconst (Int.negSucc 0), 120, 0), (120, .istore_n 2, 121, 0), (121, .iconst (Int.ofNat 0), 122, 0), (122, .istore_n 3, 123, 0), (123, .iload_n 3, 124, 0), (124, .bipush (Int.ofNat 8), 126, 0), (126, .if_icmp .ge 39, 129, 165), (129, .aload_n 0, 130, 0), (130, .getfield 88, 133, 0), (133, .iload_n 3, 134, 0), (134, .iaload, 135, 0), (135, .ifCond .le 24, 138, 159), (138, .iload_n 2, 139, 0), (139, .ifCond .lt 18, 142, 157), (142, .aload_n 0, 143, 0), (143, .getfield 88, 146, 0), (146, .iload_n 3, 147, 0), (147, .iaload, 148, 0), (148, .aload_n 0, 149, 0), (149, .getfield 88, 152, 0), (152, .iload_n 2, 153, 0), (153, .iaload, 154, 0), (154, .if_icmp .le 5, 157, 159), (157, .iload_n 3, 158, 0), (158, .istore_n 2, 159, 0), (159, .iinc 3 1, 162, 0), (162, .goto (-39), 165, 123), (165, .iload_n 2, 166, 0), (166, .ireturn, 167, 0)]
def tc_292 : List (Nat × Instr × Nat × Nat) := tc_292_0 ++ tc_292_1
def tc_293 : List (Nat × Instr × Nat × Nat) := [(0, .aload_n 0, 1, 0), (1, .iconst (Int.ofNat 0), 2, 0), (2, .putfield 3, 5, 0), (5, .ldc2_w 432, 8, 0), (8, .lstore_n 2, 9, 0), (9, .lconst 0, 10, 0), (10, .lstore 4, 12, 0), (12, .iconst (Int.ofNat 0), 13, 0), (13, .istore 6, 15, 0), (15, .iload 6, 17, 0), (17, .aload_n 0, 18, 0), (18, .invokevirtual 128, 21, 0), (21, .if_icmp .ge 43, 24, 64), (24, .aload_n 0, 25, 0), (25, .iload 6, 27, 0), (27, .invokevirtual 253, 30, 0), (30, .ifCond .ne 6, 33, 36), (33, .goto 25, 36, 58), (36, .lload_n 2, 37, 0), (37, .aload_n 0, 38, 0), (38, .getfield 29, 41, 0), (41, .iload 6, 43, 0), (43, .laload, 44, 0), (44, .land, 45, 0), (45, .lstore_n 2, 46, 0), (46, .lload 4, 48, 0), (48, .aload_n 0, 49, 0), (49, .getfield 29, 52, 0), (52, .iload 6, 54, 0), (54, .laload, 55, 0), (55, .lor, 56, 0), (56, .lstore 4, 58, 0), (58, .iinc 6 1, 61, 0), (61, .goto (-46), 64, 15), (64, .aload_n 0, 65, 0), (65, .invokevirtual 408, 68, 0), (68, .ifCond .ne 7, 71, 75), (71, .lconst 0, 72, 0), (72, .goto 17, 75, 89), (75, .iload_n 1, 76, 0), (76, .ifCond .eq 7, 79, 83), (79, .lload_n 2, 80, 0), (80, .goto 9, 83, 89), (83, .lload 4, 85, 0), (85, .ldc2_w 432, 88, 0), (88, .lxor, 89, 0), (89, .lreturn, 90, 0)]
def tc_294 : List (Nat × Instr × Nat × Nat) := [(0, .aload_n 0, 1, 0), (1, .invokevirtual 408, 4, 0), (4, .invokestatic 308, 7, 0), (7, .iconst (Int.ofNat 1), 8, 0), (8, .isub, 9, 0), (9, .istore_n 2, 10, 0), (10, .lconst 0, 11, 0), (11, .lstore_n 3, 12, 0), (12, .iconst (Int.ofNat 0), 13, 0), (13, .istore 5, 15, 0), (15, .iload 5, 17, 0), (17, .bipush (Int.ofNat 64), 19, 0), (19, .if_icmp .ge 89, 22, 108), (22, .iconst (Int.ofNat 0), 23, 0), (23, .istore 6, 25, 0), (25, .iconst (Int.ofNat 0), 26, 0), (26, .istore 7, 28, 0), (28, .iload 7, 30, 0), (30, .aload_n 0, 31, 0), (31, .invokevirtual 128, 34, 0), (34, .if_icmp .ge 49, 37, 83), (37, .iload 6, 39, 0), (39, .iload 7, 41, 0), (41, .iload_n 1, 42, 0), (42, .if_icmp .eq 31, 45, 73), (45, .aload_n 0, 46, 0), (46, .iload 7, 48, 0), (48, .invokevirtual 253, 51, 0), (51, .ifCond .eq 22, 54, 73), (54, .aload_n 0, 55, 0), (55, .getfield 91, 58, 0), (58, .iload 7, 60, 0), (60, .laload, 61, 0), (61, .iload 5, 63, 0), (63, .invokestatic 377, 66, 0), (66, .ifCond .eq 7, 69, 73), (69, .iconst (Int.ofNat 1), 70, 0), (70, .goto 4, 73, 74), (73, .iconst (Int.ofNat 0), 74, 0), (74, .iadd, 75, 0), (75, .istore 6, 77, 0), (77, .iinc 7 1, 80, 0), (80, .goto (-52), 83, 28), (83, .lload_n 3, 84, 0), (84, .iconst (Int.ofNat 2), 85, 0), (85, .iload 6, 87, 0), (87, .imul, 88, 0), (88, .iload_n 2, 89, 0), (89, .if_icmp .le 10, 92, 99), (92, .lconst 1, 93, 0), (93, .iload 5, 95, 0), (95, .lshl, 96, 0), (96, .goto 4, 99, 100), (99, .lconst 0, 100, 0), (100, .lor, 101, 0), (101, .lstore_n 3, 102, 0), (102, .iinc 5 1, 105, 0), (105, .goto (-90), 108, 15), (108, .lload_n 3, 109, 0), (109, .lreturn, 110, 0)]
def tc_295 : List (Nat × Instr × Nat × Nat) := [(0, .iconst (Int.ofNat 0), 1, 0), (1, .istore_n 1, 2, 0), (2, .iconst (Int.ofNat 0), 3, 0), (3, .istore_n 2, 4, 0), (4, .iload_n 2, 5, 0), (5, .aload_n 0, 6, 0), (6, .invokevirtual 128, 9, 0), (9, .if_icmp .ge 70, 12, 79), (12, .aload_n 0, 13, 0), (13, .getfield 94, 16, 0), (16, .iload_n 2, 17, 0), (17, .aload_n 0, 18, 0), (18, .iload_n 2, 19, 0), (19, .invokevirtual 253, 22, 0), (22, .ifCond .eq 18, 25, 40), (25, .aload_n 0, 26, 0), (26, .getfield 91, 29, 0), (29, .iload_n 2, 30, 0), (30, .laload, 31, 0), (31, .aload_n 0, 32, 0), (32, .iload_n 2, 33, 0), (33, .invokevirtual 434, 36, 0), (36, .lor, 37, 0), (37, .goto 9, 40, 46), (40, .aload_n 0, 41, 0), (41, .getfield 91, 44, 0), (44, .iload_n 2, 45, 0), (45, .laload, 46, 0), (46, .lastore, 47, 0), (47, .iload_n 1, 48, 0), (48, .ifCond .ne 19, 51, 67), (51, .aload_n 0, 52, 0), (52, .getfield 94, 55, 0), (55, .iload_n 2, 56, 0), (56, .laload, 57, 0), (57, .aload_n 0, 58, 0), (58, .getfield 91, 61, 0), (61, .iload_n 2, 62, 0), (62, .laload, 63, 0), (63, .lcmp, 64, 0), (64, .ifCond .eq 7, 67, 71), (67, .iconst (Int.ofNat 1), 68, 0), (68, .goto 4, 71, 72), (71, .iconst (Int.ofNat 0), 72, 0), (72, .istore_n 1, 73, 0), (73, .iinc 2 1, 76, 0), (76, .goto (-72), 79, 4), (79, .aload_n 0, 80, 0), (80, .getfield 94, 83, 0), (83, .iconst (Int.ofNat 0), 84, 0), (84, .aload_n 0, 85, 0), (85, .getfield 91, 88, 0), (88, .iconst (Int.ofNat 0), 89, 0), (89, .invokestatic 101, 92, 0), (92, .iload_n 1, 93, 0), (93, .ireturn, 94, 0)]
def tc_296 : List (Nat × Instr × Nat × Nat) := [(0, .iconst (Int.ofNat 0), 1, 0), (1, .istore_n 2, 2, 0), (2, .iconst (Int.ofNat 0), 3, 0), (3, .istore_n 3, 4, 0), (4, .iload_n 3, 5, 0), (5, .aload_n 0, 6, 0), (6, .invokevirtual 128, 9, 0), (9, .if_icmp .ge 30, 12, 39), (12, .iload_n 2, 13, 0), (13, .aload_n 0, 14, 0), (14, .iload_n 3, 15, 0), (15, .invokevirtual 253, 18, 0), (18, .ifCond .eq 12, 21, 30), (21, .aload_n 1, 22, 0), (22, .iload_n 3, 23, 0), (23, .laload, 24, 0), (24, .invokestatic 362, 27, 0), (27, .goto 4, 30, 31), (30, .iconst (Int.ofNat 0), 31, 0), (31, .iadd, 32, 0), (32, .istore_n 2, 33, 0), (33, .iinc 3 1, 36, 0), (36, .goto (-32), 39, 4), (39, .iload_n 2, 40, 0), (40, .ireturn, 41, 0)]
def tc_297 : List (Nat × Instr × Nat × Nat) := [(0, .aload_n 0, 1, 0), (1, .iconst (Int.ofNat 0), 2, 0), (2, .putfield 3, 5, 0), (5, .aload_n 0, 6, 0), (6, .iload_n 1, 7, 0), (7, .iconst (Int.ofNat 0), 8, 0), (8, .bipush (Int.ofNat 30), 10, 0), (10, .invokestatic 132, 13, 0), (13, .ifCond .ne 7, 16, 20), (16, .iconst (Int.ofNat 1), 17, 0), (17, .goto 4, 20, 21), (20, .iconst (Int.ofNat 0), 21, 0), (21, .iconst (Int.ofNat 1), 22, 0), (22, .invokevirtual 305, 25, 0), (25, .ifCond .eq 5, 28, 30), (28, .iconst (Int.ofNat 0), 29, 0), (29, .ireturn, 30, 0), (30, .aload_n 0, 31, 0), (31, .getfield 29, 34, 0), (34, .iconst (Int.ofNat 0), 35, 0), (35, .aload_n 0, 36, 0), (36, .getfield 91, 39, 0), (39, .iconst (Int.ofNat 0), 40, 0), (40, .invokestatic 101, 43, 0), (43, .iconst (Int.ofNat 0), 44, 0), (44, .istore_n 2, 45, 0), (45, .iload_n 2, 46, 0), (46, .iload_n 1, 47, 0), (47, .if_icmp .ge 14, 50, 61), (50, .aload_n 0, 51, 0), (51, .invokevirtual 438, 54, 0), (54, .pop, 55, 0), (55, .iinc 2 1, 58, 0), (58, .goto (-13), 61, 45), (61, .aload_n 0, 62, 0), (62, .aload_n 0, 63, 0), (63, .getfield 91, 66, 0), (66, .invokevirtual 441, 69, 0), (69, .ireturn, 70, 0)]
def tc_298 : List (Nat × Instr × Nat × Nat) := [(0, .aload_n 0, 1, 0), (1, .iconst (Int.ofNat 0), 2, 0), (2, .putfield 3, 5, 0), (5, .aload_n 0, 6, 0), (6, .getfield 29, 9, 0), (9, .iconst (Int.ofNat 0), 10, 0), (10, .aload_n 0, 11, 0), (11, .getfield 91, 14, 0), (14, .iconst (Int.ofNat 0), 15, 0), (15, .invokestatic 101, 18, 0), (18, .iconst (Int.ofNat 0), 19, 0), (19, .istore_n 1, 20, 0), (20, .iload_n 1, 21, 0), (21, .bipush (Int.ofNat 30), 23, 0), (23, .if_icmp .gt 18, 26, 41), (26, .aload_n 0, 27, 0), (27, .invokevirtual 438, 30, 0), (30, .ifCond .ne 5, 33, 35), (33, .iload_n 1, 34, 0), (34, .ireturn, 35, 0), (35, .iinc 1 1, 38, 0), (38, .goto (-18), 41, 20), (41, .iconst (Int.negSucc 0), 42, 0), (42, .ireturn, 43, 0)]
def tc_299 : List (Nat × Instr × Nat × Nat) := [(0, .aload_n 0, 1, 0), (1, .iload_n 1, 2, 0), (2, .bipush (Int.ofNat 7), 4, 0), (4, .iload_n 2, 5, 0), (5, .iadd, 6, 0), (6, .invokevirtual 121, 9, 0), (9, .istore_n 3, 10, 0), (10, .aload_n 0, 11, 0), (11, .getfield 13, 14, 0), (14, .bipush (Int.ofNat 10), 16, 0), (16, .iload_n 3, 17, 0), (17, .bipush (Int.ofNat 8), 19, 0), (19, .idiv, 20, 0), (20, .iadd, 21, 0), (21, .iaload, 22, 0), (22, .istore 4, 24, 0), (24, .aload_n 0, 25, 0), (25, .aload_n 0, 26, 0), (26, .invokevirtual 344, 29, 0), (29, .iload_n 3, 30, 0), (30, .iload_n 1, 31, 0), (31, .invokevirtual 367, 34, 0), (34, .ifCond .ne 8, 37, 42), (37, .iload 4, 39, 0), (39, .goto 6, 42, 45), (42, .iload 4, 44, 0), (44, .ineg, 45, 0), (45, .ireturn, 46, 0)]
def tc_300 : List (Nat × Instr × Nat × Nat) := [(0, .iconst (Int.negSucc 0), 1, 0), (1, .istore_n 3, 2, 0), (2, .iconst (Int.ofNat 0), 3, 0), (3, .istore 4, 5, 0), (5, .iload 4, 7, 0), (7, .aload_n 0, 8, 0), (8, .iload_n 1, 9, 0), (9, .iconst (Int.ofNat 5), 10, 0), (10, .invokevirtual 121, 13, 0), (13, .if_icmp .ge 38, 16, 51), (16, .iload 4, 18, 0), (18, .iload_n 2, 19, 0), (19, .if_icmp .eq 26, 22, 45), (22, .iload_n 3, 23, 0), (23, .ifCond .lt 19, 26, 42), (26, .aload_n 0, 27, 0), (27, .iload_n 1, 28, 0), (28, .iload 4, 30, 0), (30, .invokevirtual 445, 33, 0), (33, .aload_n 0, 34, 0), (34, .iload_n 1, 35, 0), (35, .iload_n 3, 36, 0), (36, .invokevirtual 445, 39, 0), (39, .if_icmp .le 6, 42, 45), (42, .iload 4, 44, 0), (44, .istore_n 3, 45, 0), (45, .iinc 4 1, 48, 0), (48, .goto (-43), 51, 5), (51, .iload_n 3, 52, 0), (52, .ireturn, 53, 0)]
def tc_301 : List (Nat × Instr × Nat × Nat) := [(0, .aload_n 0, 1, 0), (1, .iconst (Int.ofNat 0), 2, 0), (2, .putfield 3, 5, 0), (5, .aload_n 0, 6, 0), (6, .aload_n 0, 7, 0), (7, .iload_n 1, 8, 0), (8, .invokevirtual 353, 11, 0), (11, .iconst (Int.ofNat 1), 12, 0), (12, .invokevirtual 305, 15, 0), (15, .ifCond .ne 24, 18, 39), (18, .aload_n 0, 19, 0), (19, .aload_n 0, 20, 0), (20, .iload_n 1, 21, 0), (21, .invokevirtual 253, 24, 0), (24, .ifCond .ne 7, 27, 31), (27, .iconst (Int.ofNat 1), 28, 0), (28, .goto 4, 31, 32), (31, .iconst (Int.ofNat 0), 32, 0), (32, .iconst (Int.ofNat 2), 33, 0), (33, .invokevirtual 305, 36, 0), (36, .ifCond .eq 5, 39, 41), (39, .iconst (Int.ofNat 0), 40, 0), (40, .ireturn, 41, 0), (41, .aload_n 0, 42, 0), (42, .iload_n 1, 43, 0), (43, .iconst (Int.negSucc 0), 44, 0), (44, .invokevirtual 448, 47, 0), (47, .istore_n 3, 48, 0), (48, .iload_n 2, 49, 0), (49, .ifCond .eq 10, 52, 59), (52, .aload_n 0, 53, 0), (53, .iload_n 1, 54, 0), (54, .iload_n 3, 55, 0), (55, .invokevirtual 448, 58, 0), (58, .istore_n 3, 59, 0), (59, .iload_n 3, 60, 0), (60, .ifCond .ge 7, 63, 67), (63, .iconst (Int.ofNat 0), 64, 0), (64, .goto 9, 67, 73), (67, .aload_n 0, 68, 0), (68, .iload_n 1, 69, 0), (69, .iload_n 3, 70, 0), (70, .invokevirtual 445, 73, 0), (73, .ireturn, 74, 0)]
def tc_302 : List (Nat × Instr × Nat × Nat) := [(0, .aload_n 0, 1, 0), (1, .iconst (Int.ofNat 0), 2, 0), (2, .putfield 3, 5, 0), (5, .aload_n 0, 6, 0), (6, .iload_n 1, 7, 0), (7, .invokestatic 429, 10, 0), (10, .iconst (Int.ofNat 1), 11, 0), (11, .invokevirtual 305, 14, 0), (14, .ifCond .ne 26, 17, 40), (17, .aload_n 0, 18, 0), (18, .iload_n 2, 19, 0), (19, .iconst (Int.ofNat 0), 20, 0), (20, .bipush (Int.ofNat 60), 22, 0), (22, .invokestatic 132, 25, 0), (25, .ifCond .ne 7, 28, 32), (28, .iconst (Int.ofNat 1), 29, 0), (29, .goto 4, 32, 33), (32, .iconst (Int.ofNat 0), 33, 0), (33, .iconst (Int.ofNat 2), 34, 0), (34, .invokevirtual 305, 37, 0), (37, .ifCond .eq 5, 40, 42), (40, .iconst (Int.ofNat 0), 41, 0), (41, .ireturn, 42, 0), (42, .iconst (Int.ofNat 0), 43, 0), (43, .istore_n 3, 44, 0), (44, .iconst (Int.ofNat 0), 45, 0), (45, .istore 4, 47, 0), (47, .iload 4, 49, 0), (49, .aload_n 0, 50, 0), (50, .invokevirtual 128, 53, 0), (53, .if_icmp .ge 43, 56, 96), (56, .iload_n 3, 57, 0), (57, .aload_n 0, 58, 0), (58, .iload 4, 60, 0), (60, .invokevirtual 253, 63, 0), (63, .ifCond .eq 24, 66, 87), (66, .aload_n 0, 67, 0), (67, .iload 4, 69, 0), (69, .iload_n 2, 70, 0), (70, .invokevirtual 356, 73, 0), (73, .bipush (Int.ofNat 8), 75, 0), (75, .irem, 76, 0), (76, .iload_n 1, 77, 0), (77, .if_icmp .ne 10, 80, 87), (80, .iconst (Int.ofNat 1), 81, 0), (81, .iload 4, 83, 0), (83, .ishl, 84, 0), (84, .goto 4, 87, 88), (87, .iconst (Int.ofNat 0), 88, 0), (88, .ior, 89, 0), (89, .istore_n 3, 90, 0), (90, .iinc 4 1, 93, 0), (93, .goto (-46), 96, 47), (96, .iload_n 3, 97, 0), (97, .ireturn, 98, 0)]
def tc_303 : List (Nat × Instr × Nat × Nat) := [(0, .aload_n 0, 1, 0), (1, .iconst (Int.ofNat 0), 2, 0), (2, .putfield 3, 5, 0), (5, .aload_n 0, 6, 0), (6, .aload_n 0, 7, 0), (7, .iload_n 1, 8, 0), (8, .invokevirtual 353, 11, 0), (11, .ifCond .ne 11, 14, 22), (14, .aload_n 0, 15, 0), (15, .iload_n 2, 16, 0), (16, .invokevirtual 353, 19, 0), (19, .ifCond .eq 7, 22, 26), (22, .iconst (Int.ofNat 1), 23, 0), (23, .goto 4, 26, 27), (26, .iconst (Int.ofNat 0), 27, 0), (27, .iconst (Int.ofNat 1), 28, 0), (28, .invokevirtual 305, 31, 0), (31, .ifCond .ne 28, 34, 59), (34, .aload_n 0, 35, 0), (35, .iload_n 1, 36, 0), (36, .iload_n 2, 37, 0), (37, .if_icmp .eq 10, 40, 47), (40, .iload_n 3, 41, 0), (41, .invokestatic 423, 44, 0), (44, .ifCond .eq 7, 47, 51), (47, .iconst (Int.ofNat 1), 48, 0), (48, .goto 4, 51, 52), (51, .iconst (Int.ofNat 0), 52, 0), (52, .iconst (Int.ofNat 2), 53, 0), (53, .invokevirtual 305, 56, 0), (56, .ifCond .eq 5, 59, 61), (59, .iconst (Int.ofNat 0), 60, 0), (60, .ireturn, 61, 0), (61, .iconst (Int.ofNat 0), 62, 0), (62, .istore 4, 64, 0), (64, .iconst (Int.ofNat 0), 65, 0), (65, .istore 5, 67, 0), (67, .iload 5, 69, 0), (69, .iload_n 3, 70, 0), (70, .if_icmp .ge 42, 73, 112), (73, .iload 4, 75, 0), (75, .aload_n 0, 76, 0), (76, .iload_n 1, 77, 0), (77, .iload 5, 79, 0), (79, .invokevirtual 356, 82, 0), (82, .bipush (Int.ofNat 8), 84, 0), (84, .irem, 85, 0), (85, .aload_n 0, 86, 0), (86, .iload_n 2, 87, 0), (87, .iload 5, 89, 0), (89, .invokevirtual 356, 92, 0), (92, .bipush (Int.ofNat 8), 94, 0), (94, .irem, 95, 0), (95, .if_icmp .ne 7, 98, 102), (98, .iconst (Int.ofNat 1), 99, 0), (99, .goto 4, 102, 103), (102, .iconst (Int.ofNat 0), 103, 0), (103, .iadd, 104, 0), (104, .istore 4, 106, 0), (106, .iinc 5 1, 109, 0), (109, .goto (-42), 112, 67), (112, .iload 4, 114, 0), (114, .ireturn, 115, 0)]
def tc_304 : List (Nat × Instr × Nat × Nat) := [(0, .aload_n 0, 1, 0), (1, .getfield 13, 4, 0), (4, .iconst (Int.ofNat 0), 5, 0), (5, .aload_n 0, 6, 0), (6, .getfield 23, 9, 0), (9, .iconst (Int.ofNat 0), 10, 0), (10, .invokestatic 97, 13, 0), (13, .aload_n 0, 14, 0), (14, .getfield 29, 17, 0), (17, .iconst (Int.ofNat 0), 18, 0), (18, .aload_n 0, 19, 0), (19, .getfield 39, 22, 0), (22, .iconst (Int.ofNat 0), 23, 0), (23, .invokestatic 101, 26, 0), (26, .return_, 27, 0)]
def tc_305 : List (Nat × Instr × Nat × Nat) := [(0, .aload_n 0, 1, 0), (1, .getfield 23, 4, 0), (4, .iconst (Int.ofNat 0), 5, 0), (5, .aload_n 0, 6, 0), (6, .getfield 13, 9, 0), (9, .iconst (Int.ofNat 0), 10, 0), (10, .invokestatic 97, 13, 0), (13, .aload_n 0, 14, 0), (14, .getfield 39, 17, 0), (17, .iconst (Int.ofNat 0), 18, 0), (18, .aload_n 0, 19, 0), (19, .getfield 29, 22, 0), (22, .iconst (Int.ofNat 0), 23, 0), (23, .invokestatic 101, 26, 0), (26, .return_, 27, 0)]
def tc_306 : List (Nat × Instr × Nat × Nat) := [(0, .iconst (Int.ofNat 0), 1, 0), (1, .istore_n 1, 2, 0), (2, .iconst (Int.ofNat 0), 3, 0), (3, .istore_n 2, 4, 0), (4, .iload_n 2, 5, 0), (5, .aload_n 0, 6, 0), (6, .invokevirtual 128, 9, 0), (9, .if_icmp .ge 28, 12, 37), (12, .iload_n 1, 13, 0), (13, .aload_n 0, 14, 0), (14, .iload_n 2, 15, 0), (15, .iconst (Int.ofNat 3), 16, 0), (16, .invokevirtual 121, 19, 0), (19, .ifCond .le 9, 22, 28), (22, .iconst (Int.ofNat 1), 23, 0), (23, .iload_n 2, 24, 0), (24, .ishl, 25, 0), (25, .goto 4, 28, 29), (28, .iconst (Int.ofNat 0), 29, 0), (29, .ior, 30, 0), (30, .istore_n 1, 31, 0), (31, .iinc 2 1, 34, 0), (34, .goto (-30), 37, 4), (37, .iload_n 1, 38, 0), (38, .ireturn, 39, 0)]
def tc_307 : List (Nat × Instr × Nat × Nat) := [(0, .aload_n 0, 1, 0), (1, .iconst (Int.ofNat 0), 2, 0), (2, .putfield 3, 5, 0), (5, .aload_n 0, 6, 0), (6, .iload_n 1, 7, 0), (7, .iconst (Int.ofNat 0), 8, 0), (8, .bipush (Int.ofNat 40), 10, 0), (10, .invokestatic 132, 13, 0), (13, .ifCond .ne 7, 16, 20), (16, .iconst (Int.ofNat 1), 17, 0), (17, .goto 4, 20, 21), (20, .iconst (Int.ofNat 0), 21, 0), (21, .iconst (Int.ofNat 1), 22, 0), (22, .invokevirtual 305, 25, 0), (25, .ifCond .ne 25, 28, 50), (28, .aload_n 0, 29, 0), (29, .iload_n 2, 30, 0), (30, .iconst (Int.ofNat 0), 31, 0), (31, .iconst (Int.ofNat 3), 32, 0), (32, .invokestatic 132, 35, 0), (35, .ifCond .ne 7, 38, 42), (38, .iconst (Int.ofNat 1), 39, 0), (39, .goto 4, 42, 43), (42, .iconst (Int.ofNat 0), 43, 0), (43, .iconst (Int.ofNat 2), 44, 0), (44, .invokevirtual 305, 47, 0), (47, .ifCond .eq 5, 50, 52), (50, .iconst (Int.ofNat 0), 51, 0), (51, .ireturn, 52, 0), (52, .aload_n 0, 53, 0), (53, .invokevirtual 451, 56, 0), (56, .iconst (Int.ofNat 0), 57, 0), (57, .istore_n 3, 58, 0), (58, .iload_n 3, 59, 0), (59, .iload_n 1, 60, 0), (60, .if_icmp .ge 13, 63, 73), (63, .aload_n 0, 64, 0), (64, .invokevirtual 405, 67, 0), (67, .iinc 3 1, 70, 0), (70, .goto (-12), 73, 58), (73, .iload_n 2, 74, 0), (74, .ifCond .ne 19, 77, 93), (77, .aload_n 0, 78, 0), (78, .getfield 13, 81, 0), (81, .iconst (Int.ofNat 3), 82, 0), (82, .iaload, 83, 0), (83, .aload_n 0, 84, 0), (84, .getfield 23, 87, 0), (87, .iconst (Int.ofNat 3), 88, 0), (88, .iaload, 89, 0), (89, .isub, 90, 0), (90, .goto 44, 93, 134), (93, .iload_n 2, 94, 0), (94, .iconst (Int.ofNat 1), 95, 0), (95, .if_icmp .ne 19, 98, 114), (98, .aload_n 0, 99, 0), (99, .getfield 13, 102, 0), (102, .iconst (Int.ofNat 4), 103, 0), (103, .iaload, 104, 0), (104, .aload_n 0, 105, 0), (105, .getfield 23, 108, 0), (108, .iconst (Int.ofNat 4), 109, 0), (109, .iaload, 110, 0), (110, .isub, 111, 0), (111, .goto 23, 114, 134), (114, .iload_n 2, 115, 0), (115, .iconst (Int.ofNat 2), 116, 0), (116, .if_icmp .ne 10, 119, 126), (119, .aload_n 0, 120, 0), (120, .invokevirtual 454, 123, 0), (123, .goto 11, 126, 134), (126, .aload_n 0, 127, 0), (127, .aload_n 0, 128, 0), (128, .getfield 29, 131, 0), (131, .invokevirtual 441, 134, 0), (134, .istore_n 3, 135, 0), (135, .aload_n 0, 136, 0), (136, .invokevirtual 457, 139, 0), (139, .iload_n 3, 140, 0), (140, .ireturn, 141, 0)]
def tc_308 : List (Nat × Instr × Nat × Nat) := [(0, .aload_n 0, 1, 0), (1, .iconst (Int.ofNat 0), 2, 0), (2, .putfield 3, 5, 0), (5, .aload_n 0, 6, 0), (6, .iload_n 1, 7, 0), (7, .iconst (Int.ofNat 0), 8, 0), (8, .bipush (Int.ofNat 40), 10, 0), (10, .invokestatic 132, 13, 0), (13, .ifCond .ne 7, 16, 20), (16, .iconst (Int.ofNat 1), 17, 0), (17, .goto 4, 20, 21), (20, .iconst (Int.ofNat 0), 21, 0), (21, .iconst (Int.ofNat 1), 22, 0), (22, .invokevirtual 305, 25, 0), (25, .ifCond .eq 5, 28, 30), (28, .iconst (Int.ofNat 0), 29, 0), (29, .ireturn, 30, 0), (30, .aload_n 0, 31, 0), (31, .invokevirtual 451, 34, 0), (34, .iconst (Int.negSucc 0), 35, 0), (35, .istore_n 3, 36, 0), (36, .iconst (Int.ofNat 1), 37, 0), (37, .istore 4, 39, 0), (39, .iload 4, 41, 0), (41, .bipush (Int.ofNat 6), 43, 0), (43, .if_icmp .gt 85, 46, 128), (46, .aload_n 0, 47, 0), (47, .getfield 13, 50, 0), (50, .bipush (Int.ofNat 9), 52, 0), (52, .iload 4, 54, 0), (54, .iastore, 55, 0), (55, .iconst (Int.ofNat 0), 56, 0), (56, .istore 5, 58, 0), (58, .iload 5, 60, 0), (60, .iload_n 1, 61, 0), (61, .if_icmp .ge 13, 64, 74), (64, .aload_n 0, 65, 0), (65, .invokevirtual 405, 68, 0), (68, .iinc 5 1, 71, 0), (71, .goto (-13), 74, 58), (74, .aload_n 0, 75, 0), (75, .getfield 13, 78, 0), (78, .iconst (Int.ofNat 3), 79, 0), (79, .iaload, 80, 0), (80, .aload_n 0, 81, 0), (81, .getfield 23, 84, 0), (84, .iconst (Int.ofNat 3), 85, 0), (85, .iaload, 86, 0), (86, .isub, 87, 0), (87, .istore 5, 89, 0), (89, .aload_n 0, 90, 0), (90, .invokevirtual 457, 93, 0), (93, .iload_n 3, 94, 0), (94, .ifCond .ge 8, 97, 102), (97, .iload 5, 99, 0), (99, .goto 22, 102, 121), (102, .iload_n 2, 103, 0), (103, .ifCond .eq 12, 106, 115), (106, .iload_n 3, 107, 0), (107, .iload 5, 109, 0), (109, .invokestatic 118, 112, 0), (112, .goto 9, 115, 121), (115, .iload_n 3, 116, 0), (116, .iload 5, 118, 0), (118, .invokestatic 112, 121, 0), (121, .istore_n 3, 122, 0), (122, .iinc 4 1, 125, 0), (125, .goto (-86), 128, 39), (128, .iload_n 3, 129, 0), (129, .ireturn, 130, 0)]
def tc_309 : List (Nat × Instr × Nat × Nat) := [(0, .aload_n 0, 1, 0), (1, .iconst (Int.ofNat 0), 2, 0), (2, .putfield 3, 5, 0), (5, .aload_n 0, 6, 0), (6, .invokevirtual 451, 9, 0), (9, .iconst (Int.ofNat 0), 10, 0), (10, .istore_n 1, 11, 0), (11, .iload_n 1, 12, 0), (12, .bipush (Int.ofNat 40), 14, 0), (14, .if_icmp .ge 28, 17, 42), (17, .aload_n 0, 18, 0), (18, .getfield 13, 21, 0), (21, .iconst (Int.ofNat 3), 22, 0), (22, .iaload, 23, 0), (23, .aload_n 0, 24, 0), (24, .getfield 23, 27, 0), (27, .iconst (Int.ofNat 3), 28, 0), (28, .iaload, 29, 0), (29, .if_icmp .ne 13, 32, 42), (32, .aload_n 0, 33, 0), (33, .invokevirtual 405, 36, 0), (36, .iinc 1 1, 39, 0), (39, .goto (-28), 42, 11), (42, .aload_n 0, 43, 0), (43, .getfield 13, 46, 0), (46, .iconst (Int.ofNat 3), 47, 0), (47, .iaload, 48, 0), (48, .aload_n 0, 49, 0), (49, .getfield 23, 52, 0), (52, .iconst (Int.ofNat 3), 53, 0), (53, .iaload, 54, 0), (54, .if_icmp .le 7, 57, 61), (57, .iconst (Int.ofNat 1), 58, 0), (58, .goto 4, 61, 62), (61, .iconst (Int.ofNat 0), 62, 0), (62, .istore_n 2, 63, 0), (63, .aload_n 0, 64, 0), (64, .invokevirtual 457, 67, 0), (67, .iload_n 2, 68, 0), (68, .ifCond .eq 7, 71, 75), (71, .iload_n 1, 72, 0), (72, .goto 4, 75, 76), (75, .iconst (Int.negSucc 0), 76, 0), (76, .ireturn, 77, 0)]
def tc_310 : List (Nat × Instr × Nat × Nat) := [(0, .aload_n 0, 1, 0), (1, .getfield 13, 4, 0), (4, .sipush (Int.ofNat 148), 7, 0), (7, .iconst (Int.ofNat 4), 8, 0), (8, .iload_n 1, 9, 0), (9, .imul, 10, 0), (10, .iadd, 11, 0), (11, .iload_n 2, 12, 0), (12, .iadd, 13, 0), (13, .iaload, 14, 0), (14, .ireturn, 15, 0)]
def tc_311 : List (Nat × Instr × Nat × Nat) := [(0, .aload_n 0, 1, 0), (1, .iconst (Int.ofNat 0), 2, 0), (2, .putfield 3, 5, 0), (5, .aload_n 0, 6, 0), (6, .iload_n 1, 7, 0), (7, .iconst (Int.negSucc 0), 8, 0), (8, .if_icmp .eq 15, 11, 23), (11, .aload_n 0, 12, 0), (12, .iload_n 1, 13, 0), (13, .invokevirtual 353, 16, 0), (16, .ifCond .eq 7, 19, 23), (19, .iconst (Int.ofNat 1), 20, 0), (20, .goto 4, 23, 24), (23, .iconst (Int.ofNat 0), 24, 0), (24, .iconst (Int.ofNat 1), 25, 0), (25, .invokevirtual 305, 28, 0), (28, .ifCond .eq 5, 31, 33), (31, .iconst (Int.ofNat 0), 32, 0), (32, .ireturn, 33, 0), (33, .iconst (Int.ofNat 0), 34, 0), (34, .istore_n 2, 35, 0), (35, .iconst (Int.ofNat 0), 36, 0), (36, .istore_n 3, 37, 0), (37, .iload_n 3, 38, 0), (38, .aload_n 0, 39, 0), (39, .getfield 13, 42, 0), (42, .bipush (Int.ofNat 6), 44, 0), (44, .iaload, 45, 0), (45, .if_icmp .ge 39, 48, 84), (48, .iload_n 2, 49, 0), (49, .iload_n 1, 50, 0), (50, .iconst (Int.negSucc 0), 51, 0), (51, .if_icmp .eq 13, 54, 64), (54, .aload_n 0, 55, 0), (55, .iload_n 3, 56, 0), (56, .iconst (Int.ofNat 1), 57, 0), (57, .invokevirtual 460, 60, 0), (60, .iload_n 1, 61, 0), (61, .if_icmp .ne 14, 64, 75), (64, .iconst (Int.ofNat 1), 65, 0), (65, .aload_n 0, 66, 0), (66, .iload_n 3, 67, 0), (67, .iconst (Int.ofNat 3), 68, 0), (68, .invokevirtual 460, 71, 0), (71, .ishl, 72, 0), (72, .goto 4, 75, 76), (75, .iconst (Int.ofNat 0), 76, 0), (76, .ior, 77, 0), (77, .istore_n 2, 78, 0), (78, .iinc 3 1, 81, 0), (81, .goto (-44), 84, 37), (84, .iload_n 2, 85, 0), (85, .ireturn, 86, 0)]
def tc_312 : List (Nat × Instr × Nat × Nat) := [(0, .iconst (Int.ofNat 0), 1, 0), (1, .istore_n 2, 2, 0), (2, .iconst (Int.ofNat 0), 3, 0), (3, .istore_n 3, 4, 0), (4, .iload_n 3, 5, 0), (5, .aload_n 0, 6, 0), (6, .getfield 13, 9, 0), (9, .bipush (Int.ofNat 6), 11, 0), (11, .iaload, 12, 0), (12, .if_icmp .ge 27, 15, 39), (15, .iload_n 2, 16, 0), (16, .aload_n 0, 17, 0), (17, .iload_n 3, 18, 0), (18, .iconst (Int.ofNat 3), 19, 0), (19, .invokevirtual 460, 22, 0), (22, .iload_n 1, 23, 0), (23, .if_icmp .ne 7, 26, 30), (26, .iconst (Int.ofNat 1), 27, 0), (27, .goto 4, 30, 31), (30, .iconst (Int.ofNat 0), 31, 0), (31, .iadd, 32, 0), (32, .istore_n 2, 33, 0), (33, .iinc 3 1, 36, 0), (36, .goto (-32), 39, 4), (39, .iload_n 2, 40, 0), (40, .ireturn, 41, 0)]
def tc_313 : List (Nat × Instr × Nat × Nat) := [(0, .aload_n 0, 1, 0), (1, .iconst (Int.ofNat 0), 2, 0), (2, .putfield 3, 5, 0), (5, .iconst (Int.negSucc 0), 6, 0), (6, .istore_n 1, 7, 0), (7, .iconst (Int.ofNat 0), 8, 0), (8, .istore_n 2, 9, 0), (9, .iload_n 2, 10, 0), (10, .aload_n 0, 11, 0), (11, .invokevirtual 136, 14, 0), (14, .if_icmp .ge 36, 17, 50), (17, .aload_n 0, 18, 0), (18, .iload_n 2, 19, 0), (19, .invokevirtual 463, 22, 0), (22, .ifCond .le 22, 25, 44), (25, .iload_n 1, 26, 0), (26, .ifCond .lt 16, 29, 42), (29, .aload_n 0, 30, 0), (30, .iload_n 2, 31, 0), (31, .invokevirtual 463, 34, 0), (34, .aload_n 0, 35, 0), (35, .iload_n 1, 36, 0), (36, .invokevirtual 463, 39, 0), (39, .if_icmp .le 5, 42, 44), (42, .iload_n 2, 43, 0), (43, .istore_n 1, 44, 0), (44, .iinc 2 1, 47, 0), (47, .goto (-38), 50, 9), (50, .iload_n 1, 51, 0), (51, .ireturn, 52, 0)]
def tc_314 : List (Nat × Instr × Nat × Nat) := [(0, .aload_n 0, 1, 0), (1, .iconst (Int.ofNat 0), 2, 0), (2, .putfield 3, 5, 0), (5, .aload_n 0, 6, 0), (6, .iload_n 2, 7, 0), (7, .iconst (Int.ofNat 0), 8, 0), (8, .iconst (Int.ofNat 3), 9, 0), (9, .invokestatic 132, 12, 0), (12, .ifCond .ne 7, 15, 19), (15, .iconst (Int.ofNat 1), 16, 0), (16, .goto 4, 19, 20), (19, .iconst (Int.ofNat 0), 20, 0), (20, .iconst (Int.ofNat 1), 21, 0), (21, .invokevirtual 305, 24, 0), (24, .ifCond .eq 5, 27, 29), (27, .iconst (Int.ofNat 0), 28, 0), (28, .ireturn, 29, 0), (29, .iload_n 1, 30, 0), (30, .iconst (Int.ofNat 0), 31, 0), (31, .aload_n 0, 32, 0), (32, .getfield 13, 35, 0), (35, .bipush (Int.ofNat 6), 37, 0), (37, .iaload, 38, 0), (38, .iconst (Int.ofNat 1), 39, 0), (39, .isub, 40, 0), (40, .invokestatic 132, 43, 0), (43, .ifCond .eq 12, 46, 55), (46, .aload_n 0, 47, 0), (47, .iload_n 1, 48, 0), (48, .iload_n 2, 49, 0), (49, .invokevirtual 460, 52, 0), (52, .goto 4, 55, 56), (55, .iconst (Int.negSucc 0), 56, 0), (56, .ireturn, 57, 0)]
def tc_315 : List (Nat × Instr × Nat × Nat) := [(0, .aload_n 0, 1, 0), (1, .iconst (Int.ofNat 0), 2, 0), (2, .putfield 3, 5, 0), (5, .aload_n 0, 6, 0), (6, .getfield 13, 9, 0), (9, .bipush (Int.ofNat 9), 11, 0), (11, .iaload, 12, 0), (12, .istore_n 2, 13, 0), (13, .aload_n 0, 14, 0), (14, .getfield 13, 17, 0), (17, .bipush (Int.ofNat 9), 19, 0), (19, .iload_n 1, 20, 0), (20, .iastore, 21, 0), (21, .iload_n 2, 22, 0), (22, .ireturn, 23, 0)]
def tc_316 : List (Nat × Instr × Nat × Nat) := [(0, .aload_n 0, 1, 0), (1, .iconst (Int.ofNat 0), 2, 0), (2, .putfield 3, 5, 0), (5, .iload_n 1, 6, 0), (6, .tableswitch 162 0 13 #[70, 75, 80, 88, 95, 102, 107, 112, 119, 126, 133, 141, 149, 157], 76, 0), (76, .aload_n 0, 77, 0), (77, .getfield 51, 80, 0), (80, .ireturn, 81, 0), (81, .aload_n 0, 82, 0), (82, .invokevirtual 128, 85, 0), (85, .ireturn, 86, 0), (86, .aload_n 0, 87, 0), (87, .invokevirtual 408, 90, 0), (90, .invokestatic 308, 93, 0), (93, .ireturn, 94, 0), (94, .aload_n 0, 95, 0), (95, .getfield 13, 98, 0), (98, .iconst (Int.ofNat 1), 99, 0), (99, .iaload, 100, 0), (100, .ireturn, 101, 0), (101, .aload_n 0, 102, 0), (102, .getfield 13, 105, 0), (105, .iconst (Int.ofNat 2), 106, 0), (106, .iaload, 107, 0), (107, .ireturn, 108, 0), (108, .aload_n 0, 109, 0), (109, .invokevirtual 344, 112, 0), (112, .ireturn, 113, 0), (113, .aload_n 0, 114, 0), (114, .invokevirtual 454, 117, 0), (117, .ireturn, 118, 0), (118, .aload_n 0, 119, 0), (119, .getfield 13, 122, 0), (122, .iconst (Int.ofNat 3), 123, 0), (123, .iaload, 124, 0), (124, .ireturn, 125, 0), (125, .aload_n 0, 126, 0), (126, .getfield 13, 129, 0), (129, .iconst (Int.ofNat 4), 130, 0), (130, .iaload, 131, 0), (131, .ireturn, 132, 0), (132, .aload_n 0, 133, 0), (133, .getfield 13, 136, 0), (136, .iconst (Int.ofNat 5), 137, 0), (137, .iaload, 138, 0), (138, .ireturn, 139, 0), (139, .aload_n 0, 140, 0), (140, .getfield 13, 143, 0), (143, .bipush (Int.ofNat 6), 145, 0), (145, .iaload, 146, 0), (146, .ireturn, 147, 0), (147, .aload_n 0, 148, 0), (148, .getfield 13, 151, 0), (151, .bipush (Int.ofNat 7), 153, 0), (153, .iaload, 154, 0), (154, .ireturn, 155, 0), (155, .aload_n 0, 156, 0), (156, .getfield 13, 159, 0), (159, .bipush (Int.ofNat 8), 161, 0), (161, .iaload, 162, 0), (162, .ireturn, 163, 0), (163, .aload_n 0, 164, 0), (164, .getfield 109, 167, 0), (167, .ireturn, 168, 0), (168, .iconst (Int.negSucc 0), 169, 0), (169, .ireturn, 170, 0)]
def tc_317 : List (Nat × Instr × Nat × Nat) := [(0, .iload_n 0, 1, 0), (1, .iconst (Int.negSucc 0), 2, 0), (2, .ixor, 3, 0), (3, .iload_n 0, 4, 0), (4, .iconst (Int.ofNat 1), 5, 0), (5, .isub, 6, 0), (6, .iand, 7, 0), (7, .istore_n 0, 8, 0), (8, .iload_n 0, 9, 0), (9, .ifCond .gt 8, 12, 17), (12, .iload_n 0, 13, 0), (13, .bipush (Int.ofNat 32), 15, 0), (15, .iand, 16, 0), (16, .ireturn, 17, 0), (17, .iconst (Int.ofNat 1), 18, 0), (18, .istore_n 1, 19, 0), (19, .iload_n 0, 20, 0), (20, .ldc_w 264, 23, 0), (23, .if_icmp .le 11, 26, 34), (26, .iinc 1 16, 29, 0), (29, .iload_n 0, 30, 0), (30, .bipush (Int.ofNat 16), 32, 0), (32, .iushr, 33, 0), (33, .istore_n 0, 34, 0), (34, .iload_n 0, 35, 0), (35, .sipush (Int.ofNat 256), 38, 0), (38, .if_icmp .le 11, 41, 49), (41, .iinc 1 8, 44, 0), (44, .iload_n 0, 45, 0), (45, .bipush (Int.ofNat 8), 47, 0), (47, .iushr, 48, 0), (48, .istore_n 0, 49, 0), (49, .iload_n 0, 50, 0), (50, .bipush (Int.ofNat 16), 52, 0), (52, .if_icmp .le 10, 55, 62), (55, .iinc 1 4, 58, 0), (58, .iload_n 0, 59, 0), (59, .iconst (Int.ofNat 4), 60, 0), (60, .iushr, 61, 0), (61, .istore_n 0, 62, 0), (62, .iload_n 0, 63, 0), (63, .iconst (Int.ofNat 4), 64, 0), (64, .if_icmp .le 10, 67, 74), (67, .iinc 1 2, 70, 0), (70, .iload_n 0, 71, 0), (71, .iconst (Int.ofNat 2), 72, 0), (72, .iushr, 73, 0), (73, .istore_n 0, 74, 0), (74, .iload_n 1, 75, 0), (75, .iload_n 0, 76, 0), (76, .iconst (Int.ofNat 1), 77, 0), (77, .iushr, 78, 0), (78, .iadd, 79, 0), (79, .ireturn, 80, 0)]
def tc_318 : List (Nat × Instr × Nat × Nat) := [(0, .iload_n 0, 1, 0), (1, .iload_n 0, 2, 0), (2, .iconst (Int.ofNat 1), 3, 0), (3, .iushr, 4, 0), (4, .ldc_w 265, 7, 0), (7, .iand, 8, 0), (8, .isub, 9, 0), (9, .istore_n 0, 10, 0), (10, .iload_n 0, 11, 0), (11, .ldc_w 266, 14, 0), (14, .iand, 15, 0), (15, .iload_n 0, 16, 0), (16, .iconst (Int.ofNat 2), 17, 0), (17, .iushr, 18, 0), (18, .ldc_w 266, 21, 0), (21, .iand, 22, 0), (22, .iadd, 23, 0), (23, .istore_n 0, 24, 0), (24, .iload_n 0, 25, 0), (25, .iload_n 0, 26, 0), (26, .iconst (Int.ofNat 4), 27, 0), (27, .iushr, 28, 0), (28, .iadd, 29, 0), (29, .ldc_w 267, 32, 0), (32, .iand, 33, 0), (33, .istore_n 0, 34, 0), (34, .iload_n 0, 35, 0), (35, .iload_n 0, 36, 0), (36, .bipush (Int.ofNat 8), 38, 0), (38, .iushr, 39, 0), (39, .iadd, 40, 0), (40, .istore_n 0, 41, 0), (41, .iload_n 0, 42, 0), (42, .iload_n 0, 43, 0), (43, .bipush (Int.ofNat 16), 45, 0), (45, .iushr, 46, 0), (46, .iadd, 47, 0), (47, .istore_n 0, 48, 0), (48, .iload_n 0, 49, 0), (49, .bipush (Int.ofNat 63), 51, 0), (51, .iand, 52, 0), (52, .ireturn, 53, 0)]
def tc_319 : List (Nat × Instr × Nat × Nat) := [(0, .lload_n 0, 1, 0), (1, .lload_n 0, 2, 0), (2, .iconst (Int.ofNat 1), 3, 0), (3, .lushr, 4, 0), (4, .ldc2_w 314, 7, 0), (7, .land, 8, 0), (8, .lsub, 9, 0), (9, .lstore_n 0, 10, 0), (10, .lload_n 0, 11, 0), (11, .ldc2_w 316, 14, 0), (14, .land, 15, 0), (15, .lload_n 0, 16, 0), (16, .iconst (Int.ofNat 2), 17, 0), (17, .lushr, 18, 0), (18, .ldc2_w 316, 21, 0), (21, .land, 22, 0), (22, .ladd, 23, 0), (23, .lstore_n 0, 24, 0), (24, .lload_n 0, 25, 0), (25, .lload_n 0, 26, 0), (26, .iconst (Int.ofNat 4), 27, 0), (27, .lushr, 28, 0), (28, .ladd, 29, 0), (29, .ldc2_w 318, 32, 0), (32, .land, 33, 0), (33, .lstore_n 0, 34, 0), (34, .lload_n 0, 35, 0), (35, .lload_n 0, 36, 0), (36, .bipush (Int.ofNat 8), 38, 0), (38, .lushr, 39, 0), (39, .ladd, 40, 0), (40, .lstore_n 0, 41, 0), (41, .lload_n 0, 42, 0), (42, .lload_n 0, 43, 0), (43, .bipush (Int.ofNat 16), 45, 0), (45, .lushr, 46, 0), (46, .ladd, 47, 0), (47, .lstore_n 0, 48, 0), (48, .lload_n 0, 49, 0), (49, .lload_n 0, 50, 0), (50, .bipush (Int.ofNat 32), 52, 0), (52, .lushr, 53, 0), (53, .ladd, 54, 0), (54, .lstore_n 0, 55, 0), (55, .lload_n 0, 56, 0), (56, .l2i, 57, 0), (57, .bipush (Int.ofNat 127), 59, 0), (59, .iand, 60, 0), (60, .ireturn, 61, 0)]
def tc_320 : List (Nat × Instr × Nat × Nat) := [(0, .iload_n 0, 1, 0), (1, .iload_n 1, 2, 0), (2, .if_icmp .lt 7, 5, 9), (5, .iload_n 0, 6, 0), (6, .goto 4, 9, 10), (9, .iload_n 1, 10, 0), (10, .ireturn, 11, 0)]
def tc_321 : List (Nat × Instr × Nat × Nat) := [(0, .iload_n 0, 1, 0), (1, .iload_n 1, 2, 0), (2, .if_icmp .gt 7, 5, 9), (5, .iload_n 0, 6, 0), (6, .goto 4, 9, 10), (9, .iload_n 1, 10, 0), (10, .ireturn, 11, 0)]
def tc_322 : List (Nat × Instr × Nat × Nat) := [(0, .aload_n 1, 1, 0), (1, .iconst (Int.ofNat 0), 2, 0), (2, .aload_n 0, 3, 0), (3, .invokevirtual 7, 6, 0), (6, .i2l, 7, 0), (7, .lastore, 8, 0), (8, .goto 9, 11, 17), (11, .astore_n 2, 12, 0), (12, .iconst (Int.ofNat 1), 13, 0), (13, .ireturn, 14, 0), (14, .astore_n 2, 15, 0), (15, .iconst (Int.ofNat 2), 16, 0), (16, .ireturn, 17, 0), (17, .iconst (Int.ofNat 0), 18, 0), (18, .ireturn, 19, 0)]
def tc_323 : List (Nat × Instr × Nat × Nat) := [(0, .aload_n 1, 1, 0), (1, .iconst (Int.ofNat 0), 2, 0), (2, .aload_n 0, 3, 0), (3, .invokevirtual 17, 6, 0), (6, .i2l, 7, 0), (7, .lastore, 8, 0), (8, .goto 9, 11, 17), (11, .astore_n 2, 12, 0), (12, .iconst (Int.ofNat 1), 13, 0), (13, .ireturn, 14, 0), (14, .astore_n 2, 15, 0), (15, .iconst (Int.ofNat 2), 16, 0), (16, .ireturn, 17, 0), (17, .iconst (Int.ofNat 0), 18, 0), (18, .ireturn, 19, 0)]
def tc_324 : List (Nat × Instr × Nat × Nat) := [(0, .aload_n 3, 1, 0), (1, .iconst (Int.ofNat 0), 2, 0), (2, .aload_n 0, 3, 0), (3, .iload_n 1, 4, 0), (4, .iload_n 2, 5, 0), (5, .invokevirtual 22, 8, 0), (8, .i2l, 9, 0), (9, .lastore, 10, 0), (10, .goto 11, 13, 21), (13, .astore 4, 15, 0), (15, .iconst (Int.ofNat 1), 16, 0), (16, .ireturn, 17, 0), (17, .astore 4, 19, 0), (19, .iconst (Int.ofNat 2), 20, 0), (20, .ireturn, 21, 0), (21, .iconst (Int.ofNat 0), 22, 0), (22, .ireturn, 23, 0)]
def tc_325 : List (Nat × Instr × Nat × Nat) := [(0, .aload_n 3, 1, 0), (1, .iconst (Int.ofNat 0), 2, 0), (2, .aload_n 0, 3, 0), (3, .iload_n 1, 4, 0), (4, .iload_n 2, 5, 0), (5, .invokevirtual 30, 8, 0), (8, .i2l, 9, 0), (9, .lastore, 10, 0), (10, .goto 11, 13, 21), (13, .astore 4, 15, 0), (15, .iconst (Int.ofNat 1), 16, 0), (16, .ireturn, 17, 0), (17, .astore 4, 19, 0), (19, .iconst (Int.ofNat 2), 20, 0), (20, .ireturn, 21, 0), (21, .iconst (Int.ofNat 0), 22, 0), (22, .ireturn, 23, 0)]
def tc_326 : List (Nat × Instr × Nat × Nat) := [(0, .aload_n 2, 1, 0), (1, .iconst (Int.ofNat 0), 2, 0), (2, .aload_n 0, 3, 0), (3, .iload_n 1, 4, 0), (4, .invokevirtual 33, 7, 0), (7, .lastore, 8, 0), (8, .goto 6, 11, 14), (11, .astore_n 3, 12, 0), (12, .iconst (Int.ofNat 1), 13, 0), (13, .ireturn, 14, 0), (14, .iconst (Int.ofNat 0), 15, 0), (15, .ireturn, 16, 0)]
def tc_327 : List (Nat × Instr × Nat × Nat) := [(0, .aload_n 3, 1, 0), (1, .iconst (Int.ofNat 0), 2, 0), (2, .aload_n 0, 3, 0), (3, .iload_n 1, 4, 0), (4, .iload_n 2, 5, 0), (5, .invokevirtual 37, 8, 0), (8, .i2l, 9, 0), (9, .lastore, 10, 0), (10, .goto 7, 13, 17), (13, .astore 4, 15, 0), (15, .iconst (Int.ofNat 1), 16, 0), (16, .ireturn, 17, 0), (17, .iconst (Int.ofNat 0), 18, 0), (18, .ireturn, 19, 0)]
def tc_328 : List (Nat × Instr × Nat × Nat) := [(0, .aload 4, 2, 0), (2, .iconst (Int.ofNat 0), 3, 0), (3, .aload_n 0, 4, 0), (4, .iload_n 1, 5, 0), (5, .iload_n 2, 6, 0), (6, .iload_n 3, 7, 0), (7, .invokevirtual 40, 10, 0), (10, .i2l, 11, 0), (11, .lastore, 12, 0), (12, .goto 15, 15, 27), (15, .astore 5, 17, 0), (17, .iconst (Int.ofNat 1), 18, 0), (18, .ireturn, 19, 0), (19, .astore 5, 21, 0), (21, .iconst (Int.ofNat 2), 22, 0), (22, .ireturn, 23, 0), (23, .astore 5, 25, 0), (25, .iconst (Int.ofNat 3), 26, 0), (26, .ireturn, 27, 0), (27, .iconst (Int.ofNat 0), 28, 0), (28, .ireturn, 29, 0)]
def tc_329 : List (Nat × Instr × Nat × Nat) := [(0, .aload_n 3, 1, 0), (1, .iconst (Int.ofNat 0), 2, 0), (2, .aload_n 0, 3, 0), (3, .iload_n 1, 4, 0), (4, .iload_n 2, 5, 0), (5, .invokevirtual 44, 8, 0), (8, .i2l, 9, 0), (9, .lastore, 10, 0), (10, .goto 11, 13, 21), (13, .astore 4, 15, 0), (15, .iconst (Int.ofNat 1), 16, 0), (16, .ireturn, 17, 0), (17, .astore 4, 19, 0), (19, .iconst (Int.ofNat 2), 20, 0), (20, .ireturn, 21, 0), (21, .iconst (Int.ofNat 0), 22, 0), (22, .ireturn, 23, 0)]
def tc_330 : List (Nat × Instr × Nat × Nat) := [(0, .aload_n 2, 1, 0), (1, .iconst (Int.ofNat 0), 2, 0), (2, .aload_n 0, 3, 0), (3, .iload_n 1, 4, 0), (4, .invokevirtual 47, 7, 0), (7, .i2l, 8, 0), (8, .lastore, 9, 0), (9, .goto 9, 12, 18), (12, .astore_n 3, 13, 0), (13, .iconst (Int.ofNat 1), 14, 0), (14, .ireturn, 15, 0), (15, .astore_n 3, 16, 0), (16, .iconst (Int.ofNat 2), 17, 0), (17, .ireturn, 18, 0), (18, .iconst (Int.ofNat 0), 19, 0), (19, .ireturn, 20, 0)]
def tc_331 : List (Nat × Instr × Nat × Nat) := [(0, .aload_n 3, 1, 0), (1, .iconst (Int.ofNat 0), 2, 0), (2, .aload_n 0, 3, 0), (3, .iload_n 1, 4, 0), (4, .iload_n 2, 5, 0), (5, .invokevirtual 51, 8, 0), (8, .i2l, 9, 0), (9, .lastore, 10, 0), (10, .goto 15, 13, 25), (13, .astore 4, 15, 0), (15, .iconst (Int.ofNat 1), 16, 0), (16, .ireturn, 17, 0), (17, .astore 4, 19, 0), (19, .iconst (Int.ofNat 2), 20, 0), (20, .ireturn, 21, 0), (21, .astore 4, 23, 0), (23, .iconst (Int.ofNat 3), 24, 0), (24, .ireturn, 25, 0), (25, .iconst (Int.ofNat 0), 26, 0), (26, .ireturn, 27, 0)]
def tc_332 : List (Nat × Instr × Nat × Nat) := [(0, .aload_n 2, 1, 0), (1, .iconst (Int.ofNat 0), 2, 0), (2, .aload_n 0, 3, 0), (3, .iload_n 1, 4, 0), (4, .invokevirtual 54, 7, 0), (7, .i2l, 8, 0), (8, .lastore, 9, 0), (9, .goto 12, 12, 21), (12, .astore_n 3, 13, 0), (13, .iconst (Int.ofNat 1), 14, 0), (14, .ireturn, 15, 0), (15, .astore_n 3, 16, 0), (16, .iconst (Int.ofNat 2), 17, 0), (17, .ireturn, 18, 0), (18, .astore_n 3, 19, 0), (19, .iconst (Int.ofNat 3), 20, 0), (20, .ireturn, 21, 0), (21, .iconst (Int.ofNat 0), 22, 0), (22, .ireturn, 23, 0)]
def tc_333 : List (Nat × Instr × Nat × Nat) := [(0, .aload_n 2, 1, 0), (1, .iconst (Int.ofNat 0), 2, 0), (2, .aload_n 0, 3, 0), (3, .iload_n 1, 4, 0), (4, .invokevirtual 57, 7, 0), (7, .i2l, 8, 0), (8, .lastore, 9, 0), (9, .goto 9, 12, 18), (12, .astore_n 3, 13, 0), (13, .iconst (Int.ofNat 1), 14, 0), (14, .ireturn, 15, 0), (15, .astore_n 3, 16, 0), (16, .iconst (Int.ofNat 2), 17, 0), (17, .ireturn, 18, 0), (18, .iconst (Int.ofNat 0), 19, 0), (19, .ireturn, 20, 0)]
def tc_334 : List (Nat × Instr × Nat × Nat) := [(0, .aload_n 2, 1, 0), (1, .iconst (Int.ofNat 0), 2, 0), (2, .aload_n 0, 3, 0), (3, .iload_n 1, 4, 0), (4, .invokevirtual 60, 7, 0), (7, .i2l, 8, 0), (8, .lastore, 9, 0), (9, .goto 6, 12, 15), (12, .astore_n 3, 13, 0), (13, .iconst (Int.ofNat 1), 14, 0), (14, .ireturn, 15, 0), (15, .iconst (Int.ofNat 0), 16, 0), (16, .ireturn, 17, 0)]
def tc_335 : List (Nat × Instr × Nat × Nat) := [(0, .aload_n 2, 1, 0), (1, .iconst (Int.ofNat 0), 2, 0), (2, .aload_n 0, 3, 0), (3, .iload_n 1, 4, 0), (4, .invokevirtual 63, 7, 0), (7, .i2l, 8, 0), (8, .lastore, 9, 0), (9, .goto 9, 12, 18), (12, .astore_n 3, 13, 0), (13, .iconst (Int.ofNat 1), 14, 0), (14, .ireturn, 15, 0), (15, .astore_n 3, 16, 0), (16, .iconst (Int.ofNat 2), 17, 0), (17, .ireturn, 18, 0), (18, .iconst (Int.ofNat 0), 19, 0), (19, .ireturn, 20, 0)]
def tc_336 : List (Nat × Instr × Nat × Nat) := [(0, .aload_n 2, 1, 0), (1, .iconst (Int.ofNat 0), 2, 0), (2, .aload_n 0, 3, 0), (3, .iload_n 1, 4, 0), (4, .invokevirtual 66, 7, 0), (7, .i2l, 8, 0), (8, .lastore, 9, 0), (9, .goto 12, 12, 21), (12, .astore_n 3, 13, 0), (13, .iconst (Int.ofNat 1), 14, 0), (14, .ireturn, 15, 0), (15, .astore_n 3, 16, 0), (16, .iconst (Int.ofNat 2), 17, 0), (17, .ireturn, 18, 0), (18, .astore_n 3, 19, 0), (19, .iconst (Int.ofNat 3), 20, 0), (20, .ireturn, 21, 0), (21, .iconst (Int.ofNat 0), 22, 0), (22, .ireturn, 23, 0)]
def tc_337 : List (Nat × Instr × Nat × Nat) := [(0, .aload_n 2, 1, 0), (1, .iconst (Int.ofNat 0), 2, 0), (2, .aload_n 0, 3, 0), (3, .iload_n 1, 4, 0), (4, .invokevirtual 69, 7, 0), (7, .i2l, 8, 0), (8, .lastore, 9, 0), (9, .goto 9, 12, 18), (12, .astore_n 3, 13, 0), (13, .iconst (Int.ofNat 1), 14, 0), (14, .ireturn, 15, 0), (15, .astore_n 3, 16, 0), (16, .iconst (Int.ofNat 2), 17, 0), (17, .ireturn, 18, 0), (18, .iconst (Int.ofNat 0), 19, 0), (19, .ireturn, 20, 0)]
def tc_338 : List (Nat × Instr × Nat × Nat) := [(0, .aload_n 2, 1, 0), (1, .iconst (Int.ofNat 0), 2, 0), (2, .aload_n 0, 3, 0), (3, .iload_n 1, 4, 0), (4, .invokevirtual 72, 7, 0), (7, .i2l, 8, 0), (8, .lastore, 9, 0), (9, .goto 6, 12, 15), (12, .astore_n 3, 13, 0), (13, .iconst (Int.ofNat 1), 14, 0), (14, .ireturn, 15, 0), (15, .iconst (Int.ofNat 0), 16, 0), (16, .ireturn, 17, 0)]
def tc_339 : List (Nat × Instr × Nat × Nat) := [(0, .aload_n 3, 1, 0), (1, .iconst (Int.ofNat 0), 2, 0), (2, .aload_n 0, 3, 0), (3, .iload_n 1, 4, 0), (4, .iload_n 2, 5, 0), (5, .invokevirtual 75, 8, 0), (8, .i2l, 9, 0), (9, .lastore, 10, 0), (10, .goto 15, 13, 25), (13, .astore 4, 15, 0), (15, .iconst (Int.ofNat 1), 16, 0), (16, .ireturn, 17, 0), (17, .astore 4, 19, 0), (19, .iconst (Int.ofNat 2), 20, 0), (20, .ireturn, 21, 0), (21, .astore 4, 23, 0), (23, .iconst (Int.ofNat 3), 24, 0), (24, .ireturn, 25, 0), (25, .iconst (Int.ofNat 0), 26, 0), (26, .ireturn, 27, 0)]
def tc_340 : List (Nat × Instr × Nat × Nat) := [(0, .aload_n 3, 1, 0), (1, .iconst (Int.ofNat 0), 2, 0), (2, .aload_n 0, 3, 0), (3, .iload_n 1, 4, 0), (4, .iload_n 2, 5, 0), (5, .invokevirtual 78, 8, 0), (8, .i2l, 9, 0), (9, .lastore, 10, 0), (10, .goto 11, 13, 21), (13, .astore 4, 15, 0), (15, .iconst (Int.ofNat 1), 16, 0), (16, .ireturn, 17, 0), (17, .astore 4, 19, 0), (19, .iconst (Int.ofNat 2), 20, 0), (20, .ireturn, 21, 0), (21, .iconst (Int.ofNat 0), 22, 0), (22, .ireturn, 23, 0)]
def tc_341 : List (Nat × Instr × Nat × Nat) := [(0, .aload_n 3, 1, 0), (1, .iconst (Int.ofNat 0), 2, 0), (2, .aload_n 0, 3, 0), (3, .iload_n 1, 4, 0), (4, .iload_n 2, 5, 0), (5, .invokevirtual 81, 8, 0), (8, .i2l, 9, 0), (9, .lastore, 10, 0), (10, .goto 15, 13, 25), (13, .astore 4, 15, 0), (15, .iconst (Int.ofNat 1), 16, 0), (16, .ireturn, 17, 0), (17, .astore 4, 19, 0), (19, .iconst (Int.ofNat 2), 20, 0), (20, .ireturn, 21, 0), (21, .astore 4, 23, 0), (23, .iconst (Int.ofNat 3), 24, 0), (24, .ireturn, 25, 0), (25, .iconst (Int.ofNat 0), 26, 0), (26, .ireturn, 27, 0)]
def tc_342 : List (Nat × Instr × Nat × Nat) := [(0, .aload_n 3, 1, 0), (1, .iconst (Int.ofNat 0), 2, 0), (2, .aload_n 0, 3, 0), (3, .iload_n 1, 4, 0), (4, .iload_n 2, 5, 0), (5, .invokevirtual 84, 8, 0), (8, .i2l, 9, 0), (9, .lastore, 10, 0), (10, .goto 7, 13, 17), (13, .astore 4, 15, 0), (15, .iconst (Int.ofNat 1), 16, 0), (16, .ireturn, 17, 0), (17, .iconst (Int.ofNat 0), 18, 0), (18, .ireturn, 19, 0)]
def tc_343 : List (Nat × Instr × Nat × Nat) := [(0, .aload_n 2, 1, 0), (1, .iconst (Int.ofNat 0), 2, 0), (2, .aload_n 0, 3, 0), (3, .iload_n 1, 4, 0), (4, .invokevirtual 88, 7, 0), (7, .i2l, 8, 0), (8, .lastore, 9, 0), (9, .goto 9, 12, 18), (12, .astore_n 3, 13, 0), (13, .iconst (Int.ofNat 1), 14, 0), (14, .ireturn, 15, 0), (15, .astore_n 3, 16, 0), (16, .iconst (Int.ofNat 2), 17, 0), (17, .ireturn, 18, 0), (18, .iconst (Int.ofNat 0), 19, 0), (19, .ireturn, 20, 0)]
def tc_344 : List (Nat × Instr × Nat × Nat) := [(0, .aload_n 2, 1, 0), (1, .iconst (Int.ofNat 0), 2, 0), (2, .aload_n 0, 3, 0), (3, .iload_n 1, 4, 0), (4, .invokevirtual 91, 7, 0), (7, .i2l, 8, 0), (8, .lastore, 9, 0), (9, .goto 6, 12, 15), (12, .astore_n 3, 13, 0), (13, .iconst (Int.ofNat 1), 14, 0), (14, .ireturn, 15, 0), (15, .iconst (Int.ofNat 0), 16, 0), (16, .ireturn, 17, 0)]
def tc_345 : List (Nat × Instr × Nat × Nat) := [(0, .aload_n 2, 1, 0), (1, .iconst (Int.ofNat 0), 2, 0), (2, .aload_n 0, 3, 0), (3, .iload_n 1, 4, 0), (4, .invokevirtual 94, 7, 0), (7, .i2l, 8, 0), (8, .lastore, 9, 0), (9, .goto 6, 12, 15), (12, .astore_n 3, 13, 0), (13, .iconst (Int.ofNat 1), 14, 0), (14, .ireturn, 15, 0), (15, .iconst (Int.ofNat 0), 16, 0), (16, .ireturn, 17, 0)]
def tc_346 : List (Nat × Instr × Nat × Nat) := [(0, .aload_n 2, 1, 0), (1, .iconst (Int.ofNat 0), 2, 0), (2, .aload_n 0, 3, 0), (3, .iload_n 1, 4, 0), (4, .invokevirtual 97, 7, 0), (7, .i2l, 8, 0), (8, .lastore, 9, 0), (9, .goto 6, 12, 15), (12, .astore_n 3, 13, 0), (13, .iconst (Int.ofNat 1), 14, 0), (14, .ireturn, 15, 0), (15, .iconst (Int.ofNat 0), 16, 0), (16, .ireturn, 17, 0)]
def tc_347 : List (Nat × Instr × Nat × Nat) := [(0, .aload_n 3, 1, 0), (1, .iconst (Int.ofNat 0), 2, 0), (2, .aload_n 0, 3, 0), (3, .iload_n 1, 4, 0), (4, .iload_n 2, 5, 0), (5, .invokevirtual 100, 8, 0), (8, .i2l, 9, 0), (9, .lastore, 10, 0), (10, .goto 11, 13, 21), (13, .astore 4, 15, 0), (15, .iconst (Int.ofNat 1), 16, 0), (16, .ireturn, 17, 0), (17, .astore 4, 19, 0), (19, .iconst (Int.ofNat 2), 20, 0), (20, .ireturn, 21, 0), (21, .iconst (Int.ofNat 0), 22, 0), (22, .ireturn, 23, 0)]
def tc_348 : List (Nat × Instr × Nat × Nat) := [(0, .aload_n 3, 1, 0), (1, .iconst (Int.ofNat 0), 2, 0), (2, .aload_n 0, 3, 0), (3, .iload_n 1, 4, 0), (4, .iload_n 2, 5, 0), (5, .invokevirtual 103, 8, 0), (8, .i2l, 9, 0), (9, .lastore, 10, 0), (10, .goto 11, 13, 21), (13, .astore 4, 15, 0), (15, .iconst (Int.ofNat 1), 16, 0), (16, .ireturn, 17, 0), (17, .astore 4, 19, 0), (19, .iconst (Int.ofNat 2), 20, 0), (20, .ireturn, 21, 0), (21, .iconst (Int.ofNat 0), 22, 0), (22, .ireturn, 23, 0)]
def tc_349 : List (Nat × Instr × Nat × Nat) := [(0, .aload 4, 2, 0), (2, .iconst (Int.ofNat 0), 3, 0), (3, .aload_n 0, 4, 0), (4, .iload_n 1, 5, 0), (5, .iload_n 2, 6, 0), (6, .iload_n 3, 7, 0), (7, .invokevirtual 106, 10, 0), (10, .i2l, 11, 0), (11, .lastore, 12, 0), (12, .goto 11, 15, 23), (15, .astore 5, 17, 0), (17, .iconst (Int.ofNat 1), 18, 0), (18, .ireturn, 19, 0), (19, .astore 5, 21, 0), (21, .iconst (Int.ofNat 2), 22, 0), (22, .ireturn, 23, 0), (23, .iconst (Int.ofNat 0), 24, 0), (24, .ireturn, 25, 0)]
def tc_350 : List (Nat × Instr × Nat × Nat) := [(0, .aload_n 3, 1, 0), (1, .iconst (Int.ofNat 0), 2, 0), (2, .aload_n 0, 3, 0), (3, .iload_n 1, 4, 0), (4, .iload_n 2, 5, 0), (5, .invokevirtual 109, 8, 0), (8, .i2l, 9, 0), (9, .lastore, 10, 0), (10, .goto 11, 13, 21), (13, .astore 4, 15, 0), (15, .iconst (Int.ofNat 1), 16, 0), (16, .ireturn, 17, 0), (17, .astore 4, 19, 0), (19, .iconst (Int.ofNat 2), 20, 0), (20, .ireturn, 21, 0), (21, .iconst (Int.ofNat 0), 22, 0), (22, .ireturn, 23, 0)]
def tc_351 : List (Nat × Instr × Nat × Nat) := [(0, .aload_n 3, 1, 0), (1, .iconst (Int.ofNat 0), 2, 0), (2, .aload_n 0, 3, 0), (3, .iload_n 1, 4, 0), (4, .iload_n 2, 5, 0), (5, .invokevirtual 112, 8, 0), (8, .i2l, 9, 0), (9, .lastore, 10, 0), (10, .goto 7, 13, 17), (13, .astore 4, 15, 0), (15, .iconst (Int.ofNat 1), 16, 0), (16, .ireturn, 17, 0), (17, .iconst (Int.ofNat 0), 18, 0), (18, .ireturn, 19, 0)]
def tc_352 : List (Nat × Instr × Nat × Nat) := [(0, .aload_n 2, 1, 0), (1, .iconst (Int.ofNat 0), 2, 0), (2, .aload_n 0, 3, 0), (3, .iload_n 1, 4, 0), (4, .invokevirtual 115, 7, 0), (7, .i2l, 8, 0), (8, .lastore, 9, 0), (9, .goto 6, 12, 15), (12, .astore_n 3, 13, 0), (13, .iconst (Int.ofNat 1), 14, 0), (14, .ireturn, 15, 0), (15, .iconst (Int.ofNat 0), 16, 0), (16, .ireturn, 17, 0)]
def tc_353 : List (Nat × Instr × Nat × Nat) := [(0, .aload_n 3, 1, 0), (1, .iconst (Int.ofNat 0), 2, 0), (2, .aload_n 0, 3, 0), (3, .iload_n 1, 4, 0), (4, .iload_n 2, 5, 0), (5, .invokevirtual 118, 8, 0), (8, .i2l, 9, 0), (9, .lastore, 10, 0), (10, .goto 7, 13, 17), (13, .astore 4, 15, 0), (15, .iconst (Int.ofNat 1), 16, 0), (16, .ireturn, 17, 0), (17, .iconst (Int.ofNat 0), 18, 0), (18, .ireturn, 19, 0)]
end
section
def ea_as {α : Type} (l : List (Nat × α)) (k : Nat) : Option α := match l with
  | [] => none
  | q :: t => bif Nat.beq q.1 k then some q.2 else ea_as t k
/-! the pools of each class: entry, what it is, where its words stand -/
def tp_0 : List (Nat × (Nat × Nat × Nat) × List (Nat × Nat)) := [(7, (2, 133, 0), [(3, 202), (3, 203), (3, 204)]), (8, (5, 11, 16), [(1, 30), (1, 31), (1, 1)]), (17, (2, 134, 0), [(4, 198), (4, 199), (4, 200)]), (22, (2, 136, 2), [(5, 53), (5, 54), (5, 55)]), (30, (2, 137, 2), [(5, 108), (5, 109), (5, 110)]), (33, (2, 138, 1), [(5, 134), (5, 135), (5, 136)]), (37, (2, 139, 2), [(5, 141), (5, 142), (5, 143)]), (40, (2, 140, 3), [(5, 149), (5, 150), (5, 151)]), (44, (2, 141, 2), [(5, 175), (5, 176), (5, 177)]), (47, (2, 142, 1), [(5, 189), (5, 190), (5, 191)]), (51, (2, 143, 2), [(5, 200), (5, 201), (5, 202)]), (54, (2, 144, 1), [(5, 213), (5, 214), (5, 215)]), (57, (2, 145, 1), [(5, 227), (5, 228), (5, 229)]), (60, (2, 146, 1), [(5, 235), (5, 236), (5, 237)]), (63, (2, 149, 1), [(6, 6), (6, 7), (6, 8)]), (66, (2, 150, 1), [(6, 41), (6, 42), (6, 43)]), (69, (2, 152, 1), [(6, 57), (6, 58), (6, 59)]), (72, (2, 153, 1), [(6, 68), (6, 69), (6, 70)]), (75, (2, 154, 2), [(6, 81), (6, 82), (6, 83)]), (78, (2, 155, 2), [(6, 104), (6, 105), (6, 106)]), (81, (2, 156, 2), [(6, 115), (6, 116), (6, 117)]), (84, (2, 157, 2), [(6, 127), (6, 128), (6, 129)]), (88, (2, 158, 1), [(6, 144), (6, 145), (6, 146)]), (91, (2, 159, 1), [(6, 156), (6, 157), (6, 158)]), (94, (2, 160, 1), [(6, 172), (6, 173), (6, 174)]), (97, (2, 162, 1), [(6, 188), (6, 189), (6, 190)]), (100, (2, 164, 2), [(6, 200), (6, 201), (6, 202)]), (103, (2, 165, 2), [(6, 217), (6, 218), (6, 219)]), (106, (2, 166, 3), [(6, 229), (6, 230), (6, 231)]), (109, (2, 167, 2), [(7, 0), (7, 1), (7, 2)]), (112, (2, 168, 2), [(7, 11), (7, 12), (7, 13)]), (115, (2, 170, 1), [(7, 18), (7, 19), (7, 20)]), (118, (2, 172, 2), [(7, 29), (7, 30), (7, 31)]), (121, (3, 130, 0), [(1, 32), (1, 33)]), (122, (5, 12, 38), [(7, 38), (7, 39), (1, 13)]), (124, (3, 191, 0), [(7, 40), (7, 41)]), (125, (2, 131, 5), [(2, 183), (2, 184), (2, 185)]), (129, (2, 212, 5), [(7, 177), (7, 178), (7, 179)]), (130, (2, 132, 1), [(2, 191), (2, 192), (2, 193)]), (134, (2, 213, 1), [(7, 181), (7, 182), (7, 183)]), (135, (1, 322, 2), [(3, 197), (3, 198)]), (140, (2, 244, 0), [(7, 189), (7, 190), (7, 191)]), (141, (2, 186, 0), [(7, 34), (7, 35), (7, 36)]), (144, (1, 323, 2), [(4, 194), (4, 195)]), (146, (2, 245, 0), [(8, 116), (8, 117), (8, 118)]), (147, (2, 135, 0), [(2, 195), (2, 196), (2, 197)]), (150, (2, 223, 0), [(7, 185), (7, 186), (7, 187)]), (151, (1, 324, 4), [(5, 48), (5, 49)]), (154, (2, 256, 2), [(8, 120), (8, 121), (8, 122)]), (155, (1, 325, 4), [(5, 105), (5, 106)]), (157, (2, 258, 2), [(8, 171), (8, 172), (8, 173)]), (158, (1, 326, 3), [(5, 131), (5, 132)]), (161, (2, 259, 1), [(8, 188), (8, 189), (8, 190)]), (162, (1, 327, 4), [(5, 138), (5, 139)]), (164, (2, 260, 2), [(8, 192), (8, 193), (8, 194)]), (165, (1, 328, 5), [(5, 146), (5, 147)]), (168, (2, 262, 3), [(8, 196), (8, 197), (8, 198)]), (169, (1, 329, 4), [(5, 172), (5, 173)]), (171, (2, 263, 2), [(8, 222), (8, 223), (8, 224)]), (172, (1, 330, 3), [(5, 186), (5, 187)]), (174, (2, 264, 1), [(8, 231), (8, 232), (8, 233)]), (175, (1, 331, 4), [(5, 197), (5, 198)]), (177, (2, 265, 2), [(8, 235), (8, 236), (8, 237)]), (178, (1, 332, 3), [(5, 210), (5, 211)]), (180, (2, 266, 1), [(8, 239), (9, 0), (9, 1)]), (181, (1, 333, 3), [(5, 224), (5, 225)]), (183, (2, 267, 1), [(9, 3), (9, 4), (9, 5)]), (184, (1, 334, 3), [(5, 232), (5, 233)]), (186, (2, 272, 1), [(9, 7), (9, 8), (9, 9)]), (187, (2, 147, 0), [(2, 199), (2, 200), (2, 201)]), (190, (2, 273, 0), [(9, 36), (9, 37), (9, 38)]), (191, (2, 148, 0), [(3, 6), (3, 7), (3, 8)]), (194, (2, 274, 0), [(9, 44), (9, 45), (9, 46)]), (195, (1, 335, 3), [(6, 3), (6, 4)]), (197, (2, 279, 1), [(9, 48), (9, 49), (9, 50)]), (198, (1, 336, 3), [(6, 38), (6, 39)]), (200, (2, 280, 1), [(9, 68), (9, 69), (9, 70)]), (201, (2, 151, 0), [(3, 36), (3, 37), (3, 38)]), (204, (2, 281, 0), [(9, 72), (9, 73), (9, 74)]), (205, (1, 337, 3), [(6, 54), (6, 55)]), (207, (2, 282, 1), [(9, 76), (9, 77), (9, 78)]), (208, (1, 338, 3), [(6, 65), (6, 66)]), (210, (2, 283, 1), [(9, 80), (9, 81), (9, 82)]), (211, (1, 339, 4), [(6, 78), (6, 79)]), (213, (2, 286, 2), [(9, 84), (9, 85), (9, 86)]), (214, (1, 340, 4), [(6, 101), (6, 102)]), (216, (2, 287, 2), [(9, 95), (9, 96), (9, 97)]), (217, (1, 341, 4), [(6, 112), (6, 113)]), (219, (2, 288, 2), [(9, 102), (9, 103), (9, 104)]), (220, (1, 342, 4), [(6, 124), (6, 125)]), (223, (2, 289, 2), [(9, 106), (9, 107), (9, 108)]), (224, (1, 343, 3), [(6, 141), (6, 142)]), (226, (2, 290, 1), [(9, 110), (9, 111), (9, 112)]), (227, (1, 344, 3), [(6, 153), (6, 154)]), (229, (2, 291, 1), [(9, 114), (9, 115), (9, 116)]), (230, (1, 345, 3), [(6, 169), (6, 170)]), (232, (2, 292, 1), [(9, 118), (9, 119), (9, 120)]), (233, (2, 161, 1), [(3, 48), (3, 49), (3, 50)]), (237, (2, 293, 1), [(9, 122), (9, 123), (9, 124)]), (238, (1, 346, 3), [(6, 185), (6, 186)]), (240, (2, 297, 1), [(9, 127), (9, 128), (9, 129)]), (241, (2, 163, 0), [(3, 62), (3, 63), (3, 64)]), (244, (2, 298, 0), [(9, 143), (9, 144), (9, 145)]), (245, (1, 347, 4), [(6, 197), (6, 198)]), (247, (2, 301, 2), [(9, 147), (9, 148), (9, 149)]), (248, (1, 348, 4), [(6, 214), (6, 215)]), (250, (2, 302, 2), [(9, 159), (9, 160), (9, 161)]), (251, (1, 349, 5), [(6, 226), (6, 227)]), (253, (2, 303, 3), [(9, 163), (9, 164), (9, 165)]), (254, (1, 350, 4), [(6, 237), (6, 238)]), (256, (2, 307, 2), [(9, 167), (9, 168), (9, 169)]), (257, (1, 351, 4), [(7, 8), (7, 9)]), (259, (2, 308, 2), [(9, 183), (9, 184), (9, 185)]), (260, (2, 169, 0), [(3, 94), (3, 95), (3, 96)]), (263, (2, 309, 0), [(9, 187), (9, 188), (9, 189)]), (264, (1, 352, 3), [(7, 15), (7, 16)]), (266, (2, 311, 1), [(9, 191), (9, 192), (9, 193)]), (267, (2, 171, 0), [(3, 148), (3, 149), (3, 150)]), (270, (2, 313, 0), [(9, 199), (9, 200), (9, 201)]), (271, (1, 353, 4), [(7, 26), (7, 27)]), (273, (2, 314, 2), [(9, 207), (9, 208), (9, 209)]), (274, (2, 173, 1), [(3, 160), (3, 161), (3, 162)]), (277, (2, 315, 1), [(9, 211), (9, 212), (9, 213)]), (278, (2, 174, 0), [(3, 164), (3, 165), (3, 166)]), (282, (2, 197, 0), [(7, 173), (7, 174), (7, 175)]), (283, (2, 175, 0), [(3, 173), (3, 174), (3, 175)]), (286, (2, 194, 0), [(7, 159), (7, 160), (7, 161)]), (287, (2, 176, 0), [(3, 182), (3, 183), (3, 184)]), (290, (2, 195, 0), [(7, 169), (7, 170), (7, 171)]), (291, (2, 177, 1), [(3, 190), (3, 191), (3, 192)]), (294, (2, 316, 1), [(9, 215), (9, 216), (9, 217)])]
def tp_1 : List (Nat × (Nat × Nat × Nat) × List (Nat × Nat)) := [(3, (4, 0, 0), [(2, 123), (1, 36), (1, 37)]), (9, (21, 0, 2), [(2, 126)]), (15, (21, 0, 0), [(2, 124)]), (19, (21, 0, 1), [(2, 125)]), (23, (2, 113, 1), [(2, 227), (2, 228), (2, 229)]), (29, (0, 10, 13), [(1, 190)]), (33, (2, 36, 5), [(2, 237), (2, 238), (2, 239)]), (39, (2, 2, 2), [(2, 223), (2, 225), (0, 1)]), (43, (2, 115, 0), [(2, 207), (2, 208), (2, 209)]), (47, (2, 3, 2), [(3, 22), (3, 24), (0, 5)]), (50, (20, 10, 2), [(1, 162)]), (53, (0, 10, 1), [(1, 158)]), (56, (2, 8, 2), [(2, 218), (2, 220), (0, 0)]), (60, (0, 10, 0), [(1, 156)]), (63, (2, 108, 1), [(2, 222), (2, 212), (2, 213)]), (67, (2, 12, 0), [(3, 14), (3, 16), (0, 3)]), (70, (20, 1, 3), [(1, 101)]), (73, (2, 13, 1), [(3, 18), (3, 20), (0, 4)]), (77, (0, 1, 1), [(1, 96)]), (80, (1, 318, 1), [(3, 31), (2, 232)]), (85, (2, 11, 1), [(3, 32), (3, 34), (0, 7)]), (88, (13, 185, 2), [(3, 30), (2, 216)]), (91, (2, 14, 2), [(3, 26), (3, 28), (0, 6)]), (95, (2, 16, 1), [(3, 44), (3, 46), (0, 8)]), (98, (2, 116, 1), [(6, 76), (5, 82), (5, 83)]), (101, (1, 320, 2), [(6, 77), (4, 44)]), (106, (2, 109, 2), [(6, 152), (3, 87), (3, 88)]), (109, (2, 22, 1), [(6, 164), (6, 166), (0, 43)]), (112, (2, 6, 2), [(6, 168), (5, 168), (5, 169)]), (115, (2, 24, 1), [(6, 180), (6, 182), (0, 44)]), (118, (20, 10, 7), [(1, 176)]), (121, (2, 110, 2), [(6, 184), (3, 119), (3, 120)]), (124, (2, 26, 2), [(6, 208), (6, 209), (6, 210)]), (127, (20, 10, 10), [(1, 183)]), (130, (2, 4, 2), [(6, 212), (5, 160), (5, 161)]), (133, (2, 112, 2), [(6, 225), (3, 145), (3, 146)])]
def tp_2 : List (Nat × (Nat × Nat × Nat) × List (Nat × Nat)) := [(3, (4, 0, 0), [(1, 87), (1, 36), (1, 37)]), (9, (21, 1, 3), [(1, 99)]), (15, (21, 1, 4), [(1, 102)]), (18, (21, 1, 5), [(1, 103)]), (21, (21, 1, 7), [(1, 105)]), (24, (0, 1, 0), [(1, 88)]), (28, (0, 1, 1), [(1, 91)]), (32, (0, 1, 2), [(1, 97)]), (35, (0, 1, 6), [(1, 104)]), (38, (0, 1, 8), [(1, 107)]), (41, (9, 0, 0), [(3, 181), (3, 72), (3, 71), (1, 24)]), (47, (13, 185, 2), [(3, 1), (2, 216)]), (51, (2, 37, 5), [(3, 2), (3, 4), (0, 2)])]
def tp_3 : List (Nat × (Nat × Nat × Nat) × List (Nat × Nat)) := [(3, (4, 0, 0), [(2, 13), (1, 36), (1, 37)]), (9, (21, 2, 0), [(2, 14)]), (15, (21, 2, 1), [(2, 15)]), (19, (2, 31, 0), [(4, 50), (4, 51), (4, 52)]), (24, (0, 1, 0), [(1, 89)]), (28, (2, 94, 0), [(4, 54), (4, 55), (4, 56)]), (34, (2, 40, 0), [(4, 58), (4, 60), (0, 16)]), (38, (2, 97, 0), [(4, 104), (4, 105), (4, 106)]), (41, (2, 98, 0), [(4, 62), (4, 63), (4, 64)]), (44, (2, 99, 2), [(4, 66), (4, 67), (4, 68)]), (48, (2, 41, 1), [(4, 75), (4, 77), (0, 17)]), (52, (2, 34, 2), [(4, 100), (4, 101), (4, 102)]), (56, (2, 42, 1), [(4, 79), (4, 81), (0, 18)]), (59, (2, 32, 1), [(4, 83), (4, 84), (4, 85)]), (63, (2, 43, 0), [(4, 87), (4, 89), (0, 19)]), (66, (2, 33, 0), [(4, 91), (4, 92), (4, 93)]), (69, (2, 44, 2), [(4, 95), (4, 97), (0, 20)]), (73, (20, 1, 7), [(1, 106)]), (77, (2, 95, 0), [(4, 99), (4, 71), (4, 72)])]
def tp_4 : List (Nat × (Nat × Nat × Nat) × List (Nat × Nat)) := [(3, (4, 0, 0), [(1, 138), (1, 36), (1, 37)]), (11, (21, 3, 0), [(1, 139)]), (15, (9, 0, 0), [(3, 77), (3, 72), (3, 71), (1, 24)]), (21, (0, 3, 1), [(1, 140)]), (25, (0, 3, 2), [(1, 142)]), (28, (1, 321, 2), [(3, 141), (3, 142)]), (34, (2, 48, 2), [(3, 156), (3, 157), (3, 158)])]
def tp_5 : List (Nat × (Nat × Nat × Nat) × List (Nat × Nat)) := [(3, (4, 0, 0), [(2, 42), (1, 36), (1, 37)]), (9, (22, 10, 20), [(2, 43), (1, 128), (1, 5)]), (11, (21, 4, 0), [(2, 46)]), (17, (15, 100, 0), [(2, 45), (1, 130)]), (18, (0, 4, 1), [(2, 47)]), (22, (2, 101, 1), [(3, 172), (3, 67), (3, 68)]), (26, (0, 4, 2), [(2, 48)]), (29, (1, 321, 2), [(5, 184), (3, 142)])]
def tp_6 : List (Nat × (Nat × Nat × Nat) × List (Nat × Nat)) := [(3, (4, 0, 0), [(2, 99), (1, 36), (1, 37)]), (9, (21, 5, 2), [(2, 102)]), (15, (21, 5, 0), [(2, 100)]), (19, (21, 5, 1), [(2, 101)]), (23, (2, 113, 1), [(6, 89), (2, 228), (2, 229)]), (29, (2, 57, 4), [(6, 90), (6, 92), (0, 40)]), (33, (2, 115, 0), [(6, 96), (2, 208), (2, 209)]), (37, (20, 10, 2), [(1, 161)]), (40, (2, 58, 3), [(6, 97), (6, 99), (0, 41)]), (44, (2, 111, 2), [(6, 94), (3, 115), (3, 116)]), (48, (0, 10, 13), [(1, 192)]), (52, (2, 36, 5), [(6, 95), (2, 238), (2, 239)]), (58, (2, 56, 3), [(6, 123), (6, 86), (6, 87)]), (61, (20, 10, 7), [(1, 174)]), (64, (0, 5, 3), [(2, 103)]), (67, (0, 5, 4), [(2, 105)]), (70, (0, 10, 0), [(1, 155)]), (73, (2, 108, 1), [(6, 135), (2, 212), (2, 213)]), (77, (2, 61, 3), [(6, 136), (6, 138), (0, 42)]), (81, (0, 1, 1), [(1, 95)]), (84, (13, 185, 2), [(6, 140), (2, 216)])]
def tp_7 : List (Nat × (Nat × Nat × Nat) × List (Nat × Nat)) := [(3, (4, 0, 0), [(2, 62), (1, 36), (1, 37)]), (11, (21, 6, 2), [(2, 65)]), (15, (21, 6, 5), [(2, 68)]), (18, (21, 6, 0), [(2, 63)]), (22, (21, 6, 1), [(2, 64)]), (26, (0, 6, 3), [(2, 66)]), (30, (0, 6, 4), [(2, 67)]), (33, (0, 8, 1), [(1, 50)]), (38, (20, 8, 0), [(1, 45)]), (41, (2, 64, 3), [(6, 14), (6, 16), (0, 36)]), (45, (0, 10, 0), [(1, 152)]), (50, (2, 108, 1), [(6, 18), (2, 212), (2, 213)]), (54, (2, 113, 1), [(6, 19), (2, 228), (2, 229)]), (58, (0, 10, 13), [(1, 193)]), (61, (2, 36, 5), [(6, 20), (2, 238), (2, 239)]), (67, (2, 65, 1), [(6, 21), (6, 23), (0, 37)]), (71, (2, 35, 0), [(6, 30), (6, 31), (6, 32)]), (75, (0, 1, 1), [(1, 93)]), (78, (0, 6, 6), [(2, 69)]), (81, (0, 6, 7), [(2, 71)]), (84, (0, 6, 8), [(2, 73)]), (87, (2, 67, 1), [(6, 34), (6, 36), (0, 38)]), (90, (2, 69, 0), [(6, 49), (6, 51), (0, 39)]), (93, (1, 320, 2), [(6, 53), (4, 44)])]
def tp_8 : List (Nat × (Nat × Nat × Nat) × List (Nat × Nat)) := [(3, (4, 0, 0), [(2, 26), (1, 36), (1, 37)]), (9, (21, 7, 0), [(2, 27)]), (15, (21, 7, 1), [(2, 28)]), (19, (21, 7, 2), [(2, 29)]), (23, (2, 94, 0), [(4, 206), (4, 55), (4, 56)]), (29, (2, 72, 0), [(4, 207), (4, 209), (0, 22)]), (33, (2, 97, 0), [(5, 31), (4, 105), (4, 106)]), (36, (2, 98, 0), [(4, 211), (4, 63), (4, 64)]), (39, (0, 10, 0), [(1, 153)]), (45, (2, 73, 0), [(4, 212), (4, 214), (0, 23)]), (48, (2, 76, 0), [(5, 2), (5, 4), (0, 27)]), (51, (2, 77, 0), [(5, 6), (5, 8), (0, 28)]), (54, (2, 78, 0), [(5, 10), (5, 12), (0, 29)]), (57, (2, 79, 0), [(5, 14), (5, 16), (0, 30)]), (60, (2, 80, 0), [(5, 27), (5, 29), (0, 32)]), (63, (2, 99, 2), [(4, 216), (4, 67), (4, 68)]), (67, (2, 102, 1), [(4, 217), (4, 218), (4, 219)]), (71, (2, 74, 1), [(4, 221), (4, 223), (0, 24)]), (75, (2, 75, 1), [(4, 238), (5, 0), (0, 26)]), (78, (2, 82, 0), [(4, 225), (4, 227), (0, 25)]), (81, (2, 103, 2), [(4, 234), (4, 235), (4, 236)]), (85, (0, 1, 1), [(1, 94)]), (90, (20, 10, 2), [(1, 163)]), (94, (0, 10, 11), [(1, 185)]), (97, (0, 10, 12), [(1, 188)]), (100, (20, 10, 10), [(1, 182)]), (103, (2, 81, 2), [(5, 18), (5, 20), (0, 31)]), (107, (2, 106, 2), [(5, 23), (5, 24), (5, 25)]), (110, (20, 10, 9), [(1, 180)]), (114, (2, 95, 0), [(4, 229), (4, 71), (4, 72)]), (117, (2, 108, 1), [(5, 22), (2, 212), (2, 213)]), (120, (20, 10, 5), [(1, 171)]), (123, (2, 96, 0), [(4, 230), (4, 231), (4, 232)])]
def tp_9 : List (Nat × (Nat × Nat × Nat) × List (Nat × Nat)) := [(3, (4, 0, 0), [(1, 43), (1, 36), (1, 37)]), (9, (21, 8, 0), [(1, 44)]), (15, (0, 8, 1), [(1, 47)])]
def tp_10 : List (Nat × (Nat × Nat × Nat) × List (Nat × Nat)) := [(3, (4, 0, 0), [(1, 62), (1, 36), (1, 37)]), (9, (21, 9, 0), [(1, 63)]), (15, (21, 9, 1), [(1, 64)]), (18, (21, 9, 2), [(1, 65)]), (21, (21, 9, 3), [(1, 66)]), (24, (0, 9, 4), [(1, 67)]), (28, (0, 9, 5), [(1, 68)]), (31, (0, 8, 1), [(1, 49)]), (36, (2, 85, 1), [(3, 210), (3, 211), (3, 212)]), (40, (1, 90, 2), [(3, 214), (3, 215)]), (44, (1, 93, 3), [(3, 217), (3, 218)]), (48, (2, 89, 4), [(4, 29), (4, 31), (0, 15)]), (52, (2, 86, 1), [(4, 33), (4, 34), (4, 35)]), (55, (1, 91, 2), [(4, 37), (4, 38)]), (58, (1, 92, 3), [(4, 40), (4, 41)]), (61, (20, 8, 0), [(1, 46)]), (64, (1, 320, 2), [(4, 43), (4, 44)]), (70, (8, 0, 0), []), (82, (2, 95, 0), [(4, 70), (4, 71), (4, 72)]), (85, (2, 94, 0), [(4, 74), (4, 55), (4, 56)])]
def tp_11 : List (Nat × (Nat × Nat × Nat) × List (Nat × Nat)) := [(3, (4, 0, 0), [(1, 132), (1, 36), (1, 37)]), (9, (21, 10, 2), [(1, 160)]), (15, (21, 10, 3), [(1, 165)]), (18, (21, 10, 4), [(1, 167)]), (21, (21, 10, 5), [(1, 169)]), (24, (21, 10, 6), [(1, 172)]), (27, (21, 10, 7), [(1, 173)]), (30, (21, 10, 8), [(1, 177)]), (33, (21, 10, 9), [(1, 178)]), (37, (21, 10, 10), [(1, 181)]), (40, (0, 10, 11), [(1, 184)]), (44, (0, 10, 12), [(1, 187)]), (47, (0, 10, 14), [(1, 195)]), (50, (5, 3, 3), [(1, 133), (1, 134), (1, 6)]), (52, (15, 45, 0), [(1, 135), (1, 136)]), (53, (21, 10, 19), [(1, 205)]), (57, (0, 10, 0), [(1, 151)]), (60, (0, 10, 1), [(1, 157)]), (63, (9, 0, 0), [(3, 70), (3, 72), (3, 71), (1, 24)]), (69, (0, 10, 13), [(1, 191)]), (72, (0, 10, 15), [(1, 197)]), (75, (0, 10, 16), [(1, 199)]), (78, (0, 10, 17), [(1, 201)]), (81, (0, 10, 18), [(1, 203)]), (84, (2, 46, 1), [(3, 73), (3, 74), (3, 75)]), (88, (2, 102, 1), [(5, 222), (4, 218), (4, 219)]), (92, (2, 110, 2), [(3, 118), (3, 119), (3, 120)]), (96, (2, 103, 2), [(5, 223), (4, 235), (4, 236)]), (100, (2, 107, 1), [(5, 121), (5, 122), (5, 123)]), (104, (13, 185, 2), [(2, 215), (2, 216)]), (107, (2, 111, 2), [(3, 114), (3, 115), (3, 116)]), (110, (1, 318, 1), [(2, 231), (2, 232)]), (115, (2, 108, 1), [(2, 211), (2, 212), (2, 213)]), (118, (2, 117, 0), [(3, 102), (3, 103), (3, 104)]), (122, (2, 119, 2), [(3, 106), (3, 108), (0, 11)]), (126, (2, 115, 0), [(3, 129), (2, 208), (2, 209)]), (129, (2, 121, 4), [(3, 130), (3, 132), (0, 14)]), (133, (2, 120, 2), [(3, 110), (3, 112), (0, 12)]), (137, (2, 113, 1), [(3, 122), (2, 228), (2, 229)]), (140, (2, 36, 5), [(3, 123), (2, 238), (2, 239)]), (146, (2, 109, 2), [(3, 86), (3, 87), (3, 88)]), (150, (2, 123, 0), [(3, 124), (3, 126), (0, 13)]), (153, (1, 122, 1), [(3, 134), (3, 135)]), (156, (2, 47, 4), [(3, 137), (3, 138), (3, 139)]), (160, (2, 112, 2), [(3, 144), (3, 145), (3, 146)]), (163, (6, 1103515245, 0), [(3, 128)]), (164, (2, 125, 1), [(3, 82), (3, 84), (0, 9)]), (167, (2, 126, 1), [(3, 90), (3, 92), (0, 10)]), (170, (1, 319, 1), [(6, 196), (5, 126)]), (175, (7, 18446744073709551615, 0), [(3, 56)])]
def tp_12 : List (Nat × (Nat × Nat × Nat) × List (Nat × Nat)) := [(1, (4, 0, 0), [(1, 35), (1, 36), (1, 37)]), (7, (5, 8, 2), [(1, 38), (1, 39), (1, 2)]), (9, (15, 83, 0), [(1, 40), (1, 41)]), (10, (21, 11, 0), [(2, 134)]), (16, (5, 9, 6), [(1, 57), (1, 58), (1, 3)]), (18, (15, 87, 0), [(1, 59), (1, 60)]), (19, (21, 11, 1), [(2, 135)]), (23, (5, 1, 9), [(1, 82), (1, 83), (1, 4)]), (25, (15, 29, 0), [(1, 84), (1, 85)]), (26, (21, 11, 2), [(2, 136)]), (30, (21, 11, 3), [(2, 137)]), (33, (5, 10, 20), [(1, 127), (1, 128), (1, 5)]), (35, (15, 100, 0), [(1, 129), (1, 130)]), (36, (21, 11, 4), [(2, 138)]), (40, (21, 11, 5), [(2, 139)]), (43, (5, 2, 2), [(2, 8), (2, 9), (1, 7)]), (45, (3, 38, 2), [(2, 10), (2, 11)]), (48, (21, 11, 6), [(2, 140)]), (52, (5, 7, 3), [(2, 21), (2, 22), (1, 8)]), (54, (3, 70, 3), [(2, 23), (2, 24)]), (57, (21, 11, 7), [(2, 141)]), (61, (5, 4, 3), [(2, 37), (2, 38), (1, 9)]), (63, (3, 51, 0), [(2, 39), (2, 40)]), (64, (21, 11, 8), [(2, 142)]), (68, (5, 6, 9), [(2, 57), (2, 58), (1, 10)]), (70, (3, 62, 2), [(2, 59), (2, 60)]), (73, (21, 11, 9), [(2, 143)]), (77, (5, 5, 5), [(2, 94), (2, 95), (1, 11)]), (79, (3, 55, 2), [(2, 96), (2, 97)]), (80, (21, 11, 10), [(2, 144)]), (84, (5, 0, 3), [(2, 118), (2, 119), (1, 12)]), (86, (3, 1, 2), [(2, 120), (2, 121)]), (87, (21, 11, 11), [(2, 145)]), (91, (21, 11, 12), [(2, 146)]), (94, (21, 11, 13), [(2, 147)]), (97, (0, 11, 14), [(2, 148)]), (101, (0, 11, 15), [(2, 149)]), (105, (0, 8, 1), [(1, 48)]), (108, (2, 84, 1), [(2, 187), (2, 188), (2, 189)]), (112, (2, 88, 1), [(3, 206), (3, 207), (3, 208)]), (116, (2, 39, 0), [(4, 46), (4, 47), (4, 48)]), (120, (11, 0, 0), [(4, 108), (1, 22)]), (122, (8, 1, 0), []), (124, (12, 0, 0), [(4, 152)]), (127, (0, 1, 0), [(1, 90)]), (130, (0, 10, 0), [(1, 154)]), (133, (11, 1, 0), [(4, 178), (1, 23)]), (135, (8, 2, 0), []), (137, (12, 1, 0), [(4, 188)]), (138, (2, 30, 1), [(3, 177), (3, 178), (3, 179)]), (142, (2, 54, 0), [(3, 186), (3, 187), (3, 188)]), (145, (0, 1, 1), [(1, 92)]), (148, (2, 101, 1), [(3, 66), (3, 67), (3, 68)]), (151, (2, 71, 0), [(4, 202), (4, 203), (4, 204)]), (152, (0, 10, 15), [(1, 198)]), (155, (11, 3, 0), [(5, 32), (1, 25)]), (157, (8, 3, 0), []), (159, (12, 3, 0), [(5, 42)]), (160, (2, 180, 1), [(5, 57), (5, 59), (0, 33)]), (163, (0, 1, 2), [(1, 98)]), (166, (1, 185, 2), [(5, 80), (2, 216)]), (170, (20, 1, 3), [(1, 100)]), (174, (2, 115, 0), [(3, 195), (2, 208), (2, 209)]), (177, (2, 116, 1), [(5, 81), (5, 82), (5, 83)]), (181, (2, 9, 1), [(5, 85), (5, 86), (5, 87)]), (184, (11, 4, 0), [(5, 89), (1, 28)]), (186, (8, 4, 0), []), (188, (12, 4, 0), [(5, 99)]), (189, (2, 179, 1), [(5, 112), (5, 114), (0, 34)]), (192, (0, 10, 1), [(1, 159)]), (195, (20, 10, 2), [(1, 164)]), (198, (20, 10, 3), [(1, 166)]), (201, (20, 10, 4), [(1, 168)]), (204, (20, 10, 5), [(1, 170)]), (207, (20, 10, 7), [(1, 175)]), (210, (2, 111, 2), [(5, 116), (3, 115), (3, 116)]), (213, (2, 114, 1), [(5, 117), (5, 118), (5, 119)]), (216, (20, 10, 9), [(1, 179)]), (220, (1, 319, 1), [(5, 125), (5, 126)]), (226, (2, 110, 2), [(5, 145), (3, 119), (3, 120)]), (229, (1, 181, 2), [(5, 61), (5, 62)]), (233, (2, 182, 1), [(5, 153), (5, 155), (0, 35)]), (236, (2, 4, 2), [(5, 159), (5, 160), (5, 161)]), (239, (2, 5, 2), [(5, 163), (5, 164), (5, 165)]), (242, (2, 6, 2), [(5, 167), (5, 168), (5, 169)]), (246, (2, 109, 2), [(5, 171), (3, 87), (3, 88)]), (249, (8, 5, 0), []), (251, (2, 52, 1), [(5, 180), (5, 181), (5, 182)]), (254, (2, 113, 1), [(5, 185), (2, 228), (2, 229)]), (257, (2, 105, 1), [(5, 193), (5, 194), (5, 195)]), (260, (1, 184, 2), [(5, 204), (5, 205)]), (263, (8, 6, 0), []), (265, (2, 106, 2), [(5, 209), (5, 24), (5, 25)]), (268, (8, 7, 0), []), (270, (2, 104, 1), [(5, 218), (5, 219), (5, 220)]), (273, (8, 8, 0), []), (275, (1, 183, 3), [(5, 239), (6, 0)]), (279, (0, 10, 16), [(1, 200)]), (282, (2, 118, 1), [(3, 98), (3, 99), (3, 100)]), (285, (2, 7, 0), [(2, 203), (2, 204), (2, 205)]), (288, (2, 10, 0), [(3, 10), (3, 11), (3, 12)]), (291, (2, 63, 1), [(6, 10), (6, 11), (6, 12)]), (295, (8, 9, 0), []), (297, (2, 66, 0), [(6, 26), (6, 27), (6, 28)]), (300, (0, 6, 6), [(2, 70)]), (303, (0, 6, 7), [(2, 72)]), (306, (0, 6, 8), [(2, 74)]), (309, (2, 68, 1), [(6, 45), (6, 46), (6, 47)]), (312, (2, 15, 0), [(3, 40), (3, 41), (3, 42)]), (315, (2, 17, 1), [(6, 61), (6, 62), (6, 63)]), (318, (2, 18, 1), [(6, 72), (6, 73), (6, 74)]), (321, (2, 56, 3), [(6, 85), (6, 86), (6, 87)]), (325, (2, 19, 2), [(6, 108), (6, 109), (6, 110)]), (328, (2, 59, 2), [(6, 119), (6, 120), (6, 121)]), (331, (2, 60, 1), [(6, 131), (6, 132), (6, 133)]), (334, (0, 5, 4), [(2, 106)]), (337, (0, 5, 3), [(2, 104)]), (340, (2, 20, 1), [(6, 148), (6, 149), (6, 150)]), (343, (2, 21, 1), [(6, 160), (6, 161), (6, 162)]), (346, (2, 23, 1), [(6, 176), (6, 177), (6, 178)]), (349, (2, 128, 0), [(3, 52), (3, 53), (3, 54)]), (353, (2, 129, 0), [(3, 57), (3, 58), (3, 59)]), (356, (7, 18446744073709551615, 0), [(3, 61)]), (358, (2, 124, 0), [(3, 78), (3, 79), (3, 80)]), (362, (2, 127, 0), [(6, 192), (6, 193), (6, 194)]), (365, (2, 25, 2), [(6, 204), (6, 205), (6, 206)]), (368, (2, 26, 2), [(6, 213), (6, 209), (6, 210)]), (371, (2, 27, 2), [(6, 221), (6, 222), (6, 223)]), (374, (2, 28, 3), [(6, 233), (6, 234), (6, 235)]), (377, (0, 10, 14), [(1, 196)]), (380, (2, 178, 2), [(7, 4), (7, 6), (0, 45)]), (383, (0, 10, 17), [(1, 202)]), (386, (2, 117, 0), [(3, 196), (3, 103), (3, 104)]), (389, (20, 10, 19), [(1, 206)]), (393, (2, 49, 1), [(7, 22), (7, 23), (7, 24)]), (398, (2, 50, 0), [(3, 152), (3, 153), (3, 154)]), (401, (2, 48, 2), [(7, 33), (3, 157), (3, 158)]), (404, (2, 53, 1), [(3, 168), (3, 169), (3, 170)]), (408, (1, 318, 1), [(3, 194), (2, 232)]), (412, (0, 10, 13), [(1, 194)]), (415, (0, 10, 18), [(1, 204)]), (418, (0, 3, 1), [(1, 141)]), (419, (0, 10, 11), [(1, 186)]), (422, (0, 10, 12), [(1, 189)]), (425, (0, 4, 2), [(2, 49)]), (426, (11, 2, 0), [(5, 64), (1, 26)]), (428, (8, 10, 0), []), (430, (12, 2, 0), [(5, 74)]), (431, (2, 108, 1), [(5, 157), (2, 212), (2, 213)]), (435, (8, 11, 0), []), (437, (8, 12, 0), []), (439, (8, 13, 0), [])]
def tp_13 : List (Nat × (Nat × Nat × Nat) × List (Nat × Nat)) := [(3, (0, 12, 0), [(7, 44)]), (7, (4, 0, 0), [(7, 43), (1, 36), (1, 37)]), (13, (21, 12, 1), [(7, 45)]), (17, (21, 12, 2), [(7, 46)]), (20, (21, 12, 3), [(7, 47)]), (23, (21, 12, 4), [(7, 48)]), (26, (21, 12, 5), [(7, 49)]), (29, (21, 12, 6), [(7, 50)]), (33, (21, 12, 7), [(7, 51)]), (36, (21, 12, 8), [(7, 52)]), (39, (21, 12, 9), [(7, 53)]), (42, (21, 12, 10), [(7, 54)]), (45, (21, 12, 13), [(7, 57)]), (48, (21, 12, 14), [(7, 58)]), (51, (0, 12, 15), [(7, 59)]), (54, (0, 12, 16), [(7, 60)]), (57, (21, 12, 17), [(7, 61)]), (61, (0, 12, 23), [(7, 67)]), (64, (21, 12, 24), [(7, 68)]), (67, (21, 12, 26), [(7, 70)]), (70, (21, 12, 27), [(7, 71)]), (73, (21, 12, 28), [(7, 72)]), (76, (21, 12, 31), [(7, 75)]), (79, (21, 12, 32), [(7, 76)]), (82, (21, 12, 33), [(7, 77)]), (85, (21, 12, 34), [(7, 78)]), (88, (21, 12, 35), [(7, 79)]), (91, (21, 12, 36), [(7, 80)]), (94, (21, 12, 37), [(7, 81)]), (97, (1, 192, 4), [(7, 163), (7, 164)]), (101, (1, 193, 4), [(7, 166), (7, 167)]), (105, (0, 12, 11), [(7, 55)]), (109, (0, 12, 12), [(7, 56)]), (112, (1, 321, 2), [(8, 230), (3, 142)]), (118, (1, 320, 2), [(8, 78), (4, 44)]), (121, (2, 200, 2), [(8, 52), (8, 54), (0, 67)]), (124, (1, 189, 2), [(8, 151), (8, 152)]), (128, (2, 199, 0), [(8, 43), (8, 45), (0, 65)]), (132, (1, 188, 3), [(8, 128), (8, 129)]), (136, (2, 198, 0), [(8, 74), (8, 76), (0, 72)]), (138, (6, 1103515245, 0), [(9, 23)]), (139, (0, 12, 18), [(7, 62)]), (142, (0, 12, 19), [(7, 63)]), (145, (0, 12, 20), [(7, 64)]), (148, (2, 214, 2), [(7, 205), (7, 207), (0, 49)]), (151, (0, 12, 21), [(7, 65)]), (154, (2, 215, 0), [(7, 201), (7, 203), (0, 48)]), (166, (2, 216, 0), [(7, 213), (7, 215), (0, 51)]), (169, (2, 217, 1), [(7, 222), (7, 224), (0, 53)]), (173, (0, 12, 25), [(7, 69)]), (176, (2, 220, 2), [(7, 229), (7, 231), (0, 54)]), (179, (2, 225, 2), [(8, 15), (8, 17), (0, 60)]), (183, (8, 14, 0), []), (185, (8, 15, 0), []), (187, (8, 16, 0), []), (189, (8, 17, 0), []), (191, (2, 226, 0), [(8, 24), (8, 26), (0, 62)]), (195, (2, 219, 1), [(8, 10), (8, 12), (0, 59)]), (199, (0, 12, 22), [(7, 66)]), (202, (2, 230, 0), [(7, 238), (8, 0), (0, 56)]), (205, (8, 18, 0), []), (207, (2, 218, 1), [(7, 234), (7, 236), (0, 55)]), (210, (2, 228, 0), [(8, 6), (8, 8), (0, 58)]), (213, (8, 19, 0), []), (215, (2, 227, 0), [(8, 20), (8, 22), (0, 61)]), (218, (8, 20, 0), []), (220, (2, 229, 0), [(8, 2), (8, 4), (0, 57)]), (223, (8, 21, 0), []), (225, (8, 22, 0), []), (227, (8, 23, 0), []), (229, (8, 24, 0), []), (231, (2, 222, 0), [(8, 61), (8, 63), (0, 69)]), (234, (2, 201, 3), [(8, 47), (8, 49), (0, 66)]), (238, (2, 221, 0), [(8, 65), (8, 67), (0, 70)]), (241, (8, 25, 0), []), (243, (8, 26, 0), []), (245, (2, 232, 1), [(8, 57), (8, 59), (0, 68)]), (248, (8, 27, 0), []), (250, (2, 233, 1), [(8, 70), (8, 72), (0, 71)]), (253, (2, 202, 1), [(8, 94), (8, 96), (0, 76)]), (256, (2, 235, 0), [(8, 90), (8, 92), (0, 75)]), (259, (2, 236, 1), [(8, 98), (8, 100), (0, 77)]), (262, (2, 237, 2), [(8, 102), (8, 104), (0, 78)]), (265, (8, 28, 0), []), (267, (2, 234, 0), [(8, 39), (8, 41), (0, 64)]), (270, (8, 29, 0), []), (272, (2, 240, 3), [(8, 80), (8, 82), (0, 73)]), (275, (8, 30, 0), []), (277, (8, 31, 0), []), (279, (2, 238, 0), [(8, 86), (8, 88), (0, 74)]), (282, (8, 32, 0), []), (283, (2, 239, 0), [(8, 107), (8, 109), (0, 79)]), (286, (8, 33, 0), []), (288, (2, 231, 1), [(7, 217), (7, 219), (0, 52)]), (291, (2, 241, 1), [(8, 34), (8, 36), (0, 63)]), (294, (2, 224, 0), [(7, 197), (7, 199), (0, 47)]), (297, (2, 242, 2), [(7, 209), (7, 211), (0, 50)]), (301, (2, 243, 1), [(7, 193), (7, 195), (0, 46)]), (305, (2, 187, 2), [(8, 112), (8, 114), (0, 80)]), (308, (1, 318, 1), [(8, 170), (2, 232)]), (314, (2, 205, 1), [(8, 135), (8, 137), (0, 83)]), (317, (2, 246, 5), [(8, 166), (8, 168), (0, 90)]), (321, (2, 204, 1), [(8, 131), (8, 133), (0, 82)]), (324, (2, 247, 4), [(8, 162), (8, 164), (0, 89)]), (328, (2, 249, 5), [(8, 203), (8, 205), (0, 94)]), (332, (2, 250, 4), [(8, 215), (8, 217), (0, 97)]), (336, (2, 203, 2), [(8, 147), (8, 149), (0, 86)]), (338, (2, 254, 2), [(8, 158), (8, 160), (0, 88)]), (341, (2, 207, 1), [(8, 124), (8, 126), (0, 81)]), (344, (2, 248, 0), [(8, 139), (8, 141), (0, 84)]), (347, (2, 252, 1), [(8, 143), (8, 145), (0, 85)]), (350, (2, 255, 1), [(8, 154), (8, 156), (0, 87)]), (353, (2, 206, 1), [(8, 175), (8, 177), (0, 91)]), (356, (2, 210, 2), [(8, 179), (8, 181), (0, 92)]), (359, (2, 257, 1), [(8, 183), (8, 185), (0, 93)]), (362, (1, 319, 1), [(8, 187), (5, 126)]), (367, (2, 251, 3), [(8, 211), (8, 213), (0, 96)]), (371, (1, 208, 1), [(8, 200), (8, 201)]), (374, (2, 261, 2), [(8, 207), (8, 209), (0, 95)]), (377, (1, 190, 2), [(8, 219), (8, 220)]), (381, (2, 196, 0), [(8, 226), (8, 228), (0, 98)]), (384, (2, 211, 1), [(9, 19), (9, 21), (0, 101)]), (387, (1, 317, 1), [(9, 28), (9, 29)]), (390, (2, 269, 3), [(9, 32), (9, 34), (0, 103)]), (393, (0, 12, 29), [(7, 73)]), (396, (0, 12, 30), [(7, 74)]), (399, (2, 268, 2), [(9, 15), (9, 17), (0, 100)]), (402, (2, 270, 3), [(9, 24), (9, 26), (0, 102)]), (405, (2, 271, 0), [(9, 11), (9, 13), (0, 99)]), (408, (2, 253, 0), [(9, 40), (9, 42), (0, 104)]), (411, (2, 276, 0), [(9, 60), (9, 62), (0, 107)]), (414, (2, 275, 0), [(9, 52), (9, 54), (0, 105)]), (417, (2, 277, 0), [(9, 56), (9, 58), (0, 106)]), (420, (2, 278, 1), [(9, 64), (9, 66), (0, 108)]), (423, (1, 284, 1), [(9, 88), (9, 89)]), (426, (2, 285, 3), [(9, 91), (9, 93), (0, 109)]), (429, (1, 209, 1), [(9, 99), (9, 100)]), (432, (7, 18446744073709551615, 0), [(9, 126)]), (434, (2, 294, 1), [(9, 135), (9, 137), (0, 111)]), (438, (2, 295, 0), [(9, 131), (9, 133), (0, 110)]), (441, (2, 296, 1), [(9, 139), (9, 141), (0, 112)]), (445, (2, 299, 2), [(9, 155), (9, 157), (0, 114)]), (448, (2, 300, 2), [(9, 151), (9, 153), (0, 113)]), (451, (2, 304, 0), [(9, 171), (9, 173), (0, 115)]), (454, (2, 306, 0), [(9, 175), (9, 177), (0, 116)]), (457, (2, 305, 0), [(9, 179), (9, 181), (0, 117)]), (460, (2, 310, 2), [(9, 195), (9, 197), (0, 118)]), (463, (2, 312, 1), [(9, 203), (9, 205), (0, 119)])]
def tp_14 : List (Nat × (Nat × Nat × Nat) × List (Nat × Nat)) := [(264, (6, 65536, 0), [(9, 31)]), (265, (6, 1431655765, 0), [(2, 234)]), (266, (6, 858993459, 0), [(2, 235)]), (267, (6, 252645135, 0), [(2, 236)])]
def tp_15 : List (Nat × (Nat × Nat × Nat) × List (Nat × Nat)) := [(314, (7, 6148914691236517205, 0), [(5, 128)]), (316, (7, 3689348814741910323, 0), [(5, 129)]), (318, (7, 1085102592571150095, 0), [(5, 130)])]
def tp_16 : List (Nat × (Nat × Nat × Nat) × List (Nat × Nat)) := []
def tb_code (m : Nat) : List (Nat × Instr × Nat × Nat) := bif Nat.blt m 354 then (bif Nat.blt m 177 then (bif Nat.blt m 88 then (bif Nat.blt m 44 then (bif Nat.blt m 22 then (bif Nat.blt m 11 then (bif Nat.blt m 5 then (bif Nat.blt m 2 then (bif Nat.blt m 1 then tc_0 else tc_1) else (bif Nat.blt m 3 then tc_2 else (bif Nat.blt m 4 then tc_3 else tc_4))) else (bif Nat.blt m 8 then (bif Nat.blt m 6 then tc_5 else (bif Nat.blt m 7 then tc_6 else tc_7)) else (bif Nat.blt m 9 then tc_8 else (bif Nat.blt m 10 then tc_9 else tc_10)))) else (bif Nat.blt m 16 then (bif Nat.blt m 13 then (bif Nat.blt m 12 then tc_11 else tc_12) else (bif Nat.blt m 14 then tc_13 else (bif Nat.blt m 15 then tc_14 else tc_15))) else (bif Nat.blt m 19 then (bif Nat.blt m 17 then tc_16 else (bif Nat.blt m 18 then tc_17 else tc_18)) else (bif Nat.blt m 20 then tc_19 else (bif Nat.blt m 21 then tc_20 else tc_21))))) else (bif Nat.blt m 33 then (bif Nat.blt m 27 then (bif Nat.blt m 24 then (bif Nat.blt m 23 then tc_22 else tc_23) else (bif Nat.blt m 25 then tc_24 else (bif Nat.blt m 26 then tc_25 else tc_26))) else (bif Nat.blt m 30 then (bif Nat.blt m 28 then tc_27 else (bif Nat.blt m 29 then tc_28 else tc_29)) else (bif Nat.blt m 31 then tc_30 else (bif Nat.blt m 32 then tc_31 else tc_32)))) else (bif Nat.blt m 38 then (bif Nat.blt m 35 then (bif Nat.blt m 34 then tc_33 else tc_34) else (bif Nat.blt m 36 then tc_35 else (bif Nat.blt m 37 then tc_36 else tc_37))) else (bif Nat.blt m 41 then (bif Nat.blt m 39 then tc_38 else (bif Nat.blt m 40 then tc_39 else tc_40)) else (bif Nat.blt m 42 then tc_41 else (bif Nat.blt m 43 then tc_42 else tc_43)))))) else (bif Nat.blt m 66 then (bif Nat.blt m 55 then (bif Nat.blt m 49 then (bif Nat.blt m 46 then (bif Nat.blt m 45 then tc_44 else tc_45) else (bif Nat.blt m 47 then tc_46 else (bif Nat.blt m 48 then tc_47 else tc_48))) else (bif Nat.blt m 52 then (bif Nat.blt m 50 then tc_49 else (bif Nat.blt m 51 then tc_50 else tc_51)) else (bif Nat.blt m 53 then tc_52 else (bif Nat.blt m 54 then tc_53 else tc_54)))) else (bif Nat.blt m 60 then (bif Nat.blt m 57 then (bif Nat.blt m 56 then tc_55 else tc_56) else (bif Nat.blt m 58 then tc_57 else (bif Nat.blt m 59 then tc_58 else tc_59))) else (bif Nat.blt m 63 then (bif Nat.blt m 61 then tc_60 else (bif Nat.blt m 62 then tc_61 else tc_62)) else (bif Nat.blt m 64 then tc_63 else (bif Nat.blt m 65 then tc_64 else tc_65))))) else (bif Nat.blt m 77 then (bif Nat.blt m 71 then (bif Nat.blt m 68 then (bif Nat.blt m 67 then tc_66 else tc_67) else (bif Nat.blt m 69 then tc_68 else (bif Nat.blt m 70 then tc_69 else tc_70))) else (bif Nat.blt m 74 then (bif Nat.blt m 72 then tc_71 else (bif Nat.blt m 73 then tc_72 else tc_73)) else (bif Nat.blt m 75 then tc_74 else (bif Nat.blt m 76 then tc_75 else tc_76)))) else (bif Nat.blt m 82 then (bif Nat.blt m 79 then (bif Nat.blt m 78 then tc_77 else tc_78) else (bif Nat.blt m 80 then tc_79 else (bif Nat.blt m 81 then tc_80 else tc_81))) else (bif Nat.blt m 85 then (bif Nat.blt m 83 then tc_82 else (bif Nat.blt m 84 then tc_83 else tc_84)) else (bif Nat.blt m 86 then tc_85 else (bif Nat.blt m 87 then tc_86 else tc_87))))))) else (bif Nat.blt m 132 then (bif Nat.blt m 110 then (bif Nat.blt m 99 then (bif Nat.blt m 93 then (bif Nat.blt m 90 then (bif Nat.blt m 89 then tc_88 else tc_89) else (bif Nat.blt m 91 then tc_90 else (bif Nat.blt m 92 then tc_91 else tc_92))) else (bif Nat.blt m 96 then (bif Nat.blt m 94 then tc_93 else (bif Nat.blt m 95 then tc_94 else tc_95)) else (bif Nat.blt m 97 then tc_96 else (bif Nat.blt m 98 then tc_97 else tc_98)))) else (bif Nat.blt m 104 then (bif Nat.blt m 101 then (bif Nat.blt m 100 then tc_99 else tc_100) else (bif Nat.blt m 102 then tc_101 else (bif Nat.blt m 103 then tc_102 else tc_103))) else (bif Nat.blt m 107 then (bif Nat.blt m 105 then tc_104 else (bif Nat.blt m 106 then tc_105 else tc_106)) else (bif Nat.blt m 108 then tc_107 else (bif Nat.blt m 109 then tc_108 else tc_109))))) else (bif Nat.blt m 121 then (bif Nat.blt m 115 then (bif Nat.blt m 112 then (bif Nat.blt m 111 then tc_110 else tc_111) else (bif Nat.blt m 113 then tc_112 else (bif Nat.blt m 114 then tc_113 else tc_114))) else (bif Nat.blt m 118 then (bif Nat.blt m 116 then tc_115 else (bif Nat.blt m 117 then tc_116 else tc_117)) else (bif Nat.blt m 119 then tc_118 else (bif Nat.blt m 120 then tc_119 else tc_120)))) else (bif Nat.blt m 126 then (bif Nat.blt m 123 then (bif Nat.blt m 122 then tc_121 else tc_122) else (bif Nat.blt m 124 then tc_123 else (bif Nat.blt m 125 then tc_124 else tc_125))) else (bif Nat.blt m 129 then (bif Nat.blt m 127 then tc_126 else (bif Nat.blt m 128 then tc_127 else tc_128)) else (bif Nat.blt m 130 then tc_129 else (bif Nat.blt m 131 then tc_130 else tc_131)))))) else (bif Nat.blt m 154 then (bif Nat.blt m 143 then (bif Nat.blt m 137 then (bif Nat.blt m 134 then (bif Nat.blt m 133 then tc_132 else tc_133) else (bif Nat.blt m 135 then tc_134 else (bif Nat.blt m 136 then tc_135 else tc_136))) else (bif Nat.blt m 140 then (bif Nat.blt m 138 then tc_137 else (bif Nat.blt m 139 then tc_138 else tc_139)) else (bif Nat.blt m 141 then tc_140 else (bif Nat.blt m 142 then tc_141 else tc_142)))) else (bif Nat.blt m 148 then (bif Nat.blt m 145 then (bif Nat.blt m 144 then tc_143 else tc_144) else (bif Nat.blt m 146 then tc_145 else (bif Nat.blt m 147 then tc_146 else tc_147))) else (bif Nat.blt m 151 then (bif Nat.blt m 149 then tc_148 else (bif Nat.blt m 150 then tc_149 else tc_150)) else (bif Nat.blt m 152 then tc_151 else (bif Nat.blt m 153 then tc_152 else tc_153))))) else (bif Nat.blt m 165 then (bif Nat.blt m 159 then (bif Nat.blt m 156 then (bif Nat.blt m 155 then tc_154 else tc_155) else (bif Nat.blt m 157 then tc_156 else (bif Nat.blt m 158 then tc_157 else tc_158))) else (bif Nat.blt m 162 then (bif Nat.blt m 160 then tc_159 else (bif Nat.blt m 161 then tc_160 else tc_161)) else (bif Nat.blt m 163 then tc_162 else (bif Nat.blt m 164 then tc_163 else tc_164)))) else (bif Nat.blt m 171 then (bif Nat.blt m 168 then (bif Nat.blt m 166 then tc_165 else (bif Nat.blt m 167 then tc_166 else tc_167)) else (bif Nat.blt m 169 then tc_168 else (bif Nat.blt m 170 then tc_169 else tc_170))) else (bif Nat.blt m 174 then (bif Nat.blt m 172 then tc_171 else (bif Nat.blt m 173 then tc_172 else tc_173)) else (bif Nat.blt m 175 then tc_174 else (bif Nat.blt m 176 then tc_175 else tc_176)))))))) else (bif Nat.blt m 265 then (bif Nat.blt m 221 then (bif Nat.blt m 199 then (bif Nat.blt m 188 then (bif Nat.blt m 182 then (bif Nat.blt m 179 then (bif Nat.blt m 178 then tc_177 else tc_178) else (bif Nat.blt m 180 then tc_179 else (bif Nat.blt m 181 then tc_180 else tc_181))) else (bif Nat.blt m 185 then (bif Nat.blt m 183 then tc_182 else (bif Nat.blt m 184 then tc_183 else tc_184)) else (bif Nat.blt m 186 then tc_185 else (bif Nat.blt m 187 then tc_186 else tc_187)))) else (bif Nat.blt m 193 then (bif Nat.blt m 190 then (bif Nat.blt m 189 then tc_188 else tc_189) else (bif Nat.blt m 191 then tc_190 else (bif Nat.blt m 192 then tc_191 else tc_192))) else (bif Nat.blt m 196 then (bif Nat.blt m 194 then tc_193 else (bif Nat.blt m 195 then tc_194 else tc_195)) else (bif Nat.blt m 197 then tc_196 else (bif Nat.blt m 198 then tc_197 else tc_198))))) else (bif Nat.blt m 210 then (bif Nat.blt m 204 then (bif Nat.blt m 201 then (bif Nat.blt m 200 then tc_199 else tc_200) else (bif Nat.blt m 202 then tc_201 else (bif Nat.blt m 203 then tc_202 else tc_203))) else (bif Nat.blt m 207 then (bif Nat.blt m 205 then tc_204 else (bif Nat.blt m 206 then tc_205 else tc_206)) else (bif Nat.blt m 208 then tc_207 else (bif Nat.blt m 209 then tc_208 else tc_209)))) else (bif Nat.blt m 215 then (bif Nat.blt m 212 then (bif Nat.blt m 211 then tc_210 else tc_211) else (bif Nat.blt m 213 then tc_212 else (bif Nat.blt m 214 then tc_213 else tc_214))) else (bif Nat.blt m 218 then (bif Nat.blt m 216 then tc_215 else (bif Nat.blt m 217 then tc_216 else tc_217)) else (bif Nat.blt m 219 then tc_218 else (bif Nat.blt m 220 then tc_219 else tc_220)))))) else (bif Nat.blt m 243 then (bif Nat.blt m 232 then (bif Nat.blt m 226 then (bif Nat.blt m 223 then (bif Nat.blt m 222 then tc_221 else tc_222) else (bif Nat.blt m 224 then tc_223 else (bif Nat.blt m 225 then tc_224 else tc_225))) else (bif Nat.blt m 229 then (bif Nat.blt m 227 then tc_226 else (bif Nat.blt m 228 then tc_227 else tc_228)) else (bif Nat.blt m 230 then tc_229 else (bif Nat.blt m 231 then tc_230 else tc_231)))) else (bif Nat.blt m 237 then (bif Nat.blt m 234 then (bif Nat.blt m 233 then tc_232 else tc_233) else (bif Nat.blt m 235 then tc_234 else (bif Nat.blt m 236 then tc_235 else tc_236))) else (bif Nat.blt m 240 then (bif Nat.blt m 238 then tc_237 else (bif Nat.blt m 239 then tc_238 else tc_239)) else (bif Nat.blt m 241 then tc_240 else (bif Nat.blt m 242 then tc_241 else tc_242))))) else (bif Nat.blt m 254 then (bif Nat.blt m 248 then (bif Nat.blt m 245 then (bif Nat.blt m 244 then tc_243 else tc_244) else (bif Nat.blt m 246 then tc_245 else (bif Nat.blt m 247 then tc_246 else tc_247))) else (bif Nat.blt m 251 then (bif Nat.blt m 249 then tc_248 else (bif Nat.blt m 250 then tc_249 else tc_250)) else (bif Nat.blt m 252 then tc_251 else (bif Nat.blt m 253 then tc_252 else tc_253)))) else (bif Nat.blt m 259 then (bif Nat.blt m 256 then (bif Nat.blt m 255 then tc_254 else tc_255) else (bif Nat.blt m 257 then tc_256 else (bif Nat.blt m 258 then tc_257 else tc_258))) else (bif Nat.blt m 262 then (bif Nat.blt m 260 then tc_259 else (bif Nat.blt m 261 then tc_260 else tc_261)) else (bif Nat.blt m 263 then tc_262 else (bif Nat.blt m 264 then tc_263 else tc_264))))))) else (bif Nat.blt m 309 then (bif Nat.blt m 287 then (bif Nat.blt m 276 then (bif Nat.blt m 270 then (bif Nat.blt m 267 then (bif Nat.blt m 266 then tc_265 else tc_266) else (bif Nat.blt m 268 then tc_267 else (bif Nat.blt m 269 then tc_268 else tc_269))) else (bif Nat.blt m 273 then (bif Nat.blt m 271 then tc_270 else (bif Nat.blt m 272 then tc_271 else tc_272)) else (bif Nat.blt m 274 then tc_273 else (bif Nat.blt m 275 then tc_274 else tc_275)))) else (bif Nat.blt m 281 then (bif Nat.blt m 278 then (bif Nat.blt m 277 then tc_276 else tc_277) else (bif Nat.blt m 279 then tc_278 else (bif Nat.blt m 280 then tc_279 else tc_280))) else (bif Nat.blt m 284 then (bif Nat.blt m 282 then tc_281 else (bif Nat.blt m 283 then tc_282 else tc_283)) else (bif Nat.blt m 285 then tc_284 else (bif Nat.blt m 286 then tc_285 else tc_286))))) else (bif Nat.blt m 298 then (bif Nat.blt m 292 then (bif Nat.blt m 289 then (bif Nat.blt m 288 then tc_287 else tc_288) else (bif Nat.blt m 290 then tc_289 else (bif Nat.blt m 291 then tc_290 else tc_291))) else (bif Nat.blt m 295 then (bif Nat.blt m 293 then tc_292 else (bif Nat.blt m 294 then tc_293 else tc_294)) else (bif Nat.blt m 296 then tc_295 else (bif Nat.blt m 297 then tc_296 else tc_297)))) else (bif Nat.blt m 303 then (bif Nat.blt m 300 then (bif Nat.blt m 299 then tc_298 else tc_299) else (bif Nat.blt m 301 then tc_300 else (bif Nat.blt m 302 then tc_301 else tc_302))) else (bif Nat.blt m 306 then (bif Nat.blt m 304 then tc_303 else (bif Nat.blt m 305 then tc_304 else tc_305)) else (bif Nat.blt m 307 then tc_306 else (bif Nat.blt m 308 then tc_307 else tc_308)))))) else (bif Nat.blt m 331 then (bif Nat.blt m 320 then (bif Nat.blt m 314 then (bif Nat.blt m 311 then (bif Nat.blt m 310 then tc_309 else tc_310) else (bif Nat.blt m 312 then tc_311 else (bif Nat.blt m 313 then tc_312 else tc_313))) else (bif Nat.blt m 317 then (bif Nat.blt m 315 then tc_314 else (bif Nat.blt m 316 then tc_315 else tc_316)) else (bif Nat.blt m 318 then tc_317 else (bif Nat.blt m 319 then tc_318 else tc_319)))) else (bif Nat.blt m 325 then (bif Nat.blt m 322 then (bif Nat.blt m 321 then tc_320 else tc_321) else (bif Nat.blt m 323 then tc_322 else (bif Nat.blt m 324 then tc_323 else tc_324))) else (bif Nat.blt m 328 then (bif Nat.blt m 326 then tc_325 else (bif Nat.blt m 327 then tc_326 else tc_327)) else (bif Nat.blt m 329 then tc_328 else (bif Nat.blt m 330 then tc_329 else tc_330))))) else (bif Nat.blt m 342 then (bif Nat.blt m 336 then (bif Nat.blt m 333 then (bif Nat.blt m 332 then tc_331 else tc_332) else (bif Nat.blt m 334 then tc_333 else (bif Nat.blt m 335 then tc_334 else tc_335))) else (bif Nat.blt m 339 then (bif Nat.blt m 337 then tc_336 else (bif Nat.blt m 338 then tc_337 else tc_338)) else (bif Nat.blt m 340 then tc_339 else (bif Nat.blt m 341 then tc_340 else tc_341)))) else (bif Nat.blt m 348 then (bif Nat.blt m 345 then (bif Nat.blt m 343 then tc_342 else (bif Nat.blt m 344 then tc_343 else tc_344)) else (bif Nat.blt m 346 then tc_345 else (bif Nat.blt m 347 then tc_346 else tc_347))) else (bif Nat.blt m 351 then (bif Nat.blt m 349 then tc_348 else (bif Nat.blt m 350 then tc_349 else tc_350)) else (bif Nat.blt m 352 then tc_351 else (bif Nat.blt m 353 then tc_352 else tc_353))))))))) else []
def tb_pool (m : Nat) : List (Nat × (Nat × Nat × Nat) × List (Nat × Nat)) := bif Nat.blt m 17 then (bif Nat.blt m 8 then (bif Nat.blt m 4 then (bif Nat.blt m 2 then (bif Nat.blt m 1 then tp_0 else tp_1) else (bif Nat.blt m 3 then tp_2 else tp_3)) else (bif Nat.blt m 6 then (bif Nat.blt m 5 then tp_4 else tp_5) else (bif Nat.blt m 7 then tp_6 else tp_7))) else (bif Nat.blt m 12 then (bif Nat.blt m 10 then (bif Nat.blt m 9 then tp_8 else tp_9) else (bif Nat.blt m 11 then tp_10 else tp_11)) else (bif Nat.blt m 14 then (bif Nat.blt m 13 then tp_12 else tp_13) else (bif Nat.blt m 15 then tp_14 else (bif Nat.blt m 16 then tp_15 else tp_16))))) else []
/-- of a method: its class, its class among those of objects, constructor, locals, what it gives, depth, handlers -/
def tb_m (m : Nat) : Nat × Nat × Bool × Nat × Nat × Nat × List (Nat × Nat × Nat × Nat × Nat) := bif Nat.blt m 354 then (bif Nat.blt m 177 then (bif Nat.blt m 88 then (bif Nat.blt m 44 then (bif Nat.blt m 22 then (bif Nat.blt m 11 then (bif Nat.blt m 5 then (bif Nat.blt m 2 then (bif Nat.blt m 1 then (0, 99, false, 8, 3, 22, []) else (1, 0, true, 3, 0, 10, [])) else (bif Nat.blt m 3 then (1, 0, false, 3, 1, 12, []) else (bif Nat.blt m 4 then (1, 0, false, 3, 1, 12, []) else (1, 0, false, 3, 1, 13, [])))) else (bif Nat.blt m 8 then (bif Nat.blt m 6 then (1, 0, false, 3, 1, 13, []) else (bif Nat.blt m 7 then (1, 0, false, 3, 3, 13, []) else (1, 0, false, 4, 1, 14, []))) else (bif Nat.blt m 9 then (1, 0, false, 5, 3, 13, []) else (bif Nat.blt m 10 then (1, 0, false, 2, 1, 14, []) else (1, 0, false, 5, 1, 14, []))))) else (bif Nat.blt m 16 then (bif Nat.blt m 13 then (bif Nat.blt m 12 then (1, 0, false, 3, 3, 11, []) else (1, 0, false, 2, 0, 10, [])) else (bif Nat.blt m 14 then (1, 0, false, 5, 0, 13, []) else (bif Nat.blt m 15 then (1, 0, false, 4, 0, 11, []) else (1, 0, false, 6, 1, 13, [])))) else (bif Nat.blt m 19 then (bif Nat.blt m 17 then (1, 0, false, 4, 1, 11, []) else (bif Nat.blt m 18 then (1, 0, false, 2, 1, 12, []) else (1, 0, false, 5, 1, 13, []))) else (bif Nat.blt m 20 then (1, 0, false, 5, 1, 13, []) else (bif Nat.blt m 21 then (1, 0, false, 4, 1, 13, []) else (1, 0, false, 4, 1, 15, [])))))) else (bif Nat.blt m 33 then (bif Nat.blt m 27 then (bif Nat.blt m 24 then (bif Nat.blt m 23 then (1, 0, false, 3, 3, 14, []) else (1, 0, false, 6, 1, 13, [])) else (bif Nat.blt m 25 then (1, 0, false, 5, 1, 12, []) else (bif Nat.blt m 26 then (1, 0, false, 5, 1, 15, []) else (1, 0, false, 5, 1, 14, [])))) else (bif Nat.blt m 30 then (bif Nat.blt m 28 then (1, 0, false, 5, 1, 13, []) else (bif Nat.blt m 29 then (1, 0, false, 6, 1, 13, []) else (2, 1, true, 1, 0, 10, []))) else (bif Nat.blt m 31 then (2, 1, false, 2, 0, 10, []) else (bif Nat.blt m 32 then (2, 1, false, 1, 0, 10, []) else (2, 1, false, 2, 0, 10, []))))) else (bif Nat.blt m 38 then (bif Nat.blt m 35 then (bif Nat.blt m 34 then (2, 1, false, 3, 1, 10, []) else (2, 1, false, 3, 0, 10, [])) else (bif Nat.blt m 36 then (2, 1, false, 1, 1, 10, []) else (bif Nat.blt m 37 then (2, 1, false, 10, 1, 11, []) else (2, 1, false, 12, 3, 10, [])))) else (bif Nat.blt m 41 then (bif Nat.blt m 39 then (3, 2, true, 3, 0, 10, []) else (bif Nat.blt m 40 then (3, 2, false, 2, 1, 16, []) else (3, 2, false, 3, 3, 15, []))) else (bif Nat.blt m 42 then (3, 2, false, 5, 3, 14, []) else (bif Nat.blt m 43 then (3, 2, false, 3, 3, 13, []) else (3, 2, false, 4, 3, 12, []))))))) else (bif Nat.blt m 66 then (bif Nat.blt m 55 then (bif Nat.blt m 49 then (bif Nat.blt m 46 then (bif Nat.blt m 45 then (3, 2, false, 5, 3, 11, []) else (4, 3, true, 1, 0, 10, [])) else (bif Nat.blt m 47 then (4, 3, false, 2, 0, 10, []) else (bif Nat.blt m 48 then (4, 3, false, 6, 0, 11, []) else (4, 3, false, 3, 1, 10, [])))) else (bif Nat.blt m 52 then (bif Nat.blt m 50 then (4, 3, false, 4, 1, 11, []) else (bif Nat.blt m 51 then (4, 3, false, 6, 1, 11, []) else (5, 4, true, 2, 0, 12, []))) else (bif Nat.blt m 53 then (5, 4, false, 2, 0, 12, []) else (bif Nat.blt m 54 then (5, 4, false, 2, 3, 12, []) else (5, 4, false, 1, 0, 10, []))))) else (bif Nat.blt m 60 then (bif Nat.blt m 57 then (bif Nat.blt m 56 then (6, 5, true, 3, 0, 10, []) else (6, 5, false, 4, 1, 13, [])) else (bif Nat.blt m 58 then (6, 5, false, 7, 0, 12, []) else (bif Nat.blt m 59 then (6, 5, false, 6, 1, 10, []) else (6, 5, false, 7, 1, 14, [])))) else (bif Nat.blt m 63 then (bif Nat.blt m 61 then (6, 5, false, 4, 0, 15, []) else (bif Nat.blt m 62 then (6, 5, false, 8, 0, 14, []) else (7, 6, true, 3, 0, 10, []))) else (bif Nat.blt m 64 then (7, 6, false, 3, 3, 13, []) else (bif Nat.blt m 65 then (7, 6, false, 5, 3, 12, []) else (7, 6, false, 3, 0, 10, [])))))) else (bif Nat.blt m 77 then (bif Nat.blt m 71 then (bif Nat.blt m 68 then (bif Nat.blt m 67 then (7, 6, false, 5, 0, 11, []) else (7, 6, false, 3, 3, 10, [])) else (bif Nat.blt m 69 then (7, 6, false, 9, 1, 12, []) else (bif Nat.blt m 70 then (7, 6, false, 4, 0, 10, []) else (8, 7, true, 4, 0, 10, [])))) else (bif Nat.blt m 74 then (bif Nat.blt m 72 then (8, 7, false, 2, 1, 15, []) else (bif Nat.blt m 73 then (8, 7, false, 2, 3, 14, []) else (8, 7, false, 3, 3, 13, []))) else (bif Nat.blt m 75 then (8, 7, false, 4, 3, 12, []) else (bif Nat.blt m 76 then (8, 7, false, 4, 3, 12, []) else (8, 7, false, 2, 3, 12, []))))) else (bif Nat.blt m 82 then (bif Nat.blt m 79 then (bif Nat.blt m 78 then (8, 7, false, 2, 3, 12, []) else (8, 7, false, 3, 3, 12, [])) else (bif Nat.blt m 80 then (8, 7, false, 3, 3, 13, []) else (bif Nat.blt m 81 then (8, 7, false, 3, 3, 13, []) else (8, 7, false, 4, 1, 12, [])))) else (bif Nat.blt m 85 then (bif Nat.blt m 83 then (8, 7, false, 3, 1, 11, []) else (bif Nat.blt m 84 then (9, 8, true, 1, 0, 10, []) else (9, 8, false, 3, 0, 10, []))) else (bif Nat.blt m 86 then (9, 8, false, 2, 3, 10, []) else (bif Nat.blt m 87 then (9, 8, false, 2, 3, 10, []) else (10, 9, true, 1, 0, 10, [])))))))) else (bif Nat.blt m 132 then (bif Nat.blt m 110 then (bif Nat.blt m 99 then (bif Nat.blt m 93 then (bif Nat.blt m 90 then (bif Nat.blt m 89 then (10, 9, false, 4, 0, 12, []) else (10, 9, false, 5, 0, 10, [])) else (bif Nat.blt m 91 then (10, 9, false, 3, 1, 11, []) else (bif Nat.blt m 92 then (10, 9, false, 3, 1, 11, []) else (10, 9, false, 5, 1, 10, [])))) else (bif Nat.blt m 96 then (bif Nat.blt m 94 then (10, 9, false, 8, 1, 10, []) else (bif Nat.blt m 95 then (10, 9, false, 1, 1, 10, []) else (10, 9, false, 1, 1, 10, []))) else (bif Nat.blt m 97 then (10, 9, false, 1, 1, 10, []) else (bif Nat.blt m 98 then (10, 9, false, 1, 1, 10, []) else (10, 9, false, 1, 0, 10, []))))) else (bif Nat.blt m 104 then (bif Nat.blt m 101 then (bif Nat.blt m 100 then (10, 9, false, 4, 1, 11, []) else (11, 10, true, 1, 0, 11, [])) else (bif Nat.blt m 102 then (11, 10, false, 2, 0, 11, []) else (bif Nat.blt m 103 then (11, 10, false, 3, 1, 10, []) else (11, 10, false, 4, 0, 10, [])))) else (bif Nat.blt m 107 then (bif Nat.blt m 105 then (11, 10, false, 4, 1, 11, []) else (bif Nat.blt m 106 then (11, 10, false, 3, 0, 11, []) else (11, 10, false, 3, 0, 10, []))) else (bif Nat.blt m 108 then (11, 10, false, 2, 3, 10, []) else (bif Nat.blt m 109 then (11, 10, false, 2, 3, 11, []) else (11, 10, false, 3, 3, 10, [])))))) else (bif Nat.blt m 121 then (bif Nat.blt m 115 then (bif Nat.blt m 112 then (bif Nat.blt m 111 then (11, 10, false, 3, 1, 10, []) else (11, 10, false, 4, 1, 11, [])) else (bif Nat.blt m 113 then (11, 10, false, 3, 1, 12, []) else (bif Nat.blt m 114 then (11, 10, false, 2, 1, 11, []) else (11, 10, false, 3, 1, 11, [])))) else (bif Nat.blt m 118 then (bif Nat.blt m 116 then (11, 10, false, 3, 1, 12, []) else (bif Nat.blt m 117 then (11, 10, false, 4, 1, 12, []) else (11, 10, false, 3, 1, 10, []))) else (bif Nat.blt m 119 then (11, 10, false, 6, 0, 14, []) else (bif Nat.blt m 120 then (11, 10, false, 5, 1, 13, []) else (11, 10, false, 5, 3, 12, []))))) else (bif Nat.blt m 126 then (bif Nat.blt m 123 then (bif Nat.blt m 122 then (11, 10, false, 8, 0, 13, []) else (11, 10, false, 2, 1, 11, [])) else (bif Nat.blt m 124 then (11, 10, false, 1, 1, 10, []) else (bif Nat.blt m 125 then (11, 10, false, 4, 3, 13, []) else (11, 10, false, 4, 1, 12, [])))) else (bif Nat.blt m 129 then (bif Nat.blt m 127 then (11, 10, false, 4, 3, 12, []) else (bif Nat.blt m 128 then (11, 10, false, 3, 1, 11, []) else (11, 10, false, 4, 2, 12, []))) else (bif Nat.blt m 130 then (11, 10, false, 4, 2, 12, []) else (bif Nat.blt m 131 then (12, 11, true, 1, 0, 13, []) else (12, 11, false, 6, 1, 11, []))))))) else (bif Nat.blt m 154 then (bif Nat.blt m 143 then (bif Nat.blt m 137 then (bif Nat.blt m 134 then (bif Nat.blt m 133 then (12, 11, false, 2, 3, 10, []) else (12, 11, false, 1, 1, 17, [])) else (bif Nat.blt m 135 then (12, 11, false, 1, 1, 16, []) else (bif Nat.blt m 136 then (12, 11, false, 1, 1, 10, []) else (12, 11, false, 3, 1, 15, [])))) else (bif Nat.blt m 140 then (bif Nat.blt m 138 then (12, 11, false, 3, 1, 12, []) else (bif Nat.blt m 139 then (12, 11, false, 2, 2, 12, []) else (12, 11, false, 3, 1, 12, []))) else (bif Nat.blt m 141 then (12, 11, false, 4, 1, 14, []) else (bif Nat.blt m 142 then (12, 11, false, 3, 1, 13, []) else (12, 11, false, 3, 1, 13, []))))) else (bif Nat.blt m 148 then (bif Nat.blt m 145 then (bif Nat.blt m 144 then (12, 11, false, 3, 1, 13, []) else (12, 11, false, 2, 1, 13, [])) else (bif Nat.blt m 146 then (12, 11, false, 3, 1, 13, []) else (bif Nat.blt m 147 then (12, 11, false, 4, 1, 15, []) else (12, 11, false, 1, 1, 15, [])))) else (bif Nat.blt m 151 then (bif Nat.blt m 149 then (12, 11, false, 1, 1, 15, []) else (bif Nat.blt m 150 then (12, 11, false, 3, 1, 14, []) else (12, 11, false, 3, 1, 14, []))) else (bif Nat.blt m 152 then (12, 11, false, 1, 1, 14, []) else (bif Nat.blt m 153 then (12, 11, false, 2, 1, 13, []) else (12, 11, false, 2, 1, 14, [])))))) else (bif Nat.blt m 165 then (bif Nat.blt m 159 then (bif Nat.blt m 156 then (bif Nat.blt m 155 then (12, 11, false, 3, 1, 14, []) else (12, 11, false, 3, 1, 14, [])) else (bif Nat.blt m 157 then (12, 11, false, 3, 1, 15, []) else (bif Nat.blt m 158 then (12, 11, false, 3, 1, 16, []) else (12, 11, false, 2, 1, 14, [])))) else (bif Nat.blt m 162 then (bif Nat.blt m 160 then (12, 11, false, 2, 1, 16, []) else (bif Nat.blt m 161 then (12, 11, false, 2, 1, 14, []) else (12, 11, false, 2, 2, 13, []))) else (bif Nat.blt m 163 then (12, 11, false, 4, 1, 14, []) else (bif Nat.blt m 164 then (12, 11, false, 2, 1, 14, []) else (12, 11, false, 5, 1, 16, []))))) else (bif Nat.blt m 171 then (bif Nat.blt m 168 then (bif Nat.blt m 166 then (12, 11, false, 3, 1, 14, []) else (bif Nat.blt m 167 then (12, 11, false, 4, 1, 14, []) else (12, 11, false, 3, 1, 16, []))) else (bif Nat.blt m 169 then (12, 11, false, 6, 1, 16, []) else (bif Nat.blt m 170 then (12, 11, false, 2, 1, 15, []) else (12, 11, false, 2, 1, 12, [])))) else (bif Nat.blt m 174 then (bif Nat.blt m 172 then (12, 11, false, 1, 1, 12, []) else (bif Nat.blt m 173 then (12, 11, false, 3, 1, 11, []) else (12, 11, false, 3, 1, 10, []))) else (bif Nat.blt m 175 then (12, 11, false, 1, 3, 13, []) else (bif Nat.blt m 176 then (12, 11, false, 1, 0, 12, []) else (12, 11, false, 1, 3, 12, []))))))))) else (bif Nat.blt m 265 then (bif Nat.blt m 221 then (bif Nat.blt m 199 then (bif Nat.blt m 188 then (bif Nat.blt m 182 then (bif Nat.blt m 179 then (bif Nat.blt m 178 then (12, 11, false, 2, 1, 13, []) else (12, 11, false, 4, 0, 15, [])) else (bif Nat.blt m 180 then (12, 11, false, 2, 0, 11, []) else (bif Nat.blt m 181 then (12, 11, false, 2, 0, 11, []) else (12, 11, false, 2, 0, 10, [])))) else (bif Nat.blt m 185 then (bif Nat.blt m 183 then (12, 11, false, 2, 0, 12, []) else (bif Nat.blt m 184 then (12, 11, false, 3, 0, 10, []) else (12, 11, false, 2, 0, 10, []))) else (bif Nat.blt m 186 then (12, 11, false, 2, 1, 10, []) else (bif Nat.blt m 187 then (13, 12, false, 1, 1, 10, []) else (13, 12, false, 3, 3, 10, []))))) else (bif Nat.blt m 193 then (bif Nat.blt m 190 then (bif Nat.blt m 189 then (13, 12, false, 3, 3, 10, []) else (13, 12, false, 2, 3, 10, [])) else (bif Nat.blt m 191 then (13, 12, false, 3, 3, 10, []) else (bif Nat.blt m 192 then (13, 12, true, 2, 0, 10, []) else (13, 12, false, 5, 0, 10, [])))) else (bif Nat.blt m 196 then (bif Nat.blt m 194 then (13, 12, false, 5, 0, 10, []) else (bif Nat.blt m 195 then (13, 12, false, 1, 0, 11, []) else (13, 12, false, 1, 3, 11, []))) else (bif Nat.blt m 197 then (13, 12, false, 2, 0, 11, []) else (bif Nat.blt m 198 then (13, 12, false, 1, 3, 11, []) else (13, 12, false, 1, 1, 11, [])))))) else (bif Nat.blt m 210 then (bif Nat.blt m 204 then (bif Nat.blt m 201 then (bif Nat.blt m 200 then (13, 12, false, 1, 1, 10, []) else (13, 12, false, 3, 1, 10, [])) else (bif Nat.blt m 202 then (13, 12, false, 4, 0, 10, []) else (bif Nat.blt m 203 then (13, 12, false, 2, 3, 11, []) else (13, 12, false, 3, 3, 11, [])))) else (bif Nat.blt m 207 then (bif Nat.blt m 205 then (13, 12, false, 2, 3, 10, []) else (bif Nat.blt m 206 then (13, 12, false, 2, 1, 10, []) else (13, 12, false, 2, 3, 11, []))) else (bif Nat.blt m 208 then (13, 12, false, 2, 3, 12, []) else (bif Nat.blt m 209 then (13, 12, false, 1, 3, 11, []) else (13, 12, false, 1, 3, 11, []))))) else (bif Nat.blt m 215 then (bif Nat.blt m 212 then (bif Nat.blt m 211 then (13, 12, false, 3, 1, 11, []) else (13, 12, false, 2, 1, 10, [])) else (bif Nat.blt m 213 then (13, 12, false, 7, 1, 10, []) else (bif Nat.blt m 214 then (13, 12, false, 2, 3, 10, []) else (13, 12, false, 3, 3, 10, [])))) else (bif Nat.blt m 218 then (bif Nat.blt m 216 then (13, 12, false, 1, 0, 11, []) else (bif Nat.blt m 217 then (13, 12, false, 1, 0, 12, []) else (13, 12, false, 4, 3, 10, []))) else (bif Nat.blt m 219 then (13, 12, false, 2, 3, 13, []) else (bif Nat.blt m 220 then (13, 12, false, 2, 3, 12, []) else (13, 12, false, 4, 1, 12, []))))))) else (bif Nat.blt m 243 then (bif Nat.blt m 232 then (bif Nat.blt m 226 then (bif Nat.blt m 223 then (bif Nat.blt m 222 then (13, 12, false, 1, 3, 12, []) else (13, 12, false, 3, 1, 12, [])) else (bif Nat.blt m 224 then (13, 12, false, 1, 1, 10, []) else (bif Nat.blt m 225 then (13, 12, false, 1, 0, 10, []) else (13, 12, false, 3, 0, 10, [])))) else (bif Nat.blt m 229 then (bif Nat.blt m 227 then (13, 12, false, 2, 3, 13, []) else (bif Nat.blt m 228 then (13, 12, false, 1, 3, 14, []) else (13, 12, false, 2, 3, 15, []))) else (bif Nat.blt m 230 then (13, 12, false, 1, 3, 16, []) else (bif Nat.blt m 231 then (13, 12, false, 1, 3, 17, []) else (13, 12, false, 3, 3, 18, []))))) else (bif Nat.blt m 237 then (bif Nat.blt m 234 then (bif Nat.blt m 233 then (13, 12, false, 4, 3, 13, []) else (13, 12, false, 3, 3, 13, [])) else (bif Nat.blt m 235 then (13, 12, false, 3, 3, 14, []) else (bif Nat.blt m 236 then (13, 12, false, 2, 1, 13, []) else (13, 12, false, 2, 3, 11, [])))) else (bif Nat.blt m 240 then (bif Nat.blt m 238 then (13, 12, false, 4, 0, 11, []) else (bif Nat.blt m 239 then (13, 12, false, 3, 3, 14, []) else (13, 12, false, 3, 3, 14, []))) else (bif Nat.blt m 241 then (13, 12, false, 5, 3, 13, []) else (bif Nat.blt m 242 then (13, 12, false, 3, 3, 15, []) else (13, 12, false, 3, 3, 19, [])))))) else (bif Nat.blt m 254 then (bif Nat.blt m 248 then (bif Nat.blt m 245 then (bif Nat.blt m 244 then (13, 12, false, 3, 1, 20, []) else (13, 12, false, 3, 1, 21, [])) else (bif Nat.blt m 246 then (13, 12, false, 2, 1, 21, []) else (bif Nat.blt m 247 then (13, 12, false, 6, 1, 11, []) else (13, 12, false, 11, 3, 12, [])))) else (bif Nat.blt m 251 then (bif Nat.blt m 249 then (13, 12, false, 3, 1, 12, []) else (bif Nat.blt m 250 then (13, 12, false, 8, 1, 13, []) else (13, 12, false, 5, 1, 14, []))) else (bif Nat.blt m 252 then (13, 12, false, 4, 1, 15, []) else (bif Nat.blt m 253 then (13, 12, false, 4, 1, 12, []) else (13, 12, false, 3, 1, 12, []))))) else (bif Nat.blt m 259 then (bif Nat.blt m 256 then (bif Nat.blt m 255 then (13, 12, false, 7, 3, 13, []) else (13, 12, false, 4, 1, 14, [])) else (bif Nat.blt m 257 then (13, 12, false, 3, 1, 15, []) else (bif Nat.blt m 258 then (13, 12, false, 2, 1, 11, []) else (13, 12, false, 3, 1, 12, [])))) else (bif Nat.blt m 262 then (bif Nat.blt m 260 then (13, 12, false, 2, 2, 12, []) else (bif Nat.blt m 261 then (13, 12, false, 3, 1, 12, []) else (13, 12, false, 3, 3, 16, []))) else (bif Nat.blt m 263 then (13, 12, false, 4, 1, 17, []) else (bif Nat.blt m 264 then (13, 12, false, 3, 1, 13, []) else (13, 12, false, 4, 1, 13, [])))))))) else (bif Nat.blt m 309 then (bif Nat.blt m 287 then (bif Nat.blt m 276 then (bif Nat.blt m 270 then (bif Nat.blt m 267 then (bif Nat.blt m 266 then (13, 12, false, 4, 1, 12, []) else (13, 12, false, 4, 1, 12, [])) else (bif Nat.blt m 268 then (13, 12, false, 3, 1, 12, []) else (bif Nat.blt m 269 then (13, 12, false, 3, 3, 17, []) else (13, 12, false, 5, 0, 11, [])))) else (bif Nat.blt m 273 then (bif Nat.blt m 271 then (13, 12, false, 5, 0, 12, []) else (bif Nat.blt m 272 then (13, 12, false, 4, 0, 18, []) else (13, 12, false, 4, 1, 19, []))) else (bif Nat.blt m 274 then (13, 12, false, 5, 1, 16, []) else (bif Nat.blt m 275 then (13, 12, false, 5, 1, 15, []) else (13, 12, false, 3, 3, 12, []))))) else (bif Nat.blt m 281 then (bif Nat.blt m 278 then (bif Nat.blt m 277 then (13, 12, false, 3, 1, 12, []) else (13, 12, false, 2, 0, 16, [])) else (bif Nat.blt m 279 then (13, 12, false, 4, 3, 13, []) else (bif Nat.blt m 280 then (13, 12, false, 7, 1, 17, []) else (13, 12, false, 6, 1, 17, [])))) else (bif Nat.blt m 284 then (bif Nat.blt m 282 then (13, 12, false, 6, 1, 13, []) else (bif Nat.blt m 283 then (13, 12, false, 4, 1, 13, []) else (13, 12, false, 4, 1, 13, []))) else (bif Nat.blt m 285 then (13, 12, false, 1, 3, 11, []) else (bif Nat.blt m 286 then (13, 12, false, 9, 1, 15, []) else (13, 12, false, 3, 1, 16, [])))))) else (bif Nat.blt m 298 then (bif Nat.blt m 292 then (bif Nat.blt m 289 then (bif Nat.blt m 288 then (13, 12, false, 5, 1, 16, []) else (13, 12, false, 5, 1, 16, [])) else (bif Nat.blt m 290 then (13, 12, false, 11, 1, 16, []) else (bif Nat.blt m 291 then (13, 12, false, 4, 1, 16, []) else (13, 12, false, 5, 1, 17, [])))) else (bif Nat.blt m 295 then (bif Nat.blt m 293 then (13, 12, false, 4, 1, 12, []) else (bif Nat.blt m 294 then (13, 12, false, 7, 2, 13, []) else (13, 12, false, 8, 2, 13, []))) else (bif Nat.blt m 296 then (13, 12, false, 3, 3, 14, []) else (bif Nat.blt m 297 then (13, 12, false, 4, 1, 12, []) else (13, 12, false, 3, 1, 15, []))))) else (bif Nat.blt m 303 then (bif Nat.blt m 300 then (bif Nat.blt m 299 then (13, 12, false, 2, 1, 15, []) else (13, 12, false, 5, 1, 16, [])) else (bif Nat.blt m 301 then (13, 12, false, 5, 1, 17, []) else (bif Nat.blt m 302 then (13, 12, false, 4, 1, 18, []) else (13, 12, false, 5, 1, 12, [])))) else (bif Nat.blt m 306 then (bif Nat.blt m 304 then (13, 12, false, 6, 1, 12, []) else (bif Nat.blt m 305 then (13, 12, false, 1, 0, 11, []) else (13, 12, false, 1, 0, 11, []))) else (bif Nat.blt m 307 then (13, 12, false, 3, 1, 11, []) else (bif Nat.blt m 308 then (13, 12, false, 4, 1, 19, []) else (13, 12, false, 6, 1, 19, []))))))) else (bif Nat.blt m 331 then (bif Nat.blt m 320 then (bif Nat.blt m 314 then (bif Nat.blt m 311 then (bif Nat.blt m 310 then (13, 12, false, 3, 1, 19, []) else (13, 12, false, 3, 1, 10, [])) else (bif Nat.blt m 312 then (13, 12, false, 4, 1, 12, []) else (bif Nat.blt m 313 then (13, 12, false, 4, 1, 11, []) else (13, 12, false, 3, 1, 12, [])))) else (bif Nat.blt m 317 then (bif Nat.blt m 315 then (13, 12, false, 3, 1, 11, []) else (bif Nat.blt m 316 then (13, 12, false, 3, 1, 10, []) else (13, 12, false, 2, 1, 13, []))) else (bif Nat.blt m 318 then (14, 99, false, 2, 1, 10, []) else (bif Nat.blt m 319 then (14, 99, false, 1, 1, 10, []) else (15, 99, false, 2, 1, 10, []))))) else (bif Nat.blt m 325 then (bif Nat.blt m 322 then (bif Nat.blt m 321 then (16, 99, false, 2, 1, 10, []) else (16, 99, false, 2, 1, 10, [])) else (bif Nat.blt m 323 then (0, 99, false, 3, 1, 18, [(0, 8, 11, 0, 13), (0, 8, 14, 1, 15)]) else (bif Nat.blt m 324 then (0, 99, false, 3, 1, 17, [(0, 8, 11, 0, 13), (0, 8, 14, 3, 20)]) else (0, 99, false, 5, 1, 16, [(0, 10, 13, 2, 26), (0, 10, 17, 4, 28)])))) else (bif Nat.blt m 328 then (bif Nat.blt m 326 then (0, 99, false, 5, 1, 13, [(0, 10, 13, 2, 26), (0, 10, 17, 4, 28)]) else (bif Nat.blt m 327 then (0, 99, false, 4, 1, 13, [(0, 8, 11, 2, 26)]) else (0, 99, false, 5, 1, 13, [(0, 10, 13, 2, 26)]))) else (bif Nat.blt m 329 then (0, 99, false, 6, 1, 15, [(0, 12, 15, 2, 26), (0, 12, 19, 1, 15), (0, 12, 23, 4, 28)]) else (bif Nat.blt m 330 then (0, 99, false, 5, 1, 14, [(0, 10, 13, 2, 26), (0, 10, 17, 1, 15)]) else (0, 99, false, 4, 1, 14, [(0, 9, 12, 2, 26), (0, 9, 15, 1, 15)])))))) else (bif Nat.blt m 342 then (bif Nat.blt m 336 then (bif Nat.blt m 333 then (bif Nat.blt m 332 then (0, 99, false, 5, 1, 14, [(0, 10, 13, 2, 26), (0, 10, 17, 0, 13), (0, 10, 21, 1, 15)]) else (0, 99, false, 4, 1, 14, [(0, 9, 12, 2, 26), (0, 9, 15, 1, 15), (0, 9, 18, 3, 20)])) else (bif Nat.blt m 334 then (0, 99, false, 4, 1, 14, [(0, 9, 12, 2, 26), (0, 9, 15, 1, 15)]) else (bif Nat.blt m 335 then (0, 99, false, 4, 1, 16, [(0, 9, 12, 0, 13)]) else (0, 99, false, 4, 1, 15, [(0, 9, 12, 0, 13), (0, 9, 15, 4, 28)])))) else (bif Nat.blt m 339 then (bif Nat.blt m 337 then (0, 99, false, 4, 1, 15, [(0, 9, 12, 2, 26), (0, 9, 15, 0, 13), (0, 9, 18, 1, 15)]) else (bif Nat.blt m 338 then (0, 99, false, 4, 1, 14, [(0, 9, 12, 2, 26), (0, 9, 15, 1, 15)]) else (0, 99, false, 4, 1, 15, [(0, 9, 12, 0, 13)]))) else (bif Nat.blt m 340 then (0, 99, false, 5, 1, 15, [(0, 10, 13, 2, 26), (0, 10, 17, 0, 13), (0, 10, 21, 1, 15)]) else (bif Nat.blt m 341 then (0, 99, false, 5, 1, 15, [(0, 10, 13, 2, 26), (0, 10, 17, 1, 15)]) else (0, 99, false, 5, 1, 16, [(0, 10, 13, 2, 26), (0, 10, 17, 0, 13), (0, 10, 21, 1, 15)]))))) else (bif Nat.blt m 348 then (bif Nat.blt m 345 then (bif Nat.blt m 343 then (0, 99, false, 5, 1, 17, [(0, 10, 13, 0, 13)]) else (bif Nat.blt m 344 then (0, 99, false, 4, 1, 15, [(0, 9, 12, 2, 26), (0, 9, 15, 1, 15)]) else (0, 99, false, 4, 1, 17, [(0, 9, 12, 2, 26)]))) else (bif Nat.blt m 346 then (0, 99, false, 4, 1, 15, [(0, 9, 12, 2, 26)]) else (bif Nat.blt m 347 then (0, 99, false, 4, 1, 15, [(0, 9, 12, 0, 13)]) else (0, 99, false, 5, 1, 17, [(0, 10, 13, 2, 26), (0, 10, 17, 1, 15)])))) else (bif Nat.blt m 351 then (bif Nat.blt m 349 then (0, 99, false, 5, 1, 15, [(0, 10, 13, 2, 26), (0, 10, 17, 0, 13)]) else (bif Nat.blt m 350 then (0, 99, false, 6, 1, 15, [(0, 12, 15, 2, 26), (0, 12, 19, 0, 13)]) else (0, 99, false, 5, 1, 17, [(0, 10, 13, 0, 13), (0, 10, 17, 4, 28)]))) else (bif Nat.blt m 352 then (0, 99, false, 5, 1, 17, [(0, 10, 13, 0, 13)]) else (bif Nat.blt m 353 then (0, 99, false, 4, 1, 13, [(0, 9, 12, 2, 26)]) else (0, 99, false, 5, 1, 12, [(0, 10, 13, 4, 28)])))))))))) else (0, 99, false, 0, 9, 0, [])
def tb_cd (m pc : Nat) : Option (Instr × Nat × Nat) := ea_as (tb_code m) pc
def tb_P (X : Option (List AI)) : EP := (fun m pc => (tb_cd m pc).map (fun q => (q.1, q.2.1 - pc)), fun m x => (ea_as (tb_pool (tb_m m).1) x).map (fun q => q.1), fun c f => match ea_nt tb_ft c with
  | some l => (ea_nt l f).getD 9
  | none => 9, fun m => (tb_m m).2.2.1, fun m => (tb_m m).2.2.2.1, fun m => (tb_m m).2.2.2.2.1, fun m => (tb_m m).2.2.2.2.2.1, fun m => (tb_m m).2.1, fun m => (tb_m m).2.2.2.2.2.2, fun a b => Nat.beq (a % 5) (b % 5), fun m => match m with
  | 0 => X
  | _ + 1 => none)
end
section
/-! the names and words of the program -/
def tb_y (m : Nat) : MethodName := bif Nat.blt m 354 then (bif Nat.blt m 177 then (bif Nat.blt m 88 then (bif Nat.blt m 44 then (bif Nat.blt m 22 then (bif Nat.blt m 11 then (bif Nat.blt m 5 then (bif Nat.blt m 2 then (bif Nat.blt m 1 then ⟨"EarCodeLaw", "law", "([I)Z"⟩ else ⟨"EarCode$Inquiry", "<init>", "(LEarCode$Law;LEarCode$World;)V"⟩) else (bif Nat.blt m 3 then ⟨"EarCode$Inquiry", "forbidding", "(II)I"⟩ else (bif Nat.blt m 4 then ⟨"EarCode$Inquiry", "demanding", "(II)I"⟩ else ⟨"EarCode$Inquiry", "forbiddenTo", "(II)I"⟩))) else (bif Nat.blt m 8 then (bif Nat.blt m 6 then ⟨"EarCode$Inquiry", "demandedOf", "(II)I"⟩ else (bif Nat.blt m 7 then ⟨"EarCode$Inquiry", "allows", "(II)Z"⟩ else ⟨"EarCode$Inquiry", "forbiddenToAll", "()I"⟩)) else (bif Nat.blt m 9 then ⟨"EarCode$Inquiry", "isForbiddenToAll", "(II)Z"⟩ else (bif Nat.blt m 10 then ⟨"EarCode$Inquiry", "contradicting", "(I)I"⟩ else ⟨"EarCode$Inquiry", "fewestToDie", "()I"⟩)))) else (bif Nat.blt m 16 then (bif Nat.blt m 13 then (bif Nat.blt m 12 then ⟨"EarCode$Inquiry", "isRelief", "(I)Z"⟩ else ⟨"EarCode$Inquiry", "clearOthers", "()V"⟩) else (bif Nat.blt m 14 then ⟨"EarCode$Inquiry", "findOthers", "(I)V"⟩ else (bif Nat.blt m 15 then ⟨"EarCode$Inquiry", "addOthers", "(II)V"⟩ else ⟨"EarCode$Inquiry", "fewestKnowers", "()I"⟩))) else (bif Nat.blt m 19 then (bif Nat.blt m 17 then ⟨"EarCode$Inquiry", "knownTogether", "(I)I"⟩ else (bif Nat.blt m 18 then ⟨"EarCode$Inquiry", "knownByOnly", "(I)I"⟩ else ⟨"EarCode$Inquiry", "tellingsFor", "(I)I"⟩)) else (bif Nat.blt m 20 then ⟨"EarCode$Inquiry", "firstFreePlace", "(II)I"⟩ else (bif Nat.blt m 21 then ⟨"EarCode$Inquiry", "deducedBy", "(I)I"⟩ else ⟨"EarCode$Inquiry", "hushedPlaces", "(I)I"⟩))))) else (bif Nat.blt m 33 then (bif Nat.blt m 27 then (bif Nat.blt m 24 then (bif Nat.blt m 23 then ⟨"EarCode$Inquiry", "isAllowedToAny", "(I)Z"⟩ else ⟨"EarCode$Inquiry", "usualDeed", "(I)I"⟩) else (bif Nat.blt m 25 then ⟨"EarCode$Inquiry", "timesInHabits", "(I)I"⟩ else (bif Nat.blt m 26 then ⟨"EarCode$Inquiry", "mostWorth", "(II)I"⟩ else ⟨"EarCode$Inquiry", "worthOf", "(II)I"⟩))) else (bif Nat.blt m 30 then (bif Nat.blt m 28 then ⟨"EarCode$Inquiry", "crowdAt", "(II)I"⟩ else (bif Nat.blt m 29 then ⟨"EarCode$Inquiry", "meetings", "(III)I"⟩ else ⟨"EarCode$Law", "<init>", "()V"⟩)) else (bif Nat.blt m 31 then ⟨"EarCode$Law", "become", "(LEarCode$Law;)V"⟩ else (bif Nat.blt m 32 then ⟨"EarCode$Law", "clear", "()V"⟩ else ⟨"EarCode$Law", "addStep", "(I)V"⟩)))) else (bif Nat.blt m 38 then (bif Nat.blt m 35 then (bif Nat.blt m 34 then ⟨"EarCode$Law", "addTerms", "()I"⟩ else ⟨"EarCode$Law", "addClause", "(ZI)V"⟩) else (bif Nat.blt m 36 then ⟨"EarCode$Law", "never", "()I"⟩ else (bif Nat.blt m 37 then ⟨"EarCode$Law", "bearing", "(ZIIII)I"⟩ else ⟨"EarCode$Law", "holds", "(IIIII)Z"⟩))) else (bif Nat.blt m 41 then (bif Nat.blt m 39 then ⟨"EarCode$LawReader", "<init>", "(LEarCode$Text;LEarCode$Law;)V"⟩ else (bif Nat.blt m 40 then ⟨"EarCode$LawReader", "readAll", "()I"⟩ else ⟨"EarCode$LawReader", "readClause", "()Z"⟩)) else (bif Nat.blt m 42 then ⟨"EarCode$LawReader", "readCondition", "(I)Z"⟩ else (bif Nat.blt m 43 then ⟨"EarCode$LawReader", "readAtom", "(I)Z"⟩ else ⟨"EarCode$LawReader", "readComparison", "()Z"⟩)))))) else (bif Nat.blt m 66 then (bif Nat.blt m 55 then (bif Nat.blt m 49 then (bif Nat.blt m 46 then (bif Nat.blt m 45 then ⟨"EarCode$LawReader", "readSum", "(II)Z"⟩ else ⟨"EarCode$Log", "<init>", "()V"⟩) else (bif Nat.blt m 47 then ⟨"EarCode$Log", "become", "(LEarCode$Log;)V"⟩ else (bif Nat.blt m 48 then ⟨"EarCode$Log", "add", "(IIII)V"⟩ else ⟨"EarCode$Log", "entry", "(II)I"⟩))) else (bif Nat.blt m 52 then (bif Nat.blt m 50 then ⟨"EarCode$Log", "clausesOf", "(I)I"⟩ else (bif Nat.blt m 51 then ⟨"EarCode$Log", "mostFrequentClause", "()I"⟩ else ⟨"EarCode$Memory", "<init>", "()V"⟩)) else (bif Nat.blt m 53 then ⟨"EarCode$Memory", "remember", "(LEarCode$World;)V"⟩ else (bif Nat.blt m 54 then ⟨"EarCode$Memory", "takeBack", "(LEarCode$World;)Z"⟩ else ⟨"EarCode$Memory", "forget", "()V"⟩)))) else (bif Nat.blt m 60 then (bif Nat.blt m 57 then (bif Nat.blt m 56 then ⟨"EarCode$Outlook", "<init>", "(LEarCode$Law;LEarCode$World;)V"⟩ else ⟨"EarCode$Outlook", "riskFrom", "(III)I"⟩) else (bif Nat.blt m 58 then ⟨"EarCode$Outlook", "foresee", "(IIII)V"⟩ else (bif Nat.blt m 59 then ⟨"EarCode$Outlook", "riskyDays", "(III)I"⟩ else ⟨"EarCode$Outlook", "bestStart", "(II)I"⟩))) else (bif Nat.blt m 63 then (bif Nat.blt m 61 then ⟨"EarCode$Outlook", "findTelling", "(I)V"⟩ else (bif Nat.blt m 62 then ⟨"EarCode$Outlook", "findTellingOf", "(III)V"⟩ else ⟨"EarCode$Reading", "<init>", "(LEarCode$Law;LEarCode$World;)V"⟩)) else (bif Nat.blt m 64 then ⟨"EarCode$Reading", "takeRows", "(LEarCode$Tape;)Z"⟩ else (bif Nat.blt m 65 then ⟨"EarCode$Reading", "takeRow", "(III)Z"⟩ else ⟨"EarCode$Reading", "addNeed", "(I)V"⟩))))) else (bif Nat.blt m 77 then (bif Nat.blt m 71 then (bif Nat.blt m 68 then (bif Nat.blt m 67 then ⟨"EarCode$Reading", "findCodes", "()V"⟩ else ⟨"EarCode$Reading", "meetsNeeds", "(I)Z"⟩) else (bif Nat.blt m 69 then ⟨"EarCode$Reading", "bestSplit", "(I)I"⟩ else (bif Nat.blt m 70 then ⟨"EarCode$Reading", "sumOverSubsets", "()V"⟩ else ⟨"EarCode$RepublicReader", "<init>", "(LEarCode$Text;LEarCode$Law;LEarCode$World;)V"⟩))) else (bif Nat.blt m 74 then (bif Nat.blt m 72 then ⟨"EarCode$RepublicReader", "readAll", "()I"⟩ else (bif Nat.blt m 73 then ⟨"EarCode$RepublicReader", "readLine", "()Z"⟩ else ⟨"EarCode$RepublicReader", "readCitizen", "()Z"⟩)) else (bif Nat.blt m 75 then ⟨"EarCode$RepublicReader", "readHabit", "(I)Z"⟩ else (bif Nat.blt m 76 then ⟨"EarCode$RepublicReader", "readKnows", "(I)Z"⟩ else ⟨"EarCode$RepublicReader", "readWatch", "()Z"⟩)))) else (bif Nat.blt m 82 then (bif Nat.blt m 79 then (bif Nat.blt m 78 then ⟨"EarCode$RepublicReader", "readTerm", "()Z"⟩ else ⟨"EarCode$RepublicReader", "readHarm", "()Z"⟩) else (bif Nat.blt m 80 then ⟨"EarCode$RepublicReader", "readWed", "()Z"⟩ else (bif Nat.blt m 81 then ⟨"EarCode$RepublicReader", "readSeen", "()Z"⟩ else ⟨"EarCode$RepublicReader", "readLiving", "(ZI)I"⟩))) else (bif Nat.blt m 85 then (bif Nat.blt m 83 then ⟨"EarCode$RepublicReader", "readMatter", "()I"⟩ else (bif Nat.blt m 84 then ⟨"EarCode$Tape", "<init>", "()V"⟩ else ⟨"EarCode$Tape", "add", "(I)V"⟩)) else (bif Nat.blt m 86 then ⟨"EarCode$Tape", "isLetter", "(I)Z"⟩ else (bif Nat.blt m 87 then ⟨"EarCode$Tape", "isDigit", "(I)Z"⟩ else ⟨"EarCode$Text", "<init>", "()V"⟩))))))) else (bif Nat.blt m 132 then (bif Nat.blt m 110 then (bif Nat.blt m 99 then (bif Nat.blt m 93 then (bif Nat.blt m 90 then (bif Nat.blt m 89 then ⟨"EarCode$Text", "split", "(LEarCode$Tape;)V"⟩ else ⟨"EarCode$Text", "put", "(IIII)V"⟩) else (bif Nat.blt m 91 then ⟨"EarCode$Text", "endOfWord", "(LEarCode$Tape;I)I"⟩ else (bif Nat.blt m 92 then ⟨"EarCode$Text", "endOfNumber", "(LEarCode$Tape;I)I"⟩ else ⟨"EarCode$Text", "valueOf", "(LEarCode$Tape;II)I"⟩))) else (bif Nat.blt m 96 then (bif Nat.blt m 94 then ⟨"EarCode$Text", "wordNumber", "(LEarCode$Tape;II)I"⟩ else (bif Nat.blt m 95 then ⟨"EarCode$Text", "kind", "()I"⟩ else ⟨"EarCode$Text", "value", "()I"⟩)) else (bif Nat.blt m 97 then ⟨"EarCode$Text", "size", "()I"⟩ else (bif Nat.blt m 98 then ⟨"EarCode$Text", "begin", "()I"⟩ else ⟨"EarCode$Text", "goOn", "()V"⟩)))) else (bif Nat.blt m 104 then (bif Nat.blt m 101 then (bif Nat.blt m 100 then ⟨"EarCode$Text", "numberWithin", "(II)I"⟩ else ⟨"EarCode$World", "<init>", "()V"⟩) else (bif Nat.blt m 102 then ⟨"EarCode$World", "become", "(LEarCode$World;)V"⟩ else (bif Nat.blt m 103 then ⟨"EarCode$World", "addCitizen", "(I)I"⟩ else ⟨"EarCode$World", "addToHabit", "(II)V"⟩))) else (bif Nat.blt m 107 then (bif Nat.blt m 105 then ⟨"EarCode$World", "bear", "(I)I"⟩ else (bif Nat.blt m 106 then ⟨"EarCode$World", "bury", "(I)V"⟩ else ⟨"EarCode$World", "marry", "(II)V"⟩)) else (bif Nat.blt m 108 then ⟨"EarCode$World", "isThere", "(I)Z"⟩ else (bif Nat.blt m 109 then ⟨"EarCode$World", "isAlive", "(I)Z"⟩ else ⟨"EarCode$World", "hasSeen", "(II)Z"⟩))))) else (bif Nat.blt m 121 then (bif Nat.blt m 115 then (bif Nat.blt m 112 then (bif Nat.blt m 111 then ⟨"EarCode$World", "matterAt", "(II)I"⟩ else ⟨"EarCode$World", "matterAhead", "(II)I"⟩) else (bif Nat.blt m 113 then ⟨"EarCode$World", "placeAhead", "(II)I"⟩ else (bif Nat.blt m 114 then ⟨"EarCode$World", "knownBy", "(I)I"⟩ else ⟨"EarCode$World", "pooledBy", "(I)I"⟩))) else (bif Nat.blt m 118 then (bif Nat.blt m 116 then ⟨"EarCode$World", "inForce", "()I"⟩ else (bif Nat.blt m 117 then ⟨"EarCode$World", "knowersOf", "(I)I"⟩ else ⟨"EarCode$World", "takenOnes", "()I"⟩)) else (bif Nat.blt m 119 then ⟨"EarCode$World", "passDay", "(LEarCode$Law;)V"⟩ else (bif Nat.blt m 120 then ⟨"EarCode$World", "pickDoers", "(LEarCode$Law;I)I"⟩ else ⟨"EarCode$World", "keepsFrom", "(LEarCode$Law;I)Z"⟩)))) else (bif Nat.blt m 126 then (bif Nat.blt m 123 then (bif Nat.blt m 122 then ⟨"EarCode$World", "judge", "(LEarCode$Law;III)V"⟩ else ⟨"EarCode$World", "lowest", "(I)I"⟩) else (bif Nat.blt m 124 then ⟨"EarCode$World", "draw", "()I"⟩ else (bif Nat.blt m 125 then ⟨"EarCode$World", "spreadFear", "()Z"⟩ else ⟨"EarCode$World", "seersOf", "(I)I"⟩))) else (bif Nat.blt m 129 then (bif Nat.blt m 127 then ⟨"EarCode$World", "letAllSee", "(I)Z"⟩ else (bif Nat.blt m 128 then ⟨"EarCode$World", "seenInSum", "()I"⟩ else ⟨"EarCode$World", "seenByAll", "()J"⟩)) else (bif Nat.blt m 130 then ⟨"EarCode$World", "seenByAny", "()J"⟩ else (bif Nat.blt m 131 then ⟨"EarCode", "<init>", "()V"⟩ else ⟨"EarCode", "feed", "(IIIII)I"⟩)))))) else (bif Nat.blt m 154 then (bif Nat.blt m 143 then (bif Nat.blt m 137 then (bif Nat.blt m 134 then (bif Nat.blt m 133 then ⟨"EarCode", "end", "(I)Z"⟩ else ⟨"EarCode", "code", "()I"⟩) else (bif Nat.blt m 135 then ⟨"EarCode", "republic", "()I"⟩ else (bif Nat.blt m 136 then ⟨"EarCode", "fault", "()I"⟩ else ⟨"EarCode", "clause", "(II)I"⟩))) else (bif Nat.blt m 140 then (bif Nat.blt m 138 then ⟨"EarCode", "citizen", "(II)I"⟩ else (bif Nat.blt m 139 then ⟨"EarCode", "seen", "(I)J"⟩ else ⟨"EarCode", "habit", "(II)I"⟩)) else (bif Nat.blt m 141 then ⟨"EarCode", "matter", "(III)I"⟩ else (bif Nat.blt m 142 then ⟨"EarCode", "tell", "(II)I"⟩ else ⟨"EarCode", "die", "(I)I"⟩)))) else (bif Nat.blt m 148 then (bif Nat.blt m 145 then (bif Nat.blt m 144 then ⟨"EarCode", "wed", "(II)I"⟩ else ⟨"EarCode", "baby", "(I)I"⟩) else (bif Nat.blt m 146 then ⟨"EarCode", "release", "(I)I"⟩ else (bif Nat.blt m 147 then ⟨"EarCode", "days", "(I)I"⟩ else ⟨"EarCode", "nobody", "()I"⟩))) else (bif Nat.blt m 151 then (bif Nat.blt m 149 then ⟨"EarCode", "relief", "()I"⟩ else (bif Nat.blt m 150 then ⟨"EarCode", "read", "(I)I"⟩ else ⟨"EarCode", "next", "(I)I"⟩)) else (bif Nat.blt m 152 then ⟨"EarCode", "cover", "()I"⟩ else (bif Nat.blt m 153 then ⟨"EarCode", "dies", "(I)I"⟩ else ⟨"EarCode", "heirs", "(I)I"⟩))))) else (bif Nat.blt m 165 then (bif Nat.blt m 159 then (bif Nat.blt m 156 then (bif Nat.blt m 155 then ⟨"EarCode", "risk", "(II)I"⟩ else ⟨"EarCode", "safe", "(II)I"⟩) else (bif Nat.blt m 157 then ⟨"EarCode", "better", "(II)I"⟩ else (bif Nat.blt m 158 then ⟨"EarCode", "telling", "(IZ)I"⟩ else ⟨"EarCode", "deduced", "(I)I"⟩))) else (bif Nat.blt m 162 then (bif Nat.blt m 160 then ⟨"EarCode", "hush", "(I)I"⟩ else (bif Nat.blt m 161 then ⟨"EarCode", "usual", "(I)I"⟩ else ⟨"EarCode", "feared", "(Z)J"⟩)) else (bif Nat.blt m 163 then ⟨"EarCode", "custom", "(I)I"⟩ else (bif Nat.blt m 164 then ⟨"EarCode", "settles", "()I"⟩ else ⟨"EarCode", "provoked", "(IZ)I"⟩)))) else (bif Nat.blt m 171 then (bif Nat.blt m 168 then (bif Nat.blt m 166 then ⟨"EarCode", "crowd", "(II)I"⟩ else (bif Nat.blt m 167 then ⟨"EarCode", "witnesses", "(III)I"⟩ else ⟨"EarCode", "trial", "(II)I"⟩)) else (bif Nat.blt m 169 then ⟨"EarCode", "span", "(IZ)I"⟩ else (bif Nat.blt m 170 then ⟨"EarCode", "first", "()I"⟩ else ⟨"EarCode", "led", "(I)I"⟩))) else (bif Nat.blt m 174 then (bif Nat.blt m 172 then ⟨"EarCode", "worst", "()I"⟩ else (bif Nat.blt m 173 then ⟨"EarCode", "log", "(II)I"⟩ else ⟨"EarCode", "seed", "(I)I"⟩)) else (bif Nat.blt m 175 then ⟨"EarCode", "undo", "()Z"⟩ else (bif Nat.blt m 176 then ⟨"EarCode", "image", "()V"⟩ else ⟨"EarCode", "back", "()Z"⟩)))))))) else (bif Nat.blt m 265 then (bif Nat.blt m 221 then (bif Nat.blt m 199 then (bif Nat.blt m 188 then (bif Nat.blt m 182 then (bif Nat.blt m 179 then (bif Nat.blt m 178 then ⟨"EarCode", "count", "(I)I"⟩ else ⟨"EarCode", "tryDays", "(II)V"⟩) else (bif Nat.blt m 180 then ⟨"EarCode", "needCitizen", "(I)V"⟩ else (bif Nat.blt m 181 then ⟨"EarCode", "needClause", "(I)V"⟩ else ⟨"EarCode", "needIndex", "(II)V"⟩))) else (bif Nat.blt m 185 then (bif Nat.blt m 183 then ⟨"EarCode", "needAlive", "(I)V"⟩ else (bif Nat.blt m 184 then ⟨"EarCode", "needNumber", "(III)V"⟩ else ⟨"EarCode", "needTwo", "(II)V"⟩)) else (bif Nat.blt m 186 then ⟨"EarCode", "bit", "(II)I"⟩ else (bif Nat.blt m 187 then ⟨"EarCodeModel", "thrown", "()I"⟩ else ⟨"EarCodeModel", "throwsIf", "(ZI)Z"⟩)))) else (bif Nat.blt m 193 then (bif Nat.blt m 190 then (bif Nat.blt m 189 then ⟨"EarCodeModel", "in", "(III)Z"⟩ else ⟨"EarCodeModel", "has", "(II)Z"⟩) else (bif Nat.blt m 191 then ⟨"EarCodeModel", "hasMatter", "(JI)Z"⟩ else (bif Nat.blt m 192 then ⟨"EarCodeModel", "<init>", "()V"⟩ else ⟨"EarCodeModel", "likens", "([II[II)V"⟩))) else (bif Nat.blt m 196 then (bif Nat.blt m 194 then ⟨"EarCodeModel", "likensSeen", "([JI[JI)V"⟩ else (bif Nat.blt m 195 then ⟨"EarCodeModel", "image", "()V"⟩ else ⟨"EarCodeModel", "back", "()Z"⟩)) else (bif Nat.blt m 197 then ⟨"EarCodeModel", "remembers", "()V"⟩ else (bif Nat.blt m 198 then ⟨"EarCodeModel", "undo", "()Z"⟩ else ⟨"EarCodeModel", "clauses", "()I"⟩))))) else (bif Nat.blt m 210 then (bif Nat.blt m 204 then (bif Nat.blt m 201 then (bif Nat.blt m 200 then ⟨"EarCodeModel", "citizens", "()I"⟩ else ⟨"EarCodeModel", "of", "(II)I"⟩) else (bif Nat.blt m 202 then ⟨"EarCodeModel", "sets", "(III)V"⟩ else (bif Nat.blt m 203 then ⟨"EarCodeModel", "isAlive", "(I)Z"⟩ else ⟨"EarCodeModel", "knows", "(II)Z"⟩))) else (bif Nat.blt m 207 then (bif Nat.blt m 205 then ⟨"EarCodeModel", "demands", "(I)Z"⟩ else (bif Nat.blt m 206 then ⟨"EarCodeModel", "deedOf", "(I)I"⟩ else ⟨"EarCodeModel", "noCitizen", "(I)Z"⟩)) else (bif Nat.blt m 208 then ⟨"EarCodeModel", "noClause", "(I)Z"⟩ else (bif Nat.blt m 209 then ⟨"EarCodeModel", "noMatter", "(I)Z"⟩ else ⟨"EarCodeModel", "noEight", "(I)Z"⟩)))) else (bif Nat.blt m 215 then (bif Nat.blt m 212 then (bif Nat.blt m 211 then ⟨"EarCodeModel", "doesIn", "(II)I"⟩ else ⟨"EarCodeModel", "draw", "(I)I"⟩) else (bif Nat.blt m 213 then ⟨"EarCodeModel", "feed", "(IIIII)I"⟩ else (bif Nat.blt m 214 then ⟨"EarCodeModel", "end", "(I)Z"⟩ else ⟨"EarCodeModel", "isAt", "(II)Z"⟩))) else (bif Nat.blt m 218 then (bif Nat.blt m 216 then ⟨"EarCodeModel", "blanks", "()V"⟩ else (bif Nat.blt m 217 then ⟨"EarCodeModel", "letters", "()V"⟩ else ⟨"EarCodeModel", "isWord", "(Ljava/lang/String;)Z"⟩)) else (bif Nat.blt m 219 then ⟨"EarCodeModel", "passes", "(Ljava/lang/String;)Z"⟩ else (bif Nat.blt m 220 then ⟨"EarCodeModel", "sign", "(I)Z"⟩ else ⟨"EarCodeModel", "number", "(II)I"⟩)))))) else (bif Nat.blt m 243 then (bif Nat.blt m 232 then (bif Nat.blt m 226 then (bif Nat.blt m 223 then (bif Nat.blt m 222 then ⟨"EarCodeModel", "isFigure", "()Z"⟩ else ⟨"EarCodeModel", "matterTold", "()I"⟩) else (bif Nat.blt m 224 then ⟨"EarCodeModel", "fault", "()I"⟩ else (bif Nat.blt m 225 then ⟨"EarCodeModel", "uses", "()V"⟩ else ⟨"EarCodeModel", "emits", "(II)V"⟩))) else (bif Nat.blt m 229 then (bif Nat.blt m 227 then ⟨"EarCodeModel", "readPart", "()Z"⟩ else (bif Nat.blt m 228 then ⟨"EarCodeModel", "readSum", "()Z"⟩ else ⟨"EarCodeModel", "readAtom", "()Z"⟩)) else (bif Nat.blt m 230 then ⟨"EarCodeModel", "readAllOf", "()Z"⟩ else (bif Nat.blt m 231 then ⟨"EarCodeModel", "readCond", "()Z"⟩ else ⟨"EarCodeModel", "readClause", "(I)Z"⟩)))) else (bif Nat.blt m 237 then (bif Nat.blt m 234 then (bif Nat.blt m 233 then ⟨"EarCodeModel", "readHabit", "(I)Z"⟩ else ⟨"EarCodeModel", "readKnows", "(I)Z"⟩) else (bif Nat.blt m 235 then ⟨"EarCodeModel", "readCitizen", "()Z"⟩ else (bif Nat.blt m 236 then ⟨"EarCodeModel", "citizenTold", "()I"⟩ else ⟨"EarCodeModel", "isSingle", "(I)Z"⟩))) else (bif Nat.blt m 240 then (bif Nat.blt m 238 then ⟨"EarCodeModel", "weds", "(II)V"⟩ else (bif Nat.blt m 239 then ⟨"EarCodeModel", "readWed", "()Z"⟩ else ⟨"EarCodeModel", "readSeen", "()Z"⟩)) else (bif Nat.blt m 241 then ⟨"EarCodeModel", "readNumber", "(III)Z"⟩ else (bif Nat.blt m 242 then ⟨"EarCodeModel", "readRepublicLine", "(I)Z"⟩ else ⟨"EarCodeModel", "readLine", "(ZI)Z"⟩))))) else (bif Nat.blt m 254 then (bif Nat.blt m 248 then (bif Nat.blt m 245 then (bif Nat.blt m 244 then ⟨"EarCodeModel", "readAll", "(Z)I"⟩ else ⟨"EarCodeModel", "code", "()I"⟩) else (bif Nat.blt m 246 then ⟨"EarCodeModel", "republic", "()I"⟩ else (bif Nat.blt m 247 then ⟨"EarCodeModel", "factOf", "(IIIII)I"⟩ else ⟨"EarCodeModel", "isOf", "(IIII)Z"⟩))) else (bif Nat.blt m 251 then (bif Nat.blt m 249 then ⟨"EarCodeModel", "inForce", "()I"⟩ else (bif Nat.blt m 250 then ⟨"EarCodeModel", "saying", "(IZIII)I"⟩ else ⟨"EarCodeModel", "forbidding", "(IIII)I"⟩)) else (bif Nat.blt m 252 then ⟨"EarCodeModel", "forbidsNow", "(III)I"⟩ else (bif Nat.blt m 253 then ⟨"EarCodeModel", "knowers", "(I)I"⟩ else ⟨"EarCodeModel", "alive", "()I"⟩)))) else (bif Nat.blt m 259 then (bif Nat.blt m 256 then (bif Nat.blt m 255 then ⟨"EarCodeModel", "contradict", "(II)Z"⟩ else ⟨"EarCodeModel", "contradicting", "(I)I"⟩) else (bif Nat.blt m 257 then ⟨"EarCodeModel", "clause", "(II)I"⟩ else (bif Nat.blt m 258 then ⟨"EarCodeModel", "pooled", "(I)I"⟩ else ⟨"EarCodeModel", "citizen", "(II)I"⟩))) else (bif Nat.blt m 262 then (bif Nat.blt m 260 then ⟨"EarCodeModel", "seen", "(I)J"⟩ else (bif Nat.blt m 261 then ⟨"EarCodeModel", "habit", "(II)I"⟩ else ⟨"EarCodeModel", "may", "(II)Z"⟩)) else (bif Nat.blt m 263 then ⟨"EarCodeModel", "matter", "(III)I"⟩ else (bif Nat.blt m 264 then ⟨"EarCodeModel", "tell", "(II)I"⟩ else ⟨"EarCodeModel", "die", "(I)I"⟩))))))) else (bif Nat.blt m 309 then (bif Nat.blt m 287 then (bif Nat.blt m 276 then (bif Nat.blt m 270 then (bif Nat.blt m 267 then (bif Nat.blt m 266 then ⟨"EarCodeModel", "wed", "(II)I"⟩ else ⟨"EarCodeModel", "baby", "(I)I"⟩) else (bif Nat.blt m 268 then ⟨"EarCodeModel", "release", "(I)I"⟩ else (bif Nat.blt m 269 then ⟨"EarCodeModel", "keeps", "(II)Z"⟩ else ⟨"EarCodeModel", "isLogged", "(III)V"⟩))) else (bif Nat.blt m 273 then (bif Nat.blt m 271 then ⟨"EarCodeModel", "breaks", "(III)V"⟩ else (bif Nat.blt m 272 then ⟨"EarCodeModel", "oneDay", "()V"⟩ else ⟨"EarCodeModel", "days", "(I)I"⟩)) else (bif Nat.blt m 274 then ⟨"EarCodeModel", "nobody", "()I"⟩ else (bif Nat.blt m 275 then ⟨"EarCodeModel", "relief", "()I"⟩ else ⟨"EarCodeModel", "isWatched", "()Z"⟩)))) else (bif Nat.blt m 281 then (bif Nat.blt m 278 then (bif Nat.blt m 277 then ⟨"EarCodeModel", "nevers", "()I"⟩ else ⟨"EarCodeModel", "laysWatched", "()V"⟩) else (bif Nat.blt m 279 then ⟨"EarCodeModel", "isCode", "(I)Z"⟩ else (bif Nat.blt m 280 then ⟨"EarCodeModel", "read", "(I)I"⟩ else ⟨"EarCodeModel", "next", "(I)I"⟩))) else (bif Nat.blt m 284 then (bif Nat.blt m 282 then ⟨"EarCodeModel", "cover", "()I"⟩ else (bif Nat.blt m 283 then ⟨"EarCodeModel", "dies", "(I)I"⟩ else ⟨"EarCodeModel", "heirs", "(I)I"⟩)) else (bif Nat.blt m 285 then ⟨"EarCodeModel", "noDays", "(I)Z"⟩ else (bif Nat.blt m 286 then ⟨"EarCodeModel", "riskOf", "(III)I"⟩ else ⟨"EarCodeModel", "risk", "(II)I"⟩))))) else (bif Nat.blt m 298 then (bif Nat.blt m 292 then (bif Nat.blt m 289 then (bif Nat.blt m 288 then ⟨"EarCodeModel", "safe", "(II)I"⟩ else ⟨"EarCodeModel", "better", "(II)I"⟩) else (bif Nat.blt m 290 then ⟨"EarCodeModel", "telling", "(IZ)I"⟩ else (bif Nat.blt m 291 then ⟨"EarCodeModel", "deduced", "(I)I"⟩ else ⟨"EarCodeModel", "hush", "(I)I"⟩))) else (bif Nat.blt m 295 then (bif Nat.blt m 293 then ⟨"EarCodeModel", "usual", "(I)I"⟩ else (bif Nat.blt m 294 then ⟨"EarCodeModel", "feared", "(Z)J"⟩ else ⟨"EarCodeModel", "halfOfOthers", "(I)J"⟩)) else (bif Nat.blt m 296 then ⟨"EarCodeModel", "goesRound", "()Z"⟩ else (bif Nat.blt m 297 then ⟨"EarCodeModel", "sumOf", "([J)I"⟩ else ⟨"EarCodeModel", "custom", "(I)I"⟩)))) else (bif Nat.blt m 303 then (bif Nat.blt m 300 then (bif Nat.blt m 299 then ⟨"EarCodeModel", "settles", "()I"⟩ else ⟨"EarCodeModel", "worthOf", "(II)I"⟩) else (bif Nat.blt m 301 then ⟨"EarCodeModel", "worthiest", "(II)I"⟩ else (bif Nat.blt m 302 then ⟨"EarCodeModel", "provoked", "(IZ)I"⟩ else ⟨"EarCodeModel", "crowd", "(II)I"⟩))) else (bif Nat.blt m 306 then (bif Nat.blt m 304 then ⟨"EarCodeModel", "witnesses", "(III)I"⟩ else (bif Nat.blt m 305 then ⟨"EarCodeModel", "keepsAll", "()V"⟩ else ⟨"EarCodeModel", "bringsBack", "()V"⟩)) else (bif Nat.blt m 307 then ⟨"EarCodeModel", "takenNow", "()I"⟩ else (bif Nat.blt m 308 then ⟨"EarCodeModel", "trial", "(II)I"⟩ else ⟨"EarCodeModel", "span", "(IZ)I"⟩)))))) else (bif Nat.blt m 331 then (bif Nat.blt m 320 then (bif Nat.blt m 314 then (bif Nat.blt m 311 then (bif Nat.blt m 310 then ⟨"EarCodeModel", "first", "()I"⟩ else ⟨"EarCodeModel", "ofLog", "(II)I"⟩) else (bif Nat.blt m 312 then ⟨"EarCodeModel", "led", "(I)I"⟩ else (bif Nat.blt m 313 then ⟨"EarCodeModel", "takenFor", "(I)I"⟩ else ⟨"EarCodeModel", "worst", "()I"⟩))) else (bif Nat.blt m 317 then (bif Nat.blt m 315 then ⟨"EarCodeModel", "log", "(II)I"⟩ else (bif Nat.blt m 316 then ⟨"EarCodeModel", "seed", "(I)I"⟩ else ⟨"EarCodeModel", "count", "(I)I"⟩)) else (bif Nat.blt m 318 then ⟨"java/lang/Integer", "numberOfTrailingZeros", "(I)I"⟩ else (bif Nat.blt m 319 then ⟨"java/lang/Integer", "bitCount", "(I)I"⟩ else ⟨"java/lang/Long", "bitCount", "(J)I"⟩)))) else (bif Nat.blt m 325 then (bif Nat.blt m 322 then (bif Nat.blt m 321 then ⟨"java/lang/Math", "max", "(II)I"⟩ else ⟨"java/lang/Math", "min", "(II)I"⟩) else (bif Nat.blt m 323 then ⟨"EarCodeLaw", "code", "(LEarCode;[J)I"⟩ else (bif Nat.blt m 324 then ⟨"EarCodeLaw", "republic", "(LEarCode;[J)I"⟩ else ⟨"EarCodeLaw", "clause", "(LEarCode;II[J)I"⟩))) else (bif Nat.blt m 328 then (bif Nat.blt m 326 then ⟨"EarCodeLaw", "citizen", "(LEarCode;II[J)I"⟩ else (bif Nat.blt m 327 then ⟨"EarCodeLaw", "seen", "(LEarCode;I[J)I"⟩ else ⟨"EarCodeLaw", "habit", "(LEarCode;II[J)I"⟩)) else (bif Nat.blt m 329 then ⟨"EarCodeLaw", "matter", "(LEarCode;III[J)I"⟩ else (bif Nat.blt m 330 then ⟨"EarCodeLaw", "tell", "(LEarCode;II[J)I"⟩ else ⟨"EarCodeLaw", "die", "(LEarCode;I[J)I"⟩))))) else (bif Nat.blt m 342 then (bif Nat.blt m 336 then (bif Nat.blt m 333 then (bif Nat.blt m 332 then ⟨"EarCodeLaw", "wed", "(LEarCode;II[J)I"⟩ else ⟨"EarCodeLaw", "baby", "(LEarCode;I[J)I"⟩) else (bif Nat.blt m 334 then ⟨"EarCodeLaw", "release", "(LEarCode;I[J)I"⟩ else (bif Nat.blt m 335 then ⟨"EarCodeLaw", "days", "(LEarCode;I[J)I"⟩ else ⟨"EarCodeLaw", "read", "(LEarCode;I[J)I"⟩))) else (bif Nat.blt m 339 then (bif Nat.blt m 337 then ⟨"EarCodeLaw", "next", "(LEarCode;I[J)I"⟩ else (bif Nat.blt m 338 then ⟨"EarCodeLaw", "dies", "(LEarCode;I[J)I"⟩ else ⟨"EarCodeLaw", "heirs", "(LEarCode;I[J)I"⟩)) else (bif Nat.blt m 340 then ⟨"EarCodeLaw", "risk", "(LEarCode;II[J)I"⟩ else (bif Nat.blt m 341 then ⟨"EarCodeLaw", "safe", "(LEarCode;II[J)I"⟩ else ⟨"EarCodeLaw", "better", "(LEarCode;II[J)I"⟩)))) else (bif Nat.blt m 348 then (bif Nat.blt m 345 then (bif Nat.blt m 343 then ⟨"EarCodeLaw", "telling", "(LEarCode;IZ[J)I"⟩ else (bif Nat.blt m 344 then ⟨"EarCodeLaw", "deduced", "(LEarCode;I[J)I"⟩ else ⟨"EarCodeLaw", "hush", "(LEarCode;I[J)I"⟩)) else (bif Nat.blt m 346 then ⟨"EarCodeLaw", "usual", "(LEarCode;I[J)I"⟩ else (bif Nat.blt m 347 then ⟨"EarCodeLaw", "custom", "(LEarCode;I[J)I"⟩ else ⟨"EarCodeLaw", "provoked", "(LEarCode;IZ[J)I"⟩))) else (bif Nat.blt m 351 then (bif Nat.blt m 349 then ⟨"EarCodeLaw", "crowd", "(LEarCode;II[J)I"⟩ else (bif Nat.blt m 350 then ⟨"EarCodeLaw", "witnesses", "(LEarCode;III[J)I"⟩ else ⟨"EarCodeLaw", "trial", "(LEarCode;II[J)I"⟩)) else (bif Nat.blt m 352 then ⟨"EarCodeLaw", "span", "(LEarCode;IZ[J)I"⟩ else (bif Nat.blt m 353 then ⟨"EarCodeLaw", "led", "(LEarCode;I[J)I"⟩ else ⟨"EarCodeLaw", "log", "(LEarCode;II[J)I"⟩))))))))) else ⟨"", "", ""⟩
def tb_b (m : Nat) : ByteArray := bif Nat.blt m 354 then (bif Nat.blt m 177 then (bif Nat.blt m 88 then (bif Nat.blt m 44 then (bif Nat.blt m 22 then (bif Nat.blt m 11 then (bif Nat.blt m 5 then (bif Nat.blt m 2 then (bif Nat.blt m 1 then code else prog_2_method_1_code) else (bif Nat.blt m 3 then prog_2_method_2_code else (bif Nat.blt m 4 then prog_2_method_3_code else prog_2_method_4_code))) else (bif Nat.blt m 8 then (bif Nat.blt m 6 then prog_2_method_5_code else (bif Nat.blt m 7 then prog_2_method_6_code else prog_2_method_7_code)) else (bif Nat.blt m 9 then prog_2_method_8_code else (bif Nat.blt m 10 then prog_2_method_9_code else prog_2_method_10_code)))) else (bif Nat.blt m 16 then (bif Nat.blt m 13 then (bif Nat.blt m 12 then prog_2_method_11_code else prog_2_method_12_code) else (bif Nat.blt m 14 then prog_2_method_13_code else (bif Nat.blt m 15 then prog_2_method_14_code else prog_2_method_15_code))) else (bif Nat.blt m 19 then (bif Nat.blt m 17 then prog_2_method_16_code else (bif Nat.blt m 18 then prog_2_method_17_code else prog_2_method_18_code)) else (bif Nat.blt m 20 then prog_2_method_19_code else (bif Nat.blt m 21 then prog_2_method_20_code else prog_2_method_21_code))))) else (bif Nat.blt m 33 then (bif Nat.blt m 27 then (bif Nat.blt m 24 then (bif Nat.blt m 23 then prog_2_method_22_code else prog_2_method_23_code) else (bif Nat.blt m 25 then prog_2_method_24_code else (bif Nat.blt m 26 then prog_2_method_25_code else prog_2_method_26_code))) else (bif Nat.blt m 30 then (bif Nat.blt m 28 then prog_2_method_27_code else (bif Nat.blt m 29 then prog_2_method_28_code else prog_3_method_1_code)) else (bif Nat.blt m 31 then prog_3_method_2_code else (bif Nat.blt m 32 then prog_3_method_3_code else prog_3_method_4_code)))) else (bif Nat.blt m 38 then (bif Nat.blt m 35 then (bif Nat.blt m 34 then prog_3_method_5_code else prog_3_method_6_code) else (bif Nat.blt m 36 then prog_3_method_7_code else (bif Nat.blt m 37 then prog_3_method_8_code else prog_3_method_9_code))) else (bif Nat.blt m 41 then (bif Nat.blt m 39 then prog_4_method_1_code else (bif Nat.blt m 40 then prog_4_method_2_code else prog_4_method_3_code)) else (bif Nat.blt m 42 then prog_4_method_4_code else (bif Nat.blt m 43 then prog_4_method_5_code else prog_4_method_6_code)))))) else (bif Nat.blt m 66 then (bif Nat.blt m 55 then (bif Nat.blt m 49 then (bif Nat.blt m 46 then (bif Nat.blt m 45 then prog_4_method_7_code else prog_5_method_1_code) else (bif Nat.blt m 47 then prog_5_method_2_code else (bif Nat.blt m 48 then prog_5_method_3_code else prog_5_method_4_code))) else (bif Nat.blt m 52 then (bif Nat.blt m 50 then prog_5_method_5_code else (bif Nat.blt m 51 then prog_5_method_6_code else prog_6_method_1_code)) else (bif Nat.blt m 53 then prog_6_method_2_code else (bif Nat.blt m 54 then prog_6_method_3_code else prog_6_method_4_code)))) else (bif Nat.blt m 60 then (bif Nat.blt m 57 then (bif Nat.blt m 56 then prog_7_method_1_code else prog_7_method_2_code) else (bif Nat.blt m 58 then prog_7_method_3_code else (bif Nat.blt m 59 then prog_7_method_4_code else prog_7_method_5_code))) else (bif Nat.blt m 63 then (bif Nat.blt m 61 then prog_7_method_6_code else (bif Nat.blt m 62 then prog_7_method_7_code else prog_8_method_1_code)) else (bif Nat.blt m 64 then prog_8_method_2_code else (bif Nat.blt m 65 then prog_8_method_3_code else prog_8_method_4_code))))) else (bif Nat.blt m 77 then (bif Nat.blt m 71 then (bif Nat.blt m 68 then (bif Nat.blt m 67 then prog_8_method_5_code else prog_8_method_6_code) else (bif Nat.blt m 69 then prog_8_method_7_code else (bif Nat.blt m 70 then prog_8_method_8_code else prog_9_method_1_code))) else (bif Nat.blt m 74 then (bif Nat.blt m 72 then prog_9_method_2_code else (bif Nat.blt m 73 then prog_9_method_3_code else prog_9_method_4_code)) else (bif Nat.blt m 75 then prog_9_method_5_code else (bif Nat.blt m 76 then prog_9_method_6_code else prog_9_method_7_code)))) else (bif Nat.blt m 82 then (bif Nat.blt m 79 then (bif Nat.blt m 78 then prog_9_method_8_code else prog_9_method_9_code) else (bif Nat.blt m 80 then prog_9_method_10_code else (bif Nat.blt m 81 then prog_9_method_11_code else prog_9_method_12_code))) else (bif Nat.blt m 85 then (bif Nat.blt m 83 then prog_9_method_13_code else (bif Nat.blt m 84 then prog_10_method_1_code else prog_10_method_2_code)) else (bif Nat.blt m 86 then prog_10_method_3_code else (bif Nat.blt m 87 then prog_10_method_4_code else prog_11_method_1_code))))))) else (bif Nat.blt m 132 then (bif Nat.blt m 110 then (bif Nat.blt m 99 then (bif Nat.blt m 93 then (bif Nat.blt m 90 then (bif Nat.blt m 89 then prog_11_method_2_code else prog_11_method_3_code) else (bif Nat.blt m 91 then prog_11_method_4_code else (bif Nat.blt m 92 then prog_11_method_5_code else prog_11_method_6_code))) else (bif Nat.blt m 96 then (bif Nat.blt m 94 then prog_11_method_7_code else (bif Nat.blt m 95 then prog_11_method_8_code else prog_11_method_9_code)) else (bif Nat.blt m 97 then prog_11_method_10_code else (bif Nat.blt m 98 then prog_11_method_11_code else prog_11_method_12_code)))) else (bif Nat.blt m 104 then (bif Nat.blt m 101 then (bif Nat.blt m 100 then prog_11_method_13_code else prog_12_method_1_code) else (bif Nat.blt m 102 then prog_12_method_2_code else (bif Nat.blt m 103 then prog_12_method_3_code else prog_12_method_4_code))) else (bif Nat.blt m 107 then (bif Nat.blt m 105 then prog_12_method_5_code else (bif Nat.blt m 106 then prog_12_method_6_code else prog_12_method_7_code)) else (bif Nat.blt m 108 then prog_12_method_8_code else (bif Nat.blt m 109 then prog_12_method_9_code else prog_12_method_10_code))))) else (bif Nat.blt m 121 then (bif Nat.blt m 115 then (bif Nat.blt m 112 then (bif Nat.blt m 111 then prog_12_method_11_code else prog_12_method_12_code) else (bif Nat.blt m 113 then prog_12_method_13_code else (bif Nat.blt m 114 then prog_12_method_14_code else prog_12_method_15_code))) else (bif Nat.blt m 118 then (bif Nat.blt m 116 then prog_12_method_16_code else (bif Nat.blt m 117 then prog_12_method_17_code else prog_12_method_18_code)) else (bif Nat.blt m 119 then prog_12_method_19_code else (bif Nat.blt m 120 then prog_12_method_20_code else prog_12_method_21_code)))) else (bif Nat.blt m 126 then (bif Nat.blt m 123 then (bif Nat.blt m 122 then prog_12_method_22_code else prog_12_method_23_code) else (bif Nat.blt m 124 then prog_12_method_24_code else (bif Nat.blt m 125 then prog_12_method_25_code else prog_12_method_26_code))) else (bif Nat.blt m 129 then (bif Nat.blt m 127 then prog_12_method_27_code else (bif Nat.blt m 128 then prog_12_method_28_code else prog_12_method_29_code)) else (bif Nat.blt m 130 then prog_12_method_30_code else (bif Nat.blt m 131 then prog_1_method_1_code else prog_1_method_2_code)))))) else (bif Nat.blt m 154 then (bif Nat.blt m 143 then (bif Nat.blt m 137 then (bif Nat.blt m 134 then (bif Nat.blt m 133 then prog_1_method_3_code else prog_1_method_4_code) else (bif Nat.blt m 135 then prog_1_method_5_code else (bif Nat.blt m 136 then prog_1_method_6_code else prog_1_method_7_code))) else (bif Nat.blt m 140 then (bif Nat.blt m 138 then prog_1_method_8_code else (bif Nat.blt m 139 then prog_1_method_9_code else prog_1_method_10_code)) else (bif Nat.blt m 141 then prog_1_method_11_code else (bif Nat.blt m 142 then prog_1_method_12_code else prog_1_method_13_code)))) else (bif Nat.blt m 148 then (bif Nat.blt m 145 then (bif Nat.blt m 144 then prog_1_method_14_code else prog_1_method_15_code) else (bif Nat.blt m 146 then prog_1_method_16_code else (bif Nat.blt m 147 then prog_1_method_17_code else prog_1_method_18_code))) else (bif Nat.blt m 151 then (bif Nat.blt m 149 then prog_1_method_19_code else (bif Nat.blt m 150 then prog_1_method_20_code else prog_1_method_21_code)) else (bif Nat.blt m 152 then prog_1_method_22_code else (bif Nat.blt m 153 then prog_1_method_23_code else prog_1_method_24_code))))) else (bif Nat.blt m 165 then (bif Nat.blt m 159 then (bif Nat.blt m 156 then (bif Nat.blt m 155 then prog_1_method_25_code else prog_1_method_26_code) else (bif Nat.blt m 157 then prog_1_method_27_code else (bif Nat.blt m 158 then prog_1_method_28_code else prog_1_method_29_code))) else (bif Nat.blt m 162 then (bif Nat.blt m 160 then prog_1_method_30_code else (bif Nat.blt m 161 then prog_1_method_31_code else prog_1_method_32_code)) else (bif Nat.blt m 163 then prog_1_method_33_code else (bif Nat.blt m 164 then prog_1_method_34_code else prog_1_method_35_code)))) else (bif Nat.blt m 171 then (bif Nat.blt m 168 then (bif Nat.blt m 166 then prog_1_method_36_code else (bif Nat.blt m 167 then prog_1_method_37_code else prog_1_method_38_code)) else (bif Nat.blt m 169 then prog_1_method_39_code else (bif Nat.blt m 170 then prog_1_method_40_code else prog_1_method_41_code))) else (bif Nat.blt m 174 then (bif Nat.blt m 172 then prog_1_method_42_code else (bif Nat.blt m 173 then prog_1_method_43_code else prog_1_method_44_code)) else (bif Nat.blt m 175 then prog_1_method_45_code else (bif Nat.blt m 176 then prog_1_method_46_code else prog_1_method_47_code)))))))) else (bif Nat.blt m 265 then (bif Nat.blt m 221 then (bif Nat.blt m 199 then (bif Nat.blt m 188 then (bif Nat.blt m 182 then (bif Nat.blt m 179 then (bif Nat.blt m 178 then prog_1_method_48_code else prog_1_method_49_code) else (bif Nat.blt m 180 then prog_1_method_50_code else (bif Nat.blt m 181 then prog_1_method_51_code else prog_1_method_52_code))) else (bif Nat.blt m 185 then (bif Nat.blt m 183 then prog_1_method_53_code else (bif Nat.blt m 184 then prog_1_method_54_code else prog_1_method_55_code)) else (bif Nat.blt m 186 then prog_1_method_56_code else (bif Nat.blt m 187 then prog_14_method_1_code else prog_14_method_2_code)))) else (bif Nat.blt m 193 then (bif Nat.blt m 190 then (bif Nat.blt m 189 then prog_14_method_3_code else prog_14_method_4_code) else (bif Nat.blt m 191 then prog_14_method_5_code else (bif Nat.blt m 192 then prog_14_method_6_code else prog_14_method_7_code))) else (bif Nat.blt m 196 then (bif Nat.blt m 194 then prog_14_method_8_code else (bif Nat.blt m 195 then prog_14_method_9_code else prog_14_method_10_code)) else (bif Nat.blt m 197 then prog_14_method_11_code else (bif Nat.blt m 198 then prog_14_method_12_code else prog_14_method_13_code))))) else (bif Nat.blt m 210 then (bif Nat.blt m 204 then (bif Nat.blt m 201 then (bif Nat.blt m 200 then prog_14_method_14_code else prog_14_method_15_code) else (bif Nat.blt m 202 then prog_14_method_16_code else (bif Nat.blt m 203 then prog_14_method_17_code else prog_14_method_18_code))) else (bif Nat.blt m 207 then (bif Nat.blt m 205 then prog_14_method_19_code else (bif Nat.blt m 206 then prog_14_method_20_code else prog_14_method_21_code)) else (bif Nat.blt m 208 then prog_14_method_22_code else (bif Nat.blt m 209 then prog_14_method_23_code else prog_14_method_24_code)))) else (bif Nat.blt m 215 then (bif Nat.blt m 212 then (bif Nat.blt m 211 then prog_14_method_25_code else prog_14_method_26_code) else (bif Nat.blt m 213 then prog_14_method_27_code else (bif Nat.blt m 214 then prog_14_method_28_code else prog_14_method_29_code))) else (bif Nat.blt m 218 then (bif Nat.blt m 216 then prog_14_method_30_code else (bif Nat.blt m 217 then prog_14_method_31_code else prog_14_method_32_code)) else (bif Nat.blt m 219 then prog_14_method_33_code else (bif Nat.blt m 220 then prog_14_method_34_code else prog_14_method_35_code)))))) else (bif Nat.blt m 243 then (bif Nat.blt m 232 then (bif Nat.blt m 226 then (bif Nat.blt m 223 then (bif Nat.blt m 222 then prog_14_method_36_code else prog_14_method_37_code) else (bif Nat.blt m 224 then prog_14_method_38_code else (bif Nat.blt m 225 then prog_14_method_39_code else prog_14_method_40_code))) else (bif Nat.blt m 229 then (bif Nat.blt m 227 then prog_14_method_41_code else (bif Nat.blt m 228 then prog_14_method_42_code else prog_14_method_43_code)) else (bif Nat.blt m 230 then prog_14_method_44_code else (bif Nat.blt m 231 then prog_14_method_45_code else prog_14_method_46_code)))) else (bif Nat.blt m 237 then (bif Nat.blt m 234 then (bif Nat.blt m 233 then prog_14_method_47_code else prog_14_method_48_code) else (bif Nat.blt m 235 then prog_14_method_49_code else (bif Nat.blt m 236 then prog_14_method_50_code else prog_14_method_51_code))) else (bif Nat.blt m 240 then (bif Nat.blt m 238 then prog_14_method_52_code else (bif Nat.blt m 239 then prog_14_method_53_code else prog_14_method_54_code)) else (bif Nat.blt m 241 then prog_14_method_55_code else (bif Nat.blt m 242 then prog_14_method_56_code else prog_14_method_57_code))))) else (bif Nat.blt m 254 then (bif Nat.blt m 248 then (bif Nat.blt m 245 then (bif Nat.blt m 244 then prog_14_method_58_code else prog_14_method_59_code) else (bif Nat.blt m 246 then prog_14_method_60_code else (bif Nat.blt m 247 then prog_14_method_61_code else prog_14_method_62_code))) else (bif Nat.blt m 251 then (bif Nat.blt m 249 then prog_14_method_63_code else (bif Nat.blt m 250 then prog_14_method_64_code else prog_14_method_65_code)) else (bif Nat.blt m 252 then prog_14_method_66_code else (bif Nat.blt m 253 then prog_14_method_67_code else prog_14_method_68_code)))) else (bif Nat.blt m 259 then (bif Nat.blt m 256 then (bif Nat.blt m 255 then prog_14_method_69_code else prog_14_method_70_code) else (bif Nat.blt m 257 then prog_14_method_71_code else (bif Nat.blt m 258 then prog_14_method_72_code else prog_14_method_73_code))) else (bif Nat.blt m 262 then (bif Nat.blt m 260 then prog_14_method_74_code else (bif Nat.blt m 261 then prog_14_method_75_code else prog_14_method_76_code)) else (bif Nat.blt m 263 then prog_14_method_77_code else (bif Nat.blt m 264 then prog_14_method_78_code else prog_14_method_79_code))))))) else (bif Nat.blt m 309 then (bif Nat.blt m 287 then (bif Nat.blt m 276 then (bif Nat.blt m 270 then (bif Nat.blt m 267 then (bif Nat.blt m 266 then prog_14_method_80_code else prog_14_method_81_code) else (bif Nat.blt m 268 then prog_14_method_82_code else (bif Nat.blt m 269 then prog_14_method_83_code else prog_14_method_84_code))) else (bif Nat.blt m 273 then (bif Nat.blt m 271 then prog_14_method_85_code else (bif Nat.blt m 272 then prog_14_method_86_code else prog_14_method_87_code)) else (bif Nat.blt m 274 then prog_14_method_88_code else (bif Nat.blt m 275 then prog_14_method_89_code else prog_14_method_90_code)))) else (bif Nat.blt m 281 then (bif Nat.blt m 278 then (bif Nat.blt m 277 then prog_14_method_91_code else prog_14_method_92_code) else (bif Nat.blt m 279 then prog_14_method_93_code else (bif Nat.blt m 280 then prog_14_method_94_code else prog_14_method_95_code))) else (bif Nat.blt m 284 then (bif Nat.blt m 282 then prog_14_method_96_code else (bif Nat.blt m 283 then prog_14_method_97_code else prog_14_method_98_code)) else (bif Nat.blt m 285 then prog_14_method_99_code else (bif Nat.blt m 286 then prog_14_method_100_code else prog_14_method_101_code))))) else (bif Nat.blt m 298 then (bif Nat.blt m 292 then (bif Nat.blt m 289 then (bif Nat.blt m 288 then prog_14_method_102_code else prog_14_method_103_code) else (bif Nat.blt m 290 then prog_14_method_104_code else (bif Nat.blt m 291 then prog_14_method_105_code else prog_14_method_106_code))) else (bif Nat.blt m 295 then (bif Nat.blt m 293 then prog_14_method_107_code else (bif Nat.blt m 294 then prog_14_method_108_code else prog_14_method_109_code)) else (bif Nat.blt m 296 then prog_14_method_110_code else (bif Nat.blt m 297 then prog_14_method_111_code else prog_14_method_112_code)))) else (bif Nat.blt m 303 then (bif Nat.blt m 300 then (bif Nat.blt m 299 then prog_14_method_113_code else prog_14_method_114_code) else (bif Nat.blt m 301 then prog_14_method_115_code else (bif Nat.blt m 302 then prog_14_method_116_code else prog_14_method_117_code))) else (bif Nat.blt m 306 then (bif Nat.blt m 304 then prog_14_method_118_code else (bif Nat.blt m 305 then prog_14_method_119_code else prog_14_method_120_code)) else (bif Nat.blt m 307 then prog_14_method_121_code else (bif Nat.blt m 308 then prog_14_method_122_code else prog_14_method_123_code)))))) else (bif Nat.blt m 331 then (bif Nat.blt m 320 then (bif Nat.blt m 314 then (bif Nat.blt m 311 then (bif Nat.blt m 310 then prog_14_method_124_code else prog_14_method_125_code) else (bif Nat.blt m 312 then prog_14_method_126_code else (bif Nat.blt m 313 then prog_14_method_127_code else prog_14_method_128_code))) else (bif Nat.blt m 317 then (bif Nat.blt m 315 then prog_14_method_129_code else (bif Nat.blt m 316 then prog_14_method_130_code else prog_14_method_131_code)) else (bif Nat.blt m 318 then prog_22_method_48_code else (bif Nat.blt m 319 then prog_22_method_49_code else prog_23_method_50_code)))) else (bif Nat.blt m 325 then (bif Nat.blt m 322 then (bif Nat.blt m 321 then prog_24_method_65_code else prog_24_method_69_code) else (bif Nat.blt m 323 then method_3_code else (bif Nat.blt m 324 then method_4_code else method_5_code))) else (bif Nat.blt m 328 then (bif Nat.blt m 326 then method_6_code else (bif Nat.blt m 327 then method_7_code else method_8_code)) else (bif Nat.blt m 329 then method_9_code else (bif Nat.blt m 330 then method_10_code else method_11_code))))) else (bif Nat.blt m 342 then (bif Nat.blt m 336 then (bif Nat.blt m 333 then (bif Nat.blt m 332 then method_12_code else method_13_code) else (bif Nat.blt m 334 then method_14_code else (bif Nat.blt m 335 then method_15_code else method_16_code))) else (bif Nat.blt m 339 then (bif Nat.blt m 337 then method_17_code else (bif Nat.blt m 338 then method_18_code else method_19_code)) else (bif Nat.blt m 340 then method_20_code else (bif Nat.blt m 341 then method_21_code else method_22_code)))) else (bif Nat.blt m 348 then (bif Nat.blt m 345 then (bif Nat.blt m 343 then method_23_code else (bif Nat.blt m 344 then method_24_code else method_25_code)) else (bif Nat.blt m 346 then method_26_code else (bif Nat.blt m 347 then method_27_code else method_28_code))) else (bif Nat.blt m 351 then (bif Nat.blt m 349 then method_29_code else (bif Nat.blt m 350 then method_30_code else method_31_code)) else (bif Nat.blt m 352 then method_32_code else (bif Nat.blt m 353 then method_33_code else method_34_code))))))))) else ⟨#[]⟩
def tb_r (m : Nat) : Option FieldType := bif Nat.blt m 354 then (bif Nat.blt m 177 then (bif Nat.blt m 88 then (bif Nat.blt m 44 then (bif Nat.blt m 22 then (bif Nat.blt m 11 then (bif Nat.blt m 5 then (bif Nat.blt m 2 then (bif Nat.blt m 1 then (some .boolean) else (none)) else (bif Nat.blt m 3 then (some .int) else (bif Nat.blt m 4 then (some .int) else (some .int)))) else (bif Nat.blt m 8 then (bif Nat.blt m 6 then (some .int) else (bif Nat.blt m 7 then (some .boolean) else (some .int))) else (bif Nat.blt m 9 then (some .boolean) else (bif Nat.blt m 10 then (some .int) else (some .int))))) else (bif Nat.blt m 16 then (bif Nat.blt m 13 then (bif Nat.blt m 12 then (some .boolean) else (none)) else (bif Nat.blt m 14 then (none) else (bif Nat.blt m 15 then (none) else (some .int)))) else (bif Nat.blt m 19 then (bif Nat.blt m 17 then (some .int) else (bif Nat.blt m 18 then (some .int) else (some .int))) else (bif Nat.blt m 20 then (some .int) else (bif Nat.blt m 21 then (some .int) else (some .int)))))) else (bif Nat.blt m 33 then (bif Nat.blt m 27 then (bif Nat.blt m 24 then (bif Nat.blt m 23 then (some .boolean) else (some .int)) else (bif Nat.blt m 25 then (some .int) else (bif Nat.blt m 26 then (some .int) else (some .int)))) else (bif Nat.blt m 30 then (bif Nat.blt m 28 then (some .int) else (bif Nat.blt m 29 then (some .int) else (none))) else (bif Nat.blt m 31 then (none) else (bif Nat.blt m 32 then (none) else (none))))) else (bif Nat.blt m 38 then (bif Nat.blt m 35 then (bif Nat.blt m 34 then (some .int) else (none)) else (bif Nat.blt m 36 then (some .int) else (bif Nat.blt m 37 then (some .int) else (some .boolean)))) else (bif Nat.blt m 41 then (bif Nat.blt m 39 then (none) else (bif Nat.blt m 40 then (some .int) else (some .boolean))) else (bif Nat.blt m 42 then (some .boolean) else (bif Nat.blt m 43 then (some .boolean) else (some .boolean))))))) else (bif Nat.blt m 66 then (bif Nat.blt m 55 then (bif Nat.blt m 49 then (bif Nat.blt m 46 then (bif Nat.blt m 45 then (some .boolean) else (none)) else (bif Nat.blt m 47 then (none) else (bif Nat.blt m 48 then (none) else (some .int)))) else (bif Nat.blt m 52 then (bif Nat.blt m 50 then (some .int) else (bif Nat.blt m 51 then (some .int) else (none))) else (bif Nat.blt m 53 then (none) else (bif Nat.blt m 54 then (some .boolean) else (none))))) else (bif Nat.blt m 60 then (bif Nat.blt m 57 then (bif Nat.blt m 56 then (none) else (some .int)) else (bif Nat.blt m 58 then (none) else (bif Nat.blt m 59 then (some .int) else (some .int)))) else (bif Nat.blt m 63 then (bif Nat.blt m 61 then (none) else (bif Nat.blt m 62 then (none) else (none))) else (bif Nat.blt m 64 then (some .boolean) else (bif Nat.blt m 65 then (some .boolean) else (none)))))) else (bif Nat.blt m 77 then (bif Nat.blt m 71 then (bif Nat.blt m 68 then (bif Nat.blt m 67 then (none) else (some .boolean)) else (bif Nat.blt m 69 then (some .int) else (bif Nat.blt m 70 then (none) else (none)))) else (bif Nat.blt m 74 then (bif Nat.blt m 72 then (some .int) else (bif Nat.blt m 73 then (some .boolean) else (some .boolean))) else (bif Nat.blt m 75 then (some .boolean) else (bif Nat.blt m 76 then (some .boolean) else (some .boolean))))) else (bif Nat.blt m 82 then (bif Nat.blt m 79 then (bif Nat.blt m 78 then (some .boolean) else (some .boolean)) else (bif Nat.blt m 80 then (some .boolean) else (bif Nat.blt m 81 then (some .boolean) else (some .int)))) else (bif Nat.blt m 85 then (bif Nat.blt m 83 then (some .int) else (bif Nat.blt m 84 then (none) else (none))) else (bif Nat.blt m 86 then (some .boolean) else (bif Nat.blt m 87 then (some .boolean) else (none)))))))) else (bif Nat.blt m 132 then (bif Nat.blt m 110 then (bif Nat.blt m 99 then (bif Nat.blt m 93 then (bif Nat.blt m 90 then (bif Nat.blt m 89 then (none) else (none)) else (bif Nat.blt m 91 then (some .int) else (bif Nat.blt m 92 then (some .int) else (some .int)))) else (bif Nat.blt m 96 then (bif Nat.blt m 94 then (some .int) else (bif Nat.blt m 95 then (some .int) else (some .int))) else (bif Nat.blt m 97 then (some .int) else (bif Nat.blt m 98 then (some .int) else (none))))) else (bif Nat.blt m 104 then (bif Nat.blt m 101 then (bif Nat.blt m 100 then (some .int) else (none)) else (bif Nat.blt m 102 then (none) else (bif Nat.blt m 103 then (some .int) else (none)))) else (bif Nat.blt m 107 then (bif Nat.blt m 105 then (some .int) else (bif Nat.blt m 106 then (none) else (none))) else (bif Nat.blt m 108 then (some .boolean) else (bif Nat.blt m 109 then (some .boolean) else (some .boolean)))))) else (bif Nat.blt m 121 then (bif Nat.blt m 115 then (bif Nat.blt m 112 then (bif Nat.blt m 111 then (some .int) else (some .int)) else (bif Nat.blt m 113 then (some .int) else (bif Nat.blt m 114 then (some .int) else (some .int)))) else (bif Nat.blt m 118 then (bif Nat.blt m 116 then (some .int) else (bif Nat.blt m 117 then (some .int) else (some .int))) else (bif Nat.blt m 119 then (none) else (bif Nat.blt m 120 then (some .int) else (some .boolean))))) else (bif Nat.blt m 126 then (bif Nat.blt m 123 then (bif Nat.blt m 122 then (none) else (some .int)) else (bif Nat.blt m 124 then (some .int) else (bif Nat.blt m 125 then (some .boolean) else (some .int)))) else (bif Nat.blt m 129 then (bif Nat.blt m 127 then (some .boolean) else (bif Nat.blt m 128 then (some .int) else (some .long))) else (bif Nat.blt m 130 then (some .long) else (bif Nat.blt m 131 then (none) else (some .int))))))) else (bif Nat.blt m 154 then (bif Nat.blt m 143 then (bif Nat.blt m 137 then (bif Nat.blt m 134 then (bif Nat.blt m 133 then (some .boolean) else (some .int)) else (bif Nat.blt m 135 then (some .int) else (bif Nat.blt m 136 then (some .int) else (some .int)))) else (bif Nat.blt m 140 then (bif Nat.blt m 138 then (some .int) else (bif Nat.blt m 139 then (some .long) else (some .int))) else (bif Nat.blt m 141 then (some .int) else (bif Nat.blt m 142 then (some .int) else (some .int))))) else (bif Nat.blt m 148 then (bif Nat.blt m 145 then (bif Nat.blt m 144 then (some .int) else (some .int)) else (bif Nat.blt m 146 then (some .int) else (bif Nat.blt m 147 then (some .int) else (some .int)))) else (bif Nat.blt m 151 then (bif Nat.blt m 149 then (some .int) else (bif Nat.blt m 150 then (some .int) else (some .int))) else (bif Nat.blt m 152 then (some .int) else (bif Nat.blt m 153 then (some .int) else (some .int)))))) else (bif Nat.blt m 165 then (bif Nat.blt m 159 then (bif Nat.blt m 156 then (bif Nat.blt m 155 then (some .int) else (some .int)) else (bif Nat.blt m 157 then (some .int) else (bif Nat.blt m 158 then (some .int) else (some .int)))) else (bif Nat.blt m 162 then (bif Nat.blt m 160 then (some .int) else (bif Nat.blt m 161 then (some .int) else (some .long))) else (bif Nat.blt m 163 then (some .int) else (bif Nat.blt m 164 then (some .int) else (some .int))))) else (bif Nat.blt m 171 then (bif Nat.blt m 168 then (bif Nat.blt m 166 then (some .int) else (bif Nat.blt m 167 then (some .int) else (some .int))) else (bif Nat.blt m 169 then (some .int) else (bif Nat.blt m 170 then (some .int) else (some .int)))) else (bif Nat.blt m 174 then (bif Nat.blt m 172 then (some .int) else (bif Nat.blt m 173 then (some .int) else (some .int))) else (bif Nat.blt m 175 then (some .boolean) else (bif Nat.blt m 176 then (none) else (some .boolean))))))))) else (bif Nat.blt m 265 then (bif Nat.blt m 221 then (bif Nat.blt m 199 then (bif Nat.blt m 188 then (bif Nat.blt m 182 then (bif Nat.blt m 179 then (bif Nat.blt m 178 then (some .int) else (none)) else (bif Nat.blt m 180 then (none) else (bif Nat.blt m 181 then (none) else (none)))) else (bif Nat.blt m 185 then (bif Nat.blt m 183 then (none) else (bif Nat.blt m 184 then (none) else (none))) else (bif Nat.blt m 186 then (some .int) else (bif Nat.blt m 187 then (some .int) else (some .boolean))))) else (bif Nat.blt m 193 then (bif Nat.blt m 190 then (bif Nat.blt m 189 then (some .boolean) else (some .boolean)) else (bif Nat.blt m 191 then (some .boolean) else (bif Nat.blt m 192 then (none) else (none)))) else (bif Nat.blt m 196 then (bif Nat.blt m 194 then (none) else (bif Nat.blt m 195 then (none) else (some .boolean))) else (bif Nat.blt m 197 then (none) else (bif Nat.blt m 198 then (some .boolean) else (some .int)))))) else (bif Nat.blt m 210 then (bif Nat.blt m 204 then (bif Nat.blt m 201 then (bif Nat.blt m 200 then (some .int) else (some .int)) else (bif Nat.blt m 202 then (none) else (bif Nat.blt m 203 then (some .boolean) else (some .boolean)))) else (bif Nat.blt m 207 then (bif Nat.blt m 205 then (some .boolean) else (bif Nat.blt m 206 then (some .int) else (some .boolean))) else (bif Nat.blt m 208 then (some .boolean) else (bif Nat.blt m 209 then (some .boolean) else (some .boolean))))) else (bif Nat.blt m 215 then (bif Nat.blt m 212 then (bif Nat.blt m 211 then (some .int) else (some .int)) else (bif Nat.blt m 213 then (some .int) else (bif Nat.blt m 214 then (some .boolean) else (some .boolean)))) else (bif Nat.blt m 218 then (bif Nat.blt m 216 then (none) else (bif Nat.blt m 217 then (none) else (some .boolean))) else (bif Nat.blt m 219 then (some .boolean) else (bif Nat.blt m 220 then (some .boolean) else (some .int))))))) else (bif Nat.blt m 243 then (bif Nat.blt m 232 then (bif Nat.blt m 226 then (bif Nat.blt m 223 then (bif Nat.blt m 222 then (some .boolean) else (some .int)) else (bif Nat.blt m 224 then (some .int) else (bif Nat.blt m 225 then (none) else (none)))) else (bif Nat.blt m 229 then (bif Nat.blt m 227 then (some .boolean) else (bif Nat.blt m 228 then (some .boolean) else (some .boolean))) else (bif Nat.blt m 230 then (some .boolean) else (bif Nat.blt m 231 then (some .boolean) else (some .boolean))))) else (bif Nat.blt m 237 then (bif Nat.blt m 234 then (bif Nat.blt m 233 then (some .boolean) else (some .boolean)) else (bif Nat.blt m 235 then (some .boolean) else (bif Nat.blt m 236 then (some .int) else (some .boolean)))) else (bif Nat.blt m 240 then (bif Nat.blt m 238 then (none) else (bif Nat.blt m 239 then (some .boolean) else (some .boolean))) else (bif Nat.blt m 241 then (some .boolean) else (bif Nat.blt m 242 then (some .boolean) else (some .boolean)))))) else (bif Nat.blt m 254 then (bif Nat.blt m 248 then (bif Nat.blt m 245 then (bif Nat.blt m 244 then (some .int) else (some .int)) else (bif Nat.blt m 246 then (some .int) else (bif Nat.blt m 247 then (some .int) else (some .boolean)))) else (bif Nat.blt m 251 then (bif Nat.blt m 249 then (some .int) else (bif Nat.blt m 250 then (some .int) else (some .int))) else (bif Nat.blt m 252 then (some .int) else (bif Nat.blt m 253 then (some .int) else (some .int))))) else (bif Nat.blt m 259 then (bif Nat.blt m 256 then (bif Nat.blt m 255 then (some .boolean) else (some .int)) else (bif Nat.blt m 257 then (some .int) else (bif Nat.blt m 258 then (some .int) else (some .int)))) else (bif Nat.blt m 262 then (bif Nat.blt m 260 then (some .long) else (bif Nat.blt m 261 then (some .int) else (some .boolean))) else (bif Nat.blt m 263 then (some .int) else (bif Nat.blt m 264 then (some .int) else (some .int)))))))) else (bif Nat.blt m 309 then (bif Nat.blt m 287 then (bif Nat.blt m 276 then (bif Nat.blt m 270 then (bif Nat.blt m 267 then (bif Nat.blt m 266 then (some .int) else (some .int)) else (bif Nat.blt m 268 then (some .int) else (bif Nat.blt m 269 then (some .boolean) else (none)))) else (bif Nat.blt m 273 then (bif Nat.blt m 271 then (none) else (bif Nat.blt m 272 then (none) else (some .int))) else (bif Nat.blt m 274 then (some .int) else (bif Nat.blt m 275 then (some .int) else (some .boolean))))) else (bif Nat.blt m 281 then (bif Nat.blt m 278 then (bif Nat.blt m 277 then (some .int) else (none)) else (bif Nat.blt m 279 then (some .boolean) else (bif Nat.blt m 280 then (some .int) else (some .int)))) else (bif Nat.blt m 284 then (bif Nat.blt m 282 then (some .int) else (bif Nat.blt m 283 then (some .int) else (some .int))) else (bif Nat.blt m 285 then (some .boolean) else (bif Nat.blt m 286 then (some .int) else (some .int)))))) else (bif Nat.blt m 298 then (bif Nat.blt m 292 then (bif Nat.blt m 289 then (bif Nat.blt m 288 then (some .int) else (some .int)) else (bif Nat.blt m 290 then (some .int) else (bif Nat.blt m 291 then (some .int) else (some .int)))) else (bif Nat.blt m 295 then (bif Nat.blt m 293 then (some .int) else (bif Nat.blt m 294 then (some .long) else (some .long))) else (bif Nat.blt m 296 then (some .boolean) else (bif Nat.blt m 297 then (some .int) else (some .int))))) else (bif Nat.blt m 303 then (bif Nat.blt m 300 then (bif Nat.blt m 299 then (some .int) else (some .int)) else (bif Nat.blt m 301 then (some .int) else (bif Nat.blt m 302 then (some .int) else (some .int)))) else (bif Nat.blt m 306 then (bif Nat.blt m 304 then (some .int) else (bif Nat.blt m 305 then (none) else (none))) else (bif Nat.blt m 307 then (some .int) else (bif Nat.blt m 308 then (some .int) else (some .int))))))) else (bif Nat.blt m 331 then (bif Nat.blt m 320 then (bif Nat.blt m 314 then (bif Nat.blt m 311 then (bif Nat.blt m 310 then (some .int) else (some .int)) else (bif Nat.blt m 312 then (some .int) else (bif Nat.blt m 313 then (some .int) else (some .int)))) else (bif Nat.blt m 317 then (bif Nat.blt m 315 then (some .int) else (bif Nat.blt m 316 then (some .int) else (some .int))) else (bif Nat.blt m 318 then (some .int) else (bif Nat.blt m 319 then (some .int) else (some .int))))) else (bif Nat.blt m 325 then (bif Nat.blt m 322 then (bif Nat.blt m 321 then (some .int) else (some .int)) else (bif Nat.blt m 323 then (some .int) else (bif Nat.blt m 324 then (some .int) else (some .int)))) else (bif Nat.blt m 328 then (bif Nat.blt m 326 then (some .int) else (bif Nat.blt m 327 then (some .int) else (some .int))) else (bif Nat.blt m 329 then (some .int) else (bif Nat.blt m 330 then (some .int) else (some .int)))))) else (bif Nat.blt m 342 then (bif Nat.blt m 336 then (bif Nat.blt m 333 then (bif Nat.blt m 332 then (some .int) else (some .int)) else (bif Nat.blt m 334 then (some .int) else (bif Nat.blt m 335 then (some .int) else (some .int)))) else (bif Nat.blt m 339 then (bif Nat.blt m 337 then (some .int) else (bif Nat.blt m 338 then (some .int) else (some .int))) else (bif Nat.blt m 340 then (some .int) else (bif Nat.blt m 341 then (some .int) else (some .int))))) else (bif Nat.blt m 348 then (bif Nat.blt m 345 then (bif Nat.blt m 343 then (some .int) else (bif Nat.blt m 344 then (some .int) else (some .int))) else (bif Nat.blt m 346 then (some .int) else (bif Nat.blt m 347 then (some .int) else (some .int)))) else (bif Nat.blt m 351 then (bif Nat.blt m 349 then (some .int) else (bif Nat.blt m 350 then (some .int) else (some .int))) else (bif Nat.blt m 352 then (some .int) else (bif Nat.blt m 353 then (some .int) else (some .int)))))))))) else none
def tb_x0 (m : Nat) : String := bif Nat.blt m 5 then (bif Nat.blt m 2 then (bif Nat.blt m 1 then "java/lang/IllegalArgumentException" else "java/lang/IllegalStateException") else (bif Nat.blt m 3 then "java/lang/IndexOutOfBoundsException" else (bif Nat.blt m 4 then "java/lang/UnsupportedOperationException" else "java/util/NoSuchElementException"))) else ""
def tb_x (a : Nat) : String := tb_x0 (a % 5)
def tb_T : List Jvm.Cond := Jvm.Cond.code x code maxLocals ret :: lw_tbl.filter goodWord
def tb_n : List Jvm.Cond := [.castable "java/lang/IllegalArgumentException" "java/lang/IllegalArgumentException", .castable "java/lang/IllegalStateException" "java/lang/IllegalStateException", .castable "java/lang/IndexOutOfBoundsException" "java/lang/IndexOutOfBoundsException", .castable "java/lang/UnsupportedOperationException" "java/lang/UnsupportedOperationException", .castable "java/util/NoSuchElementException" "java/util/NoSuchElementException", .methodLinkNest "EarCode" 9 ⟨"EarCode$Tape", "<init>", "()V"⟩ "EarCode", .methodLinkNest "EarCode" 18 ⟨"EarCode$Text", "<init>", "()V"⟩ "EarCode", .methodLinkNest "EarCode" 25 ⟨"EarCode$Law", "<init>", "()V"⟩ "EarCode", .methodLinkNest "EarCode" 35 ⟨"EarCode$World", "<init>", "()V"⟩ "EarCode", .methodLinkNest "EarCode$World" 52 ⟨"EarCode$Log", "<init>", "()V"⟩ "EarCode", .methodLinkNest "EarCode$Memory" 17 ⟨"EarCode$World", "<init>", "()V"⟩ "EarCode", .methodLinkNest "EarCode$World" 104 ⟨"EarCode", "bit", "(II)I"⟩ "EarCode", .methodLinkNest "EarCode$Law" 47 ⟨"EarCode", "bit", "(II)I"⟩ "EarCode", .methodLinkNest "EarCode$Inquiry" 88 ⟨"EarCode", "bit", "(II)I"⟩ "EarCode", .methodLinkNest "EarCode$Outlook" 84 ⟨"EarCode", "bit", "(II)I"⟩ "EarCode"]
def tb_s : List (String × Nat × String) := [("EarCode$Text", 70, "never always if or and not feast place day who known citizen fear does knows watch term harm wed seen "), ("EarCode", 122, "the text is wrong"), ("EarCode", 135, "a code was told, or there is a citizen"), ("EarCode", 157, "there are 12 texts"), ("EarCode", 186, "no such what"), ("EarCode", 249, "known already"), ("EarCode", 263, "one has a spouse"), ("EarCode", 268, "there are 10 citizens"), ("EarCode", 273, "one is free"), ("EarCode", 295, "the tape is not that"), ("EarCode", 428, "there is no such one"), ("EarCode", 435, "one is dead"), ("EarCode", 437, "the number is none"), ("EarCode", 439, "both are one"), ("EarCodeModel", 183, "place"), ("EarCodeModel", 185, "day"), ("EarCodeModel", 187, "who"), ("EarCodeModel", 189, "known"), ("EarCodeModel", 205, "not"), ("EarCodeModel", 213, "feast"), ("EarCodeModel", 218, "and"), ("EarCodeModel", 223, "or"), ("EarCodeModel", 225, "always"), ("EarCodeModel", 227, "never"), ("EarCodeModel", 229, "if"), ("EarCodeModel", 241, "fear"), ("EarCodeModel", 243, "does"), ("EarCodeModel", 248, "knows"), ("EarCodeModel", 265, "citizen"), ("EarCodeModel", 270, "watch"), ("EarCodeModel", 275, "term"), ("EarCodeModel", 277, "wed"), ("EarCodeModel", 282, "seen"), ("EarCodeModel", 286, "harm")]
def tb_N : EN := (tb_y, tb_b, tb_r, tb_cl, tb_x, ["java/lang/RuntimeException", "java/lang/Exception"], tb_T, tb_n, tb_s, ["EarCode$World"], 354)
/-- where the words of a method stand: its own, that of its class -/
def tb_w (m : Nat) : Nat × Nat := bif Nat.blt m 354 then (bif Nat.blt m 177 then (bif Nat.blt m 88 then (bif Nat.blt m 44 then (bif Nat.blt m 22 then (bif Nat.blt m 11 then (bif Nat.blt m 5 then (bif Nat.blt m 2 then (bif Nat.blt m 1 then (0, 0) else (2, 122)) else (bif Nat.blt m 3 then (2, 226) else (bif Nat.blt m 4 then (3, 25) else (5, 162)))) else (bif Nat.blt m 8 then (bif Nat.blt m 6 then (5, 166) else (bif Nat.blt m 7 then (5, 170) else (2, 206))) else (bif Nat.blt m 9 then (2, 221) else (bif Nat.blt m 10 then (5, 88) else (3, 13))))) else (bif Nat.blt m 16 then (bif Nat.blt m 13 then (bif Nat.blt m 12 then (3, 35) else (3, 17)) else (bif Nat.blt m 14 then (3, 21) else (bif Nat.blt m 15 then (3, 29) else (3, 43)))) else (bif Nat.blt m 19 then (bif Nat.blt m 17 then (3, 47) else (bif Nat.blt m 18 then (6, 64) else (6, 75))) else (bif Nat.blt m 20 then (6, 111) else (bif Nat.blt m 21 then (6, 151) else (6, 163)))))) else (bif Nat.blt m 33 then (bif Nat.blt m 27 then (bif Nat.blt m 24 then (bif Nat.blt m 23 then (6, 167) else (6, 179)) else (bif Nat.blt m 25 then (6, 183) else (bif Nat.blt m 26 then (6, 207) else (6, 211)))) else (bif Nat.blt m 30 then (bif Nat.blt m 28 then (6, 224) else (bif Nat.blt m 29 then (6, 236) else (1, 86))) else (bif Nat.blt m 31 then (3, 180) else (bif Nat.blt m 32 then (4, 53) else (4, 86))))) else (bif Nat.blt m 38 then (bif Nat.blt m 35 then (bif Nat.blt m 34 then (4, 94) else (4, 103)) else (bif Nat.blt m 36 then (6, 33) else (bif Nat.blt m 37 then (3, 0) else (3, 5)))) else (bif Nat.blt m 41 then (bif Nat.blt m 39 then (2, 12) else (bif Nat.blt m 40 then (4, 49) else (4, 61))) else (bif Nat.blt m 42 then (4, 78) else (bif Nat.blt m 43 then (4, 82) else (4, 90))))))) else (bif Nat.blt m 66 then (bif Nat.blt m 55 then (bif Nat.blt m 49 then (bif Nat.blt m 46 then (bif Nat.blt m 45 then (4, 98) else (1, 137)) else (bif Nat.blt m 47 then (3, 76) else (bif Nat.blt m 48 then (3, 140) else (3, 159)))) else (bif Nat.blt m 52 then (bif Nat.blt m 50 then (7, 25) else (bif Nat.blt m 51 then (3, 155) else (2, 41))) else (bif Nat.blt m 53 then (5, 183) else (bif Nat.blt m 54 then (3, 171) else (3, 189))))) else (bif Nat.blt m 60 then (bif Nat.blt m 57 then (bif Nat.blt m 56 then (2, 98) else (6, 88)) else (bif Nat.blt m 58 then (6, 93) else (bif Nat.blt m 59 then (6, 100) else (6, 122)))) else (bif Nat.blt m 63 then (bif Nat.blt m 61 then (6, 134) else (bif Nat.blt m 62 then (6, 139) else (2, 61))) else (bif Nat.blt m 64 then (6, 13) else (bif Nat.blt m 65 then (6, 17) else (6, 24)))))) else (bif Nat.blt m 77 then (bif Nat.blt m 71 then (bif Nat.blt m 68 then (bif Nat.blt m 67 then (6, 29) else (6, 37)) else (bif Nat.blt m 69 then (6, 48) else (bif Nat.blt m 70 then (6, 52) else (2, 25)))) else (bif Nat.blt m 74 then (bif Nat.blt m 72 then (4, 205) else (bif Nat.blt m 73 then (4, 210) else (4, 215))) else (bif Nat.blt m 75 then (4, 224) else (bif Nat.blt m 76 then (5, 1) else (5, 5))))) else (bif Nat.blt m 82 then (bif Nat.blt m 79 then (bif Nat.blt m 78 then (5, 9) else (5, 13)) else (bif Nat.blt m 80 then (5, 17) else (bif Nat.blt m 81 then (5, 30) else (5, 21)))) else (bif Nat.blt m 85 then (bif Nat.blt m 83 then (4, 228) else (bif Nat.blt m 84 then (1, 42) else (2, 190))) else (bif Nat.blt m 86 then (3, 213) else (bif Nat.blt m 87 then (4, 36) else (1, 61)))))))) else (bif Nat.blt m 132 then (bif Nat.blt m 110 then (bif Nat.blt m 99 then (bif Nat.blt m 93 then (bif Nat.blt m 90 then (bif Nat.blt m 89 then (3, 209) else (4, 32)) else (bif Nat.blt m 91 then (3, 216) else (bif Nat.blt m 92 then (4, 39) else (4, 42)))) else (bif Nat.blt m 96 then (bif Nat.blt m 94 then (3, 219) else (bif Nat.blt m 95 then (4, 57) else (4, 73))) else (bif Nat.blt m 97 then (4, 233) else (bif Nat.blt m 98 then (4, 107) else (4, 65))))) else (bif Nat.blt m 104 then (bif Nat.blt m 101 then (bif Nat.blt m 100 then (4, 69) else (1, 131)) else (bif Nat.blt m 102 then (3, 69) else (bif Nat.blt m 103 then (4, 220) else (4, 237)))) else (bif Nat.blt m 107 then (bif Nat.blt m 105 then (5, 221) else (bif Nat.blt m 106 then (5, 196) else (5, 26))) else (bif Nat.blt m 108 then (5, 124) else (bif Nat.blt m 109 then (2, 214) else (3, 89)))))) else (bif Nat.blt m 121 then (bif Nat.blt m 115 then (bif Nat.blt m 112 then (bif Nat.blt m 111 then (3, 121) else (3, 117)) else (bif Nat.blt m 113 then (3, 147) else (bif Nat.blt m 114 then (2, 230) else (5, 120)))) else (bif Nat.blt m 118 then (bif Nat.blt m 116 then (2, 210) else (bif Nat.blt m 117 then (5, 84) else (3, 105))) else (bif Nat.blt m 119 then (3, 101) else (bif Nat.blt m 120 then (3, 109) else (3, 113))))) else (bif Nat.blt m 126 then (bif Nat.blt m 123 then (bif Nat.blt m 122 then (3, 133) else (3, 136)) else (bif Nat.blt m 124 then (3, 127) else (bif Nat.blt m 125 then (3, 81) else (3, 85)))) else (bif Nat.blt m 129 then (bif Nat.blt m 127 then (3, 93) else (bif Nat.blt m 128 then (6, 195) else (3, 55))) else (bif Nat.blt m 130 then (3, 60) else (bif Nat.blt m 131 then (1, 34) else (2, 186))))))) else (bif Nat.blt m 154 then (bif Nat.blt m 143 then (bif Nat.blt m 137 then (bif Nat.blt m 134 then (bif Nat.blt m 133 then (2, 194) else (3, 205)) else (bif Nat.blt m 135 then (4, 201) else (bif Nat.blt m 136 then (2, 198) else (5, 56)))) else (bif Nat.blt m 140 then (bif Nat.blt m 138 then (5, 111) else (bif Nat.blt m 139 then (5, 137) else (5, 144))) else (bif Nat.blt m 141 then (5, 152) else (bif Nat.blt m 142 then (5, 178) else (5, 192))))) else (bif Nat.blt m 148 then (bif Nat.blt m 145 then (bif Nat.blt m 144 then (5, 203) else (5, 216)) else (bif Nat.blt m 146 then (5, 230) else (bif Nat.blt m 147 then (5, 238) else (2, 202)))) else (bif Nat.blt m 151 then (bif Nat.blt m 149 then (3, 9) else (bif Nat.blt m 150 then (6, 9) else (6, 44))) else (bif Nat.blt m 152 then (3, 39) else (bif Nat.blt m 153 then (6, 60) else (6, 71)))))) else (bif Nat.blt m 165 then (bif Nat.blt m 159 then (bif Nat.blt m 156 then (bif Nat.blt m 155 then (6, 84) else (6, 107)) else (bif Nat.blt m 157 then (6, 118) else (bif Nat.blt m 158 then (6, 130) else (6, 147)))) else (bif Nat.blt m 162 then (bif Nat.blt m 160 then (6, 159) else (bif Nat.blt m 161 then (6, 175) else (3, 51))) else (bif Nat.blt m 163 then (6, 191) else (bif Nat.blt m 164 then (3, 65) else (6, 203))))) else (bif Nat.blt m 171 then (bif Nat.blt m 168 then (bif Nat.blt m 166 then (6, 220) else (bif Nat.blt m 167 then (6, 232) else (7, 3))) else (bif Nat.blt m 169 then (7, 14) else (bif Nat.blt m 170 then (3, 97) else (7, 21)))) else (bif Nat.blt m 174 then (bif Nat.blt m 172 then (3, 151) else (bif Nat.blt m 173 then (7, 32) else (3, 163))) else (bif Nat.blt m 175 then (3, 167) else (bif Nat.blt m 176 then (3, 176) else (3, 185))))))))) else (bif Nat.blt m 265 then (bif Nat.blt m 221 then (bif Nat.blt m 199 then (bif Nat.blt m 188 then (bif Nat.blt m 182 then (bif Nat.blt m 179 then (bif Nat.blt m 178 then (3, 193) else (7, 7)) else (bif Nat.blt m 180 then (5, 115) else (bif Nat.blt m 181 then (5, 60) else (5, 63)))) else (bif Nat.blt m 185 then (bif Nat.blt m 183 then (5, 156) else (bif Nat.blt m 184 then (6, 1) else (5, 206))) else (bif Nat.blt m 186 then (2, 217) else (bif Nat.blt m 187 then (7, 37) else (8, 115))))) else (bif Nat.blt m 193 then (bif Nat.blt m 190 then (bif Nat.blt m 189 then (8, 130) else (8, 153)) else (bif Nat.blt m 191 then (8, 221) else (bif Nat.blt m 192 then (7, 42) else (7, 165)))) else (bif Nat.blt m 196 then (bif Nat.blt m 194 then (7, 168) else (bif Nat.blt m 195 then (7, 162) else (7, 172))) else (bif Nat.blt m 197 then (8, 229) else (bif Nat.blt m 198 then (7, 176) else (8, 77)))))) else (bif Nat.blt m 210 then (bif Nat.blt m 204 then (bif Nat.blt m 201 then (bif Nat.blt m 200 then (8, 46) else (8, 55)) else (bif Nat.blt m 202 then (8, 50) else (bif Nat.blt m 203 then (8, 97) else (8, 150)))) else (bif Nat.blt m 207 then (bif Nat.blt m 205 then (8, 134) else (bif Nat.blt m 206 then (8, 138) else (8, 178))) else (bif Nat.blt m 208 then (8, 127) else (bif Nat.blt m 209 then (8, 202) else (9, 101))))) else (bif Nat.blt m 215 then (bif Nat.blt m 212 then (bif Nat.blt m 211 then (8, 182) else (9, 22)) else (bif Nat.blt m 213 then (7, 180) else (bif Nat.blt m 214 then (7, 184) else (7, 208)))) else (bif Nat.blt m 218 then (bif Nat.blt m 216 then (7, 204) else (bif Nat.blt m 217 then (7, 216) else (7, 225))) else (bif Nat.blt m 219 then (7, 237) else (bif Nat.blt m 220 then (8, 13) else (7, 232))))))) else (bif Nat.blt m 243 then (bif Nat.blt m 232 then (bif Nat.blt m 226 then (bif Nat.blt m 223 then (bif Nat.blt m 222 then (8, 68) else (8, 64)) else (bif Nat.blt m 224 then (7, 188) else (bif Nat.blt m 225 then (7, 200) else (8, 18)))) else (bif Nat.blt m 229 then (bif Nat.blt m 227 then (8, 27) else (bif Nat.blt m 228 then (8, 23) else (8, 9))) else (bif Nat.blt m 230 then (8, 5) else (bif Nat.blt m 231 then (8, 1) else (7, 220))))) else (bif Nat.blt m 237 then (bif Nat.blt m 234 then (bif Nat.blt m 233 then (8, 60) else (8, 73)) else (bif Nat.blt m 235 then (8, 42) else (bif Nat.blt m 236 then (8, 93) else (8, 101)))) else (bif Nat.blt m 240 then (bif Nat.blt m 238 then (8, 105) else (bif Nat.blt m 239 then (8, 89) else (8, 110))) else (bif Nat.blt m 241 then (8, 83) else (bif Nat.blt m 242 then (8, 37) else (7, 212)))))) else (bif Nat.blt m 254 then (bif Nat.blt m 248 then (bif Nat.blt m 245 then (bif Nat.blt m 244 then (7, 196) else (7, 192)) else (bif Nat.blt m 246 then (8, 119) else (bif Nat.blt m 247 then (8, 169) else (8, 165)))) else (bif Nat.blt m 251 then (bif Nat.blt m 249 then (8, 142) else (bif Nat.blt m 250 then (8, 206) else (8, 218))) else (bif Nat.blt m 252 then (8, 214) else (bif Nat.blt m 253 then (8, 146) else (9, 43))))) else (bif Nat.blt m 259 then (bif Nat.blt m 256 then (bif Nat.blt m 255 then (8, 161) else (8, 157)) else (bif Nat.blt m 257 then (8, 123) else (bif Nat.blt m 258 then (8, 186) else (8, 174)))) else (bif Nat.blt m 262 then (bif Nat.blt m 260 then (8, 191) else (bif Nat.blt m 261 then (8, 195) else (8, 210))) else (bif Nat.blt m 263 then (8, 199) else (bif Nat.blt m 264 then (8, 225) else (8, 234)))))))) else (bif Nat.blt m 309 then (bif Nat.blt m 287 then (bif Nat.blt m 276 then (bif Nat.blt m 270 then (bif Nat.blt m 267 then (bif Nat.blt m 266 then (8, 238) else (9, 2)) else (bif Nat.blt m 268 then (9, 6) else (bif Nat.blt m 269 then (9, 18) else (9, 35)))) else (bif Nat.blt m 273 then (bif Nat.blt m 271 then (9, 27) else (bif Nat.blt m 272 then (9, 14) else (9, 10))) else (bif Nat.blt m 274 then (9, 39) else (bif Nat.blt m 275 then (9, 47) else (9, 55))))) else (bif Nat.blt m 281 then (bif Nat.blt m 278 then (bif Nat.blt m 277 then (9, 63) else (9, 59)) else (bif Nat.blt m 279 then (9, 67) else (bif Nat.blt m 280 then (9, 51) else (9, 71)))) else (bif Nat.blt m 284 then (bif Nat.blt m 282 then (9, 75) else (bif Nat.blt m 283 then (9, 79) else (9, 83))) else (bif Nat.blt m 285 then (9, 90) else (bif Nat.blt m 286 then (9, 94) else (9, 87)))))) else (bif Nat.blt m 298 then (bif Nat.blt m 292 then (bif Nat.blt m 289 then (bif Nat.blt m 288 then (9, 98) else (9, 105)) else (bif Nat.blt m 290 then (9, 109) else (bif Nat.blt m 291 then (9, 113) else (9, 117)))) else (bif Nat.blt m 295 then (bif Nat.blt m 293 then (9, 121) else (bif Nat.blt m 294 then (9, 125) else (9, 138))) else (bif Nat.blt m 296 then (9, 134) else (bif Nat.blt m 297 then (9, 142) else (9, 130))))) else (bif Nat.blt m 303 then (bif Nat.blt m 300 then (bif Nat.blt m 299 then (9, 146) else (9, 158)) else (bif Nat.blt m 301 then (9, 154) else (bif Nat.blt m 302 then (9, 150) else (9, 162)))) else (bif Nat.blt m 306 then (bif Nat.blt m 304 then (9, 166) else (bif Nat.blt m 305 then (9, 174) else (9, 182))) else (bif Nat.blt m 307 then (9, 178) else (bif Nat.blt m 308 then (9, 170) else (9, 186))))))) else (bif Nat.blt m 331 then (bif Nat.blt m 320 then (bif Nat.blt m 314 then (bif Nat.blt m 311 then (bif Nat.blt m 310 then (9, 190) else (9, 198)) else (bif Nat.blt m 312 then (9, 194) else (bif Nat.blt m 313 then (9, 206) else (9, 202)))) else (bif Nat.blt m 317 then (bif Nat.blt m 315 then (9, 210) else (bif Nat.blt m 316 then (9, 214) else (9, 218))) else (bif Nat.blt m 318 then (9, 30) else (bif Nat.blt m 319 then (2, 233) else (5, 127))))) else (bif Nat.blt m 325 then (bif Nat.blt m 322 then (bif Nat.blt m 321 then (4, 45) else (3, 143)) else (bif Nat.blt m 323 then (3, 199) else (bif Nat.blt m 324 then (4, 196) else (5, 50)))) else (bif Nat.blt m 328 then (bif Nat.blt m 326 then (5, 107) else (bif Nat.blt m 327 then (5, 133) else (5, 140))) else (bif Nat.blt m 329 then (5, 148) else (bif Nat.blt m 330 then (5, 174) else (5, 188)))))) else (bif Nat.blt m 342 then (bif Nat.blt m 336 then (bif Nat.blt m 333 then (bif Nat.blt m 332 then (5, 199) else (5, 212)) else (bif Nat.blt m 334 then (5, 226) else (bif Nat.blt m 335 then (5, 234) else (6, 5)))) else (bif Nat.blt m 339 then (bif Nat.blt m 337 then (6, 40) else (bif Nat.blt m 338 then (6, 56) else (6, 67))) else (bif Nat.blt m 340 then (6, 80) else (bif Nat.blt m 341 then (6, 103) else (6, 114))))) else (bif Nat.blt m 348 then (bif Nat.blt m 345 then (bif Nat.blt m 343 then (6, 126) else (bif Nat.blt m 344 then (6, 143) else (6, 155))) else (bif Nat.blt m 346 then (6, 171) else (bif Nat.blt m 347 then (6, 187) else (6, 199)))) else (bif Nat.blt m 351 then (bif Nat.blt m 349 then (6, 216) else (bif Nat.blt m 350 then (6, 228) else (6, 239))) else (bif Nat.blt m 352 then (7, 10) else (bif Nat.blt m 353 then (7, 17) else (7, 28)))))))))) else (0, 0)
def tb_wi (m : Nat) : Nat × Nat := bif Nat.blt m 354 then (bif Nat.blt m 177 then (bif Nat.blt m 88 then (bif Nat.blt m 44 then (bif Nat.blt m 22 then (bif Nat.blt m 11 then (bif Nat.blt m 5 then (bif Nat.blt m 2 then (bif Nat.blt m 1 then (1, 0) else (1, 12)) else (bif Nat.blt m 3 then (1, 12) else (bif Nat.blt m 4 then (1, 12) else (1, 12)))) else (bif Nat.blt m 8 then (bif Nat.blt m 6 then (1, 12) else (bif Nat.blt m 7 then (1, 12) else (1, 12))) else (bif Nat.blt m 9 then (1, 12) else (bif Nat.blt m 10 then (1, 12) else (1, 12))))) else (bif Nat.blt m 16 then (bif Nat.blt m 13 then (bif Nat.blt m 12 then (1, 12) else (1, 12)) else (bif Nat.blt m 14 then (1, 12) else (bif Nat.blt m 15 then (1, 12) else (1, 12)))) else (bif Nat.blt m 19 then (bif Nat.blt m 17 then (1, 12) else (bif Nat.blt m 18 then (1, 12) else (1, 12))) else (bif Nat.blt m 20 then (1, 12) else (bif Nat.blt m 21 then (1, 12) else (1, 12)))))) else (bif Nat.blt m 33 then (bif Nat.blt m 27 then (bif Nat.blt m 24 then (bif Nat.blt m 23 then (1, 12) else (1, 12)) else (bif Nat.blt m 25 then (1, 12) else (bif Nat.blt m 26 then (1, 12) else (1, 12)))) else (bif Nat.blt m 30 then (bif Nat.blt m 28 then (1, 12) else (bif Nat.blt m 29 then (1, 12) else (1, 4))) else (bif Nat.blt m 31 then (1, 4) else (bif Nat.blt m 32 then (1, 4) else (1, 4))))) else (bif Nat.blt m 38 then (bif Nat.blt m 35 then (bif Nat.blt m 34 then (1, 4) else (1, 4)) else (bif Nat.blt m 36 then (1, 4) else (bif Nat.blt m 37 then (1, 4) else (1, 4)))) else (bif Nat.blt m 41 then (bif Nat.blt m 39 then (1, 7) else (bif Nat.blt m 40 then (1, 7) else (1, 7))) else (bif Nat.blt m 42 then (1, 7) else (bif Nat.blt m 43 then (1, 7) else (1, 7))))))) else (bif Nat.blt m 66 then (bif Nat.blt m 55 then (bif Nat.blt m 49 then (bif Nat.blt m 46 then (bif Nat.blt m 45 then (1, 7) else (1, 6)) else (bif Nat.blt m 47 then (1, 6) else (bif Nat.blt m 48 then (1, 6) else (1, 6)))) else (bif Nat.blt m 52 then (bif Nat.blt m 50 then (1, 6) else (bif Nat.blt m 51 then (1, 6) else (1, 9))) else (bif Nat.blt m 53 then (1, 9) else (bif Nat.blt m 54 then (1, 9) else (1, 9))))) else (bif Nat.blt m 60 then (bif Nat.blt m 57 then (bif Nat.blt m 56 then (1, 11) else (1, 11)) else (bif Nat.blt m 58 then (1, 11) else (bif Nat.blt m 59 then (1, 11) else (1, 11)))) else (bif Nat.blt m 63 then (bif Nat.blt m 61 then (1, 11) else (bif Nat.blt m 62 then (1, 11) else (1, 10))) else (bif Nat.blt m 64 then (1, 10) else (bif Nat.blt m 65 then (1, 10) else (1, 10)))))) else (bif Nat.blt m 77 then (bif Nat.blt m 71 then (bif Nat.blt m 68 then (bif Nat.blt m 67 then (1, 10) else (1, 10)) else (bif Nat.blt m 69 then (1, 10) else (bif Nat.blt m 70 then (1, 10) else (1, 8)))) else (bif Nat.blt m 74 then (bif Nat.blt m 72 then (1, 8) else (bif Nat.blt m 73 then (1, 8) else (1, 8))) else (bif Nat.blt m 75 then (1, 8) else (bif Nat.blt m 76 then (1, 8) else (1, 8))))) else (bif Nat.blt m 82 then (bif Nat.blt m 79 then (bif Nat.blt m 78 then (1, 8) else (1, 8)) else (bif Nat.blt m 80 then (1, 8) else (bif Nat.blt m 81 then (1, 8) else (1, 8)))) else (bif Nat.blt m 85 then (bif Nat.blt m 83 then (1, 8) else (bif Nat.blt m 84 then (1, 2) else (1, 2))) else (bif Nat.blt m 86 then (1, 2) else (bif Nat.blt m 87 then (1, 2) else (1, 3)))))))) else (bif Nat.blt m 132 then (bif Nat.blt m 110 then (bif Nat.blt m 99 then (bif Nat.blt m 93 then (bif Nat.blt m 90 then (bif Nat.blt m 89 then (1, 3) else (1, 3)) else (bif Nat.blt m 91 then (1, 3) else (bif Nat.blt m 92 then (1, 3) else (1, 3)))) else (bif Nat.blt m 96 then (bif Nat.blt m 94 then (1, 3) else (bif Nat.blt m 95 then (1, 3) else (1, 3))) else (bif Nat.blt m 97 then (1, 3) else (bif Nat.blt m 98 then (1, 3) else (1, 3))))) else (bif Nat.blt m 104 then (bif Nat.blt m 101 then (bif Nat.blt m 100 then (1, 3) else (1, 5)) else (bif Nat.blt m 102 then (1, 5) else (bif Nat.blt m 103 then (1, 5) else (1, 5)))) else (bif Nat.blt m 107 then (bif Nat.blt m 105 then (1, 5) else (bif Nat.blt m 106 then (1, 5) else (1, 5))) else (bif Nat.blt m 108 then (1, 5) else (bif Nat.blt m 109 then (1, 5) else (1, 5)))))) else (bif Nat.blt m 121 then (bif Nat.blt m 115 then (bif Nat.blt m 112 then (bif Nat.blt m 111 then (1, 5) else (1, 5)) else (bif Nat.blt m 113 then (1, 5) else (bif Nat.blt m 114 then (1, 5) else (1, 5)))) else (bif Nat.blt m 118 then (bif Nat.blt m 116 then (1, 5) else (bif Nat.blt m 117 then (1, 5) else (1, 5))) else (bif Nat.blt m 119 then (1, 5) else (bif Nat.blt m 120 then (1, 5) else (1, 5))))) else (bif Nat.blt m 126 then (bif Nat.blt m 123 then (bif Nat.blt m 122 then (1, 5) else (1, 5)) else (bif Nat.blt m 124 then (1, 5) else (bif Nat.blt m 125 then (1, 5) else (1, 5)))) else (bif Nat.blt m 129 then (bif Nat.blt m 127 then (1, 5) else (bif Nat.blt m 128 then (1, 5) else (1, 5))) else (bif Nat.blt m 130 then (1, 5) else (bif Nat.blt m 131 then (1, 1) else (1, 1))))))) else (bif Nat.blt m 154 then (bif Nat.blt m 143 then (bif Nat.blt m 137 then (bif Nat.blt m 134 then (bif Nat.blt m 133 then (1, 1) else (1, 1)) else (bif Nat.blt m 135 then (1, 1) else (bif Nat.blt m 136 then (1, 1) else (1, 1)))) else (bif Nat.blt m 140 then (bif Nat.blt m 138 then (1, 1) else (bif Nat.blt m 139 then (1, 1) else (1, 1))) else (bif Nat.blt m 141 then (1, 1) else (bif Nat.blt m 142 then (1, 1) else (1, 1))))) else (bif Nat.blt m 148 then (bif Nat.blt m 145 then (bif Nat.blt m 144 then (1, 1) else (1, 1)) else (bif Nat.blt m 146 then (1, 1) else (bif Nat.blt m 147 then (1, 1) else (1, 1)))) else (bif Nat.blt m 151 then (bif Nat.blt m 149 then (1, 1) else (bif Nat.blt m 150 then (1, 1) else (1, 1))) else (bif Nat.blt m 152 then (1, 1) else (bif Nat.blt m 153 then (1, 1) else (1, 1)))))) else (bif Nat.blt m 165 then (bif Nat.blt m 159 then (bif Nat.blt m 156 then (bif Nat.blt m 155 then (1, 1) else (1, 1)) else (bif Nat.blt m 157 then (1, 1) else (bif Nat.blt m 158 then (1, 1) else (1, 1)))) else (bif Nat.blt m 162 then (bif Nat.blt m 160 then (1, 1) else (bif Nat.blt m 161 then (1, 1) else (1, 1))) else (bif Nat.blt m 163 then (1, 1) else (bif Nat.blt m 164 then (1, 1) else (1, 1))))) else (bif Nat.blt m 171 then (bif Nat.blt m 168 then (bif Nat.blt m 166 then (1, 1) else (bif Nat.blt m 167 then (1, 1) else (1, 1))) else (bif Nat.blt m 169 then (1, 1) else (bif Nat.blt m 170 then (1, 1) else (1, 1)))) else (bif Nat.blt m 174 then (bif Nat.blt m 172 then (1, 1) else (bif Nat.blt m 173 then (1, 1) else (1, 1))) else (bif Nat.blt m 175 then (1, 1) else (bif Nat.blt m 176 then (1, 1) else (1, 1))))))))) else (bif Nat.blt m 265 then (bif Nat.blt m 221 then (bif Nat.blt m 199 then (bif Nat.blt m 188 then (bif Nat.blt m 182 then (bif Nat.blt m 179 then (bif Nat.blt m 178 then (1, 1) else (1, 1)) else (bif Nat.blt m 180 then (1, 1) else (bif Nat.blt m 181 then (1, 1) else (1, 1)))) else (bif Nat.blt m 185 then (bif Nat.blt m 183 then (1, 1) else (bif Nat.blt m 184 then (1, 1) else (1, 1))) else (bif Nat.blt m 186 then (1, 1) else (bif Nat.blt m 187 then (1, 13) else (1, 13))))) else (bif Nat.blt m 193 then (bif Nat.blt m 190 then (bif Nat.blt m 189 then (1, 13) else (1, 13)) else (bif Nat.blt m 191 then (1, 13) else (bif Nat.blt m 192 then (1, 13) else (1, 13)))) else (bif Nat.blt m 196 then (bif Nat.blt m 194 then (1, 13) else (bif Nat.blt m 195 then (1, 13) else (1, 13))) else (bif Nat.blt m 197 then (1, 13) else (bif Nat.blt m 198 then (1, 13) else (1, 13)))))) else (bif Nat.blt m 210 then (bif Nat.blt m 204 then (bif Nat.blt m 201 then (bif Nat.blt m 200 then (1, 13) else (1, 13)) else (bif Nat.blt m 202 then (1, 13) else (bif Nat.blt m 203 then (1, 13) else (1, 13)))) else (bif Nat.blt m 207 then (bif Nat.blt m 205 then (1, 13) else (bif Nat.blt m 206 then (1, 13) else (1, 13))) else (bif Nat.blt m 208 then (1, 13) else (bif Nat.blt m 209 then (1, 13) else (1, 13))))) else (bif Nat.blt m 215 then (bif Nat.blt m 212 then (bif Nat.blt m 211 then (1, 13) else (1, 13)) else (bif Nat.blt m 213 then (1, 13) else (bif Nat.blt m 214 then (1, 13) else (1, 13)))) else (bif Nat.blt m 218 then (bif Nat.blt m 216 then (1, 13) else (bif Nat.blt m 217 then (1, 13) else (1, 13))) else (bif Nat.blt m 219 then (1, 13) else (bif Nat.blt m 220 then (1, 13) else (1, 13))))))) else (bif Nat.blt m 243 then (bif Nat.blt m 232 then (bif Nat.blt m 226 then (bif Nat.blt m 223 then (bif Nat.blt m 222 then (1, 13) else (1, 13)) else (bif Nat.blt m 224 then (1, 13) else (bif Nat.blt m 225 then (1, 13) else (1, 13)))) else (bif Nat.blt m 229 then (bif Nat.blt m 227 then (1, 13) else (bif Nat.blt m 228 then (1, 13) else (1, 13))) else (bif Nat.blt m 230 then (1, 13) else (bif Nat.blt m 231 then (1, 13) else (1, 13))))) else (bif Nat.blt m 237 then (bif Nat.blt m 234 then (bif Nat.blt m 233 then (1, 13) else (1, 13)) else (bif Nat.blt m 235 then (1, 13) else (bif Nat.blt m 236 then (1, 13) else (1, 13)))) else (bif Nat.blt m 240 then (bif Nat.blt m 238 then (1, 13) else (bif Nat.blt m 239 then (1, 13) else (1, 13))) else (bif Nat.blt m 241 then (1, 13) else (bif Nat.blt m 242 then (1, 13) else (1, 13)))))) else (bif Nat.blt m 254 then (bif Nat.blt m 248 then (bif Nat.blt m 245 then (bif Nat.blt m 244 then (1, 13) else (1, 13)) else (bif Nat.blt m 246 then (1, 13) else (bif Nat.blt m 247 then (1, 13) else (1, 13)))) else (bif Nat.blt m 251 then (bif Nat.blt m 249 then (1, 13) else (bif Nat.blt m 250 then (1, 13) else (1, 13))) else (bif Nat.blt m 252 then (1, 13) else (bif Nat.blt m 253 then (1, 13) else (1, 13))))) else (bif Nat.blt m 259 then (bif Nat.blt m 256 then (bif Nat.blt m 255 then (1, 13) else (1, 13)) else (bif Nat.blt m 257 then (1, 13) else (bif Nat.blt m 258 then (1, 13) else (1, 13)))) else (bif Nat.blt m 262 then (bif Nat.blt m 260 then (1, 13) else (bif Nat.blt m 261 then (1, 13) else (1, 13))) else (bif Nat.blt m 263 then (1, 13) else (bif Nat.blt m 264 then (1, 13) else (1, 13)))))))) else (bif Nat.blt m 309 then (bif Nat.blt m 287 then (bif Nat.blt m 276 then (bif Nat.blt m 270 then (bif Nat.blt m 267 then (bif Nat.blt m 266 then (1, 13) else (1, 13)) else (bif Nat.blt m 268 then (1, 13) else (bif Nat.blt m 269 then (1, 13) else (1, 13)))) else (bif Nat.blt m 273 then (bif Nat.blt m 271 then (1, 13) else (bif Nat.blt m 272 then (1, 13) else (1, 13))) else (bif Nat.blt m 274 then (1, 13) else (bif Nat.blt m 275 then (1, 13) else (1, 13))))) else (bif Nat.blt m 281 then (bif Nat.blt m 278 then (bif Nat.blt m 277 then (1, 13) else (1, 13)) else (bif Nat.blt m 279 then (1, 13) else (bif Nat.blt m 280 then (1, 13) else (1, 13)))) else (bif Nat.blt m 284 then (bif Nat.blt m 282 then (1, 13) else (bif Nat.blt m 283 then (1, 13) else (1, 13))) else (bif Nat.blt m 285 then (1, 13) else (bif Nat.blt m 286 then (1, 13) else (1, 13)))))) else (bif Nat.blt m 298 then (bif Nat.blt m 292 then (bif Nat.blt m 289 then (bif Nat.blt m 288 then (1, 13) else (1, 13)) else (bif Nat.blt m 290 then (1, 13) else (bif Nat.blt m 291 then (1, 13) else (1, 13)))) else (bif Nat.blt m 295 then (bif Nat.blt m 293 then (1, 13) else (bif Nat.blt m 294 then (1, 13) else (1, 13))) else (bif Nat.blt m 296 then (1, 13) else (bif Nat.blt m 297 then (1, 13) else (1, 13))))) else (bif Nat.blt m 303 then (bif Nat.blt m 300 then (bif Nat.blt m 299 then (1, 13) else (1, 13)) else (bif Nat.blt m 301 then (1, 13) else (bif Nat.blt m 302 then (1, 13) else (1, 13)))) else (bif Nat.blt m 306 then (bif Nat.blt m 304 then (1, 13) else (bif Nat.blt m 305 then (1, 13) else (1, 13))) else (bif Nat.blt m 307 then (1, 13) else (bif Nat.blt m 308 then (1, 13) else (1, 13))))))) else (bif Nat.blt m 331 then (bif Nat.blt m 320 then (bif Nat.blt m 314 then (bif Nat.blt m 311 then (bif Nat.blt m 310 then (1, 13) else (1, 13)) else (bif Nat.blt m 312 then (1, 13) else (bif Nat.blt m 313 then (1, 13) else (1, 13)))) else (bif Nat.blt m 317 then (bif Nat.blt m 315 then (1, 13) else (bif Nat.blt m 316 then (1, 13) else (1, 13))) else (bif Nat.blt m 318 then (1, 27) else (bif Nat.blt m 319 then (1, 27) else (1, 29))))) else (bif Nat.blt m 325 then (bif Nat.blt m 322 then (bif Nat.blt m 321 then (1, 18) else (1, 18)) else (bif Nat.blt m 323 then (1, 0) else (bif Nat.blt m 324 then (1, 0) else (1, 0)))) else (bif Nat.blt m 328 then (bif Nat.blt m 326 then (1, 0) else (bif Nat.blt m 327 then (1, 0) else (1, 0))) else (bif Nat.blt m 329 then (1, 0) else (bif Nat.blt m 330 then (1, 0) else (1, 0)))))) else (bif Nat.blt m 342 then (bif Nat.blt m 336 then (bif Nat.blt m 333 then (bif Nat.blt m 332 then (1, 0) else (1, 0)) else (bif Nat.blt m 334 then (1, 0) else (bif Nat.blt m 335 then (1, 0) else (1, 0)))) else (bif Nat.blt m 339 then (bif Nat.blt m 337 then (1, 0) else (bif Nat.blt m 338 then (1, 0) else (1, 0))) else (bif Nat.blt m 340 then (1, 0) else (bif Nat.blt m 341 then (1, 0) else (1, 0))))) else (bif Nat.blt m 348 then (bif Nat.blt m 345 then (bif Nat.blt m 343 then (1, 0) else (bif Nat.blt m 344 then (1, 0) else (1, 0))) else (bif Nat.blt m 346 then (1, 0) else (bif Nat.blt m 347 then (1, 0) else (1, 0)))) else (bif Nat.blt m 351 then (bif Nat.blt m 349 then (1, 0) else (bif Nat.blt m 350 then (1, 0) else (1, 0))) else (bif Nat.blt m 352 then (1, 0) else (bif Nat.blt m 353 then (1, 0) else (1, 0)))))))))) else (0, 0)
def tb_get (c i : Nat) : Option Jvm.Cond := match c with
  | 0 => (k2_sels lw_privs)[i]?
  | 1 => tables_1_1[i]?
  | 2 => tables_1_2[i]?
  | 3 => tables_1_3[i]?
  | 4 => tables_1_4[i]?
  | 5 => tables_1_5[i]?
  | 6 => tables_1_6[i]?
  | 7 => tables_1_7[i]?
  | 8 => tables_1_8[i]?
  | 9 => tables_1_9[i]?
  | 10 => tables_1_10[i]?
  | _ => none
end
section
/-! the law up to its switch -/
abbrev ea_n (n : Nat) : Int32 := (UInt32.ofNat n).toInt32
abbrev ea_l (n : Nat) : Int64 := Int64.ofNat n
def tb_any : List AI := [ea_any, ea_any, ea_any, ea_any, ea_any, ea_any]
def tb_L : List (Nat × AV) := [(4, .inl (.inl (ea_n 0))), (3, .inr (.inl (some 215))), (2, .inr (.inl (some 190))), (1, .inr (.inl (some 0))), (0, .inr (.inr (.inr true)))]
def tb_C : List AC := [.inr (11, [.inr (.inl (some 1)), .inr (.inl (some 3)), .inr (.inl (some 8)), .inr (.inl (some 13)), .inr (.inl (some 18)), .inr (.inl (some 30)), .inr (.inl (some 42)), .inr (.inl (some 43)), .inr (.inl (some 44)), .inr (.inl (some 166)), .inr (.inl (some 169)), .inr (.inl (some 171)), .inr (.inl (some 173)), .inr (.inl (some 178)), .inl (.inl (ea_n 0)), .inl (.inl (ea_n 4294967295))]), .inr (8, [.inr (.inl (some 2)), .inl (.inl (ea_n 0))]), .inl (0, 400, .inl (.inl (ea_n 0)), []), .inr (9, [.inr (.inl (some 4)), .inr (.inl (some 5)), .inr (.inl (some 6)), .inr (.inl (some 7)), .inl (.inl (ea_n 0)), .inl (.inl (ea_n 0))]), .inl (0, 401, .inl (.inl (ea_n 0)), []), .inl (0, 401, .inl (.inl (ea_n 0)), []), .inl (0, 401, .inl (.inl (ea_n 0)), []), .inl (0, 401, .inl (.inl (ea_n 0)), []), .inr (1, [.inl (.inl (ea_n 0)), .inl (.inl (ea_n 0)), .inl (.inl (ea_n 0)), .inr (.inl (some 9)), .inr (.inl (some 10)), .inr (.inl (some 11)), .inl (.inl (ea_n 0)), .inr (.inl (some 12)), .inl (.inl (ea_n 0))]), .inl (0, 12, .inl (.inl (ea_n 0)), []), .inl (0, 12, .inl (.inl (ea_n 0)), []), .inl (0, 200, .inl (.inl (ea_n 0)), []), .inl (0, 665, .inl (.inl (ea_n 0)), []), .inr (1, [.inl (.inl (ea_n 0)), .inl (.inl (ea_n 0)), .inl (.inl (ea_n 0)), .inr (.inl (some 14)), .inr (.inl (some 15)), .inr (.inl (some 16)), .inl (.inl (ea_n 0)), .inr (.inl (some 17)), .inl (.inl (ea_n 0))]), .inl (0, 12, .inl (.inl (ea_n 0)), []), .inl (0, 12, .inl (.inl (ea_n 0)), []), .inl (0, 200, .inl (.inl (ea_n 0)), []), .inl (0, 665, .inl (.inl (ea_n 0)), []), .inr (10, [.inl (.inl (ea_n 0)), .inl (.inl (ea_n 0)), .inr (.inl (some 19)), .inr (.inl (some 20)), .inr (.inl (some 21)), .inr (.inl (some 22)), .inr (.inl (some 23)), .inr (.inl (some 24)), .inr (.inl (some 25)), .inr (.inl (some 26)), .inr (.inl (some 27)), .inl (.inl (ea_n 100)), .inl (.inl (ea_n 3)), .inl (.inl (ea_n 0)), .inl (.inl (ea_n 1)), .inl (.inl (ea_n 0)), .inl (.inl (ea_n 0)), .inl (.inl (ea_n 0)), .inl (.inl (ea_n 0)), .inr (.inl (some 28))]), .inl (0, 10, .inl (.inl (ea_n 0)), []), .inl (0, 10, .inl (.inl (ea_n 0)), []), .inl (0, 10, .inl (.inl (ea_n 0)), []), .inl (0, 10, .inl (.inl (ea_n 0)), []), .inl (0, 60, .inl (.inl (ea_n 0)), []), .inl (0, 10, .inl (.inl (ea_n 0)), []), .inl (0, 10, .inl (.inl (ea_n 0)), []), .inl (1, 10, .inr (.inr (.inl (some (ea_l 0)))), []), .inl (0, 8, .inl (.inl (ea_n 0)), [(7, .inl (.inl (ea_n 1))), (6, .inl (.inl (ea_n 1))), (5, .inl (.inl (ea_n 1))), (4, .inl (.inl (ea_n 1))), (3, .inl (.inl (ea_n 1))), (2, .inl (.inl (ea_n 1))), (1, .inl (.inl (ea_n 1))), (0, .inl (.inl (ea_n 1)))]), .inr (3, [.inr (.inl (some 29)), .inl (.inl (ea_n 0)), .inl (.inl (ea_n 0))]), .inl (0, 240, .inl (.inl (ea_n 0)), []), .inr (10, [.inl (.inl (ea_n 0)), .inl (.inl (ea_n 0)), .inr (.inl (some 31)), .inr (.inl (some 32)), .inr (.inl (some 33)), .inr (.inl (some 34)), .inr (.inl (some 35)), .inr (.inl (some 36)), .inr (.inl (some 37)), .inr (.inl (some 38)), .inr (.inl (some 39)), .inl (.inl (ea_n 100)), .inl (.inl (ea_n 3)), .inl (.inl (ea_n 0)), .inl (.inl (ea_n 1)), .inl (.inl (ea_n 0)), .inl (.inl (ea_n 0)), .inl (.inl (ea_n 0)), .inl (.inl (ea_n 0)), .inr (.inl (some 40))]), .inl (0, 10, .inl (.inl (ea_n 0)), []), .inl (0, 10, .inl (.inl (ea_n 0)), []), .inl (0, 10, .inl (.inl (ea_n 0)), []), .inl (0, 10, .inl (.inl (ea_n 0)), []), .inl (0, 60, .inl (.inl (ea_n 0)), []), .inl (0, 10, .inl (.inl (ea_n 0)), []), .inl (0, 10, .inl (.inl (ea_n 0)), []), .inl (1, 10, .inr (.inr (.inl (some (ea_l 0)))), []), .inl (0, 8, .inl (.inl (ea_n 0)), [(7, .inl (.inl (ea_n 1))), (6, .inl (.inl (ea_n 1))), (5, .inl (.inl (ea_n 1))), (4, .inl (.inl (ea_n 1))), (3, .inl (.inl (ea_n 1))), (2, .inl (.inl (ea_n 1))), (1, .inl (.inl (ea_n 1))), (0, .inl (.inl (ea_n 1)))]), .inr (3, [.inr (.inl (some 41)), .inl (.inl (ea_n 0)), .inl (.inl (ea_n 0))]), .inl (0, 240, .inl (.inl (ea_n 0)), []), .inr (2, [.inr (.inl (some 3)), .inr (.inl (some 13))]), .inr (7, [.inr (.inl (some 3)), .inr (.inl (some 8)), .inr (.inl (some 30))]), .inr (4, [.inr (.inl (some 45)), .inl (.inl (ea_n 0)), .inl (.inl (ea_n 0))]), .inl (13, 10, .inr (.inl none), [(9, .inr (.inl (some 154))), (8, .inr (.inl (some 142))), (7, .inr (.inl (some 130))), (6, .inr (.inl (some 118))), (5, .inr (.inl (some 106))), (4, .inr (.inl (some 94))), (3, .inr (.inl (some 82))), (2, .inr (.inl (some 70))), (1, .inr (.inl (some 58))), (0, .inr (.inl (some 46)))]), .inr (10, [.inl (.inl (ea_n 0)), .inl (.inl (ea_n 0)), .inr (.inl (some 47)), .inr (.inl (some 48)), .inr (.inl (some 49)), .inr (.inl (some 50)), .inr (.inl (some 51)), .inr (.inl (some 52)), .inr (.inl (some 53)), .inr (.inl (some 54)), .inr (.inl (some 55)), .inl (.inl (ea_n 100)), .inl (.inl (ea_n 3)), .inl (.inl (ea_n 0)), .inl (.inl (ea_n 1)), .inl (.inl (ea_n 0)), .inl (.inl (ea_n 0)), .inl (.inl (ea_n 0)), .inl (.inl (ea_n 0)), .inr (.inl (some 56))]), .inl (0, 10, .inl (.inl (ea_n 0)), []), .inl (0, 10, .inl (.inl (ea_n 0)), []), .inl (0, 10, .inl (.inl (ea_n 0)), []), .inl (0, 10, .inl (.inl (ea_n 0)), []), .inl (0, 60, .inl (.inl (ea_n 0)), []), .inl (0, 10, .inl (.inl (ea_n 0)), []), .inl (0, 10, .inl (.inl (ea_n 0)), []), .inl (1, 10, .inr (.inr (.inl (some (ea_l 0)))), []), .inl (0, 8, .inl (.inl (ea_n 0)), [(7, .inl (.inl (ea_n 1))), (6, .inl (.inl (ea_n 1))), (5, .inl (.inl (ea_n 1))), (4, .inl (.inl (ea_n 1))), (3, .inl (.inl (ea_n 1))), (2, .inl (.inl (ea_n 1))), (1, .inl (.inl (ea_n 1))), (0, .inl (.inl (ea_n 1)))]), .inr (3, [.inr (.inl (some 57)), .inl (.inl (ea_n 0)), .inl (.inl (ea_n 0))]), .inl (0, 240, .inl (.inl (ea_n 0)), []), .inr (10, [.inl (.inl (ea_n 0)), .inl (.inl (ea_n 0)), .inr (.inl (some 59)), .inr (.inl (some 60)), .inr (.inl (some 61)), .inr (.inl (some 62)), .inr (.inl (some 63)), .inr (.inl (some 64)), .inr (.inl (some 65)), .inr (.inl (some 66)), .inr (.inl (some 67)), .inl (.inl (ea_n 100)), .inl (.inl (ea_n 3)), .inl (.inl (ea_n 0)), .inl (.inl (ea_n 1)), .inl (.inl (ea_n 0)), .inl (.inl (ea_n 0)), .inl (.inl (ea_n 0)), .inl (.inl (ea_n 0)), .inr (.inl (some 68))]), .inl (0, 10, .inl (.inl (ea_n 0)), []), .inl (0, 10, .inl (.inl (ea_n 0)), []), .inl (0, 10, .inl (.inl (ea_n 0)), []), .inl (0, 10, .inl (.inl (ea_n 0)), []), .inl (0, 60, .inl (.inl (ea_n 0)), []), .inl (0, 10, .inl (.inl (ea_n 0)), []), .inl (0, 10, .inl (.inl (ea_n 0)), []), .inl (1, 10, .inr (.inr (.inl (some (ea_l 0)))), []), .inl (0, 8, .inl (.inl (ea_n 0)), [(7, .inl (.inl (ea_n 1))), (6, .inl (.inl (ea_n 1))), (5, .inl (.inl (ea_n 1))), (4, .inl (.inl (ea_n 1))), (3, .inl (.inl (ea_n 1))), (2, .inl (.inl (ea_n 1))), (1, .inl (.inl (ea_n 1))), (0, .inl (.inl (ea_n 1)))]), .inr (3, [.inr (.inl (some 69)), .inl (.inl (ea_n 0)), .inl (.inl (ea_n 0))]), .inl (0, 240, .inl (.inl (ea_n 0)), []), .inr (10, [.inl (.inl (ea_n 0)), .inl (.inl (ea_n 0)), .inr (.inl (some 71)), .inr (.inl (some 72)), .inr (.inl (some 73)), .inr (.inl (some 74)), .inr (.inl (some 75)), .inr (.inl (some 76)), .inr (.inl (some 77)), .inr (.inl (some 78)), .inr (.inl (some 79)), .inl (.inl (ea_n 100)), .inl (.inl (ea_n 3)), .inl (.inl (ea_n 0)), .inl (.inl (ea_n 1)), .inl (.inl (ea_n 0)), .inl (.inl (ea_n 0)), .inl (.inl (ea_n 0)), .inl (.inl (ea_n 0)), .inr (.inl (some 80))]), .inl (0, 10, .inl (.inl (ea_n 0)), []), .inl (0, 10, .inl (.inl (ea_n 0)), []), .inl (0, 10, .inl (.inl (ea_n 0)), []), .inl (0, 10, .inl (.inl (ea_n 0)), []), .inl (0, 60, .inl (.inl (ea_n 0)), []), .inl (0, 10, .inl (.inl (ea_n 0)), []), .inl (0, 10, .inl (.inl (ea_n 0)), []), .inl (1, 10, .inr (.inr (.inl (some (ea_l 0)))), []), .inl (0, 8, .inl (.inl (ea_n 0)), [(7, .inl (.inl (ea_n 1))), (6, .inl (.inl (ea_n 1))), (5, .inl (.inl (ea_n 1))), (4, .inl (.inl (ea_n 1))), (3, .inl (.inl (ea_n 1))), (2, .inl (.inl (ea_n 1))), (1, .inl (.inl (ea_n 1))), (0, .inl (.inl (ea_n 1)))]), .inr (3, [.inr (.inl (some 81)), .inl (.inl (ea_n 0)), .inl (.inl (ea_n 0))]), .inl (0, 240, .inl (.inl (ea_n 0)), []), .inr (10, [.inl (.inl (ea_n 0)), .inl (.inl (ea_n 0)), .inr (.inl (some 83)), .inr (.inl (some 84)), .inr (.inl (some 85)), .inr (.inl (some 86)), .inr (.inl (some 87)), .inr (.inl (some 88)), .inr (.inl (some 89)), .inr (.inl (some 90)), .inr (.inl (some 91)), .inl (.inl (ea_n 100)), .inl (.inl (ea_n 3)), .inl (.inl (ea_n 0)), .inl (.inl (ea_n 1)), .inl (.inl (ea_n 0)), .inl (.inl (ea_n 0)), .inl (.inl (ea_n 0)), .inl (.inl (ea_n 0)), .inr (.inl (some 92))]), .inl (0, 10, .inl (.inl (ea_n 0)), []), .inl (0, 10, .inl (.inl (ea_n 0)), []), .inl (0, 10, .inl (.inl (ea_n 0)), []), .inl (0, 10, .inl (.inl (ea_n 0)), []), .inl (0, 60, .inl (.inl (ea_n 0)), []), .inl (0, 10, .inl (.inl (ea_n 0)), []), .inl (0, 10, .inl (.inl (ea_n 0)), []), .inl (1, 10, .inr (.inr (.inl (some (ea_l 0)))), []), .inl (0, 8, .inl (.inl (ea_n 0)), [(7, .inl (.inl (ea_n 1))), (6, .inl (.inl (ea_n 1))), (5, .inl (.inl (ea_n 1))), (4, .inl (.inl (ea_n 1))), (3, .inl (.inl (ea_n 1))), (2, .inl (.inl (ea_n 1))), (1, .inl (.inl (ea_n 1))), (0, .inl (.inl (ea_n 1)))]), .inr (3, [.inr (.inl (some 93)), .inl (.inl (ea_n 0)), .inl (.inl (ea_n 0))]), .inl (0, 240, .inl (.inl (ea_n 0)), []), .inr (10, [.inl (.inl (ea_n 0)), .inl (.inl (ea_n 0)), .inr (.inl (some 95)), .inr (.inl (some 96)), .inr (.inl (some 97)), .inr (.inl (some 98)), .inr (.inl (some 99)), .inr (.inl (some 100)), .inr (.inl (some 101)), .inr (.inl (some 102)), .inr (.inl (some 103)), .inl (.inl (ea_n 100)), .inl (.inl (ea_n 3)), .inl (.inl (ea_n 0)), .inl (.inl (ea_n 1)), .inl (.inl (ea_n 0)), .inl (.inl (ea_n 0)), .inl (.inl (ea_n 0)), .inl (.inl (ea_n 0)), .inr (.inl (some 104))]), .inl (0, 10, .inl (.inl (ea_n 0)), []), .inl (0, 10, .inl (.inl (ea_n 0)), []), .inl (0, 10, .inl (.inl (ea_n 0)), []), .inl (0, 10, .inl (.inl (ea_n 0)), []), .inl (0, 60, .inl (.inl (ea_n 0)), []), .inl (0, 10, .inl (.inl (ea_n 0)), []), .inl (0, 10, .inl (.inl (ea_n 0)), []), .inl (1, 10, .inr (.inr (.inl (some (ea_l 0)))), []), .inl (0, 8, .inl (.inl (ea_n 0)), [(7, .inl (.inl (ea_n 1))), (6, .inl (.inl (ea_n 1))), (5, .inl (.inl (ea_n 1))), (4, .inl (.inl (ea_n 1))), (3, .inl (.inl (ea_n 1))), (2, .inl (.inl (ea_n 1))), (1, .inl (.inl (ea_n 1))), (0, .inl (.inl (ea_n 1)))]), .inr (3, [.inr (.inl (some 105)), .inl (.inl (ea_n 0)), .inl (.inl (ea_n 0))]), .inl (0, 240, .inl (.inl (ea_n 0)), []), .inr (10, [.inl (.inl (ea_n 0)), .inl (.inl (ea_n 0)), .inr (.inl (some 107)), .inr (.inl (some 108)), .inr (.inl (some 109)), .inr (.inl (some 110)), .inr (.inl (some 111)), .inr (.inl (some 112)), .inr (.inl (some 113)), .inr (.inl (some 114)), .inr (.inl (some 115)), .inl (.inl (ea_n 100)), .inl (.inl (ea_n 3)), .inl (.inl (ea_n 0)), .inl (.inl (ea_n 1)), .inl (.inl (ea_n 0)), .inl (.inl (ea_n 0)), .inl (.inl (ea_n 0)), .inl (.inl (ea_n 0)), .inr (.inl (some 116))]), .inl (0, 10, .inl (.inl (ea_n 0)), []), .inl (0, 10, .inl (.inl (ea_n 0)), []), .inl (0, 10, .inl (.inl (ea_n 0)), []), .inl (0, 10, .inl (.inl (ea_n 0)), []), .inl (0, 60, .inl (.inl (ea_n 0)), []), .inl (0, 10, .inl (.inl (ea_n 0)), []), .inl (0, 10, .inl (.inl (ea_n 0)), []), .inl (1, 10, .inr (.inr (.inl (some (ea_l 0)))), []), .inl (0, 8, .inl (.inl (ea_n 0)), [(7, .inl (.inl (ea_n 1))), (6, .inl (.inl (ea_n 1))), (5, .inl (.inl (ea_n 1))), (4, .inl (.inl (ea_n 1))), (3, .inl (.inl (ea_n 1))), (2, .inl (.inl (ea_n 1))), (1, .inl (.inl (ea_n 1))), (0, .inl (.inl (ea_n 1)))]), .inr (3, [.inr (.inl (some 117)), .inl (.inl (ea_n 0)), .inl (.inl (ea_n 0))]), .inl (0, 240, .inl (.inl (ea_n 0)), []), .inr (10, [.inl (.inl (ea_n 0)), .inl (.inl (ea_n 0)), .inr (.inl (some 119)), .inr (.inl (some 120)), .inr (.inl (some 121)), .inr (.inl (some 122)), .inr (.inl (some 123)), .inr (.inl (some 124)), .inr (.inl (some 125)), .inr (.inl (some 126)), .inr (.inl (some 127)), .inl (.inl (ea_n 100)), .inl (.inl (ea_n 3)), .inl (.inl (ea_n 0)), .inl (.inl (ea_n 1)), .inl (.inl (ea_n 0)), .inl (.inl (ea_n 0)), .inl (.inl (ea_n 0)), .inl (.inl (ea_n 0)), .inr (.inl (some 128))]), .inl (0, 10, .inl (.inl (ea_n 0)), []), .inl (0, 10, .inl (.inl (ea_n 0)), []), .inl (0, 10, .inl (.inl (ea_n 0)), []), .inl (0, 10, .inl (.inl (ea_n 0)), []), .inl (0, 60, .inl (.inl (ea_n 0)), []), .inl (0, 10, .inl (.inl (ea_n 0)), []), .inl (0, 10, .inl (.inl (ea_n 0)), []), .inl (1, 10, .inr (.inr (.inl (some (ea_l 0)))), []), .inl (0, 8, .inl (.inl (ea_n 0)), [(7, .inl (.inl (ea_n 1))), (6, .inl (.inl (ea_n 1))), (5, .inl (.inl (ea_n 1))), (4, .inl (.inl (ea_n 1))), (3, .inl (.inl (ea_n 1))), (2, .inl (.inl (ea_n 1))), (1, .inl (.inl (ea_n 1))), (0, .inl (.inl (ea_n 1)))]), .inr (3, [.inr (.inl (some 129)), .inl (.inl (ea_n 0)), .inl (.inl (ea_n 0))]), .inl (0, 240, .inl (.inl (ea_n 0)), []), .inr (10, [.inl (.inl (ea_n 0)), .inl (.inl (ea_n 0)), .inr (.inl (some 131)), .inr (.inl (some 132)), .inr (.inl (some 133)), .inr (.inl (some 134)), .inr (.inl (some 135)), .inr (.inl (some 136)), .inr (.inl (some 137)), .inr (.inl (some 138)), .inr (.inl (some 139)), .inl (.inl (ea_n 100)), .inl (.inl (ea_n 3)), .inl (.inl (ea_n 0)), .inl (.inl (ea_n 1)), .inl (.inl (ea_n 0)), .inl (.inl (ea_n 0)), .inl (.inl (ea_n 0)), .inl (.inl (ea_n 0)), .inr (.inl (some 140))]), .inl (0, 10, .inl (.inl (ea_n 0)), []), .inl (0, 10, .inl (.inl (ea_n 0)), []), .inl (0, 10, .inl (.inl (ea_n 0)), []), .inl (0, 10, .inl (.inl (ea_n 0)), []), .inl (0, 60, .inl (.inl (ea_n 0)), []), .inl (0, 10, .inl (.inl (ea_n 0)), []), .inl (0, 10, .inl (.inl (ea_n 0)), []), .inl (1, 10, .inr (.inr (.inl (some (ea_l 0)))), []), .inl (0, 8, .inl (.inl (ea_n 0)), [(7, .inl (.inl (ea_n 1))), (6, .inl (.inl (ea_n 1))), (5, .inl (.inl (ea_n 1))), (4, .inl (.inl (ea_n 1))), (3, .inl (.inl (ea_n 1))), (2, .inl (.inl (ea_n 1))), (1, .inl (.inl (ea_n 1))), (0, .inl (.inl (ea_n 1)))]), .inr (3, [.inr (.inl (some 141)), .inl (.inl (ea_n 0)), .inl (.inl (ea_n 0))]), .inl (0, 240, .inl (.inl (ea_n 0)), []), .inr (10, [.inl (.inl (ea_n 0)), .inl (.inl (ea_n 0)), .inr (.inl (some 143)), .inr (.inl (some 144)), .inr (.inl (some 145)), .inr (.inl (some 146)), .inr (.inl (some 147)), .inr (.inl (some 148)), .inr (.inl (some 149)), .inr (.inl (some 150)), .inr (.inl (some 151)), .inl (.inl (ea_n 100)), .inl (.inl (ea_n 3)), .inl (.inl (ea_n 0)), .inl (.inl (ea_n 1)), .inl (.inl (ea_n 0)), .inl (.inl (ea_n 0)), .inl (.inl (ea_n 0)), .inl (.inl (ea_n 0)), .inr (.inl (some 152))]), .inl (0, 10, .inl (.inl (ea_n 0)), []), .inl (0, 10, .inl (.inl (ea_n 0)), []), .inl (0, 10, .inl (.inl (ea_n 0)), []), .inl (0, 10, .inl (.inl (ea_n 0)), []), .inl (0, 60, .inl (.inl (ea_n 0)), []), .inl (0, 10, .inl (.inl (ea_n 0)), []), .inl (0, 10, .inl (.inl (ea_n 0)), []), .inl (1, 10, .inr (.inr (.inl (some (ea_l 0)))), []), .inl (0, 8, .inl (.inl (ea_n 0)), [(7, .inl (.inl (ea_n 1))), (6, .inl (.inl (ea_n 1))), (5, .inl (.inl (ea_n 1))), (4, .inl (.inl (ea_n 1))), (3, .inl (.inl (ea_n 1))), (2, .inl (.inl (ea_n 1))), (1, .inl (.inl (ea_n 1))), (0, .inl (.inl (ea_n 1)))]), .inr (3, [.inr (.inl (some 153)), .inl (.inl (ea_n 0)), .inl (.inl (ea_n 0))]), .inl (0, 240, .inl (.inl (ea_n 0)), []), .inr (10, [.inl (.inl (ea_n 0)), .inl (.inl (ea_n 0)), .inr (.inl (some 155)), .inr (.inl (some 156)), .inr (.inl (some 157)), .inr (.inl (some 158)), .inr (.inl (some 159)), .inr (.inl (some 160)), .inr (.inl (some 161)), .inr (.inl (some 162)), .inr (.inl (some 163)), .inl (.inl (ea_n 100)), .inl (.inl (ea_n 3)), .inl (.inl (ea_n 0)), .inl (.inl (ea_n 1)), .inl (.inl (ea_n 0)), .inl (.inl (ea_n 0)), .inl (.inl (ea_n 0)), .inl (.inl (ea_n 0)), .inr (.inl (some 164))]), .inl (0, 10, .inl (.inl (ea_n 0)), []), .inl (0, 10, .inl (.inl (ea_n 0)), []), .inl (0, 10, .inl (.inl (ea_n 0)), []), .inl (0, 10, .inl (.inl (ea_n 0)), []), .inl (0, 60, .inl (.inl (ea_n 0)), []), .inl (0, 10, .inl (.inl (ea_n 0)), []), .inl (0, 10, .inl (.inl (ea_n 0)), []), .inl (1, 10, .inr (.inr (.inl (some (ea_l 0)))), []), .inl (0, 8, .inl (.inl (ea_n 0)), [(7, .inl (.inl (ea_n 1))), (6, .inl (.inl (ea_n 1))), (5, .inl (.inl (ea_n 1))), (4, .inl (.inl (ea_n 1))), (3, .inl (.inl (ea_n 1))), (2, .inl (.inl (ea_n 1))), (1, .inl (.inl (ea_n 1))), (0, .inl (.inl (ea_n 1)))]), .inr (3, [.inr (.inl (some 165)), .inl (.inl (ea_n 0)), .inl (.inl (ea_n 0))]), .inl (0, 240, .inl (.inl (ea_n 0)), []), .inr (6, [.inr (.inl (some 8)), .inr (.inl (some 18)), .inr (.inl (some 167)), .inl (.inl (ea_n 0)), .inl (.inl (ea_n 0)), .inr (.inl (some 168)), .inl (.inl (ea_n 0)), .inl (.inl (ea_n 0)), .inl (.inl (ea_n 0))]), .inl (0, 133, .inl (.inl (ea_n 0)), []), .inl (0, 4096, .inl (.inl (ea_n 0)), []), .inr (5, [.inr (.inl (some 8)), .inr (.inl (some 18)), .inr (.inl (some 170)), .inl (.inl (ea_n 0)), .inl (.inl (ea_n 0))]), .inl (0, 60, .inl (.inl (ea_n 0)), []), .inr (0, [.inr (.inl (some 8)), .inr (.inl (some 18)), .inr (.inl (some 172))]), .inl (0, 12, .inl (.inl (ea_n 0)), []), .inr (1, [.inl (.inl (ea_n 0)), .inl (.inl (ea_n 0)), .inl (.inl (ea_n 0)), .inr (.inl (some 174)), .inr (.inl (some 175)), .inr (.inl (some 176)), .inl (.inl (ea_n 0)), .inr (.inl (some 177)), .inl (.inl (ea_n 0))]), .inl (0, 12, .inl (.inl (ea_n 0)), []), .inl (0, 12, .inl (.inl (ea_n 0)), []), .inl (0, 200, .inl (.inl (ea_n 0)), []), .inl (0, 665, .inl (.inl (ea_n 0)), []), .inr (10, [.inl (.inl (ea_n 0)), .inl (.inl (ea_n 0)), .inr (.inl (some 179)), .inr (.inl (some 180)), .inr (.inl (some 181)), .inr (.inl (some 182)), .inr (.inl (some 183)), .inr (.inl (some 184)), .inr (.inl (some 185)), .inr (.inl (some 186)), .inr (.inl (some 187)), .inl (.inl (ea_n 100)), .inl (.inl (ea_n 3)), .inl (.inl (ea_n 0)), .inl (.inl (ea_n 1)), .inl (.inl (ea_n 0)), .inl (.inl (ea_n 0)), .inl (.inl (ea_n 0)), .inl (.inl (ea_n 0)), .inr (.inl (some 188))]), .inl (0, 10, .inl (.inl (ea_n 0)), []), .inl (0, 10, .inl (.inl (ea_n 0)), []), .inl (0, 10, .inl (.inl (ea_n 0)), []), .inl (0, 10, .inl (.inl (ea_n 0)), []), .inl (0, 60, .inl (.inl (ea_n 0)), []), .inl (0, 10, .inl (.inl (ea_n 0)), []), .inl (0, 10, .inl (.inl (ea_n 0)), []), .inl (1, 10, .inr (.inr (.inl (some (ea_l 0)))), []), .inl (0, 8, .inl (.inl (ea_n 0)), [(7, .inl (.inl (ea_n 1))), (6, .inl (.inl (ea_n 1))), (5, .inl (.inl (ea_n 1))), (4, .inl (.inl (ea_n 1))), (3, .inl (.inl (ea_n 1))), (2, .inl (.inl (ea_n 1))), (1, .inl (.inl (ea_n 1))), (0, .inl (.inl (ea_n 1)))]), .inr (3, [.inr (.inl (some 189)), .inl (.inl (ea_n 0)), .inl (.inl (ea_n 0))]), .inl (0, 240, .inl (.inl (ea_n 0)), []), .inr (12, [.inl (.inl (ea_n 0)), .inr (.inl (some 191)), .inr (.inl (some 192)), .inr (.inl (some 193)), .inr (.inl (some 194)), .inr (.inl (some 195)), .inr (.inl (some 196)), .inr (.inl (some 197)), .inr (.inl (some 198)), .inr (.inl (some 199)), .inr (.inl (some 200)), .inl (.inl (ea_n 0)), .inl (.inl (ea_n 0)), .inr (.inl (some 201)), .inr (.inl (some 202)), .inl (.inl (ea_n 4294967295)), .inl (.inl (ea_n 4294967295)), .inr (.inl (some 203)), .inl (.inl (ea_n 0)), .inl (.inl (ea_n 0)), .inl (.inl (ea_n 0)), .inl (.inl (ea_n 0)), .inl (.inl (ea_n 0)), .inl (.inl (ea_n 4294967295)), .inr (.inl (some 204)), .inl (.inl (ea_n 0)), .inr (.inl (some 205)), .inr (.inl (some 206)), .inr (.inl (some 207)), .inl (.inl (ea_n 0)), .inl (.inl (ea_n 0)), .inr (.inl (some 208)), .inr (.inl (some 209)), .inr (.inl (some 210)), .inr (.inl (some 211)), .inr (.inl (some 212)), .inr (.inl (some 213)), .inr (.inl (some 214))]), .inl (0, 388, .inl (.inl (ea_n 0)), [(17, .inl (.inl (ea_n 1))), (16, .inl (.inl (ea_n 1))), (15, .inl (.inl (ea_n 1))), (14, .inl (.inl (ea_n 1))), (13, .inl (.inl (ea_n 1))), (12, .inl (.inl (ea_n 1))), (11, .inl (.inl (ea_n 1))), (10, .inl (.inl (ea_n 1))), (9, .inl (.inl (ea_n 1))), (8, .inl (.inl (ea_n 3))), (7, .inl (.inl (ea_n 100)))]), .inl (0, 388, .inl (.inl (ea_n 0)), []), .inl (0, 388, .inl (.inl (ea_n 0)), []), .inl (0, 388, .inl (.inl (ea_n 0)), []), .inl (0, 3880, .inl (.inl (ea_n 0)), []), .inl (1, 10, .inr (.inr (.inl (some (ea_l 0)))), []), .inl (1, 10, .inr (.inr (.inl (some (ea_l 0)))), []), .inl (1, 10, .inr (.inr (.inl (some (ea_l 0)))), []), .inl (1, 10, .inr (.inr (.inl (some (ea_l 0)))), []), .inl (1, 100, .inr (.inr (.inl (some (ea_l 0)))), []), .inl (0, 48, .inl (.inl (ea_n 0)), []), .inl (0, 800, .inl (.inl (ea_n 0)), []), .inl (2, 400, .inl (.inl (ea_n 0)), []), .inl (0, 5, .inl (.inl (ea_n 0)), []), .inl (0, 48, .inl (.inl (ea_n 0)), []), .inl (0, 800, .inl (.inl (ea_n 0)), []), .inl (0, 400, .inl (.inl (ea_n 0)), []), .inl (0, 12, .inl (.inl (ea_n 0)), []), .inl (0, 400, .inl (.inl (ea_n 0)), []), .inl (0, 64, .inl (.inl (ea_n 0)), []), .inl (0, 64, .inl (.inl (ea_n 0)), []), .inl (0, 8, .inl (.inl (ea_n 0)), []), .inl (1, 10, .inr (.inr (.inl (some (ea_l 0)))), []), .inl (1, 10, .inr (.inr (.inl (some (ea_l 0)))), []), .inl (1, 1, .inr (.inr (.inl (some (ea_l 0)))), [])]
def tb_st : AF := (40, tb_L, [.inl ea_any], tb_C, 216, 22951)
end
section
/-! THE SAME MACHINE, MADE FOR THE KERNEL: known ints are numbers, cells stand in a tree, each instruction is a constant of its own -/
abbrev FV : Type := Nat ⊕ (Nat ⊕ AV)
abbrev FL : Type := List (Nat × FV)
abbrev A0 : Type := Option FV
abbrev A1 : Type := A0 × A0
abbrev A2 : Type := A1 × A1
abbrev A3 : Type := A2 × A2
abbrev A4 : Type := A3 × A3
abbrev A5 : Type := A4 × A4
abbrev A6 : Type := A5 × A5
abbrev A7 : Type := A6 × A6
abbrev A8 : Type := A7 × A7
abbrev A9 : Type := A8 × A8
abbrev A10 : Type := A9 × A9
abbrev A11 : Type := A10 × A10
abbrev A12 : Type := A11 × A11
noncomputable def ag0 (t : A0) (_ : Nat) : Option (FV) := t
noncomputable def ag1 (t : A1) (i : Nat) : Option (FV) := @Prod.rec A0 A0 (fun _ => Option (FV)) (fun a b => @Bool.rec (fun _ => Option (FV)) (ag0 a i) (ag0 b (Nat.sub i 1)) (Nat.ble 1 i)) t
noncomputable def ag2 (t : A2) (i : Nat) : Option (FV) := @Prod.rec A1 A1 (fun _ => Option (FV)) (fun a b => @Bool.rec (fun _ => Option (FV)) (ag1 a i) (ag1 b (Nat.sub i 2)) (Nat.ble 2 i)) t
noncomputable def ag3 (t : A3) (i : Nat) : Option (FV) := @Prod.rec A2 A2 (fun _ => Option (FV)) (fun a b => @Bool.rec (fun _ => Option (FV)) (ag2 a i) (ag2 b (Nat.sub i 4)) (Nat.ble 4 i)) t
noncomputable def ag4 (t : A4) (i : Nat) : Option (FV) := @Prod.rec A3 A3 (fun _ => Option (FV)) (fun a b => @Bool.rec (fun _ => Option (FV)) (ag3 a i) (ag3 b (Nat.sub i 8)) (Nat.ble 8 i)) t
noncomputable def ag5 (t : A5) (i : Nat) : Option (FV) := @Prod.rec A4 A4 (fun _ => Option (FV)) (fun a b => @Bool.rec (fun _ => Option (FV)) (ag4 a i) (ag4 b (Nat.sub i 16)) (Nat.ble 16 i)) t
noncomputable def ag6 (t : A6) (i : Nat) : Option (FV) := @Prod.rec A5 A5 (fun _ => Option (FV)) (fun a b => @Bool.rec (fun _ => Option (FV)) (ag5 a i) (ag5 b (Nat.sub i 32)) (Nat.ble 32 i)) t
noncomputable def ag7 (t : A7) (i : Nat) : Option (FV) := @Prod.rec A6 A6 (fun _ => Option (FV)) (fun a b => @Bool.rec (fun _ => Option (FV)) (ag6 a i) (ag6 b (Nat.sub i 64)) (Nat.ble 64 i)) t
noncomputable def ag8 (t : A8) (i : Nat) : Option (FV) := @Prod.rec A7 A7 (fun _ => Option (FV)) (fun a b => @Bool.rec (fun _ => Option (FV)) (ag7 a i) (ag7 b (Nat.sub i 128)) (Nat.ble 128 i)) t
noncomputable def ag9 (t : A9) (i : Nat) : Option (FV) := @Prod.rec A8 A8 (fun _ => Option (FV)) (fun a b => @Bool.rec (fun _ => Option (FV)) (ag8 a i) (ag8 b (Nat.sub i 256)) (Nat.ble 256 i)) t
noncomputable def ag10 (t : A10) (i : Nat) : Option (FV) := @Prod.rec A9 A9 (fun _ => Option (FV)) (fun a b => @Bool.rec (fun _ => Option (FV)) (ag9 a i) (ag9 b (Nat.sub i 512)) (Nat.ble 512 i)) t
noncomputable def ag11 (t : A11) (i : Nat) : Option (FV) := @Prod.rec A10 A10 (fun _ => Option (FV)) (fun a b => @Bool.rec (fun _ => Option (FV)) (ag10 a i) (ag10 b (Nat.sub i 1024)) (Nat.ble 1024 i)) t
noncomputable def ag12 (t : A12) (i : Nat) : Option (FV) := @Prod.rec A11 A11 (fun _ => Option (FV)) (fun a b => @Bool.rec (fun _ => Option (FV)) (ag11 a i) (ag11 b (Nat.sub i 2048)) (Nat.ble 2048 i)) t
abbrev FC : Type := (Nat × Nat × FV × A12) ⊕ (Nat × List FV)
abbrev T0 : Type := Option FC
abbrev T1 : Type := T0 × T0
abbrev T2 : Type := T1 × T1
abbrev T3 : Type := T2 × T2
abbrev T4 : Type := T3 × T3
abbrev T5 : Type := T4 × T4
abbrev T6 : Type := T5 × T5
abbrev T7 : Type := T6 × T6
abbrev T8 : Type := T7 × T7
noncomputable def fg0 (t : T0) (_ : Nat) : Option (FC) := t
noncomputable def fg1 (t : T1) (i : Nat) : Option (FC) := @Prod.rec T0 T0 (fun _ => Option (FC)) (fun a b => @Bool.rec (fun _ => Option (FC)) (fg0 a i) (fg0 b (Nat.sub i 1)) (Nat.ble 1 i)) t
noncomputable def fg2 (t : T2) (i : Nat) : Option (FC) := @Prod.rec T1 T1 (fun _ => Option (FC)) (fun a b => @Bool.rec (fun _ => Option (FC)) (fg1 a i) (fg1 b (Nat.sub i 2)) (Nat.ble 2 i)) t
noncomputable def fg3 (t : T3) (i : Nat) : Option (FC) := @Prod.rec T2 T2 (fun _ => Option (FC)) (fun a b => @Bool.rec (fun _ => Option (FC)) (fg2 a i) (fg2 b (Nat.sub i 4)) (Nat.ble 4 i)) t
noncomputable def fg4 (t : T4) (i : Nat) : Option (FC) := @Prod.rec T3 T3 (fun _ => Option (FC)) (fun a b => @Bool.rec (fun _ => Option (FC)) (fg3 a i) (fg3 b (Nat.sub i 8)) (Nat.ble 8 i)) t
noncomputable def fg5 (t : T5) (i : Nat) : Option (FC) := @Prod.rec T4 T4 (fun _ => Option (FC)) (fun a b => @Bool.rec (fun _ => Option (FC)) (fg4 a i) (fg4 b (Nat.sub i 16)) (Nat.ble 16 i)) t
noncomputable def fg6 (t : T6) (i : Nat) : Option (FC) := @Prod.rec T5 T5 (fun _ => Option (FC)) (fun a b => @Bool.rec (fun _ => Option (FC)) (fg5 a i) (fg5 b (Nat.sub i 32)) (Nat.ble 32 i)) t
noncomputable def fg7 (t : T7) (i : Nat) : Option (FC) := @Prod.rec T6 T6 (fun _ => Option (FC)) (fun a b => @Bool.rec (fun _ => Option (FC)) (fg6 a i) (fg6 b (Nat.sub i 64)) (Nat.ble 64 i)) t
noncomputable def fg8 (t : T8) (i : Nat) : Option (FC) := @Prod.rec T7 T7 (fun _ => Option (FC)) (fun a b => @Bool.rec (fun _ => Option (FC)) (fg7 a i) (fg7 b (Nat.sub i 128)) (Nat.ble 128 i)) t
abbrev FH : Type := T8 × Nat × Nat
abbrev FR : Type := (Option FV ⊕ Nat) × FH
noncomputable def as0 (_ : A0) (_ : Nat) (c : FV) (K : A0 → Option FR) : Option FR := K (some c)
noncomputable def as1 (t : A1) (i : Nat) (c : FV) (K : A1 → Option FR) : Option FR := @Prod.rec A0 A0 (fun _ => Option FR) (fun a b => @Bool.rec (fun _ => Option FR) (as0 a i c (fun a => K (a, b))) (as0 b (Nat.sub i 1) c (fun b => K (a, b))) (Nat.ble 1 i)) t
noncomputable def as2 (t : A2) (i : Nat) (c : FV) (K : A2 → Option FR) : Option FR := @Prod.rec A1 A1 (fun _ => Option FR) (fun a b => @Bool.rec (fun _ => Option FR) (as1 a i c (fun a => K (a, b))) (as1 b (Nat.sub i 2) c (fun b => K (a, b))) (Nat.ble 2 i)) t
noncomputable def as3 (t : A3) (i : Nat) (c : FV) (K : A3 → Option FR) : Option FR := @Prod.rec A2 A2 (fun _ => Option FR) (fun a b => @Bool.rec (fun _ => Option FR) (as2 a i c (fun a => K (a, b))) (as2 b (Nat.sub i 4) c (fun b => K (a, b))) (Nat.ble 4 i)) t
noncomputable def as4 (t : A4) (i : Nat) (c : FV) (K : A4 → Option FR) : Option FR := @Prod.rec A3 A3 (fun _ => Option FR) (fun a b => @Bool.rec (fun _ => Option FR) (as3 a i c (fun a => K (a, b))) (as3 b (Nat.sub i 8) c (fun b => K (a, b))) (Nat.ble 8 i)) t
noncomputable def as5 (t : A5) (i : Nat) (c : FV) (K : A5 → Option FR) : Option FR := @Prod.rec A4 A4 (fun _ => Option FR) (fun a b => @Bool.rec (fun _ => Option FR) (as4 a i c (fun a => K (a, b))) (as4 b (Nat.sub i 16) c (fun b => K (a, b))) (Nat.ble 16 i)) t
noncomputable def as6 (t : A6) (i : Nat) (c : FV) (K : A6 → Option FR) : Option FR := @Prod.rec A5 A5 (fun _ => Option FR) (fun a b => @Bool.rec (fun _ => Option FR) (as5 a i c (fun a => K (a, b))) (as5 b (Nat.sub i 32) c (fun b => K (a, b))) (Nat.ble 32 i)) t
noncomputable def as7 (t : A7) (i : Nat) (c : FV) (K : A7 → Option FR) : Option FR := @Prod.rec A6 A6 (fun _ => Option FR) (fun a b => @Bool.rec (fun _ => Option FR) (as6 a i c (fun a => K (a, b))) (as6 b (Nat.sub i 64) c (fun b => K (a, b))) (Nat.ble 64 i)) t
noncomputable def as8 (t : A8) (i : Nat) (c : FV) (K : A8 → Option FR) : Option FR := @Prod.rec A7 A7 (fun _ => Option FR) (fun a b => @Bool.rec (fun _ => Option FR) (as7 a i c (fun a => K (a, b))) (as7 b (Nat.sub i 128) c (fun b => K (a, b))) (Nat.ble 128 i)) t
noncomputable def as9 (t : A9) (i : Nat) (c : FV) (K : A9 → Option FR) : Option FR := @Prod.rec A8 A8 (fun _ => Option FR) (fun a b => @Bool.rec (fun _ => Option FR) (as8 a i c (fun a => K (a, b))) (as8 b (Nat.sub i 256) c (fun b => K (a, b))) (Nat.ble 256 i)) t
noncomputable def as10 (t : A10) (i : Nat) (c : FV) (K : A10 → Option FR) : Option FR := @Prod.rec A9 A9 (fun _ => Option FR) (fun a b => @Bool.rec (fun _ => Option FR) (as9 a i c (fun a => K (a, b))) (as9 b (Nat.sub i 512) c (fun b => K (a, b))) (Nat.ble 512 i)) t
noncomputable def as11 (t : A11) (i : Nat) (c : FV) (K : A11 → Option FR) : Option FR := @Prod.rec A10 A10 (fun _ => Option FR) (fun a b => @Bool.rec (fun _ => Option FR) (as10 a i c (fun a => K (a, b))) (as10 b (Nat.sub i 1024) c (fun b => K (a, b))) (Nat.ble 1024 i)) t
noncomputable def as12 (t : A12) (i : Nat) (c : FV) (K : A12 → Option FR) : Option FR := @Prod.rec A11 A11 (fun _ => Option FR) (fun a b => @Bool.rec (fun _ => Option FR) (as11 a i c (fun a => K (a, b))) (as11 b (Nat.sub i 2048) c (fun b => K (a, b))) (Nat.ble 2048 i)) t
noncomputable def fs0 (_ : T0) (_ : Nat) (c : FC) (K : T0 → Option FR) : Option FR := K (some c)
noncomputable def fs1 (t : T1) (i : Nat) (c : FC) (K : T1 → Option FR) : Option FR := @Prod.rec T0 T0 (fun _ => Option FR) (fun a b => @Bool.rec (fun _ => Option FR) (fs0 a i c (fun a => K (a, b))) (fs0 b (Nat.sub i 1) c (fun b => K (a, b))) (Nat.ble 1 i)) t
noncomputable def fs2 (t : T2) (i : Nat) (c : FC) (K : T2 → Option FR) : Option FR := @Prod.rec T1 T1 (fun _ => Option FR) (fun a b => @Bool.rec (fun _ => Option FR) (fs1 a i c (fun a => K (a, b))) (fs1 b (Nat.sub i 2) c (fun b => K (a, b))) (Nat.ble 2 i)) t
noncomputable def fs3 (t : T3) (i : Nat) (c : FC) (K : T3 → Option FR) : Option FR := @Prod.rec T2 T2 (fun _ => Option FR) (fun a b => @Bool.rec (fun _ => Option FR) (fs2 a i c (fun a => K (a, b))) (fs2 b (Nat.sub i 4) c (fun b => K (a, b))) (Nat.ble 4 i)) t
noncomputable def fs4 (t : T4) (i : Nat) (c : FC) (K : T4 → Option FR) : Option FR := @Prod.rec T3 T3 (fun _ => Option FR) (fun a b => @Bool.rec (fun _ => Option FR) (fs3 a i c (fun a => K (a, b))) (fs3 b (Nat.sub i 8) c (fun b => K (a, b))) (Nat.ble 8 i)) t
noncomputable def fs5 (t : T5) (i : Nat) (c : FC) (K : T5 → Option FR) : Option FR := @Prod.rec T4 T4 (fun _ => Option FR) (fun a b => @Bool.rec (fun _ => Option FR) (fs4 a i c (fun a => K (a, b))) (fs4 b (Nat.sub i 16) c (fun b => K (a, b))) (Nat.ble 16 i)) t
noncomputable def fs6 (t : T6) (i : Nat) (c : FC) (K : T6 → Option FR) : Option FR := @Prod.rec T5 T5 (fun _ => Option FR) (fun a b => @Bool.rec (fun _ => Option FR) (fs5 a i c (fun a => K (a, b))) (fs5 b (Nat.sub i 32) c (fun b => K (a, b))) (Nat.ble 32 i)) t
noncomputable def fs7 (t : T7) (i : Nat) (c : FC) (K : T7 → Option FR) : Option FR := @Prod.rec T6 T6 (fun _ => Option FR) (fun a b => @Bool.rec (fun _ => Option FR) (fs6 a i c (fun a => K (a, b))) (fs6 b (Nat.sub i 64) c (fun b => K (a, b))) (Nat.ble 64 i)) t
noncomputable def fs8 (t : T8) (i : Nat) (c : FC) (K : T8 → Option FR) : Option FR := @Prod.rec T7 T7 (fun _ => Option FR) (fun a b => @Bool.rec (fun _ => Option FR) (fs7 a i c (fun a => K (a, b))) (fs7 b (Nat.sub i 128) c (fun b => K (a, b))) (Nat.ble 128 i)) t
def ae0 : A0 := none
def ae1 : A1 := (ae0, ae0)
def ae2 : A2 := (ae1, ae1)
def ae3 : A3 := (ae2, ae2)
def ae4 : A4 := (ae3, ae3)
def ae5 : A5 := (ae4, ae4)
def ae6 : A6 := (ae5, ae5)
def ae7 : A7 := (ae6, ae6)
def ae8 : A8 := (ae7, ae7)
def ae9 : A9 := (ae8, ae8)
def ae10 : A10 := (ae9, ae9)
def ae11 : A11 := (ae10, ae10)
def ae12 : A12 := (ae11, ae11)
noncomputable def fg (t : T8) (i : Nat) : Option FC := @Bool.rec (fun _ => Option FC) (fg8 t i) none (Nat.ble 256 i)
noncomputable def fN (n : Nat) (k : Nat → Option FR) : Option FR := @Nat.rec (fun _ => Option FR) (k 0) (fun m _ => k (Nat.succ m)) n
abbrev FIH : Type := Nat → Nat → FL → List FV → FH → Option FR
/-- an instruction: the method, the place, the next place, the branch's, locals, stack, cells with what was made, how it goes on -/
abbrev FOp : Type := Nat → Nat → Nat → Nat → FL → List FV → FH → FIH → Option FR
def fp_pl (m x : Nat) : Option (Nat × Nat × Nat) := ep_pl (tb_P none) m x
def fp_nl (m : Nat) : Nat := ep_nls (tb_P none) m
def fp_dep (m : Nat) : Nat := ep_dep (tb_P none) m
def fp_rtp (m : Nat) : Nat := ep_rtp (tb_P none) m
def fp_own (m : Nat) : Nat := ep_own (tb_P none) m
def fp_hd (m ce pc : Nat) : Option Nat := ea_hd (ep_sub (tb_P none)) ce pc (ep_hdl (tb_P none) m)
def fp_rd (m x : Nat) : Option (Nat × Nat) := ea_rd (ep_pl (tb_P none) m x)
def fp_wr (m x : Nat) : Option (Nat × Nat) := ea_wr (ep_ini (tb_P none) m) (ep_pl (tb_P none) m x)
def fp_fty (c f : Nat) : Nat := ep_fty (tb_P none) c f
def fp_tw (m pc : Nat) : Option Nat := ea_tw (tb_P none) m pc
def fv (v : FV) : AV := match v with
  | .inl n => .inl (.inl (ea_n n))
  | .inr (.inl k) => .inr (.inl (some k))
  | .inr (.inr a) => a
def fl (q : Nat × FV) : Nat × AV := (q.1, fv q.2)
/-- back, forced -/
noncomputable def fvb (a : AV) (K : FV → Option FR) : Option FR := match a with
  | .inl (.inl x) => fN x.toUInt32.toNat (fun n => K (.inl n))
  | .inr (.inl (some k)) => K (.inr (.inl k))
  | a => K (.inr (.inr a))
noncomputable def fSb (S : List AV) (K : List FV → Option FR) : Option FR := List.rec (fun K => K []) (fun a _ ih K => fvb a (fun v => ih (fun t => K (v :: t)))) S K
noncomputable def fLb (L : List (Nat × AV)) (K : FL → Option FR) : Option FR := List.rec (fun K => K []) (fun q _ ih K => fvb q.2 (fun v => ih (fun t => K ((q.1, v) :: t)))) L K
noncomputable def fLk (L : FL) (i : Nat) : Option FV := @List.rec (Nat × FV) (fun _ => Option FV) none (fun q _ ih => @Prod.rec Nat FV (fun _ => Option FV) (fun a b => @Bool.rec (fun _ => Option FV) ih (some b) (Nat.beq a i)) q) L
def fIA (a : AV) : Bool := match a with
  | .inl _ => true
  | _ => false
def fLA (a : AV) : Bool := match a with
  | .inr (.inr (.inl _)) => true
  | _ => false
def fNA (a : AV) : Bool := match a with
  | .inr (.inl _) => true
  | _ => false
noncomputable def fIs (v : FV) : Bool := @Sum.rec Nat (Nat ⊕ AV) (fun _ => Bool) (fun _ => true) (fun u => @Sum.rec Nat AV (fun _ => Bool) (fun _ => false) fIA u) v
noncomputable def fRs (v : FV) : Bool := @Sum.rec Nat (Nat ⊕ AV) (fun _ => Bool) (fun _ => false) (fun u => @Sum.rec Nat AV (fun _ => Bool) (fun _ => true) ea_isr u) v
noncomputable def fRc (u : Nat ⊕ AV) : Bool := @Sum.rec Nat AV (fun _ => Bool) (fun _ => true) (fun _ => false) u
noncomputable def fLs (v : FV) : Bool := @Sum.rec Nat (Nat ⊕ AV) (fun _ => Bool) (fun _ => false) (fun u => @Sum.rec Nat AV (fun _ => Bool) (fun _ => false) fLA u) v
noncomputable def fCat (v : FV) : Nat := @Sum.rec Nat (Nat ⊕ AV) (fun _ => Nat) (fun _ => 1) (fun u => @Sum.rec Nat AV (fun _ => Nat) (fun _ => 1) ea_cat u) v
/-- a local is stored: what stands there goes, and a long of which it is the second half -/
noncomputable def fSt (i : Nat) (L : FL) : (FL → Option FR) → Option FR := @List.rec (Nat × FV) (fun _ => (FL → Option FR) → Option FR) (fun K => K []) (fun q _ ih K => @Prod.rec Nat FV (fun _ => Option FR) (fun a b => @Bool.rec (fun _ => Option FR) (@Bool.rec (fun _ => Option FR) (ih (fun t => K (q :: t))) (@Bool.rec (fun _ => Option FR) (ih (fun t => K (q :: t))) (ih K) (Nat.beq (fCat b) 2)) (Nat.beq (Nat.succ a) i)) (ih K) (Nat.beq a i)) q) L
noncomputable def fZ (z : Int) : Nat := @Int.rec (fun _ => Nat) (fun n => n) (fun n => Nat.sub 4294967295 n) z
noncomputable def fNt (l : List FV) (n : Nat) : Option FV := @List.rec FV (fun _ => Nat → Option FV) (fun _ => none) (fun a _ ih n => @Nat.rec (fun _ => Option FV) (some a) (fun j _ => ih j) n) l n
noncomputable def fAl (d : FV) (us : A12) (j : Nat) : FV := @Option.rec FV (fun _ => FV) d (fun v => v) (ag12 us j)
noncomputable def fSet (v : FV) (l : List FV) : Nat → (List FV → Option FR) → Option FR := @List.rec FV (fun _ => Nat → (List FV → Option FR) → Option FR) (fun _ K => K []) (fun a t ih n K => @Nat.rec (fun _ => Option FR) (K (v :: t)) (fun j _ => ih j (fun t => K (a :: t))) n) l
noncomputable def fLen (l : List FV) : Nat := @List.rec FV (fun _ => Nat) 0 (fun _ _ ih => Nat.succ ih) l
def fany : FV := .inr (.inr (.inl ea_any))
def fSg (n : Nat) : Nat := Nat.mod (Nat.add n 2147483648) 4294967296
noncomputable def fCk (c : Jvm.ClassFile.Cond) (x y : Nat) : Bool := @Jvm.ClassFile.Cond.rec (fun _ => Bool) (Nat.beq (Nat.mod x 4294967296) (Nat.mod y 4294967296)) (@Bool.rec (fun _ => Bool) true false (Nat.beq (Nat.mod x 4294967296) (Nat.mod y 4294967296))) (Nat.ble (Nat.succ (fSg x)) (fSg y)) (Nat.ble (fSg y) (fSg x)) (Nat.ble (Nat.succ (fSg y)) (fSg x)) (Nat.ble (fSg x) (fSg y)) c
noncomputable def fo_no : FOp := fun _ _ _ _ _ _ _ _ => none
/-- by the list machine -/
noncomputable def fo_gen (i : Instr) : FOp := fun m pc _ _ L S h ih => @Option.rec (Nat × List (Nat × AV) × List AV) (fun _ => Option FR) none (fun q => @Prod.rec Nat (List (Nat × AV) × List AV) (fun _ => Option FR) (fun pc q => @Prod.rec (List (Nat × AV)) (List AV) (fun _ => Option FR) (fun L S => fN pc (fun pc => fLb L (fun L => fSb S (fun S => ih m pc L S h)))) q) q) (ea_p i pc (fp_nl m) (L.map fl) (S.map fv))
noncomputable def fo_push (z : Int) : FOp := fun m pc nx tg L S h ih => (fN (fZ z) (fun v => (ih m nx L (.inl v :: S) h)))
noncomputable def fo_ild (g : FOp) (i : Nat) : FOp := fun m pc nx tg L S h ih => (@Option.rec (FV) (fun _ => Option FR) none (fun v => (@Sum.rec Nat (Nat ⊕ AV) (fun _ => Option FR) (fun x => (ih m nx L (.inl x :: S) h)) (fun _ => (g m pc nx tg L S h ih)) v)) (fLk L i))
noncomputable def fo_ald (i : Nat) : FOp := fun m pc nx tg L S h ih => (@Option.rec (FV) (fun _ => Option FR) none (fun v => (@Bool.rec (fun _ => Option FR) none (ih m nx L (v :: S) h) (fRs v))) (fLk L i))
noncomputable def fo_lld (i : Nat) : FOp := fun m pc nx tg L S h ih => (@Option.rec (FV) (fun _ => Option FR) none (fun v => (@Bool.rec (fun _ => Option FR) none (ih m nx L (v :: S) h) (fLs v))) (fLk L i))
noncomputable def fo_ist (i : Nat) : FOp := fun m pc nx tg L S h ih => (@List.rec FV (fun _ => Option FR) none (fun v S _ => (@Bool.rec (fun _ => Option FR) none (@Bool.rec (fun _ => Option FR) none (fSt i L (fun L => (ih m nx ((i, v) :: L) S h))) (Nat.ble (Nat.succ i) (fp_nl m))) (fIs v))) S)
noncomputable def fo_ast (i : Nat) : FOp := fun m pc nx tg L S h ih => (@List.rec FV (fun _ => Option FR) none (fun v S _ => (@Bool.rec (fun _ => Option FR) none (@Bool.rec (fun _ => Option FR) none (fSt i L (fun L => (ih m nx ((i, v) :: L) S h))) (Nat.ble (Nat.succ i) (fp_nl m))) (fRs v))) S)
noncomputable def fo_iinc (i : Nat) (z : Int) : FOp := fun m pc nx tg L S h ih => (@Option.rec (FV) (fun _ => Option FR) none (fun v => (@Sum.rec Nat (Nat ⊕ AV) (fun _ => Option FR) (fun x => (@Bool.rec (fun _ => Option FR) none (fN (Nat.mod (Nat.add x (fZ z)) 4294967296) (fun y => (fSt i L (fun L => (ih m nx ((i, .inl y) :: L) S h))))) (Nat.ble (Nat.succ i) (fp_nl m)))) (fun _ => none) v)) (fLk L i))
noncomputable def fo_bin (g : FOp) (f : Nat → Nat → Nat) : FOp := fun m pc nx tg L S h ih => (@List.rec FV (fun _ => Option FR) none (fun b S1 _ => (@List.rec FV (fun _ => Option FR) none (fun a S2 _ => (@Sum.rec Nat (Nat ⊕ AV) (fun _ => Option FR) (fun x => (@Sum.rec Nat (Nat ⊕ AV) (fun _ => Option FR) (fun y => (fN (f x y) (fun z => (ih m nx L (.inl z :: S2) h)))) (fun _ => (g m pc nx tg L S h ih)) b)) (fun _ => (g m pc nx tg L S h ih)) a)) S1)) S)
noncomputable def fo_un (g : FOp) (f : Nat → Nat) : FOp := fun m pc nx tg L S h ih => (@List.rec FV (fun _ => Option FR) none (fun a S1 _ => (@Sum.rec Nat (Nat ⊕ AV) (fun _ => Option FR) (fun x => (fN (f x) (fun z => (ih m nx L (.inl z :: S1) h)))) (fun _ => (g m pc nx tg L S h ih)) a)) S)
noncomputable def fo_div (g : FOp) (f : Nat → Nat → Nat) : FOp := fun m pc nx tg L S h ih => (@List.rec FV (fun _ => Option FR) none (fun b S1 _ => (@List.rec FV (fun _ => Option FR) none (fun a S2 _ => (@Sum.rec Nat (Nat ⊕ AV) (fun _ => Option FR) (fun x => (@Sum.rec Nat (Nat ⊕ AV) (fun _ => Option FR) (fun y => (@Bool.rec (fun _ => Option FR) none (@Bool.rec (fun _ => Option FR) (g m pc nx tg L S h ih) (@Bool.rec (fun _ => Option FR) (g m pc nx tg L S h ih) (fN (f x y) (fun z => (ih m nx L (.inl z :: S2) h))) (Nat.ble x 2147483647)) (Nat.ble y 2147483647)) (Nat.ble 1 y))) (fun _ => (g m pc nx tg L S h ih)) b)) (fun _ => (g m pc nx tg L S h ih)) a)) S1)) S)
noncomputable def fo_dup : FOp := fun m pc nx tg L S h ih => (@List.rec FV (fun _ => Option FR) none (fun a S1 _ => (@Bool.rec (fun _ => Option FR) none (ih m nx L (a :: S) h) (Nat.beq (fCat a) 1))) S)
noncomputable def fo_pop : FOp := fun m pc nx tg L S h ih => (@List.rec FV (fun _ => Option FR) none (fun a S1 _ => (@Bool.rec (fun _ => Option FR) none (ih m nx L S1 h) (Nat.beq (fCat a) 1))) S)
noncomputable def fo_goto (_ : Int) : FOp := fun m pc nx tg L S h ih => (ih m tg L S h)
noncomputable def fo_if (g : FOp) (c : Jvm.ClassFile.Cond) : FOp := fun m pc nx tg L S h ih => (@List.rec FV (fun _ => Option FR) none (fun a S1 _ => (@Sum.rec Nat (Nat ⊕ AV) (fun _ => Option FR) (fun x => (@Bool.rec (fun _ => Option FR) (ih m nx L S1 h) (ih m tg L S1 h) (fCk c x 0))) (fun _ => (g m pc nx tg L S h ih)) a)) S)
noncomputable def fo_icmp (g : FOp) (c : Jvm.ClassFile.Cond) : FOp := fun m pc nx tg L S h ih => (@List.rec FV (fun _ => Option FR) none (fun b S1 _ => (@List.rec FV (fun _ => Option FR) none (fun a S2 _ => (@Sum.rec Nat (Nat ⊕ AV) (fun _ => Option FR) (fun x => (@Sum.rec Nat (Nat ⊕ AV) (fun _ => Option FR) (fun y => (@Bool.rec (fun _ => Option FR) (ih m nx L S2 h) (ih m tg L S2 h) (fCk c x y))) (fun _ => (g m pc nx tg L S h ih)) b)) (fun _ => (g m pc nx tg L S h ih)) a)) S1)) S)
noncomputable def fo_get (x : Nat) : FOp := fun m pc nx tg L S h ih => (@Option.rec (Nat × Nat) (fun _ => Option FR) none (fun q => (@Prod.rec (Nat) (Nat) (fun _ => Option FR) (fun ci f => (@List.rec FV (fun _ => Option FR) none (fun r S1 _ => (@Sum.rec Nat (Nat ⊕ AV) (fun _ => Option FR) (fun _ => none) (fun u => @Sum.rec Nat AV (fun _ => Option FR) (fun a => (@Prod.rec (T8) (Nat × Nat) (fun _ => Option FR) (fun t kw => (@Option.rec (FC) (fun _ => Option FR) none (fun c => (@Sum.rec (Nat × Nat × FV × A12) (Nat × List FV) (fun _ => Option FR) (fun _ => none) (fun o => (@Prod.rec (Nat) (List FV) (fun _ => Option FR) (fun cj vs => (@Bool.rec (fun _ => Option FR) none (@Option.rec (FV) (fun _ => Option FR) none (fun v => (ih m nx L (v :: S1) h)) (fNt vs f)) (Nat.beq cj ci))) o)) c)) (fg t a))) h)) (fun _ => none) u) r)) S)) q)) (fp_rd m x))
noncomputable def fFit (ty : Nat) (v : FV) : Bool := @Bool.rec (fun _ => Bool) (@Bool.rec (fun _ => Bool) (@Bool.rec (fun _ => Bool) (@Bool.rec (fun _ => Bool) false (fLs v) (Nat.beq ty 1)) (@Sum.rec Nat (Nat ⊕ AV) (fun _ => Bool) (fun x => Nat.ble x 1) (fun _ => false) v) (Nat.beq ty 2)) (@Sum.rec Nat (Nat ⊕ AV) (fun _ => Bool) (fun _ => false) (fun u => @Sum.rec Nat AV (fun _ => Bool) (fun _ => true) fNA u) v) (Nat.beq ty 3)) (fIs v) (Nat.beq ty 0)
noncomputable def fo_put (x : Nat) : FOp := fun m pc nx tg L S h ih => (@Option.rec (Nat × Nat) (fun _ => Option FR) none (fun q => (@Prod.rec (Nat) (Nat) (fun _ => Option FR) (fun ci f => (@List.rec FV (fun _ => Option FR) none (fun v S1 _ => (@List.rec FV (fun _ => Option FR) none (fun r S2 _ => (@Sum.rec Nat (Nat ⊕ AV) (fun _ => Option FR) (fun _ => none) (fun u => @Sum.rec Nat AV (fun _ => Option FR) (fun a => (@Prod.rec (T8) (Nat × Nat) (fun _ => Option FR) (fun t kw => (@Option.rec (FC) (fun _ => Option FR) none (fun c => (@Sum.rec (Nat × Nat × FV × A12) (Nat × List FV) (fun _ => Option FR) (fun _ => none) (fun o => (@Prod.rec (Nat) (List FV) (fun _ => Option FR) (fun cj vs => (@Bool.rec (fun _ => Option FR) none (@Bool.rec (fun _ => Option FR) none (@Bool.rec (fun _ => Option FR) none (fSet v vs f (fun vs => fs8 t a (.inr (ci, vs)) (fun t => (ih m nx L S2 (t, kw))))) (Nat.ble (Nat.succ f) (fLen vs))) (fFit (fp_fty ci f) v)) (Nat.beq cj ci))) o)) c)) (fg t a))) h)) (fun _ => none) u) r)) S1)) S)) q)) (fp_wr m x))
noncomputable def fo_ial : FOp := fun m pc nx tg L S h ih => (@List.rec FV (fun _ => Option FR) none (fun i S1 _ => (@Sum.rec Nat (Nat ⊕ AV) (fun _ => Option FR) (fun j => (@List.rec FV (fun _ => Option FR) none (fun r S2 _ => (@Sum.rec Nat (Nat ⊕ AV) (fun _ => Option FR) (fun _ => none) (fun u => @Sum.rec Nat AV (fun _ => Option FR) (fun a => (@Prod.rec (T8) (Nat × Nat) (fun _ => Option FR) (fun t kw => (@Option.rec (FC) (fun _ => Option FR) none (fun c => (@Sum.rec (Nat × Nat × FV × A12) (Nat × List FV) (fun _ => Option FR) (fun q => (@Prod.rec (Nat) (Nat × FV × A12) (fun _ => Option FR) (fun ty q1 => (@Prod.rec (Nat) (FV × A12) (fun _ => Option FR) (fun n0 q2 => (@Prod.rec (FV) (A12) (fun _ => Option FR) (fun d us => (@Bool.rec (fun _ => Option FR) none (@Bool.rec (fun _ => Option FR) none (@Bool.rec (fun _ => Option FR) none (@Sum.rec Nat (Nat ⊕ AV) (fun _ => Option FR) (fun x => (ih m nx L (.inl x :: S2) h)) (fun _ => (@Bool.rec (fun _ => Option FR) none (ih m nx L (fAl d us j :: S2) h) (fIs (fAl d us j)))) (fAl d us j)) (Nat.ble j 4095)) (Nat.ble (Nat.succ j) n0)) (Nat.beq ty 0))) q2)) q1)) q)) (fun o => none) c)) (fg t a))) h)) (fun _ => none) u) r)) S1)) (fun _ => none) i)) S)
noncomputable def fo_bal : FOp := fun m pc nx tg L S h ih => (@List.rec FV (fun _ => Option FR) none (fun i S1 _ => (@Sum.rec Nat (Nat ⊕ AV) (fun _ => Option FR) (fun j => (@List.rec FV (fun _ => Option FR) none (fun r S2 _ => (@Sum.rec Nat (Nat ⊕ AV) (fun _ => Option FR) (fun _ => none) (fun u => @Sum.rec Nat AV (fun _ => Option FR) (fun a => (@Prod.rec (T8) (Nat × Nat) (fun _ => Option FR) (fun t kw => (@Option.rec (FC) (fun _ => Option FR) none (fun c => (@Sum.rec (Nat × Nat × FV × A12) (Nat × List FV) (fun _ => Option FR) (fun q => (@Prod.rec (Nat) (Nat × FV × A12) (fun _ => Option FR) (fun ty q1 => (@Prod.rec (Nat) (FV × A12) (fun _ => Option FR) (fun n0 q2 => (@Prod.rec (FV) (A12) (fun _ => Option FR) (fun d us => (@Bool.rec (fun _ => Option FR) none (@Bool.rec (fun _ => Option FR) none (@Bool.rec (fun _ => Option FR) none (@Sum.rec Nat (Nat ⊕ AV) (fun _ => Option FR) (fun x => (ih m nx L (.inl x :: S2) h)) (fun _ => (@Bool.rec (fun _ => Option FR) none (ih m nx L (fAl d us j :: S2) h) (fIs (fAl d us j)))) (fAl d us j)) (Nat.ble j 4095)) (Nat.ble (Nat.succ j) n0)) (Nat.beq ty 2))) q2)) q1)) q)) (fun o => none) c)) (fg t a))) h)) (fun _ => none) u) r)) S1)) (fun _ => none) i)) S)
noncomputable def fo_lal : FOp := fun m pc nx tg L S h ih => (@List.rec FV (fun _ => Option FR) none (fun i S1 _ => (@Sum.rec Nat (Nat ⊕ AV) (fun _ => Option FR) (fun j => (@List.rec FV (fun _ => Option FR) none (fun r S2 _ => (@Sum.rec Nat (Nat ⊕ AV) (fun _ => Option FR) (fun _ => none) (fun u => @Sum.rec Nat AV (fun _ => Option FR) (fun a => (@Prod.rec (T8) (Nat × Nat) (fun _ => Option FR) (fun t kw => (@Option.rec (FC) (fun _ => Option FR) none (fun c => (@Sum.rec (Nat × Nat × FV × A12) (Nat × List FV) (fun _ => Option FR) (fun q => (@Prod.rec (Nat) (Nat × FV × A12) (fun _ => Option FR) (fun ty q1 => (@Prod.rec (Nat) (FV × A12) (fun _ => Option FR) (fun n0 q2 => (@Prod.rec (FV) (A12) (fun _ => Option FR) (fun d us => (@Bool.rec (fun _ => Option FR) none (@Bool.rec (fun _ => Option FR) none (@Bool.rec (fun _ => Option FR) none (@Sum.rec Nat (Nat ⊕ AV) (fun _ => Option FR) (fun _ => none) (fun u => (@Bool.rec (fun _ => Option FR) none (ih m nx L (.inr u :: S2) h) (fLs (.inr u)))) (fAl d us j)) (Nat.ble j 4095)) (Nat.ble (Nat.succ j) n0)) (Nat.beq ty 1))) q2)) q1)) q)) (fun o => none) c)) (fg t a))) h)) (fun _ => none) u) r)) S1)) (fun _ => none) i)) S)
noncomputable def fo_aal : FOp := fun m pc nx tg L S h ih => (@List.rec FV (fun _ => Option FR) none (fun i S1 _ => (@Sum.rec Nat (Nat ⊕ AV) (fun _ => Option FR) (fun j => (@List.rec FV (fun _ => Option FR) none (fun r S2 _ => (@Sum.rec Nat (Nat ⊕ AV) (fun _ => Option FR) (fun _ => none) (fun u => @Sum.rec Nat AV (fun _ => Option FR) (fun a => (@Prod.rec (T8) (Nat × Nat) (fun _ => Option FR) (fun t kw => (@Option.rec (FC) (fun _ => Option FR) none (fun c => (@Sum.rec (Nat × Nat × FV × A12) (Nat × List FV) (fun _ => Option FR) (fun q => (@Prod.rec (Nat) (Nat × FV × A12) (fun _ => Option FR) (fun ty q1 => (@Prod.rec (Nat) (FV × A12) (fun _ => Option FR) (fun n0 q2 => (@Prod.rec (FV) (A12) (fun _ => Option FR) (fun d us => (@Bool.rec (fun _ => Option FR) none (@Bool.rec (fun _ => Option FR) none (@Bool.rec (fun _ => Option FR) none (@Sum.rec Nat (Nat ⊕ AV) (fun _ => Option FR) (fun _ => none) (fun u => (@Bool.rec (fun _ => Option FR) none (ih m nx L (.inr u :: S2) h) (fRc u))) (fAl d us j)) (Nat.ble j 4095)) (Nat.ble (Nat.succ j) n0)) (Nat.ble 3 ty))) q2)) q1)) q)) (fun o => none) c)) (fg t a))) h)) (fun _ => none) u) r)) S1)) (fun _ => none) i)) S)
noncomputable def fo_ias : FOp := fun m pc nx tg L S h ih => (@List.rec FV (fun _ => Option FR) none (fun v S0 _ => (@Bool.rec (fun _ => Option FR) none (@List.rec FV (fun _ => Option FR) none (fun i S1 _ => (@Sum.rec Nat (Nat ⊕ AV) (fun _ => Option FR) (fun j => (@List.rec FV (fun _ => Option FR) none (fun r S2 _ => (@Sum.rec Nat (Nat ⊕ AV) (fun _ => Option FR) (fun _ => none) (fun u => @Sum.rec Nat AV (fun _ => Option FR) (fun a => (@Prod.rec (T8) (Nat × Nat) (fun _ => Option FR) (fun t kw => (@Option.rec (FC) (fun _ => Option FR) none (fun c => (@Sum.rec (Nat × Nat × FV × A12) (Nat × List FV) (fun _ => Option FR) (fun q => (@Prod.rec (Nat) (Nat × FV × A12) (fun _ => Option FR) (fun ty q1 => (@Prod.rec (Nat) (FV × A12) (fun _ => Option FR) (fun n0 q2 => (@Prod.rec (FV) (A12) (fun _ => Option FR) (fun d us => (@Bool.rec (fun _ => Option FR) none (@Bool.rec (fun _ => Option FR) none (@Bool.rec (fun _ => Option FR) none (as12 us j v (fun us => fs8 t a (.inl (ty, n0, d, us)) (fun t => (ih m nx L S2 (t, kw))))) (Nat.ble j 4095)) (Nat.ble (Nat.succ j) n0)) (Nat.beq ty 0))) q2)) q1)) q)) (fun o => none) c)) (fg t a))) h)) (fun _ => none) u) r)) S1)) (fun _ => none) i)) S0) (fIs v))) S)
noncomputable def fo_las : FOp := fun m pc nx tg L S h ih => (@List.rec FV (fun _ => Option FR) none (fun v S0 _ => (@Bool.rec (fun _ => Option FR) none (@List.rec FV (fun _ => Option FR) none (fun i S1 _ => (@Sum.rec Nat (Nat ⊕ AV) (fun _ => Option FR) (fun j => (@List.rec FV (fun _ => Option FR) none (fun r S2 _ => (@Sum.rec Nat (Nat ⊕ AV) (fun _ => Option FR) (fun _ => none) (fun u => @Sum.rec Nat AV (fun _ => Option FR) (fun a => (@Prod.rec (T8) (Nat × Nat) (fun _ => Option FR) (fun t kw => (@Option.rec (FC) (fun _ => Option FR) none (fun c => (@Sum.rec (Nat × Nat × FV × A12) (Nat × List FV) (fun _ => Option FR) (fun q => (@Prod.rec (Nat) (Nat × FV × A12) (fun _ => Option FR) (fun ty q1 => (@Prod.rec (Nat) (FV × A12) (fun _ => Option FR) (fun n0 q2 => (@Prod.rec (FV) (A12) (fun _ => Option FR) (fun d us => (@Bool.rec (fun _ => Option FR) none (@Bool.rec (fun _ => Option FR) none (@Bool.rec (fun _ => Option FR) none (as12 us j v (fun us => fs8 t a (.inl (ty, n0, d, us)) (fun t => (ih m nx L S2 (t, kw))))) (Nat.ble j 4095)) (Nat.ble (Nat.succ j) n0)) (Nat.beq ty 1))) q2)) q1)) q)) (fun o => none) c)) (fg t a))) h)) (fun _ => none) u) r)) S1)) (fun _ => none) i)) S0) (fLs v))) S)
noncomputable def fBy (x : Nat) : Nat := @Bool.rec (fun _ => Nat) (Nat.mod x 256) (Nat.add (Nat.mod x 256) 4294967040) (Nat.ble 128 (Nat.mod x 256))
noncomputable def fo_bas : FOp := fun m pc nx tg L S h ih => (@List.rec FV (fun _ => Option FR) none (fun v S0 _ => (@Bool.rec (fun _ => Option FR) none (@List.rec FV (fun _ => Option FR) none (fun i S1 _ => (@Sum.rec Nat (Nat ⊕ AV) (fun _ => Option FR) (fun j => (@List.rec FV (fun _ => Option FR) none (fun r S2 _ => (@Sum.rec Nat (Nat ⊕ AV) (fun _ => Option FR) (fun _ => none) (fun u => @Sum.rec Nat AV (fun _ => Option FR) (fun a => (@Prod.rec (T8) (Nat × Nat) (fun _ => Option FR) (fun t kw => (@Option.rec (FC) (fun _ => Option FR) none (fun c => (@Sum.rec (Nat × Nat × FV × A12) (Nat × List FV) (fun _ => Option FR) (fun q => (@Prod.rec (Nat) (Nat × FV × A12) (fun _ => Option FR) (fun ty q1 => (@Prod.rec (Nat) (FV × A12) (fun _ => Option FR) (fun n0 q2 => (@Prod.rec (FV) (A12) (fun _ => Option FR) (fun d us => (@Bool.rec (fun _ => Option FR) none (@Bool.rec (fun _ => Option FR) none (@Bool.rec (fun _ => Option FR) none (@Sum.rec Nat (Nat ⊕ AV) (fun _ => Option FR) (fun x => (fN (fBy x) (fun y => (as12 us j (.inl y) (fun us => fs8 t a (.inl (ty, n0, d, us)) (fun t => (ih m nx L S2 (t, kw)))))))) (fun _ => (as12 us j fany (fun us => fs8 t a (.inl (ty, n0, d, us)) (fun t => (ih m nx L S2 (t, kw)))))) v) (Nat.ble j 4095)) (Nat.ble (Nat.succ j) n0)) (Nat.beq ty 2))) q2)) q1)) q)) (fun o => none) c)) (fg t a))) h)) (fun _ => none) u) r)) S1)) (fun _ => none) i)) S0) (fIs v))) S)
noncomputable def fo_aas : FOp := fun m pc nx tg L S h ih => (@List.rec FV (fun _ => Option FR) none (fun v S0 _ => (@Sum.rec Nat (Nat ⊕ AV) (fun _ => Option FR) (fun _ => none) (fun u => @Sum.rec Nat AV (fun _ => Option FR) (fun b => (@List.rec FV (fun _ => Option FR) none (fun i S1 _ => (@Sum.rec Nat (Nat ⊕ AV) (fun _ => Option FR) (fun j => (@List.rec FV (fun _ => Option FR) none (fun r S2 _ => (@Sum.rec Nat (Nat ⊕ AV) (fun _ => Option FR) (fun _ => none) (fun u => @Sum.rec Nat AV (fun _ => Option FR) (fun a => (@Prod.rec (T8) (Nat × Nat) (fun _ => Option FR) (fun t kw => (@Option.rec (FC) (fun _ => Option FR) none (fun c => (@Sum.rec (Nat × Nat × FV × A12) (Nat × List FV) (fun _ => Option FR) (fun q => (@Prod.rec (Nat) (Nat × FV × A12) (fun _ => Option FR) (fun ty q1 => (@Prod.rec (Nat) (FV × A12) (fun _ => Option FR) (fun n0 q2 => (@Prod.rec (FV) (A12) (fun _ => Option FR) (fun d us => (@Bool.rec (fun _ => Option FR) none (@Bool.rec (fun _ => Option FR) none (@Bool.rec (fun _ => Option FR) none (@Option.rec (FC) (fun _ => Option FR) none (fun c => (@Sum.rec (Nat × Nat × FV × A12) (Nat × List FV) (fun _ => Option FR) (fun _ => none) (fun o => (@Prod.rec (Nat) (List FV) (fun _ => Option FR) (fun cj _ => (@Bool.rec (fun _ => Option FR) none (as12 us j (.inr (.inl b)) (fun us => fs8 t a (.inl (ty, n0, d, us)) (fun t => (ih m nx L S2 (t, kw))))) (Nat.beq (Nat.add cj 3) ty))) o)) c)) (fg t b)) (Nat.ble j 4095)) (Nat.ble (Nat.succ j) n0)) (Nat.ble 3 ty))) q2)) q1)) q)) (fun o => none) c)) (fg t a))) h)) (fun _ => none) u) r)) S1)) (fun _ => none) i)) S0)) (fun _ => none) u) v)) S)
noncomputable def fo_alen : FOp := fun m pc nx tg L S h ih => (@List.rec FV (fun _ => Option FR) none (fun r S1 _ => (@Sum.rec Nat (Nat ⊕ AV) (fun _ => Option FR) (fun _ => none) (fun u => @Sum.rec Nat AV (fun _ => Option FR) (fun a => (@Prod.rec (T8) (Nat × Nat) (fun _ => Option FR) (fun t kw => (@Option.rec (FC) (fun _ => Option FR) none (fun c => (@Sum.rec (Nat × Nat × FV × A12) (Nat × List FV) (fun _ => Option FR) (fun q => (@Prod.rec (Nat) (Nat × FV × A12) (fun _ => Option FR) (fun _ q1 => (@Prod.rec (Nat) (FV × A12) (fun _ => Option FR) (fun n0 q2 => (@Prod.rec (FV) (A12) (fun _ => Option FR) (fun _ _ => (@Bool.rec (fun _ => Option FR) none (ih m nx L (.inl n0 :: S1) h) (Nat.ble n0 2147483647))) q2)) q1)) q)) (fun o => none) c)) (fg t a))) h)) (fun _ => none) u) r)) S)
/-- calls -/
noncomputable def fTk (K : List FV → List FV → Option FR) (c : Nat) : List FV → List FV → Option FR := @Nat.rec (fun _ => List FV → List FV → Option FR) (fun S A => K A S) (fun _ ih S A => @List.rec FV (fun _ => Option FR) none (fun a S _ => ih S (a :: A)) S) c
noncomputable def fAr (as : List FV) : Nat → (FL → Option FR) → Option FR := @List.rec FV (fun _ => Nat → (FL → Option FR) → Option FR) (fun _ K => K []) (fun a _ ih i K => fN (Nat.add i (fCat a)) (fun j => ih j (fun L => K ((i, a) :: L)))) as
noncomputable def fWt (S : List FV) : Nat := @List.rec FV (fun _ => Nat) 0 (fun a _ ih => Nat.add (fCat a) ih) S
noncomputable def fCall (b : Bool) (mj : Nat) (as T : List FV) : FOp := fun m pc nx tg L S h ih => (@Prod.rec (T8) (Nat × Nat) (fun _ => Option FR) (fun t kw => (@Prod.rec (Nat) (Nat) (fun _ => Option FR) (fun k w => (@Bool.rec (fun _ => Option FR) none (@Bool.rec (fun _ => Option FR) none (@Bool.rec (fun _ => Option FR) none (fAr as 0 (fun L1 => (@Option.rec (FR) (fun _ => Option FR) none (fun r => (@Prod.rec (Option FV ⊕ Nat) (FH) (fun _ => Option FR) (fun o g0 => (@Prod.rec (T8) (Nat × Nat) (fun _ => Option FR) (fun t1 kw1 => (@Prod.rec (Nat) (Nat) (fun _ => Option FR) (fun dk dw => (fN (Nat.add k dk) (fun k => (fN (Nat.add w dw) (fun w => ((fun g => (@Sum.rec (Option FV) (Nat) (fun _ => Option FR) (fun v => (@Option.rec (FV) (fun _ => Option FR) (ih m nx L T g) (fun v => (ih m nx L (v :: T) g)) v)) (fun ce => (@Bool.rec (fun _ => Option FR) none (@Option.rec (Nat) (fun _ => Option FR) (some (.inr ce, g)) (fun hp => (ih m hp L [.inr (.inr (.inr (.inr (.inr false))))] g)) (fp_hd m ce pc)) b)) o)) (t1, k, w))))))) kw1)) g0)) r)) (ih mj 0 L1 [] (t, 0, 0))))) (Nat.ble (fWt as) (fp_nl mj))) (Nat.ble (fWt T) 8)) (Nat.ble (Nat.succ (fp_dep mj)) (fp_dep m)))) kw)) h)
noncomputable def fo_cy : FOp := fun m pc nx tg L S h ih => (@List.rec FV (fun _ => Option FR) none (fun vn S _ => (@Sum.rec Nat (Nat ⊕ AV) (fun _ => Option FR) (fun vn => (@List.rec FV (fun _ => Option FR) none (fun dp S _ => (@Sum.rec Nat (Nat ⊕ AV) (fun _ => Option FR) (fun dp => (@List.rec FV (fun _ => Option FR) none (fun rb S _ => (@Sum.rec Nat (Nat ⊕ AV) (fun _ => Option FR) (fun _ => none) (fun u => @Sum.rec Nat AV (fun _ => Option FR) (fun b => (@List.rec FV (fun _ => Option FR) none (fun sp S _ => (@Sum.rec Nat (Nat ⊕ AV) (fun _ => Option FR) (fun sp => (@List.rec FV (fun _ => Option FR) none (fun ra T _ => (@Sum.rec Nat (Nat ⊕ AV) (fun _ => Option FR) (fun _ => none) (fun u => @Sum.rec Nat AV (fun _ => Option FR) (fun a => (@Prod.rec (T8) (Nat × Nat) (fun _ => Option FR) (fun t kw => (@Option.rec (FC) (fun _ => Option FR) none (fun c => (@Sum.rec (Nat × Nat × FV × A12) (Nat × List FV) (fun _ => Option FR) (fun q => (@Prod.rec (Nat) (Nat × FV × A12) (fun _ => Option FR) (fun ty q1 => (@Prod.rec (Nat) (FV × A12) (fun _ => Option FR) (fun n0 q2 => (@Prod.rec (FV) (A12) (fun _ => Option FR) (fun d us => (@Option.rec (FC) (fun _ => Option FR) none (fun c => (@Sum.rec (Nat × Nat × FV × A12) (Nat × List FV) (fun _ => Option FR) (fun q => (@Prod.rec (Nat) (Nat × FV × A12) (fun _ => Option FR) (fun ty1 q1 => (@Prod.rec (Nat) (FV × A12) (fun _ => Option FR) (fun n1 q2 => (@Prod.rec (FV) (A12) (fun _ => Option FR) (fun _ _ => (@Bool.rec (fun _ => Option FR) none (@Bool.rec (fun _ => Option FR) none (@Bool.rec (fun _ => Option FR) none (@Bool.rec (fun _ => Option FR) none (@Bool.rec (fun _ => Option FR) none (@Bool.rec (fun _ => Option FR) none (@Bool.rec (fun _ => Option FR) none (@Bool.rec (fun _ => Option FR) none (@Bool.rec (fun _ => Option FR) none (fs8 t b (.inl (ty, n0, d, us)) (fun t => (ih m nx L T (t, kw)))) (Nat.ble 1 (fp_dep m))) (Nat.ble (fWt T) 8)) (Nat.beq dp 0)) (Nat.beq sp 0)) (Nat.beq vn n0)) (Nat.ble n0 2147483647)) (Nat.beq n0 n1)) (Nat.ble ty 1)) (Nat.beq ty ty1))) q2)) q1)) q)) (fun o => none) c)) (fg t b))) q2)) q1)) q)) (fun o => none) c)) (fg t a))) h)) (fun _ => none) u) ra)) S)) (fun _ => none) sp)) S)) (fun _ => none) u) rb)) S)) (fun _ => none) dp)) S)) (fun _ => none) vn)) S)
noncomputable def fo_ivs (x : Nat) : FOp := fun m pc nx tg L S h ih => (@Option.rec (Nat × Nat × Nat) (fun _ => Option FR) none (fun q => (@Prod.rec (Nat) (Nat × Nat) (fun _ => Option FR) (fun kd q1 => (@Prod.rec (Nat) (Nat) (fun _ => Option FR) (fun mj c => (@Bool.rec (fun _ => Option FR) (@Bool.rec (fun _ => Option FR) (@Bool.rec (fun _ => Option FR) none (fo_cy m pc nx tg L S h ih) (Nat.beq kd 9)) (fTk (fun as T => (fCall false mj as T m pc nx tg L S h ih)) c S []) (Nat.beq kd 13)) (fTk (fun as T => (fCall true mj as T m pc nx tg L S h ih)) c S []) (Nat.beq kd 1))) q1)) q)) (fp_pl m x))
noncomputable def fo_ivp (x : Nat) : FOp := fun m pc nx tg L S h ih => (@Option.rec (Nat × Nat × Nat) (fun _ => Option FR) none (fun q => (@Prod.rec (Nat) (Nat × Nat) (fun _ => Option FR) (fun kd q1 => (@Prod.rec (Nat) (Nat) (fun _ => Option FR) (fun mj c => (@Bool.rec (fun _ => Option FR) (@Bool.rec (fun _ => Option FR) (@Bool.rec (fun _ => Option FR) none (fTk (fun as T => (@List.rec FV (fun _ => Option FR) none (fun r T _ => (@Sum.rec Nat (Nat ⊕ AV) (fun _ => Option FR) (fun _ => none) (fun u => @Sum.rec Nat AV (fun _ => Option FR) (fun _ => (fCall false mj (r :: as) T m pc nx tg L S h ih)) (fun _ => none) u) r)) T)) c S []) (Nat.beq kd 15)) (fTk (fun as T => (@List.rec FV (fun _ => Option FR) none (fun r T _ => (@Sum.rec Nat (Nat ⊕ AV) (fun _ => Option FR) (fun _ => none) (fun u => @Sum.rec Nat AV (fun _ => Option FR) (fun _ => (fCall false mj (r :: as) T m pc nx tg L S h ih)) (fun _ => none) u) r)) T)) c S []) (Nat.beq kd 3)) (@List.rec FV (fun _ => Option FR) none (fun r T _ => (@Sum.rec Nat (Nat ⊕ AV) (fun _ => Option FR) (fun _ => none) (fun u => @Sum.rec Nat AV (fun _ => Option FR) (fun _ => (@Bool.rec (fun _ => Option FR) none (@Bool.rec (fun _ => Option FR) none (ih m nx L T h) (Nat.ble 1 (fp_dep m))) (Nat.ble (fWt T) 8))) (fun _ => none) u) r)) S) (Nat.beq kd 4))) q1)) q)) (fp_pl m x))
noncomputable def fo_ivv (x : Nat) : FOp := fun m pc nx tg L S h ih => (@Option.rec (Nat × Nat × Nat) (fun _ => Option FR) none (fun q => (@Prod.rec (Nat) (Nat × Nat) (fun _ => Option FR) (fun kd q1 => (@Prod.rec (Nat) (Nat) (fun _ => Option FR) (fun mj c => (@Bool.rec (fun _ => Option FR) none (fTk (fun as T => (@List.rec FV (fun _ => Option FR) none (fun r T _ => (@Sum.rec Nat (Nat ⊕ AV) (fun _ => Option FR) (fun _ => none) (fun u => @Sum.rec Nat AV (fun _ => Option FR) (fun a => (@Prod.rec (T8) (Nat × Nat) (fun _ => Option FR) (fun t kw => (@Option.rec (FC) (fun _ => Option FR) none (fun c => (@Sum.rec (Nat × Nat × FV × A12) (Nat × List FV) (fun _ => Option FR) (fun _ => none) (fun o => (@Prod.rec (Nat) (List FV) (fun _ => Option FR) (fun cj _ => (@Bool.rec (fun _ => Option FR) none (fCall true mj (r :: as) T m pc nx tg L S h ih) (Nat.beq cj (fp_own mj)))) o)) c)) (fg t a))) h)) (fun _ => none) u) r)) T)) c S []) (Nat.beq kd 2))) q1)) q)) (fp_pl m x))
noncomputable def fo_new (_ : Nat) : FOp := fun m pc nx tg L S h ih => (@Bool.rec (fun _ => Option FR) none (@Option.rec (Nat) (fun _ => Option FR) none (fun ce => (@Prod.rec (T8) (Nat × Nat) (fun _ => Option FR) (fun t kw => (@Prod.rec (Nat) (Nat) (fun _ => Option FR) (fun k w => (some (.inr ce, t, Nat.succ k, Nat.add w 6))) kw)) h)) (fp_tw m pc)) (Nat.ble (fWt S) 100))
noncomputable def fo_ldc (x : Nat) : FOp := fun m pc nx tg L S h ih => (@Option.rec (Nat × Nat × Nat) (fun _ => Option FR) none (fun q => (@Prod.rec (Nat) (Nat × Nat) (fun _ => Option FR) (fun kd q1 => (@Prod.rec (Nat) (Nat) (fun _ => Option FR) (fun v _ => (@Bool.rec (fun _ => Option FR) none (@Bool.rec (fun _ => Option FR) none (ih m nx L (.inl v :: S) h) (Nat.ble v 4294967295)) (Nat.beq kd 6))) q1)) q)) (fp_pl m x))
noncomputable def fo_ldc2 (x : Nat) : FOp := fun m pc nx tg L S h ih => (@Option.rec (Nat × Nat × Nat) (fun _ => Option FR) none (fun q => (@Prod.rec (Nat) (Nat × Nat) (fun _ => Option FR) (fun kd q1 => (@Prod.rec (Nat) (Nat) (fun _ => Option FR) (fun v _ => (@Bool.rec (fun _ => Option FR) none (ih m nx L (.inr (.inr (.inr (.inr (.inl (some (Int64.ofNat v)))))) :: S) h) (Nat.beq kd 7))) q1)) q)) (fp_pl m x))
noncomputable def fo_ire : FOp := fun m pc nx tg L S h ih => (@List.rec FV (fun _ => Option FR) none (fun v T _ => (@List.rec FV (fun _ => Option FR) (@Bool.rec (fun _ => Option FR) (@Bool.rec (fun _ => Option FR) none (@Sum.rec Nat (Nat ⊕ AV) (fun _ => Option FR) (fun x => (@Bool.rec (fun _ => Option FR) none (some (.inl (some v), h)) (Nat.ble x 1))) (fun _ => none) v) (Nat.beq (fp_rtp m) 3)) (@Bool.rec (fun _ => Option FR) none (some (.inl (some v), h)) (fIs v)) (Nat.beq (fp_rtp m) 1)) (fun _ _ _ => none) T)) S)
noncomputable def fo_lre : FOp := fun m pc nx tg L S h ih => (@List.rec FV (fun _ => Option FR) none (fun v T _ => (@List.rec FV (fun _ => Option FR) (@Bool.rec (fun _ => Option FR) none (@Bool.rec (fun _ => Option FR) none (some (.inl (some v), h)) (fLs v)) (Nat.beq (fp_rtp m) 2)) (fun _ _ _ => none) T)) S)
noncomputable def fo_re : FOp := fun m pc nx tg L S h ih => (@List.rec FV (fun _ => Option FR) (@Bool.rec (fun _ => Option FR) none (some (.inl none, h)) (Nat.beq (fp_rtp m) 0)) (fun _ _ _ => none) S)
def fSh (y : Nat) : Nat := Nat.mod y 32
noncomputable def fShr (x y : Nat) : Nat := @Bool.rec (fun _ => Nat) (Nat.sub 4294967295 (Nat.shiftRight (Nat.sub 4294967295 (Nat.mod x 4294967296)) (fSh y))) (Nat.shiftRight (Nat.mod x 4294967296) (fSh y)) (Nat.ble (Nat.mod x 4294967296) 2147483647)
noncomputable def fx_d (i : Instr) : FOp := @Jvm.ClassFile.Instr.rec (fun _ => FOp) fo_aal fo_aas fo_no fo_ald (fun i => fo_ald i.1) (fun _ => fo_no) fo_no fo_alen fo_ast (fun i => fo_ast i.1) fo_no fo_bal fo_bas fo_push fo_no fo_no (fun _ => fo_no) fo_no fo_no fo_no fo_no fo_no fo_no (fun _ => fo_no) (fun _ => fo_no) fo_no (fun _ => fo_no) (fun _ => fo_no) fo_no fo_no fo_no fo_no (fun _ => fo_no) (fun _ => fo_no) fo_no fo_dup (fo_gen .dup_x1) (fo_gen .dup_x2) (fo_gen .dup2) fo_no fo_no fo_no fo_no fo_no fo_no fo_no fo_no (fun _ => fo_no) (fun _ => fo_no) fo_no (fun _ => fo_no) (fun _ => fo_no) fo_no fo_no fo_no fo_no (fun _ => fo_no) (fun _ => fo_no) fo_no fo_get (fun _ => fo_no) fo_goto (fun _ => fo_no) (fo_un (fo_gen .i2b) fBy) fo_no fo_no fo_no (fo_gen .i2l) fo_no (fo_bin (fo_gen .iadd) (fun x y => Nat.mod (Nat.add x y) 4294967296)) fo_ial (fo_bin (fo_gen .iand) Nat.land) fo_ias fo_push (fo_div (fo_gen .idiv) Nat.div) (fun _ _ => fo_no) (fun c z => fo_icmp (fo_gen (.if_icmp c z)) c) (fun c z => fo_if (fo_gen (.ifCond c z)) c) (fun _ => fo_no) (fun _ => fo_no) fo_iinc (fun i => fo_ild (fo_gen (.iload i)) i) (fun i => fo_ild (fo_gen (.iload_n i)) i.1) (fo_bin (fo_gen .imul) (fun x y => Nat.mod (Nat.mul x y) 4294967296)) (fo_un (fo_gen .ineg) (fun x => Nat.mod (Nat.sub 4294967296 x) 4294967296)) (fun _ => fo_no) (fun _ => fo_no) (fun _ _ => fo_no) fo_ivp fo_ivs fo_ivv (fo_bin (fo_gen .ior) Nat.lor) (fo_div (fo_gen .irem) Nat.mod) fo_ire (fo_bin (fo_gen .ishl) (fun x y => Nat.mod (Nat.shiftLeft x (fSh y)) 4294967296)) (fo_bin (fo_gen .ishr) fShr) fo_ist (fun i => fo_ist i.1) (fo_bin (fo_gen .isub) (fun x y => Nat.mod (Nat.sub (Nat.add x 4294967296) y) 4294967296)) (fo_bin (fo_gen .iushr) (fun x y => Nat.shiftRight (Nat.mod x 4294967296) (fSh y))) (fo_bin (fo_gen .ixor) Nat.xor) (fun _ => fo_no) (fun _ => fo_no) fo_no fo_no (fo_gen .l2i) (fo_gen .ladd) fo_lal (fo_gen .land) fo_las (fo_gen .lcmp) (fun a0 => fo_gen (.lconst a0)) fo_ldc fo_ldc fo_ldc2 fo_no fo_lld (fun i => fo_lld i.1) fo_no fo_no (fun a0 a1 => fo_gen (.lookupswitch a0 a1)) (fo_gen .lor) fo_no fo_lre (fo_gen .lshl) (fo_gen .lshr) (fun a0 => fo_gen (.lstore a0)) (fun a0 => fo_gen (.lstore_n a0)) (fo_gen .lsub) (fo_gen .lushr) (fo_gen .lxor) fo_no fo_no (fun _ _ => fo_no) fo_new (fun _ => fo_no) fo_no fo_pop (fo_gen .pop2) fo_put (fun _ => fo_no) (fun _ => fo_no) fo_re fo_no fo_no fo_push fo_no (fun a0 a1 a2 a3 => fo_gen (.tableswitch a0 a1 a2 a3)) i
noncomputable def fx_b (ih : FIH) : FIH := fun m pc L S h => @Option.rec (Instr × Nat × Nat) (fun _ => Option FR) none (fun q => @Prod.rec Instr (Nat × Nat) (fun _ => Option FR) (fun i q => @Prod.rec Nat Nat (fun _ => Option FR) (fun nx tg => fx_d i m pc nx tg L S h ih) q) q) (tb_cd m pc)
noncomputable def fx_x (n : Nat) : FIH := @Nat.rec (fun _ => FIH) (fun _ _ _ _ _ => none) (fun _ ih => fx_b ih) n
end
