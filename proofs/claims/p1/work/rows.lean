section
/-! ===== BEGIN words of one list among another's, by their places ===== -/
theorem goodIn_r {big : List Cond} (ws : List Cond) (ps : List Nat) (hp : ws = ps.filterMap (fun i => big[i]?)) (h : ws.all goodWord = true) : GoodIn big ws := by
  intro w hw
  have h1 := List.all_eq_true.mp h w hw
  rw [hp] at hw
  obtain ⟨i, -, hi⟩ := List.mem_filterMap.mp hw
  have hm : w ∈ big := by first | exact List.mem_of_getElem? hi | exact List.getElem?_mem hi
  exact ⟨hm, good_of_word h1⟩
theorem goodIn_app {big a b : List Cond} (ha : GoodIn big a) (hb : GoodIn big b) : GoodIn big (a ++ b) := fun w h => (List.mem_append.mp h).elim (ha w) (hb w)
theorem goodIn_ca {big a b : List Cond} {c : Cond} (ha : GoodIn big (c :: a)) (hb : GoodIn big b) : GoodIn big (c :: (a ++ b)) := fun w h => (List.mem_cons.mp h).elim (fun e => ha w (List.mem_cons.mpr (Or.inl e))) (fun h => (List.mem_append.mp h).elim (fun h => ha w (List.mem_cons.mpr (Or.inr h))) (hb w))
theorem goodIn_sub {big ws : List Cond} (hm : ∀ w ∈ ws, w ∈ big) (h : ws.all goodWord = true) : GoodIn big ws := fun w hw => ⟨hm w hw, good_of_word (List.all_eq_true.mp h w hw)⟩
/-! ===== END ===== -/

/-! ===== BEGIN exceptions that leave a method, and their catching by the caller (launches without stack traces) ===== -/
section VXA
/-! The laws vx_back, vx_callV, vx_callS, vx_callSW, vx_throw0, vx_throwS follow proofs of the library, with one case more: JvmDerived/Free/Laws.lean (Back.of_free), Shelf42/LK1.lean (callV, callS), Shelf/KitTraced.lean (throwNew0V, throwNewS). -/
/-- where a method has thrown q: the class by its name, the cell, what was written, the world -/
def vx_T (XC : String → State → State → Prop) (st : State) (q : Addr) (t : State) (mc ms : Nat) (free : Addr → Prop) : Prop :=
  ∃ (E : String) (ce : Cell) (L : List Loc), XC E st t ∧ t.heap[q]? = some ce ∧ ce.vm = .none ∧ st.vm.findClass E = some ce.cls ∧ st.WarmedH t.vm ∧ st.sameButNew ({ t with vm := st.vm } : State) L mc ms ∧ ∀ z ∈ L, free z.base
def vx_Q (Qc : Array Value → State → Outcome → State → Prop) (XC : String → State → State → Prop) (mc ms : Nat) (free : Addr → Prop) : Array Value → State → Outcome → State → Prop := fun a st o t =>
  (Qc a st o t ∧ ∃ L, FrameEnd st o t L mc ms ∧ ∀ q ∈ L, free q.base) ∨ ∃ q, o = .threw q ∧ vx_T XC st q t mc ms free
/-- a callee that returns or throws -/
def vx_Met (l : Launch) (y : MethodName) (ws : List Cond) (rm : Room) (Pc : Array Value → State → Prop) (Qc : Array Value → State → Outcome → State → Prop) (XC : String → State → State → Prop) (mc ms : Nat) (free : Addr → Prop) : Prop :=
  MetFree l y (headSpec ws rm) Pc (fun _ _ _ _ _ => True) (vx_Q Qc XC mc ms free)
def vx_Post (XC : String → State → State → Prop) (mc ms : Nat) (free : Addr → Prop) : Pt → Array Value → Addr → Pt → Prop := fun A a q B =>
  ∃ (g : JFrame) (mk : MethodId) (t : State) (L : List Loc) (E : String) (ce : Cell), B.U.heap = t.heap ∧ B.U.vm = t.vm ∧ XC E (A.U.calling g mk a) t ∧ t.heap[q]? = some ce ∧ ce.vm = .none ∧ A.U.vm.findClass E = some ce.cls ∧ B.locs = A.locs ++ L ∧ (∀ z ∈ L, free z.base) ∧ B.cells = A.cells + mc ∧ B.slots = A.slots + ms
def vx_Back (l : Launch) (R : Room) (p : Program) (e : Env) (below : List Frame) (s : State) (sargs : Array Value) (y : MethodName) (len W9 : Nat)
    (Pre : Pt → Array Value → Prop) (Post : Pt → Array Value → Option Value → Pt → Prop) (PostX : Pt → Array Value → Addr → Pt → Prop) : Prop :=
  ∀ (m : MethodId) (meth : Method) (c : Code) (A : Pt) (g : JFrame) (ig : Instr) (mk : MethodId) (a : Array Value),
    Stand p l e R s m sargs below meth c A.U A.locs A.cells A.slots → g.method = m → g.locals.size = c.maxLocals → decode c.code g.pc = .ok (ig, len) →
    2 * g.monitorRoom + (g.stack.map fun v => v.category).sum ≤ W9 → A.U.methodNamed? y = some mk → Pre A a →
    (∃ (v : Option Value) (B : Pt), Stand p l e R s m sargs below meth c B.U B.locs B.cells B.slots ∧ Post A a v B ∧
      Steps p.tables e below (doInvoke e (A.U.setTop g) [] mk a).1 (B.U.setTop { g with pc := g.pc + len, stack := v.toList ++ g.stack })) ∨
    (∃ (q : Addr) (B : Pt), Stand p l e R s m sargs below meth c B.U B.locs B.cells B.slots ∧ PostX A a q B ∧
      Steps p.tables e below (doInvoke e (A.U.setTop g) [] mk a).1 ((B.U.setTop g).pushFrame (.throwing q)))
section Payer
variable {l : Launch} {R : Room} {p : Program} {e : Env} {below : List Frame} {s : State} {sargs : Array Value} {y : MethodName} {len W9 : Nat}
theorem vx_back {ws : List Cond} {rm : Room} {Pc : Array Value → State → Prop} {Qc : Array Value → State → Outcome → State → Prop} {XC : String → State → State → Prop} {mc ms : Nat} {free : Addr → Prop} {bytes : ByteArray} {maxL : Nat} {ret : Option FieldType}
    (hM : vx_Met l y ws rm Pc Qc XC mc ms free) (hblind : FrameBlind Pc) (hrc : rm.cells = mc) (hrs : rm.slots = ms)
    (hframes : rm.frames + 1 ≤ R.frames) (hlocals : W9 + (maxL + 11) + rm.locals ≤ R.locals)
    (hws : ∀ w ∈ ws, ∀ a' U, s.WarmedH U.vm → w.before a' U = true) (hcode : Cond.code y bytes maxL ret ∈ ws) (hinit : ∀ a' U, s.WarmedH U.vm → (Cond.initialized y.cls).before a' U = true) :
    vx_Back l R p e below s sargs y len W9 (PreOf R mc ms Pc) (PostOf Qc mc ms free) (vx_Post XC mc ms free) := by
  intro m meth c A g ig mk a X hg hsize hdg hW hn hp
  have h1 : (headSpec ws rm).pre.before a A.U = true := atoms_intro fun w hw => hws w hw _ _ X.warmed
  have h2 : (Cond.code y bytes maxL ret).before a A.U = true := hws _ hcode _ _ X.warmed
  have h3 : (Cond.initialized y.cls).before a A.U = true := hinit _ _ X.warmed
  have h4 : A.cells + (headSpec ws rm).room.cells ≤ R.cells := by rw [show (headSpec ws rm).room.cells = mc from hrc]; exact hp.1
  have h5 : A.slots + (headSpec ws rm).room.slots ≤ R.slots := by rw [show (headSpec ws rm).room.slots = ms from hrs]; exact hp.2.1
  have hPc : Pc a (A.U.calling g mk a) := hblind _ _ _ _ hp.2.2
  obtain ⟨U, Ls, c0, s0⟩ := A
  dsimp only [Pt.U, Pt.locs, Pt.cells, Pt.slots] at h1 h2 h3 h4 h5 X hn hPc ⊢
  obtain ⟨methY, cY, hmY, hcY, -, hlY, -, -, -, -⟩ := Cond.code_spec hn h2
  obtain ⟨kY, hkY, -⟩ := className_of_methodNamed hn
  have hinitY : kY.init = .initialized := Cond.initialized_spec (findClass_of_methodNamed hn) hkY h3
  have h : At U g.method c below := by rw [hg]; exact X.here
  have hlocals9 : W9 + (maxL + 11) + (headSpec ws rm).room.locals ≤ R.locals := hlocals
  have happ : (headSpec ws rm).appliesLoose y e.platform (U.calling g mk a) = true :=
    Spec.appliesLoose_calling (g := g) h hdg hn hkY hinitY
      (X.room_calling (g := g) (R' := (headSpec ws rm).room) hsize hmY hcY hframes (by rw [hlY]; omega) h4 h5) h1
  obtain ⟨mid, hmid⟩ := h.above
  have hfr : (U.setTop g).frames = (.java g :: mid) ++ below := by rw [State.frames_setTop' g h.top, hmid]; rfl
  obtain ⟨o, s₂, hsteps, -, hend, hq⟩ := Steps.callFree hM p X.admits X.cas X.clock (acts := []) hfr happ hPc trivial
  have hq' : vx_Q Qc XC mc ms free a (U.calling g mk a) o s₂ := hq
  rw [State.frames_setTop' g h.top] at hend
  obtain ⟨g₀, hg0⟩ := Option.isSome_iff_exists.mp h.top
  obtain ⟨r, hr⟩ := State.topJava?_eq_some.mp hg0
  have hr' : (({ U with heap := s₂.heap, slotsUsed := s₂.slotsUsed } : State).setVm s₂.vm).frames = .java g₀ :: r := hr
  rcases hq' with ⟨hqc, L, hfe, hL⟩ | ⟨q, rfl, E, ce, L, hx, hce, hcv, hcl, hW₂, hsm, hL⟩
  · obtain ⟨⟨v, rfl⟩, hW₂, e2, q2, q3, q4, q5, q6⟩ := id hfe
    have e3 : s₂ = ({ (U.calling g mk a).setFrames s₂.frames with heap := s₂.heap, slotsUsed := s₂.slotsUsed } : State).setVm s₂.vm := by
      have : s₂ = ({ s₂ with vm := (U.calling g mk a).vm } : State).setVm s₂.vm := rfl
      rw [e2] at this
      exact this
    obtain ⟨c₂, i₂, len₂, hc₂, hd₂, hf₂⟩ := hend
    have hW' : U.WarmedH s₂.vm := hW₂
    have hcc : c₂ = c := by
      have h1 : s₂.code? g.method = U.code? g.method := by
        rw [State.code?_eq, State.code?_eq, hW'.alike.method?]
      exact Option.some.inj (hc₂.symm.trans (h1.trans h.code))
    subst hcc
    have hlen : len₂ = len := by rw [hdg] at hd₂; cases hd₂; rfl
    subst hlen
    have hs₂ : s₂ = (({ U with heap := s₂.heap, slotsUsed := s₂.slotsUsed } : State).setVm s₂.vm).setTop { g with pc := g.pc + len₂, stack := v.toList ++ g.stack } := by
      refine e3.trans ?_
      rw [hf₂, State.calling_eq h.top, State.setFrames_setFrames, State.setTop_of_frames _ hr', hr]
      rfl
    have hsame : U.sameButNew ({ U with heap := s₂.heap, slotsUsed := s₂.slotsUsed } : State) L mc ms := by
      refine ⟨?_, q2, q3, q4, q5, q6⟩
      obtain ⟨t, ht, -⟩ := State.frames_cons hr
      show ({ U with heap := s₂.heap, slotsUsed := s₂.slotsUsed } : State) = { U.setFrames U.frames with heap := s₂.heap, slotsUsed := s₂.slotsUsed }
      rw [State.setFrames_self ht]
    subst hg
    refine Or.inl ⟨v, ⟨(({ U with heap := s₂.heap, slotsUsed := s₂.slotsUsed } : State).setVm s₂.vm), Ls ++ L, c0 + mc, s0 + ms⟩,
      ⟨X.admits, X.cas, X.clock, X.frames, X.room, X.hears, X.method, X.code, (X.here.setHeapUsed s₂.heap s₂.slotsUsed).setVm hW'.alike, X.tail, State.WarmedH.trans X.warmed hW', X.limits, X.bytes, X.same.trans (hsame.setVm s.vm)⟩,
      ⟨g, mk, s₂, L, rfl, rfl, hqc, rfl, hL, rfl, rfl⟩, ?_⟩
    show Steps p.tables e below _ ((({ U with heap := s₂.heap, slotsUsed := s₂.slotsUsed } : State).setVm s₂.vm).setTop { g with pc := g.pc + len₂, stack := v.toList ++ g.stack })
    rw [← hs₂]
    exact hsteps
  · obtain ⟨e2, q2, q3, q4, q5, q6⟩ := id hsm
    have e3 : s₂ = ({ (U.calling g mk a).setFrames s₂.frames with heap := s₂.heap, slotsUsed := s₂.slotsUsed } : State).setVm s₂.vm := by
      have : s₂ = ({ s₂ with vm := (U.calling g mk a).vm } : State).setVm s₂.vm := rfl
      rw [e2] at this
      exact this
    have hf₂ : s₂.frames = .throwing q :: .java g :: U.frames.tail := hend
    have hW' : U.WarmedH s₂.vm := hW₂
    have hs₂ : s₂ = ((({ U with heap := s₂.heap, slotsUsed := s₂.slotsUsed } : State).setVm s₂.vm).setTop g).pushFrame (.throwing q) := by
      refine e3.trans ?_
      rw [hf₂, State.calling_eq h.top, State.setFrames_setFrames, State.pushFrame, State.frames_setTop _ hr', State.setTop_of_frames _ hr', State.setFrames_setFrames, hr]
      rfl
    have hsame : U.sameButNew ({ U with heap := s₂.heap, slotsUsed := s₂.slotsUsed } : State) L mc ms := by
      refine ⟨?_, q2, q3, q4, q5, q6⟩
      obtain ⟨t, ht, -⟩ := State.frames_cons hr
      show ({ U with heap := s₂.heap, slotsUsed := s₂.slotsUsed } : State) = { U.setFrames U.frames with heap := s₂.heap, slotsUsed := s₂.slotsUsed }
      rw [State.setFrames_self ht]
    subst hg
    refine Or.inr ⟨q, ⟨(({ U with heap := s₂.heap, slotsUsed := s₂.slotsUsed } : State).setVm s₂.vm), Ls ++ L, c0 + mc, s0 + ms⟩,
      ⟨X.admits, X.cas, X.clock, X.frames, X.room, X.hears, X.method, X.code, (X.here.setHeapUsed s₂.heap s₂.slotsUsed).setVm hW'.alike, X.tail, State.WarmedH.trans X.warmed hW', X.limits, X.bytes, X.same.trans (hsame.setVm s.vm)⟩,
      ⟨g, mk, s₂, L, E, ce, rfl, rfl, hx, hce, hcv, hcl, rfl, hL, rfl, rfl⟩, ?_⟩
    show Steps p.tables e below _ (((({ U with heap := s₂.heap, slotsUsed := s₂.slotsUsed } : State).setVm s₂.vm).setTop g).pushFrame (.throwing q))
    rw [← hs₂]
    exact hsteps
end Payer
section Calls
variable {p : Program} {l : Launch} {e : Env} {R : Room} {s : State} {m : MethodId} {args : Array Value} {below : List Frame} {meth : Method} {c : Code} {T : State} {locs : List Loc} {cells slots : Nat}
theorem vx_callV (X : Stand p l e R s m args below meth c T locs cells slots) (hexec : p.tables.exec = Jvm.exec) {own C : String} {index : Nat} {y : MethodName} {bytes : ByteArray} {maxL : Nat} {ret : Option FieldType}
    (hown : s.vm.findClass own = some m.cls) (hlink : (Cond.methodLink own index y).before args s = true) (hinst : (Cond.instanceMethod y).before args s = true) (hsel : (Cond.selects C y y).before args s = true)
    (hcode : (Cond.code y bytes maxL ret).before args s = true) (hy : y.cls ≠ "java/lang/invoke/MethodHandle" ∧ y.cls ≠ "java/lang/invoke/VarHandle")
    {W9 : Nat} {Pre : Pt → Array Value → Prop} {Post : Pt → Array Value → Option Value → Pt → Prop} {PostX : Pt → Array Value → Addr → Pt → Prop} (hK : vx_Back l R p e below s args y 3 W9 Pre Post PostX)
    {b : Addr} {cellB : Cell} (hcell : T.heap[b]? = some cellB) (hobj : cellB.vm.isStatics = false) (hcls : s.vm.findClass C = some cellB.cls)
    {g : JFrame} (hg : g.method = m) (hsize : g.locals.size = c.maxLocals) {argsL rest : List Value} (hlen : ∀ sig, parseMethodDescriptor y.desc = some sig → argsL.length = sig.parameters.length)
    (hstack : g.stack = argsL.reverse ++ .ref b :: rest) (hW : 2 * g.monitorRoom + (rest.map fun v => v.category).sum ≤ W9) (hdg : decode c.code g.pc = .ok (.invokevirtual index, 3))
    (hpre : ∀ vm₁, s.WarmedH vm₁ → Pre ⟨T.setVm vm₁, locs, cells, slots⟩ (Value.ref b :: argsL).toArray) :
    (∃ (v : Option Value) (vm₁ : Vm) (B : Pt), s.WarmedH vm₁ ∧ Stand p l e R s m args below meth c B.U B.locs B.cells B.slots ∧ Post ⟨T.setVm vm₁, locs, cells, slots⟩ (Value.ref b :: argsL).toArray v B ∧
      ∀ target, Steps p.tables e below (B.U.setTop { g with pc := g.pc + 3, stack := v.toList ++ rest }) target → Steps p.tables e below (T.setTop g) target) ∨
    (∃ (q : Addr) (vm₁ : Vm) (B : Pt), s.WarmedH vm₁ ∧ Stand p l e R s m args below meth c B.U B.locs B.cells B.slots ∧ PostX ⟨T.setVm vm₁, locs, cells, slots⟩ (Value.ref b :: argsL).toArray q B ∧
      Steps p.tables e below (T.setTop g) ((B.U.setTop { g with stack := rest }).pushFrame (.throwing q))) := by
  obtain ⟨mk, methM, hnamed, hmethM, hstM, habM⟩ := Cond.instanceMethod_spec hinst
  obtain ⟨methM', cM, hmethM', -, -, -, -, -, -, hsigM⟩ := Cond.code_spec hnamed hcode
  cases hmethM.symm.trans hmethM'
  obtain ⟨c2, r2, m2, q1, q2, q3, q4, kP, hkP, hkPi⟩ := Cond.selects_spec hsel
  cases hcls.symm.trans q1
  cases (State.methodFound?_of_named hnamed hy).symm.trans q2
  cases hnamed.symm.trans q3
  have hselP : selectMethod e.platform s.vm cellB.cls mk = .method mk := by rw [Launch.admits_selectMethod X.admits]; exact q4
  obtain ⟨vm₁, X₁, hstep₁⟩ := X.invokevirtual hexec hown hlink hnamed hmethM hstM hkP hkPi hy (a := b) (cell := cellB) hcell
    (fun z h => by rw [h] at hobj; cases hobj) hselP hmethM habM hkP hkPi (g := g) hg (argsL := argsL) (rest := rest) (hlen _ hsigM) hstack hdg
  rcases hK m meth c ⟨T.setVm vm₁, locs, cells, slots⟩ { g with stack := rest } (.invokevirtual index) mk (Value.ref b :: argsL).toArray X₁ hg hsize hdg hW (X₁.named hnamed) (hpre vm₁ X₁.warmed) with ⟨v, B, X', hpost, hsteps⟩ | ⟨q, B, X', hpost, hsteps⟩
  · exact Or.inl ⟨v, vm₁, B, X₁.warmed, X', hpost, fun target h => hstep₁ _ fun acts => by rw [doInvoke_state]; exact hsteps.trans h⟩
  · exact Or.inr ⟨q, vm₁, B, X₁.warmed, X', hpost, hstep₁ _ fun acts => by rw [doInvoke_state]; exact hsteps⟩
theorem vx_callS (X : Stand p l e R s m args below meth c T locs cells slots) (hexec : p.tables.exec = Jvm.exec) {own : String} {index : Nat} {y : MethodName} {bytes : ByteArray} {maxL : Nat} {ret : Option FieldType}
    (hown : s.vm.findClass own = some m.cls) (hlink : (Cond.methodLink own index y).before args s = true) (hstat : (Cond.static y).before args s = true) (hinit : (Cond.initialized y.cls).before args s = true)
    (hcode : (Cond.code y bytes maxL ret).before args s = true) (hy : y.cls ≠ "java/lang/invoke/MethodHandle" ∧ y.cls ≠ "java/lang/invoke/VarHandle")
    {W9 : Nat} {Pre : Pt → Array Value → Prop} {Post : Pt → Array Value → Option Value → Pt → Prop} {PostX : Pt → Array Value → Addr → Pt → Prop} (hK : vx_Back l R p e below s args y 3 W9 Pre Post PostX)
    {g : JFrame} (hg : g.method = m) (hsize : g.locals.size = c.maxLocals) {argsL rest : List Value} (hlen : ∀ sig, parseMethodDescriptor y.desc = some sig → argsL.length = sig.parameters.length)
    (hstack : g.stack = argsL.reverse ++ rest) (hW : 2 * g.monitorRoom + (rest.map fun v => v.category).sum ≤ W9) (hdg : decode c.code g.pc = .ok (.invokestatic index, 3))
    (hpre : ∀ vm₁, s.WarmedH vm₁ → Pre ⟨T.setVm vm₁, locs, cells, slots⟩ argsL.toArray) :
    (∃ (v : Option Value) (vm₁ : Vm) (B : Pt), s.WarmedH vm₁ ∧ Stand p l e R s m args below meth c B.U B.locs B.cells B.slots ∧ Post ⟨T.setVm vm₁, locs, cells, slots⟩ argsL.toArray v B ∧
      ∀ target, Steps p.tables e below (B.U.setTop { g with pc := g.pc + 3, stack := v.toList ++ rest }) target → Steps p.tables e below (T.setTop g) target) ∨
    (∃ (q : Addr) (vm₁ : Vm) (B : Pt), s.WarmedH vm₁ ∧ Stand p l e R s m args below meth c B.U B.locs B.cells B.slots ∧ PostX ⟨T.setVm vm₁, locs, cells, slots⟩ argsL.toArray q B ∧
      Steps p.tables e below (T.setTop g) ((B.U.setTop { g with stack := rest }).pushFrame (.throwing q))) := by
  obtain ⟨mk, hnamed⟩ := Cond.code_named hcode
  obtain ⟨methM, cM, hmethM, -, -, -, -, -, -, hsigM⟩ := Cond.code_spec hnamed hcode
  have hstatic : methM.isStatic = true := Cond.static_spec hnamed hmethM hstat
  obtain ⟨kP, hkP, -⟩ := className_of_methodNamed hnamed
  have hinitP : kP.init = .initialized := Cond.initialized_spec (findClass_of_methodNamed hnamed) hkP hinit
  obtain ⟨vm₁, X₁, hstep₁⟩ := X.invokestatic hexec hown hlink hnamed hmethM hstatic hkP hinitP hy (g := g) hg (argsL := argsL) (rest := rest) (hlen _ hsigM) hstack hdg
  rcases hK m meth c ⟨T.setVm vm₁, locs, cells, slots⟩ { g with stack := rest } (.invokestatic index) mk argsL.toArray X₁ hg hsize hdg hW (X₁.named hnamed) (hpre vm₁ X₁.warmed) with ⟨v, B, X', hpost, hsteps⟩ | ⟨q, B, X', hpost, hsteps⟩
  · exact Or.inl ⟨v, vm₁, B, X₁.warmed, X', hpost, fun target h => hstep₁ _ fun acts => by rw [doInvoke_state]; exact hsteps.trans h⟩
  · exact Or.inr ⟨q, vm₁, B, X₁.warmed, X', hpost, hstep₁ _ fun acts => by rw [doInvoke_state]; exact hsteps⟩
end Calls
theorem vx_cls {s : State} {T : State} {vm₁ : Vm} {E : String} {k : ClassId} (hW : s.WarmedH vm₁) (h : (T.setVm vm₁).vm.findClass E = some k) : s.vm.findClass E = some k := by
  have h1 : vm₁.findClass E = some k := h
  rw [hW.alike.findClass] at h1
  exact h1
/-- the method's frame g, with q thrown over it -/
def vx_W (p : Program) (l : Launch) (e : Env) (R : Room) (s : State) (m : MethodId) (args : Array Value) (below : List Frame) (meth : Method) (c : Code) (H : Heap) (locs : List Loc) (cells slots : Nat) (Q : State → Prop) (g : JFrame) (q : Addr) : Prop :=
  ∀ T : State, T.heap = H → Stand p l e R s m args below meth c T locs cells slots → ∃ t, Steps p.tables e below ((T.setTop g).pushFrame (.throwing q)) t ∧ Q t
def vx_Run (p : Program) (l : Launch) (e : Env) (R : Room) (s : State) (m : MethodId) (args : Array Value) (below : List Frame) (meth : Method) (c : Code) (H : Heap) (locs : List Loc) (cells slots mc ms : Nat) (g : JFrame) (rest : List Value) (Qa : State → Outcome → State → Prop) (XC : String → State → State → Prop) (free : Addr → Prop) : Prop :=
  ∀ T : State, T.heap = H → Stand p l e R s m args below meth c T locs cells slots →
    (∃ (v : Option Value) (st₀ t T' : State) (L : List Loc), st₀.heap = H ∧ Stand p l e R s m args below meth c T' (locs ++ L) (cells + mc) (slots + ms) ∧ (∀ q ∈ L, free q.base) ∧ T'.heap = t.heap ∧ T'.vm = t.vm ∧ Qa st₀ (.returned v) t ∧
      Goes p e below T g T' { g with pc := g.pc + 3, stack := v.toList ++ rest }) ∨
    (∃ (q : Addr) (st₀ t T' : State) (L : List Loc) (E : String) (ce : Cell), st₀.heap = H ∧ Stand p l e R s m args below meth c T' (locs ++ L) (cells + mc) (slots + ms) ∧ (∀ z ∈ L, free z.base) ∧ T'.heap = t.heap ∧ T'.vm = t.vm ∧ XC E st₀ t ∧ t.heap[q]? = some ce ∧ ce.vm = .none ∧ s.vm.findClass E = some ce.cls ∧
      Steps p.tables e below (T.setTop g) ((T'.setTop { g with stack := rest }).pushFrame (.throwing q)))
def vx_X {S : Type} (px : S → Prop) (B : String → S → State → Prop) (A : Nat → Prop) : String → State → State → Prop := fun E st t => ∃ u : S, px u ∧ B E u t ∧ va_F A st t
section Runs
variable {p : Program} {l : Launch} {e : Env} {R : Room} {s : State} {m : MethodId} {args : Array Value} {below : List Frame} {meth : Method} {c : Code} {H : Heap} {locs : List Loc} {cells slots : Nat}
variable {y : MethodName} {bytes cc : ByteArray} {maxL nL mc ms n index : Nat} {ret : Option FieldType} {ws : List Cond} {rm : Room} {Pc : Array Value → State → Prop} {Qc : Array Value → State → Outcome → State → Prop} {XC : String → State → State → Prop} {free : Addr → Prop} {Ts : List Cond} {own C : String} {b : Addr} {As rest : List Value} {g : JFrame}
theorem vx_callBack (cb : CallB R s args own index y bytes maxL ret ws rm mc ms n) (hM : vx_Met l y ws rm Pc Qc XC mc ms free) (hbl : FrameBlind Pc) : vx_Back l R p e below s args y 3 8 (PreOf R mc ms Pc) (PostOf Qc mc ms free) (vx_Post XC mc ms free) := by
  obtain ⟨hrc, hrs, hfr, hlo, hws, hcw, -, hini, -⟩ := cb
  exact vx_back (bytes := bytes) (maxL := maxL) (ret := ret) hM hbl hrc hrs hfr hlo hws hcw (fun a' U hW => word_at hW (Or.inl (by first | rfl | simp [Cond.onTables, Cond.keeps, Cond.steady])) hini)
theorem vx_runV (S : CallFix p m c cc nL s args Ts own) (hM : vx_Met l y ws rm Pc Qc XC mc ms free) (cw : CallW R s args own C index y bytes maxL ret ws rm mc ms n) (hp : PreV s H C b Pc As)
    (hg : g.method = m) (hn : As.length = n) (hsize : g.locals.size = nL) (hstack : g.stack = As.reverse ++ .ref b :: rest) (hW : 2 * g.monitorRoom + (rest.map fun v => v.category).sum ≤ 8) (hdg : decode cc g.pc = .ok (.invokevirtual index, 3)) (hf : cells + mc ≤ R.cells ∧ slots + ms ≤ R.slots) :
    vx_Run p l e R s m args below meth c H locs cells slots mc ms g rest (Qc (Value.ref b :: As).toArray) XC free := by
  have hK : vx_Back l R p e below s args y 3 8 (PreOf R mc ms Pc) (PostOf Qc mc ms free) (vx_Post XC mc ms free) := vx_callBack cw.1 hM hp.1
  obtain ⟨⟨-, -, -, -, -, -, hcode, -, hy, hlen, hl⟩, hin, hse⟩ := cw
  obtain ⟨hx, hb, hml, ho, -⟩ := S
  obtain ⟨-, ⟨cellB, hcB, hoB, hclB⟩, hPc⟩ := hp
  intro T hT X
  rcases vx_callV X hx (C := C) (bytes := bytes) (maxL := maxL) (ret := ret) ho hl hin hse hcode hy hK (by rw [hT]; exact hcB) hoB hclB hg (hsize.trans hml.symm) (argsL := As) (rest := rest) (fun sig h => hn.trans (hlen sig h)) hstack hW (by rw [hb]; exact hdg)
    (fun vm₁ hW₁ => ⟨hf.1, hf.2, hPc (T.setVm vm₁) hT hW₁⟩) with ⟨v, vm₁, ⟨U', l2, c2, s2⟩, hW₁, X', ⟨g', mk, t, L, e1, e2, hq, h1, hL, h2, h3⟩, st⟩ | ⟨q, vm₁, ⟨U', l2, c2, s2⟩, hW₁, X', ⟨g', mk, t, L, E, ce, e1, e2, hq, hce, hcv, hcl, h1, hL, h2, h3⟩, st⟩
  · dsimp only [Pt.U, Pt.locs, Pt.cells, Pt.slots] at X' e1 e2 h1 h2 h3 st
    subst h1; subst h2; subst h3
    exact Or.inl ⟨v, (T.setVm vm₁).calling g' mk (Value.ref b :: As).toArray, t, U', L, hT, X', hL, e1, e2, hq, st⟩
  · dsimp only [Pt.U, Pt.locs, Pt.cells, Pt.slots] at X' e1 e2 h1 h2 h3 st hcl
    subst h1; subst h2; subst h3
    exact Or.inr ⟨q, (T.setVm vm₁).calling g' mk (Value.ref b :: As).toArray, t, U', L, E, ce, hT, X', hL, e1, e2, hq, hce, hcv, vx_cls hW₁ hcl, st⟩
theorem vx_runS (S : CallFix p m c cc nL s args Ts own) (hM : vx_Met l y ws rm Pc Qc XC mc ms free) (cw : CallB R s args own index y bytes maxL ret ws rm mc ms n ∧ (Cond.static y).before args s = true) (hp : PreS s H Pc As)
    (hg : g.method = m) (hn : As.length = n) (hsize : g.locals.size = nL) (hstack : g.stack = As.reverse ++ rest) (hW : 2 * g.monitorRoom + (rest.map fun v => v.category).sum ≤ 8) (hdg : decode cc g.pc = .ok (.invokestatic index, 3)) (hf : cells + mc ≤ R.cells ∧ slots + ms ≤ R.slots) :
    vx_Run p l e R s m args below meth c H locs cells slots mc ms g rest (Qc As.toArray) XC free := by
  have hK : vx_Back l R p e below s args y 3 8 (PreOf R mc ms Pc) (PostOf Qc mc ms free) (vx_Post XC mc ms free) := vx_callBack cw.1 hM hp.1
  obtain ⟨⟨-, -, -, -, -, -, hcode, hini, hy, hlen, hl⟩, hstt⟩ := cw
  obtain ⟨hx, hb, hml, ho, -⟩ := S
  intro T hT X
  rcases vx_callS X hx (bytes := bytes) (maxL := maxL) (ret := ret) ho hl hstt hini hcode hy hK hg (hsize.trans hml.symm) (argsL := As) (rest := rest) (fun sig h => hn.trans (hlen sig h)) hstack hW (by rw [hb]; exact hdg)
    (fun vm₁ hW₁ => ⟨hf.1, hf.2, hp.2 (T.setVm vm₁) hT hW₁⟩) with ⟨v, vm₁, ⟨U', l2, c2, s2⟩, hW₁, X', ⟨g', mk, t, L, e1, e2, hq, h1, hL, h2, h3⟩, st⟩ | ⟨q, vm₁, ⟨U', l2, c2, s2⟩, hW₁, X', ⟨g', mk, t, L, E, ce, e1, e2, hq, hce, hcv, hcl, h1, hL, h2, h3⟩, st⟩
  · dsimp only [Pt.U, Pt.locs, Pt.cells, Pt.slots] at X' e1 e2 h1 h2 h3 st
    subst h1; subst h2; subst h3
    exact Or.inl ⟨v, (T.setVm vm₁).calling g' mk As.toArray, t, U', L, hT, X', hL, e1, e2, hq, st⟩
  · dsimp only [Pt.U, Pt.locs, Pt.cells, Pt.slots] at X' e1 e2 h1 h2 h3 st hcl
    subst h1; subst h2; subst h3
    exact Or.inr ⟨q, (T.setVm vm₁).calling g' mk As.toArray, t, U', L, E, ce, hT, X', hL, e1, e2, hq, hce, hcv, vx_cls hW₁ hcl, st⟩
end Runs
section Rows
variable {p : Program} {l : Launch} {e : Env} {R : Room} {s : State} {m : MethodId} {args : Array Value} {below : List Frame} {meth : Method} {c : Code} {H : Heap} {locs : List Loc} {cells slots : Nat} {Q : State → Prop}
variable {mc ms : Nat} {free : Addr → Prop} {A0 A1 : Nat → Prop} {H0 : Heap} {a : Array Value} {pc : Nat} {ls : Array Slot} {st0 rest : List Value}
theorem vx_keep {st₀ t T' : State} {L : List Loc} (h0 : st₀.heap = H) (e1 : T'.heap = t.heap) (hS : va_S A0 H0 H locs) (hA : ∀ q, q < H.size → A1 q → A0 q) (hf : ∀ q, free q → A0 q) (hL : ∀ q ∈ L, free q.base) (hF : va_F A1 st₀ t) :
    H.size ≤ T'.heap.size ∧ (∀ q : Nat, q < H.size → ¬ A1 q → T'.heap[q]? = H[q]?) ∧ va_S A0 H0 T'.heap (locs ++ L) := by
  obtain ⟨hz, hk⟩ := hF
  rw [h0] at hz hk
  exact ⟨by rw [e1]; exact hz, fun q h1 h2 => by rw [e1]; exact hk q h1 h2,
    ⟨Nat.le_trans hS.1 (by rw [e1]; exact hz), fun q h1 h2 => by rw [e1, hk q (Nat.lt_of_lt_of_le h1 hS.1) (fun z => h2 (hA q (Nat.lt_of_lt_of_le h1 hS.1) z))]; exact hS.2.1 q h1 h2, fun q hq => by
      rcases List.mem_append.mp hq with h | h
      · exact hS.2.2 q h
      · exact hf _ (hL q h)⟩⟩
theorem vx_calli {S SX : Type} {post : Int32 → S → Prop} {px : SX → Prop} {B : S → State → Prop} {BX : String → SX → State → Prop} {AX : Nat → Prop} (hr : vx_Run p l e R s m args below meth c H locs cells slots mc ms (F0 m pc ls st0) rest (va_Qi post B A1 a) (vx_X px BX AX) free) (hS : va_S A0 H0 H locs) (hA : ∀ q, q < H.size → A1 q → A0 q) (hf : ∀ q, free q → A0 q) (hAX : ∀ q, q < H.size → AX q → A0 q)
    (kx : ∀ (E : String) (ce : Cell) (q9 : Addr) (u : SX) (t : State) (H1 : Heap) (locs1 : List Loc), t.heap = H1 → s.vm.Alike t.vm → px u → BX E u t → H.size ≤ H1.size → (∀ q : Nat, q < H.size → ¬ AX q → H1[q]? = H[q]?) → va_S A0 H0 H1 locs1 → H1[q9]? = some ce → ce.vm = .none → s.vm.findClass E = some ce.cls → vx_W p l e R s m args below meth c H1 locs1 (cells + mc) (slots + ms) Q (F0 m pc ls rest) q9)
    (kk : ∀ (r : Int32) (u : S) (t : State) (H1 : Heap) (locs1 : List Loc), t.heap = H1 → s.vm.Alike t.vm → post r u → B u t → H.size ≤ H1.size → (∀ q : Nat, q < H.size → ¬ A1 q → H1[q]? = H[q]?) → va_S A0 H0 H1 locs1 → W p l e R s m args below meth c H1 locs1 (cells + mc) (slots + ms) Q (F0 m (pc + 3) ls (.int r :: rest))) : W p l e R s m args below meth c H locs cells slots Q (F0 m pc ls st0) := by
  intro T hT X
  rcases hr T hT X with ⟨v, st₀, t, T', L, h0, X', hL, e1, e2, ⟨⟨r, u, hv, hp, hb⟩, hF⟩, st⟩ | ⟨q, st₀, t, T', L, E, ce, h0, X', hL, e1, e2, ⟨u, hp, hb, hF⟩, hce, hcv, hcl, st⟩
  · cases hv
    obtain ⟨k1, k2, k3⟩ := vx_keep h0 e1 hS hA hf hL hF
    obtain ⟨t2, a1, b1⟩ := kk r u t T'.heap (locs ++ L) e1.symm (by rw [← e2]; exact X'.warmed.alike) hp hb k1 k2 k3 T' rfl X'
    exact ⟨t2, st t2 a1, b1⟩
  · obtain ⟨k1, k2, k3⟩ := vx_keep h0 e1 hS hAX hf hL hF
    obtain ⟨t2, a1, b1⟩ := kx E ce q u t T'.heap (locs ++ L) e1.symm (by rw [← e2]; exact X'.warmed.alike) hp hb k1 k2 k3 (by rw [e1]; exact hce) hcv hcl T' rfl X'
    exact ⟨t2, st.trans a1, b1⟩
theorem vx_calll {S SX : Type} {post : Int64 → S → Prop} {px : SX → Prop} {B : S → State → Prop} {BX : String → SX → State → Prop} {AX : Nat → Prop} (hr : vx_Run p l e R s m args below meth c H locs cells slots mc ms (F0 m pc ls st0) rest (va_Ql post B A1 a) (vx_X px BX AX) free) (hS : va_S A0 H0 H locs) (hA : ∀ q, q < H.size → A1 q → A0 q) (hf : ∀ q, free q → A0 q) (hAX : ∀ q, q < H.size → AX q → A0 q)
    (kx : ∀ (E : String) (ce : Cell) (q9 : Addr) (u : SX) (t : State) (H1 : Heap) (locs1 : List Loc), t.heap = H1 → s.vm.Alike t.vm → px u → BX E u t → H.size ≤ H1.size → (∀ q : Nat, q < H.size → ¬ AX q → H1[q]? = H[q]?) → va_S A0 H0 H1 locs1 → H1[q9]? = some ce → ce.vm = .none → s.vm.findClass E = some ce.cls → vx_W p l e R s m args below meth c H1 locs1 (cells + mc) (slots + ms) Q (F0 m pc ls rest) q9)
    (kk : ∀ (r : Int64) (u : S) (t : State) (H1 : Heap) (locs1 : List Loc), t.heap = H1 → s.vm.Alike t.vm → post r u → B u t → H.size ≤ H1.size → (∀ q : Nat, q < H.size → ¬ A1 q → H1[q]? = H[q]?) → va_S A0 H0 H1 locs1 → W p l e R s m args below meth c H1 locs1 (cells + mc) (slots + ms) Q (F0 m (pc + 3) ls (.long r :: rest))) : W p l e R s m args below meth c H locs cells slots Q (F0 m pc ls st0) := by
  intro T hT X
  rcases hr T hT X with ⟨v, st₀, t, T', L, h0, X', hL, e1, e2, ⟨⟨r, u, hv, hp, hb⟩, hF⟩, st⟩ | ⟨q, st₀, t, T', L, E, ce, h0, X', hL, e1, e2, ⟨u, hp, hb, hF⟩, hce, hcv, hcl, st⟩
  · cases hv
    obtain ⟨k1, k2, k3⟩ := vx_keep h0 e1 hS hA hf hL hF
    obtain ⟨t2, a1, b1⟩ := kk r u t T'.heap (locs ++ L) e1.symm (by rw [← e2]; exact X'.warmed.alike) hp hb k1 k2 k3 T' rfl X'
    exact ⟨t2, st t2 a1, b1⟩
  · obtain ⟨k1, k2, k3⟩ := vx_keep h0 e1 hS hAX hf hL hF
    obtain ⟨t2, a1, b1⟩ := kx E ce q u t T'.heap (locs ++ L) e1.symm (by rw [← e2]; exact X'.warmed.alike) hp hb k1 k2 k3 (by rw [e1]; exact hce) hcv hcl T' rfl X'
    exact ⟨t2, st.trans a1, b1⟩
theorem vx_callf {S SX : Type} {post : UInt32 → S → Prop} {px : SX → Prop} {B : S → State → Prop} {BX : String → SX → State → Prop} {AX : Nat → Prop} (hr : vx_Run p l e R s m args below meth c H locs cells slots mc ms (F0 m pc ls st0) rest (va_Qf post B A1 a) (vx_X px BX AX) free) (hS : va_S A0 H0 H locs) (hA : ∀ q, q < H.size → A1 q → A0 q) (hf : ∀ q, free q → A0 q) (hAX : ∀ q, q < H.size → AX q → A0 q)
    (kx : ∀ (E : String) (ce : Cell) (q9 : Addr) (u : SX) (t : State) (H1 : Heap) (locs1 : List Loc), t.heap = H1 → s.vm.Alike t.vm → px u → BX E u t → H.size ≤ H1.size → (∀ q : Nat, q < H.size → ¬ AX q → H1[q]? = H[q]?) → va_S A0 H0 H1 locs1 → H1[q9]? = some ce → ce.vm = .none → s.vm.findClass E = some ce.cls → vx_W p l e R s m args below meth c H1 locs1 (cells + mc) (slots + ms) Q (F0 m pc ls rest) q9)
    (kk : ∀ (r : UInt32) (u : S) (t : State) (H1 : Heap) (locs1 : List Loc), t.heap = H1 → s.vm.Alike t.vm → post r u → B u t → H.size ≤ H1.size → (∀ q : Nat, q < H.size → ¬ A1 q → H1[q]? = H[q]?) → va_S A0 H0 H1 locs1 → W p l e R s m args below meth c H1 locs1 (cells + mc) (slots + ms) Q (F0 m (pc + 3) ls (.float r :: rest))) : W p l e R s m args below meth c H locs cells slots Q (F0 m pc ls st0) := by
  intro T hT X
  rcases hr T hT X with ⟨v, st₀, t, T', L, h0, X', hL, e1, e2, ⟨⟨r, u, hv, hp, hb⟩, hF⟩, st⟩ | ⟨q, st₀, t, T', L, E, ce, h0, X', hL, e1, e2, ⟨u, hp, hb, hF⟩, hce, hcv, hcl, st⟩
  · cases hv
    obtain ⟨k1, k2, k3⟩ := vx_keep h0 e1 hS hA hf hL hF
    obtain ⟨t2, a1, b1⟩ := kk r u t T'.heap (locs ++ L) e1.symm (by rw [← e2]; exact X'.warmed.alike) hp hb k1 k2 k3 T' rfl X'
    exact ⟨t2, st t2 a1, b1⟩
  · obtain ⟨k1, k2, k3⟩ := vx_keep h0 e1 hS hAX hf hL hF
    obtain ⟨t2, a1, b1⟩ := kx E ce q u t T'.heap (locs ++ L) e1.symm (by rw [← e2]; exact X'.warmed.alike) hp hb k1 k2 k3 (by rw [e1]; exact hce) hcv hcl T' rfl X'
    exact ⟨t2, st.trans a1, b1⟩
theorem vx_calld {S SX : Type} {post : UInt64 → S → Prop} {px : SX → Prop} {B : S → State → Prop} {BX : String → SX → State → Prop} {AX : Nat → Prop} (hr : vx_Run p l e R s m args below meth c H locs cells slots mc ms (F0 m pc ls st0) rest (va_Qd post B A1 a) (vx_X px BX AX) free) (hS : va_S A0 H0 H locs) (hA : ∀ q, q < H.size → A1 q → A0 q) (hf : ∀ q, free q → A0 q) (hAX : ∀ q, q < H.size → AX q → A0 q)
    (kx : ∀ (E : String) (ce : Cell) (q9 : Addr) (u : SX) (t : State) (H1 : Heap) (locs1 : List Loc), t.heap = H1 → s.vm.Alike t.vm → px u → BX E u t → H.size ≤ H1.size → (∀ q : Nat, q < H.size → ¬ AX q → H1[q]? = H[q]?) → va_S A0 H0 H1 locs1 → H1[q9]? = some ce → ce.vm = .none → s.vm.findClass E = some ce.cls → vx_W p l e R s m args below meth c H1 locs1 (cells + mc) (slots + ms) Q (F0 m pc ls rest) q9)
    (kk : ∀ (r : UInt64) (u : S) (t : State) (H1 : Heap) (locs1 : List Loc), t.heap = H1 → s.vm.Alike t.vm → post r u → B u t → H.size ≤ H1.size → (∀ q : Nat, q < H.size → ¬ A1 q → H1[q]? = H[q]?) → va_S A0 H0 H1 locs1 → W p l e R s m args below meth c H1 locs1 (cells + mc) (slots + ms) Q (F0 m (pc + 3) ls (.double r :: rest))) : W p l e R s m args below meth c H locs cells slots Q (F0 m pc ls st0) := by
  intro T hT X
  rcases hr T hT X with ⟨v, st₀, t, T', L, h0, X', hL, e1, e2, ⟨⟨r, u, hv, hp, hb⟩, hF⟩, st⟩ | ⟨q, st₀, t, T', L, E, ce, h0, X', hL, e1, e2, ⟨u, hp, hb, hF⟩, hce, hcv, hcl, st⟩
  · cases hv
    obtain ⟨k1, k2, k3⟩ := vx_keep h0 e1 hS hA hf hL hF
    obtain ⟨t2, a1, b1⟩ := kk r u t T'.heap (locs ++ L) e1.symm (by rw [← e2]; exact X'.warmed.alike) hp hb k1 k2 k3 T' rfl X'
    exact ⟨t2, st t2 a1, b1⟩
  · obtain ⟨k1, k2, k3⟩ := vx_keep h0 e1 hS hAX hf hL hF
    obtain ⟨t2, a1, b1⟩ := kx E ce q u t T'.heap (locs ++ L) e1.symm (by rw [← e2]; exact X'.warmed.alike) hp hb k1 k2 k3 (by rw [e1]; exact hce) hcv hcl T' rfl X'
    exact ⟨t2, st.trans a1, b1⟩
theorem vx_callv {S SX : Type} {post : S → Prop} {px : SX → Prop} {B : S → State → Prop} {BX : String → SX → State → Prop} {AX : Nat → Prop} (hr : vx_Run p l e R s m args below meth c H locs cells slots mc ms (F0 m pc ls st0) rest (va_Qv post B A1 a) (vx_X px BX AX) free) (hS : va_S A0 H0 H locs) (hA : ∀ q, q < H.size → A1 q → A0 q) (hf : ∀ q, free q → A0 q) (hAX : ∀ q, q < H.size → AX q → A0 q)
    (kx : ∀ (E : String) (ce : Cell) (q9 : Addr) (u : SX) (t : State) (H1 : Heap) (locs1 : List Loc), t.heap = H1 → s.vm.Alike t.vm → px u → BX E u t → H.size ≤ H1.size → (∀ q : Nat, q < H.size → ¬ AX q → H1[q]? = H[q]?) → va_S A0 H0 H1 locs1 → H1[q9]? = some ce → ce.vm = .none → s.vm.findClass E = some ce.cls → vx_W p l e R s m args below meth c H1 locs1 (cells + mc) (slots + ms) Q (F0 m pc ls rest) q9)
    (kk : ∀ (u : S) (t : State) (H1 : Heap) (locs1 : List Loc), t.heap = H1 → s.vm.Alike t.vm → post u → B u t → H.size ≤ H1.size → (∀ q : Nat, q < H.size → ¬ A1 q → H1[q]? = H[q]?) → va_S A0 H0 H1 locs1 → W p l e R s m args below meth c H1 locs1 (cells + mc) (slots + ms) Q (F0 m (pc + 3) ls (rest))) : W p l e R s m args below meth c H locs cells slots Q (F0 m pc ls st0) := by
  intro T hT X
  rcases hr T hT X with ⟨v, st₀, t, T', L, h0, X', hL, e1, e2, ⟨⟨u, hv, hp, hb⟩, hF⟩, st⟩ | ⟨q, st₀, t, T', L, E, ce, h0, X', hL, e1, e2, ⟨u, hp, hb, hF⟩, hce, hcv, hcl, st⟩
  · cases hv
    obtain ⟨k1, k2, k3⟩ := vx_keep h0 e1 hS hA hf hL hF
    obtain ⟨t2, a1, b1⟩ := kk u t T'.heap (locs ++ L) e1.symm (by rw [← e2]; exact X'.warmed.alike) hp hb k1 k2 k3 T' rfl X'
    exact ⟨t2, st t2 a1, b1⟩
  · obtain ⟨k1, k2, k3⟩ := vx_keep h0 e1 hS hAX hf hL hF
    obtain ⟨t2, a1, b1⟩ := kx E ce q u t T'.heap (locs ++ L) e1.symm (by rw [← e2]; exact X'.warmed.alike) hp hb k1 k2 k3 (by rw [e1]; exact hce) hcv hcl T' rfl X'
    exact ⟨t2, st.trans a1, b1⟩
/-- caught by the row x of this method's table; the rows ahead don't take it -/
theorem vx_catch {own name : String} {E : String} {ce : Cell} {q : Addr} (hown : s.vm.findClass own = some m.cls) (pre : List ExceptionTableEntry) (x : ExceptionTableEntry) (suf : List ExceptionTableEntry) (hsplit : c.exceptionTable.toList = pre ++ x :: suf)
    (hpass : ∀ z ∈ pre, covers z pc = false ∨ (z.catchType ≠ 0 ∧ ∃ nm : String, (Cond.classLink own z.catchType nm).before args s = true ∧ va_Nc E nm s)) (hx : covers x pc = true) (h0 : x.catchType ≠ 0)
    (hlink : (Cond.classLink own x.catchType name).before args s = true) (hcast : (Cond.castable E name).before args s = true) (hcell : H[q]? = some ce) (hv : ce.vm = .none) (hcl : s.vm.findClass E = some ce.cls)
    (kk : W p l e R s m args below meth c H locs cells slots Q (F0 m x.handlerPc ls [.ref q])) : vx_W p l e R s m args below meth c H locs cells slots Q (F0 m pc ls rest) q := by
  intro T hT X
  have hpl : e.platform.magicAccessors = ({} : Platform).magicAccessors := by rw [X.admits.platform]
  obtain ⟨c3, c4, hc3, hc4, hasg⟩ := Cond.castable_spec hcast
  cases Option.some.inj (hc3.symm.trans hcl)
  obtain ⟨c5, hc5, hcl5⟩ := Cond.classLink_spec hown hlink e.platform hpl
  cases Option.some.inj (hc4.symm.trans hc5)
  obtain ⟨vm', X', st⟩ := X.thenCaughtThrough q (g := F0 m pc ls rest) rfl (Steps.refl _) (by rw [hT]; exact hcell) (by rw [hv]; rfl) (by obtain ⟨k9, h9, -⟩ := Vm.findClass_spec hcl; exact ⟨k9, h9⟩) pre x suf hsplit
    (fun z hz => by
      rcases hpass z hz with h | ⟨hz0, nm, hl1, hn1⟩
      · exact Or.inl h
      · obtain ⟨c6, hc6, hcl6⟩ := Cond.classLink_spec hown hl1 e.platform hpl
        obtain ⟨a8, b8, h1, h2, h3⟩ := hn1
        cases Option.some.inj (h1.symm.trans hcl)
        cases Option.some.inj (h2.symm.trans hc6)
        exact Or.inr ⟨hz0, _, hcl6, h3⟩) hx (Or.inr ⟨h0, c4, hcl5, hasg⟩)
  obtain ⟨t, a1, b1⟩ := kk (T.setVm vm') hT X'
  exact ⟨t, st.trans a1, b1⟩
end Rows
section Ends
variable {p : Program} {l : Launch} {e : Env} {R : Room} {s : State} {m : MethodId} {args : Array Value} {below : List Frame} {meth : Method} {c : Code} {H : Heap} {locs : List Loc} {cells slots : Nat} {Q : State → Prop}
variable {mc ms : Nat} {free : Addr → Prop} {A0 A1 : Nat → Prop} {H0 : Heap} {a : Array Value} {ls : Array Slot} {st0 rest : List Value}
variable {Qc : Array Value → State → Outcome → State → Prop} {XC : String → State → State → Prop}
/-- what a body that may throw owes at its end -/
def vx_MQ (below : List Frame) (Qc : Array Value → State → Outcome → State → Prop) (XC : String → State → State → Prop) (a : Array Value) (s : State) (mc ms : Nat) (free : Addr → Prop) : State → Prop := fun t =>
  ∃ o, t.status = .running ∧ Ended t below o ∧ vx_Q Qc XC mc ms free a s o t
theorem vx_ret {g : JFrame} {mc ms : Nat} (k : W p l e R s m args below meth c H locs cells slots (MQ below Qc args s mc ms free) g) : W p l e R s m args below meth c H locs cells slots (vx_MQ below Qc XC args s mc ms free) g := by
  intro T hT X
  obtain ⟨t, a1, o, b1, b2, b3, b4⟩ := k T hT X
  exact ⟨t, a1, o, b1, b2, Or.inl ⟨b3, b4⟩⟩
/-- not caught here: it goes on to the caller -/
theorem vx_widen {g : JFrame} {q : Addr} {k n : Nat} (h1 : cells ≤ k) (h2 : slots ≤ n) (kk : vx_W p l e R s m args below meth c H locs k n Q g q) : vx_W p l e R s m args below meth c H locs cells slots Q g q := fun T hT X => kk T hT (stand_widen X h1 h2)
theorem vx_out {pc : Nat} {E : String} {ce : Cell} {q : Addr} {mc ms : Nat} (hout : ∀ x ∈ c.exceptionTable.toList, covers x pc = false) (hlocks : meth.locks = false) (hcell : H[q]? = some ce) (hv : ce.vm = .none) (hcl : s.vm.findClass E = some ce.cls)
    (hx : ∀ t : State, t.heap = H → s.vm.Alike t.vm → XC E s t) (hf : ∀ z ∈ locs, free z.base) (hc : cells ≤ mc) (hs : slots ≤ ms) :
    vx_W p l e R s m args below meth c H locs cells slots (vx_MQ below Qc XC args s mc ms free) (F0 m pc ls rest) q := by
  intro T hT X
  obtain ⟨st1, hrun, hend, hW, hsm⟩ := X.leaveThrown q (g := F0 m pc ls rest) rfl rfl rfl hout hlocks
  have hcell9 : (T.setFrames (.throwing q :: below)).heap[q]? = some ce := by
    show T.heap[q]? = some ce
    rw [hT]; exact hcell
  exact ⟨_, st1, .threw q, hrun, hend, Or.inr ⟨q, rfl, E, ce, locs, hx _ hT hW.alike, hcell9, hv, hcl, hW, hsm.mono hc hs, hf⟩⟩
theorem vx_frame {U : State} {k n : Nat} (h : s.sameButNew ({ U with vm := s.vm } : State) locs k n) : s.heap.size ≤ U.heap.size ∧ ∀ q : Nat, q < s.heap.size → (∀ z ∈ locs, z.base ≠ q) → U.heap[q]? = s.heap[q]? := by
  obtain ⟨-, h2, -, -, -, h6⟩ := h
  refine ⟨h2, fun q hq hz => ?_⟩
  obtain ⟨c9, e1, e2, e3, e4⟩ := h6 q _ (Array.getElem?_eq_getElem hq)
  have hs : c9.slots = (s.heap[q]).slots := Array.ext_getElem? fun i => e4 i fun hm => hz _ hm rfl
  have h9 : c9 = s.heap[q] := by
    rw [hs] at e2
    exact e2
  have e5 : U.heap[q]? = some c9 := e1
  rw [e5, h9, Array.getElem?_eq_getElem hq]
/-- the words of a throw but the four that speak of the heap -/
def vx_no (w : Cond) : Bool := decide (w ≠ .isRef (.static Bundle.tN "UNASSIGNED_STACK" Bundle.steD)) && decide (w ≠ .isRef (.static Bundle.tN "SUPPRESSED_SENTINEL" Bundle.listD)) && decide (w ≠ .laysStatic Bundle.tN "UNASSIGNED_STACK" Bundle.steD) && decide (w ≠ .laysStatic Bundle.tN "SUPPRESSED_SENTINEL" Bundle.listD)
def vx_at0 (own : String) (ic : Nat) (X : String) (names : List String) : List Cond := (Bundle.ownAtoms0 own ic X names).filter vx_no
def vx_atS (own : String) (ic : Nat) (X : String) (names : List String) : List Cond := (Bundle.ownAtoms own ic X names).filter vx_no
/-- a word that the tables alone decide, or a good one -/
def vx_ot (w : Cond) : Bool := w.onTables || goodWord w
theorem vx_ot_at {args a' : Array Value} {s U : State} {w : Cond} (hW : s.WarmedH U.vm) (hvm : s.vm = U.vm) (hg : vx_ot w = true) (h : w.before args s = true) : w.before a' U = true := by
  simp only [vx_ot, Bool.or_eq_true] at hg
  rcases hg with hg | hg
  · exact va_tabs hg hvm h
  · exact word_at hW (good_of_word hg) h
/-- a list's words: the good ones out of the method's own list, the others by premises of their own -/
theorem vx_hat {args : Array Value} {s : State} {L B : List Cond} (h1 : ∀ w ∈ L.filter goodWord, w.before args s = true) (h2 : ∀ w ∈ L.filter (fun w => !goodWord w), w ∈ B) (h3 : ∀ w ∈ B, w.before args s = true) : ∀ w ∈ L, w.before args s = true := by
  intro w hw
  by_cases g : goodWord w = true
  · exact h1 w (List.mem_filter.mpr ⟨hw, g⟩)
  · refine h3 w (h2 w (List.mem_filter.mpr ⟨hw, ?_⟩))
    show (!goodWord w) = true
    cases hgw : goodWord w
    · rfl
    · exact absurd hgw g
theorem vx_c {args : Array Value} {s : State} {w : Cond} {B : List Cond} (h : w.before args s = true) (t : ∀ w ∈ B, w.before args s = true) : ∀ w' ∈ w :: B, w'.before args s = true := fun w' h' => (List.mem_cons.mp h').elim (fun e => by rw [e]; exact h) (t w')
theorem vx_n {args : Array Value} {s : State} : ∀ w ∈ ([] : List Cond), w.before args s = true := fun _ h => nomatch h
theorem vx_own {args : Array Value} {s : State} {L : List Cond} (h1 : ∀ w ∈ L.filter vx_no, w.before args s = true)
    (hU : (Cond.isRef (.static Bundle.tN "UNASSIGNED_STACK" Bundle.steD)).before args s = true) (hN : (Cond.isRef (.static Bundle.tN "SUPPRESSED_SENTINEL" Bundle.listD)).before args s = true)
    (lU : (Cond.laysStatic Bundle.tN "UNASSIGNED_STACK" Bundle.steD).before args s = true) (lN : (Cond.laysStatic Bundle.tN "SUPPRESSED_SENTINEL" Bundle.listD).before args s = true) : ∀ w ∈ L, w.before args s = true := by
  intro w hw
  by_cases e1 : w = .isRef (.static Bundle.tN "UNASSIGNED_STACK" Bundle.steD)
  · rw [e1]; exact hU
  · by_cases e2 : w = .isRef (.static Bundle.tN "SUPPRESSED_SENTINEL" Bundle.listD)
    · rw [e2]; exact hN
    · by_cases e3 : w = .laysStatic Bundle.tN "UNASSIGNED_STACK" Bundle.steD
      · rw [e3]; exact lU
      · by_cases e4 : w = .laysStatic Bundle.tN "SUPPRESSED_SENTINEL" Bundle.listD
        · rw [e4]; exact lN
        · exact h1 w (List.mem_filter.mpr ⟨hw, by unfold vx_no; rw [decide_eq_true e1, decide_eq_true e2, decide_eq_true e3, decide_eq_true e4]; rfl⟩)
/-- where a static field lies, its class's statics cell in H -/
def vx_L (C n d : String) (A : Nat → Prop) (U : State) (H : Heap) : Prop := ∃ (c : ClassId) (k : Class) (i : Nat) (f : Field) (a : Nat) (cell : Cell), U.vm.findClass C = some c ∧ U.fieldFound? C n d = some (c, k, i, f) ∧ f.isStatic = true ∧ k.statics = some a ∧ H[a]? = some cell ∧ cell.vm.isStatics = true ∧ cell.cls = c ∧ f.slot < cell.slots.size ∧ k.staticTypes[f.slot]? = some f.type ∧ ¬ A a
theorem vx_L.moved {C n d : String} {A : Nat → Prop} {u U : State} {H : Heap} (hvm : u.vm.Alike U.vm) (h : vx_L C n d A u H) : vx_L C n d A U H := by
  obtain ⟨c, k, i, f, a, cell, h1, h2, h3, h4, h5, h6, h7, h8, h9, h10⟩ := h
  obtain ⟨k', hi', he⟩ := State.fieldFound?_setVm hvm h2
  exact ⟨c, k', i, f, a, cell, by rw [hvm.findClass]; exact h1, hi', h3, by rw [he]; exact h4, h5, h6, h7, h8, by rw [he]; exact h9, h10⟩
theorem vx_L.kept {C n d : String} {A : Nat → Prop} {U : State} {H H1 : Heap} (h : vx_L C n d A U H) (hq : ∀ a : Nat, a < H.size → ¬ A a → H1[a]? = H[a]?) : vx_L C n d A U H1 := by
  obtain ⟨c, k, i, f, a, cell, h1, h2, h3, h4, h5, h6, h7, h8, h9, h10⟩ := h
  exact ⟨c, k, i, f, a, cell, h1, h2, h3, h4, by rw [hq a (Array.getElem?_eq_some_iff.mp h5).1 h10]; exact h5, h6, h7, h8, h9, h10⟩
theorem vx_L.narrow {C n d : String} {A B : Nat → Prop} {U : State} {H : Heap} (h : vx_L C n d A U H) (hAB : ∀ q, B q → A q) : vx_L C n d B U H := by
  obtain ⟨c, k, i, f, a, cell, h1, h2, h3, h4, h5, h6, h7, h8, h9, h10⟩ := h
  exact ⟨c, k, i, f, a, cell, h1, h2, h3, h4, h5, h6, h7, h8, h9, fun z => h10 (hAB _ z)⟩
theorem vx_L.word {C n d : String} {A : Nat → Prop} {s : State} {args : Array Value} (h : vx_L C n d A s s.heap) : (Cond.laysStatic C n d).before args s = true := by
  obtain ⟨c, k, i, f, a, cell, h1, h2, h3, h4, h5, h6, h7, h8, h9, -⟩ := h
  show (Cond.laysStatic C n d).holds args s none s [] = true
  exact Cond.laysStatic_of h1 h2 h3 h4 h5 h6 h7 h8 h9
/-- .. and what it holds: null or some reference -/
def vx_Zq (C n d : String) (A : Nat → Prop) (U : State) (H : Heap) : Prop := va_Zq C n d A U H ∧ vx_L C n d A U H
theorem vx_Zq.moved {C n d : String} {A : Nat → Prop} {u U : State} {H : Heap} (hvm : u.vm.Alike U.vm) (h : vx_Zq C n d A u H) : vx_Zq C n d A U H := ⟨va_Zq.moved hvm h.1, vx_L.moved hvm h.2⟩
theorem vx_Zq.kept {C n d : String} {A : Nat → Prop} {U : State} {H H1 : Heap} (h : vx_Zq C n d A U H) (hq : ∀ a : Nat, a < H.size → ¬ A a → H1[a]? = H[a]?) : vx_Zq C n d A U H1 := ⟨va_Zq.kept h.1 hq, vx_L.kept h.2 hq⟩
theorem vx_Zq.narrow {C n d : String} {A B : Nat → Prop} {U : State} {H : Heap} (h : vx_Zq C n d A U H) (hAB : ∀ q, B q → A q) : vx_Zq C n d B U H := ⟨va_Zq.narrow h.1 hAB, vx_L.narrow h.2 hAB⟩
theorem vx_Zqof {args : Array Value} {s : State} {C n d : String} {A : Nat → Prop} (hl : (Cond.laysStatic C n d).before args s = true) (hini : (Cond.initialized C).before args s = true) (h : (Cond.isRef (.static C n d)).before args s = true) (hA : ∀ a : Nat, a < s.heap.size → ¬ A a) : vx_Zq C n d A s s.heap := by
  refine ⟨va_Zqof hl hini h hA, ?_⟩
  obtain ⟨c, k, i, f, a, cell, h1, h2, h3, h4, h5, h6, h7, h8, h9⟩ := Cond.laysStatic_spec hl
  exact ⟨c, k, i, f, a, cell, h1, h2, h3, h4, h5, h6, h7, h8, h9, hA a (Array.getElem?_eq_some_iff.mp h5).1⟩
theorem vx_isRef {C n d : String} {v : Value} {A : Nat → Prop} {s : State} {args : Array Value} (h : va_Z C n d v A s s.heap) (hv : v.isRef = true) : (Cond.isRef (.static C n d)).before args s = true := by
  obtain ⟨cf, kf, fi, f, a, cell, h1, h2, h3, h4, h5, h6, h7, -⟩ := h
  have he : (Term.static C n d).eval args s none [] s = some v := by
    simp [Term.eval, State.fieldNamed?, h1, h2, h4, h5, h6, h7]
  simp only [Cond.before, Cond.holds, Cond.value, he]
  cases v <;> simp_all [Value.isRef]
theorem vx_isRefq {C n d : String} {A : Nat → Prop} {s : State} {args : Array Value} (h : va_Zq C n d A s s.heap) : (Cond.isRef (.static C n d)).before args s = true := by
  rcases h with h | ⟨t, h⟩
  · exact vx_isRef h rfl
  · exact vx_isRef h rfl
/-- the same frame, seen from here: as if the method were called anew in this heap -/
theorem vx_rebase {T : State} (X : Stand p l e R s m args below meth c T locs cells slots) {R' : Room} (hf : R'.frames ≤ R.frames) (hl : R'.locals ≤ R.locals) (hc : cells + R'.cells ≤ R.cells) (hs : slots + R'.slots ≤ R.slots) :
    Stand p l e R' ((T.setVm s.vm).setFrames (.invoking m args :: below)) m args below meth c T [] 0 0 := by
  have htop : (T.setVm s.vm).topJava?.isSome := X.here.top
  have hF : ((T.setVm s.vm).setFrames (.invoking m args :: below)).frames = .invoking m args :: below := State.frames_setFrames _ (State.cur_lt_of_top htop)
  obtain ⟨g₀, hg0⟩ := Option.isSome_iff_exists.mp htop
  obtain ⟨r, hr⟩ := State.topJava?_eq_some.mp hg0
  have hl9 : e.platform.stackLimits (T.setVm s.vm).me = e.platform.stackLimits s.me := X.limits
  have hb9 : (T.setVm s.vm).me.stackBytes = s.me.stackBytes := X.bytes
  refine ⟨X.admits, X.cas, X.clock, hF, ?_, X.hears, X.method, X.code, X.here, X.tail, X.warmed, ?_, ?_, ?_⟩
  · have h := X.room
    have hU : ((T.setVm s.vm).setFrames (.invoking m args :: below)).localsInUse = s.localsInUse := by
      rw [State.localsInUse_invoking hF (meth := meth) (c := c) X.method X.code, State.localsInUse_invoking X.frames X.method X.code]
    simp only [State.hasRoom, Bool.and_eq_true, decide_eq_true_eq] at h ⊢
    obtain ⟨⟨⟨⟨h1, h2, h3, h4, h5, h6⟩, h7⟩, h8⟩, h9⟩ := h
    rw [X.frames, List.length_cons] at h2 h3
    have q1 := X.heapSize
    have q2 := X.used
    simp only [hF, hU, List.length_cons, State.stackLimits_setFrames, State.stackBytes_setFrames, hl9, hb9]
    refine ⟨⟨⟨⟨by omega, by omega, by omega, by omega, by omega, h6⟩, ?_⟩, ?_⟩, X.book⟩
    · show T.heap.size + R'.cells ≤ e.platform.maxCells
      omega
    · show T.slotsUsed + R'.slots ≤ e.platform.maxSlots
      omega
  · rw [State.stackLimits_setFrames]; rfl
  · rw [State.stackBytes_setFrames]; rfl
  · refine ⟨?_, Nat.le_refl _, Nat.le_refl _, ?_, ?_, fun a c9 h9 => ⟨c9, h9, rfl, rfl, fun _ _ => rfl⟩⟩
    · obtain ⟨t, ht, -⟩ := State.frames_cons hr
      show T.setVm s.vm = { ((T.setVm s.vm).setFrames (.invoking m args :: below)).setFrames (T.setVm s.vm).frames with heap := T.heap, slotsUsed := T.slotsUsed }
      rw [State.setFrames_setFrames, State.setFrames_self ht]
      rfl
    · show T.slotsUsed = T.slotsUsed + ((T.heap.toList.drop T.heap.size).map (·.slots.size)).sum
      rw [List.drop_eq_nil_of_le (Nat.le_of_eq Array.length_toList)]
      rfl
    · show ((T.heap.toList.drop T.heap.size).map (·.slots.size)).sum ≤ 0
      rw [List.drop_eq_nil_of_le (Nat.le_of_eq Array.length_toList)]
      exact Nat.le_refl _
/-- 'throw new E()': new; dup; invokespecial; athrow -/
theorem vx_throw0 {cc : ByteArray} {pc : Nat} (hexec : p.tables.exec = Jvm.exec) (hb : c.code = cc) (hl : l.stackTraces = false) {own cls : String} {names : List String} {ik ic mc ms : Nat} {A : Nat → Prop}
    (hown : s.vm.findClass own = some m.cls) (hcls : Bundle.fit cls = true) (hnames : ∀ n ∈ names, Bundle.fit n = true)
    (hk : (Cond.classLink own ik cls).before args s = true) (hini : (Cond.initialized cls).before args s = true) (hat : ∀ w ∈ vx_at0 own ic cls names, w.before args s = true)
    (hgood : ∀ w ∈ Cond.classLink own ik cls :: Cond.initialized cls :: vx_at0 own ic cls names, vx_ot w = true)
    (hU : vx_Zq Bundle.tN "UNASSIGNED_STACK" Bundle.steD A s s.heap) (hN : vx_Zq Bundle.tN "SUPPRESSED_SENTINEL" Bundle.listD A s s.heap) (hS : va_S A s.heap H locs) (hsize : ls.size = c.maxLocals)
    (d0 : decode cc pc = .ok (.new ik, 3)) (d3 : decode cc (pc + 3) = .ok (.dup, 1)) (d4 : decode cc (pc + 4) = .ok (.invokespecial ic, 3)) (d7 : decode cc (pc + 7) = .ok (.athrow, 1))
    (hout : ∀ x ∈ c.exceptionTable.toList, covers x (pc + 7) = false)
    (hRframes : names.length + 3 < R.frames) (hRlocals : (rest.map fun v => v.category).sum + (13 * (names.length + 1) + 42) ≤ R.locals) (hRcells : cells + 1 ≤ R.cells) (hRslots : slots + 6 ≤ R.slots) (hlocks : meth.locks = false)
    (hx : ∀ t : State, s.vm.Alike t.vm → H.size ≤ t.heap.size → (∀ q : Nat, q < H.size → t.heap[q]? = H[q]?) → XC cls s t)
    (hf : ∀ z ∈ locs, free z.base) (hc : cells + 1 ≤ mc) (hs : slots + 6 ≤ ms) :
    W p l e R s m args below meth c H locs cells slots (vx_MQ below Qc XC args s mc ms free) (F0 m pc ls rest) := by
  intro T hT X
  have htr : e.platform.stackTraces = false := (show e.platform.stackTraces = l.stackTraces by rw [X.admits.platform]).trans hl
  have Y := vx_rebase X (R' := { frames := R.frames, locals := R.locals, cells := 1, slots := 6 }) (Nat.le_refl _) (Nat.le_refl _) hRcells hRslots
  obtain ⟨s', hA⟩ : ∃ z, z = (T.setVm s.vm).setFrames (.invoking m args :: below) := ⟨_, rfl⟩
  rw [← hA] at Y
  have hvm : s'.vm = s.vm := by rw [hA]; rfl
  have hhp : s'.heap = H := by rw [hA]; exact hT
  have hW0 : s.WarmedH s'.vm := by rw [hvm]; exact State.WarmedH.refl s
  have hat' : ∀ w ∈ vx_at0 own ic cls names, w.before args s' = true := fun w hw => vx_ot_at hW0 hvm.symm (hgood w (List.mem_cons_of_mem _ (List.mem_cons_of_mem _ hw))) (hat w hw)
  have hk' : (Cond.classLink own ik cls).before args s' = true := vx_ot_at hW0 hvm.symm (hgood _ List.mem_cons_self) hk
  have hini' : (Cond.initialized cls).before args s' = true := vx_ot_at hW0 hvm.symm (hgood _ (List.mem_cons_of_mem _ List.mem_cons_self)) hini
  have hU' : vx_Zq Bundle.tN "UNASSIGNED_STACK" Bundle.steD A s' s'.heap := by rw [hhp]; exact vx_Zq.moved hW0.alike (hU.kept hS.2.1)
  have hN' : vx_Zq Bundle.tN "SUPPRESSED_SENTINEL" Bundle.listD A s' s'.heap := by rw [hhp]; exact vx_Zq.moved hW0.alike (hN.kept hS.2.1)
  have h : ∀ w ∈ Bundle.ownAtoms0 own ic cls names, w.before args s' = true := vx_own hat' (vx_isRefq hU'.1) (vx_isRefq hN'.1) hU'.2.word hN'.2.word
  have hown' : s'.vm.findClass own = some m.cls := by rw [hvm]; exact hown
  have hins : (Cond.instantiable cls 6).before args s' = true := h _ (by simp [Bundle.ownAtoms0])
  obtain ⟨vm₁, cX, kX, hfX, hkX, -, -, X₁, st1⟩ := Y.newCold hexec (own := own) (C := cls) (index := ik) (n := 6) hown' hk' hins hini'
    (g := F0 m pc ls rest) rfl (by rw [hb]; exact d0) (Nat.le_refl _) (Nat.le_refl _)
  generalize hT1 : (T.setVm vm₁).pushCell { cls := cX, slots := kX.instanceTypes.map defaultValue, vm := .none } = T1 at X₁ st1
  have hcat : (Value.ref T.heap.size).category = 1 := rfl
  have hcellA : T1.heap[T.heap.size]? = some (freshCell cX kX) := by rw [← hT1]; exact State.heap_pushCell_size _ _
  have d3' : decode c.code (pc + 3) = .ok (.dup, 1) := by rw [hb]; exact d3
  obtain ⟨U, hsteps, hrun, hend, hW, hsame, ce, hce, hO⟩ := X₁.ctorThrow0 hexec htr (own := own) (cls := cls) (names := names) (ic := ic) hown' hcls hnames h (fun x hx => nomatch hx) hfX hkX hcellA (by rw [hhp, hT]; exact Nat.le_refl _)
    (g := { method := m, pc := pc + 4, locals := ls, stack := .ref T.heap.size :: .ref T.heap.size :: rest, locked := none }) rfl hsize rfl rfl (rest := rest) rfl
    (by rw [hb]; exact d4) (by rw [hb]; exact d7) hout hRframes (by simp only [List.map_cons, List.sum_cons, hcat]; omega) hlocks
  obtain ⟨f1, f2⟩ := vx_frame hsame
  rw [hhp] at f1 f2
  have hWs : s.WarmedH U.vm := State.WarmedH.trans hW0 hW
  have hcl : s.vm.findClass cls = some ce.cls := by
    have h9 := hO.cls
    rw [hvm] at h9
    exact h9
  have hall : s.sameButNew ({ U with vm := s.vm } : State) locs mc ms := by
    subst hA
    obtain ⟨e1, e2⟩ := hsame
    rw [State.setFrames_setFrames] at e1
    have h2 : (T.setVm s.vm).sameButNew ({ U with vm := s.vm } : State) [] (0 + 1) (0 + 6) := ⟨e1, e2⟩
    have h3 := X.same.trans h2
    rw [List.append_nil] at h3
    exact h3.mono hc hs
  refine ⟨U, ?_, .threw T.heap.size, hrun, hend, Or.inr ⟨T.heap.size, rfl, cls, ce, locs, hx U hWs.alike f1 (fun q hq => f2 q hq (fun z hz => nomatch hz)), hce, hO.vm, hcl, hWs, hall, hf⟩⟩
  refine st1 _ ?_
  show Steps p.tables e below (T1.setTop { method := m, pc := pc + 3, locals := ls, stack := .ref T.heap.size :: rest, locked := none }) _
  jvm_step X₁.here [X₁.here.top, hexec, d3', Value.category]
  exact hsteps
/-- 'throw new E("text")': new; dup; ldc; invokespecial; athrow -/
theorem vx_throwS {cc : ByteArray} {pc : Nat} (hexec : p.tables.exec = Jvm.exec) (hb : c.code = cc) (hl : l.stackTraces = false) {own cls text : String} {names : List String} {ik is ic mc ms sa : Nat} {A : Nat → Prop}
    (hown : s.vm.findClass own = some m.cls) (hcls : Bundle.fit cls = true) (hnames : ∀ n ∈ names, Bundle.fit n = true)
    (hk : (Cond.classLink own ik cls).before args s = true) (hini : (Cond.initialized cls).before args s = true) (hstr : vk_R own is text sa s) (hat : ∀ w ∈ vx_atS own ic cls names, w.before args s = true)
    (hgood : ∀ w ∈ Cond.classLink own ik cls :: Cond.initialized cls :: vx_atS own ic cls names, vx_ot w = true)
    (hU : vx_Zq Bundle.tN "UNASSIGNED_STACK" Bundle.steD A s s.heap) (hN : vx_Zq Bundle.tN "SUPPRESSED_SENTINEL" Bundle.listD A s s.heap) (hS : va_S A s.heap H locs) (hsize : ls.size = c.maxLocals)
    (d0 : decode cc pc = .ok (.new ik, 3)) (d3 : decode cc (pc + 3) = .ok (.dup, 1)) (d4 : decode cc (pc + 4) = .ok (.ldc is, 2)) (d6 : decode cc (pc + 6) = .ok (.invokespecial ic, 3)) (d9 : decode cc (pc + 9) = .ok (.athrow, 1))
    (hout : ∀ x ∈ c.exceptionTable.toList, covers x (pc + 9) = false)
    (hRframes : names.length + 3 < R.frames) (hRlocals : (rest.map fun v => v.category).sum + (13 * (names.length + 1) + 43) ≤ R.locals) (hRcells : cells + 1 ≤ R.cells) (hRslots : slots + 6 ≤ R.slots) (hlocks : meth.locks = false)
    (hx : ∀ t : State, s.vm.Alike t.vm → H.size ≤ t.heap.size → (∀ q : Nat, q < H.size → t.heap[q]? = H[q]?) → XC cls s t)
    (hf : ∀ z ∈ locs, free z.base) (hc : cells + 1 ≤ mc) (hs : slots + 6 ≤ ms) :
    W p l e R s m args below meth c H locs cells slots (vx_MQ below Qc XC args s mc ms free) (F0 m pc ls rest) := by
  intro T hT X
  have htr : e.platform.stackTraces = false := (show e.platform.stackTraces = l.stackTraces by rw [X.admits.platform]).trans hl
  have Y := vx_rebase X (R' := { frames := R.frames, locals := R.locals, cells := 1, slots := 6 }) (Nat.le_refl _) (Nat.le_refl _) hRcells hRslots
  obtain ⟨s', hA⟩ : ∃ z, z = (T.setVm s.vm).setFrames (.invoking m args :: below) := ⟨_, rfl⟩
  rw [← hA] at Y
  have hvm : s'.vm = s.vm := by rw [hA]; rfl
  have hhp : s'.heap = H := by rw [hA]; exact hT
  have hW0 : s.WarmedH s'.vm := by rw [hvm]; exact State.WarmedH.refl s
  have hat' : ∀ w ∈ vx_atS own ic cls names, w.before args s' = true := fun w hw => vx_ot_at hW0 hvm.symm (hgood w (List.mem_cons_of_mem _ (List.mem_cons_of_mem _ hw))) (hat w hw)
  have hk' : (Cond.classLink own ik cls).before args s' = true := vx_ot_at hW0 hvm.symm (hgood _ List.mem_cons_self) hk
  have hini' : (Cond.initialized cls).before args s' = true := vx_ot_at hW0 hvm.symm (hgood _ (List.mem_cons_of_mem _ List.mem_cons_self)) hini
  have hU' : vx_Zq Bundle.tN "UNASSIGNED_STACK" Bundle.steD A s' s'.heap := by rw [hhp]; exact vx_Zq.moved hW0.alike (hU.kept hS.2.1)
  have hN' : vx_Zq Bundle.tN "SUPPRESSED_SENTINEL" Bundle.listD A s' s'.heap := by rw [hhp]; exact vx_Zq.moved hW0.alike (hN.kept hS.2.1)
  have h : ∀ w ∈ Bundle.ownAtoms own ic cls names, w.before args s' = true := vx_own hat' (vx_isRefq hU'.1) (vx_isRefq hN'.1) hU'.2.word hN'.2.word
  have hown' : s'.vm.findClass own = some m.cls := by rw [hvm]; exact hown
  have hins : (Cond.instantiable cls 6).before args s' = true := h _ (by simp [Bundle.ownAtoms])
  obtain ⟨vm₁, cX, kX, hfX, hkX, -, -, X₁, st1⟩ := Y.newCold hexec (own := own) (C := cls) (index := ik) (n := 6) hown' hk' hins hini'
    (g := F0 m pc ls rest) rfl (by rw [hb]; exact d0) (Nat.le_refl _) (Nat.le_refl _)
  generalize hT1 : (T.setVm vm₁).pushCell { cls := cX, slots := kX.instanceTypes.map defaultValue, vm := .none } = T1 at X₁ st1
  have hcat : (Value.ref T.heap.size).category = 1 := rfl
  have hcellA : T1.heap[T.heap.size]? = some (freshCell cX kX) := by rw [← hT1]; exact State.heap_pushCell_size _ _
  have d3' : decode c.code (pc + 3) = .ok (.dup, 1) := by rw [hb]; exact d3
  have d4' : decode c.code (pc + 4) = .ok (.ldc is, 2) := by rw [hb]; exact d4
  have hstr' : vk_R own is text sa s' := vk_R.warm hW0 hstr
  obtain ⟨U, hsteps, hrun, hend, hW, hsame, ce, hce, hO⟩ := X₁.ctorThrowS hexec htr (own := own) (cls := cls) (names := names) (ic := ic) hown' hcls hnames h (fun x hx => nomatch hx) hfX hkX hcellA (by rw [hhp, hT]; exact Nat.le_refl _) (msg := .ref sa) rfl
    (g := { method := m, pc := pc + 6, locals := ls, stack := .ref sa :: .ref T.heap.size :: .ref T.heap.size :: rest, locked := none }) rfl hsize rfl rfl (rest := rest) rfl
    (by rw [hb]; exact d6) (by rw [hb]; exact d9) hout hRframes (by simp only [List.map_cons, List.sum_cons, hcat]; omega) hlocks
  obtain ⟨f1, f2⟩ := vx_frame hsame
  rw [hhp] at f1 f2
  have hWs : s.WarmedH U.vm := State.WarmedH.trans hW0 hW
  have hcl : s.vm.findClass cls = some ce.cls := by
    have h9 := hO.cls
    rw [hvm] at h9
    exact h9
  have hall : s.sameButNew ({ U with vm := s.vm } : State) locs mc ms := by
    subst hA
    obtain ⟨e1, e2⟩ := hsame
    rw [State.setFrames_setFrames] at e1
    have h2 : (T.setVm s.vm).sameButNew ({ U with vm := s.vm } : State) [] (0 + 1) (0 + 6) := ⟨e1, e2⟩
    have h3 := X.same.trans h2
    rw [List.append_nil] at h3
    exact h3.mono hc hs
  refine ⟨U, ?_, .threw T.heap.size, hrun, hend, Or.inr ⟨T.heap.size, rfl, cls, ce, locs, hx U hWs.alike f1 (fun q hq => f2 q hq (fun z hz => nomatch hz)), hce, hO.vm, hcl, hWs, hall, hf⟩⟩
  refine st1 _ ?_
  show Steps p.tables e below (T1.setTop { method := m, pc := pc + 3, locals := ls, stack := .ref T.heap.size :: rest, locked := none }) _
  jvm_step X₁.here [X₁.here.top, hexec, d3', Value.category]
  exact X₁.ldcString hexec (own := own) (text := text) (index := is) (a := sa) hown' hstr'.1 hstr'.2
    (g := { method := m, pc := pc + 4, locals := ls, stack := .ref T.heap.size :: .ref T.heap.size :: rest, locked := none }) rfl d4' _ hsteps
/-- 'throw new E("text")', the text by a wide index -/
theorem vx_throwSW {cc : ByteArray} {pc : Nat} (hexec : p.tables.exec = Jvm.exec) (hb : c.code = cc) (hl : l.stackTraces = false) {own cls text : String} {names : List String} {ik is ic mc ms sa : Nat} {A : Nat → Prop}
    (hown : s.vm.findClass own = some m.cls) (hcls : Bundle.fit cls = true) (hnames : ∀ n ∈ names, Bundle.fit n = true)
    (hk : (Cond.classLink own ik cls).before args s = true) (hini : (Cond.initialized cls).before args s = true) (hstr : vk_R own is text sa s) (hat : ∀ w ∈ vx_atS own ic cls names, w.before args s = true)
    (hgood : ∀ w ∈ Cond.classLink own ik cls :: Cond.initialized cls :: vx_atS own ic cls names, vx_ot w = true)
    (hU : vx_Zq Bundle.tN "UNASSIGNED_STACK" Bundle.steD A s s.heap) (hN : vx_Zq Bundle.tN "SUPPRESSED_SENTINEL" Bundle.listD A s s.heap) (hS : va_S A s.heap H locs) (hsize : ls.size = c.maxLocals)
    (d0 : decode cc pc = .ok (.new ik, 3)) (d3 : decode cc (pc + 3) = .ok (.dup, 1)) (d4 : decode cc (pc + 4) = .ok (.ldc_w is, 3)) (d7 : decode cc (pc + 7) = .ok (.invokespecial ic, 3)) (d10 : decode cc (pc + 10) = .ok (.athrow, 1))
    (hout : ∀ x ∈ c.exceptionTable.toList, covers x (pc + 10) = false)
    (hRframes : names.length + 3 < R.frames) (hRlocals : (rest.map fun v => v.category).sum + (13 * (names.length + 1) + 43) ≤ R.locals) (hRcells : cells + 1 ≤ R.cells) (hRslots : slots + 6 ≤ R.slots) (hlocks : meth.locks = false)
    (hx : ∀ t : State, s.vm.Alike t.vm → H.size ≤ t.heap.size → (∀ q : Nat, q < H.size → t.heap[q]? = H[q]?) → XC cls s t)
    (hf : ∀ z ∈ locs, free z.base) (hc : cells + 1 ≤ mc) (hs : slots + 6 ≤ ms) :
    W p l e R s m args below meth c H locs cells slots (vx_MQ below Qc XC args s mc ms free) (F0 m pc ls rest) := by
  intro T hT X
  have htr : e.platform.stackTraces = false := (show e.platform.stackTraces = l.stackTraces by rw [X.admits.platform]).trans hl
  have Y := vx_rebase X (R' := { frames := R.frames, locals := R.locals, cells := 1, slots := 6 }) (Nat.le_refl _) (Nat.le_refl _) hRcells hRslots
  obtain ⟨s', hA⟩ : ∃ z, z = (T.setVm s.vm).setFrames (.invoking m args :: below) := ⟨_, rfl⟩
  rw [← hA] at Y
  have hvm : s'.vm = s.vm := by rw [hA]; rfl
  have hhp : s'.heap = H := by rw [hA]; exact hT
  have hW0 : s.WarmedH s'.vm := by rw [hvm]; exact State.WarmedH.refl s
  have hat' : ∀ w ∈ vx_atS own ic cls names, w.before args s' = true := fun w hw => vx_ot_at hW0 hvm.symm (hgood w (List.mem_cons_of_mem _ (List.mem_cons_of_mem _ hw))) (hat w hw)
  have hk' : (Cond.classLink own ik cls).before args s' = true := vx_ot_at hW0 hvm.symm (hgood _ List.mem_cons_self) hk
  have hini' : (Cond.initialized cls).before args s' = true := vx_ot_at hW0 hvm.symm (hgood _ (List.mem_cons_of_mem _ List.mem_cons_self)) hini
  have hU' : vx_Zq Bundle.tN "UNASSIGNED_STACK" Bundle.steD A s' s'.heap := by rw [hhp]; exact vx_Zq.moved hW0.alike (hU.kept hS.2.1)
  have hN' : vx_Zq Bundle.tN "SUPPRESSED_SENTINEL" Bundle.listD A s' s'.heap := by rw [hhp]; exact vx_Zq.moved hW0.alike (hN.kept hS.2.1)
  have h : ∀ w ∈ Bundle.ownAtoms own ic cls names, w.before args s' = true := vx_own hat' (vx_isRefq hU'.1) (vx_isRefq hN'.1) hU'.2.word hN'.2.word
  have hown' : s'.vm.findClass own = some m.cls := by rw [hvm]; exact hown
  have hins : (Cond.instantiable cls 6).before args s' = true := h _ (by simp [Bundle.ownAtoms])
  obtain ⟨vm₁, cX, kX, hfX, hkX, -, -, X₁, st1⟩ := Y.newCold hexec (own := own) (C := cls) (index := ik) (n := 6) hown' hk' hins hini'
    (g := F0 m pc ls rest) rfl (by rw [hb]; exact d0) (Nat.le_refl _) (Nat.le_refl _)
  generalize hT1 : (T.setVm vm₁).pushCell { cls := cX, slots := kX.instanceTypes.map defaultValue, vm := .none } = T1 at X₁ st1
  have hcat : (Value.ref T.heap.size).category = 1 := rfl
  have hcellA : T1.heap[T.heap.size]? = some (freshCell cX kX) := by rw [← hT1]; exact State.heap_pushCell_size _ _
  have d3' : decode c.code (pc + 3) = .ok (.dup, 1) := by rw [hb]; exact d3
  have d4' : decode c.code (pc + 4) = .ok (.ldc_w is, 3) := by rw [hb]; exact d4
  have hstr' : vk_R own is text sa s' := vk_R.warm hW0 hstr
  obtain ⟨U, hsteps, hrun, hend, hW, hsame, ce, hce, hO⟩ := X₁.ctorThrowS hexec htr (own := own) (cls := cls) (names := names) (ic := ic) hown' hcls hnames h (fun x hx => nomatch hx) hfX hkX hcellA (by rw [hhp, hT]; exact Nat.le_refl _) (msg := .ref sa) rfl
    (g := { method := m, pc := pc + 7, locals := ls, stack := .ref sa :: .ref T.heap.size :: .ref T.heap.size :: rest, locked := none }) rfl hsize rfl rfl (rest := rest) rfl
    (by rw [hb]; exact d7) (by rw [hb]; exact d10) hout hRframes (by simp only [List.map_cons, List.sum_cons, hcat]; omega) hlocks
  obtain ⟨f1, f2⟩ := vx_frame hsame
  rw [hhp] at f1 f2
  have hWs : s.WarmedH U.vm := State.WarmedH.trans hW0 hW
  have hcl : s.vm.findClass cls = some ce.cls := by
    have h9 := hO.cls
    rw [hvm] at h9
    exact h9
  have hall : s.sameButNew ({ U with vm := s.vm } : State) locs mc ms := by
    subst hA
    obtain ⟨e1, e2⟩ := hsame
    rw [State.setFrames_setFrames] at e1
    have h2 : (T.setVm s.vm).sameButNew ({ U with vm := s.vm } : State) [] (0 + 1) (0 + 6) := ⟨e1, e2⟩
    have h3 := X.same.trans h2
    rw [List.append_nil] at h3
    exact h3.mono hc hs
  refine ⟨U, ?_, .threw T.heap.size, hrun, hend, Or.inr ⟨T.heap.size, rfl, cls, ce, locs, hx U hWs.alike f1 (fun q hq => f2 q hq (fun z hz => nomatch hz)), hce, hO.vm, hcl, hWs, hall, hf⟩⟩
  refine st1 _ ?_
  show Steps p.tables e below (T1.setTop { method := m, pc := pc + 3, locals := ls, stack := .ref T.heap.size :: rest, locked := none }) _
  jvm_step X₁.here [X₁.here.top, hexec, d3', Value.category]
  exact X₁.ldcStringW hexec (own := own) (text := text) (index := is) (a := sa) hown' hstr'.1 hstr'.2
    (g := { method := m, pc := pc + 4, locals := ls, stack := .ref T.heap.size :: .ref T.heap.size :: rest, locked := none }) rfl d4' _ hsteps
end Ends
section Bodies
variable {l : Launch}
theorem vx_ofW {y : MethodName} {ws ws' : List Cond} {rm : Room} {Pc : Array Value → State → Prop} {Qc : Array Value → State → Outcome → State → Prop} {XC : String → State → State → Prop} {mc ms : Nat} {free : Addr → Prop} {cc : ByteArray} {maxL : Nat} {ret : Option FieldType}
    (hy : plainName y.cls = true) (hw : ws = Cond.code y cc maxL ret :: ws')
    (body : ∀ p e s m args below meth c s₁, BodyLoose p l y (headSpec ws rm) cc maxL ret e s m args below meth c s₁ → c.maxLocals = maxL → (∀ x ∈ c.exceptionTable.toList, False) → Pc args s →
      W p l e (headSpec ws rm).room s m args below meth c s.heap [] 0 0 (vx_MQ below Qc XC args s mc ms free) (entryFrame m args maxL)) : vx_Met l y ws rm Pc Qc XC mc ms free := by
  refine MetFree.of_bodyS (code := cc) (maxLocals := maxL) (ret := ret) hy ?_ ?_
  · intro args s m h hn
    obtain ⟨meth, c, h1, h2, h3, h4, h5, h6, -, -⟩ := Cond.code_spec hn (atoms_spec (ws := ws) h _ (by rw [hw]; exact List.mem_cons_self))
    exact ⟨meth, c, h1, h2, h3, h4, h5, h6⟩
  · intro p e s m args below meth c s₁ B hml hP _
    have hh0 : s₁.heap = s.heap := by rw [B.state]; rfl
    have ht : ∀ x ∈ c.exceptionTable.toList, False := by
      obtain ⟨meth9, c9, h1, h2, -, -, -, -, h7, -⟩ := Cond.code_spec B.named (atoms_spec (ws := ws) B.pre _ (by rw [hw]; exact List.mem_cons_self))
      cases Option.some.inj (h1.symm.trans B.method)
      cases Option.some.inj (h2.symm.trans (Stand.of_body B).code)
      intro x hx
      rw [Array.isEmpty_iff.mp h7] at hx
      cases hx
    obtain ⟨t, a1, o, b1, b2, b3⟩ := body p e s m args below meth c s₁ B hml ht hP s₁ hh0 (Stand.of_body B)
    exact ⟨t, o, a1, b1, b2, b3⟩
/-- the table of a body with handlers -/
theorem vx_table {p : Program} {x y : MethodName} {S : Spec} {cc bytes : ByteArray} {maxL maxL' : Nat} {ret ret' : Option FieldType} {e : Env} {s s₁ : State} {m : MethodId} {args : Array Value} {below : List Frame} {meth : Method} {c : Code} {hh : List (Nat × Nat × Nat × Nat)}
    (B : BodyLoose p l y S cc maxL ret e s m args below meth c s₁) (h : (Cond.codeWith y bytes maxL' ret' hh).before args s = true) : c.exceptionTable.toList = tableOf hh := by
  obtain ⟨m9, meth9, c9, hn9, h1, h2, -, -, h6, -⟩ := Cond.codeWith_spec h
  cases Option.some.inj (hn9.symm.trans B.named)
  cases Option.some.inj (h1.symm.trans B.method)
  cases Option.some.inj (h2.symm.trans (Stand.of_body B).code)
  rw [← h6, table_eq]
end Bodies
end VXA
/-! ===== END ===== -/
/-! ===== BEGIN a static call of a method with an exception table ===== -/
section VXS
variable {p : Program} {l : Launch} {e : Env} {R : Room} {s : State} {m : MethodId} {args : Array Value} {below : List Frame} {meth : Method} {c : Code} {T : State} {H : Heap} {locs : List Loc} {cells slots : Nat}
abbrev vx_CSW (R : Room) (s : State) (args : Array Value) (own : String) (index : Nat) (y : MethodName) (bytes : ByteArray) (maxL : Nat) (ret : Option FieldType) (hh : List (Nat × Nat × Nat × Nat)) (ws : List Cond) (rm : Room) (mc ms n : Nat) : Prop :=
  (rm.cells = mc ∧ rm.slots = ms ∧ rm.frames + 1 ≤ R.frames ∧ 8 + (maxL + 11) + rm.locals ≤ R.locals ∧ (∀ w ∈ ws, ∀ (a' : Array Value) (U : State), s.WarmedH U.vm → w.before a' U = true) ∧ Cond.codeWith y bytes maxL ret hh ∈ ws) ∧
  (Cond.codeWith y bytes maxL ret hh).before args s = true ∧ (Cond.initialized y.cls).before args s = true ∧ (y.cls ≠ "java/lang/invoke/MethodHandle" ∧ y.cls ≠ "java/lang/invoke/VarHandle") ∧
  (∀ sig, parseMethodDescriptor y.desc = some sig → n = sig.parameters.length) ∧ (Cond.methodLink own index y).before args s = true ∧ (Cond.static y).before args s = true
theorem vx_cwSW {own : String} {index maxL mc ms : Nat} {y : MethodName} {bytes : ByteArray} {ret : Option FieldType} {hh : List (Nat × Nat × Nat × Nat)} {Ts ws ws' : List Cond} {rm : Room} (n : Nat) (ht : ∀ w ∈ Ts, w.before args s = true) (hT : GoodIn Ts (va_wsS own index y ws)) (hw : ws = Cond.codeWith y bytes maxL ret hh :: ws') (hrc : rm.cells = mc) (hrs : rm.slots = ms)
    (hd : y.cls ≠ "java/lang/invoke/MethodHandle" ∧ y.cls ≠ "java/lang/invoke/VarHandle" ∧ (parseMethodDescriptor y.desc).map (fun d => d.parameters.length) = some n) (hR : rm.frames + 1 ≤ R.frames ∧ 8 + (maxL + 11) + rm.locals ≤ R.locals) :
    vx_CSW R s args own index y bytes maxL ret hh ws rm mc ms n := by
  have ok : ∀ w ∈ va_wsS own index y ws, w.before args s = true := fun w h => ht w (hT w h).1
  have hG : GoodIn Ts ws := fun w h => hT w (by unfold va_wsS; exact List.mem_append_right _ h)
  have hc : Cond.codeWith y bytes maxL ret hh ∈ ws := by rw [hw]; exact List.mem_cons_self
  refine ⟨⟨hrc, hrs, hR.1, hR.2, pay_in ht hG, hc⟩, ht _ (hG _ hc).1, ok _ (by simp [va_wsS]), ⟨hd.1, hd.2.1⟩, fun sig h => ?_, ok _ (by simp [va_wsS]), ok _ (by simp [va_wsS])⟩
  have h2 := hd.2.2
  rw [h] at h2
  exact (Option.some.inj h2).symm
theorem vx_callSW (X : Stand p l e R s m args below meth c T locs cells slots) (hexec : p.tables.exec = Jvm.exec) {own : String} {index : Nat} {y : MethodName} {bytes : ByteArray} {maxL : Nat} {ret : Option FieldType} {hh : List (Nat × Nat × Nat × Nat)}
    (hown : s.vm.findClass own = some m.cls) (hlink : (Cond.methodLink own index y).before args s = true) (hstat : (Cond.static y).before args s = true) (hinit : (Cond.initialized y.cls).before args s = true)
    (hcode : (Cond.codeWith y bytes maxL ret hh).before args s = true) (hy : y.cls ≠ "java/lang/invoke/MethodHandle" ∧ y.cls ≠ "java/lang/invoke/VarHandle")
    {W9 : Nat} {Pre : Pt → Array Value → Prop} {Post : Pt → Array Value → Option Value → Pt → Prop} (hK : Back l R p e below s args y 3 W9 Pre Post)
    {g : JFrame} (hg : g.method = m) (hsize : g.locals.size = c.maxLocals) {argsL rest : List Value} (hlen : ∀ sig, parseMethodDescriptor y.desc = some sig → argsL.length = sig.parameters.length)
    (hstack : g.stack = argsL.reverse ++ rest) (hW : 2 * g.monitorRoom + (rest.map fun v => v.category).sum ≤ W9) (hdg : decode c.code g.pc = .ok (.invokestatic index, 3))
    (hpre : ∀ vm₁, s.WarmedH vm₁ → Pre ⟨T.setVm vm₁, locs, cells, slots⟩ argsL.toArray) :
    ∃ (v : Option Value) (vm₁ : Vm) (B : Pt), s.WarmedH vm₁ ∧ Stand p l e R s m args below meth c B.U B.locs B.cells B.slots ∧ Post ⟨T.setVm vm₁, locs, cells, slots⟩ argsL.toArray v B ∧
      ∀ target, Steps p.tables e below (B.U.setTop { g with pc := g.pc + 3, stack := v.toList ++ rest }) target → Steps p.tables e below (T.setTop g) target := by
  obtain ⟨mk, methM, cM, hnamed, hmethM, -, -, -, -, -, -, hsigM⟩ := Cond.codeWith_spec hcode
  have hstatic : methM.isStatic = true := Cond.static_spec hnamed hmethM hstat
  obtain ⟨kP, hkP, -⟩ := className_of_methodNamed hnamed
  have hinitP : kP.init = .initialized := Cond.initialized_spec (findClass_of_methodNamed hnamed) hkP hinit
  obtain ⟨vm₁, X₁, hstep₁⟩ := X.invokestatic hexec hown hlink hnamed hmethM hstatic hkP hinitP hy (g := g) hg (argsL := argsL) (rest := rest) (hlen _ hsigM) hstack hdg
  obtain ⟨v, B, X', hpost, hsteps⟩ := hK m meth c ⟨T.setVm vm₁, locs, cells, slots⟩ { g with stack := rest } (.invokestatic index) mk argsL.toArray X₁ hg hsize hdg hW (X₁.named hnamed) (hpre vm₁ X₁.warmed)
  exact ⟨v, vm₁, B, X₁.warmed, X', hpost, fun target h => hstep₁ _ fun acts => by rw [doInvoke_state]; exact hsteps.trans h⟩
theorem vx_runSW {y : MethodName} {bytes cc : ByteArray} {maxL nL mc ms n index : Nat} {ret : Option FieldType} {hh : List (Nat × Nat × Nat × Nat)} {ws : List Cond} {rm : Room} {Pc : Array Value → State → Prop} {Qc : Array Value → State → Outcome → State → Prop} {free : Addr → Prop} {Ts : List Cond} {own : String} {As rest : List Value} {g : JFrame}
    (S : CallFix p m c cc nL s args Ts own) (hM : Met l y ws rm Pc Qc mc ms free) (cw : vx_CSW R s args own index y bytes maxL ret hh ws rm mc ms n) (hp : PreS s H Pc As)
    (hg : g.method = m) (hn : As.length = n) (hsize : g.locals.size = nL) (hstack : g.stack = As.reverse ++ rest) (hW : 2 * g.monitorRoom + (rest.map fun v => v.category).sum ≤ 8) (hdg : decode cc g.pc = .ok (.invokestatic index, 3)) (hf : cells + mc ≤ R.cells ∧ slots + ms ≤ R.slots) :
    va_Run p l e R s m args below meth c H locs cells slots mc ms g rest (Qc As.toArray) (free) := by
  obtain ⟨⟨hrc, hrs, hfr, hlo, hws, hcw⟩, hcode, hini, hy, hlen, hl, hstt⟩ := cw
  have hK : Back l R p e below s args y 3 8 (PreOf R mc ms Pc) (PostOf Qc mc ms free) := va_backW (hh := hh) (bytes := bytes) (maxL := maxL) (ret := ret) hM hp.1 hrc hrs hfr hlo hws hcw (fun a' U hW => word_at hW (Or.inl (by first | rfl | simp [Cond.onTables, Cond.keeps, Cond.steady])) hini)
  obtain ⟨hx, hb, hml, ho, -⟩ := S
  intro T hT X
  obtain ⟨v, vm₁, ⟨U', l2, c2, s2⟩, hW₁, X', ⟨g', mk, t, L, e1, e2, hq, h1, hL, h2, h3⟩, st⟩ := vx_callSW X hx (hh := hh) (bytes := bytes) (maxL := maxL) (ret := ret) ho hl hstt hini hcode hy hK hg (hsize.trans hml.symm) (argsL := As) (rest := rest) (fun sig h => hn.trans (hlen sig h)) hstack hW (by rw [hb]; exact hdg)
    (fun vm₁ hW₁ => ⟨hf.1, hf.2, hp.2 (T.setVm vm₁) hT hW₁⟩)
  dsimp only [Pt.U, Pt.locs, Pt.cells, Pt.slots] at X' e1 e2 h1 h2 h3 st
  subst h1; subst h2; subst h3
  exact ⟨v, (T.setVm vm₁).calling g' mk As.toArray, t, U', L, hT, X', hL, e1, e2, hq, st⟩
/-- not caught here, past rows that name other classes: it goes on to the caller -/
theorem vx_outP {p : Program} {l : Launch} {e : Env} {R : Room} {s : State} {m : MethodId} {args : Array Value} {below : List Frame} {meth : Method} {c : Code} {H : Heap} {locs : List Loc} {cells slots : Nat} {free : Addr → Prop} {ls : Array Slot} {rest : List Value} {Qc : Array Value → State → Outcome → State → Prop} {XC : String → State → State → Prop}
    {pc : Nat} {own E : String} {ce : Cell} {q : Addr} {mc ms : Nat} (hown : s.vm.findClass own = some m.cls) (hlocks : meth.locks = false)
    (hpass : ∀ z ∈ c.exceptionTable.toList, covers z pc = false ∨ (z.catchType ≠ 0 ∧ ∃ nm : String, (Cond.classLink own z.catchType nm).before args s = true ∧ va_Nc E nm s)) (hcell : H[q]? = some ce) (hv : ce.vm = .none) (hcl : s.vm.findClass E = some ce.cls)
    (hx : ∀ t : State, t.heap = H → s.vm.Alike t.vm → XC E s t) (hf : ∀ z ∈ locs, free z.base) (hc : cells ≤ mc) (hs : slots ≤ ms) :
    vx_W p l e R s m args below meth c H locs cells slots (vx_MQ below Qc XC args s mc ms free) (F0 m pc ls rest) q := by
  intro T hT X
  have hpl : e.platform.magicAccessors = ({} : Platform).magicAccessors := by rw [X.admits.platform]
  obtain ⟨vm', hW', X', st⟩ := X.outThrough hlocks q (g := F0 m pc ls rest) rfl rfl rfl (cell := ce) (by rw [hT]; exact hcell) (by rw [hv]; rfl)
    (by obtain ⟨k9, h9, -⟩ := Vm.findClass_spec hcl; exact ⟨k9, h9⟩) (fun z hz => by
      rcases hpass z hz with h | ⟨hz0, nm, hl1, hn1⟩
      · exact Or.inl h
      · obtain ⟨c6, hc6, hcl6⟩ := Cond.classLink_spec hown hl1 e.platform hpl
        obtain ⟨a8, b8, h1, h2, h3⟩ := hn1
        cases Option.some.inj (h1.symm.trans hcl)
        cases Option.some.inj (h2.symm.trans hc6)
        exact Or.inr ⟨hz0, _, hcl6, h3⟩)
  obtain ⟨g₀, hfr⟩ := X'.frames_eq
  have hcell9 : ((T.setVm vm').setFrames (.throwing q :: below)).heap[q]? = some ce := by
    show T.heap[q]? = some ce
    rw [hT]; exact hcell
  have hend : Ended ((T.setVm vm').setFrames (.throwing q :: below)) below (.threw q) := State.frames_setFrames _ (State.cur_lt_of_frames hfr)
  refine ⟨(T.setVm vm').setFrames (.throwing q :: below), ?_, .threw q, X'.here.running, hend, Or.inr ⟨q, rfl, E, ce, locs, hx _ hT (X'.ends _).1.alike, hcell9, hv, hcl, (X'.ends _).1, (X'.ends _).2.mono hc hs, hf⟩⟩
  rw [X.pushThrowing_eq]
  exact st
/-- a thing of a world lies in the heap -/
theorem vx_lt {D : va_G} {cl : List vw_C} {ws : va_W} {H1 : Heap} (h : va_P D cl ws H1) {k : Nat} {q : Nat × va_E} (hk : ws[k]? = some q) : q.1 < H1.size := (h k q hk).lt
end VXS
/-! ===== END ===== -/
/-! ===== BEGIN methods with a table of their own: called by a name, returning or throwing ===== -/
section VXH
/-! vx_backW, vx_callVX, vx_callSX, vx_callVW, vx_runVW, vx_runVX, vx_runSX, vx_ofWH follow the same proofs as their sisters above (Free/Laws.lean, Shelf42/LK1.lean); vx_outP calls Shelf42/NT130.lean (outThrough). -/
section
variable {l : Launch} {R : Room} {p : Program} {e : Env} {below : List Frame} {s : State} {sargs : Array Value} {y : MethodName} {len W9 : Nat}
theorem vx_backW {ws : List Cond} {rm : Room} {Pc : Array Value → State → Prop} {Qc : Array Value → State → Outcome → State → Prop} {XC : String → State → State → Prop} {mc ms : Nat} {free : Addr → Prop} {bytes : ByteArray} {maxL : Nat} {ret : Option FieldType} {hh : List (Nat × Nat × Nat × Nat)}
    (hM : vx_Met l y ws rm Pc Qc XC mc ms free) (hblind : FrameBlind Pc) (hrc : rm.cells = mc) (hrs : rm.slots = ms)
    (hframes : rm.frames + 1 ≤ R.frames) (hlocals : W9 + (maxL + 11) + rm.locals ≤ R.locals)
    (hws : ∀ w ∈ ws, ∀ a' U, s.WarmedH U.vm → w.before a' U = true) (hcode : Cond.codeWith y bytes maxL ret hh ∈ ws) (hinit : ∀ a' U, s.WarmedH U.vm → (Cond.initialized y.cls).before a' U = true) :
    vx_Back l R p e below s sargs y len W9 (PreOf R mc ms Pc) (PostOf Qc mc ms free) (vx_Post XC mc ms free) := by
  intro m meth c A g ig mk a X hg hsize hdg hW hn hp
  have h1 : (headSpec ws rm).pre.before a A.U = true := atoms_intro fun w hw => hws w hw _ _ X.warmed
  have h2 : (Cond.codeWith y bytes maxL ret hh).before a A.U = true := hws _ hcode _ _ X.warmed
  have h3 : (Cond.initialized y.cls).before a A.U = true := hinit _ _ X.warmed
  have h4 : A.cells + (headSpec ws rm).room.cells ≤ R.cells := by rw [show (headSpec ws rm).room.cells = mc from hrc]; exact hp.1
  have h5 : A.slots + (headSpec ws rm).room.slots ≤ R.slots := by rw [show (headSpec ws rm).room.slots = ms from hrs]; exact hp.2.1
  have hPc : Pc a (A.U.calling g mk a) := hblind _ _ _ _ hp.2.2
  obtain ⟨U, Ls, c0, s0⟩ := A
  dsimp only [Pt.U, Pt.locs, Pt.cells, Pt.slots] at h1 h2 h3 h4 h5 X hn hPc ⊢
  obtain ⟨m9, methY, cY, hn9, hmY, hcY, -, hlY, -⟩ := Cond.codeWith_spec h2
  cases Option.some.inj (hn9.symm.trans hn)
  obtain ⟨kY, hkY, -⟩ := className_of_methodNamed hn
  have hinitY : kY.init = .initialized := Cond.initialized_spec (findClass_of_methodNamed hn) hkY h3
  have h : At U g.method c below := by rw [hg]; exact X.here
  have hlocals9 : W9 + (maxL + 11) + (headSpec ws rm).room.locals ≤ R.locals := hlocals
  have happ : (headSpec ws rm).appliesLoose y e.platform (U.calling g mk a) = true :=
    Spec.appliesLoose_calling (g := g) h hdg hn hkY hinitY
      (X.room_calling (g := g) (R' := (headSpec ws rm).room) hsize hmY hcY hframes (by rw [hlY]; omega) h4 h5) h1
  obtain ⟨mid, hmid⟩ := h.above
  have hfr : (U.setTop g).frames = (.java g :: mid) ++ below := by rw [State.frames_setTop' g h.top, hmid]; rfl
  obtain ⟨o, s₂, hsteps, -, hend, hq⟩ := Steps.callFree hM p X.admits X.cas X.clock (acts := []) hfr happ hPc trivial
  have hq' : vx_Q Qc XC mc ms free a (U.calling g mk a) o s₂ := hq
  rw [State.frames_setTop' g h.top] at hend
  obtain ⟨g₀, hg0⟩ := Option.isSome_iff_exists.mp h.top
  obtain ⟨r, hr⟩ := State.topJava?_eq_some.mp hg0
  have hr' : (({ U with heap := s₂.heap, slotsUsed := s₂.slotsUsed } : State).setVm s₂.vm).frames = .java g₀ :: r := hr
  rcases hq' with ⟨hqc, L, hfe, hL⟩ | ⟨q, rfl, E, ce, L, hx, hce, hcv, hcl, hW₂, hsm, hL⟩
  · obtain ⟨⟨v, rfl⟩, hW₂, e2, q2, q3, q4, q5, q6⟩ := id hfe
    have e3 : s₂ = ({ (U.calling g mk a).setFrames s₂.frames with heap := s₂.heap, slotsUsed := s₂.slotsUsed } : State).setVm s₂.vm := by
      have : s₂ = ({ s₂ with vm := (U.calling g mk a).vm } : State).setVm s₂.vm := rfl
      rw [e2] at this
      exact this
    obtain ⟨c₂, i₂, len₂, hc₂, hd₂, hf₂⟩ := hend
    have hW' : U.WarmedH s₂.vm := hW₂
    have hcc : c₂ = c := by
      have h1 : s₂.code? g.method = U.code? g.method := by
        rw [State.code?_eq, State.code?_eq, hW'.alike.method?]
      exact Option.some.inj (hc₂.symm.trans (h1.trans h.code))
    subst hcc
    have hlen : len₂ = len := by rw [hdg] at hd₂; cases hd₂; rfl
    subst hlen
    have hs₂ : s₂ = (({ U with heap := s₂.heap, slotsUsed := s₂.slotsUsed } : State).setVm s₂.vm).setTop { g with pc := g.pc + len₂, stack := v.toList ++ g.stack } := by
      refine e3.trans ?_
      rw [hf₂, State.calling_eq h.top, State.setFrames_setFrames, State.setTop_of_frames _ hr', hr]
      rfl
    have hsame : U.sameButNew ({ U with heap := s₂.heap, slotsUsed := s₂.slotsUsed } : State) L mc ms := by
      refine ⟨?_, q2, q3, q4, q5, q6⟩
      obtain ⟨t, ht, -⟩ := State.frames_cons hr
      show ({ U with heap := s₂.heap, slotsUsed := s₂.slotsUsed } : State) = { U.setFrames U.frames with heap := s₂.heap, slotsUsed := s₂.slotsUsed }
      rw [State.setFrames_self ht]
    subst hg
    refine Or.inl ⟨v, ⟨(({ U with heap := s₂.heap, slotsUsed := s₂.slotsUsed } : State).setVm s₂.vm), Ls ++ L, c0 + mc, s0 + ms⟩,
      ⟨X.admits, X.cas, X.clock, X.frames, X.room, X.hears, X.method, X.code, (X.here.setHeapUsed s₂.heap s₂.slotsUsed).setVm hW'.alike, X.tail, State.WarmedH.trans X.warmed hW', X.limits, X.bytes, X.same.trans (hsame.setVm s.vm)⟩,
      ⟨g, mk, s₂, L, rfl, rfl, hqc, rfl, hL, rfl, rfl⟩, ?_⟩
    show Steps p.tables e below _ ((({ U with heap := s₂.heap, slotsUsed := s₂.slotsUsed } : State).setVm s₂.vm).setTop { g with pc := g.pc + len₂, stack := v.toList ++ g.stack })
    rw [← hs₂]
    exact hsteps
  · obtain ⟨e2, q2, q3, q4, q5, q6⟩ := id hsm
    have e3 : s₂ = ({ (U.calling g mk a).setFrames s₂.frames with heap := s₂.heap, slotsUsed := s₂.slotsUsed } : State).setVm s₂.vm := by
      have : s₂ = ({ s₂ with vm := (U.calling g mk a).vm } : State).setVm s₂.vm := rfl
      rw [e2] at this
      exact this
    have hf₂ : s₂.frames = .throwing q :: .java g :: U.frames.tail := hend
    have hW' : U.WarmedH s₂.vm := hW₂
    have hs₂ : s₂ = ((({ U with heap := s₂.heap, slotsUsed := s₂.slotsUsed } : State).setVm s₂.vm).setTop g).pushFrame (.throwing q) := by
      refine e3.trans ?_
      rw [hf₂, State.calling_eq h.top, State.setFrames_setFrames, State.pushFrame, State.frames_setTop _ hr', State.setTop_of_frames _ hr', State.setFrames_setFrames, hr]
      rfl
    have hsame : U.sameButNew ({ U with heap := s₂.heap, slotsUsed := s₂.slotsUsed } : State) L mc ms := by
      refine ⟨?_, q2, q3, q4, q5, q6⟩
      obtain ⟨t, ht, -⟩ := State.frames_cons hr
      show ({ U with heap := s₂.heap, slotsUsed := s₂.slotsUsed } : State) = { U.setFrames U.frames with heap := s₂.heap, slotsUsed := s₂.slotsUsed }
      rw [State.setFrames_self ht]
    subst hg
    refine Or.inr ⟨q, ⟨(({ U with heap := s₂.heap, slotsUsed := s₂.slotsUsed } : State).setVm s₂.vm), Ls ++ L, c0 + mc, s0 + ms⟩,
      ⟨X.admits, X.cas, X.clock, X.frames, X.room, X.hears, X.method, X.code, (X.here.setHeapUsed s₂.heap s₂.slotsUsed).setVm hW'.alike, X.tail, State.WarmedH.trans X.warmed hW', X.limits, X.bytes, X.same.trans (hsame.setVm s.vm)⟩,
      ⟨g, mk, s₂, L, E, ce, rfl, rfl, hx, hce, hcv, hcl, rfl, hL, rfl, rfl⟩, ?_⟩
    show Steps p.tables e below _ (((({ U with heap := s₂.heap, slotsUsed := s₂.slotsUsed } : State).setVm s₂.vm).setTop g).pushFrame (.throwing q))
    rw [← hs₂]
    exact hsteps
end
variable {p : Program} {l : Launch} {e : Env} {R : Room} {s : State} {m : MethodId} {args : Array Value} {below : List Frame} {meth : Method} {c : Code} {T : State} {H : Heap} {locs : List Loc} {cells slots : Nat}
theorem vx_callVX (X : Stand p l e R s m args below meth c T locs cells slots) (hexec : p.tables.exec = Jvm.exec) {own C : String} {index : Nat} {y : MethodName} {bytes : ByteArray} {maxL : Nat} {ret : Option FieldType} {hh : List (Nat × Nat × Nat × Nat)}
    (hown : s.vm.findClass own = some m.cls) (hlink : (Cond.methodLink own index y).before args s = true) (hinst : (Cond.instanceMethod y).before args s = true) (hsel : (Cond.selects C y y).before args s = true)
    (hcode : (Cond.codeWith y bytes maxL ret hh).before args s = true) (hy : y.cls ≠ "java/lang/invoke/MethodHandle" ∧ y.cls ≠ "java/lang/invoke/VarHandle")
    {W9 : Nat} {Pre : Pt → Array Value → Prop} {Post : Pt → Array Value → Option Value → Pt → Prop} {PostX : Pt → Array Value → Addr → Pt → Prop} (hK : vx_Back l R p e below s args y 3 W9 Pre Post PostX)
    {b : Addr} {cellB : Cell} (hcell : T.heap[b]? = some cellB) (hobj : cellB.vm.isStatics = false) (hcls : s.vm.findClass C = some cellB.cls)
    {g : JFrame} (hg : g.method = m) (hsize : g.locals.size = c.maxLocals) {argsL rest : List Value} (hlen : ∀ sig, parseMethodDescriptor y.desc = some sig → argsL.length = sig.parameters.length)
    (hstack : g.stack = argsL.reverse ++ .ref b :: rest) (hW : 2 * g.monitorRoom + (rest.map fun v => v.category).sum ≤ W9) (hdg : decode c.code g.pc = .ok (.invokevirtual index, 3))
    (hpre : ∀ vm₁, s.WarmedH vm₁ → Pre ⟨T.setVm vm₁, locs, cells, slots⟩ (Value.ref b :: argsL).toArray) :
    (∃ (v : Option Value) (vm₁ : Vm) (B : Pt), s.WarmedH vm₁ ∧ Stand p l e R s m args below meth c B.U B.locs B.cells B.slots ∧ Post ⟨T.setVm vm₁, locs, cells, slots⟩ (Value.ref b :: argsL).toArray v B ∧
      ∀ target, Steps p.tables e below (B.U.setTop { g with pc := g.pc + 3, stack := v.toList ++ rest }) target → Steps p.tables e below (T.setTop g) target) ∨
    (∃ (q : Addr) (vm₁ : Vm) (B : Pt), s.WarmedH vm₁ ∧ Stand p l e R s m args below meth c B.U B.locs B.cells B.slots ∧ PostX ⟨T.setVm vm₁, locs, cells, slots⟩ (Value.ref b :: argsL).toArray q B ∧
      Steps p.tables e below (T.setTop g) ((B.U.setTop { g with stack := rest }).pushFrame (.throwing q))) := by
  obtain ⟨mk, methM, hnamed, hmethM, hstM, habM⟩ := Cond.instanceMethod_spec hinst
  obtain ⟨m8, methM', cM, hn8, hmethM', -, -, -, -, -, -, hsigM⟩ := Cond.codeWith_spec hcode
  cases Option.some.inj (hn8.symm.trans hnamed)
  cases hmethM.symm.trans hmethM'
  obtain ⟨c2, r2, m2, q1, q2, q3, q4, kP, hkP, hkPi⟩ := Cond.selects_spec hsel
  cases hcls.symm.trans q1
  cases (State.methodFound?_of_named hnamed hy).symm.trans q2
  cases hnamed.symm.trans q3
  have hselP : selectMethod e.platform s.vm cellB.cls mk = .method mk := by rw [Launch.admits_selectMethod X.admits]; exact q4
  obtain ⟨vm₁, X₁, hstep₁⟩ := X.invokevirtual hexec hown hlink hnamed hmethM hstM hkP hkPi hy (a := b) (cell := cellB) hcell
    (fun z h => by rw [h] at hobj; cases hobj) hselP hmethM habM hkP hkPi (g := g) hg (argsL := argsL) (rest := rest) (hlen _ hsigM) hstack hdg
  rcases hK m meth c ⟨T.setVm vm₁, locs, cells, slots⟩ { g with stack := rest } (.invokevirtual index) mk (Value.ref b :: argsL).toArray X₁ hg hsize hdg hW (X₁.named hnamed) (hpre vm₁ X₁.warmed) with ⟨v, B, X', hpost, hsteps⟩ | ⟨q, B, X', hpost, hsteps⟩
  · exact Or.inl ⟨v, vm₁, B, X₁.warmed, X', hpost, fun target h => hstep₁ _ fun acts => by rw [doInvoke_state]; exact hsteps.trans h⟩
  · exact Or.inr ⟨q, vm₁, B, X₁.warmed, X', hpost, hstep₁ _ fun acts => by rw [doInvoke_state]; exact hsteps⟩
theorem vx_callSX (X : Stand p l e R s m args below meth c T locs cells slots) (hexec : p.tables.exec = Jvm.exec) {own : String} {index : Nat} {y : MethodName} {bytes : ByteArray} {maxL : Nat} {ret : Option FieldType} {hh : List (Nat × Nat × Nat × Nat)}
    (hown : s.vm.findClass own = some m.cls) (hlink : (Cond.methodLink own index y).before args s = true) (hstat : (Cond.static y).before args s = true) (hinit : (Cond.initialized y.cls).before args s = true)
    (hcode : (Cond.codeWith y bytes maxL ret hh).before args s = true) (hy : y.cls ≠ "java/lang/invoke/MethodHandle" ∧ y.cls ≠ "java/lang/invoke/VarHandle")
    {W9 : Nat} {Pre : Pt → Array Value → Prop} {Post : Pt → Array Value → Option Value → Pt → Prop} {PostX : Pt → Array Value → Addr → Pt → Prop} (hK : vx_Back l R p e below s args y 3 W9 Pre Post PostX)
    {g : JFrame} (hg : g.method = m) (hsize : g.locals.size = c.maxLocals) {argsL rest : List Value} (hlen : ∀ sig, parseMethodDescriptor y.desc = some sig → argsL.length = sig.parameters.length)
    (hstack : g.stack = argsL.reverse ++ rest) (hW : 2 * g.monitorRoom + (rest.map fun v => v.category).sum ≤ W9) (hdg : decode c.code g.pc = .ok (.invokestatic index, 3))
    (hpre : ∀ vm₁, s.WarmedH vm₁ → Pre ⟨T.setVm vm₁, locs, cells, slots⟩ argsL.toArray) :
    (∃ (v : Option Value) (vm₁ : Vm) (B : Pt), s.WarmedH vm₁ ∧ Stand p l e R s m args below meth c B.U B.locs B.cells B.slots ∧ Post ⟨T.setVm vm₁, locs, cells, slots⟩ argsL.toArray v B ∧
      ∀ target, Steps p.tables e below (B.U.setTop { g with pc := g.pc + 3, stack := v.toList ++ rest }) target → Steps p.tables e below (T.setTop g) target) ∨
    (∃ (q : Addr) (vm₁ : Vm) (B : Pt), s.WarmedH vm₁ ∧ Stand p l e R s m args below meth c B.U B.locs B.cells B.slots ∧ PostX ⟨T.setVm vm₁, locs, cells, slots⟩ argsL.toArray q B ∧
      Steps p.tables e below (T.setTop g) ((B.U.setTop { g with stack := rest }).pushFrame (.throwing q))) := by
  obtain ⟨mk, methM, cM, hnamed, hmethM, -, -, -, -, -, -, hsigM⟩ := Cond.codeWith_spec hcode
  have hstatic : methM.isStatic = true := Cond.static_spec hnamed hmethM hstat
  obtain ⟨kP, hkP, -⟩ := className_of_methodNamed hnamed
  have hinitP : kP.init = .initialized := Cond.initialized_spec (findClass_of_methodNamed hnamed) hkP hinit
  obtain ⟨vm₁, X₁, hstep₁⟩ := X.invokestatic hexec hown hlink hnamed hmethM hstatic hkP hinitP hy (g := g) hg (argsL := argsL) (rest := rest) (hlen _ hsigM) hstack hdg
  rcases hK m meth c ⟨T.setVm vm₁, locs, cells, slots⟩ { g with stack := rest } (.invokestatic index) mk argsL.toArray X₁ hg hsize hdg hW (X₁.named hnamed) (hpre vm₁ X₁.warmed) with ⟨v, B, X', hpost, hsteps⟩ | ⟨q, B, X', hpost, hsteps⟩
  · exact Or.inl ⟨v, vm₁, B, X₁.warmed, X', hpost, fun target h => hstep₁ _ fun acts => by rw [doInvoke_state]; exact hsteps.trans h⟩
  · exact Or.inr ⟨q, vm₁, B, X₁.warmed, X', hpost, hstep₁ _ fun acts => by rw [doInvoke_state]; exact hsteps⟩
theorem vx_callVW (X : Stand p l e R s m args below meth c T locs cells slots) (hexec : p.tables.exec = Jvm.exec) {own C : String} {index : Nat} {y : MethodName} {bytes : ByteArray} {maxL : Nat} {ret : Option FieldType} {hh : List (Nat × Nat × Nat × Nat)}
    (hown : s.vm.findClass own = some m.cls) (hlink : (Cond.methodLink own index y).before args s = true) (hinst : (Cond.instanceMethod y).before args s = true) (hsel : (Cond.selects C y y).before args s = true)
    (hcode : (Cond.codeWith y bytes maxL ret hh).before args s = true) (hy : y.cls ≠ "java/lang/invoke/MethodHandle" ∧ y.cls ≠ "java/lang/invoke/VarHandle")
    {W9 : Nat} {Pre : Pt → Array Value → Prop} {Post : Pt → Array Value → Option Value → Pt → Prop} (hK : Back l R p e below s args y 3 W9 Pre Post)
    {b : Addr} {cellB : Cell} (hcell : T.heap[b]? = some cellB) (hobj : cellB.vm.isStatics = false) (hcls : s.vm.findClass C = some cellB.cls)
    {g : JFrame} (hg : g.method = m) (hsize : g.locals.size = c.maxLocals) {argsL rest : List Value} (hlen : ∀ sig, parseMethodDescriptor y.desc = some sig → argsL.length = sig.parameters.length)
    (hstack : g.stack = argsL.reverse ++ .ref b :: rest) (hW : 2 * g.monitorRoom + (rest.map fun v => v.category).sum ≤ W9) (hdg : decode c.code g.pc = .ok (.invokevirtual index, 3))
    (hpre : ∀ vm₁, s.WarmedH vm₁ → Pre ⟨T.setVm vm₁, locs, cells, slots⟩ (Value.ref b :: argsL).toArray) :
    ∃ (v : Option Value) (vm₁ : Vm) (B : Pt), s.WarmedH vm₁ ∧ Stand p l e R s m args below meth c B.U B.locs B.cells B.slots ∧ Post ⟨T.setVm vm₁, locs, cells, slots⟩ (Value.ref b :: argsL).toArray v B ∧
      ∀ target, Steps p.tables e below (B.U.setTop { g with pc := g.pc + 3, stack := v.toList ++ rest }) target → Steps p.tables e below (T.setTop g) target := by
  obtain ⟨mk, methM, hnamed, hmethM, hstM, habM⟩ := Cond.instanceMethod_spec hinst
  obtain ⟨m8, methM', cM, hn8, hmethM', -, -, -, -, -, -, hsigM⟩ := Cond.codeWith_spec hcode
  cases Option.some.inj (hn8.symm.trans hnamed)
  cases hmethM.symm.trans hmethM'
  obtain ⟨c2, r2, m2, q1, q2, q3, q4, kP, hkP, hkPi⟩ := Cond.selects_spec hsel
  cases hcls.symm.trans q1
  cases (State.methodFound?_of_named hnamed hy).symm.trans q2
  cases hnamed.symm.trans q3
  have hselP : selectMethod e.platform s.vm cellB.cls mk = .method mk := by rw [Launch.admits_selectMethod X.admits]; exact q4
  obtain ⟨vm₁, X₁, hstep₁⟩ := X.invokevirtual hexec hown hlink hnamed hmethM hstM hkP hkPi hy (a := b) (cell := cellB) hcell
    (fun z h => by rw [h] at hobj; cases hobj) hselP hmethM habM hkP hkPi (g := g) hg (argsL := argsL) (rest := rest) (hlen _ hsigM) hstack hdg
  obtain ⟨v, B, X', hpost, hsteps⟩ := hK m meth c ⟨T.setVm vm₁, locs, cells, slots⟩ { g with stack := rest } (.invokevirtual index) mk (Value.ref b :: argsL).toArray X₁ hg hsize hdg hW (X₁.named hnamed) (hpre vm₁ X₁.warmed)
  exact ⟨v, vm₁, B, X₁.warmed, X', hpost, fun target h => hstep₁ _ fun acts => by rw [doInvoke_state]; exact hsteps.trans h⟩
abbrev vx_CVW (R : Room) (s : State) (args : Array Value) (own C : String) (index : Nat) (y : MethodName) (bytes : ByteArray) (maxL : Nat) (ret : Option FieldType) (hh : List (Nat × Nat × Nat × Nat)) (ws : List Cond) (rm : Room) (mc ms n : Nat) : Prop :=
  (rm.cells = mc ∧ rm.slots = ms ∧ rm.frames + 1 ≤ R.frames ∧ 8 + (maxL + 11) + rm.locals ≤ R.locals ∧ (∀ w ∈ ws, ∀ (a' : Array Value) (U : State), s.WarmedH U.vm → w.before a' U = true) ∧ Cond.codeWith y bytes maxL ret hh ∈ ws) ∧
  (Cond.codeWith y bytes maxL ret hh).before args s = true ∧ (Cond.initialized y.cls).before args s = true ∧ (y.cls ≠ "java/lang/invoke/MethodHandle" ∧ y.cls ≠ "java/lang/invoke/VarHandle") ∧
  (∀ sig, parseMethodDescriptor y.desc = some sig → n = sig.parameters.length) ∧ (Cond.methodLink own index y).before args s = true ∧ (Cond.instanceMethod y).before args s = true ∧ (Cond.selects C y y).before args s = true
theorem vx_cwVW {own C : String} {index maxL mc ms : Nat} {y : MethodName} {bytes : ByteArray} {ret : Option FieldType} {hh : List (Nat × Nat × Nat × Nat)} {Ts ws ws' : List Cond} {rm : Room} (n : Nat) (ht : ∀ w ∈ Ts, w.before args s = true) (hT : GoodIn Ts (wsV own index C y ws)) (hw : ws = Cond.codeWith y bytes maxL ret hh :: ws') (hrc : rm.cells = mc) (hrs : rm.slots = ms)
    (hd : y.cls = C ∧ y.cls ≠ "java/lang/invoke/MethodHandle" ∧ y.cls ≠ "java/lang/invoke/VarHandle" ∧ (parseMethodDescriptor y.desc).map (fun d => d.parameters.length) = some n) (hR : rm.frames + 1 ≤ R.frames ∧ 8 + (maxL + 11) + rm.locals ≤ R.locals) :
    vx_CVW R s args own C index y bytes maxL ret hh ws rm mc ms n := by
  obtain ⟨hC, hd⟩ := hd
  subst hC
  have ok : ∀ w ∈ wsV own index y.cls y ws, w.before args s = true := fun w h => ht w (hT w h).1
  have hG : GoodIn Ts ws := fun w h => hT w (by unfold wsV; exact List.mem_append_right _ h)
  have hc : Cond.codeWith y bytes maxL ret hh ∈ ws := by rw [hw]; exact List.mem_cons_self
  refine ⟨⟨hrc, hrs, hR.1, hR.2, pay_in ht hG, hc⟩, ht _ (hG _ hc).1, ok _ (by simp [wsV]), ⟨hd.1, hd.2.1⟩, fun sig h => ?_, ok _ (by simp [wsV]), ok _ (by simp [wsV]), ok _ (by simp [wsV])⟩
  have h2 := hd.2.2
  rw [h] at h2
  exact (Option.some.inj h2).symm
theorem vx_runVW {y : MethodName} {bytes cc : ByteArray} {maxL nL mc ms n index : Nat} {ret : Option FieldType} {hh : List (Nat × Nat × Nat × Nat)} {ws : List Cond} {rm : Room} {Pc : Array Value → State → Prop} {Qc : Array Value → State → Outcome → State → Prop} {free : Addr → Prop} {Ts : List Cond} {own C : String} {b : Addr} {As rest : List Value} {g : JFrame}
    (S : CallFix p m c cc nL s args Ts own) (hM : Met l y ws rm Pc Qc mc ms free) (cw : vx_CVW R s args own C index y bytes maxL ret hh ws rm mc ms n) (hp : PreV s H C b Pc As)
    (hg : g.method = m) (hn : As.length = n) (hsize : g.locals.size = nL) (hstack : g.stack = As.reverse ++ .ref b :: rest) (hW : 2 * g.monitorRoom + (rest.map fun v => v.category).sum ≤ 8) (hdg : decode cc g.pc = .ok (.invokevirtual index, 3)) (hf : cells + mc ≤ R.cells ∧ slots + ms ≤ R.slots) :
    va_Run p l e R s m args below meth c H locs cells slots mc ms g rest (Qc (Value.ref b :: As).toArray) free := by
  obtain ⟨⟨hrc, hrs, hfr, hlo, hws, hcw⟩, hcode, hini, hy, hlen, hl, hin, hse⟩ := cw
  have hK : Back l R p e below s args y 3 8 (PreOf R mc ms Pc) (PostOf Qc mc ms free) := va_backW (hh := hh) (bytes := bytes) (maxL := maxL) (ret := ret) hM hp.1 hrc hrs hfr hlo hws hcw (fun a' U hW => word_at hW (Or.inl (by first | rfl | simp [Cond.onTables, Cond.keeps, Cond.steady])) hini)
  obtain ⟨hx, hb, hml, ho, -⟩ := S
  obtain ⟨-, ⟨cellB, hcB, hoB, hclB⟩, hPc⟩ := hp
  intro T hT X
  obtain ⟨v, vm₁, ⟨U', l2, c2, s2⟩, hW₁, X', ⟨g', mk, t, L, e1, e2, hq, h1, hL, h2, h3⟩, st⟩ := vx_callVW X hx (C := C) (hh := hh) (bytes := bytes) (maxL := maxL) (ret := ret) ho hl hin hse hcode hy hK (by rw [hT]; exact hcB) hoB hclB hg (hsize.trans hml.symm) (argsL := As) (rest := rest) (fun sig h => hn.trans (hlen sig h)) hstack hW (by rw [hb]; exact hdg)
    (fun vm₁ hW₁ => ⟨hf.1, hf.2, hPc (T.setVm vm₁) hT hW₁⟩)
  dsimp only [Pt.U, Pt.locs, Pt.cells, Pt.slots] at X' e1 e2 h1 h2 h3 st
  subst h1; subst h2; subst h3
  exact ⟨v, (T.setVm vm₁).calling g' mk (Value.ref b :: As).toArray, t, U', L, hT, X', hL, e1, e2, hq, st⟩
section
variable {y : MethodName} {bytes cc : ByteArray} {maxL nL mc ms n index : Nat} {ret : Option FieldType} {ws : List Cond} {rm : Room} {Pc : Array Value → State → Prop} {Qc : Array Value → State → Outcome → State → Prop} {XC : String → State → State → Prop} {free : Addr → Prop} {Ts : List Cond} {own C : String} {b : Addr} {As rest : List Value} {g : JFrame}
theorem vx_runVX {hh : List (Nat × Nat × Nat × Nat)} (S : CallFix p m c cc nL s args Ts own) (hM : vx_Met l y ws rm Pc Qc XC mc ms free) (cw : vx_CVW R s args own C index y bytes maxL ret hh ws rm mc ms n) (hp : PreV s H C b Pc As)
    (hg : g.method = m) (hn : As.length = n) (hsize : g.locals.size = nL) (hstack : g.stack = As.reverse ++ .ref b :: rest) (hW : 2 * g.monitorRoom + (rest.map fun v => v.category).sum ≤ 8) (hdg : decode cc g.pc = .ok (.invokevirtual index, 3)) (hf : cells + mc ≤ R.cells ∧ slots + ms ≤ R.slots) :
    vx_Run p l e R s m args below meth c H locs cells slots mc ms g rest (Qc (Value.ref b :: As).toArray) XC free := by
  obtain ⟨⟨hrc, hrs, hfr, hlo, hws, hcw⟩, hcode, hini, hy, hlen, hl, hin, hse⟩ := cw
  have hK : vx_Back l R p e below s args y 3 8 (PreOf R mc ms Pc) (PostOf Qc mc ms free) (vx_Post XC mc ms free) := vx_backW (hh := hh) (bytes := bytes) (maxL := maxL) (ret := ret) hM hp.1 hrc hrs hfr hlo hws hcw (fun a' U hW => word_at hW (Or.inl (by first | rfl | simp [Cond.onTables, Cond.keeps, Cond.steady])) hini)
  obtain ⟨hx, hb, hml, ho, -⟩ := S
  obtain ⟨-, ⟨cellB, hcB, hoB, hclB⟩, hPc⟩ := hp
  intro T hT X
  rcases vx_callVX X hx (C := C) (hh := hh) (bytes := bytes) (maxL := maxL) (ret := ret) ho hl hin hse hcode hy hK (by rw [hT]; exact hcB) hoB hclB hg (hsize.trans hml.symm) (argsL := As) (rest := rest) (fun sig h => hn.trans (hlen sig h)) hstack hW (by rw [hb]; exact hdg)
    (fun vm₁ hW₁ => ⟨hf.1, hf.2, hPc (T.setVm vm₁) hT hW₁⟩) with ⟨v, vm₁, ⟨U', l2, c2, s2⟩, hW₁, X', ⟨g', mk, t, L, e1, e2, hq, h1, hL, h2, h3⟩, st⟩ | ⟨q, vm₁, ⟨U', l2, c2, s2⟩, hW₁, X', ⟨g', mk, t, L, E, ce, e1, e2, hq, hce, hcv, hcl, h1, hL, h2, h3⟩, st⟩
  · dsimp only [Pt.U, Pt.locs, Pt.cells, Pt.slots] at X' e1 e2 h1 h2 h3 st
    subst h1; subst h2; subst h3
    exact Or.inl ⟨v, (T.setVm vm₁).calling g' mk (Value.ref b :: As).toArray, t, U', L, hT, X', hL, e1, e2, hq, st⟩
  · dsimp only [Pt.U, Pt.locs, Pt.cells, Pt.slots] at X' e1 e2 h1 h2 h3 st hcl
    subst h1; subst h2; subst h3
    exact Or.inr ⟨q, (T.setVm vm₁).calling g' mk (Value.ref b :: As).toArray, t, U', L, E, ce, hT, X', hL, e1, e2, hq, hce, hcv, vx_cls hW₁ hcl, st⟩
theorem vx_runSX {hh : List (Nat × Nat × Nat × Nat)} (S : CallFix p m c cc nL s args Ts own) (hM : vx_Met l y ws rm Pc Qc XC mc ms free) (cw : vx_CSW R s args own index y bytes maxL ret hh ws rm mc ms n) (hp : PreS s H Pc As)
    (hg : g.method = m) (hn : As.length = n) (hsize : g.locals.size = nL) (hstack : g.stack = As.reverse ++ rest) (hW : 2 * g.monitorRoom + (rest.map fun v => v.category).sum ≤ 8) (hdg : decode cc g.pc = .ok (.invokestatic index, 3)) (hf : cells + mc ≤ R.cells ∧ slots + ms ≤ R.slots) :
    vx_Run p l e R s m args below meth c H locs cells slots mc ms g rest (Qc As.toArray) XC free := by
  obtain ⟨⟨hrc, hrs, hfr, hlo, hws, hcw⟩, hcode, hini, hy, hlen, hl, hstt⟩ := cw
  have hK : vx_Back l R p e below s args y 3 8 (PreOf R mc ms Pc) (PostOf Qc mc ms free) (vx_Post XC mc ms free) := vx_backW (hh := hh) (bytes := bytes) (maxL := maxL) (ret := ret) hM hp.1 hrc hrs hfr hlo hws hcw (fun a' U hW => word_at hW (Or.inl (by first | rfl | simp [Cond.onTables, Cond.keeps, Cond.steady])) hini)
  obtain ⟨hx, hb, hml, ho, -⟩ := S
  intro T hT X
  rcases vx_callSX X hx (hh := hh) (bytes := bytes) (maxL := maxL) (ret := ret) ho hl hstt hini hcode hy hK hg (hsize.trans hml.symm) (argsL := As) (rest := rest) (fun sig h => hn.trans (hlen sig h)) hstack hW (by rw [hb]; exact hdg)
    (fun vm₁ hW₁ => ⟨hf.1, hf.2, hp.2 (T.setVm vm₁) hT hW₁⟩) with ⟨v, vm₁, ⟨U', l2, c2, s2⟩, hW₁, X', ⟨g', mk, t, L, e1, e2, hq, h1, hL, h2, h3⟩, st⟩ | ⟨q, vm₁, ⟨U', l2, c2, s2⟩, hW₁, X', ⟨g', mk, t, L, E, ce, e1, e2, hq, hce, hcv, hcl, h1, hL, h2, h3⟩, st⟩
  · dsimp only [Pt.U, Pt.locs, Pt.cells, Pt.slots] at X' e1 e2 h1 h2 h3 st
    subst h1; subst h2; subst h3
    exact Or.inl ⟨v, (T.setVm vm₁).calling g' mk As.toArray, t, U', L, hT, X', hL, e1, e2, hq, st⟩
  · dsimp only [Pt.U, Pt.locs, Pt.cells, Pt.slots] at X' e1 e2 h1 h2 h3 st hcl
    subst h1; subst h2; subst h3
    exact Or.inr ⟨q, (T.setVm vm₁).calling g' mk As.toArray, t, U', L, E, ce, hT, X', hL, e1, e2, hq, hce, hcv, vx_cls hW₁ hcl, st⟩
end
end VXH
theorem vx_ofWH {l : Launch} {y : MethodName} {ws ws' : List Cond} {rm : Room} {Pc : Array Value → State → Prop} {Qc : Array Value → State → Outcome → State → Prop} {XC : String → State → State → Prop} {mc ms : Nat} {free : Addr → Prop} {cc : ByteArray} {maxL : Nat} {ret : Option FieldType} {hh : List (Nat × Nat × Nat × Nat)}
    (hy : plainName y.cls = true) (hw : ws = Cond.codeWith y cc maxL ret hh :: ws')
    (body : ∀ p e s m args below meth c s₁, BodyLoose p l y (headSpec ws rm) cc maxL ret e s m args below meth c s₁ → c.maxLocals = maxL → Pc args s →
      W p l e (headSpec ws rm).room s m args below meth c s.heap [] 0 0 (vx_MQ below Qc XC args s mc ms free) (entryFrame m args maxL)) : vx_Met l y ws rm Pc Qc XC mc ms free := by
  refine MetFree.of_bodyS (code := cc) (maxLocals := maxL) (ret := ret) hy ?_ ?_
  · intro args s m h hn
    obtain ⟨m9, meth, c, hn9, h1, h2, h3, h4, -, h5, h6, -⟩ := Cond.codeWith_spec (atoms_spec (ws := ws) h _ (by rw [hw]; exact List.mem_cons_self))
    cases hn.symm.trans hn9
    exact ⟨meth, c, h1, h2, h3, h4, h5, h6⟩
  · intro p e s m args below meth c s₁ B hml hP _
    have hh0 : s₁.heap = s.heap := by rw [B.state]; rfl
    obtain ⟨t, a1, o, b1, b2, b3⟩ := body p e s m args below meth c s₁ B hml hP s₁ hh0 (Stand.of_body B)
    exact ⟨t, o, a1, b1, b2, b3⟩
/-! ===== END ===== -/

/-! ===== BEGIN what the machine throws by itself, no traces kept ===== -/
section VXM
set_option maxHeartbeats 1000000 in
/-- the machine throws cls with the message text, no traces kept: from its note over the frame g to 'throwing' over the same frame (follows the proofs of Stand.vmThrowsMessage, Shelf/KitTracedVmS.lean, and Stand.throwsMessageColdBareV, StandMessageColdV.lean, without the step out of the frame) -/
theorem vx_vmAt {p : Program} {l : Launch} {e : Env} {R : Room} {s : State} {m₀ : MethodId} {args : Array Value} {below : List Frame} {meth : Method} {c : Code} {W : State} {locs : List Loc} {cells slots : Nat}
    (X : Stand p l e R s m₀ args below meth c W locs cells slots) (hexec : p.tables.exec = Jvm.exec) (htr : e.platform.stackTraces = false) {cls : String} {names : List String} {text : String}
    (hcls : Bundle.fit cls = true) (hnames : ∀ n ∈ names, Bundle.fit n = true) (hsoe : (cls == "java/lang/StackOverflowError") = false) (hoom : (cls == "java/lang/OutOfMemoryError") = false)
    (h : ∀ a ∈ Bundle.messageArmAtoms cls names, a.before args s = true)
    (hlocs : ∀ x ∈ locs, ∀ cell, s.heap[x.base]? = some cell → cell.vm.isStatics = false)
    (htext : (text == notModelled) = false) (hlimit : ¬ (stringBytes (stringToUtf16 text)).size > e.platform.arrayLengthLimit) (hheap : ¬ (stringBytes (stringToUtf16 text)).size * componentBytes .byte > e.platform.maxHeapBytes)
    {g : JFrame} (hg : g.method = m₀) (hsize : g.locals.size = c.maxLocals)
    (hRframes : names.length + 4 < R.frames) (hRlocals : 2 * g.monitorRoom + (g.stack.map fun v => v.category).sum + 10240 ≤ R.locals) (hshort : 13 * names.length + 55 ≤ 10240)
    (hRcells : cells + 3 ≤ R.cells) (hRslots : slots + ((stringBytes (stringToUtf16 text)).size + 4 + 6) ≤ R.slots) (hlocks : meth.locks = false) :
    ∃ (S : State) (q : Addr) (ce : Cell), (∀ target, Steps p.tables e below ((S.setTop g).pushFrame (.throwing q)) target → Steps p.tables e below ((W.setTop g).pushFrame (.throwNew cls (some text) none)) target) ∧
      Stand p l e R s m₀ args below meth c S locs (cells + 3) (slots + ((stringBytes (stringToUtf16 text)).size + 4 + 6)) ∧ S.heap[q]? = some ce ∧ s.vm.findClass cls = some ce.cls ∧ ce.vm = .none := by
  have howns : e.platform.frameOwnsMonitors = true := by rw [X.admits.platform]
  have hfin : e.platform.finalization = false := by rw [X.admits.platform]
  have hpl : e.platform.magicAccessors = ({} : Platform).magicAccessors := by rw [X.admits.platform]
  have a : ∀ x, x ∈ Bundle.messageArmAtoms cls names → x.holds args s none s [] = true := fun x hx => h x hx
  obtain ⟨T, Z0, L, -, Y⟩ := ThrowableC.of_atoms (args := args) howns hfin hpl (fun x hx => h x (by simp [Bundle.messageArmAtoms, hx]))
  obtain ⟨Z, M, LZ, LM, hnZ⟩ := Init0T.ofS_atoms (args := args) hpl L Y (fun x hx => h x (by simp [Bundle.messageArmAtoms, hx]))
  obtain ⟨P1, Ps, hlen, L1, hL, hP1m, hlink1, hlink⟩ := Bundle.chainS (args := args) hpl hnZ names cls hcls hnames (fun x hx => h x (by simp [Bundle.messageArmAtoms, hx]))
  obtain ⟨Zs, LZs, hn4, hfitv, hfitc⟩ := StringT.of_atoms (args := args) (fun x hx => h x (by simp [Bundle.messageArmAtoms, hx]))
  have hfound : s.vm.findClass cls = some P1.m.cls := findClass_of_methodNamed hP1m
  obtain ⟨c1, kX, hc1, hk, hord, -, -, hn6⟩ := Cond.instantiable_spec (a (.instantiable cls 6) (by simp [Bundle.messageArmAtoms]))
  cases Option.some.inj (hc1.symm.trans hfound)
  have hinit := Cond.initialized_spec hfound hk (a (.initialized cls) (by simp [Bundle.messageArmAtoms]))
  have hctor : kX.findMethod "<init>" "(Ljava/lang/String;)V" = some P1.m.idx := findMethod_of_methodNamed hP1m hk
  have hsel0 : selectMethod e.platform s.vm P1.m.cls T.fill0 = .method T.fill0 := by
    obtain ⟨c2, r2, m2, q1, q2, q3, q4, -⟩ := Cond.selects_spec (a (.selects cls Bundle.tFill0 Bundle.tFill0) (by simp [Bundle.messageArmAtoms]))
    cases Option.some.inj (q1.symm.trans hfound)
    cases Option.some.inj (q2.symm.trans (State.methodFound?_of_named Y.fill0 (by decide)))
    cases Option.some.inj (q3.symm.trans Y.fill0)
    rw [Launch.admits_selectMethod X.admits]; exact q4
  have hselF : selectMethod e.platform s.vm P1.m.cls T.fill = .method T.fill := by
    obtain ⟨c2, r2, m2, q1, q2, q3, q4, -⟩ := Cond.selects_spec (a (.selects cls Bundle.tFill Bundle.tFill) (by simp [Bundle.messageArmAtoms]))
    cases Option.some.inj (q1.symm.trans hfound)
    cases Option.some.inj (q2.symm.trans (State.methodFound?_of_named Y.fill (by decide)))
    cases Option.some.inj (q3.symm.trans Y.fill)
    rw [Launch.admits_selectMethod X.admits]; exact q4
  obtain ⟨cellS0, hcS0, hiss⟩ := Y.statics
  obtain ⟨u0, hu0⟩ := Cond.staticRefV Y.unassigned L.unassignedStatic L.statics hcS0 hiss (a (.isRef (.static Bundle.tN "UNASSIGNED_STACK" Bundle.steD)) (by simp [Bundle.messageArmAtoms]))
  obtain ⟨sen, hsen⟩ := Cond.staticRefV Y.sentinel L.sentinelStatic L.statics hcS0 hiss (a (.isRef (.static Bundle.tN "SUPPRESSED_SENTINEL" Bundle.listD)) (by simp [Bundle.messageArmAtoms]))
  obtain ⟨ci198, i198, fB, hk198, hg198, ha198, hsB, -, hnB, htB, hffB⟩ := Cond.ownField (t := .object "java/lang/Object") Y.found L.cls (by decide +kernel) (a (.fieldLink Bundle.tN 198 Bundle.tN "backtrace" "Ljava/lang/Object;") (by simp [Bundle.messageArmAtoms])) (a (.lays Bundle.tN Bundle.tN "backtrace" "Ljava/lang/Object;") (by simp [Bundle.messageArmAtoms])) e.platform hpl
  obtain ⟨cellS, hcS', heS, -, hkeep⟩ := X.same.2.2.2.2.2 T.aS cellS0 hcS0
  have hcellS : W.heap[T.aS]? = some cellS := hcS'
  have hout' : ∀ i, (⟨T.aS, i⟩ : Loc) ∉ locs := fun i hmem => by
    have := hlocs _ hmem cellS0 hcS0
    rw [hiss] at this; cases this
  have hknownS : cellS.vm ≠ .unknown := by
    rw [heS]; intro hu
    rw [show cellS0.vm = .unknown from hu] at hiss
    cases hiss
  have hvU : cellS.slots[T.fUnassigned.slot]? = some u0.v := by rw [hkeep _ (hout' _)]; exact hu0
  have hvSen : cellS.slots[T.fSentinel.slot]? = some sen.v := by rw [hkeep _ (hout' _)]; exact hsen
  obtain ⟨iM, hffM⟩ := Y.msg
  obtain ⟨tyC, dC, hdC, hdnC⟩ := Cond.laysAt hfound hk Y.cause (a (.lays cls Bundle.tN "cause" "Ljava/lang/Throwable;") (by simp [Bundle.messageArmAtoms]))
  obtain ⟨tyS, dS, hdS, hdnS⟩ := Cond.laysAt hfound hk Y.stack (a (.lays cls Bundle.tN "stackTrace" Bundle.steD) (by simp [Bundle.messageArmAtoms]))
  obtain ⟨tyP, dP, hdP, hdnP⟩ := Cond.laysAt hfound hk Y.supp (a (.lays cls Bundle.tN "suppressedExceptions" Bundle.listD) (by simp [Bundle.messageArmAtoms]))
  obtain ⟨tyM, dM, hdM, hdnM⟩ := Cond.laysAt hfound hk hffM (a (.lays cls Bundle.tN "detailMessage" "Ljava/lang/String;") (by simp [Bundle.messageArmAtoms]))
  obtain ⟨tyB, dB, hdB, hdnB⟩ := Cond.laysAt hfound hk hffB (a (.lays cls Bundle.tN "backtrace" "Ljava/lang/Object;") (by simp [Bundle.messageArmAtoms]))
  have bC := Cond.laysApart hdB hdC hdnB hdnC (by rw [hnB, Y.causeName]; decide)
  have bS := Cond.laysApart hdB hdS hdnB hdnS (by rw [hnB, Y.stackName]; decide)
  have bP := Cond.laysApart hdB hdP hdnB hdnP (by rw [hnB, Y.suppName]; decide)
  have hbk : ((preparedCellV T.toThrowableT (freshCell P1.m.cls kX) (W.heap.size + 2) u0 sen).withEntry W.cur).slots[fB.slot]? = some .null := by
    have := fresh_default (c := P1.m.cls) tyB
    rw [htB] at this
    simpa [preparedCellV, Cell.setSlot, Cell.withEntry, Array.getElem?_setIfInBounds, bC, bS, bP, bC.symm, bS.symm, bP.symm, defaultValue] using this
  have tkC := Takes.of_laid (v := .ref (W.heap.size + 2)) hk hord tyC (by rw [Y.causeType]; rfl)
  have tkS := Takes.of_laid (v := u0.v) hk hord tyS (by rw [Y.stackType]; exact fits_refV_array _ u0)
  have tkP := Takes.of_laid (v := sen.v) hk hord tyP (by rw [Y.suppType]; exact fits_refV_object _ sen)
  have tkM := Takes.of_laid (v := .ref (W.heap.size + 1)) hk hord tyM (by rw [Y.msgType]; rfl)
  have hskip : SkipFacts T e.platform s (fun u => u) u0 ((preparedCellV T.toThrowableT (freshCell P1.m.cls kX) (W.heap.size + 2) u0 sen).withEntry W.cur) := ⟨{ ci198 := ci198, i198 := i198, fBack := fB }, ⟨hk198, hg198, ha198, hsB⟩, hbk, fun _ _ => rfl⟩
  have h0 : At W g.method c below := by rw [hg]; exact X.here
  obtain ⟨hbeyond, hfreeW⟩ := X.vmMayThrow hsize (.throwNew cls (some text) none) (fun f hf => by cases hf) rfl hRlocals
  have hfr' : W.frames.length + Ps.length + 4 < (e.platform.stackLimits W.me).1 := by have := X.framesAbove hRframes; omega
  have hwd' : (stackUse (.java g :: W.frames.tail)).2 + 13 * Ps.length + 55 ≤ (e.platform.stackLimits W.me).2 := by have := X.stackAbove hsize (K := 13 * Ps.length + 55) (by omega); omega
  have hslots : W.slotsUsed + (stringBytes (stringToUtf16 text)).size + Zs.kS.instanceTypes.size + kX.instanceTypes.size ≤ e.platform.maxSlots := by
    have := X.slotsAbove hRslots
    rw [hn4, hn6]
    omega
  obtain ⟨vm', hW', st⟩ := Steps.vmThrowsMessageColdByV p (s₀ := s) (S := W) (g := g) h0 hexec T L Z LZ M LM X.warmed (t := W.cur) rfl Zs LZs P1 L1 Ps hL hlink1 hlink hsoe hoom hfound hk hinit hord hctor
    (Launch.admits_hotImplicitExceptions X.admits) hbeyond hfreeW htext hlimit hheap (X.cellsAbove hRcells) hslots (hfitv _) (hfitc _)
    (Nn := fun u => u) heapOnly_id (fun _ _ => rfl) (fun _ => rfl) (fun u x y => setCell_twice _ _ _ _) (fun _ => Nat.le_refl _) (cN := ((preparedCellV T.toThrowableT (freshCell P1.m.cls kX) (W.heap.size + 2) u0 sen).withEntry W.cur))
    hsel0 hcellS hknownS hvU tkS (fun _ hu => hu) (fun _ hu => hu) rfl rfl rfl (by simp [preparedCellV, Cell.setSlot, Cell.withEntry]) hskip (fun _ _ hA hW _ hroom _ hrest => L.nativeOff p htr hA hW hroom hrest) hselF hvSen tkC tkP tkM Y.objLocals rfl hfr' hwd'
  rw [plainBareV_eq T.toThrowableT (W.heap.size + 2) u0 sen (.ref (W.heap.size + 1)) W.cur rfl rfl] at st
  obtain ⟨-, -, w3, w4, -, -, -⟩ := withThrown_facts e.platform W Zs text P1.m.cls kX
  have X3 := ((X.pushed (bytesOf Zs.cB (stringToUtf16 text))).pushed (stringAt Zs.cS Zs.kS Zs.fv Zs.fc (stringToUtf16 text) W.heap.size)).pushed (freshCell P1.m.cls kX)
  rw [← withString_eq] at X3
  have X4 := X3.noted hW'
  have ha : (W.heap.size + 2) < ((withThrown W Zs text P1.m.cls kX).setVm vm').heap.size := by show _ < (withThrown W Zs text P1.m.cls kX).heap.size; rw [w3]; omega
  have hcell : ((withThrown W Zs text P1.m.cls kX).setVm vm').heap[(W.heap.size + 2)]? = some (freshCell P1.m.cls kX) := w4
  have X5 := ((((X4.stored hcell T.fCause.slot (.ref (W.heap.size + 2))).storedAgain ha T.fStack.slot u0.v).storedAgain ha T.fSupp.slot sen.v).storedAgain ha T.fStack.slot u0.v).storedAgain ha T.fMsg.slot (.ref (W.heap.size + 1))
  obtain ⟨g₁, hfrM⟩ := X5.frames_eq
  have hU : ((((withThrown W Zs text P1.m.cls kX).setVm vm').setCell (W.heap.size + 2) (plainBareV T.toThrowableT (freshCell P1.m.cls kX) (W.heap.size + 2) u0 sen (.ref (W.heap.size + 1)))).setTop g).pushFrame (.throwing (W.heap.size + 2)) = (((withThrown W Zs text P1.m.cls kX).setVm vm').setCell (W.heap.size + 2) (plainBareV T.toThrowableT (freshCell P1.m.cls kX) (W.heap.size + 2) u0 sen (.ref (W.heap.size + 1)))).setFrames (.throwing (W.heap.size + 2) :: .java g :: below) := by
    rw [State.pushFrame, State.frames_setTop _ hfrM, State.setTop_of_frames _ hfrM, State.setFrames_setFrames]
  have b1 : (bytesOf Zs.cB (stringToUtf16 text)).slots.size = (stringBytes (stringToUtf16 text)).size := by
    rw [(Cell.writeAll_facts _ _).2.2]; simp [bytes0]
  have b2 : (stringAt Zs.cS Zs.kS Zs.fv Zs.fc (stringToUtf16 text) W.heap.size).slots.size = 4 := by simp [string0, Cell.setSlot, hn4]
  have b3 : (freshCell P1.m.cls kX).slots.size = 6 := by simp [hn6]
  rw [b1, b2, b3] at X5
  have e9 : slots + (stringBytes (stringToUtf16 text)).size + 4 + 6 = slots + ((stringBytes (stringToUtf16 text)).size + 4 + 6) := by omega
  rw [e9] at X5
  simp only [List.append_assoc, List.cons_append, List.nil_append] at X5
  refine ⟨((withThrown W Zs text P1.m.cls kX).setVm vm').setCell (W.heap.size + 2) (plainBareV T.toThrowableT (freshCell P1.m.cls kX) (W.heap.size + 2) u0 sen (.ref (W.heap.size + 1))), W.heap.size + 2, _, fun target ht => st _ (by rw [X.tail, ← hU]; exact ht),
    X5.forget (fun y hy => ?_), heapAt_setCell_self _ ha, hfound, rfl⟩
  simp only [List.mem_cons, List.not_mem_nil, or_false] at hy
  have hge : s.heap.size ≤ W.heap.size := X.same.2.1
  rcases hy with rfl | rfl | rfl | rfl | rfl <;> exact Nat.le_trans hge (Nat.le_add_right _ 2)
set_option maxHeartbeats 1000000 in
/-- the machine throws NullPointerException, no traces kept: from its note over the frame g to 'throwing' over the same frame (follows the proof of Stand.vmThrowsNpe, Shelf42/KT2.lean; throwsNpeColdBareVAt, Shelf42/NT91.lean, called) -/
theorem vx_npeAt {p : Program} {l : Launch} {e : Env} {R : Room} {s : State} {m₀ : MethodId} {args : Array Value} {below : List Frame} {meth : Method} {c : Code} {W : State} {locs : List Loc} {cells slots : Nat}
    (X : Stand p l e R s m₀ args below meth c W locs cells slots) (hexec : p.tables.exec = Jvm.exec) (htr : e.platform.stackTraces = false) {n : Nat}
    (h : ∀ a ∈ Bundle.npeArmAtoms n, a.before args s = true)
    (hlocs : ∀ x ∈ locs, ∀ cell, s.heap[x.base]? = some cell → cell.vm.isStatics = false)
    {g : JFrame} (hg : g.method = m₀) (hsize : g.locals.size = c.maxLocals)
    (hRframes : 7 < R.frames) (hRlocals : 2 * g.monitorRoom + (g.stack.map fun v => v.category).sum + 10240 ≤ R.locals)
    (hRcells : cells + 1 ≤ R.cells) (hRslots : slots + n ≤ R.slots) (hlocks : meth.locks = false) :
    ∃ (S : State) (q : Addr) (ce : Cell), (∀ target, Steps p.tables e below ((S.setTop g).pushFrame (.throwing q)) target → Steps p.tables e below ((W.setTop g).pushFrame (.throwNew "java/lang/NullPointerException" none none)) target) ∧
      Stand p l e R s m₀ args below meth c S locs (cells + 1) (slots + n) ∧ S.heap[q]? = some ce ∧ s.vm.findClass "java/lang/NullPointerException" = some ce.cls ∧ ce.vm = .none := by
  have howns : e.platform.frameOwnsMonitors = true := by rw [X.admits.platform]
  have hfin : e.platform.finalization = false := by rw [X.admits.platform]
  have hpl : e.platform.magicAccessors = ({} : Platform).magicAccessors := by rw [X.admits.platform]
  have hpl2 : e.platform.arrayCloneIsPublic = true := by rw [X.admits.platform]
  have a' : ∀ x, x ∈ Bundle.npeArmAtoms n → x.holds args s none s [] = true := fun x hx => h x hx
  obtain ⟨T, Z, L, LZ, Y⟩ := ThrowableC.of_atoms (args := args) howns hfin hpl (fun x hx => h x (by simp [Bundle.npeArmAtoms, hx]))
  obtain ⟨N, LN, hcN, hnNF, hordN, hffS⟩ := NpeC.of_atoms (args := args) hpl hpl2 L Y (fun x hx => h x (by simp [Bundle.npeArmAtoms, hx]))
  obtain ⟨P1, L1, hP1m, hP1s⟩ := PassC.of_atoms (args := args) (s := s) hpl (X := Bundle.nN) (Y := Bundle.rN) (by decide) (by decide) LibCode.NullPointerException.Init0.at_0 LibCode.NullPointerException.Init0.at_1 LibCode.NullPointerException.Init0.at_4 (fun x hx => h x (by simp [Bundle.npeArmAtoms, hx]))
  obtain ⟨PR, LR, hPRm, hPRs⟩ := PassC.of_atoms (args := args) (s := s) hpl (X := Bundle.rN) (Y := Bundle.eN) (by decide) (by decide) LibCode.RuntimeException.Init0.at_0 LibCode.RuntimeException.Init0.at_1 LibCode.RuntimeException.Init0.at_4 (fun x hx => h x (by simp [Bundle.npeArmAtoms, hx]))
  obtain ⟨PE, LEx, hPEm, hPEs⟩ := PassC.of_atoms (args := args) (s := s) hpl (X := Bundle.eN) (Y := Bundle.tN) (by decide) (by decide) LibCode.Exception.Init0.at_0 LibCode.Exception.Init0.at_1 LibCode.Exception.Init0.at_4 (fun x hx => h x (by simp [Bundle.npeArmAtoms, hx]))
  have hfound : s.vm.findClass Bundle.nN = some P1.m.cls := findClass_of_methodNamed hP1m
  have ecls : N.cN = P1.m.cls := Option.some.inj (hcN.symm.trans hfound)
  have hk : s.vm.classes[P1.m.cls]? = some N.kN := by rw [← ecls]; exact LN.cls
  have hinit := Cond.initialized_spec hfound hk (a' (.initialized Bundle.nN) (by simp [Bundle.npeArmAtoms]))
  have hctor : N.kN.findMethod "<init>" "()V" = some P1.m.idx := findMethod_of_methodNamed hP1m hk
  obtain ⟨c1, k1, hc1, hk1, -, -, -, hn⟩ := Cond.instantiable_spec (a' (.instantiable Bundle.nN n) (by simp [Bundle.npeArmAtoms]))
  cases Option.some.inj (hc1.symm.trans hfound)
  cases Option.some.inj (hk1.symm.trans hk)
  have hfsz : (freshCell P1.m.cls N.kN).slots.size = n := by simp [hn]
  have hlink1 : P1.sup = PR.m := Option.some.inj (hP1s.symm.trans hPRm)
  have hlinkR : PR.sup = PE.m := Option.some.inj (hPRs.symm.trans hPEm)
  have hlinkE : PE.sup = Z.m T.toThrowableT := Option.some.inj (hPEs.symm.trans Y.init0)
  have hLs : ∀ P, P ∈ [PR, PE] → P.Links0 e.platform s := fun P hP => by
    simp only [List.mem_cons, List.not_mem_nil, or_false] at hP
    rcases hP with rfl | rfl
    · exact LR
    · exact LEx
  have hsel0 : selectMethod e.platform s.vm P1.m.cls T.fill0 = .method T.fill0 := by
    obtain ⟨c2, r2, m2, q1, q2, q3, q4, -⟩ := Cond.selects_spec (a' (.selects Bundle.nN Bundle.tFill0 Bundle.tFill0) (by simp [Bundle.npeArmAtoms]))
    cases Option.some.inj (q1.symm.trans hfound)
    cases Option.some.inj (q2.symm.trans (State.methodFound?_of_named Y.fill0 (by decide)))
    cases Option.some.inj (q3.symm.trans Y.fill0)
    rw [Launch.admits_selectMethod X.admits]; exact q4
  have hselF : selectMethod e.platform s.vm P1.m.cls T.fill = .method N.fill := by
    obtain ⟨c2, r2, m2, q1, q2, q3, q4, -⟩ := Cond.selects_spec (a' (.selects Bundle.nN Bundle.tFill Bundle.nFill) (by simp [Bundle.npeArmAtoms]))
    cases Option.some.inj (q1.symm.trans hfound)
    cases Option.some.inj (q2.symm.trans (State.methodFound?_of_named Y.fill (by decide)))
    cases Option.some.inj (q3.symm.trans hnNF)
    rw [Launch.admits_selectMethod X.admits]; exact q4
  obtain ⟨cellS0, hcS0, hiss⟩ := Y.statics
  obtain ⟨u0, hu0⟩ := Cond.staticRefV Y.unassigned L.unassignedStatic L.statics hcS0 hiss (a' (.isRef (.static Bundle.tN "UNASSIGNED_STACK" Bundle.steD)) (by simp [Bundle.npeArmAtoms]))
  obtain ⟨sen, hsen⟩ := Cond.staticRefV Y.sentinel L.sentinelStatic L.statics hcS0 hiss (a' (.isRef (.static Bundle.tN "SUPPRESSED_SENTINEL" Bundle.listD)) (by simp [Bundle.npeArmAtoms]))
  obtain ⟨ci198, i198, fB, hk198, hg198, ha198, hsB, -, hnB, htB, hffB⟩ := Cond.ownField (t := .object "java/lang/Object") Y.found L.cls (by decide +kernel) (a' (.fieldLink Bundle.tN 198 Bundle.tN "backtrace" Bundle.objD) (by simp [Bundle.npeArmAtoms])) (a' (.lays Bundle.tN Bundle.tN "backtrace" Bundle.objD) (by simp [Bundle.npeArmAtoms])) e.platform hpl
  obtain ⟨cellS, hcS', heS, -, hkeep⟩ := X.same.2.2.2.2.2 T.aS cellS0 hcS0
  have hcellS : W.heap[T.aS]? = some cellS := hcS'
  have hout' : ∀ i, (⟨T.aS, i⟩ : Loc) ∉ locs := fun i hmem => by
    have := hlocs _ hmem cellS0 hcS0
    rw [hiss] at this; cases this
  have hknownS : cellS.vm ≠ .unknown := by
    rw [heS]; intro hu
    rw [show cellS0.vm = .unknown from hu] at hiss
    cases hiss
  have hvU : cellS.slots[T.fUnassigned.slot]? = some u0.v := by rw [hkeep _ (hout' _)]; exact hu0
  have hvSen : cellS.slots[T.fSentinel.slot]? = some sen.v := by rw [hkeep _ (hout' _)]; exact hsen
  obtain ⟨tyC, dC, hdC, hdnC⟩ := Cond.laysAt hfound hk Y.cause (a' (.lays Bundle.nN Bundle.tN "cause" "Ljava/lang/Throwable;") (by simp [Bundle.npeArmAtoms]))
  obtain ⟨tyS, dS, hdS, hdnS⟩ := Cond.laysAt hfound hk Y.stack (a' (.lays Bundle.nN Bundle.tN "stackTrace" Bundle.steD) (by simp [Bundle.npeArmAtoms]))
  obtain ⟨tyP, dP, hdP, hdnP⟩ := Cond.laysAt hfound hk Y.supp (a' (.lays Bundle.nN Bundle.tN "suppressedExceptions" Bundle.listD) (by simp [Bundle.npeArmAtoms]))
  obtain ⟨tyX, dX, hdX, hdnX⟩ := Cond.laysAt hfound hk hffS (a' (.lays Bundle.nN Bundle.nN "extendedMessageState" "I") (by simp [Bundle.npeArmAtoms, Bundle.npeAtoms]))
  obtain ⟨hnX, htX⟩ := State.fieldFound?_type hffS (t := .int) (by decide +kernel)
  have xC := Cond.laysApart hdC hdX hdnC hdnX (by rw [hnX, Y.causeName]; decide)
  have xS := Cond.laysApart hdS hdX hdnS hdnX (by rw [hnX, Y.stackName]; decide)
  have xP := Cond.laysApart hdP hdX hdnP hdnX (by rw [hnX, Y.suppName]; decide)
  have hv0 : (freshCell P1.m.cls N.kN).slots[N.fState.slot]? = some (.int 0) := by
    have := fresh_default (c := P1.m.cls) tyX
    rw [htX] at this; exact this
  obtain ⟨tyB, dB, hdB, hdnB⟩ := Cond.laysAt hfound hk hffB (a' (.lays Bundle.nN Bundle.tN "backtrace" Bundle.objD) (by simp [Bundle.npeArmAtoms]))
  have bC := Cond.laysApart hdB hdC hdnB hdnC (by rw [hnB, Y.causeName]; decide)
  have bS := Cond.laysApart hdB hdS hdnB hdnS (by rw [hnB, Y.stackName]; decide)
  have bP := Cond.laysApart hdB hdP hdnB hdnP (by rw [hnB, Y.suppName]; decide)
  have bX := Cond.laysApart hdB hdX hdnB hdnX (by rw [hnB, hnX]; decide)
  have hbk : ((npeCell N.toNpeT (preparedCellV T.toThrowableT (freshCell P1.m.cls N.kN) W.heap.size u0 sen) W.cur).withEntry W.cur).slots[fB.slot]? = some .null := by
    have := fresh_default (c := P1.m.cls) tyB
    rw [htB] at this
    simpa [npeCell, preparedCellV, Cell.setSlot, Cell.withEntry, Array.getElem?_setIfInBounds, bC, bS, bP, bX, bC.symm, bS.symm, bP.symm, bX.symm, defaultValue] using this
  have tkC := Takes.of_laid (v := .ref W.heap.size) hk hordN tyC (by rw [Y.causeType]; rfl)
  have tkS := Takes.of_laid (v := u0.v) hk hordN tyS (by rw [Y.stackType]; exact fits_refV_array _ u0)
  have tkP := Takes.of_laid (v := sen.v) hk hordN tyP (by rw [Y.suppType]; exact fits_refV_object _ sen)
  have tkX := Takes.of_laid (v := .int 1) hk hordN tyX (by rw [htX]; rfl)
  have hskip : SkipFacts T e.platform s (fun u => u) u0 ((npeCell N.toNpeT (preparedCellV T.toThrowableT (freshCell P1.m.cls N.kN) W.heap.size u0 sen) W.cur).withEntry W.cur) := ⟨{ ci198 := ci198, i198 := i198, fBack := fB }, ⟨hk198, hg198, ha198, hsB⟩, hbk, fun _ _ => rfl⟩
  obtain ⟨vm', X3, st, -⟩ := X.throwsNpeColdBareVAt hexec hg hsize T L Z LZ N LN P1 L1 [PR, PE] hLs hlink1 ⟨hlinkR, hlinkE, trivial⟩ hfound hk hinit hordN hctor hsel0 hselF hcellS hknownS hvU hvSen
    hv0 xC xS xP tkC tkS tkP tkX Y.objLocals hskip (fun _ _ hA hW _ hroom _ hrest => L.nativeOff p htr hA hW hroom hrest) (by simpa using hRframes) hRlocals (by simp) hRcells (by rw [hn]; exact hRslots)
  have hlt : W.heap.size < ((W.pushCell (freshCell P1.m.cls N.kN)).setVm vm').heap.size := by
    show W.heap.size < (W.pushCell (freshCell P1.m.cls N.kN)).heap.size
    rw [State.heap_size_pushCell]; omega
  rw [hfsz] at X3
  obtain ⟨g₁, hfrM⟩ := X3.frames_eq
  have hU : ((((W.pushCell (freshCell P1.m.cls N.kN)).setVm vm').setCell W.heap.size (npeBareV T.toThrowableT N.toNpeT (freshCell P1.m.cls N.kN) W.heap.size u0 sen)).setTop g).pushFrame (.throwing W.heap.size) = (((W.pushCell (freshCell P1.m.cls N.kN)).setVm vm').setCell W.heap.size (npeBareV T.toThrowableT N.toNpeT (freshCell P1.m.cls N.kN) W.heap.size u0 sen)).setFrames (.throwing W.heap.size :: .java g :: below) := by
    rw [State.pushFrame, State.frames_setTop _ hfrM, State.setTop_of_frames _ hfrM, State.setFrames_setFrames]
  refine ⟨_, W.heap.size, _, fun target ht => st.trans (by rw [← hU]; exact ht), X3.forget (fun y hy => ?_), heapAt_setCell_self _ hlt, hfound, rfl⟩
  simp only [List.mem_cons, List.not_mem_nil, or_false] at hy
  have hge : s.heap.size ≤ W.heap.size := X.same.2.1
  rcases hy with rfl | rfl | rfl | rfl | rfl <;> exact hge
/-- the words of a machine's NullPointerException, but the four that speak of the heap -/
def vx_atN (n : Nat) : List Cond := (Bundle.npeArmAtoms n).filter vx_no
/-- the words of a machine's throw with a message, but the four that speak of the heap -/
def vx_atM (X : String) (names : List String) : List Cond := (Bundle.messageArmAtoms X names).filter vx_no
section
variable {p : Program} {l : Launch} {e : Env} {R : Room} {s : State} {m : MethodId} {args : Array Value} {below : List Frame} {meth : Method} {c : Code} {H : Heap} {locs : List Loc} {cells slots : Nat}
/-- a frame seen from a rebased start, seen from the first start again -/
theorem vx_back9 {T S : State} {R' : Room} {k n : Nat} (X : Stand p l e R s m args below meth c T locs cells slots) (Y : Stand p l e R' ((T.setVm s.vm).setFrames (.invoking m args :: below)) m args below meth c T [] 0 0) (Z : Stand p l e R' ((T.setVm s.vm).setFrames (.invoking m args :: below)) m args below meth c S [] k n) :
    Stand p l e R s m args below meth c S locs (cells + k) (slots + n) := by
  have hW0 : s.WarmedH ((T.setVm s.vm).setFrames (.invoking m args :: below)).vm := State.WarmedH.refl s
  refine { admits := X.admits, cas := X.cas, clock := X.clock, frames := X.frames, room := X.room, hears := X.hears, method := X.method, code := X.code, here := Z.here, tail := Z.tail, warmed := State.WarmedH.trans hW0 Z.warmed, limits := Z.limits.trans (Y.limits.symm.trans X.limits), bytes := Z.bytes.trans (Y.bytes.symm.trans X.bytes), same := ?_ }
  obtain ⟨e1, e2⟩ := Z.same
  rw [State.setFrames_setFrames] at e1
  have h2 : (T.setVm s.vm).sameButNew (S.setVm s.vm) [] k n := ⟨e1, e2⟩
  have h3 := X.same.trans h2
  rw [List.append_nil] at h3
  exact h3
/-- from the machine's note that E is thrown here with this text -/
def vx_Note (p : Program) (l : Launch) (e : Env) (R : Room) (s : State) (m : MethodId) (args : Array Value) (below : List Frame) (meth : Method) (c : Code) (H : Heap) (locs : List Loc) (cells slots : Nat) (Q : State → Prop) (g : JFrame) (E text : String) : Prop :=
  ∀ T : State, T.heap = H → Stand p l e R s m args below meth c T locs cells slots → ∃ t, Steps p.tables e below ((T.setTop g).pushFrame (.throwNew E (some text) none)) t ∧ Q t
theorem vx_vm {pc : Nat} {ls : Array Slot} {rest : List Value} {Q : State → Prop} (hexec : p.tables.exec = Jvm.exec) (hl : l.stackTraces = false) {cls text : String} {names : List String} {nb : Nat} {A : Nat → Prop}
    (hcls : Bundle.fit cls = true) (hnames : ∀ n ∈ names, Bundle.fit n = true) (hsoe : (cls == "java/lang/StackOverflowError") = false) (hoom : (cls == "java/lang/OutOfMemoryError") = false)
    (hat : ∀ w ∈ vx_atM cls names, w.before args s = true) (hgood : ∀ w ∈ vx_atM cls names, vx_ot w = true)
    (hU : vx_Zq Bundle.tN "UNASSIGNED_STACK" Bundle.steD A s s.heap) (hN : vx_Zq Bundle.tN "SUPPRESSED_SENTINEL" Bundle.listD A s s.heap) (hS : va_S A s.heap H locs) (hsize : ls.size = c.maxLocals)
    (htext : (text == notModelled) = false) (hnb : (stringBytes (stringToUtf16 text)).size ≤ nb) (hnb1 : nb ≤ 1000)
    (hRframes : names.length + 4 < R.frames) (hRlocals : (rest.map fun v => v.category).sum + 10240 ≤ R.locals) (hshort : 13 * names.length + 55 ≤ 10240) (hRcells : cells + 3 ≤ R.cells) (hRslots : slots + (nb + 10) ≤ R.slots) (hlocks : meth.locks = false)
    (k : ∀ (H1 : Heap) (q9 : Addr) (ce : Cell), H.size ≤ H1.size → (∀ q : Nat, q < H.size → H1[q]? = H[q]?) → va_S A s.heap H1 locs → H1[q9]? = some ce → ce.vm = .none → s.vm.findClass cls = some ce.cls → vx_W p l e R s m args below meth c H1 locs (cells + 3) (slots + (nb + 10)) Q (F0 m pc ls rest) q9) :
    vx_Note p l e R s m args below meth c H locs cells slots Q (F0 m pc ls rest) cls text := by
  intro T hT X
  have htr : e.platform.stackTraces = false := (show e.platform.stackTraces = l.stackTraces by rw [X.admits.platform]).trans hl
  have Y := vx_rebase X (R' := { frames := R.frames, locals := R.locals, cells := 3, slots := nb + 10 }) (Nat.le_refl _) (Nat.le_refl _) hRcells hRslots
  have hhp : ((T.setVm s.vm).setFrames (.invoking m args :: below)).heap = H := hT
  have hW0 : s.WarmedH ((T.setVm s.vm).setFrames (.invoking m args :: below)).vm := State.WarmedH.refl s
  have hat' : ∀ w ∈ vx_atM cls names, w.before args ((T.setVm s.vm).setFrames (.invoking m args :: below)) = true := fun w hw => vx_ot_at hW0 rfl (hgood w hw) (hat w hw)
  have hU' : vx_Zq Bundle.tN "UNASSIGNED_STACK" Bundle.steD A ((T.setVm s.vm).setFrames (.invoking m args :: below)) ((T.setVm s.vm).setFrames (.invoking m args :: below)).heap := by rw [hhp]; exact vx_Zq.moved hW0.alike (hU.kept hS.2.1)
  have hN' : vx_Zq Bundle.tN "SUPPRESSED_SENTINEL" Bundle.listD A ((T.setVm s.vm).setFrames (.invoking m args :: below)) ((T.setVm s.vm).setFrames (.invoking m args :: below)).heap := by rw [hhp]; exact vx_Zq.moved hW0.alike (hN.kept hS.2.1)
  obtain ⟨S, q, ce, st, Z, hce, hcl', hv⟩ := vx_vmAt Y hexec htr (cls := cls) (names := names) (text := text) hcls hnames hsoe hoom (vx_own hat' (vx_isRefq hU'.1) (vx_isRefq hN'.1) hU'.2.word hN'.2.word) (fun x hx => nomatch hx) htext
    (by rw [Launch.admits_arrayLengthLimit X.admits]; omega) (by rw [Launch.admits_maxHeapBytes X.admits]; simp only [componentBytes]; omega)
    (g := F0 m pc ls rest) rfl hsize hRframes (by show 2 * 0 + (rest.map fun v => v.category).sum + 10240 ≤ R.locals; omega) hshort (by show 0 + 3 ≤ 3; omega) (by show 0 + (_ + 4 + 6) ≤ nb + 10; omega) hlocks
  obtain ⟨f1, f2⟩ := vx_frame Z.same
  have f1' : H.size ≤ S.heap.size := by rw [← hT]; exact f1
  have f2' : ∀ q : Nat, q < H.size → S.heap[q]? = H[q]? := fun q hq => by
    rw [← hT]
    exact f2 q (by rw [← hT] at hq; exact hq) (fun z hz => nomatch hz)
  have X5 := vx_back9 X Y Z
  have X6 : Stand p l e R s m args below meth c S locs (cells + 3) (slots + (nb + 10)) := { X5 with same := X5.same.mono (by omega) (by omega) }
  obtain ⟨t, a1, b1⟩ := k S.heap q ce f1' f2' ⟨Nat.le_trans hS.1 f1', fun q h1 h2 => (f2' q (Nat.lt_of_lt_of_le h1 hS.1)).trans (hS.2.1 q h1 h2), hS.2.2⟩ hce hv hcl' S rfl X6
  exact ⟨t, st t a1, b1⟩
/-- from the machine's note that NullPointerException is thrown here -/
def vx_NoteN (p : Program) (l : Launch) (e : Env) (R : Room) (s : State) (m : MethodId) (args : Array Value) (below : List Frame) (meth : Method) (c : Code) (H : Heap) (locs : List Loc) (cells slots : Nat) (Q : State → Prop) (g : JFrame) : Prop :=
  ∀ T : State, T.heap = H → Stand p l e R s m args below meth c T locs cells slots → ∃ t, Steps p.tables e below ((T.setTop g).pushFrame (.throwNew "java/lang/NullPointerException" none none)) t ∧ Q t
theorem vx_npe {pc : Nat} {ls : Array Slot} {rest : List Value} {Q : State → Prop} (hexec : p.tables.exec = Jvm.exec) (hl : l.stackTraces = false) {nb : Nat} {A : Nat → Prop}
    (hat : ∀ w ∈ vx_atN nb, w.before args s = true) (hgood : ∀ w ∈ vx_atN nb, vx_ot w = true)
    (hU : vx_Zq Bundle.tN "UNASSIGNED_STACK" Bundle.steD A s s.heap) (hN : vx_Zq Bundle.tN "SUPPRESSED_SENTINEL" Bundle.listD A s s.heap) (hS : va_S A s.heap H locs) (hsize : ls.size = c.maxLocals)
    (hRframes : 7 < R.frames) (hRlocals : (rest.map fun v => v.category).sum + 10240 ≤ R.locals) (hRcells : cells + 1 ≤ R.cells) (hRslots : slots + nb ≤ R.slots) (hlocks : meth.locks = false)
    (k : ∀ (H1 : Heap) (q9 : Addr) (ce : Cell), H.size ≤ H1.size → (∀ q : Nat, q < H.size → H1[q]? = H[q]?) → va_S A s.heap H1 locs → H1[q9]? = some ce → ce.vm = .none → s.vm.findClass "java/lang/NullPointerException" = some ce.cls → vx_W p l e R s m args below meth c H1 locs (cells + 1) (slots + nb) Q (F0 m pc ls rest) q9) :
    vx_NoteN p l e R s m args below meth c H locs cells slots Q (F0 m pc ls rest) := by
  intro T hT X
  have htr : e.platform.stackTraces = false := (show e.platform.stackTraces = l.stackTraces by rw [X.admits.platform]).trans hl
  have Y := vx_rebase X (R' := { frames := R.frames, locals := R.locals, cells := 1, slots := nb }) (Nat.le_refl _) (Nat.le_refl _) hRcells hRslots
  have hhp : ((T.setVm s.vm).setFrames (.invoking m args :: below)).heap = H := hT
  have hW0 : s.WarmedH ((T.setVm s.vm).setFrames (.invoking m args :: below)).vm := State.WarmedH.refl s
  have hat' : ∀ w ∈ vx_atN nb, w.before args ((T.setVm s.vm).setFrames (.invoking m args :: below)) = true := fun w hw => vx_ot_at hW0 rfl (hgood w hw) (hat w hw)
  have hU' : vx_Zq Bundle.tN "UNASSIGNED_STACK" Bundle.steD A ((T.setVm s.vm).setFrames (.invoking m args :: below)) ((T.setVm s.vm).setFrames (.invoking m args :: below)).heap := by rw [hhp]; exact vx_Zq.moved hW0.alike (hU.kept hS.2.1)
  have hN' : vx_Zq Bundle.tN "SUPPRESSED_SENTINEL" Bundle.listD A ((T.setVm s.vm).setFrames (.invoking m args :: below)) ((T.setVm s.vm).setFrames (.invoking m args :: below)).heap := by rw [hhp]; exact vx_Zq.moved hW0.alike (hN.kept hS.2.1)
  obtain ⟨S, q, ce, st, Z, hce, hcl', hv⟩ := vx_npeAt Y hexec htr (n := nb) (vx_own hat' (vx_isRefq hU'.1) (vx_isRefq hN'.1) hU'.2.word hN'.2.word) (fun x hx => nomatch hx)
    (g := F0 m pc ls rest) rfl hsize hRframes (by show 2 * 0 + (rest.map fun v => v.category).sum + 10240 ≤ R.locals; omega) (by show 0 + 1 ≤ 1; omega) (by show 0 + nb ≤ nb; omega) hlocks
  obtain ⟨f1, f2⟩ := vx_frame Z.same
  have f1' : H.size ≤ S.heap.size := by rw [← hT]; exact f1
  have f2' : ∀ q : Nat, q < H.size → S.heap[q]? = H[q]? := fun q hq => by
    rw [← hT]
    exact f2 q (by rw [← hT] at hq; exact hq) (fun z hz => nomatch hz)
  have X5 := vx_back9 X Y Z
  have X6 : Stand p l e R s m args below meth c S locs (cells + 1) (slots + nb) := { X5 with same := X5.same.mono (by omega) (by omega) }
  obtain ⟨t, a1, b1⟩ := k S.heap q ce f1' f2' ⟨Nat.le_trans hS.1 f1', fun q h1 h2 => (f2' q (Nat.lt_of_lt_of_le h1 hS.1)).trans (hS.2.1 q h1 h2), hS.2.2⟩ hce hv hcl' S rfl X6
  exact ⟨t, st t a1, b1⟩
variable {Q : State → Prop} {cc : ByteArray} {pc : Nat} {ls : Array Slot} {rest : List Value}
theorem vx_idivZ (hexec : p.tables.exec = Jvm.exec) (hb : c.code = cc) {a b : Int32} (h0 : b = 0) (d : decode cc pc = .ok (.idiv, 1)) (k : vx_Note p l e R s m args below meth c H locs cells slots Q (F0 m pc ls rest) "java/lang/ArithmeticException" "/ by zero") :
    W p l e R s m args below meth c H locs cells slots Q (F0 m pc ls (.int b :: .int a :: rest)) := by
  intro T hT X
  obtain ⟨t, st, q⟩ := k T hT X
  exact ⟨t, X.idivZero hexec (g := F0 m pc ls (.int b :: .int a :: rest)) rfl (a := a) (rest := rest) (by rw [h0]) (by rw [hb]; exact d) t st, q⟩
theorem vx_iremZ (hexec : p.tables.exec = Jvm.exec) (hb : c.code = cc) {a b : Int32} (h0 : b = 0) (d : decode cc pc = .ok (.irem, 1)) (k : vx_Note p l e R s m args below meth c H locs cells slots Q (F0 m pc ls rest) "java/lang/ArithmeticException" "/ by zero") :
    W p l e R s m args below meth c H locs cells slots Q (F0 m pc ls (.int b :: .int a :: rest)) := by
  intro T hT X
  obtain ⟨t, st, q⟩ := k T hT X
  exact ⟨t, X.iremZero hexec (g := F0 m pc ls (.int b :: .int a :: rest)) rfl (a := a) (rest := rest) (by rw [h0]) (by rw [hb]; exact d) t st, q⟩
theorem vx_ldivZ (hexec : p.tables.exec = Jvm.exec) (hb : c.code = cc) {a b : Int64} (h0 : b = 0) (d : decode cc pc = .ok (.ldiv, 1)) (k : vx_Note p l e R s m args below meth c H locs cells slots Q (F0 m pc ls rest) "java/lang/ArithmeticException" "/ by zero") :
    W p l e R s m args below meth c H locs cells slots Q (F0 m pc ls (.long b :: .long a :: rest)) := by
  intro T hT X
  obtain ⟨t, st, q⟩ := k T hT X
  exact ⟨t, X.ldivZero hexec (g := F0 m pc ls (.long b :: .long a :: rest)) rfl (a := a) (rest := rest) (by rw [h0]) (by rw [hb]; exact d) t st, q⟩
theorem vx_lremZ (hexec : p.tables.exec = Jvm.exec) (hb : c.code = cc) {a b : Int64} (h0 : b = 0) (d : decode cc pc = .ok (.lrem, 1)) (k : vx_Note p l e R s m args below meth c H locs cells slots Q (F0 m pc ls rest) "java/lang/ArithmeticException" "/ by zero") :
    W p l e R s m args below meth c H locs cells slots Q (F0 m pc ls (.long b :: .long a :: rest)) := by
  intro T hT X
  obtain ⟨t, st, q⟩ := k T hT X
  exact ⟨t, X.lremZero hexec (g := F0 m pc ls (.long b :: .long a :: rest)) rfl (a := a) (rest := rest) (by rw [h0]) (by rw [hb]; exact d) t st, q⟩
theorem vx_ialdZ {D : va_G} {cl : List vw_C} {ws : va_W} {tys : List (ClassId × FieldType)} {a : Nat} (hexec : p.tables.exec = Jvm.exec) (hb : c.code = cc) (hK : va_K D cl tys s) (hP : va_P D cl ws H) (q0 t0 : Nat) {cA : ClassId} {n : Nat} {f : Nat → Int32} (ha : ws[q0]? = some (a, .inl (cA, n, .inl f))) (ht : tys[t0]? = some (cA, .int)) {i : Int32} (hout : ¬ vp_in i n) (hdg : decode cc pc = .ok (.iaload, 1))
    (k : ∀ tx : String, tx = (toString "Index " ++ toString i ++ toString " out of bounds for length " ++ toString n : String) → vx_Note p l e R s m args below meth c H locs cells slots Q (F0 m pc ls rest) "java/lang/ArrayIndexOutOfBoundsException" tx) : W p l e R s m args below meth c H locs cells slots Q (F0 m pc ls (.int i :: .ref a :: rest)) := by
  intro T hT X
  obtain ⟨t, st, q⟩ := k _ rfl T hT X
  refine ⟨t, ?_, q⟩
  have h1 := X.ialoadOut hexec (by rw [hT]; exact hP q0 _ ha) ((hK.2 t0 _ ht).1 n (fun j => .int (f j))) (j := i) (by show (i < 0 ∨ (arrV _ _ _).slots.size ≤ _); rw [arrV_size]; exact Classical.byContradiction hout) (g := F0 m pc ls (.int i :: .ref a :: rest)) rfl (rest := rest) rfl (by rw [hb]; exact hdg) t
  simp only [arrV_size] at h1
  exact h1 st
theorem vx_iastZ {D : va_G} {cl : List vw_C} {ws : va_W} {tys : List (ClassId × FieldType)} {a : Nat} (hexec : p.tables.exec = Jvm.exec) (hb : c.code = cc) (hK : va_K D cl tys s) (hP : va_P D cl ws H) (q0 t0 : Nat) {cA : ClassId} {n : Nat} {f : Nat → Int32} (ha : ws[q0]? = some (a, .inl (cA, n, .inl f))) (ht : tys[t0]? = some (cA, .int)) {i : Int32} {x : Int32} (hout : ¬ vp_in i n) (hdg : decode cc pc = .ok (.iastore, 1))
    (k : ∀ tx : String, tx = (toString "Index " ++ toString i ++ toString " out of bounds for length " ++ toString n : String) → vx_Note p l e R s m args below meth c H locs cells slots Q (F0 m pc ls rest) "java/lang/ArrayIndexOutOfBoundsException" tx) : W p l e R s m args below meth c H locs cells slots Q (F0 m pc ls (.int x :: .int i :: .ref a :: rest)) := by
  intro T hT X
  obtain ⟨t, st, q⟩ := k _ rfl T hT X
  refine ⟨t, ?_, q⟩
  have h1 := X.iastoreOut hexec (by rw [hT]; exact hP q0 _ ha) ((hK.2 t0 _ ht).1 n (fun j => .int (f j))) (j := i) (by show (i < 0 ∨ (arrV _ _ _).slots.size ≤ _); rw [arrV_size]; exact Classical.byContradiction hout) (g := F0 m pc ls (.int x :: .int i :: .ref a :: rest)) rfl (rest := rest) rfl (by rw [hb]; exact hdg) t
  simp only [arrV_size] at h1
  exact h1 st
theorem vx_baldZ {D : va_G} {cl : List vw_C} {ws : va_W} {tys : List (ClassId × FieldType)} {a : Nat} (hexec : p.tables.exec = Jvm.exec) (hb : c.code = cc) (hK : va_K D cl tys s) (hP : va_P D cl ws H) (q0 t0 : Nat) {cA : ClassId} {n : Nat} {f : Nat → Int32} (ha : ws[q0]? = some (a, .inl (cA, n, .inl f))) (ht : tys[t0]? = some (cA, .byte)) {i : Int32} (hout : ¬ vp_in i n) (hdg : decode cc pc = .ok (.baload, 1))
    (k : ∀ tx : String, tx = (toString "Index " ++ toString i ++ toString " out of bounds for length " ++ toString n : String) → vx_Note p l e R s m args below meth c H locs cells slots Q (F0 m pc ls rest) "java/lang/ArrayIndexOutOfBoundsException" tx) : W p l e R s m args below meth c H locs cells slots Q (F0 m pc ls (.int i :: .ref a :: rest)) := by
  intro T hT X
  obtain ⟨t, st, q⟩ := k _ rfl T hT X
  refine ⟨t, ?_, q⟩
  have h1 := X.baloadOut hexec (by rw [hT]; exact hP q0 _ ha) ((hK.2 t0 _ ht).1 n (fun j => .int (f j))) (j := i) (by show (i < 0 ∨ (arrV _ _ _).slots.size ≤ _); rw [arrV_size]; exact Classical.byContradiction hout) (g := F0 m pc ls (.int i :: .ref a :: rest)) rfl (rest := rest) rfl (by rw [hb]; exact hdg) t
  simp only [arrV_size] at h1
  exact h1 st
theorem vx_bastZ {D : va_G} {cl : List vw_C} {ws : va_W} {tys : List (ClassId × FieldType)} {a : Nat} (hexec : p.tables.exec = Jvm.exec) (hb : c.code = cc) (hK : va_K D cl tys s) (hP : va_P D cl ws H) (q0 t0 : Nat) {cA : ClassId} {n : Nat} {f : Nat → Int32} (ha : ws[q0]? = some (a, .inl (cA, n, .inl f))) (ht : tys[t0]? = some (cA, .byte)) {i : Int32} {x : Int32} (hout : ¬ vp_in i n) (hdg : decode cc pc = .ok (.bastore, 1))
    (k : ∀ tx : String, tx = (toString "Index " ++ toString i ++ toString " out of bounds for length " ++ toString n : String) → vx_Note p l e R s m args below meth c H locs cells slots Q (F0 m pc ls rest) "java/lang/ArrayIndexOutOfBoundsException" tx) : W p l e R s m args below meth c H locs cells slots Q (F0 m pc ls (.int x :: .int i :: .ref a :: rest)) := by
  intro T hT X
  obtain ⟨t, st, q⟩ := k _ rfl T hT X
  refine ⟨t, ?_, q⟩
  have h1 := X.bastoreOut hexec (by rw [hT]; exact hP q0 _ ha) ((hK.2 t0 _ ht).1 n (fun j => .int (f j))) (j := i) (by show (i < 0 ∨ (arrV _ _ _).slots.size ≤ _); rw [arrV_size]; exact Classical.byContradiction hout) (g := F0 m pc ls (.int x :: .int i :: .ref a :: rest)) rfl (rest := rest) rfl (by rw [hb]; exact hdg) t
  simp only [arrV_size] at h1
  exact h1 st
theorem vx_zaldZ {D : va_G} {cl : List vw_C} {ws : va_W} {tys : List (ClassId × FieldType)} {a : Nat} (hexec : p.tables.exec = Jvm.exec) (hb : c.code = cc) (hK : va_K D cl tys s) (hP : va_P D cl ws H) (q0 t0 : Nat) {cA : ClassId} {n : Nat} {f : Nat → Int32} (ha : ws[q0]? = some (a, .inl (cA, n, .inl f))) (ht : tys[t0]? = some (cA, .boolean)) {i : Int32} (hout : ¬ vp_in i n) (hdg : decode cc pc = .ok (.baload, 1))
    (k : ∀ tx : String, tx = (toString "Index " ++ toString i ++ toString " out of bounds for length " ++ toString n : String) → vx_Note p l e R s m args below meth c H locs cells slots Q (F0 m pc ls rest) "java/lang/ArrayIndexOutOfBoundsException" tx) : W p l e R s m args below meth c H locs cells slots Q (F0 m pc ls (.int i :: .ref a :: rest)) := by
  intro T hT X
  obtain ⟨t, st, q⟩ := k _ rfl T hT X
  refine ⟨t, ?_, q⟩
  have h1 := X.baloadOut hexec (by rw [hT]; exact hP q0 _ ha) ((hK.2 t0 _ ht).1 n (fun j => .int (f j))) (j := i) (by show (i < 0 ∨ (arrV _ _ _).slots.size ≤ _); rw [arrV_size]; exact Classical.byContradiction hout) (g := F0 m pc ls (.int i :: .ref a :: rest)) rfl (rest := rest) rfl (by rw [hb]; exact hdg) t
  simp only [arrV_size] at h1
  exact h1 st
theorem vx_zastZ {D : va_G} {cl : List vw_C} {ws : va_W} {tys : List (ClassId × FieldType)} {a : Nat} (hexec : p.tables.exec = Jvm.exec) (hb : c.code = cc) (hK : va_K D cl tys s) (hP : va_P D cl ws H) (q0 t0 : Nat) {cA : ClassId} {n : Nat} {f : Nat → Int32} (ha : ws[q0]? = some (a, .inl (cA, n, .inl f))) (ht : tys[t0]? = some (cA, .boolean)) {i : Int32} {x : Int32} (hout : ¬ vp_in i n) (hdg : decode cc pc = .ok (.bastore, 1))
    (k : ∀ tx : String, tx = (toString "Index " ++ toString i ++ toString " out of bounds for length " ++ toString n : String) → vx_Note p l e R s m args below meth c H locs cells slots Q (F0 m pc ls rest) "java/lang/ArrayIndexOutOfBoundsException" tx) : W p l e R s m args below meth c H locs cells slots Q (F0 m pc ls (.int x :: .int i :: .ref a :: rest)) := by
  intro T hT X
  obtain ⟨t, st, q⟩ := k _ rfl T hT X
  refine ⟨t, ?_, q⟩
  have h1 := X.bastoreOut hexec (by rw [hT]; exact hP q0 _ ha) ((hK.2 t0 _ ht).1 n (fun j => .int (f j))) (j := i) (by show (i < 0 ∨ (arrV _ _ _).slots.size ≤ _); rw [arrV_size]; exact Classical.byContradiction hout) (g := F0 m pc ls (.int x :: .int i :: .ref a :: rest)) rfl (rest := rest) rfl (by rw [hb]; exact hdg) t
  simp only [arrV_size] at h1
  exact h1 st
theorem vx_caldZ {D : va_G} {cl : List vw_C} {ws : va_W} {tys : List (ClassId × FieldType)} {a : Nat} (hexec : p.tables.exec = Jvm.exec) (hb : c.code = cc) (hK : va_K D cl tys s) (hP : va_P D cl ws H) (q0 t0 : Nat) {cA : ClassId} {n : Nat} {f : Nat → Int32} (ha : ws[q0]? = some (a, .inl (cA, n, .inl f))) (ht : tys[t0]? = some (cA, .char)) {i : Int32} (hout : ¬ vp_in i n) (hdg : decode cc pc = .ok (.caload, 1))
    (k : ∀ tx : String, tx = (toString "Index " ++ toString i ++ toString " out of bounds for length " ++ toString n : String) → vx_Note p l e R s m args below meth c H locs cells slots Q (F0 m pc ls rest) "java/lang/ArrayIndexOutOfBoundsException" tx) : W p l e R s m args below meth c H locs cells slots Q (F0 m pc ls (.int i :: .ref a :: rest)) := by
  intro T hT X
  obtain ⟨t, st, q⟩ := k _ rfl T hT X
  refine ⟨t, ?_, q⟩
  have h1 := X.caloadOut hexec (by rw [hT]; exact hP q0 _ ha) ((hK.2 t0 _ ht).1 n (fun j => .int (f j))) (j := i) (by show (i < 0 ∨ (arrV _ _ _).slots.size ≤ _); rw [arrV_size]; exact Classical.byContradiction hout) (g := F0 m pc ls (.int i :: .ref a :: rest)) rfl (rest := rest) rfl (by rw [hb]; exact hdg) t
  simp only [arrV_size] at h1
  exact h1 st
theorem vx_castZ {D : va_G} {cl : List vw_C} {ws : va_W} {tys : List (ClassId × FieldType)} {a : Nat} (hexec : p.tables.exec = Jvm.exec) (hb : c.code = cc) (hK : va_K D cl tys s) (hP : va_P D cl ws H) (q0 t0 : Nat) {cA : ClassId} {n : Nat} {f : Nat → Int32} (ha : ws[q0]? = some (a, .inl (cA, n, .inl f))) (ht : tys[t0]? = some (cA, .char)) {i : Int32} {x : Int32} (hout : ¬ vp_in i n) (hdg : decode cc pc = .ok (.castore, 1))
    (k : ∀ tx : String, tx = (toString "Index " ++ toString i ++ toString " out of bounds for length " ++ toString n : String) → vx_Note p l e R s m args below meth c H locs cells slots Q (F0 m pc ls rest) "java/lang/ArrayIndexOutOfBoundsException" tx) : W p l e R s m args below meth c H locs cells slots Q (F0 m pc ls (.int x :: .int i :: .ref a :: rest)) := by
  intro T hT X
  obtain ⟨t, st, q⟩ := k _ rfl T hT X
  refine ⟨t, ?_, q⟩
  have h1 := X.castoreOut hexec (by rw [hT]; exact hP q0 _ ha) ((hK.2 t0 _ ht).1 n (fun j => .int (f j))) (j := i) (by show (i < 0 ∨ (arrV _ _ _).slots.size ≤ _); rw [arrV_size]; exact Classical.byContradiction hout) (g := F0 m pc ls (.int x :: .int i :: .ref a :: rest)) rfl (rest := rest) rfl (by rw [hb]; exact hdg) t
  simp only [arrV_size] at h1
  exact h1 st
theorem vx_saldZ {D : va_G} {cl : List vw_C} {ws : va_W} {tys : List (ClassId × FieldType)} {a : Nat} (hexec : p.tables.exec = Jvm.exec) (hb : c.code = cc) (hK : va_K D cl tys s) (hP : va_P D cl ws H) (q0 t0 : Nat) {cA : ClassId} {n : Nat} {f : Nat → Int32} (ha : ws[q0]? = some (a, .inl (cA, n, .inl f))) (ht : tys[t0]? = some (cA, .short)) {i : Int32} (hout : ¬ vp_in i n) (hdg : decode cc pc = .ok (.saload, 1))
    (k : ∀ tx : String, tx = (toString "Index " ++ toString i ++ toString " out of bounds for length " ++ toString n : String) → vx_Note p l e R s m args below meth c H locs cells slots Q (F0 m pc ls rest) "java/lang/ArrayIndexOutOfBoundsException" tx) : W p l e R s m args below meth c H locs cells slots Q (F0 m pc ls (.int i :: .ref a :: rest)) := by
  intro T hT X
  obtain ⟨t, st, q⟩ := k _ rfl T hT X
  refine ⟨t, ?_, q⟩
  have h1 := X.saloadOut hexec (by rw [hT]; exact hP q0 _ ha) ((hK.2 t0 _ ht).1 n (fun j => .int (f j))) (j := i) (by show (i < 0 ∨ (arrV _ _ _).slots.size ≤ _); rw [arrV_size]; exact Classical.byContradiction hout) (g := F0 m pc ls (.int i :: .ref a :: rest)) rfl (rest := rest) rfl (by rw [hb]; exact hdg) t
  simp only [arrV_size] at h1
  exact h1 st
theorem vx_sastZ {D : va_G} {cl : List vw_C} {ws : va_W} {tys : List (ClassId × FieldType)} {a : Nat} (hexec : p.tables.exec = Jvm.exec) (hb : c.code = cc) (hK : va_K D cl tys s) (hP : va_P D cl ws H) (q0 t0 : Nat) {cA : ClassId} {n : Nat} {f : Nat → Int32} (ha : ws[q0]? = some (a, .inl (cA, n, .inl f))) (ht : tys[t0]? = some (cA, .short)) {i : Int32} {x : Int32} (hout : ¬ vp_in i n) (hdg : decode cc pc = .ok (.sastore, 1))
    (k : ∀ tx : String, tx = (toString "Index " ++ toString i ++ toString " out of bounds for length " ++ toString n : String) → vx_Note p l e R s m args below meth c H locs cells slots Q (F0 m pc ls rest) "java/lang/ArrayIndexOutOfBoundsException" tx) : W p l e R s m args below meth c H locs cells slots Q (F0 m pc ls (.int x :: .int i :: .ref a :: rest)) := by
  intro T hT X
  obtain ⟨t, st, q⟩ := k _ rfl T hT X
  refine ⟨t, ?_, q⟩
  have h1 := X.sastoreOut hexec (by rw [hT]; exact hP q0 _ ha) ((hK.2 t0 _ ht).1 n (fun j => .int (f j))) (j := i) (by show (i < 0 ∨ (arrV _ _ _).slots.size ≤ _); rw [arrV_size]; exact Classical.byContradiction hout) (g := F0 m pc ls (.int x :: .int i :: .ref a :: rest)) rfl (rest := rest) rfl (by rw [hb]; exact hdg) t
  simp only [arrV_size] at h1
  exact h1 st
theorem vx_laldZ {D : va_G} {cl : List vw_C} {ws : va_W} {tys : List (ClassId × FieldType)} {a : Nat} (hexec : p.tables.exec = Jvm.exec) (hb : c.code = cc) (hK : va_K D cl tys s) (hP : va_P D cl ws H) (q0 t0 : Nat) {cA : ClassId} {n : Nat} {f : Nat → Int64} (ha : ws[q0]? = some (a, .inl (cA, n, .inr (.inl f)))) (ht : tys[t0]? = some (cA, .long)) {i : Int32} (hout : ¬ vp_in i n) (hdg : decode cc pc = .ok (.laload, 1))
    (k : ∀ tx : String, tx = (toString "Index " ++ toString i ++ toString " out of bounds for length " ++ toString n : String) → vx_Note p l e R s m args below meth c H locs cells slots Q (F0 m pc ls rest) "java/lang/ArrayIndexOutOfBoundsException" tx) : W p l e R s m args below meth c H locs cells slots Q (F0 m pc ls (.int i :: .ref a :: rest)) := by
  intro T hT X
  obtain ⟨t, st, q⟩ := k _ rfl T hT X
  refine ⟨t, ?_, q⟩
  have h1 := X.laloadOut hexec (by rw [hT]; exact hP q0 _ ha) ((hK.2 t0 _ ht).1 n (fun j => .long (f j))) (j := i) (by show (i < 0 ∨ (arrV _ _ _).slots.size ≤ _); rw [arrV_size]; exact Classical.byContradiction hout) (g := F0 m pc ls (.int i :: .ref a :: rest)) rfl (rest := rest) rfl (by rw [hb]; exact hdg) t
  simp only [arrV_size] at h1
  exact h1 st
theorem vx_lastZ {D : va_G} {cl : List vw_C} {ws : va_W} {tys : List (ClassId × FieldType)} {a : Nat} (hexec : p.tables.exec = Jvm.exec) (hb : c.code = cc) (hK : va_K D cl tys s) (hP : va_P D cl ws H) (q0 t0 : Nat) {cA : ClassId} {n : Nat} {f : Nat → Int64} (ha : ws[q0]? = some (a, .inl (cA, n, .inr (.inl f)))) (ht : tys[t0]? = some (cA, .long)) {i : Int32} {x : Int64} (hout : ¬ vp_in i n) (hdg : decode cc pc = .ok (.lastore, 1))
    (k : ∀ tx : String, tx = (toString "Index " ++ toString i ++ toString " out of bounds for length " ++ toString n : String) → vx_Note p l e R s m args below meth c H locs cells slots Q (F0 m pc ls rest) "java/lang/ArrayIndexOutOfBoundsException" tx) : W p l e R s m args below meth c H locs cells slots Q (F0 m pc ls (.long x :: .int i :: .ref a :: rest)) := by
  intro T hT X
  obtain ⟨t, st, q⟩ := k _ rfl T hT X
  refine ⟨t, ?_, q⟩
  have h1 := X.lastoreOut hexec (by rw [hT]; exact hP q0 _ ha) ((hK.2 t0 _ ht).1 n (fun j => .long (f j))) (j := i) (by show (i < 0 ∨ (arrV _ _ _).slots.size ≤ _); rw [arrV_size]; exact Classical.byContradiction hout) (g := F0 m pc ls (.long x :: .int i :: .ref a :: rest)) rfl (rest := rest) rfl (by rw [hb]; exact hdg) t
  simp only [arrV_size] at h1
  exact h1 st
theorem vx_faldZ {D : va_G} {cl : List vw_C} {ws : va_W} {tys : List (ClassId × FieldType)} {a : Nat} (hexec : p.tables.exec = Jvm.exec) (hb : c.code = cc) (hK : va_K D cl tys s) (hP : va_P D cl ws H) (q0 t0 : Nat) {cA : ClassId} {n : Nat} {f : Nat → UInt32} (ha : ws[q0]? = some (a, .inl (cA, n, .inr (.inr (.inl f))))) (ht : tys[t0]? = some (cA, .float)) {i : Int32} (hout : ¬ vp_in i n) (hdg : decode cc pc = .ok (.faload, 1))
    (k : ∀ tx : String, tx = (toString "Index " ++ toString i ++ toString " out of bounds for length " ++ toString n : String) → vx_Note p l e R s m args below meth c H locs cells slots Q (F0 m pc ls rest) "java/lang/ArrayIndexOutOfBoundsException" tx) : W p l e R s m args below meth c H locs cells slots Q (F0 m pc ls (.int i :: .ref a :: rest)) := by
  intro T hT X
  obtain ⟨t, st, q⟩ := k _ rfl T hT X
  refine ⟨t, ?_, q⟩
  have h1 := X.faloadOut hexec (by rw [hT]; exact hP q0 _ ha) ((hK.2 t0 _ ht).1 n (fun j => .float (f j))) (j := i) (by show (i < 0 ∨ (arrV _ _ _).slots.size ≤ _); rw [arrV_size]; exact Classical.byContradiction hout) (g := F0 m pc ls (.int i :: .ref a :: rest)) rfl (rest := rest) rfl (by rw [hb]; exact hdg) t
  simp only [arrV_size] at h1
  exact h1 st
theorem vx_fastZ {D : va_G} {cl : List vw_C} {ws : va_W} {tys : List (ClassId × FieldType)} {a : Nat} (hexec : p.tables.exec = Jvm.exec) (hb : c.code = cc) (hK : va_K D cl tys s) (hP : va_P D cl ws H) (q0 t0 : Nat) {cA : ClassId} {n : Nat} {f : Nat → UInt32} (ha : ws[q0]? = some (a, .inl (cA, n, .inr (.inr (.inl f))))) (ht : tys[t0]? = some (cA, .float)) {i : Int32} {x : UInt32} (hout : ¬ vp_in i n) (hdg : decode cc pc = .ok (.fastore, 1))
    (k : ∀ tx : String, tx = (toString "Index " ++ toString i ++ toString " out of bounds for length " ++ toString n : String) → vx_Note p l e R s m args below meth c H locs cells slots Q (F0 m pc ls rest) "java/lang/ArrayIndexOutOfBoundsException" tx) : W p l e R s m args below meth c H locs cells slots Q (F0 m pc ls (.float x :: .int i :: .ref a :: rest)) := by
  intro T hT X
  obtain ⟨t, st, q⟩ := k _ rfl T hT X
  refine ⟨t, ?_, q⟩
  have h1 := X.fastoreOut hexec (by rw [hT]; exact hP q0 _ ha) ((hK.2 t0 _ ht).1 n (fun j => .float (f j))) (j := i) (by show (i < 0 ∨ (arrV _ _ _).slots.size ≤ _); rw [arrV_size]; exact Classical.byContradiction hout) (g := F0 m pc ls (.float x :: .int i :: .ref a :: rest)) rfl (rest := rest) rfl (by rw [hb]; exact hdg) t
  simp only [arrV_size] at h1
  exact h1 st
theorem vx_daldZ {D : va_G} {cl : List vw_C} {ws : va_W} {tys : List (ClassId × FieldType)} {a : Nat} (hexec : p.tables.exec = Jvm.exec) (hb : c.code = cc) (hK : va_K D cl tys s) (hP : va_P D cl ws H) (q0 t0 : Nat) {cA : ClassId} {n : Nat} {f : Nat → UInt64} (ha : ws[q0]? = some (a, .inl (cA, n, .inr (.inr (.inr (.inl f)))))) (ht : tys[t0]? = some (cA, .double)) {i : Int32} (hout : ¬ vp_in i n) (hdg : decode cc pc = .ok (.daload, 1))
    (k : ∀ tx : String, tx = (toString "Index " ++ toString i ++ toString " out of bounds for length " ++ toString n : String) → vx_Note p l e R s m args below meth c H locs cells slots Q (F0 m pc ls rest) "java/lang/ArrayIndexOutOfBoundsException" tx) : W p l e R s m args below meth c H locs cells slots Q (F0 m pc ls (.int i :: .ref a :: rest)) := by
  intro T hT X
  obtain ⟨t, st, q⟩ := k _ rfl T hT X
  refine ⟨t, ?_, q⟩
  have h1 := X.daloadOut hexec (by rw [hT]; exact hP q0 _ ha) ((hK.2 t0 _ ht).1 n (fun j => .double (f j))) (j := i) (by show (i < 0 ∨ (arrV _ _ _).slots.size ≤ _); rw [arrV_size]; exact Classical.byContradiction hout) (g := F0 m pc ls (.int i :: .ref a :: rest)) rfl (rest := rest) rfl (by rw [hb]; exact hdg) t
  simp only [arrV_size] at h1
  exact h1 st
theorem vx_dastZ {D : va_G} {cl : List vw_C} {ws : va_W} {tys : List (ClassId × FieldType)} {a : Nat} (hexec : p.tables.exec = Jvm.exec) (hb : c.code = cc) (hK : va_K D cl tys s) (hP : va_P D cl ws H) (q0 t0 : Nat) {cA : ClassId} {n : Nat} {f : Nat → UInt64} (ha : ws[q0]? = some (a, .inl (cA, n, .inr (.inr (.inr (.inl f)))))) (ht : tys[t0]? = some (cA, .double)) {i : Int32} {x : UInt64} (hout : ¬ vp_in i n) (hdg : decode cc pc = .ok (.dastore, 1))
    (k : ∀ tx : String, tx = (toString "Index " ++ toString i ++ toString " out of bounds for length " ++ toString n : String) → vx_Note p l e R s m args below meth c H locs cells slots Q (F0 m pc ls rest) "java/lang/ArrayIndexOutOfBoundsException" tx) : W p l e R s m args below meth c H locs cells slots Q (F0 m pc ls (.double x :: .int i :: .ref a :: rest)) := by
  intro T hT X
  obtain ⟨t, st, q⟩ := k _ rfl T hT X
  refine ⟨t, ?_, q⟩
  have h1 := X.dastoreOut hexec (by rw [hT]; exact hP q0 _ ha) ((hK.2 t0 _ ht).1 n (fun j => .double (f j))) (j := i) (by show (i < 0 ∨ (arrV _ _ _).slots.size ≤ _); rw [arrV_size]; exact Classical.byContradiction hout) (g := F0 m pc ls (.double x :: .int i :: .ref a :: rest)) rfl (rest := rest) rfl (by rw [hb]; exact hdg) t
  simp only [arrV_size] at h1
  exact h1 st
theorem vx_arraylengthN (hexec : p.tables.exec = Jvm.exec) (hb : c.code = cc) (hdg : decode cc pc = .ok (.arraylength, 1)) (k : vx_NoteN p l e R s m args below meth c H locs cells slots Q (F0 m pc ls rest)) : W p l e R s m args below meth c H locs cells slots Q (F0 m pc ls (.null :: rest)) := by
  intro T hT X
  obtain ⟨t, st, q⟩ := k T hT X
  exact ⟨t, X.arraylengthNull hexec (g := F0 m pc ls (.null :: rest)) rfl (rest := rest) rfl (by rw [hb]; exact hdg) t st, q⟩
theorem vx_ialoadN (hexec : p.tables.exec = Jvm.exec) (hb : c.code = cc) {i : Int32} (hdg : decode cc pc = .ok (.iaload, 1)) (k : vx_NoteN p l e R s m args below meth c H locs cells slots Q (F0 m pc ls rest)) : W p l e R s m args below meth c H locs cells slots Q (F0 m pc ls (.int i :: .null :: rest)) := by
  intro T hT X
  obtain ⟨t, st, q⟩ := k T hT X
  exact ⟨t, X.ialoadNull hexec (g := F0 m pc ls (.int i :: .null :: rest)) rfl (rest := rest) rfl (by rw [hb]; exact hdg) t st, q⟩
theorem vx_laloadN (hexec : p.tables.exec = Jvm.exec) (hb : c.code = cc) {i : Int32} (hdg : decode cc pc = .ok (.laload, 1)) (k : vx_NoteN p l e R s m args below meth c H locs cells slots Q (F0 m pc ls rest)) : W p l e R s m args below meth c H locs cells slots Q (F0 m pc ls (.int i :: .null :: rest)) := by
  intro T hT X
  obtain ⟨t, st, q⟩ := k T hT X
  exact ⟨t, X.laloadNull hexec (g := F0 m pc ls (.int i :: .null :: rest)) rfl (rest := rest) rfl (by rw [hb]; exact hdg) t st, q⟩
theorem vx_faloadN (hexec : p.tables.exec = Jvm.exec) (hb : c.code = cc) {i : Int32} (hdg : decode cc pc = .ok (.faload, 1)) (k : vx_NoteN p l e R s m args below meth c H locs cells slots Q (F0 m pc ls rest)) : W p l e R s m args below meth c H locs cells slots Q (F0 m pc ls (.int i :: .null :: rest)) := by
  intro T hT X
  obtain ⟨t, st, q⟩ := k T hT X
  exact ⟨t, X.faloadNull hexec (g := F0 m pc ls (.int i :: .null :: rest)) rfl (rest := rest) rfl (by rw [hb]; exact hdg) t st, q⟩
theorem vx_daloadN (hexec : p.tables.exec = Jvm.exec) (hb : c.code = cc) {i : Int32} (hdg : decode cc pc = .ok (.daload, 1)) (k : vx_NoteN p l e R s m args below meth c H locs cells slots Q (F0 m pc ls rest)) : W p l e R s m args below meth c H locs cells slots Q (F0 m pc ls (.int i :: .null :: rest)) := by
  intro T hT X
  obtain ⟨t, st, q⟩ := k T hT X
  exact ⟨t, X.daloadNull hexec (g := F0 m pc ls (.int i :: .null :: rest)) rfl (rest := rest) rfl (by rw [hb]; exact hdg) t st, q⟩
theorem vx_aaloadN (hexec : p.tables.exec = Jvm.exec) (hb : c.code = cc) {i : Int32} (hdg : decode cc pc = .ok (.aaload, 1)) (k : vx_NoteN p l e R s m args below meth c H locs cells slots Q (F0 m pc ls rest)) : W p l e R s m args below meth c H locs cells slots Q (F0 m pc ls (.int i :: .null :: rest)) := by
  intro T hT X
  obtain ⟨t, st, q⟩ := k T hT X
  exact ⟨t, X.aaloadNull hexec (g := F0 m pc ls (.int i :: .null :: rest)) rfl (rest := rest) rfl (by rw [hb]; exact hdg) t st, q⟩
theorem vx_baloadN (hexec : p.tables.exec = Jvm.exec) (hb : c.code = cc) {i : Int32} (hdg : decode cc pc = .ok (.baload, 1)) (k : vx_NoteN p l e R s m args below meth c H locs cells slots Q (F0 m pc ls rest)) : W p l e R s m args below meth c H locs cells slots Q (F0 m pc ls (.int i :: .null :: rest)) := by
  intro T hT X
  obtain ⟨t, st, q⟩ := k T hT X
  exact ⟨t, X.baloadNull hexec (g := F0 m pc ls (.int i :: .null :: rest)) rfl (rest := rest) rfl (by rw [hb]; exact hdg) t st, q⟩
theorem vx_caloadN (hexec : p.tables.exec = Jvm.exec) (hb : c.code = cc) {i : Int32} (hdg : decode cc pc = .ok (.caload, 1)) (k : vx_NoteN p l e R s m args below meth c H locs cells slots Q (F0 m pc ls rest)) : W p l e R s m args below meth c H locs cells slots Q (F0 m pc ls (.int i :: .null :: rest)) := by
  intro T hT X
  obtain ⟨t, st, q⟩ := k T hT X
  exact ⟨t, X.caloadNull hexec (g := F0 m pc ls (.int i :: .null :: rest)) rfl (rest := rest) rfl (by rw [hb]; exact hdg) t st, q⟩
theorem vx_saloadN (hexec : p.tables.exec = Jvm.exec) (hb : c.code = cc) {i : Int32} (hdg : decode cc pc = .ok (.saload, 1)) (k : vx_NoteN p l e R s m args below meth c H locs cells slots Q (F0 m pc ls rest)) : W p l e R s m args below meth c H locs cells slots Q (F0 m pc ls (.int i :: .null :: rest)) := by
  intro T hT X
  obtain ⟨t, st, q⟩ := k T hT X
  exact ⟨t, X.saloadNull hexec (g := F0 m pc ls (.int i :: .null :: rest)) rfl (rest := rest) rfl (by rw [hb]; exact hdg) t st, q⟩
theorem vx_iastoreN (hexec : p.tables.exec = Jvm.exec) (hb : c.code = cc) {x : Int32} {i : Int32} (hdg : decode cc pc = .ok (.iastore, 1)) (k : vx_NoteN p l e R s m args below meth c H locs cells slots Q (F0 m pc ls rest)) : W p l e R s m args below meth c H locs cells slots Q (F0 m pc ls (.int x :: .int i :: .null :: rest)) := by
  intro T hT X
  obtain ⟨t, st, q⟩ := k T hT X
  exact ⟨t, X.iastoreNull hexec (g := F0 m pc ls (.int x :: .int i :: .null :: rest)) rfl (rest := rest) rfl (by rw [hb]; exact hdg) t st, q⟩
theorem vx_lastoreN (hexec : p.tables.exec = Jvm.exec) (hb : c.code = cc) {x : Int64} {i : Int32} (hdg : decode cc pc = .ok (.lastore, 1)) (k : vx_NoteN p l e R s m args below meth c H locs cells slots Q (F0 m pc ls rest)) : W p l e R s m args below meth c H locs cells slots Q (F0 m pc ls (.long x :: .int i :: .null :: rest)) := by
  intro T hT X
  obtain ⟨t, st, q⟩ := k T hT X
  exact ⟨t, X.lastoreNull hexec (g := F0 m pc ls (.long x :: .int i :: .null :: rest)) rfl (rest := rest) rfl (by rw [hb]; exact hdg) t st, q⟩
theorem vx_fastoreN (hexec : p.tables.exec = Jvm.exec) (hb : c.code = cc) {x : UInt32} {i : Int32} (hdg : decode cc pc = .ok (.fastore, 1)) (k : vx_NoteN p l e R s m args below meth c H locs cells slots Q (F0 m pc ls rest)) : W p l e R s m args below meth c H locs cells slots Q (F0 m pc ls (.float x :: .int i :: .null :: rest)) := by
  intro T hT X
  obtain ⟨t, st, q⟩ := k T hT X
  exact ⟨t, X.fastoreNull hexec (g := F0 m pc ls (.float x :: .int i :: .null :: rest)) rfl (rest := rest) rfl (by rw [hb]; exact hdg) t st, q⟩
theorem vx_dastoreN (hexec : p.tables.exec = Jvm.exec) (hb : c.code = cc) {x : UInt64} {i : Int32} (hdg : decode cc pc = .ok (.dastore, 1)) (k : vx_NoteN p l e R s m args below meth c H locs cells slots Q (F0 m pc ls rest)) : W p l e R s m args below meth c H locs cells slots Q (F0 m pc ls (.double x :: .int i :: .null :: rest)) := by
  intro T hT X
  obtain ⟨t, st, q⟩ := k T hT X
  exact ⟨t, X.dastoreNull hexec (g := F0 m pc ls (.double x :: .int i :: .null :: rest)) rfl (rest := rest) rfl (by rw [hb]; exact hdg) t st, q⟩
theorem vx_bastoreN (hexec : p.tables.exec = Jvm.exec) (hb : c.code = cc) {x : Int32} {i : Int32} (hdg : decode cc pc = .ok (.bastore, 1)) (k : vx_NoteN p l e R s m args below meth c H locs cells slots Q (F0 m pc ls rest)) : W p l e R s m args below meth c H locs cells slots Q (F0 m pc ls (.int x :: .int i :: .null :: rest)) := by
  intro T hT X
  obtain ⟨t, st, q⟩ := k T hT X
  exact ⟨t, X.bastoreNull hexec (g := F0 m pc ls (.int x :: .int i :: .null :: rest)) rfl (rest := rest) rfl (by rw [hb]; exact hdg) t st, q⟩
theorem vx_castoreN (hexec : p.tables.exec = Jvm.exec) (hb : c.code = cc) {x : Int32} {i : Int32} (hdg : decode cc pc = .ok (.castore, 1)) (k : vx_NoteN p l e R s m args below meth c H locs cells slots Q (F0 m pc ls rest)) : W p l e R s m args below meth c H locs cells slots Q (F0 m pc ls (.int x :: .int i :: .null :: rest)) := by
  intro T hT X
  obtain ⟨t, st, q⟩ := k T hT X
  exact ⟨t, X.castoreNull hexec (g := F0 m pc ls (.int x :: .int i :: .null :: rest)) rfl (rest := rest) rfl (by rw [hb]; exact hdg) t st, q⟩
theorem vx_sastoreN (hexec : p.tables.exec = Jvm.exec) (hb : c.code = cc) {x : Int32} {i : Int32} (hdg : decode cc pc = .ok (.sastore, 1)) (k : vx_NoteN p l e R s m args below meth c H locs cells slots Q (F0 m pc ls rest)) : W p l e R s m args below meth c H locs cells slots Q (F0 m pc ls (.int x :: .int i :: .null :: rest)) := by
  intro T hT X
  obtain ⟨t, st, q⟩ := k T hT X
  exact ⟨t, X.sastoreNull hexec (g := F0 m pc ls (.int x :: .int i :: .null :: rest)) rfl (rest := rest) rfl (by rw [hb]; exact hdg) t st, q⟩
theorem vx_invokeN {own C : String} {index maxL : Nat} {y : MethodName} {bytes : ByteArray} {ret : Option FieldType} (hexec : p.tables.exec = Jvm.exec) (hb : c.code = cc) (hown : s.vm.findClass own = some m.cls) (hlink : (Cond.methodLink own index y).before args s = true) (hinst : (Cond.instanceMethod y).before args s = true) (hcode : (Cond.code y bytes maxL ret).before args s = true) (hsel : (Cond.selects C y y).before args s = true)
    (hx : y.cls ≠ "java/lang/invoke/MethodHandle" ∧ y.cls ≠ "java/lang/invoke/VarHandle") {As : List Value} (hlen : (parseMethodDescriptor y.desc).map (fun d => d.parameters.length) = some As.length) (hdg : decode cc pc = .ok (.invokevirtual index, 3))
    (k : vx_NoteN p l e R s m args below meth c H locs cells slots Q (F0 m pc ls rest)) {st0 : List Value} (hst : st0 = As.reverse ++ .null :: rest) : W p l e R s m args below meth c H locs cells slots Q (F0 m pc ls st0) := by
  intro T hT X
  obtain ⟨r0, r, hn, hrm, hstR, hsigR⟩ := va_Decl.of hinst hcode
  obtain ⟨c2, r2, m2, q1, q2, q3, q4, kP, hkP, hkPi⟩ := Cond.selects_spec hsel
  cases hn.symm.trans q3
  have hl9 : As.length = r.sig.parameters.length := by
    rw [hsigR] at hlen
    exact (Option.some.inj hlen).symm
  obtain ⟨vm', X1, st1⟩ := X.invokevirtualNull hexec hown hlink hn hrm hstR hkP hkPi hx (g := F0 m pc ls st0) rfl (argsL := As) (rest := rest) hl9 hst (by rw [hb]; exact hdg)
  obtain ⟨t, st, q⟩ := k (T.setVm vm') hT X1
  exact ⟨t, st1 t st, q⟩
theorem vx_newarrayZ {atype : ArrayType} (hexec : p.tables.exec = Jvm.exec) (hb : c.code = cc) {n : Int32} (h0 : n < 0) (hdg : decode cc pc = .ok (.newarray atype, 2)) (k : ∀ tx : String, tx = toString n → vx_Note p l e R s m args below meth c H locs cells slots Q (F0 m pc ls rest) "java/lang/NegativeArraySizeException" tx) : W p l e R s m args below meth c H locs cells slots Q (F0 m pc ls (.int n :: rest)) := by
  intro T hT X
  obtain ⟨t, st, q⟩ := k _ rfl T hT X
  exact ⟨t, X.newarrayNegative hexec (g := F0 m pc ls (.int n :: rest)) rfl h0 (rest := rest) rfl (by rw [hb]; exact hdg) t st, q⟩
end
end VXM
/-! ===== END ===== -/
end
section
/-! a small evaluator over numbers; what it finds holds of the machine (part 03 on) -/
abbrev zC : Type := Nat × Nat × Nat × Nat
abbrev zHp : Type := List zC
abbrev zOut : Type := Nat × Nat × zHp × Nat × Nat
abbrev zR : Type := Option zOut
abbrev zK : Type := Nat → List Nat → zHp → Nat → Nat → zR
abbrev zI : Type := zK → (Nat → zK) → zK
def zg (N i : Nat) : Nat := Nat.mod (Nat.shiftRight N (Nat.mul 72 i)) 4722366482869645213696
def zs (N i v : Nat) : Nat := Nat.xor N (Nat.shiftLeft (Nat.xor (zg N i) v) (Nat.mul 72 i))
theorem zg_lt (N i : Nat) : zg N i < 2 ^ 72 := Nat.mod_lt _ (by decide)
theorem zg_bit (N i j : Nat) : (zg N i).testBit j = (decide (j < 72) && N.testBit (72 * i + j)) := by
  show ((N >>> (72 * i)) % 2 ^ 72).testBit j = _
  rw [Nat.testBit_mod_two_pow, Nat.testBit_shiftRight]
theorem zg_zs (N i v j : Nat) (hv : v < 2 ^ 72) : zg (zs N i v) j = if j = i then v else zg N j := by
  apply Nat.eq_of_testBit_eq
  intro b
  rw [zg_bit]
  have e : (zs N i v).testBit (72 * j + b) = (N.testBit (72 * j + b) ^^ (decide (72 * i ≤ 72 * j + b) && ((zg N i).testBit (72 * j + b - 72 * i) ^^ v.testBit (72 * j + b - 72 * i)))) := by
    show (N ^^^ ((zg N i ^^^ v) <<< (72 * i))).testBit _ = _
    rw [Nat.testBit_xor, Nat.testBit_shiftLeft, Nat.testBit_xor]
  rw [e]
  have big : ∀ x, 72 ≤ x → (zg N i).testBit x = false ∧ v.testBit x = false := by
    intro x hx
    exact ⟨Nat.testBit_lt_two_pow (Nat.lt_of_lt_of_le (zg_lt N i) (Nat.pow_le_pow_right (by decide) hx)), Nat.testBit_lt_two_pow (Nat.lt_of_lt_of_le hv (Nat.pow_le_pow_right (by decide) hx))⟩
  by_cases hb : b < 72
  · by_cases hj : j = i
    · subst hj
      rw [if_pos rfl, Nat.add_sub_cancel_left, zg_bit]
      simp only [hb, decide_true, Bool.true_and, Nat.le_add_right]
      cases N.testBit (72 * j + b) <;> cases v.testBit b <;> rfl
    · rw [if_neg hj, zg_bit N j b]
      simp only [hb, decide_true, Bool.true_and]
      by_cases hl : 72 * i ≤ 72 * j + b
      · have h72 : 72 ≤ 72 * j + b - 72 * i := by omega
        obtain ⟨h1, h2⟩ := big _ h72
        rw [h1, h2]
        simp
      · simp [hl]
  · have hb' : 72 ≤ b := by omega
    simp only [hb, decide_false, Bool.false_and]
    by_cases hj : j = i
    · rw [if_pos hj]; exact ((big b hb').2).symm
    · rw [if_neg hj, zg_bit N j b]; simp [hb]
theorem zg_0 (i : Nat) : zg 0 i = 0 := by
  show (0 >>> (72 * i)) % _ = 0
  rw [Nat.zero_shiftRight]
/-- a code's value: 0 int, 1 a cell of the run, 2 a thing that was there, 3 null, 4 long, 5 float, 6 double, 7 an int of the script -/
def zvd (sz : Nat) (sv : Nat → Value) (ev : Nat → Int32) (v : Nat) : Value :=
  if v % 8 = 0 then .int (nI (v / 8)) else if v % 8 = 1 then .ref (sz + v / 8) else if v % 8 = 2 then sv (v / 8) else if v % 8 = 3 then .null
  else if v % 8 = 4 then .long (lN (v / 8)) else if v % 8 = 5 then .float (UInt32.ofNat (v / 8)) else if v % 8 = 6 then .double (UInt64.ofNat (v / 8)) else .int (ev (v / 8))
theorem zvd_0 {sz : Nat} {sv : Nat → Value} {ev : Nat → Int32} {v : Nat} (h : v % 8 = 0) : zvd sz sv ev v = .int (nI (v / 8)) := by unfold zvd; rw [if_pos h]
theorem zvd_1 {sz : Nat} {sv : Nat → Value} {ev : Nat → Int32} {v : Nat} (h : v % 8 = 1) : zvd sz sv ev v = .ref (sz + v / 8) := by unfold zvd; rw [if_neg (by omega), if_pos h]
theorem zvd_2 {sz : Nat} {sv : Nat → Value} {ev : Nat → Int32} {v : Nat} (h : v % 8 = 2) : zvd sz sv ev v = sv (v / 8) := by unfold zvd; rw [if_neg (by omega), if_neg (by omega), if_pos h]
theorem zvd_3 {sz : Nat} {sv : Nat → Value} {ev : Nat → Int32} {v : Nat} (h : v % 8 = 3) : zvd sz sv ev v = .null := by unfold zvd; rw [if_neg (by omega), if_neg (by omega), if_neg (by omega), if_pos h]
theorem zvd_4 {sz : Nat} {sv : Nat → Value} {ev : Nat → Int32} {v : Nat} (h : v % 8 = 4) : zvd sz sv ev v = .long (lN (v / 8)) := by unfold zvd; rw [if_neg (by omega), if_neg (by omega), if_neg (by omega), if_neg (by omega), if_pos h]
theorem zvd_5 {sz : Nat} {sv : Nat → Value} {ev : Nat → Int32} {v : Nat} (h : v % 8 = 5) : zvd sz sv ev v = .float (UInt32.ofNat (v / 8)) := by unfold zvd; rw [if_neg (by omega), if_neg (by omega), if_neg (by omega), if_neg (by omega), if_neg (by omega), if_pos h]
theorem zvd_6 {sz : Nat} {sv : Nat → Value} {ev : Nat → Int32} {v : Nat} (h : v % 8 = 6) : zvd sz sv ev v = .double (UInt64.ofNat (v / 8)) := by unfold zvd; rw [if_neg (by omega), if_neg (by omega), if_neg (by omega), if_neg (by omega), if_neg (by omega), if_neg (by omega), if_pos h]
theorem zvd_7 {sz : Nat} {sv : Nat → Value} {ev : Nat → Int32} {v : Nat} (h : v % 8 = 7) : zvd sz sv ev v = .int (ev (v / 8)) := by unfold zvd; rw [if_neg (by omega), if_neg (by omega), if_neg (by omega), if_neg (by omega), if_neg (by omega), if_neg (by omega), if_neg (by omega)]
/-! the instructions -/
noncomputable def zck (b : Bool) (r : zR) : zR := cond b r none
theorem zck_some {b : Bool} {r : zR} {o : zOut} (h : zck b r = some o) : b = true ∧ r = some o := by
  cases b
  · cases h
  · exact ⟨rfl, h⟩
/-- the top of the stack -/
noncomputable def zpop (st : List Nat) (k : Nat → List Nat → zR) : zR := List.rec (motive := fun _ => zR) none (fun v t _ => k v t) st
theorem zpop_some {st : List Nat} {k : Nat → List Nat → zR} {o : zOut} (h : zpop st k = some o) : ∃ v t, st = v :: t ∧ k v t = some o := by
  cases st with
  | nil => cases h
  | cons v t => exact ⟨v, t, rfl, h⟩
noncomputable def zt (v : Nat) (t : Nat) : Bool := Nat.beq (Nat.mod v 8) t
theorem zt_eq {v t : Nat} (h : zt v t = true) : v % 8 = t := Nat.eq_of_beq_eq_true h
noncomputable def zisI (v : Nat) : Bool := cond (zt v 0) true (zt v 7)
theorem zisI_eq {v : Nat} (h : zisI v = true) : v % 8 = 0 ∨ v % 8 = 7 := by
  unfold zisI at h
  cases h1 : zt v 0 with
  | true => exact Or.inl (zt_eq h1)
  | false => rw [h1] at h; exact Or.inr (zt_eq h)
noncomputable def zisA (v : Nat) : Bool := cond (zt v 1) true (cond (zt v 2) true (zt v 3))
theorem zisA_eq {v : Nat} (h : zisA v = true) : v % 8 = 1 ∨ v % 8 = 2 ∨ v % 8 = 3 := by
  unfold zisA at h
  cases h1 : zt v 1 with
  | true => exact Or.inl (zt_eq h1)
  | false =>
    rw [h1] at h
    cases h2 : zt v 2 with
    | true => exact Or.inr (Or.inl (zt_eq h2))
    | false =>
      have h' : zt v 3 = true := by simpa [h2] using h
      exact Or.inr (Or.inr (zt_eq h'))
theorem zI_int {sz : Nat} {sv : Nat → Value} {ev : Nat → Int32} {v : Nat} (h : zisI v = true) : ∃ x : Int32, zvd sz sv ev v = .int x := by
  rcases zisI_eq h with h | h
  · exact ⟨_, zvd_0 h⟩
  · exact ⟨_, zvd_7 h⟩
noncomputable def zPush (v : Nat) : zI := fun k _ L st hp n ns => k L (v :: st) hp n ns
noncomputable def zLd (ok : Nat → Bool) (i : Nat) : zI := fun k _ L st hp n ns => zck (Nat.ble 1 (zg L i)) (zck (ok (Nat.pred (zg L i))) (k L (Nat.pred (zg L i) :: st) hp n ns))
noncomputable def zLdI (i : Nat) : zI := zLd zisI i
noncomputable def zLdA (i : Nat) : zI := zLd zisA i
noncomputable def zLdL (i : Nat) : zI := zLd (fun v => zt v 4) i
/-- no long lies just below -/
noncomputable def znl (L i : Nat) : Bool := Nat.rec (motive := fun _ => Bool) true (fun j _ => cond (Nat.beq (Nat.mod (zg L j) 8) 5) false (cond (Nat.beq (Nat.mod (zg L j) 8) 7) false true)) i
noncomputable def zSt (ok : Nat → Bool) (nL i : Nat) : zI := fun k _ L st hp n ns => zpop st fun v t => zck (ok v) (zck (Nat.blt v 4722366482869645213695) (zck (Nat.blt i nL) (zck (znl L i) (k (zs L i (Nat.succ v)) t hp n ns))))
noncomputable def zStI (nL i : Nat) : zI := zSt zisI nL i
noncomputable def zStA (nL i : Nat) : zI := zSt zisA nL i
noncomputable def zStF (nL i : Nat) : zI := zSt (fun v => zt v 5) nL i
noncomputable def zSt2 (ok : Nat → Bool) (nL i : Nat) : zI := fun k _ L st hp n ns => zpop st fun v t => zck (ok v) (zck (Nat.blt v 4722366482869645213695) (zck (Nat.blt (Nat.succ i) nL) (zck (znl L i) (k (zs (zs L (Nat.succ i) 0) i (Nat.succ v)) t hp n ns))))
noncomputable def zStL (nL i : Nat) : zI := zSt2 (fun v => zt v 4) nL i
noncomputable def zStD (nL i : Nat) : zI := zSt2 (fun v => zt v 6) nL i
noncomputable def zmk (k : Nat) : Nat := Nat.mul 8 (Nat.mod k 4294967296)
noncomputable def zIinc (nL i d : Nat) : zI := fun k _ L st hp n ns => zck (Nat.ble 1 (zg L i)) (zck (zt (Nat.pred (zg L i)) 0) (zck (Nat.blt i nL) (zck (znl L i) (k (zs L i (Nat.succ (zmk (Nat.add (Nat.div (Nat.pred (zg L i)) 8) d)))) st hp n ns))))
noncomputable def zBin (f : Nat → Nat → Nat) : zI := fun k _ L st hp n ns => zpop st fun y t => zpop t fun x t => zck (zt x 0) (zck (zt y 0) (k L (zmk (f (Nat.div x 8) (Nat.div y 8)) :: t) hp n ns))
noncomputable def zGoto (tg : Nat) : zI := fun _ j L st hp n ns => j tg L st hp n ns
noncomputable def zDup : zI := fun k _ L st hp n ns => zpop st fun v t => zck (cond (zisI v) true (zisA v)) (k L (v :: v :: t) hp n ns)
noncomputable def zPop : zI := fun k _ L st hp n ns => zpop st fun v t => zck (cond (zisI v) true (zisA v)) (k L t hp n ns)
noncomputable def zDupX1 : zI := fun k _ L st hp n ns => zpop st fun v t => zpop t fun w t => zck (cond (zisI v) true (zisA v)) (zck (cond (zisI w) true (zisA w)) (k L (v :: w :: v :: t) hp n ns))
noncomputable def zDup2 : zI := fun k _ L st hp n ns => zpop st fun v t => zpop t fun w t => zck (cond (zisI v) true (zisA v)) (zck (cond (zisI w) true (zisA w)) (k L (v :: w :: v :: w :: t) hp n ns))
noncomputable def zRet0 : zI := fun _ _ _ st hp n ns => List.rec (motive := fun _ => zR) (some (0, 0, hp, n, ns)) (fun _ _ _ => none) st
noncomputable def zRetV (ok : Nat → Bool) : zI := fun _ _ _ st hp n ns => zpop st fun v t => zck (ok v) (List.rec (motive := fun _ => zR) (some (1, v, hp, n, ns)) (fun _ _ _ => none) t)
end
section
/-! what the evaluator's numbers say of the heap, and what it is that a continuation is right -/
def zgi (sz : Nat) (sv : Nat → Value) (ev : Nat → Int32) (v : Nat) : Int32 := match zvd sz sv ev v with | .int x => x | _ => 0
def zgl (sz : Nat) (sv : Nat → Value) (ev : Nat → Int32) (v : Nat) : Int64 := match zvd sz sv ev v with | .long x => x | _ => 0
def zgr (sz : Nat) (sv : Nat → Value) (ev : Nat → Int32) (v : Nat) : Option Nat := match zvd sz sv ev v with | .ref x => some x | _ => none
def znf (cl : List vw_C) (k : Nat) : Nat := ((cl[k]?).map (fun q => q.2.2)).getD 0
/-- the classes of the rows: int, boolean, long, double, Object -/
abbrev zAr : Type := ClassId × ClassId × ClassId × ClassId × ClassId
def zent (sz : Nat) (sv : Nat → Value) (ev : Nat → Int32) (cl : List vw_C) (ar : zAr) (x : zC) : va_E :=
  if x.2.1 = 64 then .inl (ar.1, x.2.2.1, .inl (fun i => zgi sz sv ev (zg x.2.2.2 i)))
  else if x.2.1 = 65 then .inl (ar.2.1, x.2.2.1, .inl (fun i => zgi sz sv ev (zg x.2.2.2 i)))
  else if x.2.1 = 66 then .inl (ar.2.2.1, x.2.2.1, .inr (.inl (fun i => zgl sz sv ev (Nat.xor (zg x.2.2.2 i) 4))))
  else if x.2.1 = 67 then .inl (ar.2.2.2.1, x.2.2.1, .inr (.inr (.inr (.inl (fun _ => 0)))))
  else if x.2.1 = 68 then .inl (ar.2.2.2.2, x.2.2.1, .inr (.inr (.inr (.inr (fun i => zgr sz sv ev (Nat.xor (zg x.2.2.2 i) 3))))))
  else .inr (x.2.1, (List.range (znf cl x.2.1)).map (fun i => zvd sz sv ev (zg x.2.2.2 i)))
def zren (sz : Nat) (sv : Nat → Value) (ev : Nat → Int32) (cl : List vw_C) (ar : zAr) (hp : zHp) : va_W := hp.map (fun x => (sz + x.1, zent sz sv ev cl ar x))
/-- numbers fall, all below n -/
def zwf : Nat → zHp → Prop
  | _, [] => True
  | n, x :: t => x.1 < n ∧ zwf x.1 t
theorem zwf_le {n m : Nat} (h : n ≤ m) : ∀ {hp : zHp}, zwf n hp → zwf m hp
  | [], _ => trivial
  | _ :: _, w => ⟨Nat.lt_of_lt_of_le w.1 h, w.2⟩
theorem zwf_mem : ∀ {hp : zHp} {n : Nat}, zwf n hp → ∀ x ∈ hp, x.1 < n
  | [], _, _, _, h => nomatch h
  | y :: t, n, w, x, h => by
    rcases List.mem_cons.mp h with h | h
    · rw [h]; exact w.1
    · exact Nat.lt_trans (zwf_mem w.2 x h) w.1
theorem zwf_inj : ∀ {hp : zHp} {n : Nat}, zwf n hp → ∀ (i j : Nat) (x y : zC), hp[i]? = some x → hp[j]? = some y → x.1 = y.1 → i = j
  | [], _, _, i, _, _, _, h, _, _ => by simp at h
  | z :: t, n, w, 0, 0, _, _, _, _, _ => rfl
  | z :: t, n, w, i + 1, j + 1, x, y, h1, h2, e => by
    rw [List.getElem?_cons_succ] at h1 h2
    rw [zwf_inj w.2 i j x y h1 h2 e]
  | z :: t, n, w, 0, j + 1, x, y, h1, h2, e => by
    rw [List.getElem?_cons_succ] at h2
    have := zwf_mem w.2 y (List.mem_of_getElem? h2)
    simp at h1; subst h1; omega
  | z :: t, n, w, i + 1, 0, x, y, h1, h2, e => by
    rw [List.getElem?_cons_succ] at h1
    have := zwf_mem w.2 x (List.mem_of_getElem? h1)
    simp at h2; subst h2; omega
def zA (sz : Nat) : Nat → Prop := fun q => sz ≤ q
theorem zD {sz : Nat} {sv : Nat → Value} {ev : Nat → Int32} {cl : List vw_C} {ar : zAr} {hp : zHp} {n : Nat} (w : zwf n hp) : va_D (zA sz) (zren sz sv ev cl ar hp) := by
  refine ⟨fun i j p q hp1 hq1 e => ?_, fun k q hk => ?_⟩
  · simp only [zren, List.getElem?_map, Option.map_eq_some_iff] at hp1 hq1
    obtain ⟨x, hx, rfl⟩ := hp1
    obtain ⟨y, hy, rfl⟩ := hq1
    exact zwf_inj w i j x y hx hy (by simpa using e)
  · simp only [zren, List.getElem?_map, Option.map_eq_some_iff] at hk
    obtain ⟨x, hx, rfl⟩ := hk
    exact Nat.le_add_right _ _
/-- the locals -/
def zLR (sz : Nat) (sv : Nat → Value) (ev : Nat → Int32) (nL L : Nat) (ls : Array Slot) : Prop := ls.size = nL ∧ lv_wf ls ∧ ∀ i, zg L i ≠ 0 → ls[i]? = some (.val (zvd sz sv ev (zg L i - 1)))
def zlist (sz : Nat) (sv : Nat → Value) (ev : Nat → Int32) (nL L : Nat) : List (Nat × Value) := (List.range nL).filterMap (fun i => if zg L i = 0 then none else some (i, zvd sz sv ev (zg L i - 1)))
theorem zLR_has {sz : Nat} {sv : Nat → Value} {ev : Nat → Int32} {nL L : Nat} {ls : Array Slot} (h : zLR sz sv ev nL L ls) : lv_has ls nL (zlist sz sv ev nL L) := by
  refine ⟨h.1, h.2.1, fun q hq => ?_⟩
  obtain ⟨i, hi, he⟩ := List.mem_filterMap.mp hq
  by_cases h0 : zg L i = 0
  · rw [if_pos h0] at he; cases he
  · rw [if_neg h0] at he; cases he; exact h.2.2 i h0
theorem zLR_lt {sz : Nat} {sv : Nat → Value} {ev : Nat → Int32} {nL L : Nat} {ls : Array Slot} (h : zLR sz sv ev nL L ls) {i : Nat} (hi : zg L i ≠ 0) : i < nL := by
  have := (Array.getElem?_eq_some_iff.mp (h.2.2 i hi)).1
  rw [h.1] at this; exact this
theorem zmem_list {sz : Nat} {sv : Nat → Value} {ev : Nat → Int32} {nL L : Nat} {ls : Array Slot} (h : zLR sz sv ev nL L ls) {i : Nat} (hi : zg L i ≠ 0) : (i, zvd sz sv ev (zg L i - 1)) ∈ zlist sz sv ev nL L :=
  List.mem_filterMap.mpr ⟨i, List.mem_range.mpr (zLR_lt h hi), by rw [if_neg hi]⟩
theorem zcat1 {sz : Nat} {sv : Nat → Value} {ev : Nat → Int32} {v : Nat} (h : v % 8 ≠ 4) (h6 : v % 8 ≠ 6) (hs : ∀ j, (sv j).category = 1) : (zvd sz sv ev v).category = 1 := by
  unfold zvd
  repeat' split
  all_goals first | rfl | exact hs _ | omega
theorem znl_eq {L i : Nat} (h : znl L i = true) : ∀ j, j + 1 = i → zg L j ≠ 0 → (zg L j - 1) % 8 ≠ 4 ∧ (zg L j - 1) % 8 ≠ 6 := by
  intro j hj h0
  subst hj
  have h1 : (cond (Nat.beq (Nat.mod (zg L j) 8) 5) false (cond (Nat.beq (Nat.mod (zg L j) 8) 7) false true)) = true := h
  have e5 : zg L j % 8 ≠ 5 := fun e => by
    have : Nat.beq (Nat.mod (zg L j) 8) 5 = true := by show Nat.beq (zg L j % 8) 5 = true; rw [e]; rfl
    rw [this] at h1; cases h1
  have e7 : zg L j % 8 ≠ 7 := fun e => by
    have : Nat.beq (Nat.mod (zg L j) 8) 7 = true := by show Nat.beq (zg L j % 8) 7 = true; rw [e]; rfl
    rw [this] at h1
    cases hb : Nat.beq (Nat.mod (zg L j) 8) 5 <;> rw [hb] at h1 <;> cases h1
  constructor <;> omega
theorem zLR_st {sz : Nat} {sv : Nat → Value} {ev : Nat → Int32} {nL L i v : Nat} {ls ls' : Array Slot} (hs : ∀ j, (sv j).category = 1) (h : zLR sz sv ev nL L ls) (hv : v + 1 < 2 ^ 72) (hn : znl L i = true)
    (h' : lv_has ls' nL ((i, zvd sz sv ev v) :: (zlist sz sv ev nL L).filter (fun q => !(q.1 == i) && !(q.1 + 1 == i && q.2.category == 2)))) : zLR sz sv ev nL (zs L i (v + 1)) ls' := by
  refine ⟨h'.1, h'.2.1, fun j hj => ?_⟩
  rw [zg_zs L i (v + 1) j hv] at hj ⊢
  by_cases hji : j = i
  · subst hji
    rw [if_pos rfl]
    exact h'.2.2 (j, _) List.mem_cons_self
  · rw [if_neg hji] at hj ⊢
    refine h'.2.2 (j, zvd sz sv ev (zg L j - 1)) (List.mem_cons_of_mem _ (List.mem_filter.mpr ⟨zmem_list h hj, ?_⟩))
    have hc : (zvd sz sv ev (zg L j - 1)).category = 2 → j + 1 ≠ i := fun hc he => by
      obtain ⟨e4, e6⟩ := znl_eq hn j he hj
      rw [zcat1 e4 e6 hs] at hc; cases hc
    simp only [Bool.and_eq_true, Bool.not_eq_true', beq_eq_false_iff_ne, ne_eq, Bool.and_eq_false_iff]
    refine ⟨hji, ?_⟩
    by_cases he : j + 1 = i
    · exact Or.inr (by simpa using fun hc' => hc hc' he)
    · exact Or.inl he
theorem zLR_st2 {sz : Nat} {sv : Nat → Value} {ev : Nat → Int32} {nL L i v : Nat} {ls ls' : Array Slot} (hs : ∀ j, (sv j).category = 1) (h : zLR sz sv ev nL L ls) (hv : v + 1 < 2 ^ 72) (hn : znl L i = true)
    (h' : lv_has ls' nL ((i, zvd sz sv ev v) :: (zlist sz sv ev nL L).filter (fun q => !(q.1 == i) && (!(q.1 == i + 1) && !(q.1 + 1 == i && q.2.category == 2))))) : zLR sz sv ev nL (zs (zs L (i + 1) 0) i (v + 1)) ls' := by
  refine ⟨h'.1, h'.2.1, fun j hj => ?_⟩
  rw [zg_zs _ i (v + 1) j hv] at hj ⊢
  by_cases hji : j = i
  · subst hji
    rw [if_pos rfl]
    exact h'.2.2 (j, _) List.mem_cons_self
  · rw [if_neg hji] at hj ⊢
    rw [zg_zs L (i + 1) 0 j (by decide)] at hj ⊢
    by_cases hj1 : j = i + 1
    · rw [if_pos hj1] at hj; exact absurd rfl hj
    · rw [if_neg hj1] at hj ⊢
      refine h'.2.2 (j, zvd sz sv ev (zg L j - 1)) (List.mem_cons_of_mem _ (List.mem_filter.mpr ⟨zmem_list h hj, ?_⟩))
      have hc : (zvd sz sv ev (zg L j - 1)).category = 2 → j + 1 ≠ i := fun hc he => by
        obtain ⟨e4, e6⟩ := znl_eq hn j he hj
        rw [zcat1 e4 e6 hs] at hc; cases hc
      simp only [Bool.and_eq_true, Bool.not_eq_true', beq_eq_false_iff_ne, ne_eq, Bool.and_eq_false_iff]
      refine ⟨hji, hj1, ?_⟩
      by_cases he : j + 1 = i
      · exact Or.inr (by simpa using fun hc' => hc hc' he)
      · exact Or.inl he
end
section
/-! a frame of the run, and rightness of a continuation in it -/
section ZC
variable (sz : Nat) (sv : Nat → Value) (ev : Nat → Int32) (cl : List vw_C) (ar : zAr) (D : va_G)
/-- the rows' classes -/
abbrev ztys (ar : zAr) : List (ClassId × FieldType) := [(ar.1, .int), (ar.2.1, .boolean), (ar.2.2.1, .long), (ar.2.2.2.1, .double), (ar.2.2.2.2, .object "java/lang/Object")]
def zInv (s : State) (hp : zHp) (n : Nat) (H : Heap) (locs : List Loc) : Prop :=
  va_P D cl (zren sz sv ev cl ar hp) H ∧ zwf n hp ∧ H.size = sz + n ∧ va_S (zA sz) s.heap H locs
variable (p : Program) (l : Launch) (e : Env) (R : Room) (s : State) (m : MethodId) (args : Array Value) (below : List Frame) (meth : Method) (c : Code) (Q : State → Prop)
variable (gw : List Cond) (cc : ByteArray) (own : String) (nL n0 ns0 : Nat) (r : zOut)
/-- what holds of the frame all the time -/
def zCtx : Prop := p.tables.exec = Jvm.exec ∧ c.code = cc ∧ c.maxLocals = nL ∧ s.vm.findClass own = some m.cls ∧ (∀ w ∈ gw, w.before args s = true) ∧ va_K D cl (ztys ar) s ∧
  s.heap.size = sz + n0 ∧ r.2.2.2.1 - n0 ≤ R.cells ∧ r.2.2.2.2 - ns0 ≤ R.slots ∧ (∀ j, (sv j).category = 1)
/-- the evaluator's find from pc on is true of the machine -/
def zSnd (pc : Nat) (k : zK) : Prop := ∀ L st hp n ns, k L st hp n ns = some r → n ≤ r.2.2.2.1 ∧ ns ≤ r.2.2.2.2 ∧
  ∀ ls H locs, zLR sz sv ev nL L ls → zInv sz sv ev cl ar D s hp n H locs → ns0 ≤ ns → W p l e R s m args below meth c H locs (n - n0) (ns - ns0) Q (F0 m pc ls (st.map (zvd sz sv ev)))
def zGd (pc len : Nat) (f : zI) : Prop := ∀ (k : zK) (j : Nat → zK), zSnd sz sv ev cl ar D p l e R s m args below meth c Q nL n0 ns0 r (pc + len) k → (∀ t, zSnd sz sv ev cl ar D p l e R s m args below meth c Q nL n0 ns0 r t (j t)) → zSnd sz sv ev cl ar D p l e R s m args below meth c Q nL n0 ns0 r pc (f k j)
end ZC
section ZI
variable {sz : Nat} {sv : Nat → Value} {ev : Nat → Int32} {cl : List vw_C} {ar : zAr} {D : va_G}
variable {p : Program} {l : Launch} {e : Env} {R : Room} {s : State} {m : MethodId} {args : Array Value} {below : List Frame} {meth : Method} {c : Code} {Q : State → Prop}
variable {gw : List Cond} {cc : ByteArray} {own : String} {nL n0 ns0 : Nat} {r : zOut} {pc : Nat}
theorem gPush (X : zCtx sz sv cl ar D p R s m args c gw cc own nL n0 ns0 r) {len v : Nat}
    (h : ∀ ls H locs cells slots st, W p l e R s m args below meth c H locs cells slots Q (F0 m (pc + len) ls (zvd sz sv ev v :: st)) → W p l e R s m args below meth c H locs cells slots Q (F0 m pc ls st)) :
    zGd sz sv ev cl ar D p l e R s m args below meth c Q nL n0 ns0 r pc len (zPush v) := by
  intro k j hk hj L st hp n ns hr
  obtain ⟨h1, h2, h3⟩ := hk L (v :: st) hp n ns hr
  exact ⟨h1, h2, fun ls H locs a b d => h ls H locs _ _ _ (h3 ls H locs a b d)⟩
theorem gI_iconst (X : zCtx sz sv cl ar D p R s m args c gw cc own nL n0 ns0 r) {i : Int} {v : Nat} (hd : decode cc pc = .ok (.iconst i, 1)) (hv : v % 8 = 0) (he : Int32.ofInt i = nI (v / 8)) : zGd sz sv ev cl ar D p l e R s m args below meth c Q nL n0 ns0 r pc 1 (zPush v) :=
  gPush X fun ls H locs cells slots st k => lv_iconst X.1 X.2.1 hd he (by rw [zvd_0 hv] at k; exact k)
theorem gI_bipush (X : zCtx sz sv cl ar D p R s m args c gw cc own nL n0 ns0 r) {i : Int} {v : Nat} (hd : decode cc pc = .ok (.bipush i, 2)) (hv : v % 8 = 0) (he : (Int8.ofInt i).toInt32 = nI (v / 8)) : zGd sz sv ev cl ar D p l e R s m args below meth c Q nL n0 ns0 r pc 2 (zPush v) :=
  gPush X fun ls H locs cells slots st k => lv_bipush X.1 X.2.1 hd he (by rw [zvd_0 hv] at k; exact k)
theorem gI_sipush (X : zCtx sz sv cl ar D p R s m args c gw cc own nL n0 ns0 r) {i : Int} {v : Nat} (hd : decode cc pc = .ok (.sipush i, 3)) (hv : v % 8 = 0) (he : (Int16.ofInt i).toInt32 = nI (v / 8)) : zGd sz sv ev cl ar D p l e R s m args below meth c Q nL n0 ns0 r pc 3 (zPush v) :=
  gPush X fun ls H locs cells slots st k => lv_sipush X.1 X.2.1 hd he (by rw [zvd_0 hv] at k; exact k)
theorem gI_null (X : zCtx sz sv cl ar D p R s m args c gw cc own nL n0 ns0 r) (hd : decode cc pc = .ok (.aconst_null, 1)) : zGd sz sv ev cl ar D p l e R s m args below meth c Q nL n0 ns0 r pc 1 (zPush 3) :=
  gPush X fun ls H locs cells slots st k => lv_null X.1 X.2.1 hd (by rw [zvd_3 rfl] at k; exact k)
theorem gLd (X : zCtx sz sv cl ar D p R s m args c gw cc own nL n0 ns0 r) {ok : Nat → Bool} {len i : Nat}
    (h : ∀ ls H locs cells slots st v, ok v = true → ls[i]? = some (.val (zvd sz sv ev v)) → W p l e R s m args below meth c H locs cells slots Q (F0 m (pc + len) ls (zvd sz sv ev v :: st)) → W p l e R s m args below meth c H locs cells slots Q (F0 m pc ls st)) :
    zGd sz sv ev cl ar D p l e R s m args below meth c Q nL n0 ns0 r pc len (zLd ok i) := by
  intro k j hk hj L st hp n ns hr
  obtain ⟨hb, hr⟩ := zck_some hr
  obtain ⟨ho, hr⟩ := zck_some hr
  obtain ⟨h1, h2, h3⟩ := hk L _ hp n ns hr
  have hb' : 1 ≤ zg L i := Nat.le_of_ble_eq_true hb
  exact ⟨h1, h2, fun ls H locs a b d => h ls H locs _ _ _ _ ho (a.2.2 i (by omega)) (h3 ls H locs a b d)⟩
theorem gI_iload_n (X : zCtx sz sv cl ar D p R s m args c gw cc own nL n0 ns0 r) {k : Fin 4} {i : Nat} (hd : decode cc pc = .ok (.iload_n k, 1)) (hi : (k : Nat) = i) : zGd sz sv ev cl ar D p l e R s m args below meth c Q nL n0 ns0 r pc 1 (zLdI i) :=
  gLd X fun ls H locs cells slots st v ho hl kk => by
    obtain ⟨x, hx⟩ := zI_int (sz := sz) (sv := sv) (ev := ev) ho
    rw [hx] at hl kk
    exact lv_iload_n X.1 X.2.1 hd hi hl kk
theorem gI_iload (X : zCtx sz sv cl ar D p R s m args c gw cc own nL n0 ns0 r) {i : Nat} (hd : decode cc pc = .ok (.iload i, 2)) : zGd sz sv ev cl ar D p l e R s m args below meth c Q nL n0 ns0 r pc 2 (zLdI i) :=
  gLd X fun ls H locs cells slots st v ho hl kk => by
    obtain ⟨x, hx⟩ := zI_int (sz := sz) (sv := sv) (ev := ev) ho
    rw [hx] at hl kk
    exact lv_iload X.1 X.2.1 hd hl kk
theorem gI_lload_n (X : zCtx sz sv cl ar D p R s m args c gw cc own nL n0 ns0 r) {k : Fin 4} {i : Nat} (hd : decode cc pc = .ok (.lload_n k, 1)) (hi : (k : Nat) = i) : zGd sz sv ev cl ar D p l e R s m args below meth c Q nL n0 ns0 r pc 1 (zLdL i) :=
  gLd X fun ls H locs cells slots st v ho hl kk => by
    rw [zvd_4 (zt_eq ho)] at hl kk
    exact lv_lload_n X.1 X.2.1 hd hi hl kk
theorem gI_lload (X : zCtx sz sv cl ar D p R s m args c gw cc own nL n0 ns0 r) {i : Nat} (hd : decode cc pc = .ok (.lload i, 2)) : zGd sz sv ev cl ar D p l e R s m args below meth c Q nL n0 ns0 r pc 2 (zLdL i) :=
  gLd X fun ls H locs cells slots st v ho hl kk => by
    rw [zvd_4 (zt_eq ho)] at hl kk
    exact lv_lload X.1 X.2.1 hd hl kk
/-- what was there is a cell or null -/
def zSv (sv : Nat → Value) : Prop := ∀ j, sv j = .null ∨ ∃ a, sv j = .ref a
theorem zSv.cat {sv : Nat → Value} (h : zSv sv) (j : Nat) : (sv j).category = 1 := by rcases h j with e | ⟨a, e⟩ <;> rw [e] <;> rfl
theorem zA_ref {sv : Nat → Value} (hs : zSv sv) {v : Nat} (h : zisA v = true) : zvd sz sv ev v = .null ∨ ∃ a, zvd sz sv ev v = .ref a := by
  rcases zisA_eq h with h | h | h
  · exact Or.inr ⟨_, zvd_1 h⟩
  · rw [zvd_2 h]; exact hs _
  · exact Or.inl (zvd_3 h)
theorem gI_aload_n (hs : zSv sv) (X : zCtx sz sv cl ar D p R s m args c gw cc own nL n0 ns0 r) {k : Fin 4} {i : Nat} (hd : decode cc pc = .ok (.aload_n k, 1)) (hi : (k : Nat) = i) : zGd sz sv ev cl ar D p l e R s m args below meth c Q nL n0 ns0 r pc 1 (zLdA i) :=
  gLd X fun ls H locs cells slots st v ho hl kk => by
    rcases zA_ref (sz := sz) (ev := ev) hs ho with hx | ⟨a, hx⟩ <;> rw [hx] at hl kk
    · exact lv_aload_nN X.1 X.2.1 hd hi hl kk
    · exact lv_aload_n X.1 X.2.1 hd hi hl kk
theorem gI_aload (hs : zSv sv) (X : zCtx sz sv cl ar D p R s m args c gw cc own nL n0 ns0 r) {i : Nat} (hd : decode cc pc = .ok (.aload i, 2)) : zGd sz sv ev cl ar D p l e R s m args below meth c Q nL n0 ns0 r pc 2 (zLdA i) :=
  gLd X fun ls H locs cells slots st v ho hl kk => by
    rcases zA_ref (sz := sz) (ev := ev) hs ho with hx | ⟨a, hx⟩ <;> rw [hx] at hl kk
    · exact lv_aloadN X.1 X.2.1 hd hl kk
    · exact lv_aload X.1 X.2.1 hd hl kk
theorem gSt (hs : zSv sv) (X : zCtx sz sv cl ar D p R s m args c gw cc own nL n0 ns0 r) {ok : Nat → Bool} {len i : Nat}
    (h : ∀ ls H locs cells slots st L v, ok v = true → i < nL → lv_has ls nL (zlist sz sv ev nL L) → (∀ ls', lv_has ls' nL ((i, zvd sz sv ev v) :: (zlist sz sv ev nL L).filter (fun q => !(q.1 == i) && !(q.1 + 1 == i && q.2.category == 2))) → W p l e R s m args below meth c H locs cells slots Q (F0 m (pc + len) ls' st)) → W p l e R s m args below meth c H locs cells slots Q (F0 m pc ls (zvd sz sv ev v :: st))) :
    zGd sz sv ev cl ar D p l e R s m args below meth c Q nL n0 ns0 r pc len (zSt ok nL i) := by
  intro k j hk hj L st hp n ns hr
  obtain ⟨v, t, rfl, hr⟩ := zpop_some hr
  obtain ⟨ho, hr⟩ := zck_some hr
  obtain ⟨hv, hr⟩ := zck_some hr
  obtain ⟨hi, hr⟩ := zck_some hr
  obtain ⟨hn, hr⟩ := zck_some hr
  obtain ⟨h1, h2, h3⟩ := hk _ _ hp n ns hr
  have hv' : v + 1 < 2 ^ 72 := by
    have : v + 1 ≤ 4722366482869645213695 := Nat.le_of_ble_eq_true hv
    exact Nat.lt_of_le_of_lt this (by decide)
  exact ⟨h1, h2, fun ls H locs a b d => h ls H locs _ _ _ L v ho (Nat.le_of_ble_eq_true hi) (zLR_has a) fun ls' hl' => h3 ls' H locs (zLR_st hs.cat a hv' hn hl') b d⟩
theorem gI_istore_n (hs : zSv sv) (X : zCtx sz sv cl ar D p R s m args c gw cc own nL n0 ns0 r) {k : Fin 4} {i : Nat} (hd : decode cc pc = .ok (.istore_n k, 1)) (hi : (k : Nat) = i) : zGd sz sv ev cl ar D p l e R s m args below meth c Q nL n0 ns0 r pc 1 (zStI nL i) :=
  gSt hs X fun ls H locs cells slots st L v ho hn hl kk => by
    obtain ⟨x, hx⟩ := zI_int (sz := sz) (sv := sv) (ev := ev) ho
    rw [hx] at kk ⊢
    exact lv_istore_n X.1 X.2.1 hd hi hl hn rfl kk
theorem gI_istore (hs : zSv sv) (X : zCtx sz sv cl ar D p R s m args c gw cc own nL n0 ns0 r) {i : Nat} (hd : decode cc pc = .ok (.istore i, 2)) : zGd sz sv ev cl ar D p l e R s m args below meth c Q nL n0 ns0 r pc 2 (zStI nL i) :=
  gSt hs X fun ls H locs cells slots st L v ho hn hl kk => by
    obtain ⟨x, hx⟩ := zI_int (sz := sz) (sv := sv) (ev := ev) ho
    rw [hx] at kk ⊢
    exact lv_istore X.1 X.2.1 hd hl hn rfl kk
theorem gI_astore_n (hs : zSv sv) (X : zCtx sz sv cl ar D p R s m args c gw cc own nL n0 ns0 r) {k : Fin 4} {i : Nat} (hd : decode cc pc = .ok (.astore_n k, 1)) (hi : (k : Nat) = i) : zGd sz sv ev cl ar D p l e R s m args below meth c Q nL n0 ns0 r pc 1 (zStA nL i) :=
  gSt hs X fun ls H locs cells slots st L v ho hn hl kk => by
    rcases zA_ref (sz := sz) (ev := ev) hs ho with hx | ⟨a, hx⟩ <;> rw [hx] at kk ⊢
    · exact lv_astore_nN X.1 X.2.1 hd hi hl hn rfl kk
    · exact lv_astore_n X.1 X.2.1 hd hi hl hn rfl kk
theorem gI_astore (hs : zSv sv) (X : zCtx sz sv cl ar D p R s m args c gw cc own nL n0 ns0 r) {i : Nat} (hd : decode cc pc = .ok (.astore i, 2)) : zGd sz sv ev cl ar D p l e R s m args below meth c Q nL n0 ns0 r pc 2 (zStA nL i) :=
  gSt hs X fun ls H locs cells slots st L v ho hn hl kk => by
    rcases zA_ref (sz := sz) (ev := ev) hs ho with hx | ⟨a, hx⟩ <;> rw [hx] at kk ⊢
    · exact lv_astoreN X.1 X.2.1 hd hl hn rfl kk
    · exact lv_astore X.1 X.2.1 hd hl hn rfl kk
theorem gI_fstore (hs : zSv sv) (X : zCtx sz sv cl ar D p R s m args c gw cc own nL n0 ns0 r) {i : Nat} (hd : decode cc pc = .ok (.fstore i, 2)) : zGd sz sv ev cl ar D p l e R s m args below meth c Q nL n0 ns0 r pc 2 (zStF nL i) :=
  gSt hs X fun ls H locs cells slots st L v ho hn hl kk => by
    rw [zvd_5 (zt_eq ho)] at kk ⊢
    exact lv_fstore X.1 X.2.1 hd hl hn rfl kk
theorem gSt2 (hs : zSv sv) (X : zCtx sz sv cl ar D p R s m args c gw cc own nL n0 ns0 r) {ok : Nat → Bool} {len i : Nat}
    (h : ∀ ls H locs cells slots st L v, ok v = true → i + 1 < nL → lv_has ls nL (zlist sz sv ev nL L) → (∀ ls', lv_has ls' nL ((i, zvd sz sv ev v) :: (zlist sz sv ev nL L).filter (fun q => !(q.1 == i) && (!(q.1 == i + 1) && !(q.1 + 1 == i && q.2.category == 2)))) → W p l e R s m args below meth c H locs cells slots Q (F0 m (pc + len) ls' st)) → W p l e R s m args below meth c H locs cells slots Q (F0 m pc ls (zvd sz sv ev v :: st))) :
    zGd sz sv ev cl ar D p l e R s m args below meth c Q nL n0 ns0 r pc len (zSt2 ok nL i) := by
  intro k j hk hj L st hp n ns hr
  obtain ⟨v, t, rfl, hr⟩ := zpop_some hr
  obtain ⟨ho, hr⟩ := zck_some hr
  obtain ⟨hv, hr⟩ := zck_some hr
  obtain ⟨hi, hr⟩ := zck_some hr
  obtain ⟨hn, hr⟩ := zck_some hr
  obtain ⟨h1, h2, h3⟩ := hk _ _ hp n ns hr
  have hv' : v + 1 < 2 ^ 72 := by
    have : v + 1 ≤ 4722366482869645213695 := Nat.le_of_ble_eq_true hv
    exact Nat.lt_of_le_of_lt this (by decide)
  exact ⟨h1, h2, fun ls H locs a b d => h ls H locs _ _ _ L v ho (Nat.le_of_ble_eq_true hi) (zLR_has a) fun ls' hl' => h3 ls' H locs (zLR_st2 hs.cat a hv' hn hl') b d⟩
theorem gI_lstore_n (hs : zSv sv) (X : zCtx sz sv cl ar D p R s m args c gw cc own nL n0 ns0 r) {k : Fin 4} {i : Nat} (hd : decode cc pc = .ok (.lstore_n k, 1)) (hi : (k : Nat) = i) : zGd sz sv ev cl ar D p l e R s m args below meth c Q nL n0 ns0 r pc 1 (zStL nL i) :=
  gSt2 hs X fun ls H locs cells slots st L v ho hn hl kk => by
    rw [zvd_4 (zt_eq ho)] at kk ⊢
    exact lv_lstore_n X.1 X.2.1 hd hi hl hn rfl kk
theorem gI_lstore (hs : zSv sv) (X : zCtx sz sv cl ar D p R s m args c gw cc own nL n0 ns0 r) {i : Nat} (hd : decode cc pc = .ok (.lstore i, 2)) : zGd sz sv ev cl ar D p l e R s m args below meth c Q nL n0 ns0 r pc 2 (zStL nL i) :=
  gSt2 hs X fun ls H locs cells slots st L v ho hn hl kk => by
    rw [zvd_4 (zt_eq ho)] at kk ⊢
    exact lv_lstore X.1 X.2.1 hd hl hn rfl kk
theorem gI_dstore (hs : zSv sv) (X : zCtx sz sv cl ar D p R s m args c gw cc own nL n0 ns0 r) {i : Nat} (hd : decode cc pc = .ok (.dstore i, 2)) : zGd sz sv ev cl ar D p l e R s m args below meth c Q nL n0 ns0 r pc 2 (zStD nL i) :=
  gSt2 hs X fun ls H locs cells slots st L v ho hn hl kk => by
    rw [zvd_6 (zt_eq ho)] at kk ⊢
    exact lv_dstore X.1 X.2.1 hd hl hn rfl kk
end ZI
end
section
/-! numbers for ints -/
theorem zi_mod (k : Nat) : nI (k % 4294967296) = nI k := by
  apply Int32.toBitVec_inj.mp
  apply BitVec.eq_of_toNat_eq
  show (BitVec.ofNat 32 _).toNat = (BitVec.ofNat 32 _).toNat
  rw [BitVec.toNat_ofNat, BitVec.toNat_ofNat]
  omega
theorem zmk_t (k : Nat) : zmk k % 8 = 0 := by show 8 * (k % 4294967296) % 8 = 0; omega
theorem zmk_v {sz : Nat} {sv : Nat → Value} {ev : Nat → Int32} (k : Nat) : zvd sz sv ev (zmk k) = .int (nI k) := by
  rw [zvd_0 (zmk_t k)]
  have : zmk k / 8 = k % 4294967296 := by show 8 * (k % 4294967296) / 8 = _; omega
  rw [this, zi_mod]
theorem zi_tb (k : Nat) : (nI k).toBitVec = BitVec.ofNat 32 k := rfl
theorem zi_ext {x y : Int32} (h : x.toBitVec.toNat = y.toBitVec.toNat) : x = y := Int32.toBitVec_inj.mp (BitVec.eq_of_toNat_eq h)
theorem zi_tn (k : Nat) : (nI k).toBitVec.toNat = k % 2 ^ 32 := by rw [zi_tb, BitVec.toNat_ofNat]
def zfSub (a b : Nat) : Nat := Nat.add a (Nat.sub 4294967296 (Nat.mod b 4294967296))
theorem zi_sub (a b : Nat) : nI a - nI b = nI (zfSub a b) := by
  have h : nI (zfSub a b) + nI b = nI a := by
    rw [nI_add]
    have e : zfSub a b + b = a + 4294967296 * (b / 4294967296 + 1) := by
      show a + (4294967296 - b % 4294967296) + b = _
      omega
    rw [e, ← zi_mod, Nat.add_mul_mod_self_left, zi_mod]
  rw [← h, Int32.add_sub_cancel]
theorem zi_and (a b : Nat) : nI a &&& nI b = nI (Nat.land a b) := by
  apply Int32.toBitVec_inj.1
  show BitVec.ofNat 32 a &&& BitVec.ofNat 32 b = BitVec.ofNat 32 (a &&& b)
  apply BitVec.eq_of_getLsbD_eq
  intro i hi
  simp [hi]
theorem zi_or (a b : Nat) : nI a ||| nI b = nI (Nat.lor a b) := by
  apply Int32.toBitVec_inj.1
  show BitVec.ofNat 32 a ||| BitVec.ofNat 32 b = BitVec.ofNat 32 (a ||| b)
  apply BitVec.eq_of_getLsbD_eq
  intro i hi
  simp [hi]
theorem zi_xor (a b : Nat) : nI a ^^^ nI b = nI (Nat.xor a b) := by
  apply Int32.toBitVec_inj.1
  show BitVec.ofNat 32 a ^^^ BitVec.ofNat 32 b = BitVec.ofNat 32 (a ^^^ b)
  apply BitVec.eq_of_getLsbD_eq
  intro i hi
  simp [hi]
theorem zi_sh31 (b : Nat) : nI b &&& 31 = nI (b % 32) := by
  rw [show (31 : Int32) = nI 31 from rfl, zi_and]
  show nI (b &&& 2 ^ 5 - 1) = _
  rw [Nat.and_two_pow_sub_one_eq_mod]
theorem zi_s : ∀ n, n < 32 → ((nI n).toBitVec.smod 32).toNat = n := by decide +kernel
theorem zi_u : ∀ n, n < 32 → (((nI n).toUInt32 &&& Int32.toUInt32 31).toBitVec % 32).toNat = n := by decide +kernel
def zfShl (a b : Nat) : Nat := Nat.shiftLeft a (Nat.mod b 32)
theorem zi_shl (a b : Nat) : nI a <<< (nI b &&& 31) = nI (zfShl a b) := by
  apply zi_ext
  rw [zi_sh31, pk_shl _ _ (b % 32) (zi_s _ (Nat.mod_lt _ (by decide))), zi_tn, zi_tn]
  show a % 2 ^ 32 * 2 ^ (b % 32) % 2 ^ 32 = (a <<< (b % 32)) % 2 ^ 32
  rw [Nat.shiftLeft_eq, Nat.mul_mod, Nat.mod_mod, ← Nat.mul_mod]
def zfUshr (a b : Nat) : Nat := Nat.shiftRight (Nat.mod a 4294967296) (Nat.mod b 32)
theorem zi_uu (b : Nat) : ((nI b).toUInt32 &&& Int32.toUInt32 31).toBitVec.toNat = b % 32 := by
  show (BitVec.ofNat 32 b &&& 31#32).toNat = _
  rw [BitVec.toNat_and, BitVec.toNat_ofNat]
  show b % 2 ^ 32 &&& 2 ^ 5 - 1 = _
  rw [Nat.and_two_pow_sub_one_eq_mod]
  omega
theorem zi_ushr (a b : Nat) : ((nI a).toUInt32 >>> ((nI b).toUInt32 &&& Int32.toUInt32 31)).toInt32 = nI (zfUshr a b) := by
  apply zi_ext
  rw [pk_ushr (nI a) (nI b) (b % 32) (by rw [BitVec.toNat_umod, zi_uu]; show b % 32 % 32 = _; omega), zi_tn, zi_tn]
  show a % 2 ^ 32 / 2 ^ (b % 32) = (a % 4294967296) >>> (b % 32) % 2 ^ 32
  rw [Nat.shiftRight_eq_div_pow, Nat.mod_eq_of_lt (a := _ / _)]
  exact Nat.lt_of_le_of_lt (Nat.div_le_self _ _) (Nat.mod_lt _ (by decide))
def zfNeg (a : Nat) : Nat := Nat.sub 4294967296 (Nat.mod a 4294967296)
theorem zi_neg (a : Nat) : -nI a = nI (zfNeg a) := by
  have h := zi_sub 0 a
  have e : nI 0 - nI a = -nI a := by rw [nI_0]; exact Int32.zero_sub _
  rw [← e, h]
  exact congrArg nI (by show 0 + (4294967296 - a % 4294967296) = _; rw [Nat.zero_add]; rfl)
/-! comparing: ints as numbers that rise with them -/
def zbi (x : Int32) : Nat := (x.toInt + 2147483648).toNat
theorem zbi_lt (x y : Int32) : x < y ↔ zbi x < zbi y := by
  have hx := x.minValue_le_toInt; have hy := y.minValue_le_toInt
  rw [Int32.lt_iff_toInt_lt]; unfold zbi
  have e : (Int32.minValue).toInt = -2147483648 := by decide
  rw [e] at hx hy
  omega
theorem zbi_inj {x y : Int32} (h : zbi x = zbi y) : x = y := by
  have h1 := zbi_lt x y; have h2 := zbi_lt y x
  rw [← Int32.toInt_inj]
  rw [Int32.lt_iff_toInt_lt] at h1 h2
  omega
theorem zbi_nI (k : Nat) : zbi (nI k) = (k + 2147483648) % 4294967296 := by
  unfold zbi
  have h : (nI k).toInt = (BitVec.ofNat 32 k).toInt := rfl
  rw [h, BitVec.toInt_eq_toNat_bmod, BitVec.toNat_ofNat, Int.bmod_def]
  split <;> omega

theorem nm_mod (a b : Nat) : Nat.mod a b = a % b := rfl
theorem nm_add (a b : Nat) : Nat.add a b = a + b := rfl
theorem nm_div (a b : Nat) : Nat.div a b = a / b := rfl
/-! branches: iv holds bounds for the script's ints -/
def zIv (ev : Nat → Int32) (iv : Nat → Nat × Nat) : Prop := ∀ j, (iv j).1 ≤ zbi (ev j) ∧ zbi (ev j) ≤ (iv j).2
noncomputable def zlo (iv : Nat → Nat × Nat) (v : Nat) : Nat := cond (zt v 0) (Nat.mod (Nat.add (Nat.div v 8) 2147483648) 4294967296) (iv (Nat.div v 8)).1
noncomputable def zhi (iv : Nat → Nat × Nat) (v : Nat) : Nat := cond (zt v 0) (Nat.mod (Nat.add (Nat.div v 8) 2147483648) 4294967296) (iv (Nat.div v 8)).2
theorem zlohi {sz : Nat} {sv : Nat → Value} {ev : Nat → Int32} {iv : Nat → Nat × Nat} (h : zIv ev iv) {v : Nat} (ht : zisI v = true) : ∃ x, zvd sz sv ev v = .int x ∧ zlo iv v ≤ zbi x ∧ zbi x ≤ zhi iv v := by
  cases h0 : zt v 0 with
  | true =>
    refine ⟨_, zvd_0 (zt_eq h0), ?_⟩
    have e1 : zlo iv v = zbi (nI (v / 8)) := by
      rw [zbi_nI]; unfold zlo; rw [h0, cond_true, nm_mod, nm_add, nm_div]
    have e2 : zhi iv v = zbi (nI (v / 8)) := by
      rw [zbi_nI]; unfold zhi; rw [h0, cond_true, nm_mod, nm_add, nm_div]
    rw [e1, e2]
    exact ⟨Nat.le_refl _, Nat.le_refl _⟩
  | false =>
    have h7 : v % 8 = 7 := by
      rcases zisI_eq ht with h1 | h1
      · have : zt v 0 = true := by show Nat.beq (v % 8) 0 = true; rw [h1]; rfl
        rw [this] at h0; cases h0
      · exact h1
    refine ⟨_, zvd_7 h7, ?_⟩
    unfold zlo zhi
    rw [h0, cond_false, cond_false, nm_div]
    exact h _
noncomputable def zltb (iv : Nat → Nat × Nat) (x y : Nat) (k : Bool → zR) : zR := zck (zisI x) (zck (zisI y) (cond (Nat.blt (zhi iv x) (zlo iv y)) (k true) (cond (Nat.ble (zhi iv y) (zlo iv x)) (k false) none)))
theorem zltb_some {sz : Nat} {sv : Nat → Value} {ev : Nat → Int32} {iv : Nat → Nat × Nat} (h : zIv ev iv) {x y : Nat} {k : Bool → zR} {o : zOut} (hr : zltb iv x y k = some o) : ∃ X Y b, zvd sz sv ev x = .int X ∧ zvd sz sv ev y = .int Y ∧ (b = true ↔ X < Y) ∧ k b = some o := by
  obtain ⟨hx, hr⟩ := zck_some hr
  obtain ⟨hy, hr⟩ := zck_some hr
  obtain ⟨X, e1, l1, u1⟩ := zlohi (sz := sz) (sv := sv) h hx
  obtain ⟨Y, e2, l2, u2⟩ := zlohi (sz := sz) (sv := sv) h hy
  cases hb : Nat.blt (zhi iv x) (zlo iv y) with
  | true =>
    rw [hb] at hr
    have : zhi iv x + 1 ≤ zlo iv y := Nat.le_of_ble_eq_true hb
    exact ⟨X, Y, true, e1, e2, ⟨fun _ => (zbi_lt X Y).mpr (by omega), fun _ => rfl⟩, hr⟩
  | false =>
    rw [hb] at hr
    cases hb2 : Nat.ble (zhi iv y) (zlo iv x) with
    | true =>
      rw [hb2] at hr
      have : zhi iv y ≤ zlo iv x := Nat.le_of_ble_eq_true hb2
      exact ⟨X, Y, false, e1, e2, ⟨fun z => (nomatch z), fun z => absurd ((zbi_lt X Y).mp z) (by omega)⟩, hr⟩
    | false => rw [hb2] at hr; cases hr
noncomputable def zeqb (iv : Nat → Nat × Nat) (x y : Nat) (k : Bool → zR) : zR := zck (zisI x) (zck (zisI y) (cond (Nat.blt (zhi iv x) (zlo iv y)) (k false) (cond (Nat.blt (zhi iv y) (zlo iv x)) (k false) (zck (Nat.ble (zhi iv x) (zlo iv y)) (zck (Nat.ble (zhi iv y) (zlo iv x)) (k true))))))
theorem zeqb_some {sz : Nat} {sv : Nat → Value} {ev : Nat → Int32} {iv : Nat → Nat × Nat} (h : zIv ev iv) {x y : Nat} {k : Bool → zR} {o : zOut} (hr : zeqb iv x y k = some o) : ∃ X Y b, zvd sz sv ev x = .int X ∧ zvd sz sv ev y = .int Y ∧ (b = true ↔ X = Y) ∧ k b = some o := by
  obtain ⟨hx, hr⟩ := zck_some hr
  obtain ⟨hy, hr⟩ := zck_some hr
  obtain ⟨X, e1, l1, u1⟩ := zlohi (sz := sz) (sv := sv) h hx
  obtain ⟨Y, e2, l2, u2⟩ := zlohi (sz := sz) (sv := sv) h hy
  cases hb : Nat.blt (zhi iv x) (zlo iv y) with
  | true =>
    rw [hb] at hr
    have : zhi iv x + 1 ≤ zlo iv y := Nat.le_of_ble_eq_true hb
    exact ⟨X, Y, false, e1, e2, ⟨fun z => (nomatch z), fun z => by rw [z] at u1; omega⟩, hr⟩
  | false =>
    rw [hb] at hr
    cases hb2 : Nat.blt (zhi iv y) (zlo iv x) with
    | true =>
      rw [hb2] at hr
      have : zhi iv y + 1 ≤ zlo iv x := Nat.le_of_ble_eq_true hb2
      exact ⟨X, Y, false, e1, e2, ⟨fun z => (nomatch z), fun z => by rw [z] at l1; omega⟩, hr⟩
    | false =>
      rw [hb2] at hr
      obtain ⟨g1, hr⟩ := zck_some hr
      obtain ⟨g2, hr⟩ := zck_some hr
      have g1' := Nat.le_of_ble_eq_true g1
      have g2' := Nat.le_of_ble_eq_true g2
      exact ⟨X, Y, true, e1, e2, ⟨fun _ => zbi_inj (by omega), fun _ => rfl⟩, hr⟩
/-- neg: the branch is taken where the comparison fails; sw: the other way round -/
noncomputable def zJlt (iv : Nat → Nat × Nat) (sw neg : Bool) (tg : Nat) : zI := fun k j L st hp n ns => zpop st fun y t => zpop t fun x t => zltb iv (cond sw y x) (cond sw x y) fun b => cond (cond neg (not b) b) (j tg L t hp n ns) (k L t hp n ns)
noncomputable def zJeq (iv : Nat → Nat × Nat) (neg : Bool) (tg : Nat) : zI := fun k j L st hp n ns => zpop st fun y t => zpop t fun x t => zeqb iv x y fun b => cond (cond neg (not b) b) (j tg L t hp n ns) (k L t hp n ns)
noncomputable def z0lt (iv : Nat → Nat × Nat) (sw neg : Bool) (tg : Nat) : zI := fun k j L st hp n ns => zpop st fun x t => zltb iv (cond sw 0 x) (cond sw x 0) fun b => cond (cond neg (not b) b) (j tg L t hp n ns) (k L t hp n ns)
noncomputable def z0eq (iv : Nat → Nat × Nat) (neg : Bool) (tg : Nat) : zI := fun k j L st hp n ns => zpop st fun x t => zeqb iv x 0 fun b => cond (cond neg (not b) b) (j tg L t hp n ns) (k L t hp n ns)
noncomputable def zJnul (neg : Bool) (tg : Nat) : zI := fun k j L st hp n ns => zpop st fun x t => cond (zt x 3) (cond neg (k L t hp n ns) (j tg L t hp n ns)) (zck (zt x 1) (cond neg (j tg L t hp n ns) (k L t hp n ns)))
end
section
section ZB
variable {sz : Nat} {sv : Nat → Value} {ev : Nat → Int32} {cl : List vw_C} {ar : zAr} {D : va_G}
variable {p : Program} {l : Launch} {e : Env} {R : Room} {s : State} {m : MethodId} {args : Array Value} {below : List Frame} {meth : Method} {c : Code} {Q : State → Prop}
variable {gw : List Cond} {cc : ByteArray} {own : String} {nL n0 ns0 : Nat} {r : zOut} {pc : Nat}

theorem gBin (X : zCtx sz sv cl ar D p R s m args c gw cc own nL n0 ns0 r) {f : Nat → Nat → Nat} {g : Int32 → Int32 → Int32} {len : Nat} (hf : ∀ a b, g (nI a) (nI b) = nI (f a b))
    (h : ∀ ls H locs cells slots st x y, W p l e R s m args below meth c H locs cells slots Q (F0 m (pc + len) ls (.int (g x y) :: st)) → W p l e R s m args below meth c H locs cells slots Q (F0 m pc ls (.int y :: .int x :: st))) :
    zGd sz sv ev cl ar D p l e R s m args below meth c Q nL n0 ns0 r pc len (zBin f) := by
  intro k j hk hj L st hp n ns hr
  obtain ⟨y, t, rfl, q1⟩ := zpop_some hr
  clear hr
  obtain ⟨x, t, rfl, hr⟩ := zpop_some q1
  clear q1
  obtain ⟨hx, hr⟩ := zck_some hr
  obtain ⟨hy, hr⟩ := zck_some hr
  obtain ⟨h1, h2, h3⟩ := hk L _ hp n ns hr
  refine ⟨h1, h2, fun ls H locs a b d => ?_⟩
  have kk := h3 ls H locs a b d
  simp only [List.map_cons] at kk ⊢
  rw [zvd_0 (zt_eq hx), zvd_0 (zt_eq hy)]
  rw [zmk_v, ← hf] at kk
  exact h ls H locs _ _ _ _ _ kk

theorem gI_iadd (X : zCtx sz sv cl ar D p R s m args c gw cc own nL n0 ns0 r) (hd : decode cc pc = .ok (.iadd, 1)) : zGd sz sv ev cl ar D p l e R s m args below meth c Q nL n0 ns0 r pc 1 (zBin Nat.add) :=
  gBin X (g := fun x y => x + y) (fun a b => nI_add a b) fun ls H locs cells slots st x y kk => lv_iadd X.1 X.2.1 hd kk

theorem gI_isub (X : zCtx sz sv cl ar D p R s m args c gw cc own nL n0 ns0 r) (hd : decode cc pc = .ok (.isub, 1)) : zGd sz sv ev cl ar D p l e R s m args below meth c Q nL n0 ns0 r pc 1 (zBin zfSub) :=
  gBin X (g := fun x y => x - y) (zi_sub) fun ls H locs cells slots st x y kk => lv_isub X.1 X.2.1 hd kk

theorem gI_imul (X : zCtx sz sv cl ar D p R s m args c gw cc own nL n0 ns0 r) (hd : decode cc pc = .ok (.imul, 1)) : zGd sz sv ev cl ar D p l e R s m args below meth c Q nL n0 ns0 r pc 1 (zBin Nat.mul) :=
  gBin X (g := fun x y => x * y) (fun a b => pk_mul a b) fun ls H locs cells slots st x y kk => lv_imul X.1 X.2.1 hd kk

theorem gI_iand (X : zCtx sz sv cl ar D p R s m args c gw cc own nL n0 ns0 r) (hd : decode cc pc = .ok (.iand, 1)) : zGd sz sv ev cl ar D p l e R s m args below meth c Q nL n0 ns0 r pc 1 (zBin Nat.land) :=
  gBin X (g := fun x y => x &&& y) (zi_and) fun ls H locs cells slots st x y kk => lv_iand X.1 X.2.1 hd kk

theorem gI_ior (X : zCtx sz sv cl ar D p R s m args c gw cc own nL n0 ns0 r) (hd : decode cc pc = .ok (.ior, 1)) : zGd sz sv ev cl ar D p l e R s m args below meth c Q nL n0 ns0 r pc 1 (zBin Nat.lor) :=
  gBin X (g := fun x y => x ||| y) (zi_or) fun ls H locs cells slots st x y kk => lv_ior X.1 X.2.1 hd kk

theorem gI_ixor (X : zCtx sz sv cl ar D p R s m args c gw cc own nL n0 ns0 r) (hd : decode cc pc = .ok (.ixor, 1)) : zGd sz sv ev cl ar D p l e R s m args below meth c Q nL n0 ns0 r pc 1 (zBin Nat.xor) :=
  gBin X (g := fun x y => x ^^^ y) (zi_xor) fun ls H locs cells slots st x y kk => lv_ixor X.1 X.2.1 hd kk

theorem gI_ishl (X : zCtx sz sv cl ar D p R s m args c gw cc own nL n0 ns0 r) (hd : decode cc pc = .ok (.ishl, 1)) : zGd sz sv ev cl ar D p l e R s m args below meth c Q nL n0 ns0 r pc 1 (zBin zfShl) :=
  gBin X (g := fun x y => x <<< (y &&& 31)) (zi_shl) fun ls H locs cells slots st x y kk => lv_ishl X.1 X.2.1 hd kk

theorem gI_iushr (X : zCtx sz sv cl ar D p R s m args c gw cc own nL n0 ns0 r) (hd : decode cc pc = .ok (.iushr, 1)) : zGd sz sv ev cl ar D p l e R s m args below meth c Q nL n0 ns0 r pc 1 (zBin zfUshr) :=
  gBin X (g := fun x y => (x.toUInt32 >>> (y.toUInt32 &&& Int32.toUInt32 31)).toInt32) zi_ushr fun ls H locs cells slots st x y kk => lv_iushr X.1 X.2.1 hd rfl kk

theorem gI_goto (X : zCtx sz sv cl ar D p R s m args c gw cc own nL n0 ns0 r) {off : Int} {tg : Nat} (hd : decode cc pc = .ok (.goto off, 3)) (ht : (pc : Int) + off = (tg : Int)) : zGd sz sv ev cl ar D p l e R s m args below meth c Q nL n0 ns0 r pc 3 (zGoto tg) := by
  intro k j hk hj L st hp n ns hr
  obtain ⟨h1, h2, h3⟩ := hj tg L st hp n ns hr
  exact ⟨h1, h2, fun ls H locs a b d => lv_goto X.1 X.2.1 hd ht (h3 ls H locs a b d)⟩

theorem gI_iinc (hs : zSv sv) (X : zCtx sz sv cl ar D p R s m args c gw cc own nL n0 ns0 r) {i : Nat} {dd : Int} {d : Nat} (hd : decode cc pc = .ok (.iinc i dd, 3)) (he : Int32.ofInt dd = nI d) : zGd sz sv ev cl ar D p l e R s m args below meth c Q nL n0 ns0 r pc 3 (zIinc nL i d) := by
  intro k j hk hj L st hp n ns hr
  obtain ⟨hb, hr⟩ := zck_some hr
  obtain ⟨hz, hr⟩ := zck_some hr
  obtain ⟨hi, hr⟩ := zck_some hr
  obtain ⟨hn, hr⟩ := zck_some hr
  obtain ⟨h1, h2, h3⟩ := hk _ _ hp n ns hr
  have hb' : 1 ≤ zg L i := Nat.le_of_ble_eq_true hb
  have h0 : zg L i ≠ 0 := by omega
  refine ⟨h1, h2, fun ls H locs a b dd' => ?_⟩
  obtain ⟨kx, hkx⟩ := List.getElem?_of_mem (zmem_list a h0)
  have hv : (zvd sz sv ev (zg L i - 1)) = .int (nI ((zg L i - 1) / 8)) := zvd_0 (zt_eq hz)
  rw [hv] at hkx
  refine lv_iinc X.1 X.2.1 hd (zLR_has a) hkx (v := nI ((zg L i - 1) / 8 + d)) (by rw [he, nI_add]) (Nat.le_of_ble_eq_true hi) rfl fun ls' hl' => ?_
  refine h3 ls' H locs (zLR_st hs.cat a ?_ hn (by rw [zmk_v]; exact hl')) b dd'
  have : zmk ((Nat.pred (zg L i)).div 8 + d) < 8 * 4294967296 := by
    show 8 * (_ % 4294967296) < _
    have := Nat.mod_lt ((Nat.pred (zg L i)).div 8 + d) (show 0 < 4294967296 by decide)
    omega
  exact Nat.lt_of_le_of_lt this (by decide)

theorem gI_icmp_lt {iv : Nat → Nat × Nat} (hv : zIv ev iv) (X : zCtx sz sv cl ar D p R s m args c gw cc own nL n0 ns0 r) {off : Int} {tg : Nat} (hd : decode cc pc = .ok (.if_icmp .lt off, 3)) (ht : (pc : Int) + off = (tg : Int)) : zGd sz sv ev cl ar D p l e R s m args below meth c Q nL n0 ns0 r pc 3 (zJlt iv false false tg) := by
  intro k j hk hj L st hp n ns hr
  obtain ⟨y, t, rfl, q1⟩ := zpop_some hr
  clear hr
  obtain ⟨x, t, rfl, hr⟩ := zpop_some q1
  clear q1
  obtain ⟨U, V, b, e1, e2, hb, hr⟩ := zltb_some (sz := sz) (sv := sv) hv hr
  simp only [cond_true, cond_false] at e1 e2
  cases b
  · obtain ⟨h1, h2, h3⟩ := hk L _ hp n ns hr
    refine ⟨h1, h2, fun ls H locs a b d => ?_⟩
    have kk := h3 ls H locs a b d
    simp only [List.map_cons]
    rw [e1, e2]
    exact lv_icmp_lt X.1 X.2.1 hd ht (fun z => absurd z (fun z => nomatch hb.mpr z)) (fun _ => kk)
  · obtain ⟨h1, h2, h3⟩ := hj tg L _ hp n ns hr
    refine ⟨h1, h2, fun ls H locs a b d => ?_⟩
    have kk := h3 ls H locs a b d
    simp only [List.map_cons]
    rw [e1, e2]
    exact lv_icmp_lt X.1 X.2.1 hd ht (fun _ => kk) (fun z => absurd (hb.mp rfl) z)

theorem gI_icmp_ge {iv : Nat → Nat × Nat} (hv : zIv ev iv) (X : zCtx sz sv cl ar D p R s m args c gw cc own nL n0 ns0 r) {off : Int} {tg : Nat} (hd : decode cc pc = .ok (.if_icmp .ge off, 3)) (ht : (pc : Int) + off = (tg : Int)) : zGd sz sv ev cl ar D p l e R s m args below meth c Q nL n0 ns0 r pc 3 (zJlt iv false true tg) := by
  intro k j hk hj L st hp n ns hr
  obtain ⟨y, t, rfl, q1⟩ := zpop_some hr
  clear hr
  obtain ⟨x, t, rfl, hr⟩ := zpop_some q1
  clear q1
  obtain ⟨U, V, b, e1, e2, hb, hr⟩ := zltb_some (sz := sz) (sv := sv) hv hr
  simp only [cond_true, cond_false] at e1 e2
  cases b
  · obtain ⟨h1, h2, h3⟩ := hj tg L _ hp n ns hr
    refine ⟨h1, h2, fun ls H locs a b d => ?_⟩
    have kk := h3 ls H locs a b d
    simp only [List.map_cons]
    rw [e1, e2]
    exact lv_icmp_ge X.1 X.2.1 hd ht (fun _ => kk) (fun z => absurd (Int32.not_lt.mp fun z => nomatch hb.mpr z) z)
  · obtain ⟨h1, h2, h3⟩ := hk L _ hp n ns hr
    refine ⟨h1, h2, fun ls H locs a b d => ?_⟩
    have kk := h3 ls H locs a b d
    simp only [List.map_cons]
    rw [e1, e2]
    exact lv_icmp_ge X.1 X.2.1 hd ht (fun z => absurd z (Int32.not_le.mpr (hb.mp rfl))) (fun _ => kk)

theorem gI_icmp_gt {iv : Nat → Nat × Nat} (hv : zIv ev iv) (X : zCtx sz sv cl ar D p R s m args c gw cc own nL n0 ns0 r) {off : Int} {tg : Nat} (hd : decode cc pc = .ok (.if_icmp .gt off, 3)) (ht : (pc : Int) + off = (tg : Int)) : zGd sz sv ev cl ar D p l e R s m args below meth c Q nL n0 ns0 r pc 3 (zJlt iv true false tg) := by
  intro k j hk hj L st hp n ns hr
  obtain ⟨y, t, rfl, q1⟩ := zpop_some hr
  clear hr
  obtain ⟨x, t, rfl, hr⟩ := zpop_some q1
  clear q1
  obtain ⟨U, V, b, e1, e2, hb, hr⟩ := zltb_some (sz := sz) (sv := sv) hv hr
  simp only [cond_true, cond_false] at e1 e2
  cases b
  · obtain ⟨h1, h2, h3⟩ := hk L _ hp n ns hr
    refine ⟨h1, h2, fun ls H locs a b d => ?_⟩
    have kk := h3 ls H locs a b d
    simp only [List.map_cons]
    rw [e1, e2]
    exact lv_icmp_gt X.1 X.2.1 hd ht (fun z => absurd z (fun z => nomatch hb.mpr z)) (fun _ => kk)
  · obtain ⟨h1, h2, h3⟩ := hj tg L _ hp n ns hr
    refine ⟨h1, h2, fun ls H locs a b d => ?_⟩
    have kk := h3 ls H locs a b d
    simp only [List.map_cons]
    rw [e1, e2]
    exact lv_icmp_gt X.1 X.2.1 hd ht (fun _ => kk) (fun z => absurd (hb.mp rfl) z)

theorem gI_icmp_le {iv : Nat → Nat × Nat} (hv : zIv ev iv) (X : zCtx sz sv cl ar D p R s m args c gw cc own nL n0 ns0 r) {off : Int} {tg : Nat} (hd : decode cc pc = .ok (.if_icmp .le off, 3)) (ht : (pc : Int) + off = (tg : Int)) : zGd sz sv ev cl ar D p l e R s m args below meth c Q nL n0 ns0 r pc 3 (zJlt iv true true tg) := by
  intro k j hk hj L st hp n ns hr
  obtain ⟨y, t, rfl, q1⟩ := zpop_some hr
  clear hr
  obtain ⟨x, t, rfl, hr⟩ := zpop_some q1
  clear q1
  obtain ⟨U, V, b, e1, e2, hb, hr⟩ := zltb_some (sz := sz) (sv := sv) hv hr
  simp only [cond_true, cond_false] at e1 e2
  cases b
  · obtain ⟨h1, h2, h3⟩ := hj tg L _ hp n ns hr
    refine ⟨h1, h2, fun ls H locs a b d => ?_⟩
    have kk := h3 ls H locs a b d
    simp only [List.map_cons]
    rw [e1, e2]
    exact lv_icmp_le X.1 X.2.1 hd ht (fun _ => kk) (fun z => absurd (Int32.not_lt.mp fun z => nomatch hb.mpr z) z)
  · obtain ⟨h1, h2, h3⟩ := hk L _ hp n ns hr
    refine ⟨h1, h2, fun ls H locs a b d => ?_⟩
    have kk := h3 ls H locs a b d
    simp only [List.map_cons]
    rw [e1, e2]
    exact lv_icmp_le X.1 X.2.1 hd ht (fun z => absurd z (Int32.not_le.mpr (hb.mp rfl))) (fun _ => kk)

theorem gI_icmp_eq {iv : Nat → Nat × Nat} (hv : zIv ev iv) (X : zCtx sz sv cl ar D p R s m args c gw cc own nL n0 ns0 r) {off : Int} {tg : Nat} (hd : decode cc pc = .ok (.if_icmp .eq off, 3)) (ht : (pc : Int) + off = (tg : Int)) : zGd sz sv ev cl ar D p l e R s m args below meth c Q nL n0 ns0 r pc 3 (zJeq iv false tg) := by
  intro k j hk hj L st hp n ns hr
  obtain ⟨y, t, rfl, q1⟩ := zpop_some hr
  clear hr
  obtain ⟨x, t, rfl, hr⟩ := zpop_some q1
  clear q1
  obtain ⟨U, V, b, e1, e2, hb, hr⟩ := zeqb_some (sz := sz) (sv := sv) hv hr
  cases b
  · obtain ⟨h1, h2, h3⟩ := hk L _ hp n ns hr
    refine ⟨h1, h2, fun ls H locs a b d => ?_⟩
    have kk := h3 ls H locs a b d
    simp only [List.map_cons]
    rw [e1, e2]
    exact lv_icmp_eq X.1 X.2.1 hd ht (fun z => absurd z (fun z => nomatch hb.mpr z)) (fun _ => kk)
  · obtain ⟨h1, h2, h3⟩ := hj tg L _ hp n ns hr
    refine ⟨h1, h2, fun ls H locs a b d => ?_⟩
    have kk := h3 ls H locs a b d
    simp only [List.map_cons]
    rw [e1, e2]
    exact lv_icmp_eq X.1 X.2.1 hd ht (fun _ => kk) (fun z => absurd (hb.mp rfl) z)

theorem gI_icmp_ne {iv : Nat → Nat × Nat} (hv : zIv ev iv) (X : zCtx sz sv cl ar D p R s m args c gw cc own nL n0 ns0 r) {off : Int} {tg : Nat} (hd : decode cc pc = .ok (.if_icmp .ne off, 3)) (ht : (pc : Int) + off = (tg : Int)) : zGd sz sv ev cl ar D p l e R s m args below meth c Q nL n0 ns0 r pc 3 (zJeq iv true tg) := by
  intro k j hk hj L st hp n ns hr
  obtain ⟨y, t, rfl, q1⟩ := zpop_some hr
  clear hr
  obtain ⟨x, t, rfl, hr⟩ := zpop_some q1
  clear q1
  obtain ⟨U, V, b, e1, e2, hb, hr⟩ := zeqb_some (sz := sz) (sv := sv) hv hr
  cases b
  · obtain ⟨h1, h2, h3⟩ := hj tg L _ hp n ns hr
    refine ⟨h1, h2, fun ls H locs a b d => ?_⟩
    have kk := h3 ls H locs a b d
    simp only [List.map_cons]
    rw [e1, e2]
    exact lv_icmp_ne X.1 X.2.1 hd ht (fun _ => kk) (fun z => absurd z (fun z => (nomatch hb.mpr z)))
  · obtain ⟨h1, h2, h3⟩ := hk L _ hp n ns hr
    refine ⟨h1, h2, fun ls H locs a b d => ?_⟩
    have kk := h3 ls H locs a b d
    simp only [List.map_cons]
    rw [e1, e2]
    exact lv_icmp_ne X.1 X.2.1 hd ht (fun z => absurd (hb.mp rfl) z) (fun _ => kk)

theorem gI_if_lt {iv : Nat → Nat × Nat} (hv : zIv ev iv) (X : zCtx sz sv cl ar D p R s m args c gw cc own nL n0 ns0 r) {off : Int} {tg : Nat} (hd : decode cc pc = .ok (.ifCond .lt off, 3)) (ht : (pc : Int) + off = (tg : Int)) : zGd sz sv ev cl ar D p l e R s m args below meth c Q nL n0 ns0 r pc 3 (z0lt iv false false tg) := by
  intro k j hk hj L st hp n ns hr
  obtain ⟨x, t, rfl, q1⟩ := zpop_some hr
  clear hr
  obtain ⟨U, V, b, e1, e2, hb, hr⟩ := zltb_some (sz := sz) (sv := sv) hv q1
  simp only [cond_true, cond_false] at e1 e2
  cases b
  · obtain ⟨h1, h2, h3⟩ := hk L _ hp n ns hr
    refine ⟨h1, h2, fun ls H locs a b d => ?_⟩
    have kk := h3 ls H locs a b d
    simp only [List.map_cons]
    rw [e1]
    have hz := e2
    rw [zvd_0 (v := 0) rfl] at hz
    have hz0 := (Value.int.inj hz).symm
    subst hz0
    exact lv_if_lt X.1 X.2.1 hd ht (fun z => absurd z (fun z => nomatch hb.mpr z)) (fun _ => kk)
  · obtain ⟨h1, h2, h3⟩ := hj tg L _ hp n ns hr
    refine ⟨h1, h2, fun ls H locs a b d => ?_⟩
    have kk := h3 ls H locs a b d
    simp only [List.map_cons]
    rw [e1]
    have hz := e2
    rw [zvd_0 (v := 0) rfl] at hz
    have hz0 := (Value.int.inj hz).symm
    subst hz0
    exact lv_if_lt X.1 X.2.1 hd ht (fun _ => kk) (fun z => absurd (hb.mp rfl) z)

theorem gI_if_ge {iv : Nat → Nat × Nat} (hv : zIv ev iv) (X : zCtx sz sv cl ar D p R s m args c gw cc own nL n0 ns0 r) {off : Int} {tg : Nat} (hd : decode cc pc = .ok (.ifCond .ge off, 3)) (ht : (pc : Int) + off = (tg : Int)) : zGd sz sv ev cl ar D p l e R s m args below meth c Q nL n0 ns0 r pc 3 (z0lt iv false true tg) := by
  intro k j hk hj L st hp n ns hr
  obtain ⟨x, t, rfl, q1⟩ := zpop_some hr
  clear hr
  obtain ⟨U, V, b, e1, e2, hb, hr⟩ := zltb_some (sz := sz) (sv := sv) hv q1
  simp only [cond_true, cond_false] at e1 e2
  cases b
  · obtain ⟨h1, h2, h3⟩ := hj tg L _ hp n ns hr
    refine ⟨h1, h2, fun ls H locs a b d => ?_⟩
    have kk := h3 ls H locs a b d
    simp only [List.map_cons]
    rw [e1]
    have hz := e2
    rw [zvd_0 (v := 0) rfl] at hz
    have hz0 := (Value.int.inj hz).symm
    subst hz0
    exact lv_if_ge X.1 X.2.1 hd ht (fun _ => kk) (fun z => absurd (Int32.not_lt.mp fun z => nomatch hb.mpr z) z)
  · obtain ⟨h1, h2, h3⟩ := hk L _ hp n ns hr
    refine ⟨h1, h2, fun ls H locs a b d => ?_⟩
    have kk := h3 ls H locs a b d
    simp only [List.map_cons]
    rw [e1]
    have hz := e2
    rw [zvd_0 (v := 0) rfl] at hz
    have hz0 := (Value.int.inj hz).symm
    subst hz0
    exact lv_if_ge X.1 X.2.1 hd ht (fun z => absurd z (Int32.not_le.mpr (hb.mp rfl))) (fun _ => kk)

theorem gI_if_gt {iv : Nat → Nat × Nat} (hv : zIv ev iv) (X : zCtx sz sv cl ar D p R s m args c gw cc own nL n0 ns0 r) {off : Int} {tg : Nat} (hd : decode cc pc = .ok (.ifCond .gt off, 3)) (ht : (pc : Int) + off = (tg : Int)) : zGd sz sv ev cl ar D p l e R s m args below meth c Q nL n0 ns0 r pc 3 (z0lt iv true false tg) := by
  intro k j hk hj L st hp n ns hr
  obtain ⟨x, t, rfl, q1⟩ := zpop_some hr
  clear hr
  obtain ⟨U, V, b, e1, e2, hb, hr⟩ := zltb_some (sz := sz) (sv := sv) hv q1
  simp only [cond_true, cond_false] at e1 e2
  cases b
  · obtain ⟨h1, h2, h3⟩ := hk L _ hp n ns hr
    refine ⟨h1, h2, fun ls H locs a b d => ?_⟩
    have kk := h3 ls H locs a b d
    simp only [List.map_cons]
    rw [e2]
    have hz := e1
    rw [zvd_0 (v := 0) rfl] at hz
    have hz0 := (Value.int.inj hz).symm
    subst hz0
    exact lv_if_gt X.1 X.2.1 hd ht (fun z => absurd z (fun z => nomatch hb.mpr z)) (fun _ => kk)
  · obtain ⟨h1, h2, h3⟩ := hj tg L _ hp n ns hr
    refine ⟨h1, h2, fun ls H locs a b d => ?_⟩
    have kk := h3 ls H locs a b d
    simp only [List.map_cons]
    rw [e2]
    have hz := e1
    rw [zvd_0 (v := 0) rfl] at hz
    have hz0 := (Value.int.inj hz).symm
    subst hz0
    exact lv_if_gt X.1 X.2.1 hd ht (fun _ => kk) (fun z => absurd (hb.mp rfl) z)

theorem gI_if_le {iv : Nat → Nat × Nat} (hv : zIv ev iv) (X : zCtx sz sv cl ar D p R s m args c gw cc own nL n0 ns0 r) {off : Int} {tg : Nat} (hd : decode cc pc = .ok (.ifCond .le off, 3)) (ht : (pc : Int) + off = (tg : Int)) : zGd sz sv ev cl ar D p l e R s m args below meth c Q nL n0 ns0 r pc 3 (z0lt iv true true tg) := by
  intro k j hk hj L st hp n ns hr
  obtain ⟨x, t, rfl, q1⟩ := zpop_some hr
  clear hr
  obtain ⟨U, V, b, e1, e2, hb, hr⟩ := zltb_some (sz := sz) (sv := sv) hv q1
  simp only [cond_true, cond_false] at e1 e2
  cases b
  · obtain ⟨h1, h2, h3⟩ := hj tg L _ hp n ns hr
    refine ⟨h1, h2, fun ls H locs a b d => ?_⟩
    have kk := h3 ls H locs a b d
    simp only [List.map_cons]
    rw [e2]
    have hz := e1
    rw [zvd_0 (v := 0) rfl] at hz
    have hz0 := (Value.int.inj hz).symm
    subst hz0
    exact lv_if_le X.1 X.2.1 hd ht (fun _ => kk) (fun z => absurd (Int32.not_lt.mp fun z => nomatch hb.mpr z) z)
  · obtain ⟨h1, h2, h3⟩ := hk L _ hp n ns hr
    refine ⟨h1, h2, fun ls H locs a b d => ?_⟩
    have kk := h3 ls H locs a b d
    simp only [List.map_cons]
    rw [e2]
    have hz := e1
    rw [zvd_0 (v := 0) rfl] at hz
    have hz0 := (Value.int.inj hz).symm
    subst hz0
    exact lv_if_le X.1 X.2.1 hd ht (fun z => absurd z (Int32.not_le.mpr (hb.mp rfl))) (fun _ => kk)

theorem gI_if_eq {iv : Nat → Nat × Nat} (hv : zIv ev iv) (X : zCtx sz sv cl ar D p R s m args c gw cc own nL n0 ns0 r) {off : Int} {tg : Nat} (hd : decode cc pc = .ok (.ifCond .eq off, 3)) (ht : (pc : Int) + off = (tg : Int)) : zGd sz sv ev cl ar D p l e R s m args below meth c Q nL n0 ns0 r pc 3 (z0eq iv false tg) := by
  intro k j hk hj L st hp n ns hr
  obtain ⟨x, t, rfl, q1⟩ := zpop_some hr
  clear hr
  obtain ⟨U, V, b, e1, e2, hb, hr⟩ := zeqb_some (sz := sz) (sv := sv) hv q1
  cases b
  · obtain ⟨h1, h2, h3⟩ := hk L _ hp n ns hr
    refine ⟨h1, h2, fun ls H locs a b d => ?_⟩
    have kk := h3 ls H locs a b d
    simp only [List.map_cons]
    rw [e1]
    have hz := e2
    rw [zvd_0 (v := 0) rfl] at hz
    have hz0 := (Value.int.inj hz).symm
    subst hz0
    exact lv_if_eq X.1 X.2.1 hd ht (fun z => absurd z (fun z => nomatch hb.mpr z)) (fun _ => kk)
  · obtain ⟨h1, h2, h3⟩ := hj tg L _ hp n ns hr
    refine ⟨h1, h2, fun ls H locs a b d => ?_⟩
    have kk := h3 ls H locs a b d
    simp only [List.map_cons]
    rw [e1]
    have hz := e2
    rw [zvd_0 (v := 0) rfl] at hz
    have hz0 := (Value.int.inj hz).symm
    subst hz0
    exact lv_if_eq X.1 X.2.1 hd ht (fun _ => kk) (fun z => absurd (hb.mp rfl) z)

theorem gI_if_ne {iv : Nat → Nat × Nat} (hv : zIv ev iv) (X : zCtx sz sv cl ar D p R s m args c gw cc own nL n0 ns0 r) {off : Int} {tg : Nat} (hd : decode cc pc = .ok (.ifCond .ne off, 3)) (ht : (pc : Int) + off = (tg : Int)) : zGd sz sv ev cl ar D p l e R s m args below meth c Q nL n0 ns0 r pc 3 (z0eq iv true tg) := by
  intro k j hk hj L st hp n ns hr
  obtain ⟨x, t, rfl, q1⟩ := zpop_some hr
  clear hr
  obtain ⟨U, V, b, e1, e2, hb, hr⟩ := zeqb_some (sz := sz) (sv := sv) hv q1
  cases b
  · obtain ⟨h1, h2, h3⟩ := hj tg L _ hp n ns hr
    refine ⟨h1, h2, fun ls H locs a b d => ?_⟩
    have kk := h3 ls H locs a b d
    simp only [List.map_cons]
    rw [e1]
    have hz := e2
    rw [zvd_0 (v := 0) rfl] at hz
    have hz0 := (Value.int.inj hz).symm
    subst hz0
    exact lv_if_ne X.1 X.2.1 hd ht (fun _ => kk) (fun z => absurd z (fun z => (nomatch hb.mpr z)))
  · obtain ⟨h1, h2, h3⟩ := hk L _ hp n ns hr
    refine ⟨h1, h2, fun ls H locs a b d => ?_⟩
    have kk := h3 ls H locs a b d
    simp only [List.map_cons]
    rw [e1]
    have hz := e2
    rw [zvd_0 (v := 0) rfl] at hz
    have hz0 := (Value.int.inj hz).symm
    subst hz0
    exact lv_if_ne X.1 X.2.1 hd ht (fun z => absurd (hb.mp rfl) z) (fun _ => kk)

end ZB
end
section
/-! more instructions: stack, longs, conversions, switches, ends -/
noncomputable def zShr : zI := fun k _ L st hp n ns => zpop st fun y t => zpop t fun x t => zck (zt x 0) (zck (zt y 0) (zck (Nat.blt x 17179869184) (k L (zmk (Nat.shiftRight (Nat.div x 8) (Nat.mod (Nat.div y 8) 32)) :: t) hp n ns)))
noncomputable def zNeg : zI := fun k _ L st hp n ns => zpop st fun x t => zck (zt x 0) (k L (zmk (zfNeg (Nat.div x 8)) :: t) hp n ns)
noncomputable def zDiv (f : Nat → Nat → Nat) : zI := fun k _ L st hp n ns => zpop st fun y t => zpop t fun x t => zck (zt x 0) (zck (zt y 0) (zck (Nat.blt x 17179869184) (zck (Nat.blt y 17179869184) (zck (Nat.blt 7 y) (k L (zmk (f (Nat.div x 8) (Nat.div y 8)) :: t) hp n ns)))))
noncomputable def zAndS : zI := fun k j L st hp n ns => zpop st fun y t => zpop t fun x t => cond (cond (zt x 0) (zt y 0) false) (k L (zmk (Nat.land (Nat.div x 8) (Nat.div y 8)) :: t) hp n ns) (zck (zisI x) (zck (zisI y) (cond (Nat.beq y 34359738360) (k L (x :: t) hp n ns) (cond (Nat.beq x 34359738360) (k L (y :: t) hp n ns) (cond (Nat.beq y 0) (k L (0 :: t) hp n ns) (zck (Nat.beq x 0) (k L (0 :: t) hp n ns)))))))
noncomputable def zOrS : zI := fun k j L st hp n ns => zpop st fun y t => zpop t fun x t => cond (cond (zt x 0) (zt y 0) false) (k L (zmk (Nat.lor (Nat.div x 8) (Nat.div y 8)) :: t) hp n ns) (zck (zisI x) (zck (zisI y) (cond (Nat.beq y 0) (k L (x :: t) hp n ns) (zck (Nat.beq x 0) (k L (y :: t) hp n ns)))))
noncomputable def zI2l : zI := fun k _ L st hp n ns => zpop st fun x t => zck (zt x 0) (zck (Nat.blt x 17179869184) (k L (Nat.add x 4 :: t) hp n ns))
noncomputable def zml (k : Nat) : Nat := Nat.add (Nat.mul 8 (Nat.mod k 18446744073709551616)) 4
noncomputable def zLbin (f : Nat → Nat → Nat) : zI := fun k _ L st hp n ns => zpop st fun y t => zpop t fun x t => zck (zt x 4) (zck (zt y 4) (k L (zml (f (Nat.div x 8) (Nat.div y 8)) :: t) hp n ns))
noncomputable def zLcmp : zI := fun k _ L st hp n ns => zpop st fun y t => zpop t fun x t => zck (zt x 4) (zck (zt y 4) (zck (Nat.blt x 73786976294838206464) (zck (Nat.blt y 73786976294838206464) (k L (cond (Nat.blt y x) 8 (cond (Nat.beq x y) 0 34359738360) :: t) hp n ns))))
/-- the ints that come of the script's by char, by byte, by eight places down -/
def zDer (ev : Nat → Int32) (d : Nat × Nat × Nat) : Prop := ∀ j, ev (j + d.1) = ((ev j).toUInt32 % 65536).toInt32 ∧ ev (j + d.2.1) = (ev j).toInt8.toInt32 ∧ ev (j + d.2.2) = ((ev j).toUInt32 >>> ((nI 8).toUInt32 &&& Int32.toUInt32 31)).toInt32
noncomputable def zI2c (d : Nat) : zI := fun k _ L st hp n ns => zpop st fun x t => cond (zt x 0) (k L (Nat.mul 8 (Nat.mod (Nat.div x 8) 65536) :: t) hp n ns) (zck (zt x 7) (k L (Nat.add x (Nat.mul 8 d) :: t) hp n ns))
noncomputable def zI2b (d : Nat) : zI := fun k _ L st hp n ns => zpop st fun x t => cond (zt x 0) (zck (Nat.blt x 1024) (k L (x :: t) hp n ns)) (zck (zt x 7) (k L (Nat.add x (Nat.mul 8 d) :: t) hp n ns))
noncomputable def zUshS (d : Nat) : zI := fun k j L st hp n ns => zpop st fun y t => zpop t fun x t => cond (cond (zt x 0) (zt y 0) false) (k L (zmk (zfUshr (Nat.div x 8) (Nat.div y 8)) :: t) hp n ns) (zck (zt x 7) (zck (Nat.beq y 64) (k L (Nat.add x (Nat.mul 8 d) :: t) hp n ns)))
noncomputable def zsw (lo hi d : Nat) (tb : List (Nat × Nat)) (k : Nat → zR) : zR := List.rec (motive := fun _ => zR) (k d) (fun q _ ih => cond (Nat.blt hi q.1) ih (cond (Nat.blt q.1 lo) ih (zck (Nat.beq lo hi) (k q.2)))) tb
noncomputable def zSw (iv : Nat → Nat × Nat) (d : Nat) (tb : List (Nat × Nat)) : zI := fun _ j L st hp n ns => zpop st fun x t => zck (zisI x) (zsw (zlo iv x) (zhi iv x) d tb fun tg => j tg L t hp n ns)
noncomputable def znth (i d : Nat) (tb : List Nat) : Nat := List.rec (motive := fun _ => Nat → Nat) (fun _ => d) (fun q _ ih => fun i => cond (Nat.beq i 0) q (ih (Nat.pred i))) tb i
noncomputable def zTs (d : Nat) (tb : List Nat) : zI := fun _ j L st hp n ns => zpop st fun x t => zck (zt x 0) (zck (Nat.blt x 17179869184) (j (znth (Nat.div x 8) d tb) L t hp n ns))

section ZB
variable {sz : Nat} {sv : Nat → Value} {ev : Nat → Int32} {cl : List vw_C} {ar : zAr} {D : va_G}
variable {p : Program} {l : Launch} {e : Env} {R : Room} {s : State} {m : MethodId} {args : Array Value} {below : List Frame} {meth : Method} {c : Code} {Q : State → Prop}
variable {gw : List Cond} {cc : ByteArray} {own : String} {nL n0 ns0 : Nat} {r : zOut} {pc : Nat}

theorem gI_ishr (X : zCtx sz sv cl ar D p R s m args c gw cc own nL n0 ns0 r) (hd : decode cc pc = .ok (.ishr, 1)) : zGd sz sv ev cl ar D p l e R s m args below meth c Q nL n0 ns0 r pc 1 zShr := by
  intro k j hk hj L st hp n ns hr
  obtain ⟨y, t, rfl, q1⟩ := zpop_some hr
  clear hr
  obtain ⟨x, t, rfl, hr⟩ := zpop_some q1
  clear q1
  obtain ⟨hx, hr⟩ := zck_some hr
  obtain ⟨hy, hr⟩ := zck_some hr
  obtain ⟨hb, hr⟩ := zck_some hr
  obtain ⟨h1, h2, h3⟩ := hk L _ hp n ns hr
  refine ⟨h1, h2, fun ls H locs a b d => ?_⟩
  have kk := h3 ls H locs a b d
  simp only [List.map_cons] at kk ⊢
  rw [zvd_0 (zt_eq hx), zvd_0 (zt_eq hy)]
  rw [zmk_v] at kk
  have hx31 : x / 8 < 2 ^ 31 := by
    have : x + 1 ≤ 17179869184 := Nat.le_of_ble_eq_true hb
    omega
  refine lv_ishr X.1 X.2.1 hd ?_
  rw [zi_sh31, pk_shrN hx31 _ (y / 8 % 32) (zi_s _ (Nat.mod_lt _ (by decide)))]
  rw [← Nat.shiftRight_eq_div_pow]
  exact kk

theorem gI_ineg (X : zCtx sz sv cl ar D p R s m args c gw cc own nL n0 ns0 r) (hd : decode cc pc = .ok (.ineg, 1)) : zGd sz sv ev cl ar D p l e R s m args below meth c Q nL n0 ns0 r pc 1 zNeg := by
  intro k j hk hj L st hp n ns hr
  obtain ⟨x, t, rfl, q1⟩ := zpop_some hr
  clear hr
  obtain ⟨hx, hr⟩ := zck_some q1
  obtain ⟨h1, h2, h3⟩ := hk L _ hp n ns hr
  refine ⟨h1, h2, fun ls H locs a b d => ?_⟩
  have kk := h3 ls H locs a b d
  simp only [List.map_cons] at kk ⊢
  rw [zvd_0 (zt_eq hx)]
  rw [zmk_v, ← zi_neg] at kk
  exact lv_ineg X.1 X.2.1 hd kk

theorem gI_idiv (X : zCtx sz sv cl ar D p R s m args c gw cc own nL n0 ns0 r) (hd : decode cc pc = .ok (.idiv, 1)) : zGd sz sv ev cl ar D p l e R s m args below meth c Q nL n0 ns0 r pc 1 (zDiv Nat.div) := by
  intro k j hk hj L st hp n ns hr
  obtain ⟨y, t, rfl, q1⟩ := zpop_some hr
  clear hr
  obtain ⟨x, t, rfl, hr⟩ := zpop_some q1
  clear q1
  obtain ⟨hx, hr⟩ := zck_some hr
  obtain ⟨hy, hr⟩ := zck_some hr
  obtain ⟨hb, hr⟩ := zck_some hr
  obtain ⟨hb2, hr⟩ := zck_some hr
  obtain ⟨hb3, hr⟩ := zck_some hr
  obtain ⟨h1, h2, h3⟩ := hk L _ hp n ns hr
  refine ⟨h1, h2, fun ls H locs a b d => ?_⟩
  have kk := h3 ls H locs a b d
  simp only [List.map_cons] at kk ⊢
  rw [zvd_0 (zt_eq hx), zvd_0 (zt_eq hy)]
  rw [zmk_v] at kk
  have hx31 : x / 8 < 2 ^ 31 := by
    have : x + 1 ≤ 17179869184 := Nat.le_of_ble_eq_true hb
    omega
  have hy31 : y / 8 < 2 ^ 31 := by
    have : y + 1 ≤ 17179869184 := Nat.le_of_ble_eq_true hb2
    omega
  have hy0 : 0 < y / 8 := by
    have : 7 + 1 ≤ y := Nat.le_of_ble_eq_true hb3
    omega
  refine lv_idiv X.1 X.2.1 hd (nI_ne0 hy0 hy31) ?_
  rw [pk_div hx31 hy0 hy31]
  exact kk

theorem gI_irem (X : zCtx sz sv cl ar D p R s m args c gw cc own nL n0 ns0 r) (hd : decode cc pc = .ok (.irem, 1)) : zGd sz sv ev cl ar D p l e R s m args below meth c Q nL n0 ns0 r pc 1 (zDiv Nat.mod) := by
  intro k j hk hj L st hp n ns hr
  obtain ⟨y, t, rfl, q1⟩ := zpop_some hr
  clear hr
  obtain ⟨x, t, rfl, hr⟩ := zpop_some q1
  clear q1
  obtain ⟨hx, hr⟩ := zck_some hr
  obtain ⟨hy, hr⟩ := zck_some hr
  obtain ⟨hb, hr⟩ := zck_some hr
  obtain ⟨hb2, hr⟩ := zck_some hr
  obtain ⟨hb3, hr⟩ := zck_some hr
  obtain ⟨h1, h2, h3⟩ := hk L _ hp n ns hr
  refine ⟨h1, h2, fun ls H locs a b d => ?_⟩
  have kk := h3 ls H locs a b d
  simp only [List.map_cons] at kk ⊢
  rw [zvd_0 (zt_eq hx), zvd_0 (zt_eq hy)]
  rw [zmk_v] at kk
  have hx31 : x / 8 < 2 ^ 31 := by
    have : x + 1 ≤ 17179869184 := Nat.le_of_ble_eq_true hb
    omega
  have hy31 : y / 8 < 2 ^ 31 := by
    have : y + 1 ≤ 17179869184 := Nat.le_of_ble_eq_true hb2
    omega
  have hy0 : 0 < y / 8 := by
    have : 7 + 1 ≤ y := Nat.le_of_ble_eq_true hb3
    omega
  refine lv_irem X.1 X.2.1 hd (nI_ne0 hy0 hy31) ?_
  rw [pk_rem hx31 hy0 hy31]
  exact kk

theorem zand_m1 (x : Int32) : x &&& (-1) = x := by
  apply Int32.toBitVec_inj.1; rw [Int32.toBitVec_and]; show x.toBitVec &&& BitVec.allOnes 32 = _; exact BitVec.and_allOnes
theorem zm1_and (x : Int32) : (-1) &&& x = x := by
  apply Int32.toBitVec_inj.1; rw [Int32.toBitVec_and]; show BitVec.allOnes 32 &&& x.toBitVec = _; exact BitVec.allOnes_and
theorem zand_0 (x : Int32) : x &&& 0 = 0 := by
  apply Int32.toBitVec_inj.1; rw [Int32.toBitVec_and]; show x.toBitVec &&& 0#32 = _; exact BitVec.and_zero
theorem z0_and (x : Int32) : 0 &&& x = 0 := by
  apply Int32.toBitVec_inj.1; rw [Int32.toBitVec_and]; show 0#32 &&& x.toBitVec = _; exact BitVec.zero_and
theorem zor_0 (x : Int32) : x ||| 0 = x := by
  apply Int32.toBitVec_inj.1; rw [Int32.toBitVec_or]; show x.toBitVec ||| 0#32 = _; exact BitVec.or_zero
theorem z0_or (x : Int32) : 0 ||| x = x := by
  apply Int32.toBitVec_inj.1; rw [Int32.toBitVec_or]; show 0#32 ||| x.toBitVec = _; exact BitVec.zero_or

theorem gI_iandS (X : zCtx sz sv cl ar D p R s m args c gw cc own nL n0 ns0 r) (hd : decode cc pc = .ok (.iand, 1)) : zGd sz sv ev cl ar D p l e R s m args below meth c Q nL n0 ns0 r pc 1 zAndS := by
  intro k j hk hj L st hp n ns hr
  obtain ⟨y, t, rfl, q1⟩ := zpop_some hr
  clear hr
  obtain ⟨x, t, rfl, hr⟩ := zpop_some q1
  clear q1
  have h32 : zvd sz sv ev 34359738360 = .int (-1) := by rw [zvd_0 (by decide)]; exact congrArg Value.int (by decide)
  have hz0 : zvd sz sv ev 0 = .int 0 := by rw [zvd_0 (by decide)]; rfl
  cases hc : cond (zt x 0) (zt y 0) false with
  | true =>
    have hxy : zt x 0 = true ∧ zt y 0 = true := by
      cases hx : zt x 0 <;> rw [hx] at hc
      · cases hc
      · exact ⟨rfl, hc⟩
    simp only [hc, cond_true] at hr
    obtain ⟨h1, h2, h3⟩ := hk L _ hp n ns hr
    refine ⟨h1, h2, fun ls H locs a b d => ?_⟩
    have kk := h3 ls H locs a b d
    simp only [List.map_cons] at kk ⊢
    rw [zvd_0 (zt_eq hxy.1), zvd_0 (zt_eq hxy.2)]
    rw [zmk_v, ← zi_and] at kk
    exact lv_iand X.1 X.2.1 hd kk
  | false =>
    simp only [hc, cond_false] at hr
    obtain ⟨hx, hr⟩ := zck_some hr
    obtain ⟨hy, hr⟩ := zck_some hr
    obtain ⟨U, hU⟩ := zI_int (sz := sz) (sv := sv) (ev := ev) hx
    obtain ⟨V, hV⟩ := zI_int (sz := sz) (sv := sv) (ev := ev) hy
    cases hb : Nat.beq y 34359738360 with
    | true =>
      simp only [hb, cond_true] at hr
      obtain ⟨h1, h2, h3⟩ := hk L _ hp n ns hr
      refine ⟨h1, h2, fun ls H locs a b d => ?_⟩
      have kk := h3 ls H locs a b d
      simp only [List.map_cons] at kk ⊢
      have hE := Nat.eq_of_beq_eq_true hb
      subst hE
      rw [hU, h32]
      rw [hU] at kk
      refine lv_iand X.1 X.2.1 hd ?_
      rw [zand_m1]
      exact kk
    | false =>
      simp only [hb, cond_false] at hr
      cases hb : Nat.beq x 34359738360 with
      | true =>
        simp only [hb, cond_true] at hr
        obtain ⟨h1, h2, h3⟩ := hk L _ hp n ns hr
        refine ⟨h1, h2, fun ls H locs a b d => ?_⟩
        have kk := h3 ls H locs a b d
        simp only [List.map_cons] at kk ⊢
        have hE := Nat.eq_of_beq_eq_true hb
        subst hE
        rw [hV, h32]
        rw [hV] at kk
        refine lv_iand X.1 X.2.1 hd ?_
        rw [zm1_and]
        exact kk
      | false =>
        simp only [hb, cond_false] at hr
        cases hb : Nat.beq y 0 with
        | true =>
          simp only [hb, cond_true] at hr
          obtain ⟨h1, h2, h3⟩ := hk L _ hp n ns hr
          refine ⟨h1, h2, fun ls H locs a b d => ?_⟩
          have kk := h3 ls H locs a b d
          simp only [List.map_cons] at kk ⊢
          have hE := Nat.eq_of_beq_eq_true hb
          subst hE
          rw [hU, hz0]
          rw [hz0] at kk
          refine lv_iand X.1 X.2.1 hd ?_
          rw [zand_0]
          exact kk
        | false =>
          simp only [hb, cond_false] at hr
          obtain ⟨hb, hr⟩ := zck_some hr
          obtain ⟨h1, h2, h3⟩ := hk L _ hp n ns hr
          refine ⟨h1, h2, fun ls H locs a b d => ?_⟩
          have kk := h3 ls H locs a b d
          simp only [List.map_cons] at kk ⊢
          have hE := Nat.eq_of_beq_eq_true hb
          subst hE
          rw [hV, hz0]
          rw [hz0] at kk
          refine lv_iand X.1 X.2.1 hd ?_
          rw [z0_and]
          exact kk

theorem gI_iorS (X : zCtx sz sv cl ar D p R s m args c gw cc own nL n0 ns0 r) (hd : decode cc pc = .ok (.ior, 1)) : zGd sz sv ev cl ar D p l e R s m args below meth c Q nL n0 ns0 r pc 1 zOrS := by
  intro k j hk hj L st hp n ns hr
  obtain ⟨y, t, rfl, q1⟩ := zpop_some hr
  clear hr
  obtain ⟨x, t, rfl, hr⟩ := zpop_some q1
  clear q1
  have h32 : zvd sz sv ev 34359738360 = .int (-1) := by rw [zvd_0 (by decide)]; exact congrArg Value.int (by decide)
  have hz0 : zvd sz sv ev 0 = .int 0 := by rw [zvd_0 (by decide)]; rfl
  cases hc : cond (zt x 0) (zt y 0) false with
  | true =>
    have hxy : zt x 0 = true ∧ zt y 0 = true := by
      cases hx : zt x 0 <;> rw [hx] at hc
      · cases hc
      · exact ⟨rfl, hc⟩
    simp only [hc, cond_true] at hr
    obtain ⟨h1, h2, h3⟩ := hk L _ hp n ns hr
    refine ⟨h1, h2, fun ls H locs a b d => ?_⟩
    have kk := h3 ls H locs a b d
    simp only [List.map_cons] at kk ⊢
    rw [zvd_0 (zt_eq hxy.1), zvd_0 (zt_eq hxy.2)]
    rw [zmk_v, ← zi_or] at kk
    exact lv_ior X.1 X.2.1 hd kk
  | false =>
    simp only [hc, cond_false] at hr
    obtain ⟨hx, hr⟩ := zck_some hr
    obtain ⟨hy, hr⟩ := zck_some hr
    obtain ⟨U, hU⟩ := zI_int (sz := sz) (sv := sv) (ev := ev) hx
    obtain ⟨V, hV⟩ := zI_int (sz := sz) (sv := sv) (ev := ev) hy
    cases hb : Nat.beq y 0 with
    | true =>
      simp only [hb, cond_true] at hr
      obtain ⟨h1, h2, h3⟩ := hk L _ hp n ns hr
      refine ⟨h1, h2, fun ls H locs a b d => ?_⟩
      have kk := h3 ls H locs a b d
      simp only [List.map_cons] at kk ⊢
      have hE := Nat.eq_of_beq_eq_true hb
      subst hE
      rw [hU, hz0]
      rw [hU] at kk
      refine lv_ior X.1 X.2.1 hd ?_
      rw [zor_0]
      exact kk
    | false =>
      simp only [hb, cond_false] at hr
      obtain ⟨hb, hr⟩ := zck_some hr
      obtain ⟨h1, h2, h3⟩ := hk L _ hp n ns hr
      refine ⟨h1, h2, fun ls H locs a b d => ?_⟩
      have kk := h3 ls H locs a b d
      simp only [List.map_cons] at kk ⊢
      have hE := Nat.eq_of_beq_eq_true hb
      subst hE
      rw [hV, hz0]
      rw [hV] at kk
      refine lv_ior X.1 X.2.1 hd ?_
      rw [z0_or]
      exact kk

end ZB
end
section
theorem zl_mod (k : Nat) : lN (k % 18446744073709551616) = lN k := by
  apply Int64.toBitVec_inj.mp
  apply BitVec.eq_of_toNat_eq
  show (BitVec.ofNat 64 _).toNat = (BitVec.ofNat 64 _).toNat
  rw [BitVec.toNat_ofNat, BitVec.toNat_ofNat]
  omega
theorem zml_v {sz : Nat} {sv : Nat → Value} {ev : Nat → Int32} (k : Nat) : zvd sz sv ev (zml k) = .long (lN k) := by
  have h4 : zml k % 8 = 4 := by show (8 * (k % 18446744073709551616) + 4) % 8 = 4; omega
  have h8 : zml k / 8 = k % 18446744073709551616 := by show (8 * (k % 18446744073709551616) + 4) / 8 = _; omega
  rw [zvd_4 h4, h8, zl_mod]
theorem zcat {sz : Nat} {sv : Nat → Value} {ev : Nat → Int32} (hs : zSv sv) {v : Nat} (h : cond (zisI v) true (zisA v) = true) : (zvd sz sv ev v).category = 1 := by
  have : v % 8 ≠ 4 ∧ v % 8 ≠ 6 := by
    cases hi : zisI v with
    | true => rcases zisI_eq hi with h | h <;> omega
    | false => rw [hi] at h; rcases zisA_eq h with h | h | h <;> omega
  exact zcat1 this.1 this.2 hs.cat

section ZB
variable {sz : Nat} {sv : Nat → Value} {ev : Nat → Int32} {cl : List vw_C} {ar : zAr} {D : va_G}
variable {p : Program} {l : Launch} {e : Env} {R : Room} {s : State} {m : MethodId} {args : Array Value} {below : List Frame} {meth : Method} {c : Code} {Q : State → Prop}
variable {gw : List Cond} {cc : ByteArray} {own : String} {nL n0 ns0 : Nat} {r : zOut} {pc : Nat}

theorem gI_lconst (X : zCtx sz sv cl ar D p R s m args c gw cc own nL n0 ns0 r) {i : Fin 2} {v : Nat} (hd : decode cc pc = .ok (.lconst i, 1)) (hv : v % 8 = 4) (he : Int64.ofNat (i : Nat) = lN (v / 8)) : zGd sz sv ev cl ar D p l e R s m args below meth c Q nL n0 ns0 r pc 1 (zPush v) :=
  gPush X fun ls H locs cells slots st k => lv_lconst X.1 X.2.1 hd he (by rw [zvd_4 hv] at k; exact k)

theorem gI_i2l (X : zCtx sz sv cl ar D p R s m args c gw cc own nL n0 ns0 r) (hd : decode cc pc = .ok (.i2l, 1)) : zGd sz sv ev cl ar D p l e R s m args below meth c Q nL n0 ns0 r pc 1 zI2l := by
  intro k j hk hj L st hp n ns hr
  obtain ⟨x, t, rfl, q1⟩ := zpop_some hr
  clear hr
  obtain ⟨hx, hr⟩ := zck_some q1
  obtain ⟨hb, hr⟩ := zck_some hr
  obtain ⟨h1, h2, h3⟩ := hk L _ hp n ns hr
  refine ⟨h1, h2, fun ls H locs a b d => ?_⟩
  have kk := h3 ls H locs a b d
  simp only [List.map_cons] at kk ⊢
  have hx31 : x / 8 < 2 ^ 31 := by
    have : x + 1 ≤ 17179869184 := Nat.le_of_ble_eq_true hb
    omega
  have hx8 : x % 8 = 0 := zt_eq hx
  rw [zvd_0 hx8]
  have e4 : (Nat.add x 4) % 8 = 4 := by show (x + 4) % 8 = 4; omega
  have e8 : (Nat.add x 4) / 8 = x / 8 := by show (x + 4) / 8 = _; omega
  rw [zvd_4 e4, e8] at kk
  exact lv_i2l X.1 X.2.1 hd (nI_l hx31) kk

theorem gI_ladd (X : zCtx sz sv cl ar D p R s m args c gw cc own nL n0 ns0 r) (hd : decode cc pc = .ok (.ladd, 1)) : zGd sz sv ev cl ar D p l e R s m args below meth c Q nL n0 ns0 r pc 1 (zLbin Nat.add) := by
  intro k j hk hj L st hp n ns hr
  obtain ⟨y, t, rfl, q1⟩ := zpop_some hr
  clear hr
  obtain ⟨x, t, rfl, hr⟩ := zpop_some q1
  clear q1
  obtain ⟨hx, hr⟩ := zck_some hr
  obtain ⟨hy, hr⟩ := zck_some hr
  obtain ⟨h1, h2, h3⟩ := hk L _ hp n ns hr
  refine ⟨h1, h2, fun ls H locs a b d => ?_⟩
  have kk := h3 ls H locs a b d
  simp only [List.map_cons] at kk ⊢
  rw [zvd_4 (zt_eq hx), zvd_4 (zt_eq hy)]
  rw [zml_v] at kk
  refine lv_ladd X.1 X.2.1 hd ?_
  rw [lN_add]
  exact kk

theorem gI_lmul (X : zCtx sz sv cl ar D p R s m args c gw cc own nL n0 ns0 r) (hd : decode cc pc = .ok (.lmul, 1)) : zGd sz sv ev cl ar D p l e R s m args below meth c Q nL n0 ns0 r pc 1 (zLbin Nat.mul) := by
  intro k j hk hj L st hp n ns hr
  obtain ⟨y, t, rfl, q1⟩ := zpop_some hr
  clear hr
  obtain ⟨x, t, rfl, hr⟩ := zpop_some q1
  clear q1
  obtain ⟨hx, hr⟩ := zck_some hr
  obtain ⟨hy, hr⟩ := zck_some hr
  obtain ⟨h1, h2, h3⟩ := hk L _ hp n ns hr
  refine ⟨h1, h2, fun ls H locs a b d => ?_⟩
  have kk := h3 ls H locs a b d
  simp only [List.map_cons] at kk ⊢
  rw [zvd_4 (zt_eq hx), zvd_4 (zt_eq hy)]
  rw [zml_v] at kk
  refine lv_lmul X.1 X.2.1 hd ?_
  rw [lN_mul]
  exact kk

theorem gI_lcmp (X : zCtx sz sv cl ar D p R s m args c gw cc own nL n0 ns0 r) (hd : decode cc pc = .ok (.lcmp, 1)) : zGd sz sv ev cl ar D p l e R s m args below meth c Q nL n0 ns0 r pc 1 zLcmp := by
  intro k j hk hj L st hp n ns hr
  obtain ⟨y, t, rfl, q1⟩ := zpop_some hr
  clear hr
  obtain ⟨x, t, rfl, hr⟩ := zpop_some q1
  clear q1
  obtain ⟨hx, hr⟩ := zck_some hr
  obtain ⟨hy, hr⟩ := zck_some hr
  obtain ⟨hbx, hr⟩ := zck_some hr
  obtain ⟨hby, hr⟩ := zck_some hr
  obtain ⟨h1, h2, h3⟩ := hk L _ hp n ns hr
  refine ⟨h1, h2, fun ls H locs a b d => ?_⟩
  have kk := h3 ls H locs a b d
  simp only [List.map_cons] at kk ⊢
  have hx4 := zt_eq hx
  have hy4 := zt_eq hy
  rw [zvd_4 hx4, zvd_4 hy4]
  have hx63 : x / 8 < 2 ^ 63 := by
    have : x + 1 ≤ 73786976294838206464 := Nat.le_of_ble_eq_true hbx
    omega
  have hy63 : y / 8 < 2 ^ 63 := by
    have : y + 1 ≤ 73786976294838206464 := Nat.le_of_ble_eq_true hby
    omega
  refine W.lcmp X.1 X.2.1 hd ?_
  have e : zvd sz sv ev (cond (Nat.blt y x) 8 (cond (Nat.beq x y) 0 34359738360)) = .int (lg_cmp (lN (x / 8)) (lN (y / 8))) := by
    unfold lg_cmp
    cases h1 : Nat.blt y x with
    | true =>
      have : y + 1 ≤ x := Nat.le_of_ble_eq_true h1
      rw [if_pos ((pk_lLT hy63 hx63).mpr (by omega)), cond_true, zvd_0 (by decide)]
      rfl
    | false =>
      have hn : ¬ y + 1 ≤ x := fun z => by
        have := Nat.ble_eq_true_of_le z
        rw [show Nat.ble (y + 1) x = Nat.blt y x from rfl, h1] at this; cases this
      rw [if_neg (fun z => hn (by have := (pk_lLT hy63 hx63).mp z; omega)), cond_false]
      cases h2 : Nat.beq x y with
      | true =>
        have hxy := Nat.eq_of_beq_eq_true h2
        rw [if_pos (by rw [hxy]), cond_true, zvd_0 (by decide)]
        rfl
      | false =>
        have hne : x ≠ y := Nat.ne_of_beq_eq_false h2
        rw [if_neg (fun z => hne (by have := (pk_lEQ hx63 hy63).mp z; omega)), cond_false, zvd_0 (by decide)]
        exact congrArg Value.int (by decide)
  rw [e] at kk
  exact kk

theorem zd7 {x : Nat} (h : x % 8 = 7) (d : Nat) : (Nat.add x (Nat.mul 8 d)) % 8 = 7 ∧ (Nat.add x (Nat.mul 8 d)) / 8 = x / 8 + d := by
  show (x + 8 * d) % 8 = 7 ∧ (x + 8 * d) / 8 = _
  omega

theorem gI_i2c {dr : Nat × Nat × Nat} (hD : zDer ev dr) (X : zCtx sz sv cl ar D p R s m args c gw cc own nL n0 ns0 r) (hd : decode cc pc = .ok (.i2c, 1)) : zGd sz sv ev cl ar D p l e R s m args below meth c Q nL n0 ns0 r pc 1 (zI2c dr.1) := by
  intro k j hk hj L st hp n ns hr
  obtain ⟨x, t, rfl, q1⟩ := zpop_some hr
  clear hr
  cases hx : zt x 0 with
  | true =>
    simp only [hx, cond_true] at q1
    obtain ⟨h1, h2, h3⟩ := hk L _ hp n ns q1
    refine ⟨h1, h2, fun ls H locs a b d => ?_⟩
    have kk := h3 ls H locs a b d
    simp only [List.map_cons] at kk ⊢
    rw [zvd_0 (zt_eq hx)]
    have e0 : (Nat.mul 8 (Nat.mod (Nat.div x 8) 65536)) % 8 = 0 := by show (8 * (x / 8 % 65536)) % 8 = 0; omega
    have e8 : (Nat.mul 8 (Nat.mod (Nat.div x 8) 65536)) / 8 = x / 8 % 65536 := by show (8 * (x / 8 % 65536)) / 8 = _; omega
    rw [zvd_0 e0, e8] at kk
    refine lv_i2c X.1 X.2.1 hd ?_ kk
    rw [pk_char, zi_tn]
    exact congrArg nI (by omega)
  | false =>
    simp only [hx, cond_false] at q1
    obtain ⟨h7, hr⟩ := zck_some q1
    obtain ⟨h1, h2, h3⟩ := hk L _ hp n ns hr
    refine ⟨h1, h2, fun ls H locs a b d => ?_⟩
    have kk := h3 ls H locs a b d
    simp only [List.map_cons] at kk ⊢
    obtain ⟨e1, e2⟩ := zd7 (zt_eq h7) dr.1
    rw [zvd_7 (zt_eq h7)]
    rw [zvd_7 e1, e2] at kk
    exact lv_i2c X.1 X.2.1 hd (hD _).1.symm kk

theorem zb8 : ∀ n, n < 128 → (nI n).toInt8.toInt32 = nI n := by decide +kernel
theorem gI_i2b {dr : Nat × Nat × Nat} (hD : zDer ev dr) (X : zCtx sz sv cl ar D p R s m args c gw cc own nL n0 ns0 r) (hd : decode cc pc = .ok (.i2b, 1)) : zGd sz sv ev cl ar D p l e R s m args below meth c Q nL n0 ns0 r pc 1 (zI2b dr.2.1) := by
  intro k j hk hj L st hp n ns hr
  obtain ⟨x, t, rfl, q1⟩ := zpop_some hr
  clear hr
  cases hx : zt x 0 with
  | true =>
    simp only [hx, cond_true] at q1
    obtain ⟨hb, q1⟩ := zck_some q1
    obtain ⟨h1, h2, h3⟩ := hk L _ hp n ns q1
    refine ⟨h1, h2, fun ls H locs a b d => ?_⟩
    have kk := h3 ls H locs a b d
    simp only [List.map_cons] at kk ⊢
    rw [zvd_0 (zt_eq hx)] at kk ⊢
    have : x + 1 ≤ 1024 := Nat.le_of_ble_eq_true hb
    exact lv_i2b X.1 X.2.1 hd (zb8 _ (by omega)) kk
  | false =>
    simp only [hx, cond_false] at q1
    obtain ⟨h7, hr⟩ := zck_some q1
    obtain ⟨h1, h2, h3⟩ := hk L _ hp n ns hr
    refine ⟨h1, h2, fun ls H locs a b d => ?_⟩
    have kk := h3 ls H locs a b d
    simp only [List.map_cons] at kk ⊢
    obtain ⟨e1, e2⟩ := zd7 (zt_eq h7) dr.2.1
    rw [zvd_7 (zt_eq h7)]
    rw [zvd_7 e1, e2] at kk
    exact lv_i2b X.1 X.2.1 hd (hD _).2.1.symm kk

theorem gI_iushrS {dr : Nat × Nat × Nat} (hD : zDer ev dr) (X : zCtx sz sv cl ar D p R s m args c gw cc own nL n0 ns0 r) (hd : decode cc pc = .ok (.iushr, 1)) : zGd sz sv ev cl ar D p l e R s m args below meth c Q nL n0 ns0 r pc 1 (zUshS dr.2.2) := by
  intro k j hk hj L st hp n ns hr
  obtain ⟨y, t, rfl, q1⟩ := zpop_some hr
  clear hr
  obtain ⟨x, t, rfl, hr⟩ := zpop_some q1
  clear q1
  cases hc : cond (zt x 0) (zt y 0) false with
  | true =>
    have hxy : zt x 0 = true ∧ zt y 0 = true := by
      cases hx : zt x 0 <;> rw [hx] at hc
      · cases hc
      · exact ⟨rfl, hc⟩
    simp only [hc, cond_true] at hr
    obtain ⟨h1, h2, h3⟩ := hk L _ hp n ns hr
    refine ⟨h1, h2, fun ls H locs a b d => ?_⟩
    have kk := h3 ls H locs a b d
    simp only [List.map_cons] at kk ⊢
    rw [zvd_0 (zt_eq hxy.1), zvd_0 (zt_eq hxy.2)]
    rw [zmk_v] at kk
    exact lv_iushr X.1 X.2.1 hd (zi_ushr _ _) kk
  | false =>
    simp only [hc, cond_false] at hr
    obtain ⟨h7, hr⟩ := zck_some hr
    obtain ⟨hb, hr⟩ := zck_some hr
    obtain ⟨h1, h2, h3⟩ := hk L _ hp n ns hr
    refine ⟨h1, h2, fun ls H locs a b d => ?_⟩
    have kk := h3 ls H locs a b d
    simp only [List.map_cons] at kk ⊢
    have hE := Nat.eq_of_beq_eq_true hb
    subst hE
    obtain ⟨e1, e2⟩ := zd7 (zt_eq h7) dr.2.2
    rw [zvd_7 (zt_eq h7), zvd_0 (v := 64) (by decide)]
    rw [zvd_7 e1, e2] at kk
    exact lv_iushr X.1 X.2.1 hd (hD _).2.2.symm kk

theorem zsw_some {lo hi d : Nat} {k : Nat → zR} {r : zOut} {x : Int32} {pc : Nat} {dd : Int} (hlo : lo ≤ zbi x) (hhi : zbi x ≤ hi) (hd : (pc : Int) + dd = (d : Int)) : ∀ (ps : List (Int × Int)) (tb : List (Nat × Nat)), (∀ q ∈ ps, -2147483648 ≤ q.1) → (∀ q ∈ ps, 0 ≤ (pc : Int) + q.2) → ps.map (fun q => ((q.1 + 2147483648).toNat, ((pc : Int) + q.2).toNat)) = tb → zsw lo hi d tb k = some r →
    ∃ tg : Nat, (pc : Int) + Op.lookupswitch.offset ps dd x.toInt = (tg : Int) ∧ k tg = some r
  | [], tb, _, _, h, hr => by
    subst h
    exact ⟨d, hd, hr⟩
  | q :: ps, tb, h1, h2, h, hr => by
    subst h
    have ih := zsw_some (k := k) (r := r) hlo hhi hd ps _ (fun q hq => h1 q (List.mem_cons_of_mem _ hq)) (fun q hq => h2 q (List.mem_cons_of_mem _ hq)) rfl
    have hx := x.minValue_le_toInt
    have e : (Int32.minValue).toInt = -2147483648 := by decide
    rw [e] at hx
    have hq := h1 q List.mem_cons_self
    have hr' : cond (Nat.blt hi (q.1 + 2147483648).toNat) (zsw lo hi d (ps.map (fun q => ((q.1 + 2147483648).toNat, ((pc : Int) + q.2).toNat))) k) (cond (Nat.blt (q.1 + 2147483648).toNat lo) (zsw lo hi d (ps.map (fun q => ((q.1 + 2147483648).toNat, ((pc : Int) + q.2).toNat))) k) (zck (Nat.beq lo hi) (k ((pc : Int) + q.2).toNat))) = some r := hr
    rw [Op.lookupswitch.offset_cons q.1 q.2]
    cases hb : Nat.blt hi (q.1 + 2147483648).toNat with
    | true =>
      rw [hb] at hr'
      have : hi + 1 ≤ (q.1 + 2147483648).toNat := Nat.le_of_ble_eq_true hb
      rw [if_neg (fun z => by unfold zbi at hhi; omega)]
      exact ih hr'
    | false =>
      rw [hb] at hr'
      cases hb2 : Nat.blt (q.1 + 2147483648).toNat lo with
      | true =>
        rw [hb2] at hr'
        have : (q.1 + 2147483648).toNat + 1 ≤ lo := Nat.le_of_ble_eq_true hb2
        rw [if_neg (fun z => by unfold zbi at hlo; omega)]
        exact ih hr'
      | false =>
        rw [hb2] at hr'
        obtain ⟨g, hr2⟩ := zck_some hr'
        have g' := Nat.eq_of_beq_eq_true g
        have n1 : ¬ hi + 1 ≤ (q.1 + 2147483648).toNat := fun z => by
          have := Nat.ble_eq_true_of_le z
          rw [show Nat.ble (hi + 1) (q.1 + 2147483648).toNat = Nat.blt hi (q.1 + 2147483648).toNat from rfl, hb] at this; cases this
        have n2 : ¬ (q.1 + 2147483648).toNat + 1 ≤ lo := fun z => by
          have := Nat.ble_eq_true_of_le z
          rw [show Nat.ble ((q.1 + 2147483648).toNat + 1) lo = Nat.blt (q.1 + 2147483648).toNat lo from rfl, hb2] at this; cases this
        rw [if_pos (by unfold zbi at hlo hhi; omega)]
        exact ⟨_, by have := h2 q List.mem_cons_self; omega, hr2⟩

theorem gI_lookup {iv : Nat → Nat × Nat} (hv : zIv ev iv) (X : zCtx sz sv cl ar D p R s m args c gw cc own nL n0 ns0 r) {dd : Int} {ps : Array (Int × Int)} {len d : Nat} {tb : List (Nat × Nat)} (hd : decode cc pc = .ok (.lookupswitch dd ps, len)) (hs : (ps.toList.zip (ps.toList.drop 1)).all (fun (a, next) => a.1 < next.1) = true)
    (h1 : ∀ q ∈ ps.toList, -2147483648 ≤ q.1) (h2 : ∀ q ∈ ps.toList, 0 ≤ (pc : Int) + q.2) (h3 : ps.toList.map (fun q => ((q.1 + 2147483648).toNat, ((pc : Int) + q.2).toNat)) = tb) (h4 : (pc : Int) + dd = (d : Int)) : zGd sz sv ev cl ar D p l e R s m args below meth c Q nL n0 ns0 r pc len (zSw iv d tb) := by
  intro k j hk hj L st hp n ns hr
  obtain ⟨x, t, rfl, q1⟩ := zpop_some hr
  clear hr
  obtain ⟨hx, hr⟩ := zck_some q1
  obtain ⟨U, e1, l1, u1⟩ := zlohi (sz := sz) (sv := sv) hv hx
  obtain ⟨tg, ht, hr⟩ := zsw_some l1 u1 h4 ps.toList tb h1 h2 h3 hr
  obtain ⟨g1, g2, g3⟩ := hj tg L _ hp n ns hr
  refine ⟨g1, g2, fun ls H locs a b d' => ?_⟩
  have kk := g3 ls H locs a b d'
  simp only [List.map_cons]
  rw [e1]
  exact lv_lookup X.1 X.2.1 hd hs rfl ht kk

theorem znth_eq (d : Nat) : ∀ (tb : List Nat) (i : Nat), znth i d tb = tb.getD i d
  | [], i => by simp [znth]
  | q :: t, 0 => rfl
  | q :: t, i + 1 => by
    have ih := znth_eq d t i
    show cond (Nat.beq (i + 1) 0) q (znth i d t) = _
    rw [ih, show Nat.beq (i + 1) 0 = false from rfl]
    simp
theorem gI_table (X : zCtx sz sv cl ar D p R s m args c gw cc own nL n0 ns0 r) {dd : Int} {hi : Int} {of : Array Int} {len d : Nat} {tb : List Nat} (hd : decode cc pc = .ok (.tableswitch dd 0 hi of, len)) (hh : hi + 1 = (tb.length : Int)) (hl : hi < 2147483647) (h2 : of.toList.map (fun q => ((pc : Int) + q).toNat) = tb) (h3 : ∀ q ∈ of.toList, 0 ≤ (pc : Int) + q) (h4 : (pc : Int) + dd = (d : Int)) : zGd sz sv ev cl ar D p l e R s m args below meth c Q nL n0 ns0 r pc len (zTs d tb) := by
  intro k j hk hj L st hp n ns hr
  obtain ⟨x, t, rfl, q1⟩ := zpop_some hr
  clear hr
  obtain ⟨hx, hr⟩ := zck_some q1
  obtain ⟨hb, hr⟩ := zck_some hr
  obtain ⟨g1, g2, g3⟩ := hj _ L _ hp n ns hr
  refine ⟨g1, g2, fun ls H locs a b d' => ?_⟩
  have kk := g3 ls H locs a b d'
  simp only [List.map_cons]
  rw [zvd_0 (zt_eq hx)]
  have hx31 : x / 8 < 2 ^ 31 := by
    have : x + 1 ≤ 17179869184 := Nat.le_of_ble_eq_true hb
    omega
  rw [show Nat.div x 8 = x / 8 from rfl, znth_eq] at kk
  have hti := nI_toInt hx31
  by_cases hlt : x / 8 < tb.length
  · have hlt' : x / 8 < of.toList.length := by rw [← h2] at hlt; simpa using hlt
    refine lv_tableIn X.1 X.2.1 hd (by rw [hti]; omega) (by rw [hti]; omega) (off := of.toList[x / 8]) ?_ (tgt := ((pc : Int) + of.toList[x / 8]).toNat) ?_ ?_
    · rw [hti]
      have : ((x / 8 : Nat) - 0 : Int).toNat = x / 8 := by omega
      rw [this, ← Array.getElem?_toList]
      exact List.getElem?_eq_getElem hlt'
    · have := h3 _ (List.getElem_mem hlt')
      omega
    · have e : tb.getD (x / 8) d = ((pc : Int) + of.toList[x / 8]).toNat := by
        subst h2
        rw [List.getD_eq_getElem?_getD, List.getElem?_map, List.getElem?_eq_getElem hlt']
        rfl
      rw [e] at kk
      exact kk
  · rw [List.getD_eq_getElem?_getD, List.getElem?_eq_none (by omega)] at kk
    exact lv_tableOut X.1 X.2.1 hd (Or.inr (by rw [hti]; omega)) h4 kk

theorem gI_dup (hs : zSv sv) (X : zCtx sz sv cl ar D p R s m args c gw cc own nL n0 ns0 r) (hd : decode cc pc = .ok (.dup, 1)) : zGd sz sv ev cl ar D p l e R s m args below meth c Q nL n0 ns0 r pc 1 zDup := by
  intro k j hk hj L st hp n ns hr
  obtain ⟨x, t, rfl, q1⟩ := zpop_some hr
  clear hr
  obtain ⟨hx, hr⟩ := zck_some q1
  obtain ⟨h1, h2, h3⟩ := hk L _ hp n ns hr
  refine ⟨h1, h2, fun ls H locs a b d => ?_⟩
  have kk := h3 ls H locs a b d
  simp only [List.map_cons] at kk ⊢
  exact lv_dup X.1 X.2.1 hd (zcat hs hx) kk
theorem gI_pop (hs : zSv sv) (X : zCtx sz sv cl ar D p R s m args c gw cc own nL n0 ns0 r) (hd : decode cc pc = .ok (.pop, 1)) : zGd sz sv ev cl ar D p l e R s m args below meth c Q nL n0 ns0 r pc 1 zPop := by
  intro k j hk hj L st hp n ns hr
  obtain ⟨x, t, rfl, q1⟩ := zpop_some hr
  clear hr
  obtain ⟨hx, hr⟩ := zck_some q1
  obtain ⟨h1, h2, h3⟩ := hk L _ hp n ns hr
  refine ⟨h1, h2, fun ls H locs a b d => ?_⟩
  have kk := h3 ls H locs a b d
  simp only [List.map_cons] at kk ⊢
  exact lv_pop X.1 X.2.1 hd (zcat hs hx) kk

theorem gI_dup_x1 (hs : zSv sv) (X : zCtx sz sv cl ar D p R s m args c gw cc own nL n0 ns0 r) (hd : decode cc pc = .ok (.dup_x1, 1)) : zGd sz sv ev cl ar D p l e R s m args below meth c Q nL n0 ns0 r pc 1 zDupX1 := by
  intro k j hk hj L st hp n ns hr
  obtain ⟨y, t, rfl, q1⟩ := zpop_some hr
  clear hr
  obtain ⟨x, t, rfl, hr⟩ := zpop_some q1
  clear q1
  obtain ⟨hx, hr⟩ := zck_some hr
  obtain ⟨hy, hr⟩ := zck_some hr
  obtain ⟨h1, h2, h3⟩ := hk L _ hp n ns hr
  refine ⟨h1, h2, fun ls H locs a b d => ?_⟩
  have kk := h3 ls H locs a b d
  simp only [List.map_cons] at kk ⊢
  exact lv_dup_x1 X.1 X.2.1 hd (zcat hs hx) (zcat hs hy) kk

theorem gI_dup2 (hs : zSv sv) (X : zCtx sz sv cl ar D p R s m args c gw cc own nL n0 ns0 r) (hd : decode cc pc = .ok (.dup2, 1)) : zGd sz sv ev cl ar D p l e R s m args below meth c Q nL n0 ns0 r pc 1 zDup2 := by
  intro k j hk hj L st hp n ns hr
  obtain ⟨y, t, rfl, q1⟩ := zpop_some hr
  clear hr
  obtain ⟨x, t, rfl, hr⟩ := zpop_some q1
  clear q1
  obtain ⟨hx, hr⟩ := zck_some hr
  obtain ⟨hy, hr⟩ := zck_some hr
  obtain ⟨h1, h2, h3⟩ := hk L _ hp n ns hr
  refine ⟨h1, h2, fun ls H locs a b d => ?_⟩
  have kk := h3 ls H locs a b d
  simp only [List.map_cons] at kk ⊢
  exact lv_dup2_11 X.1 X.2.1 hd (zcat hs hx) (zcat hs hy) kk

theorem gI_ifnull (X : zCtx sz sv cl ar D p R s m args c gw cc own nL n0 ns0 r) {off : Int} {tg : Nat} (hd : decode cc pc = .ok (.ifnull off, 3)) (ht : (pc : Int) + off = (tg : Int)) : zGd sz sv ev cl ar D p l e R s m args below meth c Q nL n0 ns0 r pc 3 (zJnul false tg) := by
  intro k j hk hj L st hp n ns hr
  obtain ⟨x, t, rfl, q1⟩ := zpop_some hr
  clear hr
  cases h3' : zt x 3 with
  | true =>
    simp only [h3', cond_true, cond_false] at q1
    obtain ⟨h1, h2, h3⟩ := hj tg L _ hp n ns q1
    refine ⟨h1, h2, fun ls H locs a b d => ?_⟩
    have kk := h3 ls H locs a b d
    simp only [List.map_cons]
    rw [zvd_3 (zt_eq h3')]
    exact lv_ifnullN X.1 X.2.1 hd ht kk
  | false =>
    simp only [h3', cond_false, cond_true] at q1
    obtain ⟨hx, hr⟩ := zck_some q1
    obtain ⟨h1, h2, h3⟩ := hk L _ hp n ns hr
    refine ⟨h1, h2, fun ls H locs a b d => ?_⟩
    have kk := h3 ls H locs a b d
    simp only [List.map_cons]
    rw [zvd_1 (zt_eq hx)]
    exact lv_ifnull X.1 X.2.1 hd kk

theorem gI_ifnonnull (X : zCtx sz sv cl ar D p R s m args c gw cc own nL n0 ns0 r) {off : Int} {tg : Nat} (hd : decode cc pc = .ok (.ifnonnull off, 3)) (ht : (pc : Int) + off = (tg : Int)) : zGd sz sv ev cl ar D p l e R s m args below meth c Q nL n0 ns0 r pc 3 (zJnul true tg) := by
  intro k j hk hj L st hp n ns hr
  obtain ⟨x, t, rfl, q1⟩ := zpop_some hr
  clear hr
  cases h3' : zt x 3 with
  | true =>
    simp only [h3', cond_true, cond_false] at q1
    obtain ⟨h1, h2, h3⟩ := hk L _ hp n ns q1
    refine ⟨h1, h2, fun ls H locs a b d => ?_⟩
    have kk := h3 ls H locs a b d
    simp only [List.map_cons]
    rw [zvd_3 (zt_eq h3')]
    exact lv_ifnonnullN X.1 X.2.1 hd kk
  | false =>
    simp only [h3', cond_false, cond_true] at q1
    obtain ⟨hx, hr⟩ := zck_some q1
    obtain ⟨h1, h2, h3⟩ := hj tg L _ hp n ns hr
    refine ⟨h1, h2, fun ls H locs a b d => ?_⟩
    have kk := h3 ls H locs a b d
    simp only [List.map_cons]
    rw [zvd_1 (zt_eq hx)]
    exact lv_ifnonnull X.1 X.2.1 hd ht kk

/-- what a method that ends well leaves -/
def zPost (sz : Nat) (sv : Nat → Value) (ev : Nat → Int32) (cl : List vw_C) (ar : zAr) (D : va_G) (r : zOut) (st t : State) : Prop :=
  va_P D cl (zren sz sv ev cl ar r.2.2.1) t.heap ∧ zwf r.2.2.2.1 r.2.2.1 ∧ t.heap.size = sz + r.2.2.2.1 ∧ ∀ q, q < sz → t.heap[q]? = st.heap[q]?
def zov (sz : Nat) (sv : Nat → Value) (ev : Nat → Int32) (r : zOut) : Option Value := if r.1 = 0 then none else some (zvd sz sv ev r.2.1)
def zQc (sz : Nat) (sv : Nat → Value) (ev : Nat → Int32) (cl : List vw_C) (ar : zAr) (D : va_G) (r : zOut) : Array Value → State → Outcome → State → Prop := fun _ st o t => o = .returned (zov sz sv ev r) ∧ zPost sz sv ev cl ar D r st t
/-- what a frame owes at a good end -/
def zOwe (sz : Nat) (sv : Nat → Value) (ev : Nat → Int32) (cl : List vw_C) (ar : zAr) (D : va_G) (p : Program) (l : Launch) (e : Env) (R : Room) (s : State) (m : MethodId) (args : Array Value) (below : List Frame) (meth : Method) (c : Code) (Q : State → Prop) (n0 ns0 : Nat) (r : zOut) : Prop :=
  ∀ H locs g, W p l e R s m args below meth c H locs (r.2.2.2.1 - n0) (r.2.2.2.2 - ns0) (MQ below (zQc sz sv ev cl ar D r) args s (r.2.2.2.1 - n0) (r.2.2.2.2 - ns0) (zA sz)) g → W p l e R s m args below meth c H locs (r.2.2.2.1 - n0) (r.2.2.2.2 - ns0) Q g
theorem zInv_post {n : Nat} {H : Heap} {locs : List Loc} {hp : zHp} {k v ns n0 : Nat} (hs : s.heap.size = sz + n0) (b : zInv sz sv ev cl ar D s hp n H locs) {t : State} (ht : t.heap = H) : zPost sz sv ev cl ar D (k, v, hp, n, ns) s t := by
  subst ht
  exact ⟨b.1, b.2.1, b.2.2.1, fun q hq => b.2.2.2.2.1 q (by omega) (fun z => by have : sz ≤ q := z; omega)⟩

theorem gI_return (X : zCtx sz sv cl ar D p R s m args c gw cc own nL n0 ns0 r) (hO : zOwe sz sv ev cl ar D p l e R s m args below meth c Q n0 ns0 r) (hlk : meth.locks = false) (hret : meth.sig.returnType = none) (hd : decode cc pc = .ok (.return_, 1)) : zGd sz sv ev cl ar D p l e R s m args below meth c Q nL n0 ns0 r pc 1 zRet0 := by
  intro k j hk hj L st hp n ns hr
  cases st with
  | cons v t => cases hr
  | nil =>
    have e : r = (0, 0, hp, n, ns) := (Option.some.inj hr).symm
    subst e
    refine ⟨Nat.le_refl _, Nat.le_refl _, fun ls H locs a b d => hO _ _ _ ?_⟩
    exact W.vret X.1 X.2.1 hret (fun t ht _ => ⟨rfl, zInv_post X.2.2.2.2.2.2.1 b ht⟩) (fun q hq => b.2.2.2.2.2 q hq) hd hlk
theorem gI_ireturn {ok : Nat → Bool} {ty : FieldType} (hok : ∀ v, ok v = true → ∃ x, zvd sz sv ev v = .int x ∧ narrow ty (.int x) = .int x) (X : zCtx sz sv cl ar D p R s m args c gw cc own nL n0 ns0 r) (hO : zOwe sz sv ev cl ar D p l e R s m args below meth c Q n0 ns0 r) (hlk : meth.locks = false) (hret : meth.sig.returnType = some ty) (hd : decode cc pc = .ok (.ireturn, 1)) : zGd sz sv ev cl ar D p l e R s m args below meth c Q nL n0 ns0 r pc 1 (zRetV ok) := by
  intro k j hk hj L st hp n ns hr
  obtain ⟨v, t, rfl, q1⟩ := zpop_some hr
  clear hr
  obtain ⟨hv, hr⟩ := zck_some q1
  cases t with
  | cons v t => cases hr
  | nil =>
    have e : r = (1, v, hp, n, ns) := (Option.some.inj hr).symm
    subst e
    obtain ⟨x, hx, hnx⟩ := hok v hv
    refine ⟨Nat.le_refl _, Nat.le_refl _, fun ls H locs a b d => hO _ _ _ ?_⟩
    simp only [List.map_cons, List.map_nil]
    rw [hx]
    exact W.zret X.1 X.2.1 hret hnx (fun t ht _ => ⟨by show _ = Outcome.returned (some (zvd sz sv ev v)); rw [hx], zInv_post X.2.2.2.2.2.2.1 b ht⟩) (fun q hq => b.2.2.2.2.2 q hq) hd hlk
theorem gI_areturn (hs : zSv sv) {rt : FieldType} (X : zCtx sz sv cl ar D p R s m args c gw cc own nL n0 ns0 r) (hO : zOwe sz sv ev cl ar D p l e R s m args below meth c Q n0 ns0 r) (hlk : meth.locks = false) (hret : meth.sig.returnType = some rt) (hrt : (∃ n, rt = .object n) ∨ ∃ t, rt = .array t) (hd : decode cc pc = .ok (.areturn, 1)) : zGd sz sv ev cl ar D p l e R s m args below meth c Q nL n0 ns0 r pc 1 (zRetV zisA) := by
  intro k j hk hj L st hp n ns hr
  obtain ⟨v, t, rfl, q1⟩ := zpop_some hr
  clear hr
  obtain ⟨hv, hr⟩ := zck_some q1
  cases t with
  | cons v t => cases hr
  | nil =>
    have e : r = (1, v, hp, n, ns) := (Option.some.inj hr).symm
    subst e
    refine ⟨Nat.le_refl _, Nat.le_refl _, fun ls H locs a b d => hO _ _ _ ?_⟩
    exact W.aret X.1 X.2.1 hret hrt (zA_ref hs hv) (fun t ht _ => ⟨rfl, zInv_post X.2.2.2.2.2.2.1 b ht⟩) (fun q hq => b.2.2.2.2.2 q hq) hd hlk

theorem gI_lreturn (X : zCtx sz sv cl ar D p R s m args c gw cc own nL n0 ns0 r) (hO : zOwe sz sv ev cl ar D p l e R s m args below meth c Q n0 ns0 r) (hlk : meth.locks = false) (hret : meth.sig.returnType = some .long) (hd : decode cc pc = .ok (.lreturn, 1)) : zGd sz sv ev cl ar D p l e R s m args below meth c Q nL n0 ns0 r pc 1 (zRetV (fun v => zt v 4)) := by
  intro k j hk hj L st hp n ns hr
  obtain ⟨v, t, rfl, q1⟩ := zpop_some hr
  clear hr
  obtain ⟨hv, hr⟩ := zck_some q1
  cases t with
  | cons v t => cases hr
  | nil =>
    have e : r = (1, v, hp, n, ns) := (Option.some.inj hr).symm
    subst e
    refine ⟨Nat.le_refl _, Nat.le_refl _, fun ls H locs a b d => hO _ _ _ ?_⟩
    simp only [List.map_cons, List.map_nil]
    rw [zvd_4 (zt_eq hv)]
    exact W.lret X.1 X.2.1 hret (fun t ht _ => ⟨by show _ = Outcome.returned (some (zvd sz sv ev v)); rw [zvd_4 (zt_eq hv)], zInv_post X.2.2.2.2.2.2.1 b ht⟩) (fun q hq => b.2.2.2.2.2 q hq) hd hlk

theorem gI_freturn (X : zCtx sz sv cl ar D p R s m args c gw cc own nL n0 ns0 r) (hO : zOwe sz sv ev cl ar D p l e R s m args below meth c Q n0 ns0 r) (hlk : meth.locks = false) (hret : meth.sig.returnType = some .float) (hd : decode cc pc = .ok (.freturn, 1)) : zGd sz sv ev cl ar D p l e R s m args below meth c Q nL n0 ns0 r pc 1 (zRetV (fun v => zt v 5)) := by
  intro k j hk hj L st hp n ns hr
  obtain ⟨v, t, rfl, q1⟩ := zpop_some hr
  clear hr
  obtain ⟨hv, hr⟩ := zck_some q1
  cases t with
  | cons v t => cases hr
  | nil =>
    have e : r = (1, v, hp, n, ns) := (Option.some.inj hr).symm
    subst e
    refine ⟨Nat.le_refl _, Nat.le_refl _, fun ls H locs a b d => hO _ _ _ ?_⟩
    simp only [List.map_cons, List.map_nil]
    rw [zvd_5 (zt_eq hv)]
    exact W.fret X.1 X.2.1 hret (fun t ht _ => ⟨by show _ = Outcome.returned (some (zvd sz sv ev v)); rw [zvd_5 (zt_eq hv)], zInv_post X.2.2.2.2.2.2.1 b ht⟩) (fun q hq => b.2.2.2.2.2 q hq) hd hlk

theorem gI_dreturn (X : zCtx sz sv cl ar D p R s m args c gw cc own nL n0 ns0 r) (hO : zOwe sz sv ev cl ar D p l e R s m args below meth c Q n0 ns0 r) (hlk : meth.locks = false) (hret : meth.sig.returnType = some .double) (hd : decode cc pc = .ok (.dreturn, 1)) : zGd sz sv ev cl ar D p l e R s m args below meth c Q nL n0 ns0 r pc 1 (zRetV (fun v => zt v 6)) := by
  intro k j hk hj L st hp n ns hr
  obtain ⟨v, t, rfl, q1⟩ := zpop_some hr
  clear hr
  obtain ⟨hv, hr⟩ := zck_some q1
  cases t with
  | cons v t => cases hr
  | nil =>
    have e : r = (1, v, hp, n, ns) := (Option.some.inj hr).symm
    subst e
    refine ⟨Nat.le_refl _, Nat.le_refl _, fun ls H locs a b d => hO _ _ _ ?_⟩
    simp only [List.map_cons, List.map_nil]
    rw [zvd_6 (zt_eq hv)]
    exact W.dret X.1 X.2.1 hret (fun t ht _ => ⟨by show _ = Outcome.returned (some (zvd sz sv ev v)); rw [zvd_6 (zt_eq hv)], zInv_post X.2.2.2.2.2.2.1 b ht⟩) (fun q hq => b.2.2.2.2.2 q hq) hd hlk

end ZB
end
section
/-! cells: fields, rows, makings -/
noncomputable def zfN (x : Nat) (k : Nat → zR) : zR := Nat.rec (motive := fun _ => zR) (k 0) (fun n _ => k (Nat.succ n)) x
theorem zfN_eq (x : Nat) (k : Nat → zR) : zfN x k = k x := by cases x <;> rfl
noncomputable def zfind (id : Nat) (hp : zHp) (k : zC → zR) : zR := List.rec (motive := fun _ => zR) none (fun c _ ih => cond (Nat.beq c.1 id) (k c) ih) hp
theorem zfind_some {id : Nat} {k : zC → zR} {o : zOut} : ∀ {hp : zHp}, zfind id hp k = some o → ∃ (i : Nat) (c : zC), hp[i]? = some c ∧ c.1 = id ∧ k c = some o
  | [], h => nomatch h
  | c :: t, h => by
    have h' : cond (Nat.beq c.1 id) (k c) (zfind id t k) = some o := h
    cases hb : Nat.beq c.1 id with
    | true => rw [hb] at h'; exact ⟨0, c, rfl, Nat.eq_of_beq_eq_true hb, h'⟩
    | false =>
      rw [hb] at h'
      obtain ⟨i, c', h1, h2, h3⟩ := zfind_some h'
      exact ⟨i + 1, c', by simpa using h1, h2, h3⟩
noncomputable def zupd (id : Nat) (ck : zC → Bool) (f : zC → Nat) (hp : zHp) : (zHp → zR) → zR := List.rec (motive := fun _ => (zHp → zR) → zR) (fun _ => none) (fun c t ih k => cond (Nat.beq c.1 id) (zck (ck c) (zfN (f c) fun v => k ((c.1, c.2.1, c.2.2.1, v) :: t))) (ih fun t' => k (c :: t'))) hp
theorem zupd_some {id : Nat} {ck : zC → Bool} {f : zC → Nat} {o : zOut} : ∀ {hp : zHp} {k : zHp → zR}, zupd id ck f hp k = some o → ∃ (i : Nat) (c : zC), hp[i]? = some c ∧ c.1 = id ∧ ck c = true ∧ k (hp.set i (c.1, c.2.1, c.2.2.1, f c)) = some o
  | [], _, h => nomatch h
  | c :: t, k, h => by
    have h' : cond (Nat.beq c.1 id) (zck (ck c) (zfN (f c) fun v => k ((c.1, c.2.1, c.2.2.1, v) :: t))) (zupd id ck f t fun t' => k (c :: t')) = some o := h
    cases hb : Nat.beq c.1 id with
    | true =>
      rw [hb] at h'
      obtain ⟨h1, h2⟩ := zck_some h'
      rw [zfN_eq] at h2
      exact ⟨0, c, rfl, Nat.eq_of_beq_eq_true hb, h1, h2⟩
    | false =>
      rw [hb] at h'
      obtain ⟨i, c', h1, h2, h3, h4⟩ := zupd_some h'
      exact ⟨i + 1, c', by simpa using h1, h2, h3, h4⟩
theorem zwf_set : ∀ {hp : zHp} {n i : Nat} {c c' : zC}, zwf n hp → hp[i]? = some c → c'.1 = c.1 → zwf n (hp.set i c')
  | [], _, _, _, _, _, h, _ => by simp at h
  | x :: t, n, 0, c, c', w, h, e => by
    simp at h; subst h
    exact ⟨by rw [e]; exact w.1, by rw [e]; exact w.2⟩
  | x :: t, n, i + 1, c, c', w, h, e => ⟨w.1, zwf_set w.2 (by simpa using h) e⟩
/-- a default's code -/
def zdv (t : FieldType) : Nat := match t with | .long => 4 | .float => 5 | .double => 6 | .object _ => 3 | .array _ => 3 | _ => 0
theorem zdv_eq {sz : Nat} {sv : Nat → Value} {ev : Nat → Int32} (t : FieldType) : zvd sz sv ev (zdv t) = defaultValue t := by
  cases t <;> rfl
noncomputable def zGetf (ci kk : Nat) : zI := fun k _ L st hp n ns => zpop st fun a t => zck (zt a 1) (zfind (Nat.div a 8) hp fun c => zck (Nat.beq c.2.1 ci) (k L (zg c.2.2.2 kk :: t) hp n ns))
noncomputable def zPutf (ok : Nat → Bool) (ci kk : Nat) : zI := fun k _ L st hp n ns => zpop st fun v t => zpop t fun a t => zck (ok v) (zck (Nat.blt v 4722366482869645213696) (zck (zt a 1) (zupd (Nat.div a 8) (fun c => Nat.beq c.2.1 ci) (fun c => zs c.2.2.2 kk v) hp fun hp => k L t hp n ns)))
noncomputable def zAld (ok : Nat → Bool) (kd x : Nat) : zI := fun k _ L st hp n ns => zpop st fun i t => zpop t fun a t => zck (zt i 0) (zck (Nat.blt i 17179869184) (zck (zt a 1) (zfind (Nat.div a 8) hp fun c => zck (Nat.beq c.2.1 kd) (zck (Nat.blt (Nat.div i 8) c.2.2.1) (zck (ok (Nat.xor (zg c.2.2.2 (Nat.div i 8)) x)) (k L (Nat.xor (zg c.2.2.2 (Nat.div i 8)) x :: t) hp n ns))))))
noncomputable def zAst (ok : Nat → Bool) (kd x : Nat) : zI := fun k _ L st hp n ns => zpop st fun v t => zpop t fun i t => zpop t fun a t => zck (ok v) (zck (Nat.blt (Nat.xor v x) 4722366482869645213696) (zck (zt i 0) (zck (Nat.blt i 17179869184) (zck (zt a 1) (zupd (Nat.div a 8) (fun c => cond (Nat.beq c.2.1 kd) (Nat.blt (Nat.div i 8) c.2.2.1) false) (fun c => zs c.2.2.2 (Nat.div i 8) (Nat.xor v x)) hp fun hp => k L t hp n ns)))))
noncomputable def zAlen : zI := fun k _ L st hp n ns => zpop st fun a t => zck (zt a 1) (zfind (Nat.div a 8) hp fun c => zck (Nat.blt 63 c.2.1) (zck (Nat.blt c.2.1 69) (k L (Nat.mul 8 c.2.2.1 :: t) hp n ns)))
noncomputable def zNew (ci nf df : Nat) : zI := fun k _ L st hp n ns => k L (Nat.add (Nat.mul 8 n) 1 :: st) ((n, ci, 0, df) :: hp) (Nat.succ n) (Nat.add ns nf)
noncomputable def zNewA (kd : Nat) : zI := fun k _ L st hp n ns => zpop st fun x t => zck (zt x 0) (zck (Nat.blt x 240000000) (k L (Nat.add (Nat.mul 8 n) 1 :: t) ((n, kd, Nat.div x 8, 0) :: hp) (Nat.succ n) (Nat.add ns (Nat.div x 8))))
noncomputable def zCastA (kd : Nat) : zI := fun k _ L st hp n ns => zpop st fun a t => zck (zt a 1) (zfind (Nat.div a 8) hp fun c => zck (Nat.beq c.2.1 kd) (k L (a :: t) hp n ns))

section ZB
variable {sz : Nat} {sv : Nat → Value} {ev : Nat → Int32} {cl : List vw_C} {ar : zAr} {D : va_G}
variable {p : Program} {l : Launch} {e : Env} {R : Room} {s : State} {m : MethodId} {args : Array Value} {below : List Frame} {meth : Method} {c : Code} {Q : State → Prop}
variable {gw : List Cond} {cc : ByteArray} {own : String} {nL n0 ns0 : Nat} {r : zOut} {pc : Nat}

theorem zent_obj {c : zC} {ci : Nat} (h : c.2.1 = ci) (hci : ci < 64) : zent sz sv ev cl ar c = .inr (ci, (List.range (znf cl ci)).map (fun i => zvd sz sv ev (zg c.2.2.2 i))) := by
  unfold zent
  rw [if_neg (by omega), if_neg (by omega), if_neg (by omega), if_neg (by omega), if_neg (by omega), h]
theorem zren_at {hp : zHp} {i : Nat} {c : zC} (h : hp[i]? = some c) : (zren sz sv ev cl ar hp)[i]? = some (sz + c.1, zent sz sv ev cl ar c) := by
  simp only [zren, List.getElem?_map, h, Option.map_some]
theorem zaddr {hp : zHp} {i : Nat} {c : zC} {a : Nat} (hi : c.1 = a / 8) (ha : a % 8 = 1) : zvd sz sv ev a = .ref (sz + c.1) := by rw [zvd_1 ha, hi]
theorem znf_eq {ci : Nat} {C : String} {T : u_T} {N : Nat} (hc : cl[ci]? = some (C, T, N)) : znf cl ci = N := by unfold znf; rw [hc]; rfl
theorem zInv_set {s : State} {hp : zHp} {n i k : Nat} {c c' : zC} {H H1 : Heap} {locs : List Loc} (b : zInv sz sv ev cl ar D s hp n H locs) (hi : hp[i]? = some c) (e : c'.1 = c.1) (hat : va_at D cl (sz + c.1, zent sz sv ev cl ar c') H1) (z : H1.size = H.size) (oq : ∀ q : Nat, q ≠ sz + c.1 → H1[q]? = H[q]?) : zInv sz sv ev cl ar D s (hp.set i c') n H1 (locs ++ [⟨sz + c.1, k⟩]) := by
  have hD : va_D (zA sz) (zren sz sv ev cl ar hp) := zD b.2.1
  refine ⟨?_, zwf_set b.2.1 hi e, by rw [z]; exact b.2.2.1, b.2.2.2.put z oq (Nat.le_add_right _ _)⟩
  have h := b.1.set hD (zren_at hi) hat oq
  have e2 : zren sz sv ev cl ar (hp.set i c') = (zren sz sv ev cl ar hp).set i (sz + c.1, zent sz sv ev cl ar c') := by
    unfold zren
    rw [List.map_set]
    simp [e]
  rw [e2]; exact h
theorem zInv_push {s : State} {hp : zHp} {n : Nat} {c' : zC} {H H1 : Heap} {locs : List Loc} (b : zInv sz sv ev cl ar D s hp n H locs) (e : c'.1 = n) (hat : va_at D cl (sz + n, zent sz sv ev cl ar c') H1) (z : H1.size = H.size + 1) (oq : ∀ q : Nat, q < H.size → H1[q]? = H[q]?) : zInv sz sv ev cl ar D s (c' :: hp) (n + 1) H1 locs := by
  have hk : ∀ (k : Nat) (x : Nat × va_E), (zren sz sv ev cl ar hp)[k]? = some x → H1[x.1]? = H[x.1]? := fun k x hx => oq x.1 ((b.1 k x hx).lt)
  refine ⟨fun k q hq => ?_, ⟨by omega, by rw [e]; exact b.2.1⟩, by rw [z, b.2.2.1]; omega, Nat.le_trans b.2.2.2.1 (by omega), fun q h1 h2 => (oq q (Nat.lt_of_lt_of_le h1 b.2.2.2.1)).trans (b.2.2.2.2.1 q h1 h2), b.2.2.2.2.2⟩
  cases k with
  | zero =>
    simp only [zren, List.map_cons, List.getElem?_cons_zero, Option.some.injEq] at hq
    subst hq
    rw [e]; exact hat
  | succ k =>
    have hq' : (zren sz sv ev cl ar hp)[k]? = some q := by simpa [zren] using hq
    exact (b.1.kept hk) k q hq'

theorem gI_getfield (X : zCtx sz sv cl ar D p R s m args c gw cc own nL n0 ns0 r) {ref C : String} {T : u_T} {N ci index kf : Nat} (hlay : ∀ w ∈ u_ws C T N, w.before args s = true) (hc : cl[ci]? = some (C, T, N)) (hci : ci < 64) (hk : kf < N) (hlink : (Cond.fieldLink own index ref (T kf).2.1 (T kf).2.2.1).before args s = true) (hsame : ∀ x, s.fieldFound? (T kf).1 (T kf).2.1 (T kf).2.2.1 = some x → s.fieldFound? ref (T kf).2.1 (T kf).2.2.1 = some x) (hd : decode cc pc = .ok (.getfield index, 3)) : zGd sz sv ev cl ar D p l e R s m args below meth c Q nL n0 ns0 r pc 3 (zGetf ci kf) := by
  intro k j hk' hj L st hp n ns hr
  obtain ⟨x, t, rfl, q1⟩ := zpop_some hr
  clear hr
  obtain ⟨hx, hr⟩ := zck_some q1
  obtain ⟨i, c0, hi, hid, hr⟩ := zfind_some hr
  obtain ⟨hkd, hr⟩ := zck_some hr
  obtain ⟨h1, h2, h3⟩ := hk' L _ hp n ns hr
  refine ⟨h1, h2, fun ls H locs a b d => ?_⟩
  have kk := h3 ls H locs a b d
  simp only [List.map_cons] at kk ⊢
  rw [zaddr (hp := hp) (i := i) hid (zt_eq hx)]
  have he := zren_at (sz := sz) (sv := sv) (ev := ev) (cl := cl) (ar := ar) hi
  rw [zent_obj (Nat.eq_of_beq_eq_true hkd) hci, znf_eq hc] at he
  exact va_get X.1 X.2.1 hlay (fun _ h => h) X.2.2.2.1 X.2.2.2.2.2.1 b.1 i he hc kf hk hlink hsame (by rw [List.getElem?_map, List.getElem?_range hk]; rfl) hd kk

theorem gI_getfieldN (X : zCtx sz sv cl ar D p R s m args c gw cc own nL n0 ns0 r) {ref C : String} {T : u_T} {N ci index kf : Nat} (hlay : ∀ w ∈ u_ws C T N, w.before args s = true) (hc : cl[ci]? = some (C, T, N)) (hci : ci < 64) (hk : kf < N) {host : String} (hlink : (Cond.fieldLinkNest own index ref (T kf).2.1 (T kf).2.2.1 host).before args s = true) (hsame : ∀ x, s.fieldFound? (T kf).1 (T kf).2.1 (T kf).2.2.1 = some x → s.fieldFound? ref (T kf).2.1 (T kf).2.2.1 = some x) (hd : decode cc pc = .ok (.getfield index, 3)) : zGd sz sv ev cl ar D p l e R s m args below meth c Q nL n0 ns0 r pc 3 (zGetf ci kf) := by
  intro k j hk' hj L st hp n ns hr
  obtain ⟨x, t, rfl, q1⟩ := zpop_some hr
  clear hr
  obtain ⟨hx, hr⟩ := zck_some q1
  obtain ⟨i, c0, hi, hid, hr⟩ := zfind_some hr
  obtain ⟨hkd, hr⟩ := zck_some hr
  obtain ⟨h1, h2, h3⟩ := hk' L _ hp n ns hr
  refine ⟨h1, h2, fun ls H locs a b d => ?_⟩
  have kk := h3 ls H locs a b d
  simp only [List.map_cons] at kk ⊢
  rw [zaddr (hp := hp) (i := i) hid (zt_eq hx)]
  have he := zren_at (sz := sz) (sv := sv) (ev := ev) (cl := cl) (ar := ar) hi
  rw [zent_obj (Nat.eq_of_beq_eq_true hkd) hci, znf_eq hc] at he
  exact va_getN X.1 X.2.1 hlay (fun _ h => h) X.2.2.2.1 X.2.2.2.2.2.1 b.1 i he hc kf hk hlink hsame (by rw [List.getElem?_map, List.getElem?_range hk]; rfl) hd kk

theorem zobj_set {c : zC} {ci kf v : Nat} {C : String} {T : u_T} {N : Nat} (hc : cl[ci]? = some (C, T, N)) (hkd : c.2.1 = ci) (hci : ci < 64) (hk : kf < N) (hv : v < 2 ^ 72) {cell : Cell} {a : Nat} {H1 : Heap} (hap : ∀ x y, x < N → y < N → x ≠ y → (D.2 ci) x ≠ (D.2 ci) y)
    (q2 : cell.cls = D.1 ci) (q3 : cell.vm = .none) (q4 : ∀ k, k < N → cell.slots[D.2 ci k]? = some (vp_V ((List.range N).map (fun i => zvd sz sv ev (zg c.2.2.2 i))) k)) (e1 : H1[a]? = some (cell.setSlot (D.2 ci kf) (zvd sz sv ev v))) :
    va_at D cl (a, zent sz sv ev cl ar (c.1, c.2.1, c.2.2.1, zs c.2.2.2 kf v)) H1 := by
  rw [zent_obj (ci := ci) (by exact hkd) hci, znf_eq hc]
  refine ⟨_, hc, _, e1, q2, q3, fun j hj => ?_⟩
  rw [t_set q4 hap hk _ j hj]
  unfold updV vp_V
  simp only [List.getD_eq_getElem?_getD, List.getElem?_map, List.getElem?_range hj, Option.map_some, Option.getD_some]
  rw [zg_zs _ _ _ _ hv]
  by_cases e : j = kf
  · rw [if_pos e, if_pos e]
  · rw [if_neg e, if_neg e]

theorem gI_putfield (X : zCtx sz sv cl ar D p R s m args c gw cc own nL n0 ns0 r) {ref C : String} {T : u_T} {N ci index kf : Nat} (hlay : ∀ w ∈ u_ws C T N, w.before args s = true) (hc : cl[ci]? = some (C, T, N)) (hci : ci < 64) (hk : kf < N) {ok : Nat → Bool} {ty : FieldType} (hok : ∀ v, ok v = true → narrow ty (zvd sz sv ev v) = zvd sz sv ev v ∧ fits ty (zvd sz sv ev v) = true) (ty0 : Nat → FieldType) (hty : ∀ k, k < N → parseFieldDescriptor (T k).2.2.1 = some (ty0 k)) (hnm : ∀ a, a < N → ∀ b, b < N → a ≠ b → (T a).2.1 ≠ (T b).2.1) (hdd : parseFieldDescriptor (T kf).2.2.1 = some ty) (hlink : (Cond.fieldLink own index ref (T kf).2.1 (T kf).2.2.1).before args s = true) (hsame : ∀ x, s.fieldFound? (T kf).1 (T kf).2.1 (T kf).2.2.1 = some x → s.fieldFound? ref (T kf).2.1 (T kf).2.2.1 = some x) (hfin : (T kf).2.2.2 = false) (hd : decode cc pc = .ok (.putfield index, 3)) : zGd sz sv ev cl ar D p l e R s m args below meth c Q nL n0 ns0 r pc 3 (zPutf ok ci kf) := by
  intro k j hk' hj L st hp n ns hr
  obtain ⟨v, t, rfl, q1⟩ := zpop_some hr
  clear hr
  obtain ⟨x, t, rfl, hr⟩ := zpop_some q1
  clear q1
  obtain ⟨hv, hr⟩ := zck_some hr
  obtain ⟨hv72, hr⟩ := zck_some hr
  obtain ⟨hx, hr⟩ := zck_some hr
  obtain ⟨i, c0, hi, hid, hkd, hr⟩ := zupd_some hr
  obtain ⟨h1, h2, h3⟩ := hk' L t _ n ns hr
  refine ⟨h1, h2, fun ls H locs a b d => ?_⟩
  simp only [List.map_cons]
  rw [zaddr (hp := hp) (i := i) hid (zt_eq hx)]
  have he := zren_at (sz := sz) (sv := sv) (ev := ev) (cl := cl) (ar := ar) hi
  have hkd' := Nat.eq_of_beq_eq_true hkd
  rw [zent_obj hkd' hci, znf_eq hc] at he
  obtain ⟨hn, hfit⟩ := hok v hv
  have hK := X.2.2.2.2.2.1
  have hap := va_apart (own := own) hlay (fun _ h => h) ty0 hty hnm hK hc
  obtain ⟨r0, g1, cell, q1, q2, q3, q4⟩ := b.1 i _ he
  have hr0 : r0 = (C, T, N) := Option.some.inj (g1.symm.trans hc)
  subst hr0
  obtain ⟨hS, hfc, kC, hkC, hkind⟩ := hK.1 ci _ hc
  obtain ⟨cf, kf', fi, f, hfi, hsl⟩ := hS kf hk
  have hv72' : v < 2 ^ 72 := Nat.lt_of_lt_of_le (Nat.lt_of_succ_le (Nat.le_of_ble_eq_true hv72)) (by decide)
  have hst := (u_facts hfc hkC (u_lays hlay (fun _ h => h) hk) hfi).1
  have hlay2 := hlay _ (u_in_lay hk)
  unfold u_lay at hlay2
  rw [if_neg (by rw [hfin]; decide)] at hlay2
  have h6 := u_store hfc hkC hkind hlay2 hfi hdd hn hfit
  refine W.putK X.1 X.2.1 (f := f) ⟨X.2.2.2.1, hlink, ⟨_, _, _, hsame _ hfi⟩, hst⟩ (by rw [q2]; exact h6) q1 q3 (by rw [hsl]; exact k2_hasslot (q4 kf hk)) rfl rfl hd fun H' e1 e2 e3 => ?_
  rw [hsl] at e1 ⊢
  exact h3 ls H' _ a (zInv_set b hi rfl (zobj_set hc hkd' hci hk hv72' hap q2 q3 q4 e1) e2 e3) d

theorem gI_putfieldN (X : zCtx sz sv cl ar D p R s m args c gw cc own nL n0 ns0 r) {ref C : String} {T : u_T} {N ci index kf : Nat} (hlay : ∀ w ∈ u_ws C T N, w.before args s = true) (hc : cl[ci]? = some (C, T, N)) (hci : ci < 64) (hk : kf < N) {ok : Nat → Bool} {ty : FieldType} (hok : ∀ v, ok v = true → narrow ty (zvd sz sv ev v) = zvd sz sv ev v ∧ fits ty (zvd sz sv ev v) = true) (ty0 : Nat → FieldType) (hty : ∀ k, k < N → parseFieldDescriptor (T k).2.2.1 = some (ty0 k)) (hnm : ∀ a, a < N → ∀ b, b < N → a ≠ b → (T a).2.1 ≠ (T b).2.1) (hdd : parseFieldDescriptor (T kf).2.2.1 = some ty) {host : String} (hlink : (Cond.fieldLinkNest own index ref (T kf).2.1 (T kf).2.2.1 host).before args s = true) (hsame : ∀ x, s.fieldFound? (T kf).1 (T kf).2.1 (T kf).2.2.1 = some x → s.fieldFound? ref (T kf).2.1 (T kf).2.2.1 = some x) (hfin : (T kf).2.2.2 = false) (hd : decode cc pc = .ok (.putfield index, 3)) : zGd sz sv ev cl ar D p l e R s m args below meth c Q nL n0 ns0 r pc 3 (zPutf ok ci kf) := by
  intro k j hk' hj L st hp n ns hr
  obtain ⟨v, t, rfl, q1⟩ := zpop_some hr
  clear hr
  obtain ⟨x, t, rfl, hr⟩ := zpop_some q1
  clear q1
  obtain ⟨hv, hr⟩ := zck_some hr
  obtain ⟨hv72, hr⟩ := zck_some hr
  obtain ⟨hx, hr⟩ := zck_some hr
  obtain ⟨i, c0, hi, hid, hkd, hr⟩ := zupd_some hr
  obtain ⟨h1, h2, h3⟩ := hk' L t _ n ns hr
  refine ⟨h1, h2, fun ls H locs a b d => ?_⟩
  simp only [List.map_cons]
  rw [zaddr (hp := hp) (i := i) hid (zt_eq hx)]
  have he := zren_at (sz := sz) (sv := sv) (ev := ev) (cl := cl) (ar := ar) hi
  have hkd' := Nat.eq_of_beq_eq_true hkd
  rw [zent_obj hkd' hci, znf_eq hc] at he
  obtain ⟨hn, hfit⟩ := hok v hv
  have hK := X.2.2.2.2.2.1
  have hap := va_apart (own := own) hlay (fun _ h => h) ty0 hty hnm hK hc
  obtain ⟨r0, g1, cell, q1, q2, q3, q4⟩ := b.1 i _ he
  have hr0 : r0 = (C, T, N) := Option.some.inj (g1.symm.trans hc)
  subst hr0
  obtain ⟨hS, hfc, kC, hkC, hkind⟩ := hK.1 ci _ hc
  obtain ⟨cf, kf', fi, f, hfi, hsl⟩ := hS kf hk
  have hv72' : v < 2 ^ 72 := Nat.lt_of_lt_of_le (Nat.lt_of_succ_le (Nat.le_of_ble_eq_true hv72)) (by decide)
  have hst := (u_facts hfc hkC (u_lays hlay (fun _ h => h) hk) hfi).1
  have hlay2 := hlay _ (u_in_lay hk)
  unfold u_lay at hlay2
  rw [if_neg (by rw [hfin]; decide)] at hlay2
  have h6 := u_store hfc hkC hkind hlay2 hfi hdd hn hfit
  refine va_WputK X.1 X.2.1 (f := f) X.2.2.2.1 hlink (hsame _ hfi) hst (by rw [q2]; exact h6) q1 q3 (by rw [hsl]; exact k2_hasslot (q4 kf hk)) rfl rfl hd fun H' e1 e2 e3 => ?_
  rw [hsl] at e1 ⊢
  exact h3 ls H' _ a (zInv_set b hi rfl (zobj_set hc hkd' hci hk hv72' hap q2 q3 q4 e1) e2 e3) d

theorem gI_putfieldF (X : zCtx sz sv cl ar D p R s m args c gw cc own nL n0 ns0 r) {ref C : String} {T : u_T} {N ci index kf : Nat} (hlay : ∀ w ∈ u_ws C T N, w.before args s = true) (hc : cl[ci]? = some (C, T, N)) (hci : ci < 64) (hk : kf < N) {ok : Nat → Bool} {ty : FieldType} (hok : ∀ v, ok v = true → narrow ty (zvd sz sv ev v) = zvd sz sv ev v ∧ fits ty (zvd sz sv ev v) = true) (ty0 : Nat → FieldType) (hty : ∀ k, k < N → parseFieldDescriptor (T k).2.2.1 = some (ty0 k)) (hnm : ∀ a, a < N → ∀ b, b < N → a ≠ b → (T a).2.1 ≠ (T b).2.1) (hdd : parseFieldDescriptor (T kf).2.2.1 = some ty) (hlink : (Cond.fieldLink own index ref (T kf).2.1 (T kf).2.2.1).before args s = true) (hsame : ∀ x, s.fieldFound? (T kf).1 (T kf).2.1 (T kf).2.2.1 = some x → s.fieldFound? ref (T kf).2.1 (T kf).2.2.1 = some x) (hfin : (T kf).2.2.2 = true) (hin2 : meth.name = "<init>") (hdecl : (T kf).1 = own) (hd : decode cc pc = .ok (.putfield index, 3)) : zGd sz sv ev cl ar D p l e R s m args below meth c Q nL n0 ns0 r pc 3 (zPutf ok ci kf) := by
  intro k j hk' hj L st hp n ns hr
  obtain ⟨v, t, rfl, q1⟩ := zpop_some hr
  clear hr
  obtain ⟨x, t, rfl, hr⟩ := zpop_some q1
  clear q1
  obtain ⟨hv, hr⟩ := zck_some hr
  obtain ⟨hv72, hr⟩ := zck_some hr
  obtain ⟨hx, hr⟩ := zck_some hr
  obtain ⟨i, c0, hi, hid, hkd, hr⟩ := zupd_some hr
  obtain ⟨h1, h2, h3⟩ := hk' L t _ n ns hr
  refine ⟨h1, h2, fun ls H locs a b d => ?_⟩
  simp only [List.map_cons]
  rw [zaddr (hp := hp) (i := i) hid (zt_eq hx)]
  have he := zren_at (sz := sz) (sv := sv) (ev := ev) (cl := cl) (ar := ar) hi
  have hkd' := Nat.eq_of_beq_eq_true hkd
  rw [zent_obj hkd' hci, znf_eq hc] at he
  obtain ⟨hn, hfit⟩ := hok v hv
  have hK := X.2.2.2.2.2.1
  have hap := va_apart (own := own) hlay (fun _ h => h) ty0 hty hnm hK hc
  obtain ⟨r0, g1, cell, q1, q2, q3, q4⟩ := b.1 i _ he
  have hr0 : r0 = (C, T, N) := Option.some.inj (g1.symm.trans hc)
  subst hr0
  obtain ⟨hS, hfc, kC, hkC, hkind⟩ := hK.1 ci _ hc
  obtain ⟨cf, kf', fi, f, hfi, hsl⟩ := hS kf hk
  have hv72' : v < 2 ^ 72 := Nat.lt_of_lt_of_le (Nat.lt_of_succ_le (Nat.le_of_ble_eq_true hv72)) (by decide)
  have hst := (u_facts hfc hkC (u_lays hlay (fun _ h => h) hk) hfi).1
  have hlay2 := hlay _ (u_in_lay hk)
  unfold u_lay at hlay2
  rw [if_pos hfin] at hlay2
  have hcf : m.cls = cf := by
    obtain ⟨_, _, c', _, _, _, -, -, hf', -, -, -, hown2, -⟩ := Cond.laysFinal_spec hlay2
    have e1 : c' = cf := by have := hfi.symm.trans hf'; simp at this; exact this.1.symm
    rw [hdecl] at hown2
    rw [← e1]; exact Option.some.inj (X.2.2.2.1.symm.trans hown2)
  have h6 := u_fits hfc hkC hkind (Or.inr hlay2) hfi hdd hn hfit
  refine W.putFinK X.1 X.2.1 X.2.2.2.1 hlink (hsame _ hfi) hst hcf hin2 (by rw [q2]; exact h6) q1 q3 (by rw [hsl]; exact k2_hasslot (q4 kf hk)) rfl rfl hd fun H' e1 e2 e3 => ?_
  rw [hsl] at e1 ⊢
  exact h3 ls H' _ a (zInv_set b hi rfl (zobj_set hc hkd' hci hk hv72' hap q2 q3 q4 e1) e2 e3) d

theorem zin {j N : Nat} (h : j < N) (h31 : j < 2 ^ 31) : vp_in (nI j) N := by
  intro z
  rcases z with z | z
  · exact nI_pos h31 z
  · rw [nI_clamp h31] at z; omega
theorem zi31 {i : Nat} (h : Nat.blt i 17179869184 = true) : i / 8 < 2 ^ 31 := by
  have : i + 1 ≤ 17179869184 := Nat.le_of_ble_eq_true h
  omega
theorem zgi_eq {v : Nat} (h : zisI v = true) : zvd sz sv ev v = .int (zgi sz sv ev v) := by
  obtain ⟨x, hx⟩ := zI_int (sz := sz) (sv := sv) (ev := ev) h
  unfold zgi; rw [hx]
theorem zgl_eq {v : Nat} (h : zt v 4 = true) : zvd sz sv ev v = .long (zgl sz sv ev v) := by
  unfold zgl; rw [zvd_4 (zt_eq h)]
theorem zgr_eq (hs : zSv sv) {v : Nat} (h : zisA v = true) : zvd sz sv ev v = va_rf (zgr sz sv ev v) := by
  unfold zgr
  rcases zA_ref (sz := sz) (ev := ev) hs h with e | ⟨a, e⟩ <;> rw [e] <;> rfl

theorem gI_iaload (X : zCtx sz sv cl ar D p R s m args c gw cc own nL n0 ns0 r) (hd : decode cc pc = .ok (.iaload, 1)) : zGd sz sv ev cl ar D p l e R s m args below meth c Q nL n0 ns0 r pc 1 (zAld zisI 64 0) := by
  intro k j hk' hj L st hp n ns hr
  obtain ⟨i, t, rfl, q1⟩ := zpop_some hr
  clear hr
  obtain ⟨x, t, rfl, hr⟩ := zpop_some q1
  clear q1
  obtain ⟨hi0, hr⟩ := zck_some hr
  obtain ⟨hi31, hr⟩ := zck_some hr
  obtain ⟨hx, hr⟩ := zck_some hr
  obtain ⟨w, c0, hw, hid, hr⟩ := zfind_some hr
  obtain ⟨hkd, hr⟩ := zck_some hr
  obtain ⟨hlt, hr⟩ := zck_some hr
  obtain ⟨hok, hr⟩ := zck_some hr
  obtain ⟨h1, h2, h3⟩ := hk' L _ hp n ns hr
  refine ⟨h1, h2, fun ls H locs a b d => ?_⟩
  have kk := h3 ls H locs a b d
  simp only [List.map_cons] at kk ⊢
  rw [zaddr (hp := hp) (i := w) hid (zt_eq hx), zvd_0 (zt_eq hi0)]
  have he := zren_at (sz := sz) (sv := sv) (ev := ev) (cl := cl) (ar := ar) hw
  have hkd' := Nat.eq_of_beq_eq_true hkd
  have j31 := zi31 hi31
  have hlt' : i / 8 < c0.2.2.1 := Nat.lt_of_succ_le (Nat.le_of_ble_eq_true hlt)
  unfold zent at he
  rw [if_pos hkd'] at he
  refine va_iald X.1 X.2.1 X.2.2.2.2.2.1 b.1 w 0 he rfl (zin hlt' j31) hd ?_
  rw [nI_clamp j31]
  rw [zgi_eq hok] at kk
  have hx0 : Nat.xor (zg c0.2.2.2 (Nat.div i 8)) 0 = zg c0.2.2.2 (i / 8) := Nat.xor_zero _
  rw [hx0] at kk
  exact kk

theorem gI_zaload (X : zCtx sz sv cl ar D p R s m args c gw cc own nL n0 ns0 r) (hd : decode cc pc = .ok (.baload, 1)) : zGd sz sv ev cl ar D p l e R s m args below meth c Q nL n0 ns0 r pc 1 (zAld zisI 65 0) := by
  intro k j hk' hj L st hp n ns hr
  obtain ⟨i, t, rfl, q1⟩ := zpop_some hr
  clear hr
  obtain ⟨x, t, rfl, hr⟩ := zpop_some q1
  clear q1
  obtain ⟨hi0, hr⟩ := zck_some hr
  obtain ⟨hi31, hr⟩ := zck_some hr
  obtain ⟨hx, hr⟩ := zck_some hr
  obtain ⟨w, c0, hw, hid, hr⟩ := zfind_some hr
  obtain ⟨hkd, hr⟩ := zck_some hr
  obtain ⟨hlt, hr⟩ := zck_some hr
  obtain ⟨hok, hr⟩ := zck_some hr
  obtain ⟨h1, h2, h3⟩ := hk' L _ hp n ns hr
  refine ⟨h1, h2, fun ls H locs a b d => ?_⟩
  have kk := h3 ls H locs a b d
  simp only [List.map_cons] at kk ⊢
  rw [zaddr (hp := hp) (i := w) hid (zt_eq hx), zvd_0 (zt_eq hi0)]
  have he := zren_at (sz := sz) (sv := sv) (ev := ev) (cl := cl) (ar := ar) hw
  have hkd' := Nat.eq_of_beq_eq_true hkd
  have j31 := zi31 hi31
  have hlt' : i / 8 < c0.2.2.1 := Nat.lt_of_succ_le (Nat.le_of_ble_eq_true hlt)
  unfold zent at he
  rw [if_neg (by omega), if_pos hkd'] at he
  refine va_zald X.1 X.2.1 X.2.2.2.2.2.1 b.1 w 1 he rfl (zin hlt' j31) hd ?_
  rw [nI_clamp j31]
  rw [zgi_eq hok] at kk
  have hx0 : Nat.xor (zg c0.2.2.2 (Nat.div i 8)) 0 = zg c0.2.2.2 (i / 8) := Nat.xor_zero _
  rw [hx0] at kk
  exact kk

theorem gI_laload (X : zCtx sz sv cl ar D p R s m args c gw cc own nL n0 ns0 r) (hd : decode cc pc = .ok (.laload, 1)) : zGd sz sv ev cl ar D p l e R s m args below meth c Q nL n0 ns0 r pc 1 (zAld (fun v => zt v 4) 66 4) := by
  intro k j hk' hj L st hp n ns hr
  obtain ⟨i, t, rfl, q1⟩ := zpop_some hr
  clear hr
  obtain ⟨x, t, rfl, hr⟩ := zpop_some q1
  clear q1
  obtain ⟨hi0, hr⟩ := zck_some hr
  obtain ⟨hi31, hr⟩ := zck_some hr
  obtain ⟨hx, hr⟩ := zck_some hr
  obtain ⟨w, c0, hw, hid, hr⟩ := zfind_some hr
  obtain ⟨hkd, hr⟩ := zck_some hr
  obtain ⟨hlt, hr⟩ := zck_some hr
  obtain ⟨hok, hr⟩ := zck_some hr
  obtain ⟨h1, h2, h3⟩ := hk' L _ hp n ns hr
  refine ⟨h1, h2, fun ls H locs a b d => ?_⟩
  have kk := h3 ls H locs a b d
  simp only [List.map_cons] at kk ⊢
  rw [zaddr (hp := hp) (i := w) hid (zt_eq hx), zvd_0 (zt_eq hi0)]
  have he := zren_at (sz := sz) (sv := sv) (ev := ev) (cl := cl) (ar := ar) hw
  have hkd' := Nat.eq_of_beq_eq_true hkd
  have j31 := zi31 hi31
  have hlt' : i / 8 < c0.2.2.1 := Nat.lt_of_succ_le (Nat.le_of_ble_eq_true hlt)
  unfold zent at he
  rw [if_neg (by omega), if_neg (by omega), if_pos hkd'] at he
  refine va_lald X.1 X.2.1 X.2.2.2.2.2.1 b.1 w 2 he rfl (zin hlt' j31) hd ?_
  rw [nI_clamp j31]
  rw [zgl_eq hok] at kk
  exact kk

theorem gI_aaload (hs : zSv sv) (X : zCtx sz sv cl ar D p R s m args c gw cc own nL n0 ns0 r) (hd : decode cc pc = .ok (.aaload, 1)) : zGd sz sv ev cl ar D p l e R s m args below meth c Q nL n0 ns0 r pc 1 (zAld zisA 68 3) := by
  intro k j hk' hj L st hp n ns hr
  obtain ⟨i, t, rfl, q1⟩ := zpop_some hr
  clear hr
  obtain ⟨x, t, rfl, hr⟩ := zpop_some q1
  clear q1
  obtain ⟨hi0, hr⟩ := zck_some hr
  obtain ⟨hi31, hr⟩ := zck_some hr
  obtain ⟨hx, hr⟩ := zck_some hr
  obtain ⟨w, c0, hw, hid, hr⟩ := zfind_some hr
  obtain ⟨hkd, hr⟩ := zck_some hr
  obtain ⟨hlt, hr⟩ := zck_some hr
  obtain ⟨hok, hr⟩ := zck_some hr
  obtain ⟨h1, h2, h3⟩ := hk' L _ hp n ns hr
  refine ⟨h1, h2, fun ls H locs a b d => ?_⟩
  have kk := h3 ls H locs a b d
  simp only [List.map_cons] at kk ⊢
  rw [zaddr (hp := hp) (i := w) hid (zt_eq hx), zvd_0 (zt_eq hi0)]
  have he := zren_at (sz := sz) (sv := sv) (ev := ev) (cl := cl) (ar := ar) hw
  have hkd' := Nat.eq_of_beq_eq_true hkd
  have j31 := zi31 hi31
  have hlt' : i / 8 < c0.2.2.1 := Nat.lt_of_succ_le (Nat.le_of_ble_eq_true hlt)
  unfold zent at he
  rw [if_neg (by omega), if_neg (by omega), if_neg (by omega), if_neg (by omega), if_pos hkd'] at he
  refine va_aldq X.1 X.2.1 X.2.2.2.2.2.1 b.1 w 4 he rfl (zin hlt' j31) hd ?_
  rw [nI_clamp j31]
  rw [zgr_eq hs hok] at kk
  exact kk

theorem gI_iastore (X : zCtx sz sv cl ar D p R s m args c gw cc own nL n0 ns0 r) (hd : decode cc pc = .ok (.iastore, 1)) : zGd sz sv ev cl ar D p l e R s m args below meth c Q nL n0 ns0 r pc 1 (zAst zisI 64 0) := by
  intro k j hk' hj L st hp n ns hr
  obtain ⟨v, t, rfl, q1⟩ := zpop_some hr
  clear hr
  obtain ⟨i, t, rfl, q2⟩ := zpop_some q1
  clear q1
  obtain ⟨x, t, rfl, hr⟩ := zpop_some q2
  clear q2
  obtain ⟨hok, hr⟩ := zck_some hr
  obtain ⟨hv72, hr⟩ := zck_some hr
  obtain ⟨hi0, hr⟩ := zck_some hr
  obtain ⟨hi31, hr⟩ := zck_some hr
  obtain ⟨hx, hr⟩ := zck_some hr
  obtain ⟨w, c0, hw, hid, hck, hr⟩ := zupd_some hr
  have hkd : c0.2.1 = 64 := by
    cases hb : Nat.beq c0.2.1 64 with
    | true => exact Nat.eq_of_beq_eq_true hb
    | false => rw [hb] at hck; cases hck
  have hkb : Nat.beq c0.2.1 64 = true := by rw [hkd]; rfl
  rw [hkb] at hck
  have hlt' : i / 8 < c0.2.2.1 := Nat.lt_of_succ_le (Nat.le_of_ble_eq_true hck)
  have hv : Nat.xor v 0 < 2 ^ 72 := Nat.lt_of_lt_of_le (Nat.lt_of_succ_le (Nat.le_of_ble_eq_true hv72)) (by decide)
  have j31 := zi31 hi31
  obtain ⟨h1, h2, h3⟩ := hk' L t _ n ns hr
  refine ⟨h1, h2, fun ls H locs a b d => ?_⟩
  simp only [List.map_cons]
  have he := zren_at (sz := sz) (sv := sv) (ev := ev) (cl := cl) (ar := ar) hw
  rw [zaddr (hp := hp) (i := w) hid (zt_eq hx), zvd_0 (zt_eq hi0)]
  unfold zent at he
  rw [if_pos hkd] at he
  rw [zgi_eq hok]
  refine W.iast X.1 X.2.1 (b.1 w _ he) ((X.2.2.2.2.2.1.2 0 _ rfl).1 c0.2.2.1 (fun j => .int (zgi sz sv ev (zg c0.2.2.2 j)))) (fun q => by cases q) (by show ¬ (_ ∨ (arrV _ _ _).slots.size ≤ _); rw [arrV_size]; exact zin hlt' j31) rfl rfl hd fun H1 e z oq => ?_
  refine h3 ls H1 _ a (zInv_set b hw rfl ?_ z oq) d
  unfold zent
  rw [if_pos (by exact hkd)]
  show H1[sz + c0.1]? = some (vp_cell _ _)
  rw [e]
  show some ((vp_cell _ _).setSlot _ _) = some (vp_cell _ _)
  rw [vp_cell_i, vp_cell_i, arrV_store]
  congr 2
  funext q
  show updV _ _ _ q = Value.int (zgi sz sv ev (zg (zs c0.2.2.2 (i / 8) (Nat.xor v 0)) q))
  rw [nI_clamp j31, zg_zs _ _ _ _ hv]
  unfold updV
  by_cases hq : q = i / 8
  · rw [if_pos hq, if_pos (by exact hq)]
    rw [show Nat.xor v 0 = v from Nat.xor_zero v]
  · rw [if_neg hq, if_neg (by exact hq)]

theorem gI_zastore (X : zCtx sz sv cl ar D p R s m args c gw cc own nL n0 ns0 r) (hd : decode cc pc = .ok (.bastore, 1)) : zGd sz sv ev cl ar D p l e R s m args below meth c Q nL n0 ns0 r pc 1 (zAst (fun v => cond (Nat.beq v 0) true (Nat.beq v 8)) 65 0) := by
  intro k j hk' hj L st hp n ns hr
  obtain ⟨v, t, rfl, q1⟩ := zpop_some hr
  clear hr
  obtain ⟨i, t, rfl, q2⟩ := zpop_some q1
  clear q1
  obtain ⟨x, t, rfl, hr⟩ := zpop_some q2
  clear q2
  obtain ⟨hok, hr⟩ := zck_some hr
  obtain ⟨hv72, hr⟩ := zck_some hr
  obtain ⟨hi0, hr⟩ := zck_some hr
  obtain ⟨hi31, hr⟩ := zck_some hr
  obtain ⟨hx, hr⟩ := zck_some hr
  obtain ⟨w, c0, hw, hid, hck, hr⟩ := zupd_some hr
  have hkd : c0.2.1 = 65 := by
    cases hb : Nat.beq c0.2.1 65 with
    | true => exact Nat.eq_of_beq_eq_true hb
    | false => rw [hb] at hck; cases hck
  have hkb : Nat.beq c0.2.1 65 = true := by rw [hkd]; rfl
  rw [hkb] at hck
  have hlt' : i / 8 < c0.2.2.1 := Nat.lt_of_succ_le (Nat.le_of_ble_eq_true hck)
  have hv : Nat.xor v 0 < 2 ^ 72 := Nat.lt_of_lt_of_le (Nat.lt_of_succ_le (Nat.le_of_ble_eq_true hv72)) (by decide)
  have j31 := zi31 hi31
  obtain ⟨h1, h2, h3⟩ := hk' L t _ n ns hr
  refine ⟨h1, h2, fun ls H locs a b d => ?_⟩
  simp only [List.map_cons]
  have he := zren_at (sz := sz) (sv := sv) (ev := ev) (cl := cl) (ar := ar) hw
  rw [zaddr (hp := hp) (i := w) hid (zt_eq hx), zvd_0 (zt_eq hi0)]
  unfold zent at he
  rw [if_neg (by omega), if_pos hkd] at he
  have hv01 : (v = 0 ∨ v = 8) := by
    have hok : cond (Nat.beq v 0) true (Nat.beq v 8) = true := hok
    cases hb : Nat.beq v 0 with
    | true => exact Or.inl (Nat.eq_of_beq_eq_true hb)
    | false => rw [hb] at hok; exact Or.inr (Nat.eq_of_beq_eq_true hok)
  have hvi : zvd sz sv ev v = .int (zgi sz sv ev v) := zgi_eq (by rcases hv01 with e | e <;> rw [e] <;> rfl)
  have hnar : narrow .boolean (.int (zgi sz sv ev v)) = .int (zgi sz sv ev v) := by
    rw [← hvi]; rcases hv01 with e | e <;> rw [e, zvd_0 (by decide)] <;> rfl
  rw [hvi]
  refine W.zast X.1 X.2.1 (b.1 w _ he) ((X.2.2.2.2.2.1.2 1 _ rfl).1 c0.2.2.1 (fun j => .int (zgi sz sv ev (zg c0.2.2.2 j)))) (fun q => by cases q) (by show ¬ (_ ∨ (arrV _ _ _).slots.size ≤ _); rw [arrV_size]; exact zin hlt' j31) rfl rfl hd fun H1 e z oq => ?_
  rw [hnar] at e
  refine h3 ls H1 _ a (zInv_set b hw rfl ?_ z oq) d
  unfold zent
  rw [if_neg (by show c0.2.1 ≠ 64; omega), if_pos (by exact hkd)]
  show H1[sz + c0.1]? = some (vp_cell _ _)
  rw [e]
  show some ((vp_cell _ _).setSlot _ _) = some (vp_cell _ _)
  rw [vp_cell_i, vp_cell_i, arrV_store]
  congr 2
  funext q
  show updV _ _ _ q = Value.int (zgi sz sv ev (zg (zs c0.2.2.2 (i / 8) (Nat.xor v 0)) q))
  rw [nI_clamp j31, zg_zs _ _ _ _ hv]
  unfold updV
  by_cases hq : q = i / 8
  · rw [if_pos hq, if_pos (by exact hq)]
    rw [show Nat.xor v 0 = v from Nat.xor_zero v]
  · rw [if_neg hq, if_neg (by exact hq)]

theorem gI_lastore (X : zCtx sz sv cl ar D p R s m args c gw cc own nL n0 ns0 r) (hd : decode cc pc = .ok (.lastore, 1)) : zGd sz sv ev cl ar D p l e R s m args below meth c Q nL n0 ns0 r pc 1 (zAst (fun v => zt v 4) 66 4) := by
  intro k j hk' hj L st hp n ns hr
  obtain ⟨v, t, rfl, q1⟩ := zpop_some hr
  clear hr
  obtain ⟨i, t, rfl, q2⟩ := zpop_some q1
  clear q1
  obtain ⟨x, t, rfl, hr⟩ := zpop_some q2
  clear q2
  obtain ⟨hok, hr⟩ := zck_some hr
  obtain ⟨hv72, hr⟩ := zck_some hr
  obtain ⟨hi0, hr⟩ := zck_some hr
  obtain ⟨hi31, hr⟩ := zck_some hr
  obtain ⟨hx, hr⟩ := zck_some hr
  obtain ⟨w, c0, hw, hid, hck, hr⟩ := zupd_some hr
  have hkd : c0.2.1 = 66 := by
    cases hb : Nat.beq c0.2.1 66 with
    | true => exact Nat.eq_of_beq_eq_true hb
    | false => rw [hb] at hck; cases hck
  have hkb : Nat.beq c0.2.1 66 = true := by rw [hkd]; rfl
  rw [hkb] at hck
  have hlt' : i / 8 < c0.2.2.1 := Nat.lt_of_succ_le (Nat.le_of_ble_eq_true hck)
  have hv : Nat.xor v 4 < 2 ^ 72 := Nat.lt_of_lt_of_le (Nat.lt_of_succ_le (Nat.le_of_ble_eq_true hv72)) (by decide)
  have j31 := zi31 hi31
  obtain ⟨h1, h2, h3⟩ := hk' L t _ n ns hr
  refine ⟨h1, h2, fun ls H locs a b d => ?_⟩
  simp only [List.map_cons]
  have he := zren_at (sz := sz) (sv := sv) (ev := ev) (cl := cl) (ar := ar) hw
  rw [zaddr (hp := hp) (i := w) hid (zt_eq hx), zvd_0 (zt_eq hi0)]
  unfold zent at he
  rw [if_neg (by omega), if_neg (by omega), if_pos hkd] at he
  rw [zgl_eq hok]
  refine W.last X.1 X.2.1 (b.1 w _ he) ((X.2.2.2.2.2.1.2 2 _ rfl).1 c0.2.2.1 (fun j => .long (zgl sz sv ev (Nat.xor (zg c0.2.2.2 j) 4)))) (fun q => by cases q) (by show ¬ (_ ∨ (arrV _ _ _).slots.size ≤ _); rw [arrV_size]; exact zin hlt' j31) rfl rfl hd fun H1 e z oq => ?_
  refine h3 ls H1 _ a (zInv_set b hw rfl ?_ z oq) d
  unfold zent
  rw [if_neg (by show c0.2.1 ≠ 64; omega), if_neg (by show c0.2.1 ≠ 65; omega), if_pos (by exact hkd)]
  show H1[sz + c0.1]? = some (vp_cell _ _)
  rw [e]
  show some ((vp_cell _ _).setSlot _ _) = some (vp_cell _ _)
  rw [vp_cell_l, vp_cell_l, arrV_store]
  congr 2
  funext q
  show updV _ _ _ q = Value.long (zgl sz sv ev (Nat.xor (zg (zs c0.2.2.2 (i / 8) (Nat.xor v 4)) q) 4))
  rw [nI_clamp j31, zg_zs _ _ _ _ hv]
  unfold updV
  by_cases hq : q = i / 8
  · rw [if_pos hq, if_pos (by exact hq)]
    rw [show Nat.xor (Nat.xor v 4) 4 = v from by show (v ^^^ 4) ^^^ 4 = v; rw [Nat.xor_assoc, Nat.xor_self, Nat.xor_zero]]
  · rw [if_neg hq, if_neg (by exact hq)]

end ZB
end
section
/-! what was there before the run: fields and rows of it, by its numbers -/
def zSF (sz : Nat) (sv : Nat → Value) (ev : Nat → Int32) (s : State) (C n d : String) (j v : Nat) : Prop :=
  ∃ (cf : ClassId) (kf : Class) (fi : Nat) (f : Field) (a : Nat) (cell : Cell), s.fieldFound? C n d = some (cf, kf, fi, f) ∧ f.isStatic = false ∧ sv j = .ref a ∧ a < sz ∧ s.heap[a]? = some cell ∧ cell.vm ≠ .unknown ∧ cell.slots[f.slot]? = some (zvd sz sv ev v)
def zSR (sz : Nat) (sv : Nat → Value) (ev : Nat → Int32) (s : State) (ty : FieldType) (j len N : Nat) : Prop :=
  ∃ (a : Nat) (cell : Cell), sv j = .ref a ∧ a < sz ∧ s.heap[a]? = some cell ∧ s.isArrayOf cell ty ∧ cell.vm ≠ .unknown ∧ cell.slots.size = len ∧ len < 2 ^ 31 ∧ ∀ i, i < len → cell.slots[i]? = some (zvd sz sv ev (zg N i))
noncomputable def zasc (j : Nat) (tb : List (Nat × Nat)) (k : Nat → zR) : zR := List.rec (motive := fun _ => zR) none (fun q _ ih => cond (Nat.beq q.1 j) (k q.2) ih) tb
theorem zasc_some {j : Nat} {k : Nat → zR} {o : zOut} : ∀ {tb : List (Nat × Nat)}, zasc j tb k = some o → ∃ q ∈ tb, q.1 = j ∧ k q.2 = some o
  | [], h => nomatch h
  | q :: t, h => by
    have h' : cond (Nat.beq q.1 j) (k q.2) (zasc j t k) = some o := h
    cases hb : Nat.beq q.1 j with
    | true => rw [hb] at h'; exact ⟨q, List.mem_cons_self, Nat.eq_of_beq_eq_true hb, h'⟩
    | false =>
      rw [hb] at h'
      obtain ⟨q', h1, h2⟩ := zasc_some h'
      exact ⟨q', List.mem_cons_of_mem _ h1, h2⟩
noncomputable def zas2 (j : Nat) (tb : List (Nat × Nat × Nat)) (k : Nat → Nat → zR) : zR := List.rec (motive := fun _ => zR) none (fun q _ ih => cond (Nat.beq q.1 j) (k q.2.1 q.2.2) ih) tb
theorem zas2_some {j : Nat} {k : Nat → Nat → zR} {o : zOut} : ∀ {tb : List (Nat × Nat × Nat)}, zas2 j tb k = some o → ∃ q ∈ tb, q.1 = j ∧ k q.2.1 q.2.2 = some o
  | [], h => nomatch h
  | q :: t, h => by
    have h' : cond (Nat.beq q.1 j) (k q.2.1 q.2.2) (zas2 j t k) = some o := h
    cases hb : Nat.beq q.1 j with
    | true => rw [hb] at h'; exact ⟨q, List.mem_cons_self, Nat.eq_of_beq_eq_true hb, h'⟩
    | false =>
      rw [hb] at h'
      obtain ⟨q', h1, h2⟩ := zas2_some h'
      exact ⟨q', List.mem_cons_of_mem _ h1, h2⟩
/-- a field of what was there -/
noncomputable def zGetS (tb : List (Nat × Nat)) : zI := fun k _ L st hp n ns => zpop st fun a t => zck (zt a 2) (zasc (Nat.div a 8) tb fun v => k L (v :: t) hp n ns)
/-- a place of a row that was there -/
noncomputable def zAldS (tb : List (Nat × Nat × Nat)) : zI := fun k _ L st hp n ns => zpop st fun i t => zpop t fun a t => zck (zt i 0) (zck (Nat.blt i 17179869184) (zck (zt a 2) (zas2 (Nat.div a 8) tb fun len N => zck (Nat.blt (Nat.div i 8) len) (k L (zg N (Nat.div i 8) :: t) hp n ns))))
/-- a row's length, also of one that was there -/
noncomputable def zAlenS (tb : List (Nat × Nat)) : zI := fun k j L st hp n ns => zpop st fun a t => cond (zt a 2) (zasc (Nat.div a 8) tb fun v => k L (Nat.mul 8 v :: t) hp n ns) (zAlen k j L (a :: t) hp n ns)
/-- the same thing that was there -/
noncomputable def zAcmp (neg : Bool) (tg : Nat) : zI := fun k j L st hp n ns => zpop st fun y t => zpop t fun x t => zck (zisA x) (zck (zisA y) (zck (Nat.beq x y) (cond neg (k L t hp n ns) (j tg L t hp n ns))))
noncomputable def zNewO : zI := fun k _ L st hp n ns => zpop st fun x t => zck (zt x 0) (zck (Nat.blt x 240000000) (k L (Nat.add (Nat.mul 8 n) 1 :: t) ((n, 68, Nat.div x 8, 0) :: hp) (Nat.succ n) (Nat.add ns (Nat.div x 8))))
/-- a copy of a row of ints -/
noncomputable def zClone : zI := fun k _ L st hp n ns => zpop st fun a t => zck (zt a 1) (zfind (Nat.div a 8) hp fun c => zck (Nat.beq c.2.1 64) (zck (Nat.blt (List.length t) 5) (k L (Nat.add (Nat.mul 8 n) 1 :: t) ((n, 64, c.2.2.1, c.2.2.2) :: hp) (Nat.succ n) (Nat.add ns c.2.2.1))))

section ZB
variable {sz : Nat} {sv : Nat → Value} {ev : Nat → Int32} {cl : List vw_C} {ar : zAr} {D : va_G}
variable {p : Program} {l : Launch} {e : Env} {R : Room} {s : State} {m : MethodId} {args : Array Value} {below : List Frame} {meth : Method} {c : Code} {Q : State → Prop}
variable {gw : List Cond} {cc : ByteArray} {own : String} {nL n0 ns0 : Nat} {r : zOut} {pc : Nat}

theorem gI_arraylength (X : zCtx sz sv cl ar D p R s m args c gw cc own nL n0 ns0 r) (hd : decode cc pc = .ok (.arraylength, 1)) : zGd sz sv ev cl ar D p l e R s m args below meth c Q nL n0 ns0 r pc 1 zAlen := by
  intro k j hk hj L st hp n ns hr
  obtain ⟨x, t, rfl, q1⟩ := zpop_some hr
  clear hr
  obtain ⟨hx, hr⟩ := zck_some q1
  obtain ⟨w, c0, hw, hid, hr⟩ := zfind_some hr
  obtain ⟨hlo, hr⟩ := zck_some hr
  obtain ⟨hhi, hr⟩ := zck_some hr
  obtain ⟨h1, h2, h3⟩ := hk L _ hp n ns hr
  refine ⟨h1, h2, fun ls H locs a b d => ?_⟩
  have kk := h3 ls H locs a b d
  simp only [List.map_cons] at kk ⊢
  rw [zaddr (hp := hp) (i := w) hid (zt_eq hx)]
  have hlo' : 63 + 1 ≤ c0.2.1 := Nat.le_of_ble_eq_true hlo
  have hhi' : c0.2.1 + 1 ≤ 69 := Nat.le_of_ble_eq_true hhi
  have e0 : (Nat.mul 8 c0.2.2.1) % 8 = 0 := by show (8 * c0.2.2.1) % 8 = 0; omega
  have e8 : (Nat.mul 8 c0.2.2.1) / 8 = c0.2.2.1 := by show (8 * c0.2.2.1) / 8 = _; omega
  rw [zvd_0 e0, e8] at kk
  have he := zren_at (sz := sz) (sv := sv) (ev := ev) (cl := cl) (ar := ar) hw
  have hK := X.2.2.2.2.2.1
  unfold zent at he
  by_cases k0 : c0.2.1 = 64
  · rw [if_pos k0] at he
    exact va_alen X.1 X.2.1 hK b.1 w 0 he rfl rfl hd kk
  rw [if_neg k0] at he
  by_cases k1 : c0.2.1 = 65
  · rw [if_pos k1] at he
    exact va_alen X.1 X.2.1 hK b.1 w 1 he rfl rfl hd kk
  rw [if_neg k1] at he
  by_cases k2 : c0.2.1 = 66
  · rw [if_pos k2] at he
    exact va_alen X.1 X.2.1 hK b.1 w 2 he rfl rfl hd kk
  rw [if_neg k2] at he
  by_cases k3 : c0.2.1 = 67
  · rw [if_pos k3] at he
    exact va_alen X.1 X.2.1 hK b.1 w 3 he rfl rfl hd kk
  rw [if_neg k3] at he
  have k4 : c0.2.1 = 68 := by omega
  rw [if_pos k4] at he
  exact va_alen X.1 X.2.1 hK b.1 w 4 he rfl rfl hd kk

theorem gI_arraylengthS (X : zCtx sz sv cl ar D p R s m args c gw cc own nL n0 ns0 r) {tb : List (Nat × Nat)} (htb : ∀ q ∈ tb, ∃ ty N, zSR sz sv ev s ty q.1 q.2 N) (hs0 : s.heap.size = sz + n0) (hd : decode cc pc = .ok (.arraylength, 1)) : zGd sz sv ev cl ar D p l e R s m args below meth c Q nL n0 ns0 r pc 1 (zAlenS tb) := by
  intro k j hk hj L st hp n ns hr
  obtain ⟨x, t, rfl, q1⟩ := zpop_some hr
  clear hr
  cases hx : zt x 2 with
  | false =>
    simp only [hx, cond_false] at q1
    exact gI_arraylength X hd k j hk hj L (x :: t) hp n ns q1
  | true =>
    simp only [hx, cond_true] at q1
    obtain ⟨q, hq, hqj, hr⟩ := zasc_some q1
    obtain ⟨h1, h2, h3⟩ := hk L _ hp n ns hr
    refine ⟨h1, h2, fun ls H locs a b d => ?_⟩
    have kk := h3 ls H locs a b d
    simp only [List.map_cons] at kk ⊢
    obtain ⟨ty, N, ad, cell, g1, g2, g3, g4, g5, g6, -⟩ := htb q hq
    rw [zvd_2 (zt_eq hx), show x / 8 = q.1 from hqj.symm, g1]
    have e0 : (Nat.mul 8 q.2) % 8 = 0 := by show (8 * q.2) % 8 = 0; omega
    have e8 : (Nat.mul 8 q.2) / 8 = q.2 := by show (8 * q.2) / 8 = _; omega
    rw [zvd_0 e0, e8] at kk
    exact W.alen (n := nI q.2) X.1 X.2.1 (by rw [b.2.2.2.2.1 ad (by omega) (fun z => by have : sz ≤ ad := z; omega)]; exact g3) g4 (by rw [g6] <;> rfl) rfl rfl hd kk

theorem gI_getfieldS (X : zCtx sz sv cl ar D p R s m args c gw cc own nL n0 ns0 r) {tb : List (Nat × Nat)} {C nm de ref : String} {index : Nat} (htb : ∀ q ∈ tb, zSF sz sv ev s C nm de q.1 q.2) (hlink : (Cond.fieldLink own index ref nm de).before args s = true) (hsame : ∀ x, s.fieldFound? C nm de = some x → s.fieldFound? ref nm de = some x) (hd : decode cc pc = .ok (.getfield index, 3)) : zGd sz sv ev cl ar D p l e R s m args below meth c Q nL n0 ns0 r pc 3 (zGetS tb) := by
  intro k j hk hj L st hp n ns hr
  obtain ⟨x, t, rfl, q1⟩ := zpop_some hr
  clear hr
  obtain ⟨hx, hr⟩ := zck_some q1
  obtain ⟨q, hq, hqj, hr⟩ := zasc_some hr
  obtain ⟨h1, h2, h3⟩ := hk L _ hp n ns hr
  refine ⟨h1, h2, fun ls H locs a b d => ?_⟩
  have kk := h3 ls H locs a b d
  simp only [List.map_cons] at kk ⊢
  obtain ⟨cf, kf, fi, f, ad, cell, f1, f2, g1, g2, g3, g5, g6⟩ := htb q hq
  have hs0 := X.2.2.2.2.2.2.1
  rw [zvd_2 (zt_eq hx), show x / 8 = q.1 from hqj.symm, g1]
  exact W.getf X.1 X.2.1 X.2.2.2.1 hlink (hsame _ f1) f2 (by rw [b.2.2.2.2.1 ad (by omega) (fun z => by have : sz ≤ ad := z; omega)]; exact g3) g5 g6 rfl rfl hd kk

theorem gI_ialoadS (X : zCtx sz sv cl ar D p R s m args c gw cc own nL n0 ns0 r) {tb : List (Nat × Nat × Nat)} (htb : ∀ q ∈ tb, zSR sz sv ev s .int q.1 q.2.1 q.2.2) (hd : decode cc pc = .ok (.iaload, 1)) : zGd sz sv ev cl ar D p l e R s m args below meth c Q nL n0 ns0 r pc 1 (zAldS tb) := by
  intro k j hk hj L st hp n ns hr
  obtain ⟨i, t, rfl, q1⟩ := zpop_some hr
  clear hr
  obtain ⟨x, t, rfl, hr⟩ := zpop_some q1
  clear q1
  obtain ⟨hi0, hr⟩ := zck_some hr
  obtain ⟨hi31, hr⟩ := zck_some hr
  obtain ⟨hx, hr⟩ := zck_some hr
  obtain ⟨q, hq, hqj, hr⟩ := zas2_some hr
  obtain ⟨hlt, hr⟩ := zck_some hr
  obtain ⟨h1, h2, h3⟩ := hk L _ hp n ns hr
  refine ⟨h1, h2, fun ls H locs a b d => ?_⟩
  have kk := h3 ls H locs a b d
  simp only [List.map_cons] at kk ⊢
  obtain ⟨ad, cell, g1, g2, g3, g4, g5, g6, g7, g8⟩ := htb q hq
  have hs0 := X.2.2.2.2.2.2.1
  have hlt' : i / 8 < q.2.1 := Nat.lt_of_succ_le (Nat.le_of_ble_eq_true hlt)
  rw [zvd_2 (zt_eq hx), show x / 8 = q.1 from hqj.symm, g1, zvd_0 (zt_eq hi0)]
  refine W.iald (v := zvd sz sv ev (zg q.2.2 (i / 8))) X.1 X.2.1 (by rw [b.2.2.2.2.1 ad (by omega) (fun z => by have : sz ≤ ad := z; omega)]; exact g3) g4 g5 ?_ ?_ rfl rfl hd kk
  · rw [g6]; exact zin hlt' (zi31 hi31)
  · rw [nI_clamp (zi31 hi31)]; exact g8 _ hlt'

theorem gI_baloadS (X : zCtx sz sv cl ar D p R s m args c gw cc own nL n0 ns0 r) {tb : List (Nat × Nat × Nat)} (htb : ∀ q ∈ tb, zSR sz sv ev s .byte q.1 q.2.1 q.2.2) (hd : decode cc pc = .ok (.baload, 1)) : zGd sz sv ev cl ar D p l e R s m args below meth c Q nL n0 ns0 r pc 1 (zAldS tb) := by
  intro k j hk hj L st hp n ns hr
  obtain ⟨i, t, rfl, q1⟩ := zpop_some hr
  clear hr
  obtain ⟨x, t, rfl, hr⟩ := zpop_some q1
  clear q1
  obtain ⟨hi0, hr⟩ := zck_some hr
  obtain ⟨hi31, hr⟩ := zck_some hr
  obtain ⟨hx, hr⟩ := zck_some hr
  obtain ⟨q, hq, hqj, hr⟩ := zas2_some hr
  obtain ⟨hlt, hr⟩ := zck_some hr
  obtain ⟨h1, h2, h3⟩ := hk L _ hp n ns hr
  refine ⟨h1, h2, fun ls H locs a b d => ?_⟩
  have kk := h3 ls H locs a b d
  simp only [List.map_cons] at kk ⊢
  obtain ⟨ad, cell, g1, g2, g3, g4, g5, g6, g7, g8⟩ := htb q hq
  have hs0 := X.2.2.2.2.2.2.1
  have hlt' : i / 8 < q.2.1 := Nat.lt_of_succ_le (Nat.le_of_ble_eq_true hlt)
  rw [zvd_2 (zt_eq hx), show x / 8 = q.1 from hqj.symm, g1, zvd_0 (zt_eq hi0)]
  refine W.bald (v := zvd sz sv ev (zg q.2.2 (i / 8))) X.1 X.2.1 (by rw [b.2.2.2.2.1 ad (by omega) (fun z => by have : sz ≤ ad := z; omega)]; exact g3) g4 g5 ?_ ?_ rfl rfl hd kk
  · rw [g6]; exact zin hlt' (zi31 hi31)
  · rw [nI_clamp (zi31 hi31)]; exact g8 _ hlt'

theorem gI_acmp_eq (hs : zSv sv) (X : zCtx sz sv cl ar D p R s m args c gw cc own nL n0 ns0 r) {off : Int} {tg : Nat} (hd : decode cc pc = .ok (.if_acmp .eq off, 3)) (ht : (pc : Int) + off = (tg : Int)) : zGd sz sv ev cl ar D p l e R s m args below meth c Q nL n0 ns0 r pc 3 (zAcmp false tg) := by
  intro k j hk hj L st hp n ns hr
  obtain ⟨y, t, rfl, q1⟩ := zpop_some hr
  clear hr
  obtain ⟨x, t, rfl, hr⟩ := zpop_some q1
  clear q1
  obtain ⟨hx, hr⟩ := zck_some hr
  obtain ⟨hy, hr⟩ := zck_some hr
  obtain ⟨hxy, hfin⟩ := zck_some hr
  clear hr
  have hE := Nat.eq_of_beq_eq_true hxy
  subst hE
  obtain ⟨h1, h2, h3⟩ := hj tg L _ hp n ns hfin
  refine ⟨h1, h2, fun ls H locs a b d => ?_⟩
  have kk := h3 ls H locs a b d
  simp only [List.map_cons]
  have hrf := zgr_eq (sz := sz) (ev := ev) hs hx
  rw [hrf]
  exact lv_acmp_eq X.1 X.2.1 hd ht (fun _ => kk) (fun z => absurd rfl z)

theorem gI_acmp_ne (hs : zSv sv) (X : zCtx sz sv cl ar D p R s m args c gw cc own nL n0 ns0 r) {off : Int} {tg : Nat} (hd : decode cc pc = .ok (.if_acmp .ne off, 3)) (ht : (pc : Int) + off = (tg : Int)) : zGd sz sv ev cl ar D p l e R s m args below meth c Q nL n0 ns0 r pc 3 (zAcmp true tg) := by
  intro k j hk hj L st hp n ns hr
  obtain ⟨y, t, rfl, q1⟩ := zpop_some hr
  clear hr
  obtain ⟨x, t, rfl, hr⟩ := zpop_some q1
  clear q1
  obtain ⟨hx, hr⟩ := zck_some hr
  obtain ⟨hy, hr⟩ := zck_some hr
  obtain ⟨hxy, hfin⟩ := zck_some hr
  clear hr
  have hE := Nat.eq_of_beq_eq_true hxy
  subst hE
  obtain ⟨h1, h2, h3⟩ := hk L _ hp n ns hfin
  refine ⟨h1, h2, fun ls H locs a b d => ?_⟩
  have kk := h3 ls H locs a b d
  simp only [List.map_cons]
  have hrf := zgr_eq (sz := sz) (ev := ev) hs hx
  rw [hrf]
  exact lv_acmp_ne X.1 X.2.1 hd ht (fun z => absurd rfl z) (fun _ => kk)

theorem gI_new (X : zCtx sz sv cl ar D p R s m args c gw cc own nL n0 ns0 r) {C : String} {T : u_T} {N ci index df : Nat} (hlay : ∀ w ∈ u_ws C T N, w.before args s = true) (hc : cl[ci]? = some (C, T, N)) (hci : ci < 64) (ty0 : Nat → FieldType) (hty : ∀ k, k < N → parseFieldDescriptor (T k).2.2.1 = some (ty0 k)) (hdf : ∀ k, k < N → zg df k = zdv (ty0 k)) (hcl : (Cond.classLink own index C).before args s = true) (hinst : (Cond.instantiable C N).before args s = true) (hini : (Cond.initialized C).before args s = true) (hd : decode cc pc = .ok (.new index, 3)) : zGd sz sv ev cl ar D p l e R s m args below meth c Q nL n0 ns0 r pc 3 (zNew ci N df) := by
  intro k j hk hj L st hp n ns hr
  obtain ⟨h1, h2, h3⟩ := hk L _ _ _ _ hr
  have h1' : n + 1 ≤ r.2.2.2.1 := h1
  have h2' : ns + N ≤ r.2.2.2.2 := h2
  refine ⟨by omega, by omega, fun ls H locs a b d => ?_⟩
  have hK := X.2.2.2.2.2.1
  have hn0 : n0 ≤ n := by have g1 := b.2.2.2.1; have g2 := b.2.2.1; have g3 := X.2.2.2.2.2.2.1; omega
  have hRc := X.2.2.2.2.2.2.2.1
  have hRs := X.2.2.2.2.2.2.2.2.1
  refine W.newc X.1 X.2.1 X.2.2.2.1 hcl hinst hini rfl hd (by omega) (by omega) fun cC kC e1 e2 e3 e4 => ?_
  have hKn := hK.1 ci _ hc
  cases hKn.2.1.symm.trans e1
  have kk := h3 ls (H.push { cls := D.1 ci, slots := kC.instanceTypes.map defaultValue, vm := .none }) locs a ?_ (by show ns0 ≤ ns + N; omega)
  · simp only [List.map_cons] at kk
    have e0 : (Nat.add (Nat.mul 8 n) 1) % 8 = 1 := by show (8 * n + 1) % 8 = 1; omega
    have e8 : (Nat.add (Nat.mul 8 n) 1) / 8 = n := by show (8 * n + 1) / 8 = n; omega
    rw [zvd_1 e0, e8, ← b.2.2.1] at kk
    have c1 : n - n0 + 1 = Nat.succ n - n0 := by omega
    have c2 : ns - ns0 + N = Nat.add ns N - ns0 := by show ns - ns0 + N = ns + N - ns0; omega
    rw [c1, c2]
    exact kk
  · refine zInv_push b rfl ?_ (Array.size_push ..) (fun q hq => by rw [Array.getElem?_push, if_neg (Nat.ne_of_lt hq)])
    rw [zent_obj rfl hci, znf_eq hc, ← b.2.2.1]
    have hcell : (H.push { cls := D.1 ci, slots := kC.instanceTypes.map defaultValue, vm := .none })[H.size]? = some (blank (D.1 ci) kC) := by rw [Array.getElem?_push_size]; rfl
    refine ⟨_, hc, (u_born ty0 hlay (fun _ h => h) hKn e2 hcell hty).to (fun j hj => ?_)⟩
    unfold vp_V
    rw [List.getD_eq_getElem?_getD, List.getElem?_map, List.getElem?_range hj]
    show _ = zvd sz sv ev (zg df j)
    rw [hdf j hj, zdv_eq]

theorem gI_newarray_int (X : zCtx sz sv cl ar D p R s m args c gw cc own nL n0 ns0 r) (harr : (Cond.arrayClass (newarray.typeOf .int)).before args s = true) (hd : decode cc pc = .ok (.newarray .int, 2)) : zGd sz sv ev cl ar D p l e R s m args below meth c Q nL n0 ns0 r pc 2 (zNewA 64) := by
  intro k j hk hj L st hp n ns hr
  obtain ⟨x, t, rfl, q1⟩ := zpop_some hr
  clear hr
  obtain ⟨hx, hr⟩ := zck_some q1
  obtain ⟨hb, hr⟩ := zck_some hr
  obtain ⟨h1, h2, h3⟩ := hk L _ _ _ _ hr
  have h1' : n + 1 ≤ r.2.2.2.1 := h1
  have h2' : ns + x / 8 ≤ r.2.2.2.2 := h2
  refine ⟨by omega, by omega, fun ls H locs a b d => ?_⟩
  have hK := X.2.2.2.2.2.1
  have hn0 : n0 ≤ n := by have g1 := b.2.2.2.1; have g2 := b.2.2.1; have g3 := X.2.2.2.2.2.2.1; omega
  have hRc := X.2.2.2.2.2.2.2.1
  have hRs := X.2.2.2.2.2.2.2.2.1
  have hb' : x + 1 ≤ 240000000 := Nat.le_of_ble_eq_true hb
  have hx31 : x / 8 < 2 ^ 31 := by omega
  have hcl := nI_clamp hx31
  simp only [List.map_cons]
  rw [zvd_0 (zt_eq hx)]
  refine W.newa X.1 X.2.1 harr rfl hd rfl (nI_pos hx31) (by rw [hcl]; show x / 8 * 4 ≤ _; omega) (by omega) (by rw [hcl]; omega) fun cA kA comp e1 e2 e3 => ?_
  rw [hcl]
  have hAr := (hK.2 0 _ rfl).2
  have hcA : ar.1 = cA := Option.some.inj (hAr.symm.trans e1)
  subst hcA
  have kk := h3 ls (H.push { cls := ar.1, slots := Array.replicate (x / 8) (defaultValue (newarray.typeOf .int)), vm := .none }) locs a ?_ (by show ns0 ≤ ns + x / 8; omega)
  · simp only [List.map_cons] at kk
    have e0 : (Nat.add (Nat.mul 8 n) 1) % 8 = 1 := by show (8 * n + 1) % 8 = 1; omega
    have e8 : (Nat.add (Nat.mul 8 n) 1) / 8 = n := by show (8 * n + 1) / 8 = n; omega
    rw [zvd_1 e0, e8, ← b.2.2.1] at kk
    have c1 : n - n0 + 1 = Nat.succ n - n0 := by omega
    have c2 : ns - ns0 + x / 8 = Nat.add ns (Nat.div x 8) - ns0 := by show ns - ns0 + x / 8 = ns + x / 8 - ns0; omega
    rw [c1, c2]
    exact kk
  · refine zInv_push b rfl ?_ (Array.size_push ..) (fun q hq => by rw [Array.getElem?_push, if_neg (Nat.ne_of_lt hq)])
    rw [← b.2.2.1]
    unfold zent
    rw [if_pos rfl]
    show _ = some (vp_cell _ _)
    rw [Array.getElem?_push_size, arrV_new, vp_cell_i]
    congr 2
    funext q
    show _ = Value.int (zgi sz sv ev (zg 0 q))
    rw [zg_0]
    rfl

theorem gI_newarray_boolean (X : zCtx sz sv cl ar D p R s m args c gw cc own nL n0 ns0 r) (harr : (Cond.arrayClass (newarray.typeOf .boolean)).before args s = true) (hd : decode cc pc = .ok (.newarray .boolean, 2)) : zGd sz sv ev cl ar D p l e R s m args below meth c Q nL n0 ns0 r pc 2 (zNewA 65) := by
  intro k j hk hj L st hp n ns hr
  obtain ⟨x, t, rfl, q1⟩ := zpop_some hr
  clear hr
  obtain ⟨hx, hr⟩ := zck_some q1
  obtain ⟨hb, hr⟩ := zck_some hr
  obtain ⟨h1, h2, h3⟩ := hk L _ _ _ _ hr
  have h1' : n + 1 ≤ r.2.2.2.1 := h1
  have h2' : ns + x / 8 ≤ r.2.2.2.2 := h2
  refine ⟨by omega, by omega, fun ls H locs a b d => ?_⟩
  have hK := X.2.2.2.2.2.1
  have hn0 : n0 ≤ n := by have g1 := b.2.2.2.1; have g2 := b.2.2.1; have g3 := X.2.2.2.2.2.2.1; omega
  have hRc := X.2.2.2.2.2.2.2.1
  have hRs := X.2.2.2.2.2.2.2.2.1
  have hb' : x + 1 ≤ 240000000 := Nat.le_of_ble_eq_true hb
  have hx31 : x / 8 < 2 ^ 31 := by omega
  have hcl := nI_clamp hx31
  simp only [List.map_cons]
  rw [zvd_0 (zt_eq hx)]
  refine W.newa X.1 X.2.1 harr rfl hd rfl (nI_pos hx31) (by rw [hcl]; show x / 8 * 1 ≤ _; omega) (by omega) (by rw [hcl]; omega) fun cA kA comp e1 e2 e3 => ?_
  rw [hcl]
  have hAr := (hK.2 1 _ rfl).2
  have hcA : ar.2.1 = cA := Option.some.inj (hAr.symm.trans e1)
  subst hcA
  have kk := h3 ls (H.push { cls := ar.2.1, slots := Array.replicate (x / 8) (defaultValue (newarray.typeOf .boolean)), vm := .none }) locs a ?_ (by show ns0 ≤ ns + x / 8; omega)
  · simp only [List.map_cons] at kk
    have e0 : (Nat.add (Nat.mul 8 n) 1) % 8 = 1 := by show (8 * n + 1) % 8 = 1; omega
    have e8 : (Nat.add (Nat.mul 8 n) 1) / 8 = n := by show (8 * n + 1) / 8 = n; omega
    rw [zvd_1 e0, e8, ← b.2.2.1] at kk
    have c1 : n - n0 + 1 = Nat.succ n - n0 := by omega
    have c2 : ns - ns0 + x / 8 = Nat.add ns (Nat.div x 8) - ns0 := by show ns - ns0 + x / 8 = ns + x / 8 - ns0; omega
    rw [c1, c2]
    exact kk
  · refine zInv_push b rfl ?_ (Array.size_push ..) (fun q hq => by rw [Array.getElem?_push, if_neg (Nat.ne_of_lt hq)])
    rw [← b.2.2.1]
    unfold zent
    rw [if_neg (show ¬ (65 : Nat) = 64 by decide), if_pos rfl]
    show _ = some (vp_cell _ _)
    rw [Array.getElem?_push_size, arrV_new, vp_cell_i]
    congr 2
    funext q
    show _ = Value.int (zgi sz sv ev (zg 0 q))
    rw [zg_0]
    rfl

theorem gI_newarray_long (X : zCtx sz sv cl ar D p R s m args c gw cc own nL n0 ns0 r) (harr : (Cond.arrayClass (newarray.typeOf .long)).before args s = true) (hd : decode cc pc = .ok (.newarray .long, 2)) : zGd sz sv ev cl ar D p l e R s m args below meth c Q nL n0 ns0 r pc 2 (zNewA 66) := by
  intro k j hk hj L st hp n ns hr
  obtain ⟨x, t, rfl, q1⟩ := zpop_some hr
  clear hr
  obtain ⟨hx, hr⟩ := zck_some q1
  obtain ⟨hb, hr⟩ := zck_some hr
  obtain ⟨h1, h2, h3⟩ := hk L _ _ _ _ hr
  have h1' : n + 1 ≤ r.2.2.2.1 := h1
  have h2' : ns + x / 8 ≤ r.2.2.2.2 := h2
  refine ⟨by omega, by omega, fun ls H locs a b d => ?_⟩
  have hK := X.2.2.2.2.2.1
  have hn0 : n0 ≤ n := by have g1 := b.2.2.2.1; have g2 := b.2.2.1; have g3 := X.2.2.2.2.2.2.1; omega
  have hRc := X.2.2.2.2.2.2.2.1
  have hRs := X.2.2.2.2.2.2.2.2.1
  have hb' : x + 1 ≤ 240000000 := Nat.le_of_ble_eq_true hb
  have hx31 : x / 8 < 2 ^ 31 := by omega
  have hcl := nI_clamp hx31
  simp only [List.map_cons]
  rw [zvd_0 (zt_eq hx)]
  refine W.newa X.1 X.2.1 harr rfl hd rfl (nI_pos hx31) (by rw [hcl]; show x / 8 * 8 ≤ _; omega) (by omega) (by rw [hcl]; omega) fun cA kA comp e1 e2 e3 => ?_
  rw [hcl]
  have hAr := (hK.2 2 _ rfl).2
  have hcA : ar.2.2.1 = cA := Option.some.inj (hAr.symm.trans e1)
  subst hcA
  have kk := h3 ls (H.push { cls := ar.2.2.1, slots := Array.replicate (x / 8) (defaultValue (newarray.typeOf .long)), vm := .none }) locs a ?_ (by show ns0 ≤ ns + x / 8; omega)
  · simp only [List.map_cons] at kk
    have e0 : (Nat.add (Nat.mul 8 n) 1) % 8 = 1 := by show (8 * n + 1) % 8 = 1; omega
    have e8 : (Nat.add (Nat.mul 8 n) 1) / 8 = n := by show (8 * n + 1) / 8 = n; omega
    rw [zvd_1 e0, e8, ← b.2.2.1] at kk
    have c1 : n - n0 + 1 = Nat.succ n - n0 := by omega
    have c2 : ns - ns0 + x / 8 = Nat.add ns (Nat.div x 8) - ns0 := by show ns - ns0 + x / 8 = ns + x / 8 - ns0; omega
    rw [c1, c2]
    exact kk
  · refine zInv_push b rfl ?_ (Array.size_push ..) (fun q hq => by rw [Array.getElem?_push, if_neg (Nat.ne_of_lt hq)])
    rw [← b.2.2.1]
    unfold zent
    rw [if_neg (show ¬ (66 : Nat) = 64 by decide), if_neg (show ¬ (66 : Nat) = 65 by decide), if_pos rfl]
    show _ = some (vp_cell _ _)
    rw [Array.getElem?_push_size, arrV_new, vp_cell_l]
    congr 2
    funext q
    show _ = Value.long (zgl sz sv ev (Nat.xor (zg 0 q) 4))
    rw [zg_0]
    rfl

theorem gI_newarray_double (X : zCtx sz sv cl ar D p R s m args c gw cc own nL n0 ns0 r) (harr : (Cond.arrayClass (newarray.typeOf .double)).before args s = true) (hd : decode cc pc = .ok (.newarray .double, 2)) : zGd sz sv ev cl ar D p l e R s m args below meth c Q nL n0 ns0 r pc 2 (zNewA 67) := by
  intro k j hk hj L st hp n ns hr
  obtain ⟨x, t, rfl, q1⟩ := zpop_some hr
  clear hr
  obtain ⟨hx, hr⟩ := zck_some q1
  obtain ⟨hb, hr⟩ := zck_some hr
  obtain ⟨h1, h2, h3⟩ := hk L _ _ _ _ hr
  have h1' : n + 1 ≤ r.2.2.2.1 := h1
  have h2' : ns + x / 8 ≤ r.2.2.2.2 := h2
  refine ⟨by omega, by omega, fun ls H locs a b d => ?_⟩
  have hK := X.2.2.2.2.2.1
  have hn0 : n0 ≤ n := by have g1 := b.2.2.2.1; have g2 := b.2.2.1; have g3 := X.2.2.2.2.2.2.1; omega
  have hRc := X.2.2.2.2.2.2.2.1
  have hRs := X.2.2.2.2.2.2.2.2.1
  have hb' : x + 1 ≤ 240000000 := Nat.le_of_ble_eq_true hb
  have hx31 : x / 8 < 2 ^ 31 := by omega
  have hcl := nI_clamp hx31
  simp only [List.map_cons]
  rw [zvd_0 (zt_eq hx)]
  refine W.newa X.1 X.2.1 harr rfl hd rfl (nI_pos hx31) (by rw [hcl]; show x / 8 * 8 ≤ _; omega) (by omega) (by rw [hcl]; omega) fun cA kA comp e1 e2 e3 => ?_
  rw [hcl]
  have hAr := (hK.2 3 _ rfl).2
  have hcA : ar.2.2.2.1 = cA := Option.some.inj (hAr.symm.trans e1)
  subst hcA
  have kk := h3 ls (H.push { cls := ar.2.2.2.1, slots := Array.replicate (x / 8) (defaultValue (newarray.typeOf .double)), vm := .none }) locs a ?_ (by show ns0 ≤ ns + x / 8; omega)
  · simp only [List.map_cons] at kk
    have e0 : (Nat.add (Nat.mul 8 n) 1) % 8 = 1 := by show (8 * n + 1) % 8 = 1; omega
    have e8 : (Nat.add (Nat.mul 8 n) 1) / 8 = n := by show (8 * n + 1) / 8 = n; omega
    rw [zvd_1 e0, e8, ← b.2.2.1] at kk
    have c1 : n - n0 + 1 = Nat.succ n - n0 := by omega
    have c2 : ns - ns0 + x / 8 = Nat.add ns (Nat.div x 8) - ns0 := by show ns - ns0 + x / 8 = ns + x / 8 - ns0; omega
    rw [c1, c2]
    exact kk
  · refine zInv_push b rfl ?_ (Array.size_push ..) (fun q hq => by rw [Array.getElem?_push, if_neg (Nat.ne_of_lt hq)])
    rw [← b.2.2.1]
    unfold zent
    rw [if_neg (show ¬ (67 : Nat) = 64 by decide), if_neg (show ¬ (67 : Nat) = 65 by decide), if_neg (show ¬ (67 : Nat) = 66 by decide), if_pos rfl]
    show _ = some (vp_cell _ _)
    rw [Array.getElem?_push_size, arrV_new, vp_cell_d]
    rfl

theorem gI_anewarray (X : zCtx sz sv cl ar D p R s m args c gw cc own nL n0 ns0 r) {index : Nat} (hclink : (Cond.classLink own index "java/lang/Object").before args s = true) (hover : (Cond.arrayOver (.object "java/lang/Object")).before args s = true) (hd : decode cc pc = .ok (.anewarray index, 3)) : zGd sz sv ev cl ar D p l e R s m args below meth c Q nL n0 ns0 r pc 3 zNewO := by
  intro k j hk hj L st hp n ns hr
  obtain ⟨x, t, rfl, q1⟩ := zpop_some hr
  clear hr
  obtain ⟨hx, hr⟩ := zck_some q1
  obtain ⟨hb, hr⟩ := zck_some hr
  obtain ⟨h1, h2, h3⟩ := hk L _ _ _ _ hr
  have h1' : n + 1 ≤ r.2.2.2.1 := h1
  have h2' : ns + x / 8 ≤ r.2.2.2.2 := h2
  refine ⟨by omega, by omega, fun ls H locs a b d => ?_⟩
  have hK := X.2.2.2.2.2.1
  have hn0 : n0 ≤ n := by have g1 := b.2.2.2.1; have g2 := b.2.2.1; have g3 := X.2.2.2.2.2.2.1; omega
  have hRc := X.2.2.2.2.2.2.2.1
  have hRs := X.2.2.2.2.2.2.2.2.1
  have hb' : x + 1 ≤ 240000000 := Nat.le_of_ble_eq_true hb
  have hx31 : x / 8 < 2 ^ 31 := by omega
  have hcl := nI_clamp hx31
  simp only [List.map_cons]
  rw [zvd_0 (zt_eq hx)]
  refine W.anew X.1 X.2.1 X.2.2.2.1 hclink hover rfl hd rfl (nI_pos hx31) (by rw [hcl]; omega) (by omega) (by rw [hcl]; omega) fun cA kA comp e1 e2 e3 e4 => ?_
  rw [hcl]
  obtain ⟨kA', comp', g1, g2, g3, g4⟩ := (hK.2 4 _ rfl).2
  have hcA : ar.2.2.2.2 = cA := Option.some.inj (g4.symm.trans e1)
  subst hcA
  have kk := h3 ls (H.push { cls := ar.2.2.2.2, slots := Array.replicate (x / 8) .null, vm := .none }) locs a ?_ (by show ns0 ≤ ns + x / 8; omega)
  · simp only [List.map_cons] at kk
    have e0 : (Nat.add (Nat.mul 8 n) 1) % 8 = 1 := by show (8 * n + 1) % 8 = 1; omega
    have e8 : (Nat.add (Nat.mul 8 n) 1) / 8 = n := by show (8 * n + 1) / 8 = n; omega
    rw [zvd_1 e0, e8, ← b.2.2.1] at kk
    have c1 : n - n0 + 1 = Nat.succ n - n0 := by omega
    have c2 : ns - ns0 + x / 8 = Nat.add ns (Nat.div x 8) - ns0 := by show ns - ns0 + x / 8 = ns + x / 8 - ns0; omega
    rw [c1, c2]
    exact kk
  · refine zInv_push b rfl ?_ (Array.size_push ..) (fun q hq => by rw [Array.getElem?_push, if_neg (Nat.ne_of_lt hq)])
    rw [← b.2.2.1]
    unfold zent
    rw [if_neg (show ¬ (68 : Nat) = 64 by decide), if_neg (show ¬ (68 : Nat) = 65 by decide), if_neg (show ¬ (68 : Nat) = 66 by decide), if_neg (show ¬ (68 : Nat) = 67 by decide), if_pos rfl]
    show _ = some (vp_cell _ _)
    rw [Array.getElem?_push_size, arrV_new, vp_cell_q]
    congr 2
    funext q
    show _ = va_rf (zgr sz sv ev (Nat.xor (zg 0 q) 3))
    rw [zg_0]
    rfl

theorem gI_castI (X : zCtx sz sv cl ar D p R s m args c gw cc own nL n0 ns0 r) {nm : String} {index : Nat} (hlink : (Cond.classLink own index nm).before args s = true) (hnm : s.vm.findClass nm = some ar.1) (hd : decode cc pc = .ok (.checkcast index, 3)) : zGd sz sv ev cl ar D p l e R s m args below meth c Q nL n0 ns0 r pc 3 (zCastA 64) := by
  intro k j hk hj L st hp n ns hr
  obtain ⟨x, t, rfl, q1⟩ := zpop_some hr
  clear hr
  obtain ⟨hx, hr⟩ := zck_some q1
  obtain ⟨w, c0, hw, hid, hr⟩ := zfind_some hr
  obtain ⟨hkd, hr⟩ := zck_some hr
  obtain ⟨h1, h2, h3⟩ := hk L _ hp n ns hr
  refine ⟨h1, h2, fun ls H locs a b d => ?_⟩
  have kk := h3 ls H locs a b d
  simp only [List.map_cons] at kk ⊢
  rw [zaddr (hp := hp) (i := w) hid (zt_eq hx)] at kk ⊢
  have he := zren_at (sz := sz) (sv := sv) (ev := ev) (cl := cl) (ar := ar) hw
  unfold zent at he
  rw [if_pos (Nat.eq_of_beq_eq_true hkd)] at he
  exact va_castA X.1 X.2.1 X.2.2.2.1 hlink b.1 w he hnm hd kk
theorem gI_getstatic (X : zCtx sz sv cl ar D p R s m args c gw cc own nL n0 ns0 r) {C nm de ref : String} {v index : Nat} (hZ : va_Z C nm de (zvd sz sv ev v) (zA sz) s s.heap) (hlink : (Cond.fieldLink own index ref nm de).before args s = true) (hsame : ∀ x, s.fieldFound? C nm de = some x → s.fieldFound? ref nm de = some x) (hd : decode cc pc = .ok (.getstatic index, 3)) : zGd sz sv ev cl ar D p l e R s m args below meth c Q nL n0 ns0 r pc 3 (zPush v) := by
  intro k j hk hj L st hp n ns hr
  obtain ⟨h1, h2, h3⟩ := hk L (v :: st) hp n ns hr
  exact ⟨h1, h2, fun ls H locs a b d => va_gets X.1 X.2.1 hZ b.2.2.2 X.2.2.2.1 hlink hsame hd (h3 ls H locs a b d)⟩
theorem gI_ldcS (X : zCtx sz sv cl ar D p R s m args c gw cc own nL n0 ns0 r) {tx : String} {v index a : Nat} (hv : zvd sz sv ev v = .ref a) (hZ : vk_R own index tx a s) (hd : decode cc pc = .ok (.ldc index, 2)) : zGd sz sv ev cl ar D p l e R s m args below meth c Q nL n0 ns0 r pc 2 (zPush v) :=
  gPush X fun ls H locs cells slots st k => va_ldcS X.1 X.2.1 X.2.2.2.1 hZ hd (by rw [hv] at k; exact k)
theorem gI_ldc (X : zCtx sz sv cl ar D p R s m args c gw cc own nL n0 ns0 r) {x : Int32} {v index : Nat} (hc : (Jvm.Cond.constant own index x).before args s = true) (hv : v % 8 = 0) (he : x = nI (v / 8)) (hd : decode cc pc = .ok (.ldc index, 2)) : zGd sz sv ev cl ar D p l e R s m args below meth c Q nL n0 ns0 r pc 2 (zPush v) :=
  gPush X fun ls H locs cells slots st k => lv_ldc X.1 X.2.1 X.2.2.2.1 hc hd (by rw [zvd_0 hv, ← he] at k; exact k)
theorem gI_ldcw (X : zCtx sz sv cl ar D p R s m args c gw cc own nL n0 ns0 r) {x : Int32} {v index : Nat} (hc : (Jvm.Cond.constant own index x).before args s = true) (hv : v % 8 = 0) (he : x = nI (v / 8)) (hd : decode cc pc = .ok (.ldc_w index, 3)) : zGd sz sv ev cl ar D p l e R s m args below meth c Q nL n0 ns0 r pc 3 (zPush v) :=
  gPush X fun ls H locs cells slots st k => lv_ldcw X.1 X.2.1 X.2.2.2.1 hc hd (by rw [zvd_0 hv, ← he] at k; exact k)
theorem gI_ldcf (X : zCtx sz sv cl ar D p R s m args c gw cc own nL n0 ns0 r) {x : UInt32} {v index : Nat} (hc : (Jvm.Cond.constantFloat own index x).before args s = true) (hv : v % 8 = 5) (he : x = UInt32.ofNat (v / 8)) (hd : decode cc pc = .ok (.ldc index, 2)) : zGd sz sv ev cl ar D p l e R s m args below meth c Q nL n0 ns0 r pc 2 (zPush v) :=
  gPush X fun ls H locs cells slots st k => lv_ldcf X.1 X.2.1 X.2.2.2.1 hc hd (by rw [zvd_5 hv, ← he] at k; exact k)
theorem gI_fconst0 (X : zCtx sz sv cl ar D p R s m args c gw cc own nL n0 ns0 r) {v : Nat} (hv : v % 8 = 5) (he : FP.fconst0 = UInt32.ofNat (v / 8)) (hd : decode cc pc = .ok (.fconst 0, 1)) : zGd sz sv ev cl ar D p l e R s m args below meth c Q nL n0 ns0 r pc 1 (zPush v) :=
  gPush X fun ls H locs cells slots st k => lv_fconst0 X.1 X.2.1 hd (by rw [zvd_5 hv, ← he] at k; exact k)
theorem gI_dconst0 (X : zCtx sz sv cl ar D p R s m args c gw cc own nL n0 ns0 r) {v : Nat} (hv : v % 8 = 6) (he : FP.dconst0 = UInt64.ofNat (v / 8)) (hd : decode cc pc = .ok (.dconst 0, 1)) : zGd sz sv ev cl ar D p l e R s m args below meth c Q nL n0 ns0 r pc 1 (zPush v) :=
  gPush X fun ls H locs cells slots st k => lv_dconst0 X.1 X.2.1 hd (by rw [zvd_6 hv, ← he] at k; exact k)

end ZB
end
section
section ZT
variable {p : Program} {l : Launch} {e : Env} {R : Room} {s : State} {m : MethodId} {args : Array Value} {below : List Frame} {meth : Method} {c : Code} {H : Heap} {locs : List Loc} {cells slots : Nat} {Q : State → Prop}
variable {mc ms : Nat} {free : Addr → Prop} {A0 A1 : Nat → Prop} {H0 : Heap} {a : Array Value} {ls : Array Slot} {st0 rest : List Value}
variable {Qc : Array Value → State → Outcome → State → Prop} {XC : String → State → State → Prop}
/-! as the kit's vx_throw0, with the heap's size told exactly -/
theorem zz_throw0 {cc : ByteArray} {pc : Nat} (hexec : p.tables.exec = Jvm.exec) (hb : c.code = cc) (hl : l.stackTraces = false) {own cls : String} {names : List String} {ik ic mc ms : Nat} {A : Nat → Prop}
    (hown : s.vm.findClass own = some m.cls) (hcls : Bundle.fit cls = true) (hnames : ∀ n ∈ names, Bundle.fit n = true)
    (hk : (Cond.classLink own ik cls).before args s = true) (hini : (Cond.initialized cls).before args s = true) (hat : ∀ w ∈ vx_at0 own ic cls names, w.before args s = true)
    (hgood : ∀ w ∈ Cond.classLink own ik cls :: Cond.initialized cls :: vx_at0 own ic cls names, vx_ot w = true)
    (hU : vx_Zq Bundle.tN "UNASSIGNED_STACK" Bundle.steD A s s.heap) (hN : vx_Zq Bundle.tN "SUPPRESSED_SENTINEL" Bundle.listD A s s.heap) (hS : va_S A s.heap H locs) (hsize : ls.size = c.maxLocals)
    (d0 : decode cc pc = .ok (.new ik, 3)) (d3 : decode cc (pc + 3) = .ok (.dup, 1)) (d4 : decode cc (pc + 4) = .ok (.invokespecial ic, 3)) (d7 : decode cc (pc + 7) = .ok (.athrow, 1))
    (hout : ∀ x ∈ c.exceptionTable.toList, covers x (pc + 7) = false)
    (hRframes : names.length + 3 < R.frames) (hRlocals : (rest.map fun v => v.category).sum + (13 * (names.length + 1) + 42) ≤ R.locals) (hRcells : cells + 1 ≤ R.cells) (hRslots : slots + 6 ≤ R.slots) (hlocks : meth.locks = false)
    (hx : ∀ t : State, s.vm.Alike t.vm → t.heap.size = H.size + 1 → (∀ q : Nat, q < H.size → t.heap[q]? = H[q]?) → XC cls s t)
    (hf : ∀ z ∈ locs, free z.base) (hc : cells + 1 ≤ mc) (hs : slots + 6 ≤ ms) :
    W p l e R s m args below meth c H locs cells slots (vx_MQ below Qc XC args s mc ms free) (F0 m pc ls rest) := by
  intro T hT X
  have htr : e.platform.stackTraces = false := (show e.platform.stackTraces = l.stackTraces by rw [X.admits.platform]).trans hl
  have Y := vx_rebase X (R' := { frames := R.frames, locals := R.locals, cells := 1, slots := 6 }) (Nat.le_refl _) (Nat.le_refl _) hRcells hRslots
  obtain ⟨s', hA⟩ : ∃ z, z = (T.setVm s.vm).setFrames (.invoking m args :: below) := ⟨_, rfl⟩
  rw [← hA] at Y
  have hvm : s'.vm = s.vm := by rw [hA]; rfl
  have hhp : s'.heap = H := by rw [hA]; exact hT
  have hW0 : s.WarmedH s'.vm := by rw [hvm]; exact State.WarmedH.refl s
  have hat' : ∀ w ∈ vx_at0 own ic cls names, w.before args s' = true := fun w hw => vx_ot_at hW0 hvm.symm (hgood w (List.mem_cons_of_mem _ (List.mem_cons_of_mem _ hw))) (hat w hw)
  have hk' : (Cond.classLink own ik cls).before args s' = true := vx_ot_at hW0 hvm.symm (hgood _ List.mem_cons_self) hk
  have hini' : (Cond.initialized cls).before args s' = true := vx_ot_at hW0 hvm.symm (hgood _ (List.mem_cons_of_mem _ List.mem_cons_self)) hini
  have hU' : vx_Zq Bundle.tN "UNASSIGNED_STACK" Bundle.steD A s' s'.heap := by rw [hhp]; exact vx_Zq.moved hW0.alike (hU.kept hS.2.1)
  have hN' : vx_Zq Bundle.tN "SUPPRESSED_SENTINEL" Bundle.listD A s' s'.heap := by rw [hhp]; exact vx_Zq.moved hW0.alike (hN.kept hS.2.1)
  have h : ∀ w ∈ Bundle.ownAtoms0 own ic cls names, w.before args s' = true := vx_own hat' (vx_isRefq hU'.1) (vx_isRefq hN'.1) hU'.2.word hN'.2.word
  have hown' : s'.vm.findClass own = some m.cls := by rw [hvm]; exact hown
  have hins : (Cond.instantiable cls 6).before args s' = true := h _ (by simp [Bundle.ownAtoms0])
  obtain ⟨vm₁, cX, kX, hfX, hkX, -, -, X₁, st1⟩ := Y.newCold hexec (own := own) (C := cls) (index := ik) (n := 6) hown' hk' hins hini'
    (g := F0 m pc ls rest) rfl (by rw [hb]; exact d0) (Nat.le_refl _) (Nat.le_refl _)
  generalize hT1 : (T.setVm vm₁).pushCell { cls := cX, slots := kX.instanceTypes.map defaultValue, vm := .none } = T1 at X₁ st1
  have hcat : (Value.ref T.heap.size).category = 1 := rfl
  have hcellA : T1.heap[T.heap.size]? = some (freshCell cX kX) := by rw [← hT1]; exact State.heap_pushCell_size _ _
  have d3' : decode c.code (pc + 3) = .ok (.dup, 1) := by rw [hb]; exact d3
  obtain ⟨U, hsteps, hrun, hend, hW, hsame, ce, hce, hO⟩ := X₁.ctorThrow0 hexec htr (own := own) (cls := cls) (names := names) (ic := ic) hown' hcls hnames h (fun x hx => nomatch hx) hfX hkX hcellA (by rw [hhp, hT]; exact Nat.le_refl _)
    (g := { method := m, pc := pc + 4, locals := ls, stack := .ref T.heap.size :: .ref T.heap.size :: rest, locked := none }) rfl hsize rfl rfl (rest := rest) rfl
    (by rw [hb]; exact d4) (by rw [hb]; exact d7) hout hRframes (by simp only [List.map_cons, List.sum_cons, hcat]; omega) hlocks
  obtain ⟨f1, f2⟩ := vx_frame hsame
  rw [hhp] at f1 f2
  have f3 : U.heap.size = H.size + 1 := by
    obtain ⟨-, -, g3, -⟩ := id hsame
    rw [hhp] at g3
    have g4 : T.heap.size < U.heap.size := (Array.getElem?_eq_some_iff.mp hce).1
    rw [hT] at g4
    have g3' : U.heap.size ≤ H.size + 1 := by simpa using g3
    omega
  have hWs : s.WarmedH U.vm := State.WarmedH.trans hW0 hW
  have hcl : s.vm.findClass cls = some ce.cls := by
    have h9 := hO.cls
    rw [hvm] at h9
    exact h9
  have hall : s.sameButNew ({ U with vm := s.vm } : State) locs mc ms := by
    subst hA
    obtain ⟨e1, e2⟩ := hsame
    rw [State.setFrames_setFrames] at e1
    have h2 : (T.setVm s.vm).sameButNew ({ U with vm := s.vm } : State) [] (0 + 1) (0 + 6) := ⟨e1, e2⟩
    have h3 := X.same.trans h2
    rw [List.append_nil] at h3
    exact h3.mono hc hs
  refine ⟨U, ?_, .threw T.heap.size, hrun, hend, Or.inr ⟨T.heap.size, rfl, cls, ce, locs, hx U hWs.alike f3 (fun q hq => f2 q hq (fun z hz => nomatch hz)), hce, hO.vm, hcl, hWs, hall, hf⟩⟩
  refine st1 _ ?_
  show Steps p.tables e below (T1.setTop { method := m, pc := pc + 3, locals := ls, stack := .ref T.heap.size :: rest, locked := none }) _
  jvm_step X₁.here [X₁.here.top, hexec, d3', Value.category]
  exact hsteps
end ZT
end
section
/-! calls: a method's contract says what the evaluator finds of it -/
/-- methods by number: name, code, locals, answer's type -/
abbrev zMt : Type := Nat → MethodName × ByteArray × Nat × Option FieldType
abbrev zCal : Type := Nat → List Nat → zHp → Nat → Nat → zR
def zrm (d mc ms : Nat) : Room := { frames := d + 10, cells := mc, slots := ms, locals := 64 * d + 200 }
section ZM
variable (sz : Nat) (sv : Nat → Value) (ev : Nat → Int32) (cl : List vw_C) (ar : zAr) (D : va_G) (G : State → Prop) (ex : Nat → String)
def zPc (avs : List Nat) (hp : zHp) (n : Nat) : Array Value → State → Prop := fun a U => a = (avs.map (zvd sz sv ev)).toArray ∧ G U ∧ va_P D cl (zren sz sv ev cl ar hp) U.heap ∧ zwf n hp ∧ U.heap.size = sz + n
def zXC (r : zOut) : String → State → State → Prop := fun E st t => E = ex r.2.1 ∧ zPost sz sv ev cl ar D r st t
def zCon (l : Launch) (gw : List Cond) (mt : zMt) (d i : Nat) (avs : List Nat) (hp : zHp) (n ns : Nat) (r : zOut) : Prop :=
  if r.1 = 2 then vx_Met l (mt i).1 (Cond.code (mt i).1 (mt i).2.1 (mt i).2.2.1 (mt i).2.2.2 :: gw) (zrm d (r.2.2.2.1 - n) (r.2.2.2.2 - ns)) (zPc sz sv ev cl ar D G avs hp n) (fun _ _ _ _ => False) (zXC sz sv ev cl ar D ex r) (r.2.2.2.1 - n) (r.2.2.2.2 - ns) (zA sz)
  else Met l (mt i).1 (Cond.code (mt i).1 (mt i).2.1 (mt i).2.2.1 (mt i).2.2.2 :: gw) (zrm d (r.2.2.2.1 - n) (r.2.2.2.2 - ns)) (zPc sz sv ev cl ar D G avs hp n) (zQc sz sv ev cl ar D r) (r.2.2.2.1 - n) (r.2.2.2.2 - ns) (zA sz)
def zCok (l : Launch) (gw : List Cond) (mt : zMt) (d : Nat) (cal : zCal) : Prop := ∀ i avs hp n ns r, cal i avs hp n ns = some r → n ≤ r.2.2.2.1 ∧ ns ≤ r.2.2.2.2 ∧ zCon sz sv ev cl ar D G ex l gw mt d i avs hp n ns r
/-- the state's own facts stay while the tables warm and what was there stays -/
def zGm : Prop := ∀ s U : State, G s → s.WarmedH U.vm → (∀ q : Nat, q < sz → U.heap[q]? = s.heap[q]?) → G U
end ZM
/-- what a call's outcome does -/
noncomputable def zout (o : zOut) (k0 : zR) (k1 : zR) (k2 : zR) : zR := Nat.rec (motive := fun _ => zR) k0 (fun m _ => Nat.rec (motive := fun _ => zR) k1 (fun m _ => Nat.rec (motive := fun _ => zR) k2 (fun _ _ => none) m) m) o.1
theorem zout_some {o : zOut} {k0 k1 k2 : zR} {r : zOut} (h : zout o k0 k1 k2 = some r) : (o.1 = 0 ∧ k0 = some r) ∨ (o.1 = 1 ∧ k1 = some r) ∨ (o.1 = 2 ∧ k2 = some r) := by
  obtain ⟨a, b⟩ := o
  match a, h with
  | 0, h => exact Or.inl ⟨rfl, h⟩
  | 1, h => exact Or.inr (Or.inl ⟨rfl, h⟩)
  | 2, h => exact Or.inr (Or.inr ⟨rfl, h⟩)
  | n + 3, h => cases h
noncomputable def zbind (x : zR) (k : zOut → zR) : zR := Option.rec (motive := fun _ => zR) none (fun o => k o) x
theorem zbind_some {x : zR} {k : zOut → zR} {r : zOut} (h : zbind x k = some r) : ∃ o, x = some o ∧ k o = some r := by
  cases x with
  | none => cases h
  | some o => exact ⟨o, rfl, h⟩
/-- so many values off the stack, the last pushed first -/
noncomputable def ztake (na : Nat) : List Nat → List Nat → (List Nat → List Nat → zR) → zR := Nat.rec (motive := fun _ => List Nat → List Nat → (List Nat → List Nat → zR) → zR) (fun st acc k => k acc st) (fun _ ih st acc k => zpop st fun v t => ih t (v :: acc) k) na
theorem ztake_some {k : List Nat → List Nat → zR} {r : zOut} : ∀ {na : Nat} {st acc : List Nat}, ztake na st acc k = some r → ∃ as rest, st = as.reverse ++ rest ∧ as.length = na ∧ k (as ++ acc) rest = some r
  | 0, st, acc, h => ⟨[], st, rfl, rfl, h⟩
  | na + 1, st, acc, h => by
    obtain ⟨v, t, rfl, h'⟩ := zpop_some h
    obtain ⟨as, rest, rfl, h2, h3⟩ := ztake_some (na := na) h'
    exact ⟨as ++ [v], rest, by simp, by simp [h2], by simpa using h3⟩
/-- at most four are left below -/
noncomputable def zfew (rest : List Nat) : Bool := Nat.blt (List.rec (motive := fun _ => Nat) 0 (fun _ _ n => Nat.succ n) rest) 5
theorem zfew_eq {sz : Nat} {sv : Nat → Value} {ev : Nat → Int32} {rest : List Nat} (h : zfew rest = true) : ((rest.map (zvd sz sv ev)).map fun v => v.category).sum ≤ 8 := by
  have hl : ∀ l : List Nat, (List.rec (motive := fun _ => Nat) 0 (fun _ _ n => Nat.succ n) l) = l.length := by
    intro l; induction l with
    | nil => rfl
    | cons a t ih => show Nat.succ _ = _; rw [ih]; rfl
  have h2 : rest.length + 1 ≤ 5 := by
    have := Nat.le_of_ble_eq_true h
    rw [hl] at this; exact this
  have h3 : ∀ l : List Nat, ((l.map (zvd sz sv ev)).map fun v => v.category).sum ≤ 2 * l.length := by
    intro l; induction l with
    | nil => simp
    | cons a t ih =>
      simp only [List.map_cons, List.sum_cons, List.length_cons]
      have : (zvd sz sv ev a).category ≤ 2 := by rcases lv_cat (zvd sz sv ev a) with e | e <;> omega
      omega
  have := h3 rest
  omega
/-- the receiver: a cell of that class, or one of those that were there -/
noncomputable def zrcv (ci : Nat) (js : List Nat) (as : List Nat) (hp : zHp) (k : zR) : zR := zpop as fun b _ => cond (zt b 1) (zfind (Nat.div b 8) hp fun c => zck (Nat.beq c.2.1 ci) k) (zck (zt b 2) (zck (List.rec (motive := fun _ => Bool) false (fun j _ ih => cond (Nat.beq j (Nat.div b 8)) true ih) js) k))
noncomputable def zCall0 (cal : zCal) (i : Nat) (as rest : List Nat) (k : zK) (L : Nat) (hp : zHp) (n ns : Nat) : zR := zbind (cal i as hp n ns) fun o => zout o (k L rest o.2.2.1 o.2.2.2.1 o.2.2.2.2) (k L (o.2.1 :: rest) o.2.2.1 o.2.2.2.1 o.2.2.2.2) (some o)
noncomputable def zCall (cal : zCal) (i na : Nat) : zI := fun k _ L st hp n ns => ztake na st [] fun as rest => zck (zfew rest) (zCall0 cal i as rest k L hp n ns)
noncomputable def zCallV (cal : zCal) (ci : Nat) (js : List Nat) (i na : Nat) : zI := fun k _ L st hp n ns => ztake na st [] fun as rest => zck (zfew rest) (zrcv ci js as hp (zCall0 cal i as rest k L hp n ns))
noncomputable def zThrow (e : Nat) : zI := fun _ _ _ st hp n ns => zck (zfew st) (some (2, e, hp, Nat.succ n, Nat.add ns 6))

section ZB
variable {sz : Nat} {sv : Nat → Value} {ev : Nat → Int32} {cl : List vw_C} {ar : zAr} {D : va_G}
variable {p : Program} {l : Launch} {e : Env} {R : Room} {s : State} {m : MethodId} {args : Array Value} {below : List Frame} {meth : Method} {c : Code} {Q : State → Prop}
variable {gw : List Cond} {cc : ByteArray} {own : String} {nL n0 ns0 : Nat} {r : zOut} {pc : Nat}

variable {G : State → Prop} {ex : Nat → String} {mt : zMt} {cal : zCal} {dd : Nat}
theorem zov_eq (r : zOut) : (r.1 = 0 → zov sz sv ev r = none) ∧ (r.1 = 1 → zov sz sv ev r = some (zvd sz sv ev r.2.1)) := by
  unfold zov
  exact ⟨fun h => by rw [if_pos h], fun h => by rw [if_neg (by omega)]⟩
theorem zInv_call {H : Heap} {locs L : List Loc} {hp : zHp} {n : Nat} {r' : zOut} {st₀ t T' : State} (hs : s.heap.size = sz + n0) (hn0 : n0 ≤ n) (hn : n ≤ r'.2.2.2.1) (b : zInv sz sv ev cl ar D s hp n H locs) (h0 : st₀.heap = H) (e1 : T'.heap = t.heap) (hL : ∀ q ∈ L, zA sz q.base) (hp' : zPost sz sv ev cl ar D r' st₀ t) : zInv sz sv ev cl ar D s r'.2.2.1 r'.2.2.2.1 T'.heap (locs ++ L) := by
  obtain ⟨p1, p2, p3, p4⟩ := hp'
  rw [e1]
  refine ⟨p1, p2, p3, by omega, fun q hq hz => ?_, fun q hq => ?_⟩
  · have hq' : q < sz := Nat.lt_of_not_le hz
    rw [p4 q hq', h0]
    exact b.2.2.2.2.1 q hq hz
  · rcases List.mem_append.mp hq with h | h
    · exact b.2.2.2.2.2 q h
    · exact hL q h
theorem zcall_ret {H : Heap} {locs : List Loc} {hp : zHp} {n ns mc ms : Nat} {ls : Array Slot} {st0 rest : List Value} {a : Array Value} {r' : zOut} (X : zCtx sz sv cl ar D p R s m args c gw cc own nL n0 ns0 r) (hn : n ≤ r'.2.2.2.1) (hns : ns ≤ r'.2.2.2.2) (hns0 : ns0 ≤ ns) (b : zInv sz sv ev cl ar D s hp n H locs) (hmc : mc = r'.2.2.2.1 - n) (hms : ms = r'.2.2.2.2 - ns)
    (hr : va_Run p l e R s m args below meth c H locs (n - n0) (ns - ns0) mc ms (F0 m pc ls st0) rest (zQc sz sv ev cl ar D r' a) (zA sz))
    (kk : ∀ H1 locs1, zInv sz sv ev cl ar D s r'.2.2.1 r'.2.2.2.1 H1 locs1 → W p l e R s m args below meth c H1 locs1 (r'.2.2.2.1 - n0) (r'.2.2.2.2 - ns0) Q (F0 m (pc + 3) ls ((zov sz sv ev r').toList ++ rest))) :
    W p l e R s m args below meth c H locs (n - n0) (ns - ns0) Q (F0 m pc ls st0) := by
  have hs := X.2.2.2.2.2.2.1
  have hn0 : n0 ≤ n := by have g1 := b.2.2.2.1; have g2 := b.2.2.1; omega
  intro T hT XX
  obtain ⟨v, st₀, t, T', L, h0, X', hL, e1, e2, ⟨hv, hpo⟩, st⟩ := hr T hT XX
  cases hv
  have c1 : n - n0 + mc = r'.2.2.2.1 - n0 := by omega
  have c2 : ns - ns0 + ms = r'.2.2.2.2 - ns0 := by omega
  rw [c1, c2] at X'
  obtain ⟨t2, a1, b1⟩ := kk T'.heap (locs ++ L) (zInv_call hs hn0 hn b h0 e1 hL hpo) T' rfl X'
  exact ⟨t2, st t2 a1, b1⟩
theorem zcall_ret5 {H : Heap} {locs : List Loc} {hp : zHp} {n ns mc ms : Nat} {ls : Array Slot} {st0 rest : List Value} {a : Array Value} {r' : zOut} (X : zCtx sz sv cl ar D p R s m args c gw cc own nL n0 ns0 r) (hn : n ≤ r'.2.2.2.1) (hns : ns ≤ r'.2.2.2.2) (hns0 : ns0 ≤ ns) (b : zInv sz sv ev cl ar D s hp n H locs) (hmc : mc = r'.2.2.2.1 - n) (hms : ms = r'.2.2.2.2 - ns)
    (hr : va_Run5 p l e R s m args below meth c H locs (n - n0) (ns - ns0) mc ms (F0 m pc ls st0) rest (zQc sz sv ev cl ar D r' a) (zA sz))
    (kk : ∀ H1 locs1, zInv sz sv ev cl ar D s r'.2.2.1 r'.2.2.2.1 H1 locs1 → W p l e R s m args below meth c H1 locs1 (r'.2.2.2.1 - n0) (r'.2.2.2.2 - ns0) Q (F0 m (pc + 5) ls ((zov sz sv ev r').toList ++ rest))) :
    W p l e R s m args below meth c H locs (n - n0) (ns - ns0) Q (F0 m pc ls st0) := by
  have hs := X.2.2.2.2.2.2.1
  have hn0 : n0 ≤ n := by have g1 := b.2.2.2.1; have g2 := b.2.2.1; omega
  intro T hT XX
  obtain ⟨v, st₀, t, T', L, h0, X', hL, e1, e2, ⟨hv, hpo⟩, st⟩ := hr T hT XX
  cases hv
  have c1 : n - n0 + mc = r'.2.2.2.1 - n0 := by omega
  have c2 : ns - ns0 + ms = r'.2.2.2.2 - ns0 := by omega
  rw [c1, c2] at X'
  obtain ⟨t2, a1, b1⟩ := kk T'.heap (locs ++ L) (zInv_call hs hn0 hn b h0 e1 hL hpo) T' rfl X'
  exact ⟨t2, st t2 a1, b1⟩
/-- at a throw out of here -/
theorem zcall_thr {H : Heap} {locs : List Loc} {hp : zHp} {n ns mc ms : Nat} {ls : Array Slot} {st0 rest : List Value} {r' : zOut} (X : zCtx sz sv cl ar D p R s m args c gw cc own nL n0 ns0 r) (hn : n ≤ r'.2.2.2.1) (hns : ns ≤ r'.2.2.2.2) (hns0 : ns0 ≤ ns) (b : zInv sz sv ev cl ar D s hp n H locs) (hmc : mc = r'.2.2.2.1 - n) (hms : ms = r'.2.2.2.2 - ns)
    (hr : vx_Run p l e R s m args below meth c H locs (n - n0) (ns - ns0) mc ms (F0 m pc ls st0) rest (fun _ _ _ => False) (zXC sz sv ev cl ar D ex r') (zA sz))
    (kk : ∀ H1 locs1 q9 ce, zInv sz sv ev cl ar D s r'.2.2.1 r'.2.2.2.1 H1 locs1 → H1[q9]? = some ce → ce.vm = .none → s.vm.findClass (ex r'.2.1) = some ce.cls → vx_W p l e R s m args below meth c H1 locs1 (r'.2.2.2.1 - n0) (r'.2.2.2.2 - ns0) Q (F0 m pc ls rest) q9) :
    W p l e R s m args below meth c H locs (n - n0) (ns - ns0) Q (F0 m pc ls st0) := by
  have hs := X.2.2.2.2.2.2.1
  have hn0 : n0 ≤ n := by have g1 := b.2.2.2.1; have g2 := b.2.2.1; omega
  intro T hT XX
  rcases hr T hT XX with ⟨v, st₀, t, T', L, h0, X', hL, e1, e2, hf, st⟩ | ⟨q, st₀, t, T', L, E, ce, h0, X', hL, e1, e2, ⟨hE, hpo⟩, hce, hcv, hcl, st⟩
  · exact hf.elim
  · have c1 : n - n0 + mc = r'.2.2.2.1 - n0 := by omega
    have c2 : ns - ns0 + ms = r'.2.2.2.2 - ns0 := by omega
    rw [c1, c2] at X'
    subst hE
    obtain ⟨t2, a1, b1⟩ := kk T'.heap (locs ++ L) q ce (zInv_call hs hn0 hn b h0 e1 hL hpo) (by rw [e1]; exact hce) hcv hcl T' rfl X'
    exact ⟨t2, st.trans a1, b1⟩
theorem zPc_blind {avs : List Nat} {hp : zHp} {n : Nat} (hG : zGm sz G) : FrameBlind (zPc sz sv ev cl ar D G avs hp n) := by
  intro a U g mk h
  exact ⟨h.1, hG U _ h.2.1 (State.WarmedH.refl U) (fun _ _ => rfl), h.2.2.1, h.2.2.2.1, h.2.2.2.2⟩
theorem zPre {avs : List Nat} {hp : zHp} {n : Nat} {H : Heap} {locs : List Loc} (hG : zGm sz G) (hs : G s) (hsz : s.heap.size = sz + n0) (b : zInv sz sv ev cl ar D s hp n H locs) : PreS s H (zPc sz sv ev cl ar D G avs hp n) (avs.map (zvd sz sv ev)) := by
  refine ⟨zPc_blind hG, fun U hU hW => ⟨rfl, hG s U hs hW (fun q hq => ?_), by rw [hU]; exact b.1, b.2.1, by rw [hU]; exact b.2.2.1⟩⟩
  rw [hU]
  exact b.2.2.2.2.1 q (by omega) (fun z => by have : sz ≤ q := z; omega)
theorem zgood {ws : List Cond} (hgw : ∀ w ∈ gw, goodWord w = true) (h : ∀ w ∈ ws, w ∈ gw) : GoodIn gw ws := fun w hw => ⟨h w hw, good_of_word (hgw w (h w hw))⟩
theorem zfix (X : zCtx sz sv cl ar D p R s m args c gw cc own nL n0 ns0 r) : CallFix p m c cc nL s args gw own := ⟨X.1, X.2.1, X.2.2.1, X.2.2.2.1, X.2.2.2.2.1⟩
/-- the frame's room -/
def zRoom (R : Room) (d : Nat) : Prop := d + 10 ≤ R.frames ∧ 64 * d + 200 ≤ R.locals

/-- the machine's call, whatever its kind -/
def zRuns (sz : Nat) (sv : Nat → Value) (ev : Nat → Int32) (cl : List vw_C) (ar : zAr) (D : va_G) (G : State → Prop) (ex : Nat → String) (p : Program) (l : Launch) (e : Env) (R : Room) (s : State) (m : MethodId) (args : Array Value) (below : List Frame) (meth : Method) (c : Code) (nL n0 ns0 : Nat) (gw : List Cond) (mt : zMt) (dd pc i : Nat) (as rest : List Nat) (hp : zHp) (n ns : Nat) : Prop :=
  ∀ (r' : zOut) (H : Heap) (locs : List Loc) (ls : Array Slot), ls.size = nL → zInv sz sv ev cl ar D s hp n H locs → zCon sz sv ev cl ar D G ex l gw mt dd i as hp n ns r' → (n - n0) + (r'.2.2.2.1 - n) ≤ R.cells → (ns - ns0) + (r'.2.2.2.2 - ns) ≤ R.slots → ((rest.map (zvd sz sv ev)).map fun v => v.category).sum ≤ 8 →
    (r'.1 ≠ 2 → va_Run p l e R s m args below meth c H locs (n - n0) (ns - ns0) (r'.2.2.2.1 - n) (r'.2.2.2.2 - ns) (F0 m pc ls ((as.reverse ++ rest).map (zvd sz sv ev))) (rest.map (zvd sz sv ev)) (zQc sz sv ev cl ar D r' (as.map (zvd sz sv ev)).toArray) (zA sz)) ∧
    (r'.1 = 2 → vx_Run p l e R s m args below meth c H locs (n - n0) (ns - ns0) (r'.2.2.2.1 - n) (r'.2.2.2.2 - ns) (F0 m pc ls ((as.reverse ++ rest).map (zvd sz sv ev))) (rest.map (zvd sz sv ev)) (fun _ _ _ => False) (zXC sz sv ev cl ar D ex r') (zA sz))
/-- what a frame owes at a throw -/
def zOwx (sz : Nat) (sv : Nat → Value) (ev : Nat → Int32) (cl : List vw_C) (ar : zAr) (D : va_G) (ex : Nat → String) (p : Program) (l : Launch) (e : Env) (R : Room) (s : State) (m : MethodId) (args : Array Value) (below : List Frame) (meth : Method) (c : Code) (Q : State → Prop) (n0 ns0 : Nat) (r : zOut) : Prop :=
  r.1 = 2 → (∀ x ∈ c.exceptionTable.toList, False) ∧ Q = vx_MQ below (fun _ _ _ _ => False) (zXC sz sv ev cl ar D ex r) args s (r.2.2.2.1 - n0) (r.2.2.2.2 - ns0) (zA sz)
theorem gCall0 (X : zCtx sz sv cl ar D p R s m args c gw cc own nL n0 ns0 r) (hC : zCok sz sv ev cl ar D G ex l gw mt dd cal) (hlk : meth.locks = false) (hx : zOwx sz sv ev cl ar D ex p l e R s m args below meth c Q n0 ns0 r) {i : Nat} {as rest : List Nat} {k : zK} {L : Nat} {hp : zHp} {n ns : Nat} (hrun : zRuns sz sv ev cl ar D G ex p l e R s m args below meth c nL n0 ns0 gw mt dd pc i as rest hp n ns)
    (hk : zSnd sz sv ev cl ar D p l e R s m args below meth c Q nL n0 ns0 r (pc + 3) k) (hf : zfew rest = true) (hr : zCall0 cal i as rest k L hp n ns = some r) : n ≤ r.2.2.2.1 ∧ ns ≤ r.2.2.2.2 ∧ ∀ ls H locs, zLR sz sv ev nL L ls → zInv sz sv ev cl ar D s hp n H locs → ns0 ≤ ns → W p l e R s m args below meth c H locs (n - n0) (ns - ns0) Q (F0 m pc ls ((as.reverse ++ rest).map (zvd sz sv ev))) := by
  obtain ⟨o, ho, hr⟩ := zbind_some hr
  obtain ⟨c1, c2, hcon⟩ := hC i as hp n ns o ho
  have hRc := X.2.2.2.2.2.2.2.1
  have hRs := X.2.2.2.2.2.2.2.2.1
  have hs := X.2.2.2.2.2.2.1
  rcases zout_some hr with ⟨hk0, hr⟩ | ⟨hk1, hr⟩ | ⟨hk2, hr⟩
  · obtain ⟨h1, h2, h3⟩ := hk L rest _ _ _ hr
    refine ⟨by omega, by omega, fun ls H locs a b d => ?_⟩
    have hn0 : n0 ≤ n := by have g1 := b.2.2.2.1; have g2 := b.2.2.1; omega
    refine zcall_ret X c1 c2 d b rfl rfl ((hrun o H locs ls a.1 b hcon (by omega) (by omega) (zfew_eq hf)).1 (by omega)) fun H1 locs1 b1 => ?_
    rw [(zov_eq o).1 hk0]
    exact h3 ls H1 locs1 a b1 (by omega)
  · obtain ⟨h1, h2, h3⟩ := hk L (o.2.1 :: rest) _ _ _ hr
    refine ⟨by omega, by omega, fun ls H locs a b d => ?_⟩
    have hn0 : n0 ≤ n := by have g1 := b.2.2.2.1; have g2 := b.2.2.1; omega
    refine zcall_ret X c1 c2 d b rfl rfl ((hrun o H locs ls a.1 b hcon (by omega) (by omega) (zfew_eq hf)).1 (by omega)) fun H1 locs1 b1 => ?_
    rw [(zov_eq o).2 hk1]
    exact h3 ls H1 locs1 a b1 (by omega)
  · have e := Option.some.inj hr
    subst e
    refine ⟨c1, c2, fun ls H locs a b d => ?_⟩
    have hn0 : n0 ≤ n := by have g1 := b.2.2.2.1; have g2 := b.2.2.1; omega
    obtain ⟨hout, hQ⟩ := hx hk2
    refine zcall_thr X c1 c2 d b rfl rfl ((hrun o H locs ls a.1 b hcon (by omega) (by omega) (zfew_eq hf)).2 hk2) fun H1 locs1 q9 ce b1 e1 e2 e3 => ?_
    rw [hQ]
    refine vx_out (fun x hx => (hout x hx).elim) hlk e1 e2 e3 (fun t ht _ => ⟨rfl, ?_⟩) (fun z hz => b1.2.2.2.2.2 z hz) (Nat.le_refl _) (Nat.le_refl _)
    exact zInv_post (k := o.1) (v := o.2.1) (ns := o.2.2.2.2) hs b1 ht

theorem gCallS (X : zCtx sz sv cl ar D p R s m args c gw cc own nL n0 ns0 r) (hC : zCok sz sv ev cl ar D G ex l gw mt dd cal) (hlk : meth.locks = false) (hx : zOwx sz sv ev cl ar D ex p l e R s m args below meth c Q n0 ns0 r) {i na : Nat} (hrun : ∀ as rest hp n ns, as.length = na → zRuns sz sv ev cl ar D G ex p l e R s m args below meth c nL n0 ns0 gw mt dd pc i as rest hp n ns) : zGd sz sv ev cl ar D p l e R s m args below meth c Q nL n0 ns0 r pc 3 (zCall cal i na) := by
  intro k j hk hj L st hp n ns hr
  obtain ⟨as, rest, rfl, hlen, hr⟩ := ztake_some hr
  rw [List.append_nil] at hr
  obtain ⟨hf, hr⟩ := zck_some hr
  exact gCall0 X hC hlk hx (hrun as rest hp n ns hlen) hk hf hr

theorem zrunS (X : zCtx sz sv cl ar D p R s m args c gw cc own nL n0 ns0 r) (hR : zRoom R (dd + 1)) (hG : zGm sz G) (hs : G s) (hgw : ∀ w ∈ gw, goodWord w = true) {index i : Nat} (hmL : (mt i).2.2.1 ≤ 45) (hmem : ∀ w ∈ wsS own index (mt i).1 (Cond.code (mt i).1 (mt i).2.1 (mt i).2.2.1 (mt i).2.2.2 :: gw), w ∈ gw) {na : Nat} (hd0 : (mt i).1.cls = own ∧ (mt i).1.cls ≠ "java/lang/invoke/MethodHandle" ∧ (mt i).1.cls ≠ "java/lang/invoke/VarHandle" ∧ (parseMethodDescriptor (mt i).1.desc).map (fun d => d.parameters.length) = some na) (hd : decode cc pc = .ok (.invokestatic index, 3)) :
    ∀ as rest hp n ns, as.length = na → zRuns sz sv ev cl ar D G ex p l e R s m args below meth c nL n0 ns0 gw mt dd pc i as rest hp n ns := by
  intro as rest hp n ns hlen r' H locs ls hls b hcon hcc hss hrest
  have hroom : (zrm dd (r'.2.2.2.1 - n) (r'.2.2.2.2 - ns)).frames + 1 ≤ R.frames ∧ 8 + ((mt i).2.2.1 + 11) + (zrm dd (r'.2.2.2.1 - n) (r'.2.2.2.2 - ns)).locals ≤ R.locals := ⟨by have := hR.1; show dd + 10 + 1 ≤ _; omega, by have := hR.2; show 8 + ((mt i).2.2.1 + 11) + (64 * dd + 200) ≤ _; omega⟩
  have cw := cwS (R := R) (rm := zrm dd (r'.2.2.2.1 - n) (r'.2.2.2.2 - ns)) na X.2.2.2.2.1 (zgood hgw hmem) rfl rfl rfl hd0 hroom
  constructor
  · intro h2
    have hM := hcon
    unfold zCon at hM
    rw [if_neg h2] at hM
    exact va_runS (zfix X) hM cw (zPre hG hs X.2.2.2.2.2.2.1 b) rfl (by simp [hlen]) hls (by simp) (lv_room hrest) hd ⟨hcc, hss⟩
  · intro h2
    have hM := hcon
    unfold zCon at hM
    rw [if_pos h2] at hM
    exact vx_runS (zfix X) hM cw (zPre hG hs X.2.2.2.2.2.2.1 b) rfl (by simp [hlen]) hls (by simp) (lv_room hrest) hd ⟨hcc, hss⟩

end ZB
end
section
section ZB
variable {sz : Nat} {sv : Nat → Value} {ev : Nat → Int32} {cl : List vw_C} {ar : zAr} {D : va_G}
variable {p : Program} {l : Launch} {e : Env} {R : Room} {s : State} {m : MethodId} {args : Array Value} {below : List Frame} {meth : Method} {c : Code} {Q : State → Prop}
variable {gw : List Cond} {cc : ByteArray} {own : String} {nL n0 ns0 : Nat} {r : zOut} {pc : Nat}

variable {G : State → Prop} {ex : Nat → String} {mt : zMt} {cal : zCal} {dd : Nat}
/-- the machine's call where the callee doesn't throw -/
def zRunsR (sz : Nat) (sv : Nat → Value) (ev : Nat → Int32) (cl : List vw_C) (ar : zAr) (D : va_G) (G : State → Prop) (ex : Nat → String) (p : Program) (l : Launch) (e : Env) (R : Room) (s : State) (m : MethodId) (args : Array Value) (below : List Frame) (meth : Method) (c : Code) (nL n0 ns0 : Nat) (gw : List Cond) (mt : zMt) (dd pc i : Nat) (as rest : List Nat) (hp : zHp) (n ns : Nat) : Prop :=
  ∀ (r' : zOut) (H : Heap) (locs : List Loc) (ls : Array Slot), ls.size = nL → zInv sz sv ev cl ar D s hp n H locs → zCon sz sv ev cl ar D G ex l gw mt dd i as hp n ns r' → (n - n0) + (r'.2.2.2.1 - n) ≤ R.cells → (ns - ns0) + (r'.2.2.2.2 - ns) ≤ R.slots → ((rest.map (zvd sz sv ev)).map fun v => v.category).sum ≤ 8 →
    r'.1 ≠ 2 → va_Run p l e R s m args below meth c H locs (n - n0) (ns - ns0) (r'.2.2.2.1 - n) (r'.2.2.2.2 - ns) (F0 m pc ls ((as.reverse ++ rest).map (zvd sz sv ev))) (rest.map (zvd sz sv ev)) (zQc sz sv ev cl ar D r' (as.map (zvd sz sv ev)).toArray) (zA sz)
def zRuns5 (sz : Nat) (sv : Nat → Value) (ev : Nat → Int32) (cl : List vw_C) (ar : zAr) (D : va_G) (G : State → Prop) (ex : Nat → String) (p : Program) (l : Launch) (e : Env) (R : Room) (s : State) (m : MethodId) (args : Array Value) (below : List Frame) (meth : Method) (c : Code) (nL n0 ns0 : Nat) (gw : List Cond) (mt : zMt) (dd pc i : Nat) (as rest : List Nat) (hp : zHp) (n ns : Nat) : Prop :=
  ∀ (r' : zOut) (H : Heap) (locs : List Loc) (ls : Array Slot), ls.size = nL → zInv sz sv ev cl ar D s hp n H locs → zCon sz sv ev cl ar D G ex l gw mt dd i as hp n ns r' → (n - n0) + (r'.2.2.2.1 - n) ≤ R.cells → (ns - ns0) + (r'.2.2.2.2 - ns) ≤ R.slots → ((rest.map (zvd sz sv ev)).map fun v => v.category).sum ≤ 8 →
    r'.1 ≠ 2 → va_Run5 p l e R s m args below meth c H locs (n - n0) (ns - ns0) (r'.2.2.2.1 - n) (r'.2.2.2.2 - ns) (F0 m pc ls ((as.reverse ++ rest).map (zvd sz sv ev))) (rest.map (zvd sz sv ev)) (zQc sz sv ev cl ar D r' (as.map (zvd sz sv ev)).toArray) (zA sz)
noncomputable def zCall0R (cal : zCal) (i : Nat) (as rest : List Nat) (k : zK) (L : Nat) (hp : zHp) (n ns : Nat) : zR := zbind (cal i as hp n ns) fun o => zout o (k L rest o.2.2.1 o.2.2.2.1 o.2.2.2.2) (k L (o.2.1 :: rest) o.2.2.1 o.2.2.2.1 o.2.2.2.2) none
noncomputable def zCallR (cal : zCal) (i na : Nat) : zI := fun k _ L st hp n ns => ztake na st [] fun as rest => zck (zfew rest) (zCall0R cal i as rest k L hp n ns)
noncomputable def zCallF (cal : zCal) (ci i na : Nat) : zI := fun k _ L st hp n ns => ztake na st [] fun as rest => zck (zfew rest) (zrcv ci [] as hp (zCall0R cal i as rest k L hp n ns))

noncomputable def zCallI (cal : zCal) (i na : Nat) : zI := fun k _ L st hp n ns => ztake na st [] fun as rest => zck (zfew rest) (zpop as fun b _ => zck (zt b 1) (zCall0R cal i as rest k L hp n ns))

theorem gCall0R (X : zCtx sz sv cl ar D p R s m args c gw cc own nL n0 ns0 r) (hC : zCok sz sv ev cl ar D G ex l gw mt dd cal) {i : Nat} {as rest : List Nat} {k : zK} {L : Nat} {hp : zHp} {n ns : Nat} (hrun : zRunsR sz sv ev cl ar D G ex p l e R s m args below meth c nL n0 ns0 gw mt dd pc i as rest hp n ns)
    (hk : zSnd sz sv ev cl ar D p l e R s m args below meth c Q nL n0 ns0 r (pc + 3) k) (hf : zfew rest = true) (hr : zCall0R cal i as rest k L hp n ns = some r) : n ≤ r.2.2.2.1 ∧ ns ≤ r.2.2.2.2 ∧ ∀ ls H locs, zLR sz sv ev nL L ls → zInv sz sv ev cl ar D s hp n H locs → ns0 ≤ ns → W p l e R s m args below meth c H locs (n - n0) (ns - ns0) Q (F0 m pc ls ((as.reverse ++ rest).map (zvd sz sv ev))) := by
  obtain ⟨o, ho, hr⟩ := zbind_some hr
  obtain ⟨c1, c2, hcon⟩ := hC i as hp n ns o ho
  have hRc := X.2.2.2.2.2.2.2.1
  have hRs := X.2.2.2.2.2.2.2.2.1
  have hs := X.2.2.2.2.2.2.1
  rcases zout_some hr with ⟨hk0, hr⟩ | ⟨hk1, hr⟩ | ⟨hk2, hr⟩
  · obtain ⟨h1, h2, h3⟩ := hk L rest _ _ _ hr
    refine ⟨by omega, by omega, fun ls H locs a b d => ?_⟩
    have hn0 : n0 ≤ n := by have g1 := b.2.2.2.1; have g2 := b.2.2.1; omega
    refine zcall_ret X c1 c2 d b rfl rfl (hrun o H locs ls a.1 b hcon (by omega) (by omega) (zfew_eq hf) (by omega)) fun H1 locs1 b1 => ?_
    rw [(zov_eq o).1 hk0]
    exact h3 ls H1 locs1 a b1 (by omega)
  · obtain ⟨h1, h2, h3⟩ := hk L (o.2.1 :: rest) _ _ _ hr
    refine ⟨by omega, by omega, fun ls H locs a b d => ?_⟩
    have hn0 : n0 ≤ n := by have g1 := b.2.2.2.1; have g2 := b.2.2.1; omega
    refine zcall_ret X c1 c2 d b rfl rfl (hrun o H locs ls a.1 b hcon (by omega) (by omega) (zfew_eq hf) (by omega)) fun H1 locs1 b1 => ?_
    rw [(zov_eq o).2 hk1]
    exact h3 ls H1 locs1 a b1 (by omega)
  · cases hr

theorem gCall05 (X : zCtx sz sv cl ar D p R s m args c gw cc own nL n0 ns0 r) (hC : zCok sz sv ev cl ar D G ex l gw mt dd cal) {i : Nat} {as rest : List Nat} {k : zK} {L : Nat} {hp : zHp} {n ns : Nat} (hrun : zRuns5 sz sv ev cl ar D G ex p l e R s m args below meth c nL n0 ns0 gw mt dd pc i as rest hp n ns)
    (hk : zSnd sz sv ev cl ar D p l e R s m args below meth c Q nL n0 ns0 r (pc + 5) k) (hf : zfew rest = true) (hr : zCall0R cal i as rest k L hp n ns = some r) : n ≤ r.2.2.2.1 ∧ ns ≤ r.2.2.2.2 ∧ ∀ ls H locs, zLR sz sv ev nL L ls → zInv sz sv ev cl ar D s hp n H locs → ns0 ≤ ns → W p l e R s m args below meth c H locs (n - n0) (ns - ns0) Q (F0 m pc ls ((as.reverse ++ rest).map (zvd sz sv ev))) := by
  obtain ⟨o, ho, hr⟩ := zbind_some hr
  obtain ⟨c1, c2, hcon⟩ := hC i as hp n ns o ho
  have hRc := X.2.2.2.2.2.2.2.1
  have hRs := X.2.2.2.2.2.2.2.2.1
  have hs := X.2.2.2.2.2.2.1
  rcases zout_some hr with ⟨hk0, hr⟩ | ⟨hk1, hr⟩ | ⟨hk2, hr⟩
  · obtain ⟨h1, h2, h3⟩ := hk L rest _ _ _ hr
    refine ⟨by omega, by omega, fun ls H locs a b d => ?_⟩
    have hn0 : n0 ≤ n := by have g1 := b.2.2.2.1; have g2 := b.2.2.1; omega
    refine zcall_ret5 X c1 c2 d b rfl rfl (hrun o H locs ls a.1 b hcon (by omega) (by omega) (zfew_eq hf) (by omega)) fun H1 locs1 b1 => ?_
    rw [(zov_eq o).1 hk0]
    exact h3 ls H1 locs1 a b1 (by omega)
  · obtain ⟨h1, h2, h3⟩ := hk L (o.2.1 :: rest) _ _ _ hr
    refine ⟨by omega, by omega, fun ls H locs a b d => ?_⟩
    have hn0 : n0 ≤ n := by have g1 := b.2.2.2.1; have g2 := b.2.2.1; omega
    refine zcall_ret5 X c1 c2 d b rfl rfl (hrun o H locs ls a.1 b hcon (by omega) (by omega) (zfew_eq hf) (by omega)) fun H1 locs1 b1 => ?_
    rw [(zov_eq o).2 hk1]
    exact h3 ls H1 locs1 a b1 (by omega)
  · cases hr

theorem gCallR (X : zCtx sz sv cl ar D p R s m args c gw cc own nL n0 ns0 r) (hC : zCok sz sv ev cl ar D G ex l gw mt dd cal) {i na : Nat} (hrun : ∀ as rest hp n ns, as.length = na → zRunsR sz sv ev cl ar D G ex p l e R s m args below meth c nL n0 ns0 gw mt dd pc i as rest hp n ns) : zGd sz sv ev cl ar D p l e R s m args below meth c Q nL n0 ns0 r pc 3 (zCallR cal i na) := by
  intro k j hk hj L st hp n ns hr
  obtain ⟨as, rest, rfl, hlen, hr⟩ := ztake_some hr
  rw [List.append_nil] at hr
  obtain ⟨hf, hr⟩ := zck_some hr
  exact gCall0R X hC (hrun as rest hp n ns hlen) hk hf hr

/-- a receiver that was there -/
def zSj (sz : Nat) (sv : Nat → Value) (s : State) (C : String) (j : Nat) : Prop := ∃ (a : Nat) (cell : Cell), sv j = .ref a ∧ a < sz ∧ s.heap[a]? = some cell ∧ cell.vm.isStatics = false ∧ s.vm.findClass C = some cell.cls
theorem zrcv_some {ci : Nat} {js as : List Nat} {hp : zHp} {k : zR} {o : zOut} (h : zrcv ci js as hp k = some o) : k = some o ∧ ∃ b t, as = b :: t ∧ ((b % 8 = 1 ∧ ∃ (i : Nat) (c : zC), hp[i]? = some c ∧ c.1 = b / 8 ∧ c.2.1 = ci) ∨ (b % 8 = 2 ∧ b / 8 ∈ js)) := by
  obtain ⟨b, t, rfl, g⟩ := zpop_some h
  clear h
  cases h1 : zt b 1 with
  | true =>
    simp only [h1, cond_true] at g
    obtain ⟨i, c, hi, hid, g2⟩ := zfind_some g
    obtain ⟨hk, h⟩ := zck_some g2
    exact ⟨h, b, t, rfl, Or.inl ⟨zt_eq h1, i, c, hi, hid, Nat.eq_of_beq_eq_true hk⟩⟩
  | false =>
    simp only [h1, cond_false] at g
    obtain ⟨h2, g2⟩ := zck_some g
    obtain ⟨h3, h⟩ := zck_some g2
    clear g g2
    refine ⟨h, b, t, rfl, Or.inr ⟨zt_eq h2, ?_⟩⟩
    clear h
    induction js with
    | nil => cases h3
    | cons j js ih =>
      have h3' : cond (Nat.beq j (Nat.div b 8)) true (List.rec (motive := fun _ => Bool) false (fun j _ ih => cond (Nat.beq j (Nat.div b 8)) true ih) js) = true := h3
      cases hb : Nat.beq j (Nat.div b 8) with
      | true =>
        have := Nat.eq_of_beq_eq_true hb
        exact List.mem_cons.mpr (Or.inl this.symm)
      | false =>
        rw [hb] at h3'
        exact List.mem_cons_of_mem _ (ih h3')
theorem zrcv_cell (X : zCtx sz sv cl ar D p R s m args c gw cc own nL n0 ns0 r) {ci : Nat} {js : List Nat} {C : String} {T : u_T} {N : Nat} (hc : cl[ci]? = some (C, T, N)) (hci : ci < 64) (hjs : ∀ j ∈ js, zSj sz sv s C j) {hp : zHp} {n b : Nat} {H : Heap} {locs : List Loc} (hb : zInv sz sv ev cl ar D s hp n H locs) (h : (b % 8 = 1 ∧ ∃ (i : Nat) (c : zC), hp[i]? = some c ∧ c.1 = b / 8 ∧ c.2.1 = ci) ∨ (b % 8 = 2 ∧ b / 8 ∈ js)) : ∃ a, zvd sz sv ev b = .ref a ∧ ∃ cell : Cell, H[a]? = some cell ∧ cell.vm.isStatics = false ∧ s.vm.findClass C = some cell.cls := by
  rcases h with ⟨h1, i, c0, hi, hid, hk⟩ | ⟨h2, hj⟩
  · refine ⟨_, zvd_1 h1, ?_⟩
    have he := zren_at (sz := sz) (sv := sv) (ev := ev) (cl := cl) (ar := ar) hi
    rw [zent_obj hk hci, hid] at he
    exact va_recv X.2.2.2.2.2.1 hb.1 hc he
  · obtain ⟨a, cell, e1, e2, e3, e4, e5⟩ := hjs _ hj
    have hs0 := X.2.2.2.2.2.2.1
    refine ⟨a, by rw [zvd_2 h2, e1], cell, ?_, e4, e5⟩
    rw [hb.2.2.2.2.1 a (by omega) (fun z => by have : sz ≤ a := z; omega)]; exact e3

theorem gI_invokevirtual (X : zCtx sz sv cl ar D p R s m args c gw cc own nL n0 ns0 r) (hC : zCok sz sv ev cl ar D G ex l gw mt dd cal) (hlk : meth.locks = false) (hx : zOwx sz sv ev cl ar D ex p l e R s m args below meth c Q n0 ns0 r) (hR : zRoom R (dd + 1)) (hG : zGm sz G) (hs : G s) (hgw : ∀ w ∈ gw, goodWord w = true) {index i : Nat} (hmL : (mt i).2.2.1 ≤ 45) {ci : Nat} {js : List Nat} {C : String} {T : u_T} {N : Nat} (hc : cl[ci]? = some (C, T, N)) (hci : ci < 64) (hjs : ∀ j ∈ js, zSj sz sv s C j) (hmem : ∀ w ∈ wsV own index C (mt i).1 (Cond.code (mt i).1 (mt i).2.1 (mt i).2.2.1 (mt i).2.2.2 :: gw), w ∈ gw) {na : Nat} (hd0 : (mt i).1.cls = C ∧ (mt i).1.cls ≠ "java/lang/invoke/MethodHandle" ∧ (mt i).1.cls ≠ "java/lang/invoke/VarHandle" ∧ (parseMethodDescriptor (mt i).1.desc).map (fun d => d.parameters.length) = some na) (hd : decode cc pc = .ok (.invokevirtual index, 3)) : zGd sz sv ev cl ar D p l e R s m args below meth c Q nL n0 ns0 r pc 3 (zCallV cal ci js i (na + 1)) := by
  intro k j hk hj L st hp n ns hr
  obtain ⟨as, rest, rfl, hlen, hr⟩ := ztake_some hr
  rw [List.append_nil] at hr
  obtain ⟨hf, hr⟩ := zck_some hr
  obtain ⟨hr, bb, t, rfl, hrc⟩ := zrcv_some hr
  refine gCall0 X hC hlk hx ?_ hk hf hr
  intro r' H locs ls hls b hcon hcc hss hrest
  have hroom : (zrm dd (r'.2.2.2.1 - n) (r'.2.2.2.2 - ns)).frames + 1 ≤ R.frames ∧ 8 + ((mt i).2.2.1 + 11) + (zrm dd (r'.2.2.2.1 - n) (r'.2.2.2.2 - ns)).locals ≤ R.locals := ⟨by have := hR.1; show dd + 10 + 1 ≤ _; omega, by have := hR.2; show 8 + ((mt i).2.2.1 + 11) + (64 * dd + 200) ≤ _; omega⟩
  have cw := cwV (R := R) (rm := zrm dd (r'.2.2.2.1 - n) (r'.2.2.2.2 - ns)) (C := C) na X.2.2.2.2.1 (zgood hgw hmem) rfl rfl rfl hd0 hroom
  obtain ⟨a, ha, hcell⟩ := zrcv_cell X hc hci hjs b hrc
  have hpre := zPre (avs := bb :: t) hG hs X.2.2.2.2.2.2.1 b
  rw [List.map_cons, ha] at hpre
  have hstk : ((bb :: t).reverse ++ rest).map (zvd sz sv ev) = (t.map (zvd sz sv ev)).reverse ++ .ref a :: rest.map (zvd sz sv ev) := by
    simp [ha]
  have hlen' : t.length = na := by simpa using hlen
  rw [hstk, List.map_cons, ha]
  constructor
  · intro h2
    have hM := hcon
    unfold zCon at hM
    rw [if_neg h2] at hM
    exact va_runV (zfix X) hM cw ⟨hpre.1, hcell, hpre.2⟩ rfl (by simp [hlen']) hls rfl (lv_room hrest) hd ⟨hcc, hss⟩
  · intro h2
    have hM := hcon
    unfold zCon at hM
    rw [if_pos h2] at hM
    exact vx_runV (zfix X) hM cw ⟨hpre.1, hcell, hpre.2⟩ rfl (by simp [hlen']) hls rfl (lv_room hrest) hd ⟨hcc, hss⟩


theorem gI_invokespecial (X : zCtx sz sv cl ar D p R s m args c gw cc own nL n0 ns0 r) (hC : zCok sz sv ev cl ar D G ex l gw mt dd cal) (hR : zRoom R (dd + 1)) (hG : zGm sz G) (hs : G s) (hgw : ∀ w ∈ gw, goodWord w = true) {index i : Nat} (hmL : (mt i).2.2.1 ≤ 45) {y : MethodName} {bytes : ByteArray} {maxL : Nat} (hmi : mt i = (y, bytes, maxL, none)) (hmem : ∀ w ∈ ([.methodLink own index y, .instanceMethod y, .initialized y.cls] : List Cond) ++ (Cond.code y bytes maxL none :: gw), w ∈ gw) (hini : y.name = "<init>") {na : Nat} (hd0 : y.cls ≠ "java/lang/invoke/MethodHandle" ∧ y.cls ≠ "java/lang/invoke/VarHandle" ∧ (parseMethodDescriptor y.desc).map (fun d => d.parameters.length) = some na) (hd : decode cc pc = .ok (.invokespecial index, 3)) : zGd sz sv ev cl ar D p l e R s m args below meth c Q nL n0 ns0 r pc 3 (zCallI cal i (na + 1)) := by
  intro k j hk hj L st hp n ns hr
  obtain ⟨as, rest, rfl, hlen, hr⟩ := ztake_some hr
  rw [List.append_nil] at hr
  obtain ⟨hf, hr⟩ := zck_some hr
  obtain ⟨bb, t, rfl, hr⟩ := zpop_some hr
  obtain ⟨hb1, hr⟩ := zck_some hr
  refine gCall0R X hC ?_ hk hf hr
  intro r' H locs ls hls b hcon hcc hss hrest h2
  have ok : ∀ w ∈ ([.methodLink own index y, .instanceMethod y, .initialized y.cls] : List Cond) ++ (Cond.code y bytes maxL none :: gw), w.before args s = true := fun w h => X.2.2.2.2.1 w (hmem w h)
  have hM := hcon
  unfold zCon at hM
  rw [if_neg h2, hmi] at hM
  rw [hmi] at hmL
  have hmL' : maxL ≤ 45 := hmL
  have cw := cwI (R := R) (rm := zrm dd (r'.2.2.2.1 - n) (r'.2.2.2.2 - ns)) (own := own) (index := index) (y := y) (bytes := bytes) (maxL := maxL) (ws := Cond.code y bytes maxL none :: gw) (Ts := gw) (mc := r'.2.2.2.1 - n) (ms := r'.2.2.2.2 - ns) na X.2.2.2.2.1 (zgood hgw (fun w h => hmem w (List.mem_append_right _ h))) rfl rfl rfl (ok _ (by simp)) (ok _ (by simp)) (ok _ (by simp)) hini hd0 ⟨by have := hR.1; show dd + 10 + 1 ≤ _; omega, by have := hR.2; show 8 + (maxL + 11) + (64 * dd + 200) ≤ _; omega⟩
  have ha : zvd sz sv ev bb = .ref (sz + bb / 8) := zvd_1 (zt_eq hb1)
  have hpre := zPre (avs := bb :: t) hG hs X.2.2.2.2.2.2.1 b
  rw [List.map_cons, ha] at hpre
  have hstk : ((bb :: t).reverse ++ rest).map (zvd sz sv ev) = (t.map (zvd sz sv ev)).reverse ++ .ref (sz + bb / 8) :: rest.map (zvd sz sv ev) := by
    simp [ha]
  have hlen' : t.length = na := by simpa using hlen
  rw [hstk, List.map_cons, ha]
  exact va_runI (zfix X) hM cw hpre rfl (by simp [hlen']) hls rfl (lv_room hrest) hd ⟨hcc, hss⟩
theorem gI_invokespecialN (X : zCtx sz sv cl ar D p R s m args c gw cc own nL n0 ns0 r) (hC : zCok sz sv ev cl ar D G ex l gw mt dd cal) (hR : zRoom R (dd + 1)) (hG : zGm sz G) (hs : G s) (hgw : ∀ w ∈ gw, goodWord w = true) {index i : Nat} (hmL : (mt i).2.2.1 ≤ 45) {y : MethodName} {bytes : ByteArray} {maxL : Nat} {host : String} (hmi : mt i = (y, bytes, maxL, none)) (hnest : va_Nw (.methodLinkNest own index y host) s) (hmem : ∀ w ∈ ([.instanceMethod y, .initialized y.cls] : List Cond) ++ (Cond.code y bytes maxL none :: gw), w ∈ gw) (hini : y.name = "<init>") {na : Nat} (hd0 : y.cls ≠ "java/lang/invoke/MethodHandle" ∧ y.cls ≠ "java/lang/invoke/VarHandle" ∧ (parseMethodDescriptor y.desc).map (fun d => d.parameters.length) = some na) (hd : decode cc pc = .ok (.invokespecial index, 3)) : zGd sz sv ev cl ar D p l e R s m args below meth c Q nL n0 ns0 r pc 3 (zCallI cal i (na + 1)) := by
  intro k j hk hj L st hp n ns hr
  obtain ⟨as, rest, rfl, hlen, hr⟩ := ztake_some hr
  rw [List.append_nil] at hr
  obtain ⟨hf, hr⟩ := zck_some hr
  obtain ⟨bb, t, rfl, hr⟩ := zpop_some hr
  obtain ⟨hb1, hr⟩ := zck_some hr
  refine gCall0R X hC ?_ hk hf hr
  intro r' H locs ls hls b hcon hcc hss hrest h2
  have ok : ∀ w ∈ ([.instanceMethod y, .initialized y.cls] : List Cond) ++ (Cond.code y bytes maxL none :: gw), w.before args s = true := fun w h => X.2.2.2.2.1 w (hmem w h)
  have hM := hcon
  unfold zCon at hM
  rw [if_neg h2, hmi] at hM
  rw [hmi] at hmL
  have hmL' : maxL ≤ 45 := hmL
  have cw := va_cnB (R := R) (args := args) (rm := zrm dd (r'.2.2.2.1 - n) (r'.2.2.2.2 - ns)) (own := own) (host := host) (index := index) (y := y) (bytes := bytes) (maxL := maxL) (ret := none) (ws := Cond.code y bytes maxL none :: gw) (Ts := gw) (mc := r'.2.2.2.1 - n) (ms := r'.2.2.2.2 - ns) na X.2.2.2.2.1 (zgood hgw (fun w h => hmem w (List.mem_append_right _ h))) rfl rfl rfl hnest (ok _ (by simp)) hd0 ⟨by have := hR.1; show dd + 10 + 1 ≤ _; omega, by have := hR.2; show 8 + (maxL + 11) + (64 * dd + 200) ≤ _; omega⟩
  have ha : zvd sz sv ev bb = .ref (sz + bb / 8) := zvd_1 (zt_eq hb1)
  have hpre := zPre (avs := bb :: t) hG hs X.2.2.2.2.2.2.1 b
  rw [List.map_cons, ha] at hpre
  have hstk : ((bb :: t).reverse ++ rest).map (zvd sz sv ev) = (t.map (zvd sz sv ev)).reverse ++ .ref (sz + bb / 8) :: rest.map (zvd sz sv ev) := by
    simp [ha]
  have hlen' : t.length = na := by simpa using hlen
  rw [hstk, List.map_cons, ha]
  exact va_runIN (zfix X) hM ⟨cw, hini, ok _ (by simp)⟩ hpre rfl (by simp [hlen']) hls rfl (lv_room hrest) hd ⟨hcc, hss⟩

theorem gI_invokeinterface (X : zCtx sz sv cl ar D p R s m args c gw cc own nL n0 ns0 r) (hC : zCok sz sv ev cl ar D G ex l gw mt dd cal) (hR : zRoom R (dd + 1)) (hG : zGm sz G) (hs : G s) (hgw : ∀ w ∈ gw, goodWord w = true) {index i : Nat} (hmL : (mt i).2.2.1 ≤ 45) {count ci : Nat} {C : String} {T : u_T} {N : Nat} {x : MethodName} (hc : cl[ci]? = some (C, T, N)) (hci : ci < 64) (hF : va_Fw C x (mt i).1 s) (hmem : ∀ w ∈ va_wsF own index C x (mt i).1 (Cond.code (mt i).1 (mt i).2.1 (mt i).2.2.1 (mt i).2.2.2 :: gw), w ∈ gw) {na : Nat} (hd0 : x.cls ≠ "java/lang/invoke/MethodHandle" ∧ x.cls ≠ "java/lang/invoke/VarHandle" ∧ (parseMethodDescriptor x.desc).map (fun d => d.parameters.length) = some na) (hd : decode cc pc = .ok (.invokeinterface index count, 5)) : zGd sz sv ev cl ar D p l e R s m args below meth c Q nL n0 ns0 r pc 5 (zCallF cal ci i (na + 1)) := by
  intro k j hk hj L st hp n ns hr
  obtain ⟨as, rest, rfl, hlen, hr⟩ := ztake_some hr
  rw [List.append_nil] at hr
  obtain ⟨hf, hr⟩ := zck_some hr
  obtain ⟨hr, bb, t, rfl, hrc⟩ := zrcv_some hr
  refine gCall05 X hC ?_ hk hf hr
  intro r' H locs ls hls b hcon hcc hss hrest h2
  have hroom : (zrm dd (r'.2.2.2.1 - n) (r'.2.2.2.2 - ns)).frames + 1 ≤ R.frames ∧ 8 + ((mt i).2.2.1 + 11) + (zrm dd (r'.2.2.2.1 - n) (r'.2.2.2.2 - ns)).locals ≤ R.locals := ⟨by have := hR.1; show dd + 10 + 1 ≤ _; omega, by have := hR.2; show 8 + ((mt i).2.2.1 + 11) + (64 * dd + 200) ≤ _; omega⟩
  have cw := va_cwF (R := R) (rm := zrm dd (r'.2.2.2.1 - n) (r'.2.2.2.2 - ns)) (C := C) na X.2.2.2.2.1 (zgood hgw hmem) rfl rfl rfl hF hd0 hroom
  obtain ⟨a, ha, hcell⟩ := zrcv_cell X hc hci (js := []) (fun _ h => nomatch h) b hrc
  have hpre := zPre (avs := bb :: t) hG hs X.2.2.2.2.2.2.1 b
  rw [List.map_cons, ha] at hpre
  have hstk : ((bb :: t).reverse ++ rest).map (zvd sz sv ev) = (t.map (zvd sz sv ev)).reverse ++ .ref a :: rest.map (zvd sz sv ev) := by
    simp [ha]
  have hlen' : t.length = na := by simpa using hlen
  rw [hstk, List.map_cons, ha]
  have hM := hcon
  unfold zCon at hM
  rw [if_neg h2] at hM
  exact va_runF (X.2.2.2.2.2.1.1 ci _ hc).2 (zfix X) hM cw ⟨hpre.1, hcell, hpre.2⟩ rfl (by simp [hlen']) hls rfl (lv_room hrest) hd ⟨hcc, hss⟩

noncomputable def zObj : zI := fun k _ L st hp n ns => zpop st fun a t => zck (zt a 1) (zck (zfew t) (k L t hp n ns))
theorem gI_objInit (X : zCtx sz sv cl ar D p R s m args c gw cc own nL n0 ns0 r) (hR : zRoom R dd) {index : Nat} (hlink : (Cond.methodLink own index Lib.objectInit).before args s = true) (hinst : (Cond.instanceMethod Lib.objectInit).before args s = true) (hcode : (Cond.code Lib.objectInit ⟨#[0xb1]⟩ 1 none).before args s = true) (hd : decode cc pc = .ok (.invokespecial index, 3)) : zGd sz sv ev cl ar D p l e R s m args below meth c Q nL n0 ns0 r pc 3 zObj := by
  intro k j hk hj L st hp n ns hr
  obtain ⟨x, t, rfl, q1⟩ := zpop_some hr
  clear hr
  obtain ⟨hx, hr⟩ := zck_some q1
  obtain ⟨hf, hr⟩ := zck_some hr
  obtain ⟨h1, h2, h3⟩ := hk L _ hp n ns hr
  refine ⟨h1, h2, fun ls H locs a b d => ?_⟩
  have kk := h3 ls H locs a b d
  simp only [List.map_cons] at kk ⊢
  rw [zvd_1 (zt_eq hx)]
  have hw := zfew_eq (sz := sz) (sv := sv) (ev := ev) hf
  refine W.objInit X.1 X.2.1 X.2.2.2.1 hlink hinst hcode rfl (by show ls.size = _; rw [a.1, X.2.2.1]) rfl hd (by have := hR.1; omega) ?_ kk
  have h0 := lv_room (m := m) (pc := pc) (ls := ls) (rest := .ref (sz + x / 8) :: t.map (zvd sz sv ev)) hw
  have := hR.2
  omega
theorem gI_throw (X : zCtx sz sv cl ar D p R s m args c gw cc own nL n0 ns0 r) (hR : zRoom R dd) (hlt : l.stackTraces = false) (hlk : meth.locks = false) (hx : zOwx sz sv ev cl ar D ex p l e R s m args below meth c Q n0 ns0 r) (hz : vx_Zq Bundle.tN "UNASSIGNED_STACK" Bundle.steD (zA sz) s s.heap ∧ vx_Zq Bundle.tN "SUPPRESSED_SENTINEL" Bundle.listD (zA sz) s s.heap) {cls : String} {names : List String} {ik ic ei : Nat} (he : ex ei = cls) (hcls : Bundle.fit cls = true) (hnames : ∀ n ∈ names, Bundle.fit n = true) (hnl : names.length ≤ 3)
    (hk : (Cond.classLink own ik cls).before args s = true) (hini : (Cond.initialized cls).before args s = true) (hat : ∀ w ∈ vx_at0 own ic cls names, w.before args s = true) (hgood : ∀ w ∈ Cond.classLink own ik cls :: Cond.initialized cls :: vx_at0 own ic cls names, vx_ot w = true)
    (d0 : decode cc pc = .ok (.new ik, 3)) (d3 : decode cc (pc + 3) = .ok (.dup, 1)) (d4 : decode cc (pc + 4) = .ok (.invokespecial ic, 3)) (d7 : decode cc (pc + 7) = .ok (.athrow, 1)) : zGd sz sv ev cl ar D p l e R s m args below meth c Q nL n0 ns0 r pc 8 (zThrow ei) := by
  intro k j hk' hj L st hp n ns hr
  obtain ⟨hf, hr⟩ := zck_some hr
  have e := Option.some.inj hr
  subst e
  refine ⟨Nat.le_succ n, Nat.le_add_right ns 6, fun ls H locs a b d => ?_⟩
  obtain ⟨hout, hQ⟩ := hx rfl
  rw [hQ]
  have hs := X.2.2.2.2.2.2.1
  have hn0 : n0 ≤ n := by have g1 := b.2.2.2.1; have g2 := b.2.2.1; omega
  have hRc := X.2.2.2.2.2.2.2.1
  have hRs := X.2.2.2.2.2.2.2.2.1
  have hw := zfew_eq (sz := sz) (sv := sv) (ev := ev) hf
  have hRc' : Nat.succ n - n0 ≤ R.cells := hRc
  have hRs' : ns + 6 - ns0 ≤ R.slots := hRs
  refine zz_throw0 X.1 X.2.1 hlt X.2.2.2.1 hcls hnames hk hini hat hgood hz.1 hz.2 b.2.2.2 (by rw [a.1, X.2.2.1]) d0 d3 d4 d7 (fun x hx => (hout x hx).elim) (by have := hR.1; omega) (by have := hR.2; omega) (by omega) (by omega) hlk ?_ (fun z hz => b.2.2.2.2.2 z hz) (by show n - n0 + 1 ≤ Nat.succ n - n0; omega) (by show ns - ns0 + 6 ≤ ns + 6 - ns0; omega)
  intro t _ hsz hkeep
  have hkp : ∀ (k : Nat) (x : Nat × va_E), (zren sz sv ev cl ar hp)[k]? = some x → t.heap[x.1]? = H[x.1]? := fun k x hx => hkeep x.1 ((b.1 k x hx).lt)
  refine ⟨he.symm, b.1.kept hkp, zwf_le (Nat.le_succ n) b.2.1, ?_, fun q hq => ?_⟩
  · rw [hsz, b.2.2.1]; rfl
  · rw [hkeep q (by have := b.2.2.1; omega)]
    exact b.2.2.2.2.1 q (by omega) (fun z => by have : sz ≤ q := z; omega)

end ZB
end
section
/-! blocks, fuel, methods -/
noncomputable def zfS (st : List Nat) : (List Nat → zR) → zR := List.rec (motive := fun _ => (List Nat → zR) → zR) (fun k => k []) (fun v _ ih k => ih fun t => zfN v fun v => k (v :: t)) st
theorem zfS_eq : ∀ (st : List Nat) (k : List Nat → zR), zfS st k = k st
  | [], _ => rfl
  | v :: t, k => by
    show zfS t (fun t => zfN v fun v => k (v :: t)) = _
    rw [zfS_eq t, zfN_eq]
abbrev zBs : Type := List (Nat × Nat × List zI)
noncomputable def zblk (b : List zI) (fall : zK) (j : Nat → zK) : zK := List.rec (motive := fun _ => zK) fall (fun f _ ih => f ih j) b
noncomputable def zfnd (pc : Nat) (bs : zBs) (k : Nat → List zI → zR) : zR := List.rec (motive := fun _ => zR) none (fun b _ ih => cond (Nat.beq b.1 pc) (k b.2.1 b.2.2) ih) bs
theorem zfnd_some {pc : Nat} {k : Nat → List zI → zR} {o : zOut} : ∀ {bs : zBs}, zfnd pc bs k = some o → ∃ b ∈ bs, b.1 = pc ∧ k b.2.1 b.2.2 = some o
  | [], h => nomatch h
  | b :: t, h => by
    have h' : cond (Nat.beq b.1 pc) (k b.2.1 b.2.2) (zfnd pc t k) = some o := h
    cases hb : Nat.beq b.1 pc with
    | true => rw [hb] at h'; exact ⟨b, List.mem_cons_self, Nat.eq_of_beq_eq_true hb, h'⟩
    | false =>
      rw [hb] at h'
      obtain ⟨b', h1, h2⟩ := zfnd_some h'
      exact ⟨b', List.mem_cons_of_mem _ h1, h2⟩
noncomputable def zstep (bs : zBs) (ih : Nat → zK) (pc : Nat) : zK := fun L st hp n ns => zfN L fun L => zfS st fun st => zfN n fun n => zfN ns fun ns => zfN pc fun pc => zfnd pc bs fun ft b => zblk b (ih ft) ih L st hp n ns
noncomputable def zrun (bs : zBs) (fuel : Nat) : Nat → zK := Nat.rec (motive := fun _ => Nat → zK) (fun _ _ _ _ _ _ => none) (fun _ ih => zstep bs ih) fuel
/-- the arguments in their places -/
noncomputable def zargs (as : List Nat) : Nat → Nat → Nat := List.rec (motive := fun _ => Nat → Nat → Nat) (fun _ L => L) (fun v _ ih i L => ih (cond (zt v 4) (Nat.succ (Nat.succ i)) (cond (zt v 6) (Nat.succ (Nat.succ i)) (Nat.succ i))) (zs L i (Nat.succ v))) as
noncomputable def zall (as : List Nat) : Bool := List.rec (motive := fun _ => Bool) true (fun v _ ih => cond (Nat.blt v 4722366482869645213695) ih false) as
noncomputable def zlen (as : List Nat) : Nat := List.rec (motive := fun _ => Nat) 0 (fun v _ ih => Nat.add (cond (zt v 4) 2 (cond (zt v 6) 2 1)) ih) as
/-- methods as the evaluator has them: locals, blocks -/
abbrev zTab : Type := Nat → Nat × zBs
noncomputable def zent1 (t : Nat × zBs) (fuel : Nat) (as : List Nat) (hp : zHp) (n ns : Nat) : zR := zck (zall as) (zck (Nat.ble (zlen as) t.1) (zrun t.2 fuel 0 (zargs as 0 0) [] hp n ns))
noncomputable def zE (tab : zCal → zTab) (fuel d : Nat) : zCal := Nat.rec (motive := fun _ => zCal) (fun _ _ _ _ _ => none) (fun _ ih i as hp n ns => zent1 (tab ih i) fuel as hp n ns) d
section ZR
variable {sz : Nat} {sv : Nat → Value} {ev : Nat → Int32} {cl : List vw_C} {ar : zAr} {D : va_G}
variable {p : Program} {l : Launch} {e : Env} {R : Room} {s : State} {m : MethodId} {args : Array Value} {below : List Frame} {meth : Method} {c : Code} {Q : State → Prop}
variable {nL n0 ns0 : Nat} {r : zOut}
/-- a stretch of instructions, each right -/
def zChain (sz : Nat) (sv : Nat → Value) (ev : Nat → Int32) (cl : List vw_C) (ar : zAr) (D : va_G) (p : Program) (l : Launch) (e : Env) (R : Room) (s : State) (m : MethodId) (args : Array Value) (below : List Frame) (meth : Method) (c : Code) (Q : State → Prop) (nL n0 ns0 : Nat) (r : zOut) : Nat → List zI → Nat → Prop
  | pc, [], ft => pc = ft
  | pc, f :: t, ft => ∃ len, zGd sz sv ev cl ar D p l e R s m args below meth c Q nL n0 ns0 r pc len f ∧ zChain sz sv ev cl ar D p l e R s m args below meth c Q nL n0 ns0 r (pc + len) t ft
theorem zblk_snd {fall : zK} {j : Nat → zK} {ft : Nat} (hf : zSnd sz sv ev cl ar D p l e R s m args below meth c Q nL n0 ns0 r ft fall) (hj : ∀ t, zSnd sz sv ev cl ar D p l e R s m args below meth c Q nL n0 ns0 r t (j t)) : ∀ (fs : List zI) (pc : Nat), zChain sz sv ev cl ar D p l e R s m args below meth c Q nL n0 ns0 r pc fs ft → zSnd sz sv ev cl ar D p l e R s m args below meth c Q nL n0 ns0 r pc (zblk fs fall j)
  | [], pc, h => by
    have h' : pc = ft := h
    subst h'
    exact hf
  | f :: t, pc, ⟨len, h1, h2⟩ => h1 _ j (zblk_snd hf hj t (pc + len) h2) hj
theorem zrun_snd {bs : zBs} (hb : ∀ b ∈ bs, zChain sz sv ev cl ar D p l e R s m args below meth c Q nL n0 ns0 r b.1 b.2.2 b.2.1) : ∀ (fuel pc : Nat), zSnd sz sv ev cl ar D p l e R s m args below meth c Q nL n0 ns0 r pc (zrun bs fuel pc)
  | 0, pc => fun _ _ _ _ _ h => nomatch h
  | fuel + 1, pc => by
    intro L st hp n ns h
    have ih := zrun_snd hb fuel
    have h' : zstep bs (zrun bs fuel) pc L st hp n ns = some r := h
    unfold zstep at h'
    rw [zfN_eq, zfS_eq, zfN_eq, zfN_eq, zfN_eq] at h'
    obtain ⟨b, hbm, hpc, g⟩ := zfnd_some h'
    subst hpc
    exact zblk_snd (ih b.2.1) ih b.2.2 b.1 (hb b hbm) L st hp n ns g
theorem zargs_ok (hs : zSv sv) : ∀ (as : List Nat) (i L : Nat), zall as = true → (∀ j, i ≤ j → zg L j = 0) → (∀ j, zg (zargs as i L) j ≠ 0 → j < i → zg (zargs as i L) j = zg L j) ∧ ∀ j, i ≤ j → zg (zargs as i L) j ≠ 0 → (j, zvd sz sv ev (zg (zargs as i L) j - 1)) ∈ lv_args i (as.map (zvd sz sv ev))
  | [], i, L, _, h0 => ⟨fun _ _ _ => rfl, fun j hj h => absurd (h0 j hj) h⟩
  | v :: t, i, L, ha, h0 => by
    have ha' : cond (Nat.blt v 4722366482869645213695) (zall t) false = true := ha
    have hv : v + 1 < 2 ^ 72 ∧ zall t = true := by
      cases hb : Nat.blt v 4722366482869645213695 with
      | true =>
        rw [hb] at ha'
        have : v + 1 ≤ 4722366482869645213695 := Nat.le_of_ble_eq_true hb
        exact ⟨Nat.lt_of_le_of_lt this (by decide), ha'⟩
      | false => rw [hb] at ha'; cases ha'
    have hcat : (cond (zt v 4) (Nat.succ (Nat.succ i)) (cond (zt v 6) (Nat.succ (Nat.succ i)) (Nat.succ i))) = if (zvd sz sv ev v).category = 2 then i + 2 else i + 1 := by
      cases h4 : zt v 4 with
      | true => rw [zvd_4 (zt_eq h4)]; rfl
      | false =>
        cases h6 : zt v 6 with
        | true => rw [zvd_6 (zt_eq h6)]; rfl
        | false =>
          have n4 : v % 8 ≠ 4 := fun e => by
            have : zt v 4 = true := by show Nat.beq (v % 8) 4 = true; rw [e]; rfl
            rw [this] at h4; cases h4
          have n6 : v % 8 ≠ 6 := fun e => by
            have : zt v 6 = true := by show Nat.beq (v % 8) 6 = true; rw [e]; rfl
            rw [this] at h6; cases h6
          rw [zcat1 n4 n6 hs.cat]; rfl
    have hstep : zargs (v :: t) i L = zargs t (if (zvd sz sv ev v).category = 2 then i + 2 else i + 1) (zs L i (v + 1)) := by
      rw [← hcat]; rfl
    rw [hstep]
    generalize hi' : (if (zvd sz sv ev v).category = 2 then i + 2 else i + 1) = i'
    have hii : i < i' := by rw [← hi']; split <;> omega
    have h0' : ∀ j, i' ≤ j → zg (zs L i (v + 1)) j = 0 := fun j hj => by
      rw [zg_zs _ _ _ _ hv.1, if_neg (by omega)]; exact h0 j (by omega)
    obtain ⟨a1, a2⟩ := zargs_ok hs t i' (zs L i (v + 1)) hv.2 h0'
    have hargs : lv_args i ((v :: t).map (zvd sz sv ev)) = (i, zvd sz sv ev v) :: lv_args i' (t.map (zvd sz sv ev)) := by
      rw [List.map_cons]; show (i, _) :: lv_args (if (zvd sz sv ev v).category = 2 then i + 2 else i + 1) _ = _; rw [hi']
    refine ⟨fun j hj hji => ?_, fun j hij hj => ?_⟩
    · rw [a1 j hj (by omega), zg_zs _ _ _ _ hv.1, if_neg (by omega)]
    · rw [hargs]
      by_cases hj' : i' ≤ j
      · exact List.mem_cons_of_mem _ (a2 j hj' hj)
      · have e1 := a1 j hj (by omega)
        rw [e1] at hj ⊢
        rw [zg_zs _ _ _ _ hv.1] at hj ⊢
        by_cases hji : j = i
        · rw [if_pos hji, hji]; exact List.mem_cons_self
        · rw [if_neg hji] at hj
          exact absurd (h0 j hij) hj
theorem zlen_ok (hs : zSv sv) : ∀ (as : List Nat), (lg_sl (as.map (zvd sz sv ev))).length = zlen as
  | [] => rfl
  | v :: t => by
    have ih := zlen_ok hs t
    have e : lg_sl ((v :: t).map (zvd sz sv ev)) = (if (zvd sz sv ev v).category = 2 then [Slot.val (zvd sz sv ev v), .second] else [Slot.val (zvd sz sv ev v)]) ++ lg_sl (t.map (zvd sz sv ev)) := rfl
    rw [e, List.length_append, ih]
    show _ = (cond (zt v 4) 2 (cond (zt v 6) 2 1)) + zlen t
    congr 1
    cases h4 : zt v 4 with
    | true => rw [zvd_4 (zt_eq h4)]; rfl
    | false =>
      cases h6 : zt v 6 with
      | true => rw [zvd_6 (zt_eq h6)]; rfl
      | false =>
        have n4 : v % 8 ≠ 4 := fun e => by
          have : zt v 4 = true := by show Nat.beq (v % 8) 4 = true; rw [e]; rfl
          rw [this] at h4; cases h4
        have n6 : v % 8 ≠ 6 := fun e => by
          have : zt v 6 = true := by show Nat.beq (v % 8) 6 = true; rw [e]; rfl
          rw [this] at h6; cases h6
        rw [if_neg (by rw [zcat1 n4 n6 hs.cat]; decide)]
        rfl
theorem zentry (hs : zSv sv) {as : List Nat} {nL : Nat} (ha : zall as = true) (hn : Nat.ble (zlen as) nL = true) : zLR sz sv ev nL (zargs as 0 0) ((lg_sl (as.map (zvd sz sv ev)) ++ List.replicate (nL - (lg_sl (as.map (zvd sz sv ev))).length) Slot.unset).toArray) := by
  have hl := lv_entry (as.map (zvd sz sv ev)) (n := nL) (by rw [zlen_ok hs]; exact Nat.le_of_ble_eq_true hn)
  obtain ⟨a1, a2⟩ := zargs_ok (sz := sz) (ev := ev) hs as 0 0 ha (fun j _ => zg_0 j)
  exact ⟨hl.1, hl.2.1, fun j hj => hl.2.2 _ (a2 j (Nat.zero_le _) hj)⟩
end ZR
end
section
/-! ints of the script by char, byte and eight places down, told by lists -/
def zisZ (v : Nat) : Bool := cond (Nat.beq v 0) true (Nat.beq v 8)
def zisC (v : Nat) : Bool := cond (Nat.beq (Nat.mod v 8) 0) (Nat.blt v 524288) false
noncomputable def zNo : zI := fun _ _ _ _ _ _ _ => none
noncomputable def zI2cT (tb : List (Nat × Nat)) : zI := fun k _ L st hp n ns => zpop st fun x t => cond (zt x 0) (k L (Nat.mul 8 (Nat.mod (Nat.div x 8) 65536) :: t) hp n ns) (zck (zt x 7) (zasc (Nat.div x 8) tb fun j => k L (Nat.add (Nat.mul 8 j) 7 :: t) hp n ns))
noncomputable def zI2bT (tb : List (Nat × Nat)) : zI := fun k _ L st hp n ns => zpop st fun x t => cond (zt x 0) (zck (Nat.blt x 1024) (k L (x :: t) hp n ns)) (zck (zt x 7) (zasc (Nat.div x 8) tb fun j => k L (Nat.add (Nat.mul 8 j) 7 :: t) hp n ns))
noncomputable def zUshT (tb : List (Nat × Nat)) : zI := fun k j L st hp n ns => zpop st fun y t => zpop t fun x t => cond (cond (zt x 0) (zt y 0) false) (k L (zmk (zfUshr (Nat.div x 8) (Nat.div y 8)) :: t) hp n ns) (zck (zt x 7) (zck (Nat.beq y 64) (zasc (Nat.div x 8) tb fun j => k L (Nat.add (Nat.mul 8 j) 7 :: t) hp n ns)))

section ZB
variable {sz : Nat} {sv : Nat → Value} {ev : Nat → Int32} {cl : List vw_C} {ar : zAr} {D : va_G}
variable {p : Program} {l : Launch} {e : Env} {R : Room} {s : State} {m : MethodId} {args : Array Value} {below : List Frame} {meth : Method} {c : Code} {Q : State → Prop}
variable {gw : List Cond} {cc : ByteArray} {own : String} {nL n0 ns0 : Nat} {r : zOut} {pc : Nat}

theorem gNo {len : Nat} : zGd sz sv ev cl ar D p l e R s m args below meth c Q nL n0 ns0 r pc len zNo := fun _ _ _ _ _ _ _ _ _ h => nomatch h
theorem z87 (j : Nat) : zvd sz sv ev (Nat.add (Nat.mul 8 j) 7) = .int (ev j) := by
  have e0 : (Nat.add (Nat.mul 8 j) 7) % 8 = 7 := by show (8 * j + 7) % 8 = 7; omega
  have e8 : (Nat.add (Nat.mul 8 j) 7) / 8 = j := by show (8 * j + 7) / 8 = j; omega
  rw [zvd_7 e0, e8]

theorem gI_i2cT {tb : List (Nat × Nat)} (hD : ∀ q ∈ tb, ev q.2 = ((ev q.1).toUInt32 % 65536).toInt32) (X : zCtx sz sv cl ar D p R s m args c gw cc own nL n0 ns0 r) (hd : decode cc pc = .ok (.i2c, 1)) : zGd sz sv ev cl ar D p l e R s m args below meth c Q nL n0 ns0 r pc 1 (zI2cT tb) := by
  intro k j hk hj L st hp n ns hr
  obtain ⟨x, t, rfl, q1⟩ := zpop_some hr
  clear hr
  cases hx : zt x 0 with
  | true =>
    simp only [hx, cond_true] at q1
    obtain ⟨h1, h2, h3⟩ := hk L _ hp n ns q1
    refine ⟨h1, h2, fun ls H locs a b d => ?_⟩
    have kk := h3 ls H locs a b d
    simp only [List.map_cons] at kk ⊢
    rw [zvd_0 (zt_eq hx)]
    have e0 : (Nat.mul 8 (Nat.mod (Nat.div x 8) 65536)) % 8 = 0 := by show (8 * (x / 8 % 65536)) % 8 = 0; omega
    have e8 : (Nat.mul 8 (Nat.mod (Nat.div x 8) 65536)) / 8 = x / 8 % 65536 := by show (8 * (x / 8 % 65536)) / 8 = _; omega
    rw [zvd_0 e0, e8] at kk
    refine lv_i2c X.1 X.2.1 hd ?_ kk
    rw [pk_char, zi_tn]
    exact congrArg nI (by omega)
  | false =>
    simp only [hx, cond_false] at q1
    obtain ⟨h7, hr⟩ := zck_some q1
    obtain ⟨q, hq, hqj, hr⟩ := zasc_some hr
    obtain ⟨h1, h2, h3⟩ := hk L _ hp n ns hr
    refine ⟨h1, h2, fun ls H locs a b d => ?_⟩
    have kk := h3 ls H locs a b d
    simp only [List.map_cons] at kk ⊢
    rw [zvd_7 (zt_eq h7), show x / 8 = q.1 from hqj.symm]
    rw [z87] at kk
    exact lv_i2c X.1 X.2.1 hd (hD q hq).symm kk
theorem gI_i2bT {tb : List (Nat × Nat)} (hD : ∀ q ∈ tb, ev q.2 = (ev q.1).toInt8.toInt32) (X : zCtx sz sv cl ar D p R s m args c gw cc own nL n0 ns0 r) (hd : decode cc pc = .ok (.i2b, 1)) : zGd sz sv ev cl ar D p l e R s m args below meth c Q nL n0 ns0 r pc 1 (zI2bT tb) := by
  intro k j hk hj L st hp n ns hr
  obtain ⟨x, t, rfl, q1⟩ := zpop_some hr
  clear hr
  cases hx : zt x 0 with
  | true =>
    simp only [hx, cond_true] at q1
    obtain ⟨hb, q1⟩ := zck_some q1
    obtain ⟨h1, h2, h3⟩ := hk L _ hp n ns q1
    refine ⟨h1, h2, fun ls H locs a b d => ?_⟩
    have kk := h3 ls H locs a b d
    simp only [List.map_cons] at kk ⊢
    rw [zvd_0 (zt_eq hx)] at kk ⊢
    have : x + 1 ≤ 1024 := Nat.le_of_ble_eq_true hb
    exact lv_i2b X.1 X.2.1 hd (zb8 _ (by omega)) kk
  | false =>
    simp only [hx, cond_false] at q1
    obtain ⟨h7, hr⟩ := zck_some q1
    obtain ⟨q, hq, hqj, hr⟩ := zasc_some hr
    obtain ⟨h1, h2, h3⟩ := hk L _ hp n ns hr
    refine ⟨h1, h2, fun ls H locs a b d => ?_⟩
    have kk := h3 ls H locs a b d
    simp only [List.map_cons] at kk ⊢
    rw [zvd_7 (zt_eq h7), show x / 8 = q.1 from hqj.symm]
    rw [z87] at kk
    exact lv_i2b X.1 X.2.1 hd (hD q hq).symm kk
theorem gI_iushrT {tb : List (Nat × Nat)} (hD : ∀ q ∈ tb, ev q.2 = ((ev q.1).toUInt32 >>> ((nI 8).toUInt32 &&& Int32.toUInt32 31)).toInt32) (X : zCtx sz sv cl ar D p R s m args c gw cc own nL n0 ns0 r) (hd : decode cc pc = .ok (.iushr, 1)) : zGd sz sv ev cl ar D p l e R s m args below meth c Q nL n0 ns0 r pc 1 (zUshT tb) := by
  intro k j hk hj L st hp n ns hr
  obtain ⟨y, t, rfl, q1⟩ := zpop_some hr
  clear hr
  obtain ⟨x, t, rfl, hr⟩ := zpop_some q1
  clear q1
  cases hc : cond (zt x 0) (zt y 0) false with
  | true =>
    have hxy : zt x 0 = true ∧ zt y 0 = true := by
      cases hx : zt x 0 <;> rw [hx] at hc
      · cases hc
      · exact ⟨rfl, hc⟩
    simp only [hc, cond_true] at hr
    obtain ⟨h1, h2, h3⟩ := hk L _ hp n ns hr
    refine ⟨h1, h2, fun ls H locs a b d => ?_⟩
    have kk := h3 ls H locs a b d
    simp only [List.map_cons] at kk ⊢
    rw [zvd_0 (zt_eq hxy.1), zvd_0 (zt_eq hxy.2)]
    rw [zmk_v] at kk
    exact lv_iushr X.1 X.2.1 hd (zi_ushr _ _) kk
  | false =>
    simp only [hc, cond_false] at hr
    obtain ⟨h7, hr⟩ := zck_some hr
    obtain ⟨hb, hr⟩ := zck_some hr
    obtain ⟨q, hq, hqj, hr⟩ := zasc_some hr
    obtain ⟨h1, h2, h3⟩ := hk L _ hp n ns hr
    refine ⟨h1, h2, fun ls H locs a b d => ?_⟩
    have kk := h3 ls H locs a b d
    simp only [List.map_cons] at kk ⊢
    have hE := Nat.eq_of_beq_eq_true hb
    rw [hE, zvd_7 (zt_eq h7), zvd_0 (v := 64) (by decide), show x / 8 = q.1 from hqj.symm]
    rw [z87] at kk
    exact lv_iushr X.1 X.2.1 hd (hD q hq).symm kk

end ZB
end
section
/-! a call in a method with a table: what is caught ends the method with a number -/
noncomputable def zCallH (cal : zCal) (ci : Nat) (js : List Nat) (i na : Nat) (hl : List (Nat × Nat)) : zI := fun k _ L st hp n ns => ztake na st [] fun as rest => zck (zfew rest) (zrcv ci js as hp (zbind (cal i as hp n ns) fun o => zout o (k L rest o.2.2.1 o.2.2.2.1 o.2.2.2.2) (k L (o.2.1 :: rest) o.2.2.1 o.2.2.2.1 o.2.2.2.2) (zasc o.2.1 hl fun v => some (1, v, o.2.2.1, o.2.2.2.1, o.2.2.2.2))))
/-- the script's first int, by its lowest six places -/
noncomputable def zAndO (opc : Nat) : zI := fun k _ L st hp n ns => zpop st fun y t => zpop t fun x t => zck (Nat.beq x 7) (zck (Nat.beq y 504) (k L (Nat.mul 8 opc :: t) hp n ns))
/-- 0 moved down by any number is 0 -/
noncomputable def zShrS : zI := fun k j L st hp n ns => zpop st fun y t => zpop t fun x t => cond (zt y 7) (zck (Nat.beq x 0) (k L (0 :: t) hp n ns)) (zck (zt x 0) (zck (zt y 0) (zck (Nat.blt x 17179869184) (k L (zmk (Nat.shiftRight (Nat.div x 8) (Nat.mod (Nat.div y 8) 32)) :: t) hp n ns))))
end
section
/-! printed: the evaluator's tables, out of the listing, for what calls on a new object reach -/
noncomputable def zalen (slen : Nat) : List (Nat × Nat) := [(0, slen), (1, 0), (2, 256), (3, 0), (11, 3), (13, 1), (15, 5), (17, 1), (19, 2), (21, 2), (23, 4), (25, 6), (27, 5), (29, 8), (31, 25)]
noncomputable def zsval : List (Nat × Nat) := [(10, 90), (12, 106), (14, 122), (16, 138), (18, 154), (20, 170), (22, 186), (24, 202), (26, 218), (28, 234), (30, 250)]
noncomputable def zscod : List (Nat × Nat) := [(10, 0), (12, 0), (14, 0), (16, 0), (18, 0), (20, 0), (22, 0), (24, 0), (26, 0), (28, 0), (30, 0)]
noncomputable def zsbyt : List (Nat × Nat × Nat) := [(11, 3, 5708990770823839524235486171573483889556979968), (13, 1, 408), (15, 5, 441623033931890538234062001191045054843576239097264734883054237249028715910132068224336280), (17, 1, 416), (19, 2, 4193461436788244949762464), (21, 2, 3702335322569801847538088), (23, 4, 94359813335027239281354355866305002551079693541295279668953543082800), (25, 6, 1897622406881257248135126030896151095485236606137139469288601338315566151482445267033091708075069986652616131400), (27, 5, 453558791605725417645791175146568755005987194923075313160894688781875604084807333140497312), (29, 8, 47346321752609796007879914494226216343438682885951890938039435156780954145704321980721154709034870391922729175553843515974376859852089423195861880565400480), (31, 25, 3873222737369624529945169504280405947898204912667116405088884334732324143229721576236118773863459604440149560890216493427180052967512319118324457782541471566833384203532248583553928144956288568094416694397536094529721866937928007770520266671018086991729424821375189223228768765014746157405798989051754612868605279768721156154370136712318121262269733757822706993723307847947843289986668273583071219939968287045059883337443716393629598626494195029635088579106154569189574171236750955638278642268713240266451384018517866054568)]
noncomputable def zsobj : List Nat := [10, 12, 14, 16, 18, 20, 22, 24, 26, 28, 30]
noncomputable def zscac : List (Nat × Nat × Nat) := [(2, 256, 36165872334566440253378856532677046168046018040837153902984564775743985257509895541663633527746174585896018189284490656550551321163467786285537531768548134827314628752615971126105778269805917284322188385370010603827519149056633300357361490338394394726114540735674934935923012304860555544471876040444387926223378538500420466596706894837905875657947516564826478620338765203432532391074895495397105113688438309644917612011066423168481634897014362782691293929764457820599657905162127536378935613995507053885836773210842022075693477590602988271030493864971334286229440296750756881684838508392736745324747996119458889720430085728439887364272726931350183197173094495547558212808963157991723621082137666832999645823265418887705379131735199641218566768310271913439883820088927020017821646340869206450606755749691699908317712517084058776828579448293735466504148294630397642119204333125499498107912670423431911847678952179204738947562361461194939470134412007008131200061598713099236787713338417479175163540260682819377120516104969796881864631639435560360810883417824432470806066241479273329947304125942539125931497394840029864758736901908061347064983185039680548209729555054972117766960407928065237433767793296998060574369510207013523519585694818502906969534372727151224356367125140273068258476563515124632292882095361407762786252161779046878503993895015332414044834529680288432982174580584921862490193833838924181895559029652318953975483939623015032471969523011467972235363596125949531826402476639840111158561954389888973011388606327075710802307782312392572945148713312686169463274156281314701359822276763879882514386383345713302604703388906504067983620271392446250305525077707644619578081659369908311956001042804021887958242733904505073861597342014434031721560540157553434678180711479192806528531654260577875675011253063988691943124801937090893617790225645505306154158435533228345231604927183877292496244426511168758764584739916269633803794540004776543262746809550353982294156639447442256047767064363559021422309319039858765232525559848379271651328264382174428085437792394317532900129718159501321747921815423073026412640167512248264661060221400797246408796600538047945213328361478367325918878742455766687265006285532349829134745919504595206148023336510945586097220082881570544348101876102821677405427647605389982530057120829827901118601726680760951801419512869049469556095134807014842568323952320907160707490585534884202168274169757972790075362418917758242081425739429713914964890519726009177139984773956681350293122578622098410263749893615607713281925188488870633934311802937407288212508021954535464699213237289622923520024936676420093962294283320526190746613180542547100262695117550471946487515679758454655448621347838813247548650787148769545111972094839297623019559253415024792696692136743745508539862046571575613078617286285117522217128817756934130733842293428253229940814820512226099208712503402710940603041813157703263229365019889197195991731331171922869473504395795891681162014915641908529730712939801087246659238664579713835760278053007227478430226724185349025876813527828368497055284387373038027086992613118928944218282968217076480413340493160214821923699069278139159355699434097006676344120146526505694220491211143416747721058158926393966134584150528180077062023926913229783421904589503582192854812472602575544192653801677256663537025477706520037715441853532735641995276091695636790307995391523191530244714998657694315822964490743631199659501900022506585403813006197525469265973626313336361291771253453644304877527102033341925420016247477558396736016851155156199115688135746716965769319477826075771172383145881514222573230997905674355969315774909437144333854003443204056992899012962029002192139865461938507101023817941772289336201082502056224519560875547789612676423237050169450445609373834286629948588013561058730391508477906954027395196786777092090205985497731493306734024558871603209082814137882200618725422132945611351338523569471711990402216575917200395783554058043611679476624909300453280671742770508754564202927290822815254909306912986214976578389375535980648516302332680214652751020806339219941890505893184253774833086417677974776374062652514766293917004988697043734665469952838748442350251376419613040474837907414469141330026214255363319912069243717983679586289281505466504822259761812738416014139647610362385447124933010440636175324149525243027234131638182062858207952314160711721584822921051272202974648552719961192840253634785349899091555434329157415419669898210748946833433803221061619683324117095345990607991439446813757209115259652932036837801723246519480437629926251986714354652162246318854528143079722554730142846298439603055847625378728854884153600900994227249360469196963128421091072310867031845386161873662575323550312681472378777596356464777237877118854587244641157375950097690957429278300311412446206938363505038817471608406716105916104662906164037407815657341158365209769124293870768674264179824083802179141124406208580135138917895111021627264976529554591884882712517243283467950466989591151725996458704358927932182974161600355503986254310236782834902668772068773456141832459138641091029965065990560006820401652032272457749425438010939595849092707335203928298715038567340272247359109056015462977783964246815785374006488578910888976587423462877785019411678322601236362456194241042798038748174141069932878097782232338659689907542744930392271435007762365623494043630008670059381049645206621656158160986254205589013453214409816483523628091498079785005030970536687197246386712008671859275174836502246345439971682)]
noncomputable def tb_L_law (scr slen opc : Nat) (iv : Nat → Nat × Nat) (dc db du : List (Nat × Nat)) (cal : zCal) : Nat × zBs := (9, [(0, 28, [zNew 17 12 78140794135310792274389810129304045772186326278216235829876398488098851099977118766511590453327946761839104330097075202454267467650821988964009790345651829195973893663593830050509979432340044209043289794513146571135274044659066421293088771, zDup, zCallI cal 1 1, zStA 9 1, zNew 18 11 16546956789305961896189688576687075232752256489039719301742928369806849364419917195394440330279415979008073266610679428501711607399914593296265778663971943520780769310973606683828776075133584737714269177495447083679744, zDup, zCallI cal 192 1, zStA 9 2, zPush 8, zNewA 66, zStA 9 3, zPush 8, zNewA 67, zStA 9 4, zPush 0, zStI 9 5]),
  (28, 37, [zLdI 5, zLdA 0, zAlenS (zalen slen), zPush 32, zBin zfSub, zJlt iv true false 2776]),
  (37, 292, [zLdA 0, zLdI 5, zAldS [(0, slen, scr)], zPush 504, zAndO opc, zTs 2770 [292, 348, 451, 507, 575, 588, 601, 657, 670, 726, 784, 854, 910, 923, 981, 994, 1007, 1075, 1088, 1101, 1114, 1158, 1214, 1270, 1314, 1377, 1390, 1458, 1514, 1527, 1540, 1553, 1597, 1662, 1732, 1797, 1855, 1948, 1961, 2005, 2018, 2073, 2087, 2131, 2187, 2243, 2299, 2362, 2418, 2431, 2444, 2488, 2556, 2569, 2582, 2626, 2692, 2757]]),
  (292, 326, [zLdA 1, zLdA 0, zLdI 5, zPush 8, zBin Nat.add, zAldS [(0, slen, scr)], zLdA 3, zCallR cal 187 3, zStI 9 6, zLdA 2, zLdA 0, zLdI 5, zPush 8, zBin Nat.add, zAldS [(0, slen, scr)], zCallV cal 18 [] 276 2, zStI 9 7, zLdA 2, zCallV cal 18 [] 273 1, zLdI 6, zJeq iv false 328]),
  (326, 327, [zNo]),
  (328, 333, [zLdI 6, z0eq iv true 345]),
  (333, 343, [zLdA 3, zPush 0, zAld (fun v => zt v 4) 66 4, zLdI 7, zI2l, zLcmp, z0eq iv false 345]),
  (343, 344, [zNo]),
  (345, 348, [zGoto 2770]),
  (348, 370, [zLdA 1, zLdA 0, zLdI 5, zPush 8, zBin Nat.add, zAldS [(0, slen, scr)], zLdA 0, zLdI 5, zPush 16, zBin Nat.add, zAldS [(0, slen, scr)], zLdA 0, zLdI 5, zPush 24, zBin Nat.add, zAldS [(0, slen, scr)], z0eq iv false 374]),
  (370, 374, [zPush 8, zGoto 375]),
  (374, 375, [zPush 0]),
  (375, 403, [zLdA 3, zCallR cal 166 5, zStI 9 6, zLdA 2, zLdA 0, zLdI 5, zPush 8, zBin Nat.add, zAldS [(0, slen, scr)], zLdA 0, zLdI 5, zPush 16, zBin Nat.add, zAldS [(0, slen, scr)], zLdA 0, zLdI 5, zPush 24, zBin Nat.add, zAldS [(0, slen, scr)], z0eq iv false 407]),
  (403, 407, [zPush 8, zGoto 408]),
  (407, 408, [zPush 0]),
  (408, 422, [zCallV cal 18 [] 216 4, zStI 9 7, zLdA 2, zCallV cal 18 [] 273 1, zLdI 6, zJeq iv false 424]),
  (422, 423, [zNo]),
  (424, 429, [zLdI 6, z0eq iv true 448]),
  (429, 430, [zNo]),
  (448, 451, [zGoto 2770]),
  (451, 485, [zLdA 1, zLdA 0, zLdI 5, zPush 8, zBin Nat.add, zAldS [(0, slen, scr)], zLdA 3, zCallR cal 184 3, zStI 9 6, zLdA 2, zLdA 0, zLdI 5, zPush 8, zBin Nat.add, zAldS [(0, slen, scr)], zCallV cal 18 [] 264 2, zStI 9 7, zLdA 2, zCallV cal 18 [] 273 1, zLdI 6, zJeq iv false 487]),
  (485, 486, [zNo]),
  (487, 492, [zLdI 6, z0eq iv true 504]),
  (492, 493, [zNo]),
  (504, 507, [zGoto 2770]),
  (507, 553, [zLdA 1, zLdA 0, zLdI 5, zPush 8, zBin Nat.add, zAldS [(0, slen, scr)], zLdA 0, zLdI 5, zPush 16, zBin Nat.add, zAldS [(0, slen, scr)], zLdA 3, zCallR cal 163 4, zStI 9 6, zLdA 2, zLdA 0, zLdI 5, zPush 8, zBin Nat.add, zAldS [(0, slen, scr)], zLdA 0, zLdI 5, zPush 16, zBin Nat.add, zAldS [(0, slen, scr)], zCallV cal 18 [] 210 3, zStI 9 7, zLdA 2, zCallV cal 18 [] 273 1, zLdI 6, zJeq iv false 555]),
  (553, 554, [zNo]),
  (555, 560, [zLdI 6, z0eq iv true 572]),
  (560, 561, [zNo]),
  (572, 575, [zGoto 2770]),
  (575, 586, [zLdA 1, zCallV cal 17 [] 60 1, zLdA 2, zCallV cal 18 [] 269 1, zJeq iv false 2770]),
  (586, 587, [zNo]),
  (588, 599, [zLdA 1, zCallV cal 17 [] 21 1, zLdA 2, zCallV cal 18 [] 217 1, zJeq iv false 2770]),
  (599, 600, [zNo]),
  (601, 635, [zLdA 1, zLdA 0, zLdI 5, zPush 8, zBin Nat.add, zAldS [(0, slen, scr)], zLdA 3, zCallR cal 179 3, zStI 9 6, zLdA 2, zLdA 0, zLdI 5, zPush 8, zBin Nat.add, zAldS [(0, slen, scr)], zCallV cal 18 [] 253 2, zStI 9 7, zLdA 2, zCallV cal 18 [] 273 1, zLdI 6, zJeq iv false 637]),
  (635, 636, [zNo]),
  (637, 642, [zLdI 6, z0eq iv true 654]),
  (642, 643, [zNo]),
  (654, 657, [zGoto 2770]),
  (657, 668, [zLdA 1, zCallV cal 17 [] 52 1, zLdA 2, zCallV cal 18 [] 257 1, zJeq iv false 2770]),
  (668, 669, [zNo]),
  (670, 704, [zLdA 1, zLdA 0, zLdI 5, zPush 8, zBin Nat.add, zAldS [(0, slen, scr)], zLdA 3, zCallR cal 188 3, zStI 9 6, zLdA 2, zLdA 0, zLdI 5, zPush 8, zBin Nat.add, zAldS [(0, slen, scr)], zCallV cal 18 [] 277 2, zStI 9 7, zLdA 2, zCallV cal 18 [] 273 1, zLdI 6, zJeq iv false 706]),
  (704, 705, [zNo]),
  (706, 711, [zLdI 6, z0eq iv true 723]),
  (711, 712, [zNo]),
  (723, 726, [zGoto 2770]),
  (726, 762, [zLdA 1, zLdA 0, zLdI 5, zPush 8, zBin Nat.add, zAldS [(0, slen, scr)], zI2cT dc, zLdA 3, zCallR cal 189 3, zStI 9 6, zLdA 2, zLdA 0, zLdI 5, zPush 8, zBin Nat.add, zAldS [(0, slen, scr)], zI2cT dc, zCallV cal 18 [] 278 2, zStI 9 7, zLdA 2, zCallV cal 18 [] 273 1, zLdI 6, zJeq iv false 764]),
  (762, 763, [zNo]),
  (764, 769, [zLdI 6, z0eq iv true 781]),
  (769, 779, [zLdA 3, zPush 0, zAld (fun v => zt v 4) 66 4, zLdI 7, zI2l, zLcmp, z0eq iv false 781]),
  (779, 780, [zNo]),
  (781, 784, [zGoto 2770]),
  (784, 832, [zLdA 1, zLdA 0, zLdI 5, zPush 8, zBin Nat.add, zAldS [(0, slen, scr)], zI2cT dc, zLdA 0, zLdI 5, zPush 16, zBin Nat.add, zAldS [(0, slen, scr)], zLdA 3, zCallR cal 181 4, zStI 9 6, zLdA 2, zLdA 0, zLdI 5, zPush 8, zBin Nat.add, zAldS [(0, slen, scr)], zI2cT dc, zLdA 0, zLdI 5, zPush 16, zBin Nat.add, zAldS [(0, slen, scr)], zCallV cal 18 [] 256 3, zStI 9 7, zLdA 2, zCallV cal 18 [] 273 1, zLdI 6, zJeq iv false 834]),
  (832, 833, [zNo]),
  (834, 839, [zLdI 6, z0eq iv true 851]),
  (839, 840, [zNo]),
  (851, 854, [zGoto 2770]),
  (854, 888, [zLdA 1, zLdA 0, zLdI 5, zPush 8, zBin Nat.add, zAldS [(0, slen, scr)], zLdA 3, zCallR cal 182 3, zStI 9 6, zLdA 2, zLdA 0, zLdI 5, zPush 8, zBin Nat.add, zAldS [(0, slen, scr)], zCallV cal 18 [] 259 2, zStI 9 7, zLdA 2, zCallV cal 18 [] 273 1, zLdI 6, zJeq iv false 890]),
  (888, 889, [zNo]),
  (890, 895, [zLdI 6, z0eq iv true 907]),
  (895, 896, [zNo]),
  (907, 910, [zGoto 2770]),
  (910, 921, [zLdA 1, zCallV cal 17 [] 13 1, zLdA 2, zCallV cal 18 [] 206 1, zJeq iv false 2770]),
  (921, 922, [zNo]),
  (923, 959, [zLdA 1, zLdA 0, zLdI 5, zPush 8, zBin Nat.add, zAldS [(0, slen, scr)], zI2cT dc, zLdA 3, zCallR cal 190 3, zStI 9 6, zLdA 2, zLdA 0, zLdI 5, zPush 8, zBin Nat.add, zAldS [(0, slen, scr)], zI2cT dc, zCallV cal 18 [] 280 2, zStI 9 7, zLdA 2, zCallV cal 18 [] 273 1, zLdI 6, zJeq iv false 961]),
  (959, 960, [zNo]),
  (961, 966, [zLdI 6, z0eq iv true 978]),
  (966, 976, [zLdA 3, zPush 0, zAld (fun v => zt v 4) 66 4, zLdI 7, zI2l, zLcmp, z0eq iv false 978]),
  (976, 977, [zNo]),
  (978, 981, [zGoto 2770]),
  (981, 992, [zLdA 1, zCallV cal 17 [] 37 1, zLdA 2, zCallV cal 18 [] 250 1, zJeq iv false 2770]),
  (992, 993, [zNo]),
  (994, 1005, [zLdA 1, zCallV cal 17 [] 64 1, zLdA 2, zCallV cal 18 [] 275 1, zJeq iv false 2770]),
  (1005, 1006, [zNo]),
  (1007, 1053, [zLdA 1, zLdA 0, zLdI 5, zPush 8, zBin Nat.add, zAldS [(0, slen, scr)], zLdA 0, zLdI 5, zPush 16, zBin Nat.add, zAldS [(0, slen, scr)], zLdA 3, zCallR cal 157 4, zStI 9 6, zLdA 2, zLdA 0, zLdI 5, zPush 8, zBin Nat.add, zAldS [(0, slen, scr)], zLdA 0, zLdI 5, zPush 16, zBin Nat.add, zAldS [(0, slen, scr)], zCallV cal 18 [] 196 3, zStI 9 7, zLdA 2, zCallV cal 18 [] 273 1, zLdI 6, zJeq iv false 1055]),
  (1053, 1054, [zNo]),
  (1055, 1060, [zLdI 6, z0eq iv true 1072]),
  (1060, 1070, [zLdA 3, zPush 0, zAld (fun v => zt v 4) 66 4, zLdI 7, zI2l, zLcmp, z0eq iv false 1072]),
  (1070, 1071, [zNo]),
  (1072, 1075, [zGoto 2770]),
  (1075, 1086, [zLdA 1, zCallV cal 17 [] 10 1, zLdA 2, zCallV cal 18 [] 203 1, zJeq iv false 2770]),
  (1086, 1087, [zNo]),
  (1088, 1099, [zLdA 1, zCallV cal 17 [] 18 1, zLdA 2, zCallV cal 18 [] 213 1, zJeq iv false 2770]),
  (1099, 1100, [zNo]),
  (1101, 1112, [zLdA 1, zCallV cal 17 [] 8 1, zLdA 2, zCallV cal 18 [] 200 1, zJeq iv false 2770]),
  (1112, 1113, [zNo]),
  (1114, 1136, [zLdA 1, zLdA 3, zCallR cal 159 2, zStI 9 6, zLdA 2, zCallV cal 18 [] 198 1, zStI 9 7, zLdA 2, zCallV cal 18 [] 273 1, zLdI 6, zJeq iv false 1138]),
  (1136, 1137, [zNo]),
  (1138, 1143, [zLdI 6, z0eq iv true 1155]),
  (1143, 1144, [zNo]),
  (1155, 1158, [zGoto 2770]),
  (1158, 1192, [zLdA 1, zLdA 0, zLdI 5, zPush 8, zBin Nat.add, zAldS [(0, slen, scr)], zLdA 3, zCallR cal 158 3, zStI 9 6, zLdA 2, zLdA 0, zLdI 5, zPush 8, zBin Nat.add, zAldS [(0, slen, scr)], zCallV cal 18 [] 197 2, zStI 9 7, zLdA 2, zCallV cal 18 [] 273 1, zLdI 6, zJeq iv false 1194]),
  (1192, 1193, [zNo]),
  (1194, 1199, [zLdI 6, z0eq iv true 1211]),
  (1199, 1200, [zNo]),
  (1211, 1214, [zGoto 2770]),
  (1214, 1248, [zLdA 1, zLdA 0, zLdI 5, zPush 8, zBin Nat.add, zAldS [(0, slen, scr)], zLdA 3, zCallR cal 155 3, zStI 9 6, zLdA 2, zLdA 0, zLdI 5, zPush 8, zBin Nat.add, zAldS [(0, slen, scr)], zCallV cal 18 [] 193 2, zStI 9 7, zLdA 2, zCallV cal 18 [] 273 1, zLdI 6, zJeq iv false 1250]),
  (1248, 1249, [zNo]),
  (1250, 1255, [zLdI 6, z0eq iv true 1267]),
  (1255, 1256, [zNo]),
  (1267, 1270, [zGoto 2770]),
  (1270, 1292, [zLdA 1, zLdA 3, zCallR cal 180 2, zStI 9 6, zLdA 2, zCallV cal 18 [] 254 1, zStI 9 7, zLdA 2, zCallV cal 18 [] 273 1, zLdI 6, zJeq iv false 1294]),
  (1292, 1293, [zNo]),
  (1294, 1299, [zLdI 6, z0eq iv true 1311]),
  (1299, 1300, [zNo]),
  (1311, 1314, [zGoto 2770]),
  (1314, 1348, [zLdA 1, zLdA 0, zLdI 5, zPush 8, zBin Nat.add, zAldS [(0, slen, scr)], zLdA 3, zCallR cal 191 3, zStI 9 6, zLdA 2, zLdA 0, zLdI 5, zPush 8, zBin Nat.add, zAldS [(0, slen, scr)], zCallV cal 18 [] 281 2, zStI 9 7, zLdA 2, zCallV cal 18 [] 273 1, zLdI 6, zJeq iv false 1350]),
  (1348, 1349, [zNo]),
  (1350, 1355, [zLdI 6, z0eq iv true 1374]),
  (1355, 1363, [zLdA 3, zPush 0, zAld (fun v => zt v 4) 66 4, zLdI 7, z0eq iv false 1367]),
  (1363, 1367, [zPush 12, zGoto 1368]),
  (1367, 1368, [zNo]),
  (1368, 1372, [zLcmp, z0eq iv false 1374]),
  (1372, 1373, [zNo]),
  (1374, 1377, [zGoto 2770]),
  (1377, 1388, [zLdA 1, zCallV cal 17 [] 58 1, zLdA 2, zCallV cal 18 [] 266 1, zJeq iv false 2770]),
  (1388, 1389, [zNo]),
  (1390, 1436, [zLdA 1, zLdA 0, zLdI 5, zPush 8, zBin Nat.add, zAldS [(0, slen, scr)], zLdA 0, zLdI 5, zPush 16, zBin Nat.add, zAldS [(0, slen, scr)], zLdA 3, zCallR cal 169 4, zStI 9 6, zLdA 2, zLdA 0, zLdI 5, zPush 8, zBin Nat.add, zAldS [(0, slen, scr)], zLdA 0, zLdI 5, zPush 16, zBin Nat.add, zAldS [(0, slen, scr)], zCallV cal 18 [] 228 3, zStI 9 7, zLdA 2, zCallV cal 18 [] 273 1, zLdI 6, zJeq iv false 1438]),
  (1436, 1437, [zNo]),
  (1438, 1443, [zLdI 6, z0eq iv true 1455]),
  (1443, 1444, [zNo]),
  (1455, 1458, [zGoto 2770]),
  (1458, 1492, [zLdA 1, zLdA 0, zLdI 5, zPush 8, zBin Nat.add, zAldS [(0, slen, scr)], zLdA 3, zCallR cal 183 3, zStI 9 6, zLdA 2, zLdA 0, zLdI 5, zPush 8, zBin Nat.add, zAldS [(0, slen, scr)], zCallV cal 18 [] 261 2, zStI 9 7, zLdA 2, zCallV cal 18 [] 273 1, zLdI 6, zJeq iv false 1494]),
  (1492, 1493, [zNo]),
  (1494, 1499, [zLdI 6, z0eq iv true 1511]),
  (1499, 1500, [zNo]),
  (1511, 1514, [zGoto 2770]),
  (1514, 1525, [zLdA 1, zCallV cal 17 [] 11 1, zLdA 2, zCallV cal 18 [] 204 1, zJeq iv false 2770]),
  (1525, 1526, [zNo]),
  (1527, 1538, [zLdA 1, zCallV cal 17 [] 29 1, zLdA 2, zCallV cal 18 [] 234 1, zJeq iv false 2770]),
  (1538, 1539, [zNo]),
  (1540, 1551, [zLdA 1, zCallV cal 17 [] 22 1, zLdA 2, zCallV cal 18 [] 220 1, zJeq iv false 2770]),
  (1551, 1552, [zNo]),
  (1553, 1575, [zLdA 1, zLdA 3, zCallR cal 185 2, zStI 9 6, zLdA 2, zCallV cal 18 [] 272 1, zStI 9 7, zLdA 2, zCallV cal 18 [] 273 1, zLdI 6, zJeq iv false 1577]),
  (1575, 1576, [zNo]),
  (1577, 1582, [zLdI 6, z0eq iv true 1594]),
  (1582, 1583, [zNo]),
  (1594, 1597, [zGoto 2770]),
  (1597, 1633, [zLdA 1, zLdA 0, zLdI 5, zPush 8, zBin Nat.add, zAldS [(0, slen, scr)], zI2cT dc, zLdA 3, zCallR cal 168 3, zStI 9 6, zLdA 2, zLdA 0, zLdI 5, zPush 8, zBin Nat.add, zAldS [(0, slen, scr)], zI2cT dc, zCallV cal 18 [] 227 2, zStI 9 7, zLdA 2, zCallV cal 18 [] 273 1, zLdI 6, zJeq iv false 1635]),
  (1633, 1634, [zNo]),
  (1635, 1640, [zLdI 6, z0eq iv true 1659]),
  (1640, 1648, [zLdA 3, zPush 0, zAld (fun v => zt v 4) 66 4, zLdI 7, z0eq iv false 1652]),
  (1648, 1649, [zNo]),
  (1652, 1657, [zPush 4, zLcmp, z0eq iv false 1659]),
  (1657, 1658, [zNo]),
  (1659, 1662, [zGoto 2770]),
  (1662, 1710, [zLdA 1, zLdA 0, zLdI 5, zPush 8, zBin Nat.add, zAldS [(0, slen, scr)], zI2cT dc, zLdA 0, zLdI 5, zPush 16, zBin Nat.add, zAldS [(0, slen, scr)], zLdA 3, zCallR cal 178 4, zStI 9 6, zLdA 2, zLdA 0, zLdI 5, zPush 8, zBin Nat.add, zAldS [(0, slen, scr)], zI2cT dc, zLdA 0, zLdI 5, zPush 16, zBin Nat.add, zAldS [(0, slen, scr)], zCallV cal 18 [] 252 3, zStI 9 7, zLdA 2, zCallV cal 18 [] 273 1, zLdI 6, zJeq iv false 1712]),
  (1710, 1711, [zNo]),
  (1712, 1717, [zLdI 6, z0eq iv true 1729]),
  (1717, 1718, [zNo]),
  (1729, 1732, [zGoto 2770]),
  (1732, 1768, [zLdA 1, zLdA 0, zLdI 5, zPush 8, zBin Nat.add, zAldS [(0, slen, scr)], zI2cT dc, zLdA 3, zCallR cal 171 3, zStI 9 6, zLdA 2, zLdA 0, zLdI 5, zPush 8, zBin Nat.add, zAldS [(0, slen, scr)], zI2cT dc, zCallV cal 18 [] 235 2, zStI 9 7, zLdA 2, zCallV cal 18 [] 273 1, zLdI 6, zJeq iv false 1770]),
  (1768, 1769, [zNo]),
  (1770, 1775, [zLdI 6, z0eq iv true 1794]),
  (1775, 1783, [zLdA 3, zPush 0, zAld (fun v => zt v 4) 66 4, zLdI 7, z0eq iv false 1787]),
  (1783, 1787, [zPush 12, zGoto 1788]),
  (1787, 1788, [zNo]),
  (1788, 1792, [zLcmp, z0eq iv false 1794]),
  (1792, 1793, [zNo]),
  (1794, 1797, [zGoto 2770]),
  (1797, 1833, [zLdA 1, zLdA 0, zLdI 5, zPush 8, zBin Nat.add, zAldS [(0, slen, scr)], zI2cT dc, zLdA 3, zCallR cal 156 3, zStI 9 6, zLdA 2, zLdA 0, zLdI 5, zPush 8, zBin Nat.add, zAldS [(0, slen, scr)], zI2cT dc, zCallV cal 18 [] 195 2, zStI 9 7, zLdA 2, zCallV cal 18 [] 273 1, zLdI 6, zJeq iv false 1835]),
  (1833, 1834, [zNo]),
  (1835, 1840, [zLdI 6, z0eq iv true 1852]),
  (1840, 1850, [zLdA 3, zPush 0, zAld (fun v => zt v 4) 66 4, zLdI 7, zI2l, zLcmp, z0eq iv false 1852]),
  (1850, 1851, [zNo]),
  (1852, 1855, [zGoto 2770]),
  (1855, 1872, [zLdA 1, zLdA 0, zLdI 5, zPush 8, zBin Nat.add, zAldS [(0, slen, scr)], zI2cT dc, zLdA 0, zLdI 5, zPush 16, zBin Nat.add, zAldS [(0, slen, scr)], z0eq iv false 1876]),
  (1872, 1876, [zPush 8, zGoto 1877]),
  (1876, 1877, [zPush 0]),
  (1877, 1900, [zLdA 3, zCallR cal 161 4, zStI 9 6, zLdA 2, zLdA 0, zLdI 5, zPush 8, zBin Nat.add, zAldS [(0, slen, scr)], zI2cT dc, zLdA 0, zLdI 5, zPush 16, zBin Nat.add, zAldS [(0, slen, scr)], z0eq iv false 1904]),
  (1900, 1904, [zPush 8, zGoto 1905]),
  (1904, 1905, [zPush 0]),
  (1905, 1919, [zCallV cal 18 [] 202 3, zStI 9 7, zLdA 2, zCallV cal 18 [] 273 1, zLdI 6, zJeq iv false 1921]),
  (1919, 1920, [zNo]),
  (1921, 1926, [zLdI 6, z0eq iv true 1945]),
  (1926, 1934, [zLdA 3, zPush 0, zAld (fun v => zt v 4) 66 4, zLdI 7, z0eq iv false 1938]),
  (1934, 1935, [zNo]),
  (1938, 1943, [zPush 4, zLcmp, z0eq iv false 1945]),
  (1943, 1944, [zNo]),
  (1945, 1948, [zGoto 2770]),
  (1948, 1959, [zLdA 1, zCallV cal 17 [] 59 1, zLdA 2, zCallV cal 18 [] 267 1, zJeq iv false 2770]),
  (1959, 1960, [zNo]),
  (1961, 1983, [zLdA 1, zLdA 3, zCallR cal 160 2, zStI 9 6, zLdA 2, zCallV cal 18 [] 199 1, zStI 9 7, zLdA 2, zCallV cal 18 [] 273 1, zLdI 6, zJeq iv false 1985]),
  (1983, 1984, [zNo]),
  (1985, 1990, [zLdI 6, z0eq iv true 2002]),
  (1990, 2000, [zLdA 3, zPush 0, zAld (fun v => zt v 4) 66 4, zLdI 7, zI2l, zLcmp, z0eq iv false 2002]),
  (2000, 2001, [zNo]),
  (2002, 2005, [zGoto 2770]),
  (2005, 2016, [zLdA 1, zCallV cal 17 [] 15 1, zLdA 2, zCallV cal 18 [] 209 1, zJeq iv false 2770]),
  (2016, 2017, [zNo]),
  (2018, 2052, [zLdA 1, zLdA 0, zLdI 5, zPush 8, zBin Nat.add, zAldS [(0, slen, scr)], zLdA 3, zCallR cal 162 3, zStI 9 6, zLdA 2, zLdA 0, zLdI 5, zPush 8, zBin Nat.add, zAldS [(0, slen, scr)], zCallV cal 18 [] 208 2, zStL 9 7, zLdA 2, zCallV cal 18 [] 273 1, zLdI 6, zJeq iv false 2054]),
  (2052, 2053, [zNo]),
  (2054, 2059, [zLdI 6, z0eq iv true 2070]),
  (2059, 2068, [zLdA 3, zPush 0, zAld (fun v => zt v 4) 66 4, zLdL 7, zLcmp, z0eq iv false 2070]),
  (2068, 2069, [zNo]),
  (2070, 2073, [zGoto 2770]),
  (2073, 2085, [zLdA 1, zCallV cal 17 [] 57 1, zLdA 2, zCallV cal 18 [] 265 1, zLcmp, z0eq iv false 2770]),
  (2085, 2086, [zNo]),
  (2087, 2109, [zLdA 1, zLdA 3, zCallR cal 176 2, zStI 9 6, zLdA 2, zCallV cal 18 [] 249 1, zStI 9 7, zLdA 2, zCallV cal 18 [] 273 1, zLdI 6, zJeq iv false 2111]),
  (2109, 2110, [zNo]),
  (2111, 2116, [zLdI 6, z0eq iv true 2128]),
  (2116, 2117, [zNo]),
  (2128, 2131, [zGoto 2770]),
  (2131, 2165, [zLdA 1, zLdA 0, zLdI 5, zPush 8, zBin Nat.add, zAldS [(0, slen, scr)], zLdA 3, zCallR cal 175 3, zStI 9 6, zLdA 2, zLdA 0, zLdI 5, zPush 8, zBin Nat.add, zAldS [(0, slen, scr)], zCallV cal 18 [] 248 2, zStI 9 7, zLdA 2, zCallV cal 18 [] 273 1, zLdI 6, zJeq iv false 2167]),
  (2165, 2166, [zNo]),
  (2167, 2172, [zLdI 6, z0eq iv true 2184]),
  (2172, 2182, [zLdA 3, zPush 0, zAld (fun v => zt v 4) 66 4, zLdI 7, zI2l, zLcmp, z0eq iv false 2184]),
  (2182, 2183, [zNo]),
  (2184, 2187, [zGoto 2770]),
  (2187, 2221, [zLdA 1, zLdA 0, zLdI 5, zPush 8, zBin Nat.add, zAldS [(0, slen, scr)], zLdA 3, zCallR cal 173 3, zStI 9 6, zLdA 2, zLdA 0, zLdI 5, zPush 8, zBin Nat.add, zAldS [(0, slen, scr)], zCallV cal 18 [] 244 2, zStI 9 7, zLdA 2, zCallV cal 18 [] 273 1, zLdI 6, zJeq iv false 2223]),
  (2221, 2222, [zNo]),
  (2223, 2228, [zLdI 6, z0eq iv true 2240]),
  (2228, 2238, [zLdA 3, zPush 0, zAld (fun v => zt v 4) 66 4, zLdI 7, zI2l, zLcmp, z0eq iv false 2240]),
  (2238, 2239, [zNo]),
  (2240, 2243, [zGoto 2770]),
  (2243, 2277, [zLdA 1, zLdA 0, zLdI 5, zPush 8, zBin Nat.add, zAldS [(0, slen, scr)], zLdA 3, zCallR cal 174 3, zStI 9 6, zLdA 2, zLdA 0, zLdI 5, zPush 8, zBin Nat.add, zAldS [(0, slen, scr)], zCallV cal 18 [] 245 2, zStI 9 7, zLdA 2, zCallV cal 18 [] 273 1, zLdI 6, zJeq iv false 2279]),
  (2277, 2278, [zNo]),
  (2279, 2284, [zLdI 6, z0eq iv true 2296]),
  (2284, 2294, [zLdA 3, zPush 0, zAld (fun v => zt v 4) 66 4, zLdI 7, zI2l, zLcmp, z0eq iv false 2296]),
  (2294, 2295, [zNo]),
  (2296, 2299, [zGoto 2770]),
  (2299, 2333, [zLdA 1, zLdA 0, zLdI 5, zPush 8, zBin Nat.add, zAldS [(0, slen, scr)], zLdA 3, zCallR cal 167 3, zStI 9 6, zLdA 2, zLdA 0, zLdI 5, zPush 8, zBin Nat.add, zAldS [(0, slen, scr)], zCallV cal 18 [] 226 2, zStI 9 7, zLdA 2, zCallV cal 18 [] 273 1, zLdI 6, zJeq iv false 2335]),
  (2333, 2334, [zNo]),
  (2335, 2340, [zLdI 6, z0eq iv true 2359]),
  (2340, 2348, [zLdA 3, zPush 0, zAld (fun v => zt v 4) 66 4, zLdI 7, z0eq iv false 2352]),
  (2348, 2352, [zPush 12, zGoto 2353]),
  (2352, 2353, [zNo]),
  (2353, 2357, [zLcmp, z0eq iv false 2359]),
  (2357, 2358, [zNo]),
  (2359, 2362, [zGoto 2770]),
  (2362, 2396, [zLdA 1, zLdA 0, zLdI 5, zPush 8, zBin Nat.add, zAldS [(0, slen, scr)], zLdA 3, zCallR cal 170 3, zStI 9 6, zLdA 2, zLdA 0, zLdI 5, zPush 8, zBin Nat.add, zAldS [(0, slen, scr)], zCallV cal 18 [] 230 2, zStI 9 7, zLdA 2, zCallV cal 18 [] 273 1, zLdI 6, zJeq iv false 2398]),
  (2396, 2397, [zNo]),
  (2398, 2403, [zLdI 6, z0eq iv true 2415]),
  (2403, 2404, [zNo]),
  (2415, 2418, [zGoto 2770]),
  (2418, 2429, [zLdA 1, zCallV cal 17 [] 12 1, zLdA 2, zCallV cal 18 [] 205 1, zJeq iv false 2770]),
  (2429, 2430, [zNo]),
  (2431, 2442, [zLdA 1, zCallV cal 17 [] 28 1, zLdA 2, zCallV cal 18 [] 233 1, zJeq iv false 2770]),
  (2442, 2443, [zNo]),
  (2444, 2466, [zLdA 1, zLdA 3, zCallR cal 164 2, zStI 9 6, zLdA 2, zCallV cal 18 [] 212 1, zStI 9 7, zLdA 2, zCallV cal 18 [] 273 1, zLdI 6, zJeq iv false 2468]),
  (2466, 2467, [zNo]),
  (2468, 2473, [zLdI 6, z0eq iv true 2485]),
  (2473, 2483, [zLdA 3, zPush 0, zAld (fun v => zt v 4) 66 4, zLdI 7, zI2l, zLcmp, z0eq iv false 2485]),
  (2483, 2484, [zNo]),
  (2485, 2488, [zGoto 2770]),
  (2488, 2534, [zLdA 1, zLdA 0, zLdI 5, zPush 8, zBin Nat.add, zAldS [(0, slen, scr)], zLdA 0, zLdI 5, zPush 16, zBin Nat.add, zAldS [(0, slen, scr)], zLdA 3, zCallR cal 172 4, zStI 9 6, zLdA 2, zLdA 0, zLdI 5, zPush 8, zBin Nat.add, zAldS [(0, slen, scr)], zLdA 0, zLdI 5, zPush 16, zBin Nat.add, zAldS [(0, slen, scr)], zCallV cal 18 [] 241 3, zStI 9 7, zLdA 2, zCallV cal 18 [] 273 1, zLdI 6, zJeq iv false 2536]),
  (2534, 2535, [zNo]),
  (2536, 2541, [zLdI 6, z0eq iv true 2553]),
  (2541, 2542, [zNo]),
  (2553, 2556, [zGoto 2770]),
  (2556, 2567, [zLdA 1, zCallV cal 17 [] 61 1, zLdA 2, zCallV cal 18 [] 271 1, zJeq iv false 2770]),
  (2567, 2568, [zNo]),
  (2569, 2580, [zLdA 1, zCallV cal 17 [] 55 1, zLdA 2, zCallV cal 18 [] 262 1, zJeq iv false 2770]),
  (2580, 2581, [zNo]),
  (2582, 2604, [zLdA 1, zLdA 3, zCallR cal 186 2, zStI 9 6, zLdA 2, zCallV cal 18 [] 274 1, zStI 9 7, zLdA 2, zCallV cal 18 [] 273 1, zLdI 6, zJeq iv false 2606]),
  (2604, 2605, [zNo]),
  (2606, 2611, [zLdI 6, z0eq iv true 2623]),
  (2611, 2621, [zLdA 3, zPush 0, zAld (fun v => zt v 4) 66 4, zLdI 7, zI2l, zLcmp, z0eq iv false 2623]),
  (2621, 2622, [zNo]),
  (2623, 2626, [zGoto 2770]),
  (2626, 2649, [zLdA 1, zLdA 4, zCallR cal 165 2, zStI 9 6, zLdA 2, zCallV cal 18 [] 214 1, zStF 9 7, zLdA 2, zCallV cal 18 [] 273 1, zLdI 6, zJeq iv false 2651]),
  (2649, 2650, [zNo]),
  (2651, 2656, [zLdI 6, z0eq iv true 2689]),
  (2656, 2658, [zNo]),
  (2689, 2692, [zGoto 2770]),
  (2692, 2715, [zLdA 1, zLdA 4, zCallR cal 177 2, zStI 9 6, zLdA 2, zCallV cal 18 [] 251 1, zStD 9 7, zLdA 2, zCallV cal 18 [] 273 1, zLdI 6, zJeq iv false 2717]),
  (2715, 2716, [zNo]),
  (2717, 2722, [zLdI 6, z0eq iv true 2754]),
  (2722, 2724, [zNo]),
  (2754, 2757, [zGoto 2770]),
  (2757, 2768, [zLdA 1, zCallV cal 17 [] 31 1, zLdA 2, zCallV cal 18 [] 239 1, zJeq iv false 2770]),
  (2768, 2769, [zNo]),
  (2770, 2776, [zIinc 9 5 4, zGoto 28]),
  (2776, 2778, [zPush 8, zRetV zisZ])])
noncomputable def tb_X11_init (scr slen opc : Nat) (iv : Nat → Nat × Nat) (dc db du : List (Nat × Nat)) (cal : zCal) : Nat × zBs := (1, [(0, 137, [zLdA 0, zObj, zLdA 0, zNew 9 6 66902235595591869424621321917393693453582339, zDup, zCallI cal 90 1, zPutf zisA 17 0, zLdA 0, zNew 13 8 315936875005671560093820985286606888826109907523564727456386514947, zDup, zCallI cal 119 1, zPutf zisA 17 1, zLdA 0, zNew 15 4 14167099448608935641091, zDup, zCallI cal 135 1, zPutf zisA 17 2, zLdA 0, zNew 6 4 66902235595591869424621321917393693453582339, zDup, zCallI cal 70 1, zPutf zisA 17 3, zLdA 0, zNew 6 4 66902235595591869424621321917393693453582339, zDup, zCallI cal 70 1, zPutf zisA 17 4, zLdA 0, zNew 10 3 14167099448608935641091, zDup, zCallI cal 101 1, zPutf zisA 17 5, zLdA 0, zNew 8 2 3, zDup, zCallI cal 87 1, zPutf zisA 17 6, zLdA 0, zNew 12 7 14167099448608935641091, zDup, zCallI cal 110 1, zPutf zisA 17 7, zLdA 0, zNew 7 1 0, zDup, zCallI cal 77 1, zPutf zisA 17 8, zLdA 0, zNew 14 5 315936875005671560093820985286606888826109907523564727456386514947, zDup, zCallI cal 129 1, zPutf zisA 17 9, zLdA 0, zNew 11 4 66902235595591869424621321917393693453582339, zDup, zCallI cal 103 1, zPutf zisA 17 10, zLdA 0, zNew 16 6 315936875005671560093820985286606888826109907523564727456386514947, zDup, zCallI cal 144 1, zPutf zisA 17 11, zRet0])])
noncomputable def tb_X11_above (scr slen opc : Nat) (iv : Nat → Nat × Nat) (dc db du : List (Nat × Nat)) (cal : zCal) : Nat × zBs := (2, [(0, 12, [zLdI 1, zLdA 0, zGetf 17 3, zGetf 6 3, zCall cal 42 2, zNo])])
noncomputable def tb_X11_apex (scr slen opc : Nat) (iv : Nat → Nat × Nat) (dc db du : List (Nat × Nat)) (cal : zCal) : Nat × zBs := (2, [(0, 20, [zPush 178, zLdI 1, zCall cal 44 2, zLdA 0, zGetf 17 7, zLdA 0, zGetf 17 0, zLdI 1, zCallV cal 12 [] 112 3, zRetV zisI])])
noncomputable def tb_X11_bag (scr slen opc : Nat) (iv : Nat → Nat × Nat) (dc db du : List (Nat × Nat)) (cal : zCal) : Nat × zBs := (3, [(0, 10, [zLdA 0, zLdI 1, zCallV cal 17 [] 47 2, zLdI 2, zPush 34359738360, zJlt iv false false 49]),
  (10, 21, [zLdI 2, zLdA 0, zGetf 17 3, zGetf 6 3, zJlt iv false true 49]),
  (21, 26, [zLdI 2, zPush 34359738360, zJeq iv true 30]),
  (26, 30, [zPush 8, zGoto 31]),
  (30, 31, [zNo]),
  (31, 41, [zLdA 0, zGetf 17 3, zGetf 6 3, z0eq iv true 45]),
  (41, 45, [zPush 8, zGoto 46]),
  (45, 46, [zNo]),
  (46, 49, [zJeq iv false 57]),
  (49, 57, [zThrow 2]),
  (57, 69, [zLdA 0, zGetf 17 3, zGetf 6 3, zPush 160, zJlt iv false false 77]),
  (69, 72, [zNo]),
  (77, 87, [zLdA 0, zGetf 17 3, zLdI 1, zLdI 2, zCallV cal 6 [] 73 3, zRetV zisI])])
noncomputable def tb_X11_bagAt (scr slen opc : Nat) (iv : Nat → Nat × Nat) (dc db du : List (Nat × Nat)) (cal : zCal) : Nat × zBs := (2, [(0, 12, [zLdI 1, zLdA 0, zGetf 17 3, zGetf 6 3, zCall cal 42 2, zNo])])
noncomputable def tb_X11_bagWidth (scr slen opc : Nat) (iv : Nat → Nat × Nat) (dc db du : List (Nat × Nat)) (cal : zCal) : Nat × zBs := (1, [(0, 5, [zLdA 0, zCallV cal 17 [] 40 1, zNo])])
noncomputable def tb_X11_bestSet (scr slen opc : Nat) (iv : Nat → Nat × Nat) (dc db du : List (Nat × Nat)) (cal : zCal) : Nat × zBs := (2, [(0, 16, [zLdA 0, zGetf 17 8, zLdA 0, zGetf 17 0, zCallV cal 7 [] 84 2, zStI 2 1, zLdI 1, z0lt iv false true 24]),
  (16, 19, [zNo]),
  (24, 26, [zLdI 1, zRetV zisI])])
noncomputable def tb_X11_check (scr slen opc : Nat) (iv : Nat → Nat × Nat) (dc db du : List (Nat × Nat)) (cal : zCal) : Nat × zBs := (1, [(0, 12, [zLdA 0, zGetf 17 3, zLdA 0, zGetf 17 0, zCallV cal 6 [] 72 2, zRetV zisC])])
noncomputable def tb_X11_clause (scr slen opc : Nat) (iv : Nat → Nat × Nat) (dc db du : List (Nat × Nat)) (cal : zCal) : Nat × zBs := (3, [(0, 23, [zPush 194, zLdI 1, zCall cal 44 2, zLdA 0, zGetf 17 8, zPush 194, zLdI 1, zCallV cal 0 zsobj 290 2, zLdI 2, zCallV cal 7 [] 85 3, zRetV zisZ])])
noncomputable def tb_X11_clearBags (scr slen opc : Nat) (iv : Nat → Nat × Nat) (dc db du : List (Nat × Nat)) (cal : zCal) : Nat × zBs := (2, [(0, 18, [zLdA 0, zGetf 17 3, zGetf 6 3, zStI 2 1, zLdA 0, zGetf 17 3, zPush 0, zPutf zisI 6 3, zLdI 1, zRetV zisI])])
noncomputable def tb_X11_clearFamily (scr slen opc : Nat) (iv : Nat → Nat × Nat) (dc db du : List (Nat × Nat)) (cal : zCal) : Nat × zBs := (2, [(0, 18, [zLdA 0, zGetf 17 6, zGetf 8 1, zStI 2 1, zLdA 0, zGetf 17 6, zPush 0, zPutf zisI 8 1, zLdI 1, zRetV zisI])])
noncomputable def tb_X11_clearHyperedges (scr slen opc : Nat) (iv : Nat → Nat × Nat) (dc db du : List (Nat × Nat)) (cal : zCal) : Nat × zBs := (2, [(0, 18, [zLdA 0, zGetf 17 10, zGetf 11 3, zStI 2 1, zLdA 0, zGetf 17 10, zPush 0, zPutf zisI 11 3, zLdI 1, zRetV zisI])])
noncomputable def tb_X11_clearOrder (scr slen opc : Nat) (iv : Nat → Nat × Nat) (dc db du : List (Nat × Nat)) (cal : zCal) : Nat × zBs := (2, [(0, 18, [zLdA 0, zGetf 17 1, zGetf 13 4, zStI 2 1, zLdA 0, zGetf 17 1, zPush 0, zPutf zisI 13 4, zLdI 1, zRetV zisI])])
noncomputable def tb_X11_colourings (scr slen opc : Nat) (iv : Nat → Nat × Nat) (dc db du : List (Nat × Nat)) (cal : zCal) : Nat × zBs := (2, [(0, 19, [zLdI 1, zPush 72, zCall cal 46 2, zLdA 0, zGetf 17 9, zLdA 0, zGetf 17 0, zLdI 1, zCallV cal 14 [] 130 3, zRetV (fun v => zt v 4)])])
noncomputable def tb_X11_colours (scr slen opc : Nat) (iv : Nat → Nat × Nat) (dc db du : List (Nat × Nat)) (cal : zCal) : Nat × zBs := (1, [(0, 12, [zLdA 0, zGetf 17 9, zLdA 0, zGetf 17 0, zCallV cal 14 [] 132 2, zRetV zisI])])
noncomputable def tb_X11_contract (scr slen opc : Nat) (iv : Nat → Nat × Nat) (dc db du : List (Nat × Nat)) (cal : zCal) : Nat × zBs := (3, [(0, 7, [zLdA 0, zLdI 1, zLdI 2, zCallV cal 17 [] 45 3, zNo])])
noncomputable def tb_X11_cover (scr slen opc : Nat) (iv : Nat → Nat × Nat) (dc db du : List (Nat × Nat)) (cal : zCal) : Nat × zBs := (1, [(0, 20, [zLdA 0, zGetf 17 3, zCallV cal 6 [] 76 1, zLdA 0, zGetf 17 10, zCallV cal 11 [] 107 1, zPush 34359738360, zBin Nat.xor, zAndS, z0eq iv false 28]),
  (20, 23, [zNo]),
  (28, 40, [zLdA 0, zGetf 17 10, zLdA 0, zGetf 17 3, zCallV cal 11 [] 105 2, zRetV zisI])])
noncomputable def tb_X11_decompose (scr slen opc : Nat) (iv : Nat → Nat × Nat) (dc db du : List (Nat × Nat)) (cal : zCal) : Nat × zBs := (1, [(0, 43, [zLdA 0, zGetf 17 1, zLdA 0, zGetf 17 0, zPush 928, zCallV cal 13 [] 125 3, zLdA 0, zGetf 17 3, zLdA 0, zGetf 17 0, zLdA 0, zGetf 17 2, zLdA 0, zGetf 17 1, zGetf 13 2, zCallV cal 6 [] 75 4, zLdA 0, zGetf 17 3, zGetf 6 3, zRetV zisI])])
noncomputable def tb_X11_density (scr slen opc : Nat) (iv : Nat → Nat × Nat) (dc db du : List (Nat × Nat)) (cal : zCal) : Nat × zBs := (2, [(0, 13, [zLdA 0, zGetf 17 0, zCallV cal 9 [] 92 1, zStI 2 1, zLdI 1, zPush 16, zJlt iv false true 21]),
  (13, 21, [zThrow 0]),
  (21, 22, [zNo])])
noncomputable def tb_X11_edge (scr slen opc : Nat) (iv : Nat → Nat × Nat) (dc db du : List (Nat × Nat)) (cal : zCal) : Nat × zBs := (5, [(0, 7, [zLdA 0, zLdI 1, zLdI 2, zCallV cal 17 [] 45 3, zNo])])
noncomputable def tb_X11_edges (scr slen opc : Nat) (iv : Nat → Nat × Nat) (dc db du : List (Nat × Nat)) (cal : zCal) : Nat × zBs := (1, [(0, 15, [zLdA 0, zGetf 17 0, zLdA 0, zGetf 17 0, zGetf 9 4, zCallV cal 9 [] 93 2, zRetV zisI])])
noncomputable def tb_X11_familyOrder (scr slen opc : Nat) (iv : Nat → Nat × Nat) (dc db du : List (Nat × Nat)) (cal : zCal) : Nat × zBs := (1, [(0, 15, [zLdA 0, zGetf 17 6, zLdA 0, zGetf 17 0, zGetf 9 4, zCallV cal 8 [] 89 2, zRetV zisI])])
noncomputable def tb_X11_fewestSearchers (scr slen opc : Nat) (iv : Nat → Nat × Nat) (dc db du : List (Nat × Nat)) (cal : zCal) : Nat × zBs := (1, [(0, 27, [zLdA 0, zGetf 17 5, zLdA 0, zGetf 17 0, zCallV cal 10 [] 102 2, zLdA 0, zGetf 17 5, zGetf 10 0, zLdA 0, zGetf 17 0, zGetf 9 4, zAld zisI 64 0, zRetV zisI])])
noncomputable def tb_X11_hasCover (scr slen opc : Nat) (iv : Nat → Nat × Nat) (dc db du : List (Nat × Nat)) (cal : zCal) : Nat × zBs := (2, [(0, 17, [zLdI 1, zPush 80, zCall cal 46 2, zLdA 0, zGetf 17 0, zCall cal 80 1, zLdI 1, zJlt iv true false 21]),
  (17, 21, [zPush 8, zGoto 22]),
  (21, 22, [zNo]),
  (22, 23, [zRetV zisZ])])
noncomputable def tb_X11_hasMinor (scr slen opc : Nat) (iv : Nat → Nat × Nat) (dc db du : List (Nat × Nat)) (cal : zCal) : Nat × zBs := (2, [(0, 27, [zPush 114, zLdI 1, zCall cal 44 2, zLdA 0, zGetf 17 7, zLdA 0, zGetf 17 0, zLdI 1, zLdA 0, zGetf 17 0, zGetf 9 4, zCallV cal 12 [] 113 4, zRetV zisZ])])
noncomputable def tb_X11_haven (scr slen opc : Nat) (iv : Nat → Nat × Nat) (dc db du : List (Nat × Nat)) (cal : zCal) : Nat × zBs := (3, [(0, 19, [zLdI 1, zPush 80, zCall cal 46 2, zLdA 0, zLdI 2, zCallV cal 17 [] 47 2, zLdI 2, zCall cal 283 1, zLdI 1, zJlt iv true true 27]),
  (19, 22, [zNo]),
  (27, 35, [zLdA 0, zCallV cal 17 [] 23 1, zLdI 1, zJlt iv true false 43]),
  (35, 43, [zThrow 3]),
  (43, 44, [zNo])])
noncomputable def tb_X11_hyperedge (scr slen opc : Nat) (iv : Nat → Nat × Nat) (dc db du : List (Nat × Nat)) (cal : zCal) : Nat × zBs := (2, [(0, 6, [zLdA 0, zLdI 1, zCallV cal 17 [] 41 2, zNo])])
noncomputable def tb_X11_isAcyclic (scr slen opc : Nat) (iv : Nat → Nat × Nat) (dc db du : List (Nat × Nat)) (cal : zCal) : Nat × zBs := (1, [(0, 8, [zLdA 0, zGetf 17 10, zCallV cal 11 [] 109 1, zRetV zisZ])])
noncomputable def tb_X11_isBramble (scr slen opc : Nat) (iv : Nat → Nat × Nat) (dc db du : List (Nat × Nat)) (cal : zCal) : Nat × zBs := (1, [(0, 12, [zLdA 0, zGetf 17 6, zLdA 0, zGetf 17 0, zCallV cal 8 [] 88 2, zRetV zisZ])])
noncomputable def tb_X11_isIn (scr slen opc : Nat) (iv : Nat → Nat × Nat) (dc db du : List (Nat × Nat)) (cal : zCal) : Nat × zBs := (2, [(0, 27, [zPush 178, zLdI 1, zCall cal 44 2, zLdA 0, zGetf 17 7, zLdA 0, zGetf 17 0, zLdI 1, zLdA 0, zGetf 17 0, zGetf 9 4, zCallV cal 12 [] 115 4, zRetV zisZ])])
noncomputable def tb_X11_isTrue (scr slen opc : Nat) (iv : Nat → Nat × Nat) (dc db du : List (Nat × Nat)) (cal : zCal) : Nat × zBs := (2, [(0, 10, [zLdA 0, zGetf 17 0, zGetf 9 4, z0eq iv true 12]),
  (10, 12, [zPush 8, zRetV zisZ]),
  (12, 13, [zNo])])
noncomputable def tb_X11_join (scr slen opc : Nat) (iv : Nat → Nat × Nat) (dc db du : List (Nat × Nat)) (cal : zCal) : Nat × zBs := (3, [(0, 6, [zLdA 0, zLdI 1, zCallV cal 17 [] 48 2, zNo])])
noncomputable def tb_X11_kernel (scr slen opc : Nat) (iv : Nat → Nat × Nat) (dc db du : List (Nat × Nat)) (cal : zCal) : Nat × zBs := (2, [(0, 13, [zLdA 0, zLdI 1, zCallV cal 17 [] 43 2, zLdA 0, zGetf 17 2, zGetf 15 2, zRetV zisI])])
noncomputable def tb_X11_kernelLeft (scr slen opc : Nat) (iv : Nat → Nat × Nat) (dc db du : List (Nat × Nat)) (cal : zCal) : Nat × zBs := (2, [(0, 13, [zLdA 0, zLdI 1, zCallV cal 17 [] 43 2, zLdA 0, zGetf 17 2, zGetf 15 3, zRetV zisI])])
noncomputable def tb_X11_link (scr slen opc : Nat) (iv : Nat → Nat × Nat) (dc db du : List (Nat × Nat)) (cal : zCal) : Nat × zBs := (3, [(0, 20, [zLdA 0, zLdI 1, zCallV cal 17 [] 47 2, zLdA 0, zGetf 17 0, zLdI 1, zCall cal 81 2, zStI 3 2, zLdI 2, zPush 80, zJlt iv true true 28]),
  (20, 23, [zNo]),
  (28, 30, [zLdI 2, zRetV zisI])])
noncomputable def tb_X11_longest (scr slen opc : Nat) (iv : Nat → Nat × Nat) (dc db du : List (Nat × Nat)) (cal : zCal) : Nat × zBs := (1, [(0, 10, [zLdA 0, zGetf 17 0, zGetf 9 4, z0eq iv true 18]),
  (10, 18, [zThrow 3]),
  (18, 19, [zNo])])
noncomputable def tb_X11_lower (scr slen opc : Nat) (iv : Nat → Nat × Nat) (dc db du : List (Nat × Nat)) (cal : zCal) : Nat × zBs := (1, [(0, 12, [zLdA 0, zGetf 17 2, zLdA 0, zGetf 17 0, zCallV cal 15 [] 137 2, zRetV zisI])])
noncomputable def tb_X11_meanDegree (scr slen opc : Nat) (iv : Nat → Nat × Nat) (dc db du : List (Nat × Nat)) (cal : zCal) : Nat × zBs := (2, [(0, 13, [zLdA 0, zGetf 17 0, zCallV cal 9 [] 92 1, zStI 2 1, zLdI 1, zPush 8, zJlt iv false true 21]),
  (13, 21, [zThrow 0]),
  (21, 22, [zNo])])
noncomputable def tb_X11_model (scr slen opc : Nat) (iv : Nat → Nat × Nat) (dc db du : List (Nat × Nat)) (cal : zCal) : Nat × zBs := (3, [(0, 29, [zPush 114, zLdI 1, zCall cal 44 2, zLdA 0, zGetf 17 7, zLdA 0, zGetf 17 0, zLdI 1, zLdA 0, zGetf 17 0, zGetf 9 4, zCallV cal 12 [] 113 4, z0eq iv true 37]),
  (29, 37, [zThrow 3]),
  (37, 38, [zNo])])
noncomputable def tb_X11_needBags (scr slen opc : Nat) (iv : Nat → Nat × Nat) (dc db du : List (Nat × Nat)) (cal : zCal) : Nat × zBs := (1, [(0, 10, [zLdA 0, zGetf 17 3, zGetf 6 3, z0eq iv true 18]),
  (10, 18, [zThrow 3]),
  (18, 19, [zNo])])
noncomputable def tb_X11_needFilledSet (scr slen opc : Nat) (iv : Nat → Nat × Nat) (dc db du : List (Nat × Nat)) (cal : zCal) : Nat × zBs := (2, [(0, 9, [zLdA 0, zLdI 1, zCallV cal 17 [] 47 2, zLdI 1, z0eq iv true 17]),
  (9, 17, [zThrow 1]),
  (17, 18, [zNo])])
noncomputable def tb_X11_needIndex (scr slen opc : Nat) (iv : Nat → Nat × Nat) (dc db du : List (Nat × Nat)) (cal : zCal) : Nat × zBs := (2, [(0, 4, [zLdI 0, z0lt iv false false 9]),
  (4, 9, [zLdI 0, zLdI 1, zJlt iv false false 17]),
  (9, 17, [zThrow 2]),
  (17, 18, [zNo])])
noncomputable def tb_X11_needKernel (scr slen opc : Nat) (iv : Nat → Nat × Nat) (dc db du : List (Nat × Nat)) (cal : zCal) : Nat × zBs := (2, [(0, 21, [zLdI 1, zPush 80, zCall cal 46 2, zLdA 0, zGetf 17 2, zLdA 0, zGetf 17 0, zLdI 1, zCallV cal 15 [] 142 3, z0eq iv true 29]),
  (21, 24, [zNo]),
  (29, 30, [zRet0])])
noncomputable def tb_X11_needKind (scr slen opc : Nat) (iv : Nat → Nat × Nat) (dc db du : List (Nat × Nat)) (cal : zCal) : Nat × zBs := (2, [(0, 8, [zLdA 0, zLdI 1, zCallV cal 0 zsobj 290 2, z0lt iv false true 16]),
  (8, 16, [zThrow 1]),
  (16, 17, [zRet0])])
noncomputable def tb_X11_needPair (scr slen opc : Nat) (iv : Nat → Nat × Nat) (dc db du : List (Nat × Nat)) (cal : zCal) : Nat × zBs := (3, [(0, 6, [zLdA 0, zLdI 1, zCallV cal 17 [] 48 2, zNo])])
noncomputable def tb_X11_needRange (scr slen opc : Nat) (iv : Nat → Nat × Nat) (dc db du : List (Nat × Nat)) (cal : zCal) : Nat × zBs := (2, [(0, 4, [zLdI 0, z0lt iv false false 9]),
  (4, 9, [zLdI 0, zLdI 1, zJlt iv true true 17]),
  (9, 17, [zThrow 1]),
  (17, 18, [zRet0])])
noncomputable def tb_X11_needSet (scr slen opc : Nat) (iv : Nat → Nat × Nat) (dc db du : List (Nat × Nat)) (cal : zCal) : Nat × zBs := (2, [(0, 11, [zLdA 0, zGetf 17 0, zLdI 1, zCallV cal 9 [] 97 2, z0eq iv true 19]),
  (11, 19, [zThrow 1]),
  (19, 20, [zRet0])])
noncomputable def tb_X11_needVertex (scr slen opc : Nat) (iv : Nat → Nat × Nat) (dc db du : List (Nat × Nat)) (cal : zCal) : Nat × zBs := (2, [(0, 11, [zLdA 0, zGetf 17 0, zLdI 1, zCallV cal 9 [] 96 2, z0eq iv true 19]),
  (11, 19, [zThrow 2]),
  (19, 20, [zNo])])
noncomputable def tb_X11_neighbours (scr slen opc : Nat) (iv : Nat → Nat × Nat) (dc db du : List (Nat × Nat)) (cal : zCal) : Nat × zBs := (2, [(0, 6, [zLdA 0, zLdI 1, zCallV cal 17 [] 48 2, zNo])])
noncomputable def tb_X11_nice (scr slen opc : Nat) (iv : Nat → Nat × Nat) (dc db du : List (Nat × Nat)) (cal : zCal) : Nat × zBs := (1, [(0, 5, [zLdA 0, zCallV cal 17 [] 40 1, zNo])])
noncomputable def tb_X11_orderAt (scr slen opc : Nat) (iv : Nat → Nat × Nat) (dc db du : List (Nat × Nat)) (cal : zCal) : Nat × zBs := (3, [(0, 18, [zPush 210, zLdI 1, zCall cal 44 2, zLdI 2, zLdA 0, zGetf 17 0, zCallV cal 9 [] 92 1, zCall cal 42 2, zNo])])
noncomputable def tb_X11_parts (scr slen opc : Nat) (iv : Nat → Nat × Nat) (dc db du : List (Nat × Nat)) (cal : zCal) : Nat × zBs := (1, [(0, 15, [zLdA 0, zGetf 17 0, zLdA 0, zGetf 17 0, zGetf 9 4, zCallV cal 9 [] 98 2, zRetV zisI])])
noncomputable def tb_X11_place (scr slen opc : Nat) (iv : Nat → Nat × Nat) (dc db du : List (Nat × Nat)) (cal : zCal) : Nat × zBs := (2, [(0, 6, [zLdA 0, zLdI 1, zCallV cal 17 [] 48 2, zNo])])
noncomputable def tb_X11_put (scr slen opc : Nat) (iv : Nat → Nat × Nat) (dc db du : List (Nat × Nat)) (cal : zCal) : Nat × zBs := (2, [(0, 6, [zLdA 0, zLdI 1, zCallV cal 17 [] 41 2, zNo])])
noncomputable def tb_X11_red (scr slen opc : Nat) (iv : Nat → Nat × Nat) (dc db du : List (Nat × Nat)) (cal : zCal) : Nat × zBs := (1, [(0, 12, [zLdA 0, zGetf 17 11, zLdA 0, zGetf 17 0, zCallV cal 16 [] 150 2, zRetV zisI])])
noncomputable def tb_X11_remove (scr slen opc : Nat) (iv : Nat → Nat × Nat) (dc db du : List (Nat × Nat)) (cal : zCal) : Nat × zBs := (3, [(0, 6, [zLdA 0, zLdI 1, zCallV cal 17 [] 48 2, zNo])])
noncomputable def tb_X11_rings (scr slen opc : Nat) (iv : Nat → Nat × Nat) (dc db du : List (Nat × Nat)) (cal : zCal) : Nat × zBs := (1, [(0, 12, [zLdA 0, zGetf 17 9, zLdA 0, zGetf 17 0, zCallV cal 14 [] 131 2, zRetV (fun v => zt v 4)])])
noncomputable def tb_X11_searchers (scr slen opc : Nat) (iv : Nat → Nat × Nat) (dc db du : List (Nat × Nat)) (cal : zCal) : Nat × zBs := (1, [(0, 5, [zLdA 0, zCallV cal 17 [] 23 1, zRetV zisI])])
noncomputable def tb_X11_sets (scr slen opc : Nat) (iv : Nat → Nat × Nat) (dc db du : List (Nat × Nat)) (cal : zCal) : Nat × zBs := (1, [(0, 12, [zLdA 0, zGetf 17 8, zLdA 0, zGetf 17 0, zCallV cal 7 [] 78 2, zRetV zisI])])
noncomputable def tb_X11_size (scr slen opc : Nat) (iv : Nat → Nat × Nat) (dc db du : List (Nat × Nat)) (cal : zCal) : Nat × zBs := (1, [(0, 8, [zLdA 0, zGetf 17 0, zCallV cal 9 [] 92 1, zRetV zisI])])
noncomputable def tb_X11_split (scr slen opc : Nat) (iv : Nat → Nat × Nat) (dc db du : List (Nat × Nat)) (cal : zCal) : Nat × zBs := (2, [(0, 24, [zLdA 0, zGetf 17 11, zCallV cal 16 [] 145 1, zStI 2 1, zLdA 0, zGetf 17 11, zLdA 0, zGetf 17 0, zGetf 9 4, zCallV cal 16 [] 153 2, zLdI 1, zRetV zisI])])
noncomputable def tb_X11_takeHaven (scr slen opc : Nat) (iv : Nat → Nat × Nat) (dc db du : List (Nat × Nat)) (cal : zCal) : Nat × zBs := (1, [(0, 10, [zLdA 0, zGetf 17 0, zGetf 9 4, z0eq iv true 18]),
  (10, 18, [zThrow 3]),
  (18, 19, [zNo])])
noncomputable def tb_X11_twinWidth (scr slen opc : Nat) (iv : Nat → Nat × Nat) (dc db du : List (Nat × Nat)) (cal : zCal) : Nat × zBs := (1, [(0, 12, [zLdA 0, zGetf 17 0, zCallV cal 9 [] 92 1, zPush 56, zJlt iv true true 20]),
  (12, 15, [zNo]),
  (20, 32, [zLdA 0, zGetf 17 11, zLdA 0, zGetf 17 0, zCallV cal 16 [] 149 2, zRetV zisI])])
noncomputable def tb_X11_upper (scr slen opc : Nat) (iv : Nat → Nat × Nat) (dc db du : List (Nat × Nat)) (cal : zCal) : Nat × zBs := (1, [(0, 12, [zLdA 0, zGetf 17 2, zLdA 0, zGetf 17 0, zCallV cal 15 [] 136 2, zRetV zisI])])
noncomputable def tb_X11_vertex (scr slen opc : Nat) (iv : Nat → Nat × Nat) (dc db du : List (Nat × Nat)) (cal : zCal) : Nat × zBs := (3, [(0, 18, [zLdI 1, zPush 792, zCall cal 46 2, zLdA 0, zGetf 17 0, zGetf 9 3, zPush 80, zJlt iv false false 26]),
  (18, 21, [zNo]),
  (26, 45, [zLdA 0, zGetf 17 0, zLdI 1, zCallV cal 9 [] 91 2, zStI 3 2, zLdA 0, zGetf 17 11, zLdI 2, zCallV cal 16 [] 154 2, zLdI 2, zRetV zisI])])
noncomputable def tb_X11_weight (scr slen opc : Nat) (iv : Nat → Nat × Nat) (dc db du : List (Nat × Nat)) (cal : zCal) : Nat × zBs := (2, [(0, 6, [zLdA 0, zLdI 1, zCallV cal 17 [] 48 2, zNo])])
noncomputable def tb_X11_width (scr slen opc : Nat) (iv : Nat → Nat × Nat) (dc db du : List (Nat × Nat)) (cal : zCal) : Nat × zBs := (2, [(0, 40, [zPush 226, zLdI 1, zCall cal 44 2, zLdI 1, zSw iv 83 [(2147483748, 40), (2147483751, 67), (2147483761, 75)]]),
  (40, 67, [zLdA 0, zGetf 17 5, zLdA 0, zGetf 17 0, zCallV cal 10 [] 102 2, zLdA 0, zGetf 17 5, zGetf 10 1, zLdA 0, zGetf 17 0, zGetf 9 4, zAld zisI 64 0, zRetV zisI]),
  (67, 75, [zLdA 0, zGetf 17 0, zCall cal 79 1, zRetV zisI]),
  (75, 83, [zLdA 0, zGetf 17 0, zCall cal 83 1, zRetV zisI]),
  (83, 103, [zLdA 0, zGetf 17 1, zLdA 0, zGetf 17 0, zLdI 1, zCallV cal 13 [] 125 3, zLdA 0, zGetf 17 1, zGetf 13 5, zRetV zisI])])
noncomputable def tb_X11_widthOf (scr slen opc : Nat) (iv : Nat → Nat × Nat) (dc db du : List (Nat × Nat)) (cal : zCal) : Nat × zBs := (2, [(0, 23, [zPush 210, zLdI 1, zCall cal 44 2, zLdA 0, zGetf 17 1, zGetf 13 4, zLdA 0, zGetf 17 0, zCallV cal 9 [] 92 1, zJlt iv false true 31]),
  (23, 26, [zNo]),
  (31, 58, [zLdA 0, zGetf 17 1, zLdA 0, zGetf 17 0, zLdI 1, zLdA 0, zGetf 17 1, zGetf 13 3, zLdA 0, zGetf 17 1, zGetf 13 4, zCallV cal 13 [] 128 5, zRetV zisI])])
noncomputable def tb_X11_win (scr slen opc : Nat) (iv : Nat → Nat × Nat) (dc db du : List (Nat × Nat)) (cal : zCal) : Nat × zBs := (2, [(0, 14, [zLdI 1, zPush 80, zCall cal 46 2, zLdA 0, zCallV cal 17 [] 23 1, zLdI 1, zJlt iv true false 18]),
  (14, 18, [zPush 8, zGoto 19]),
  (18, 19, [zNo]),
  (19, 20, [zRetV zisZ])])
noncomputable def tb_X0_init (scr slen opc : Nat) (iv : Nat → Nat × Nat) (dc db du : List (Nat × Nat)) (cal : zCal) : Nat × zBs := (1, [(0, 29, [zLdA 0, zObj, zLdA 0, zPush 160, zNewA 64, zPutf zisA 6 0, zLdA 0, zPush 160, zNewA 64, zPutf zisA 6 1, zLdA 0, zPush 80, zNewA 64, zPutf zisA 6 2, zRet0])])
noncomputable def tb_X0_everyVertexHangs (scr slen opc : Nat) (iv : Nat → Nat × Nat) (dc db du : List (Nat × Nat)) (cal : zCal) : Nat × zBs := (5, [(0, 12, [zPush 0, zStI 5 2, zPush 0, zStI 5 3, zLdI 3, zLdA 0, zGetf 6 3, zJlt iv false true 48]),
  (12, 13, [zNo]),
  (48, 50, [zPush 8, zRetV zisZ])])
noncomputable def tb_X0_fault (scr slen opc : Nat) (iv : Nat → Nat × Nat) (dc db du : List (Nat × Nat)) (cal : zCal) : Nat × zBs := (2, [(0, 14, [zLdA 1, zGetf 9 4, zLdA 0, zCallV cal 6 [] 76 1, zPush 34359738360, zBin Nat.xor, zAndS, z0eq iv false 17]),
  (14, 16, [zNo]),
  (17, 25, [zLdA 0, zLdA 1, zCallV cal 6 [] 74 2, z0eq iv true 28]),
  (25, 27, [zNo]),
  (28, 36, [zLdA 0, zLdA 1, zCallV cal 6 [] 71 2, z0eq iv false 41]),
  (36, 41, [zPush 360, zGoto 43]),
  (41, 43, [zNo]),
  (43, 44, [zRetV zisC])])
noncomputable def tb_X0_hang (scr slen opc : Nat) (iv : Nat → Nat × Nat) (dc db du : List (Nat × Nat)) (cal : zCal) : Nat × zBs := (4, [(0, 11, [zLdA 0, zGetf 6 3, zStI 4 3, zLdI 3, zPush 160, zJlt iv false true 35]),
  (11, 35, [zLdA 0, zGetf 6 0, zLdI 3, zLdI 1, zAst zisI 64 0, zLdA 0, zGetf 6 1, zLdI 3, zLdI 2, zAst zisI 64 0, zLdA 0, zDup, zGetf 6 3, zPush 8, zBin Nat.add, zPutf zisI 6 3]),
  (35, 37, [zLdI 3, zRetV zisI])])
noncomputable def tb_X0_holdsAllEdges (scr slen opc : Nat) (iv : Nat → Nat × Nat) (dc db du : List (Nat × Nat)) (cal : zCal) : Nat × zBs := (5, [(0, 10, [zPush 0, zStI 5 2, zLdI 2, zLdA 1, zGetf 9 3, zJlt iv false true 75]),
  (10, 11, [zNo]),
  (75, 77, [zPush 8, zRetV zisZ])])
noncomputable def tb_X0_make (scr slen opc : Nat) (iv : Nat → Nat × Nat) (dc db du : List (Nat × Nat)) (cal : zCal) : Nat × zBs := (6, [(0, 21, [zLdA 1, zCallV cal 9 [] 92 1, zStI 6 4, zLdA 2, zLdA 1, zCallV cal 15 [] 139 2, zPush 0, zStI 6 5, zLdI 5, zLdI 4, zJlt iv false true 70]),
  (21, 22, [zNo]),
  (70, 80, [zPush 0, zStI 6 5, zLdI 5, zLdI 4, zJlt iv false true 120]),
  (80, 81, [zNo]),
  (120, 127, [zLdA 0, zLdI 4, zPutf zisI 6 3, zRet0])])
noncomputable def tb_X0_union (scr slen opc : Nat) (iv : Nat → Nat × Nat) (dc db du : List (Nat × Nat)) (cal : zCal) : Nat × zBs := (3, [(0, 12, [zPush 0, zStI 3 1, zPush 0, zStI 3 2, zLdI 2, zLdA 0, zGetf 6 3, zJlt iv false true 27]),
  (12, 13, [zNo]),
  (27, 29, [zLdI 1, zRetV zisI])])
noncomputable def tb_X1_init (scr slen opc : Nat) (iv : Nat → Nat × Nat) (dc db du : List (Nat × Nat)) (cal : zCal) : Nat × zBs := (1, [(0, 5, [zLdA 0, zObj, zRet0])])
noncomputable def tb_X1_countKept (scr slen opc : Nat) (iv : Nat → Nat × Nat) (dc db du : List (Nat × Nat)) (cal : zCal) : Nat × zBs := (4, [(0, 4, [zPush 0, zStI 4 2, zPush 0, zStI 4 3]),
  (4, 12, [zLdI 3, zLdA 1, zGetf 9 4, zJlt iv true false 38]),
  (12, 20, [zLdA 1, zLdI 3, zCallV cal 9 [] 97 2, z0eq iv false 32]),
  (20, 29, [zLdA 0, zLdA 1, zLdI 3, zCallV cal 7 [] 82 3, z0eq iv false 32]),
  (29, 32, [zIinc 4 2 1]),
  (32, 38, [zIinc 4 3 1, zGoto 4]),
  (38, 40, [zLdI 2, zRetV zisI])])
noncomputable def tb_X1_densestCore (scr slen opc : Nat) (iv : Nat → Nat × Nat) (dc db du : List (Nat × Nat)) (cal : zCal) : Nat × zBs := (3, [(0, 12, [zPush 0, zStI 3 1, zPush 8, zStI 3 2, zLdI 2, zLdA 0, zGetf 9 4, zJlt iv true false 36]),
  (12, 13, [zNo]),
  (36, 38, [zLdI 1, zRetV zisI])])
noncomputable def tb_X1_fewestThatCover (scr slen opc : Nat) (iv : Nat → Nat × Nat) (dc db du : List (Nat × Nat)) (cal : zCal) : Nat × zBs := (3, [(0, 15, [zLdA 0, zCallV cal 9 [] 92 1, zStI 3 1, zPush 0, zStI 3 2, zLdI 2, zLdA 0, zGetf 9 4, zJlt iv false true 57]),
  (15, 16, [zNo]),
  (57, 59, [zLdI 1, zRetV zisI])])
noncomputable def tb_X1_fewestThatLink (scr slen opc : Nat) (iv : Nat → Nat × Nat) (dc db du : List (Nat × Nat)) (cal : zCal) : Nat × zBs := (4, [(0, 5, [zPush 88, zStI 4 2, zPush 0, zStI 4 3]),
  (5, 13, [zLdI 3, zLdA 0, zGetf 9 4, zJlt iv true false 56]),
  (13, 21, [zLdA 0, zLdI 3, zCallV cal 9 [] 97 2, z0eq iv false 50]),
  (21, 29, [zLdI 1, zLdI 3, zPush 34359738360, zBin Nat.xor, zAndS, z0eq iv true 50]),
  (29, 37, [zLdI 3, zCall cal 283 1, zLdI 2, zJlt iv false true 50]),
  (37, 45, [zLdA 0, zLdI 3, zCallV cal 9 [] 95 2, z0eq iv false 50]),
  (45, 50, [zLdI 3, zCall cal 283 1, zStI 4 2]),
  (50, 56, [zIinc 4 3 1, zGoto 5]),
  (56, 58, [zLdI 2, zRetV zisI])])
noncomputable def tb_X1_keepsAll (scr slen opc : Nat) (iv : Nat → Nat × Nat) (dc db du : List (Nat × Nat)) (cal : zCal) : Nat × zBs := (4, [(0, 2, [zPush 0, zStI 4 3]),
  (2, 11, [zLdI 3, zPush 194, zCallV cal 0 zsobj 293 1, zJlt iv false true 44]),
  (11, 22, [zLdA 0, zGetf 7 0, zLdI 3, zShrS, zPush 8, zAndS, z0eq iv false 38]),
  (22, 23, [zNo]),
  (38, 44, [zIinc 4 3 1, zGoto 2]),
  (44, 46, [zPush 8, zRetV zisZ])])
noncomputable def tb_X1_largestClique (scr slen opc : Nat) (iv : Nat → Nat × Nat) (dc db du : List (Nat × Nat)) (cal : zCal) : Nat × zBs := (3, [(0, 4, [zPush 0, zStI 3 1, zPush 0, zStI 3 2]),
  (4, 12, [zLdI 2, zLdA 0, zGetf 9 4, zJlt iv true false 47]),
  (12, 20, [zLdA 0, zLdI 2, zCallV cal 9 [] 97 2, z0eq iv false 41]),
  (20, 28, [zLdI 2, zCall cal 283 1, zLdI 1, zJlt iv true true 41]),
  (28, 29, [zNo]),
  (41, 47, [zIinc 3 2 1, zGoto 4]),
  (47, 49, [zLdI 1, zRetV zisI])])
noncomputable def tb_X1_lightest (scr slen opc : Nat) (iv : Nat → Nat × Nat) (dc db du : List (Nat × Nat)) (cal : zCal) : Nat × zBs := (6, [(0, 7, [zPush 34359738360, zStI 6 2, zPush 0, zStI 6 3, zPush 0, zStI 6 4]),
  (7, 16, [zLdI 4, zLdA 1, zGetf 9 4, zJlt iv true false 65]),
  (16, 25, [zLdA 1, zLdI 4, zCallV cal 9 [] 97 2, z0eq iv false 59]),
  (25, 35, [zLdA 0, zLdA 1, zLdI 4, zCallV cal 7 [] 82 3, z0eq iv false 59]),
  (35, 47, [zLdA 1, zLdI 4, zCall cal 86 2, zStI 6 5, zLdI 2, z0lt iv false false 53]),
  (47, 49, [zNo]),
  (53, 59, [zLdI 4, zStI 6 2, zLdI 5, zStI 6 3]),
  (59, 65, [zIinc 6 4 1, zGoto 7]),
  (65, 67, [zLdI 2, zRetV zisI])])
noncomputable def tb_X1_tell (scr slen opc : Nat) (iv : Nat → Nat × Nat) (dc db du : List (Nat × Nat)) (cal : zCal) : Nat × zBs := (4, [(0, 11, [zLdA 0, zGetf 7 0, zLdI 1, zShrS, zPush 8, zAndS, z0eq iv false 15]),
  (11, 12, [zNo]),
  (15, 22, [zPush 0, zStI 4 3, zLdA 0, zLdI 2, z0eq iv false 33]),
  (22, 33, [zLdA 0, zGetf 7 0, zPush 8, zLdI 1, zBin zfShl, zOrS, zGoto 43]),
  (33, 43, [zLdA 0, zGetf 7 0, zPush 8, zLdI 1, zBin zfShl, zPush 34359738360, zBin Nat.xor, zAndS]),
  (43, 48, [zPutf zisI 7 0, zLdI 3, zRetV zisZ])])
noncomputable def tb_X1_weigh (scr slen opc : Nat) (iv : Nat → Nat × Nat) (dc db du : List (Nat × Nat)) (cal : zCal) : Nat × zBs := (4, [(0, 12, [zPush 0, zStI 4 2, zPush 0, zStI 4 3, zLdI 3, zLdA 0, zGetf 9 3, zJlt iv false true 35]),
  (12, 13, [zNo]),
  (35, 37, [zLdI 2, zRetV zisI])])
noncomputable def tb_X2_init (scr slen opc : Nat) (iv : Nat → Nat × Nat) (dc db du : List (Nat × Nat)) (cal : zCal) : Nat × zBs := (1, [(0, 13, [zLdA 0, zObj, zLdA 0, zPush 480, zNewA 64, zPutf zisA 8 0, zRet0])])
noncomputable def tb_X2_brambles (scr slen opc : Nat) (iv : Nat → Nat × Nat) (dc db du : List (Nat × Nat)) (cal : zCal) : Nat × zBs := (5, [(0, 10, [zPush 0, zStI 5 2, zLdI 2, zLdA 0, zGetf 8 1, zJlt iv false true 79]),
  (10, 11, [zNo]),
  (79, 81, [zPush 8, zRetV zisZ])])
noncomputable def tb_X2_fewestThatMeet (scr slen opc : Nat) (iv : Nat → Nat × Nat) (dc db du : List (Nat × Nat)) (cal : zCal) : Nat × zBs := (4, [(0, 12, [zLdI 1, zCall cal 283 1, zStI 4 2, zPush 0, zStI 4 3, zLdI 3, zLdI 1, zJlt iv false true 47]),
  (12, 13, [zNo]),
  (47, 49, [zLdI 2, zRetV zisI])])
noncomputable def tb_X3_init (scr slen opc : Nat) (iv : Nat → Nat × Nat) (dc db du : List (Nat × Nat)) (cal : zCal) : Nat × zBs := (1, [(0, 30, [zLdA 0, zObj, zLdA 0, zPush 80, zNewA 64, zPutf zisA 9 0, zLdA 0, zPush 80, zNewA 64, zPutf zisA 9 1, zLdA 0, zPush 8192, zNewA 64, zPutf zisA 9 2, zRet0])])
noncomputable def tb_X3_add (scr slen opc : Nat) (iv : Nat → Nat × Nat) (dc db du : List (Nat × Nat)) (cal : zCal) : Nat × zBs := (3, [(0, 40, [zLdA 0, zGetf 9 3, zStI 3 2, zLdA 0, zDup, zGetf 9 3, zPush 8, zBin Nat.add, zPutf zisI 9 3, zLdA 0, zDup, zGetf 9 4, zPush 8, zLdI 2, zBin zfShl, zOrS, zPutf zisI 9 4, zLdA 0, zGetf 9 1, zLdI 2, zLdI 1, zAst zisI 64 0, zLdA 0, zCallV cal 9 [] 100 1, zLdI 2, zRetV zisI])])
noncomputable def tb_X3_count (scr slen opc : Nat) (iv : Nat → Nat × Nat) (dc db du : List (Nat × Nat)) (cal : zCal) : Nat × zBs := (1, [(0, 8, [zLdA 0, zGetf 9 4, zCall cal 283 1, zRetV zisI])])
noncomputable def tb_X3_edgesWithin (scr slen opc : Nat) (iv : Nat → Nat × Nat) (dc db du : List (Nat × Nat)) (cal : zCal) : Nat × zBs := (2, [(0, 11, [zLdA 0, zGetf 9 0, zLdI 1, zCall cal 94 2, zPush 16, zDiv Nat.div, zRetV zisI])])
noncomputable def tb_X3_ends (scr slen opc : Nat) (iv : Nat → Nat × Nat) (dc db du : List (Nat × Nat)) (cal : zCal) : Nat × zBs := (4, [(0, 4, [zPush 0, zStI 4 2, zPush 0, zStI 4 3]),
  (4, 10, [zLdI 3, zPush 80, zJlt iv false true 35]),
  (10, 18, [zLdI 1, zLdI 3, zShrS, zPush 8, zAndS, z0eq iv false 29]),
  (18, 19, [zNo]),
  (29, 35, [zIinc 4 3 1, zGoto 4]),
  (35, 37, [zLdI 2, zRetV zisI])])
noncomputable def tb_X3_hangs (scr slen opc : Nat) (iv : Nat → Nat × Nat) (dc db du : List (Nat × Nat)) (cal : zCal) : Nat × zBs := (2, [(0, 13, [zLdA 0, zLdI 1, zLdI 1, zNeg, zAndS, zLdI 1, zCallV cal 9 [] 99 3, zLdI 1, zJeq iv true 17]),
  (13, 17, [zPush 8, zGoto 18]),
  (17, 18, [zNo]),
  (18, 19, [zRetV zisZ])])
noncomputable def tb_X3_has (scr slen opc : Nat) (iv : Nat → Nat × Nat) (dc db du : List (Nat × Nat)) (cal : zCal) : Nat × zBs := (2, [(0, 4, [zLdI 1, z0lt iv false false 27]),
  (4, 12, [zLdI 1, zLdA 0, zGetf 9 3, zJlt iv false true 27]),
  (12, 13, [zNo]),
  (27, 29, [zPush 0, zRetV zisZ])])
noncomputable def tb_X3_holds (scr slen opc : Nat) (iv : Nat → Nat × Nat) (dc db du : List (Nat × Nat)) (cal : zCal) : Nat × zBs := (2, [(0, 11, [zLdI 1, zLdA 0, zGetf 9 4, zPush 34359738360, zBin Nat.xor, zAndS, z0eq iv true 15]),
  (11, 15, [zPush 8, zGoto 16]),
  (15, 16, [zPush 0]),
  (16, 17, [zRetV zisZ])])
noncomputable def tb_X3_partsWithin (scr slen opc : Nat) (iv : Nat → Nat × Nat) (dc db du : List (Nat × Nat)) (cal : zCal) : Nat × zBs := (4, [(0, 8, [zPush 0, zStI 4 2, zLdI 1, zStI 4 3, zLdI 3, z0eq iv false 30]),
  (8, 9, [zNo]),
  (30, 32, [zLdI 2, zRetV zisI])])
noncomputable def tb_X3_reach (scr slen opc : Nat) (iv : Nat → Nat × Nat) (dc db du : List (Nat × Nat)) (cal : zCal) : Nat × zBs := (6, [(0, 14, [zLdI 1, zLdI 2, zAndS, zStI 6 3, zPush 0, zStI 6 4, zLdI 4, zPush 80, zJlt iv false true 44]),
  (14, 32, [zLdI 3, zLdA 0, zGetf 9 2, zLdI 3, zAld zisI 64 0, zLdI 2, zAndS, zOrS, zStI 6 5, zLdI 5, zLdI 3, zJeq iv true 35]),
  (32, 35, [zGoto 44]),
  (35, 37, [zNo]),
  (44, 46, [zLdI 3, zRetV zisI])])
noncomputable def tb_X3_refresh (scr slen opc : Nat) (iv : Nat → Nat × Nat) (dc db du : List (Nat × Nat)) (cal : zCal) : Nat × zBs := (4, [(0, 12, [zLdA 0, zDup, zGetf 9 5, zPush 8, zBin Nat.add, zPutf zisI 9 5, zPush 0, zStI 4 1]),
  (12, 18, [zLdI 1, zPush 80, zJlt iv false true 64]),
  (18, 24, [zPush 8, zLdI 1, zBin zfShl, zStI 4 2, zLdI 2, zStI 4 3]),
  (24, 31, [zLdI 3, zPush 16, zLdI 2, zBin Nat.mul, zJlt iv false true 58]),
  (31, 58, [zLdA 0, zGetf 9 2, zLdI 3, zLdA 0, zGetf 9 2, zLdI 3, zLdI 2, zBin zfSub, zAld zisI 64 0, zLdA 0, zGetf 9 0, zLdI 1, zAld zisI 64 0, zOrS, zAst zisI 64 0, zIinc 4 3 1, zGoto 24]),
  (58, 64, [zIinc 4 1 1, zGoto 12]),
  (64, 65, [zRet0])])
noncomputable def tb_X4_init (scr slen opc : Nat) (iv : Nat → Nat × Nat) (dc db du : List (Nat × Nat)) (cal : zCal) : Nat × zBs := (1, [(0, 28, [zLdA 0, zObj, zLdA 0, zPush 8192, zNewA 64, zPutf zisA 10 0, zLdA 0, zPush 8192, zNewA 64, zPutf zisA 10 1, zLdA 0, zPush 34359738360, zPutf zisI 10 2, zRet0])])
noncomputable def tb_X4_ready (scr slen opc : Nat) (iv : Nat → Nat × Nat) (dc db du : List (Nat × Nat)) (cal : zCal) : Nat × zBs := (3, [(0, 11, [zLdA 0, zGetf 10 2, zLdA 1, zGetf 9 5, zJeq iv true 12]),
  (11, 12, [zNo]),
  (12, 30, [zLdA 0, zLdA 1, zGetf 9 5, zPutf zisI 10 2, zPush 8, zStI 3 2, zLdI 2, zLdA 1, zGetf 9 4, zJlt iv true false 50]),
  (30, 31, [zNo]),
  (50, 51, [zRet0])])
noncomputable def tb_X5_init (scr slen opc : Nat) (iv : Nat → Nat × Nat) (dc db du : List (Nat × Nat)) (cal : zCal) : Nat × zBs := (1, [(0, 29, [zLdA 0, zObj, zLdA 0, zPush 80, zNewA 64, zPutf zisA 11 0, zLdA 0, zPush 80, zNewA 64, zPutf zisA 11 1, zLdA 0, zPush 160, zNewA 64, zPutf zisA 11 2, zRet0])])
noncomputable def tb_X5_dropInner (scr slen opc : Nat) (iv : Nat → Nat × Nat) (dc db du : List (Nat × Nat)) (cal : zCal) : Nat × zBs := (3, [(0, 12, [zPush 0, zStI 3 1, zPush 0, zStI 3 2, zLdI 2, zLdA 0, zGetf 11 3, zJlt iv false true 44]),
  (12, 13, [zNo]),
  (44, 46, [zLdI 1, zRetV zisZ])])
noncomputable def tb_X5_mostNeeded (scr slen opc : Nat) (iv : Nat → Nat × Nat) (dc db du : List (Nat × Nat)) (cal : zCal) : Nat × zBs := (5, [(0, 10, [zPush 0, zStI 5 2, zLdI 2, zLdA 1, zGetf 6 3, zJlt iv false true 24]),
  (10, 11, [zNo]),
  (24, 26, [zPush 0, zStI 5 2]),
  (26, 36, [zLdI 2, zPush 8, zLdA 0, zGetf 11 3, zBin zfShl, zJlt iv false true 101]),
  (36, 54, [zLdA 0, zLdI 2, zCallV cal 11 [] 108 2, zStI 5 3, zPush 0, zStI 5 4, zLdI 4, zLdA 1, zGetf 6 3, zJlt iv false true 95]),
  (54, 55, [zNo]),
  (95, 101, [zIinc 5 2 1, zGoto 26]),
  (101, 113, [zPush 0, zStI 5 2, zPush 0, zStI 5 3, zLdI 3, zLdA 1, zGetf 6 3, zJlt iv false true 130]),
  (113, 114, [zNo]),
  (130, 132, [zLdI 2, zRetV zisI])])
noncomputable def tb_X5_stripLone (scr slen opc : Nat) (iv : Nat → Nat × Nat) (dc db du : List (Nat × Nat)) (cal : zCal) : Nat × zBs := (4, [(0, 14, [zPush 0, zStI 4 1, zPush 0, zStI 4 2, zPush 0, zStI 4 3, zLdI 3, zLdA 0, zGetf 11 3, zJlt iv false true 40]),
  (14, 15, [zNo]),
  (40, 50, [zPush 0, zStI 4 3, zLdI 3, zLdA 0, zGetf 11 3, zJlt iv false true 66]),
  (50, 51, [zNo]),
  (66, 71, [zLdI 1, zLdI 2, zJeq iv false 75]),
  (71, 72, [zNo]),
  (75, 77, [zPush 0, zRetV zisZ])])
noncomputable def tb_X5_union (scr slen opc : Nat) (iv : Nat → Nat × Nat) (dc db du : List (Nat × Nat)) (cal : zCal) : Nat × zBs := (1, [(0, 13, [zLdA 0, zPush 8, zLdA 0, zGetf 11 3, zBin zfShl, zPush 8, zBin zfSub, zCallV cal 11 [] 108 2, zRetV zisI])])
noncomputable def tb_X5_unionOf (scr slen opc : Nat) (iv : Nat → Nat × Nat) (dc db du : List (Nat × Nat)) (cal : zCal) : Nat × zBs := (4, [(0, 12, [zPush 0, zStI 4 2, zPush 0, zStI 4 3, zLdI 3, zLdA 0, zGetf 11 3, zJlt iv false true 35]),
  (12, 13, [zNo]),
  (35, 37, [zLdI 2, zRetV zisI])])
noncomputable def tb_X5_vanish (scr slen opc : Nat) (iv : Nat → Nat × Nat) (dc db du : List (Nat × Nat)) (cal : zCal) : Nat × zBs := (4, [(0, 15, [zLdA 0, zGetf 11 0, zPush 0, zLdA 0, zGetf 11 1, zPush 0, zPush 80, zNo]),
  (25, 37, [zLdA 0, zCallV cal 11 [] 106 1, zStI 4 3, zLdA 0, zCallV cal 11 [] 104 1, z0eq iv true 44]),
  (37, 41, [zLdI 3, z0eq iv true 44]),
  (41, 44, [zGoto 50]),
  (44, 47, [zNo]),
  (50, 60, [zPush 0, zStI 4 2, zLdI 2, zLdA 0, zGetf 11 3, zJlt iv false true 77]),
  (60, 61, [zNo]),
  (77, 79, [zPush 8, zRetV zisZ])])
noncomputable def tb_X6_init (scr slen opc : Nat) (iv : Nat → Nat × Nat) (dc db du : List (Nat × Nat)) (cal : zCal) : Nat × zBs := (1, [(0, 32, [zLdA 0, zObj, zLdA 0, zPush 8192, zNewA 64, zPutf zisA 12 0, zLdA 0, zPush 48, zNewA 64, zPutf zisA 12 1, zLdA 0, zPush 34359738360, zPutf zisI 12 3, zLdA 0, zPush 34359738360, zPutf zisI 12 5, zRet0])])
noncomputable def tb_X6_extend (scr slen opc : Nat) (iv : Nat → Nat × Nat) (dc db du : List (Nat × Nat)) (cal : zCal) : Nat × zBs := (7, [(0, 8, [zLdI 3, zLdI 2, zCall cal 118 1, zJlt iv false true 14]),
  (8, 14, [zLdI 3, zPush 48, zJlt iv false false 16]),
  (14, 15, [zNo]),
  (16, 28, [zLdA 0, zLdA 1, zLdI 2, zLdI 3, zLdI 4, zCallV cal 12 [] 117 5, z0eq iv true 30]),
  (28, 30, [zPush 0, zRetV zisZ]),
  (30, 31, [zNo])])
noncomputable def tb_X6_fewestTooMany (scr slen opc : Nat) (iv : Nat → Nat × Nat) (dc db du : List (Nat × Nat)) (cal : zCal) : Nat × zBs := (6, [(0, 14, [zLdA 1, zCallV cal 9 [] 92 1, zStI 6 3, zPush 0, zStI 6 4, zLdI 4, zLdI 3, zJlt iv false true 78]),
  (14, 15, [zNo]),
  (78, 80, [zLdI 3, zRetV zisI])])
noncomputable def tb_X6_find (scr slen opc : Nat) (iv : Nat → Nat × Nat) (dc db du : List (Nat × Nat)) (cal : zCal) : Nat × zBs := (4, [(0, 8, [zLdI 3, zLdA 1, zGetf 9 4, zJeq iv true 32]),
  (8, 19, [zLdA 0, zGetf 12 5, zLdA 1, zGetf 9 5, zJeq iv true 32]),
  (19, 27, [zLdA 0, zGetf 12 4, zLdI 2, zJeq iv true 32]),
  (27, 28, [zNo]),
  (32, 63, [zLdA 0, zLdA 1, zCallV cal 12 [] 116 2, zLdA 0, zLdA 0, zLdA 1, zLdI 2, zPush 0, zLdI 3, zCall cal 111 5, zPutf zisZ 12 6, zLdA 0, zLdI 2, zPutf zisI 12 4, zLdA 0, zLdI 3, zLdA 1, zGetf 9 4, zJeq iv true 70]),
  (63, 70, [zLdA 1, zGetf 9 5, zGoto 71]),
  (70, 71, [zNo]),
  (71, 79, [zPutf zisI 12 5, zLdA 0, zGetf 12 6, zRetV zisZ])])
noncomputable def tb_X6_firstSide (scr slen opc : Nat) (iv : Nat → Nat × Nat) (dc db du : List (Nat × Nat)) (cal : zCal) : Nat × zBs := (1, [(0, 6, [zLdI 0, zPush 784, zJeq iv true 10]),
  (6, 10, [zPush 24, zGoto 21]),
  (10, 16, [zLdI 0, zPush 888, zJeq iv true 20]),
  (16, 20, [zPush 16, zGoto 21]),
  (20, 21, [zPush 0]),
  (21, 22, [zRetV zisI])])
noncomputable def tb_X6_inClass (scr slen opc : Nat) (iv : Nat → Nat × Nat) (dc db du : List (Nat × Nat)) (cal : zCal) : Nat × zBs := (4, [(0, 36, [zLdI 2, zSw iv 98 [(2147483750, 36), (2147483759, 70), (2147483763, 53)]]),
  (36, 47, [zLdA 0, zLdA 1, zPush 408, zLdI 3, zCallV cal 12 [] 113 4, z0eq iv true 51]),
  (47, 51, [zPush 8, zGoto 52]),
  (51, 52, [zNo]),
  (52, 53, [zRetV zisZ]),
  (53, 64, [zLdA 0, zLdA 1, zPush 416, zLdI 3, zCallV cal 12 [] 113 4, z0eq iv true 68]),
  (64, 68, [zPush 8, zGoto 69]),
  (68, 69, [zNo]),
  (69, 70, [zRetV zisZ]),
  (70, 81, [zLdA 0, zLdA 1, zPush 416, zLdI 3, zCallV cal 12 [] 113 4, z0eq iv true 96]),
  (81, 92, [zLdA 0, zLdA 1, zPush 888, zLdI 3, zCallV cal 12 [] 113 4, z0eq iv true 96]),
  (92, 96, [zPush 8, zGoto 97]),
  (96, 97, [zNo]),
  (97, 98, [zRetV zisZ]),
  (98, 109, [zLdA 0, zLdA 1, zPush 424, zLdI 3, zCallV cal 12 [] 113 4, z0eq iv true 124]),
  (109, 120, [zLdA 0, zLdA 1, zPush 784, zLdI 3, zCallV cal 12 [] 113 4, z0eq iv true 124]),
  (120, 124, [zPush 8, zGoto 125]),
  (124, 125, [zNo]),
  (125, 126, [zRetV zisZ])])
noncomputable def tb_X6_ready (scr slen opc : Nat) (iv : Nat → Nat × Nat) (dc db du : List (Nat × Nat)) (cal : zCal) : Nat × zBs := (3, [(0, 11, [zLdA 0, zGetf 12 3, zLdA 1, zGetf 9 5, zJeq iv true 12]),
  (11, 12, [zRet0]),
  (12, 35, [zLdA 0, zLdA 1, zGetf 9 5, zPutf zisI 12 3, zLdA 0, zPush 0, zPutf zisI 12 2, zPush 8, zStI 3 2, zLdI 2, zLdA 1, zGetf 9 4, zJlt iv true false 85]),
  (35, 36, [zNo]),
  (85, 86, [zRet0])])
noncomputable def tb_X6_roomIsLeft (scr slen opc : Nat) (iv : Nat → Nat × Nat) (dc db du : List (Nat × Nat)) (cal : zCal) : Nat × zBs := (10, [(0, 24, [zLdI 2, zCall cal 114 1, zStI 10 5, zLdI 2, zCall cal 118 1, zLdI 3, zBin zfSub, zStI 10 6, zLdI 4, zCall cal 283 1, zLdI 6, zJlt iv false true 26]),
  (24, 26, [zPush 0, zRetV zisZ]),
  (26, 28, [zNo])])
noncomputable def tb_X6_setsOf (scr slen opc : Nat) (iv : Nat → Nat × Nat) (dc db du : List (Nat × Nat)) (cal : zCal) : Nat × zBs := (1, [(0, 36, [zLdI 0, zSw iv 43 [(2147483699, 36), (2147483700, 38), (2147483746, 40)]]),
  (36, 38, [zPush 24, zRetV zisI]),
  (38, 40, [zPush 32, zRetV zisI]),
  (40, 43, [zPush 48, zRetV zisI]),
  (43, 45, [zPush 40, zRetV zisI])])
noncomputable def tb_X7_init (scr slen opc : Nat) (iv : Nat → Nat × Nat) (dc db du : List (Nat × Nat)) (cal : zCal) : Nat × zBs := (1, [(0, 43, [zLdA 0, zObj, zLdA 0, zPush 8192, zNewA 64, zPutf zisA 13 0, zLdA 0, zPush 80, zNewA 64, zPutf zisA 13 1, zLdA 0, zPush 80, zNewA 64, zPutf zisA 13 2, zLdA 0, zPush 80, zNewA 64, zPutf zisA 13 3, zLdA 0, zPush 34359738360, zPutf zisI 13 7, zRet0])])
noncomputable def tb_X7_cutCost (scr slen opc : Nat) (iv : Nat → Nat × Nat) (dc db du : List (Nat × Nat)) (cal : zCal) : Nat × zBs := (4, [(0, 36, [zLdI 2, zSw iv 68 [(2147483747, 55), (2147483760, 36), (2147483762, 61)]]),
  (36, 55, [zLdI 3, zLdA 1, zGetf 9 2, zLdA 1, zGetf 9 4, zLdI 3, zPush 34359738360, zBin Nat.xor, zAndS, zAld zisI 64 0, zAndS, zCall cal 283 1, zRetV zisI]),
  (55, 61, [zLdA 1, zLdI 3, zCall cal 121 2, zRetV zisI]),
  (61, 68, [zLdA 0, zLdA 1, zLdI 3, zCallV cal 13 [] 124 3, zRetV zisI]),
  (68, 70, [zPush 0, zRetV zisI])])
noncomputable def tb_X7_edgesAcross (scr slen opc : Nat) (iv : Nat → Nat × Nat) (dc db du : List (Nat × Nat)) (cal : zCal) : Nat × zBs := (4, [(0, 12, [zPush 0, zStI 4 2, zPush 0, zStI 4 3, zLdI 3, zLdA 0, zGetf 9 3, zJlt iv false true 42]),
  (12, 13, [zNo]),
  (42, 44, [zLdI 2, zRetV zisI])])
noncomputable def tb_X7_extendBand (scr slen opc : Nat) (iv : Nat → Nat × Nat) (dc db du : List (Nat × Nat)) (cal : zCal) : Nat × zBs := (7, [(0, 6, [zLdI 4, zLdI 2, zJeq iv false 12]),
  (6, 7, [zNo]),
  (12, 18, [zLdI 4, zLdI 2, zJeq iv true 22]),
  (18, 22, [zPush 8, zGoto 23]),
  (22, 23, [zNo]),
  (23, 24, [zRetV zisZ])])
noncomputable def tb_X7_leastAhead (scr slen opc : Nat) (iv : Nat → Nat × Nat) (dc db du : List (Nat × Nat)) (cal : zCal) : Nat × zBs := (6, [(0, 8, [zLdI 3, zLdA 1, zGetf 9 4, zJeq iv true 10]),
  (8, 10, [zPush 0, zRetV zisI]),
  (10, 12, [zNo])])
noncomputable def tb_X7_rank (scr slen opc : Nat) (iv : Nat → Nat × Nat) (dc db du : List (Nat × Nat)) (cal : zCal) : Nat × zBs := (5, [(0, 5, [zPush 0, zStI 5 3, zPush 0, zStI 5 4]),
  (5, 12, [zLdI 4, zPush 80, zJlt iv false true 26]),
  (12, 26, [zLdA 0, zGetf 13 1, zLdI 4, zPush 0, zAst zisI 64 0, zIinc 5 4 1, zGoto 5]),
  (26, 38, [zPush 0, zStI 5 4, zLdI 4, zLdA 1, zGetf 9 3, zJlt iv false true 74]),
  (38, 39, [zNo]),
  (74, 76, [zLdI 3, zRetV zisI])])
noncomputable def tb_X7_solve (scr slen opc : Nat) (iv : Nat → Nat × Nat) (dc db du : List (Nat × Nat)) (cal : zCal) : Nat × zBs := (3, [(0, 11, [zLdA 0, zGetf 13 7, zLdA 1, zGetf 9 5, zJeq iv true 20]),
  (11, 12, [zNo]),
  (20, 39, [zLdA 0, zLdA 1, zGetf 9 5, zPutf zisI 13 7, zLdA 0, zLdI 2, zPutf zisI 13 6, zLdI 2, zPush 784, zJeq iv true 47]),
  (39, 47, [zLdA 0, zLdA 1, zCallV cal 13 [] 126 2, zGoto 53]),
  (47, 53, [zLdA 0, zLdA 1, zLdI 2, zCallV cal 13 [] 127 3]),
  (53, 54, [zRet0])])
noncomputable def tb_X7_solveBand (scr slen opc : Nat) (iv : Nat → Nat × Nat) (dc db du : List (Nat × Nat)) (cal : zCal) : Nat × zBs := (5, [(0, 18, [zLdA 0, zPush 0, zPutf zisI 13 5, zLdA 1, zGetf 9 4, zStI 5 2, zPush 0, zStI 5 3, zLdI 3, zPush 80, zJlt iv false true 49]),
  (18, 22, [zLdI 2, z0eq iv false 49]),
  (22, 23, [zNo]),
  (49, 62, [zLdA 0, zLdA 1, zLdA 1, zGetf 9 4, zPush 0, zPush 0, zCall cal 122 5, zPop, zRet0])])
noncomputable def tb_X7_solveByBeginnings (scr slen opc : Nat) (iv : Nat → Nat × Nat) (dc db du : List (Nat × Nat)) (cal : zCal) : Nat × zBs := (5, [(0, 5, [zLdA 1, zGetf 9 4, zStI 5 3]),
  (5, 9, [zLdI 3, z0lt iv false false 46]),
  (9, 17, [zLdA 1, zLdI 3, zCallV cal 9 [] 97 2, z0eq iv false 40]),
  (17, 40, [zLdA 0, zGetf 13 0, zLdI 3, zLdA 0, zLdA 1, zLdI 2, zLdI 3, zCallV cal 13 [] 120 4, zLdA 0, zLdA 1, zLdI 2, zLdI 3, zCallV cal 13 [] 123 4, zCall cal 285 2, zAst zisI 64 0]),
  (40, 46, [zIinc 5 3 4294967295, zGoto 5]),
  (46, 70, [zLdA 0, zLdA 0, zGetf 13 0, zPush 0, zAld zisI 64 0, zPutf zisI 13 5, zPush 0, zStI 5 3, zPush 0, zStI 5 4, zLdI 4, zLdA 1, zCallV cal 9 [] 92 1, zJlt iv false true 102]),
  (70, 71, [zNo]),
  (102, 103, [zRet0])])
noncomputable def tb_X7_widthAlong (scr slen opc : Nat) (iv : Nat → Nat × Nat) (dc db du : List (Nat × Nat)) (cal : zCal) : Nat × zBs := (8, [(0, 16, [zPush 0, zStI 8 5, zPush 0, zStI 8 6, zPush 0, zStI 8 7, zLdI 7, zLdI 4, zJlt iv false true 86]),
  (16, 18, [zNo]),
  (86, 89, [zLdI 6, zRetV zisI])])
noncomputable def tb_X8_init (scr slen opc : Nat) (iv : Nat → Nat × Nat) (dc db du : List (Nat × Nat)) (cal : zCal) : Nat × zBs := (1, [(0, 44, [zLdA 0, zObj, zLdA 0, zPush 80, zNewA 64, zPutf zisA 14 0, zLdA 0, zPush 88, zNewA 64, zPutf zisA 14 1, zLdA 0, zPush 8192, zNewA 64, zPutf zisA 14 2, zLdA 0, zPush 36864, zNewA 64, zPutf zisA 14 3, zLdA 0, zPush 34359738360, zPutf zisI 14 4, zRet0])])
noncomputable def tb_X8_countColourings (scr slen opc : Nat) (iv : Nat → Nat × Nat) (dc db du : List (Nat × Nat)) (cal : zCal) : Nat × zBs := (8, [(0, 13, [zLdA 0, zLdA 1, zCallV cal 14 [] 133 2, zPush 4, zStL 8 3, zPush 12, zStL 8 5, zPush 0, zStI 8 7]),
  (13, 19, [zLdI 7, zLdI 2, zJlt iv true false 49]),
  (19, 49, [zLdL 3, zLdA 0, zGetf 14 1, zLdI 7, zAld zisI 64 0, zI2l, zLdL 5, zLbin Nat.mul, zLbin Nat.add, zStL 8 3, zLdL 5, zLdI 2, zLdI 7, zBin zfSub, zI2l, zLbin Nat.mul, zStL 8 5, zIinc 8 7 1, zGoto 13]),
  (49, 51, [zLdL 3, zRetV (fun v => zt v 4)])])
noncomputable def tb_X8_countRings (scr slen opc : Nat) (iv : Nat → Nat × Nat) (dc db du : List (Nat × Nat)) (cal : zCal) : Nat × zBs := (7, [(0, 8, [zLdA 1, zCallV cal 9 [] 92 1, zPush 24, zJlt iv false true 10]),
  (8, 10, [zPush 4, zRetV (fun v => zt v 4)]),
  (10, 11, [zNo])])
noncomputable def tb_X8_fewestColours (scr slen opc : Nat) (iv : Nat → Nat × Nat) (dc db du : List (Nat × Nat)) (cal : zCal) : Nat × zBs := (3, [(0, 13, [zLdA 0, zLdA 1, zCallV cal 14 [] 133 2, zPush 0, zStI 3 2, zLdI 2, zPush 80, zJlt iv false true 30]),
  (13, 22, [zLdA 0, zGetf 14 1, zLdI 2, zAld zisI 64 0, z0lt iv true true 24]),
  (22, 24, [zLdI 2, zRetV zisI]),
  (24, 27, [zNo]),
  (30, 32, [zNo])])
noncomputable def tb_X8_readyShadings (scr slen opc : Nat) (iv : Nat → Nat × Nat) (dc db du : List (Nat × Nat)) (cal : zCal) : Nat × zBs := (3, [(0, 11, [zLdA 0, zGetf 14 4, zLdA 1, zGetf 9 5, zJeq iv false 47]),
  (11, 21, [zLdA 0, zLdA 1, zGetf 9 5, zPutf zisI 14 4, zPush 0, zStI 3 2]),
  (21, 27, [zLdI 2, zPush 80, zJlt iv true false 40]),
  (27, 40, [zLdA 0, zGetf 14 1, zLdI 2, zPush 0, zAst zisI 64 0, zIinc 3 2 1, zGoto 21]),
  (40, 47, [zLdA 0, zLdA 1, zPush 0, zPush 0, zCall cal 134 4]),
  (47, 48, [zRet0])])
noncomputable def tb_X8_shadeFrom (scr slen opc : Nat) (iv : Nat → Nat × Nat) (dc db du : List (Nat × Nat)) (cal : zCal) : Nat × zBs := (6, [(0, 8, [zLdI 2, zLdA 1, zGetf 9 3, zJlt iv false true 14]),
  (8, 9, [zNo]),
  (14, 27, [zLdA 0, zGetf 14 1, zLdI 3, zDup2, zAld zisI 64 0, zPush 8, zBin Nat.add, zAst zisI 64 0, zGoto 131]),
  (131, 132, [zRet0])])
noncomputable def tb_X9_init (scr slen opc : Nat) (iv : Nat → Nat × Nat) (dc db du : List (Nat × Nat)) (cal : zCal) : Nat × zBs := (1, [(0, 21, [zLdA 0, zObj, zLdA 0, zPush 80, zNewA 64, zPutf zisA 15 0, zLdA 0, zPush 80, zNewA 64, zPutf zisA 15 1, zRet0])])
noncomputable def tb_X9_boundAbove (scr slen opc : Nat) (iv : Nat → Nat × Nat) (dc db du : List (Nat × Nat)) (cal : zCal) : Nat × zBs := (4, [(0, 15, [zLdA 0, zLdA 1, zCallV cal 15 [] 139 2, zPush 0, zStI 4 2, zPush 0, zStI 4 3, zLdI 3, zPush 80, zJlt iv false true 44]),
  (15, 22, [zLdA 0, zGetf 15 2, z0eq iv false 44]),
  (22, 23, [zNo]),
  (44, 46, [zLdI 2, zRetV zisI])])
noncomputable def tb_X9_boundBelow (scr slen opc : Nat) (iv : Nat → Nat × Nat) (dc db du : List (Nat × Nat)) (cal : zCal) : Nat × zBs := (6, [(0, 15, [zLdA 0, zLdA 1, zCallV cal 15 [] 139 2, zPush 0, zStI 6 2, zPush 0, zStI 6 3, zLdI 3, zPush 80, zJlt iv false true 99]),
  (15, 30, [zLdA 0, zLdA 0, zGetf 15 2, zCallV cal 15 [] 138 2, zStI 6 4, zLdI 4, z0lt iv false true 33]),
  (30, 33, [zGoto 99]),
  (33, 34, [zNo]),
  (99, 101, [zLdI 2, zRetV zisI])])
noncomputable def tb_X9_leastOf (scr slen opc : Nat) (iv : Nat → Nat × Nat) (dc db du : List (Nat × Nat)) (cal : zCal) : Nat × zBs := (4, [(0, 4, [zPush 34359738360, zStI 4 2, zPush 0, zStI 4 3]),
  (4, 10, [zLdI 3, zPush 80, zJlt iv false true 52]),
  (10, 18, [zLdI 1, zLdI 3, zShrS, zPush 8, zAndS, z0eq iv false 46]),
  (18, 19, [zNo]),
  (46, 52, [zIinc 4 3 1, zGoto 4]),
  (52, 54, [zLdI 2, zRetV zisI])])
noncomputable def tb_X9_load (scr slen opc : Nat) (iv : Nat → Nat × Nat) (dc db du : List (Nat × Nat)) (cal : zCal) : Nat × zBs := (2, [(0, 15, [zLdA 1, zGetf 9 0, zPush 0, zLdA 0, zGetf 15 0, zPush 0, zPush 80, zNo])])
noncomputable def tb_X9_lowestWith (scr slen opc : Nat) (iv : Nat → Nat × Nat) (dc db du : List (Nat × Nat)) (cal : zCal) : Nat × zBs := (4, [(0, 2, [zPush 0, zStI 4 3]),
  (2, 8, [zLdI 3, zPush 80, zJlt iv false true 42]),
  (8, 16, [zLdA 0, zLdI 3, zCallV cal 15 [] 143 2, z0eq iv false 36]),
  (16, 17, [zNo]),
  (36, 42, [zIinc 4 3 1, zGoto 2]),
  (42, 44, [zPush 34359738360, zRetV zisI])])
noncomputable def tb_X9_reduceOnce (scr slen opc : Nat) (iv : Nat → Nat × Nat) (dc db du : List (Nat × Nat)) (cal : zCal) : Nat × zBs := (4, [(0, 11, [zLdA 0, zPush 0, zPush 0, zCallV cal 15 [] 140 3, zStI 4 1, zLdI 1, z0lt iv false false 18]),
  (11, 12, [zNo]),
  (18, 35, [zLdA 0, zLdA 0, zGetf 15 3, zPush 8, zBin Nat.add, zPush 80, zCallV cal 15 [] 140 3, zStI 4 2, zLdI 2, z0lt iv false true 61]),
  (35, 46, [zLdA 0, zPush 8, zPush 8, zCallV cal 15 [] 140 3, zStI 4 3, zLdI 3, z0lt iv false true 50]),
  (46, 50, [zPush 34359738360, zGoto 60]),
  (50, 51, [zNo]),
  (60, 61, [zStI 4 2]),
  (61, 65, [zLdI 2, z0lt iv false true 67]),
  (65, 67, [zPush 0, zRetV zisZ]),
  (67, 68, [zNo])])
noncomputable def tb_X9_shrink (scr slen opc : Nat) (iv : Nat → Nat × Nat) (dc db du : List (Nat × Nat)) (cal : zCal) : Nat × zBs := (4, [(0, 18, [zLdA 0, zLdA 1, zCallV cal 15 [] 139 2, zLdA 0, zLdI 2, zPutf zisI 15 3, zPush 0, zStI 4 3, zLdI 3, zPush 80, zJlt iv false true 43]),
  (18, 25, [zLdA 0, zCallV cal 15 [] 141 1, z0eq iv true 28]),
  (25, 28, [zGoto 43]),
  (28, 29, [zNo]),
  (43, 68, [zLdA 0, zGetf 15 0, zLdA 0, zGetf 15 2, zCall cal 94 2, zPush 16, zLdA 0, zGetf 15 3, zBin Nat.mul, zLdA 0, zGetf 15 3, zBin Nat.mul, zJlt iv true false 72]),
  (68, 72, [zPush 8, zGoto 73]),
  (72, 73, [zNo]),
  (73, 74, [zRetV zisZ])])
noncomputable def tb_X9_stands (scr slen opc : Nat) (iv : Nat → Nat × Nat) (dc db du : List (Nat × Nat)) (cal : zCal) : Nat × zBs := (2, [(0, 11, [zLdA 0, zGetf 15 2, zLdI 1, zShrS, zPush 8, zAndS, z0eq iv false 15]),
  (11, 12, [zNo]),
  (15, 17, [zPush 0, zRetV zisZ])])
noncomputable def tb_X10_init (scr slen opc : Nat) (iv : Nat → Nat × Nat) (dc db du : List (Nat × Nat)) (cal : zCal) : Nat × zBs := (1, [(0, 38, [zLdA 0, zObj, zLdA 0, zPush 80, zNewA 64, zPutf zisA 16 0, zLdA 0, zPush 56, zNewA 64, zPutf zisA 16 1, zLdA 0, zPush 56, zNewA 64, zPutf zisA 16 2, zLdA 0, zPush 40320, zNewA 64, zPutf zisA 16 3, zRet0])])
noncomputable def tb_X10_countGroups (scr slen opc : Nat) (iv : Nat → Nat × Nat) (dc db du : List (Nat × Nat)) (cal : zCal) : Nat × zBs := (3, [(0, 4, [zPush 0, zStI 3 1, zPush 0, zStI 3 2]),
  (4, 10, [zLdI 2, zPush 80, zJlt iv false true 27]),
  (10, 18, [zLdA 0, zLdI 2, zCallV cal 16 [] 147 2, z0eq iv false 21]),
  (18, 21, [zNo]),
  (21, 27, [zIinc 3 2 1, zGoto 4]),
  (27, 29, [zLdI 1, zRetV zisI])])
noncomputable def tb_X10_gatherPieces (scr slen opc : Nat) (iv : Nat → Nat × Nat) (dc db du : List (Nat × Nat)) (cal : zCal) : Nat × zBs := (4, [(0, 2, [zPush 0, zStI 4 2]),
  (2, 8, [zLdI 2, zPush 56, zJlt iv false true 21]),
  (8, 21, [zLdA 0, zGetf 16 2, zLdI 2, zPush 0, zAst zisI 64 0, zIinc 4 2 1, zGoto 2]),
  (21, 31, [zPush 0, zStI 4 2, zPush 0, zStI 4 3, zLdI 3, zPush 80, zJlt iv false true 73]),
  (31, 39, [zLdI 2, zLdA 0, zGetf 16 4, zJlt iv false true 73]),
  (39, 40, [zNo]),
  (73, 74, [zRet0])])
noncomputable def tb_X10_leads (scr slen opc : Nat) (iv : Nat → Nat × Nat) (dc db du : List (Nat × Nat)) (cal : zCal) : Nat × zBs := (2, [(0, 9, [zLdA 0, zGetf 16 0, zLdI 1, zAld zisI 64 0, z0eq iv false 33]),
  (9, 10, [zNo]),
  (33, 35, [zPush 0, zRetV zisZ])])
noncomputable def tb_X10_leastAfterJoin (scr slen opc : Nat) (iv : Nat → Nat × Nat) (dc db du : List (Nat × Nat)) (cal : zCal) : Nat × zBs := (4, [(0, 8, [zLdA 0, zGetf 16 5, zPush 16, zJlt iv false true 10]),
  (8, 10, [zPush 0, zRetV zisI]),
  (10, 12, [zNo])])
noncomputable def tb_X10_leastRed (scr slen opc : Nat) (iv : Nat → Nat × Nat) (dc db du : List (Nat × Nat)) (cal : zCal) : Nat × zBs := (4, [(0, 25, [zLdA 0, zLdA 1, zCallV cal 9 [] 92 1, zPush 56, zCall cal 286 2, zPutf zisI 16 4, zPush 8, zStI 4 2, zPush 16, zStI 4 3, zLdI 3, zLdA 0, zGetf 16 4, zJlt iv true false 35]),
  (25, 26, [zNo]),
  (35, 37, [zPush 0, zStI 4 3]),
  (37, 42, [zLdI 3, zLdI 2, zJlt iv false true 79]),
  (42, 50, [zLdA 0, zLdI 3, zCallV cal 16 [] 152 2, z0eq iv false 73]),
  (50, 73, [zLdA 0, zLdA 1, zCallV cal 16 [] 146 2, zLdA 0, zGetf 16 3, zLdI 3, zLdA 0, zLdA 1, zCallV cal 16 [] 151 2, zLdA 0, zCallV cal 16 [] 148 1, zCall cal 285 2, zAst zisI 64 0]),
  (73, 79, [zIinc 4 3 1, zGoto 37]),
  (79, 88, [zLdA 0, zGetf 16 3, zLdI 2, zPush 8, zBin zfSub, zAld zisI 64 0, zRetV zisI])])
noncomputable def tb_X10_mostRed (scr slen opc : Nat) (iv : Nat → Nat × Nat) (dc db du : List (Nat × Nat)) (cal : zCal) : Nat × zBs := (4, [(0, 4, [zPush 0, zStI 4 2, zPush 0, zStI 4 3]),
  (4, 10, [zLdI 3, zPush 80, zJlt iv false true 35]),
  (10, 18, [zLdA 0, zLdI 3, zCallV cal 16 [] 147 2, z0eq iv false 29]),
  (18, 19, [zNo]),
  (29, 35, [zIinc 4 3 1, zGoto 4]),
  (35, 37, [zLdI 2, zRetV zisI])])
noncomputable def tb_X10_mostRedPiece (scr slen opc : Nat) (iv : Nat → Nat × Nat) (dc db du : List (Nat × Nat)) (cal : zCal) : Nat × zBs := (6, [(0, 12, [zPush 0, zStI 6 2, zPush 0, zStI 6 3, zLdI 3, zLdA 0, zGetf 16 5, zJlt iv false true 75]),
  (12, 13, [zNo]),
  (75, 77, [zLdI 2, zRetV zisI])])
noncomputable def tb_X10_readLabels (scr slen opc : Nat) (iv : Nat → Nat × Nat) (dc db du : List (Nat × Nat)) (cal : zCal) : Nat × zBs := (4, [(0, 13, [zLdI 1, zStI 4 2, zLdA 0, zGetf 16 4, zPush 8, zBin zfSub, zStI 4 3, zLdI 3, z0lt iv false false 36]),
  (13, 14, [zNo]),
  (36, 51, [zLdA 0, zPush 0, zPutf zisI 16 5, zPush 0, zStI 4 3, zLdI 3, zLdA 0, zGetf 16 4, zJlt iv false true 91]),
  (51, 52, [zNo]),
  (91, 93, [zPush 8, zRetV zisZ])])
noncomputable def tb_X10_scatter (scr slen opc : Nat) (iv : Nat → Nat × Nat) (dc db du : List (Nat × Nat)) (cal : zCal) : Nat × zBs := (3, [(0, 2, [zPush 0, zStI 3 2]),
  (2, 8, [zLdI 2, zPush 80, zJlt iv false true 25]),
  (8, 25, [zLdA 0, zGetf 16 0, zLdI 2, zLdI 1, zPush 8, zLdI 2, zBin zfShl, zAndS, zAst zisI 64 0, zIinc 3 2 1, zGoto 2]),
  (25, 26, [zRet0])])
noncomputable def tb_X10_seat (scr slen opc : Nat) (iv : Nat → Nat × Nat) (dc db du : List (Nat × Nat)) (cal : zCal) : Nat × zBs := (2, [(0, 10, [zLdA 0, zGetf 16 0, zLdI 1, zPush 8, zLdI 1, zBin zfShl, zAst zisI 64 0, zRet0])])
noncomputable def tb_L_above (scr slen opc : Nat) (iv : Nat → Nat × Nat) (dc db du : List (Nat × Nat)) (cal : zCal) : Nat × zBs := (4, [(0, 8, [zLdA 2, zPush 0, zLdA 0, zLdI 1, zCallH cal 17 [] 2 2 [(2, 8)], zNo])])
noncomputable def tb_L_apex (scr slen opc : Nat) (iv : Nat → Nat × Nat) (dc db du : List (Nat × Nat)) (cal : zCal) : Nat × zBs := (4, [(0, 12, [zLdA 2, zPush 0, zLdA 0, zLdI 1, zCallH cal 17 [] 3 2 [(1, 8)], zI2l, zAst (fun v => zt v 4) 66 4, zGoto 15]),
  (15, 17, [zPush 0, zRetV zisI])])
noncomputable def tb_L_bag (scr slen opc : Nat) (iv : Nat → Nat × Nat) (dc db du : List (Nat × Nat)) (cal : zCal) : Nat × zBs := (5, [(0, 13, [zLdA 3, zPush 0, zLdA 0, zLdI 1, zLdI 2, zCallH cal 17 [] 4 3 [(1, 8), (2, 16)], zI2l, zAst (fun v => zt v 4) 66 4, zGoto 25]),
  (25, 27, [zPush 0, zRetV zisI])])
noncomputable def tb_L_bagAt (scr slen opc : Nat) (iv : Nat → Nat × Nat) (dc db du : List (Nat × Nat)) (cal : zCal) : Nat × zBs := (4, [(0, 8, [zLdA 2, zPush 0, zLdA 0, zLdI 1, zCallH cal 17 [] 5 2 [(2, 8)], zNo])])
noncomputable def tb_L_bagWidth (scr slen opc : Nat) (iv : Nat → Nat × Nat) (dc db du : List (Nat × Nat)) (cal : zCal) : Nat × zBs := (3, [(0, 7, [zLdA 1, zPush 0, zLdA 0, zCallH cal 17 [] 6 1 [(3, 8)], zNo])])
noncomputable def tb_L_bestSet (scr slen opc : Nat) (iv : Nat → Nat × Nat) (dc db du : List (Nat × Nat)) (cal : zCal) : Nat × zBs := (3, [(0, 11, [zLdA 1, zPush 0, zLdA 0, zCallH cal 17 [] 7 1 [(3, 8)], zI2l, zAst (fun v => zt v 4) 66 4, zGoto 14]),
  (14, 16, [zPush 0, zRetV zisI])])
noncomputable def tb_L_clause (scr slen opc : Nat) (iv : Nat → Nat × Nat) (dc db du : List (Nat × Nat)) (cal : zCal) : Nat × zBs := (5, [(0, 11, [zLdA 3, zPush 0, zLdA 0, zLdI 1, zLdI 2, zCallH cal 17 [] 9 3 [(1, 8)], z0eq iv false 15]),
  (11, 12, [zNo]),
  (15, 20, [zPush 4, zAst (fun v => zt v 4) 66 4, zGoto 24]),
  (24, 26, [zPush 0, zRetV zisI])])
noncomputable def tb_L_colourings (scr slen opc : Nat) (iv : Nat → Nat × Nat) (dc db du : List (Nat × Nat)) (cal : zCal) : Nat × zBs := (4, [(0, 11, [zLdA 2, zPush 0, zLdA 0, zLdI 1, zCallH cal 17 [] 14 2 [(1, 8)], zAst (fun v => zt v 4) 66 4, zGoto 14]),
  (14, 16, [zPush 0, zRetV zisI])])
noncomputable def tb_L_contract (scr slen opc : Nat) (iv : Nat → Nat × Nat) (dc db du : List (Nat × Nat)) (cal : zCal) : Nat × zBs := (5, [(0, 9, [zLdA 3, zPush 0, zLdA 0, zLdI 1, zLdI 2, zCallH cal 17 [] 16 3 [(1, 16), (2, 8)], zNo])])
noncomputable def tb_L_cover (scr slen opc : Nat) (iv : Nat → Nat × Nat) (dc db du : List (Nat × Nat)) (cal : zCal) : Nat × zBs := (3, [(0, 11, [zLdA 1, zPush 0, zLdA 0, zCallH cal 17 [] 17 1 [(3, 8)], zI2l, zAst (fun v => zt v 4) 66 4, zGoto 14]),
  (14, 16, [zPush 0, zRetV zisI])])
noncomputable def tb_L_density (scr slen opc : Nat) (iv : Nat → Nat × Nat) (dc db du : List (Nat × Nat)) (cal : zCal) : Nat × zBs := (3, [(0, 7, [zLdA 1, zPush 0, zLdA 0, zCallH cal 17 [] 19 1 [(0, 8)], zNo])])
noncomputable def tb_L_edge (scr slen opc : Nat) (iv : Nat → Nat × Nat) (dc db du : List (Nat × Nat)) (cal : zCal) : Nat × zBs := (6, [(0, 13, [zLdA 4, zPush 0, zLdA 0, zLdI 1, zLdI 2, zLdI 3, zCallH cal 17 [] 20 4 [(1, 16), (2, 8)], zNo])])
noncomputable def tb_L_hasCover (scr slen opc : Nat) (iv : Nat → Nat × Nat) (dc db du : List (Nat × Nat)) (cal : zCal) : Nat × zBs := (4, [(0, 10, [zLdA 2, zPush 0, zLdA 0, zLdI 1, zCallH cal 17 [] 24 2 [(1, 8)], z0eq iv false 14]),
  (10, 14, [zPush 12, zGoto 15]),
  (14, 15, [zNo]),
  (15, 19, [zAst (fun v => zt v 4) 66 4, zGoto 22]),
  (22, 24, [zPush 0, zRetV zisI])])
noncomputable def tb_L_hasMinor (scr slen opc : Nat) (iv : Nat → Nat × Nat) (dc db du : List (Nat × Nat)) (cal : zCal) : Nat × zBs := (4, [(0, 10, [zLdA 2, zPush 0, zLdA 0, zLdI 1, zCallH cal 17 [] 25 2 [(1, 8)], z0eq iv false 14]),
  (10, 11, [zNo]),
  (14, 19, [zPush 4, zAst (fun v => zt v 4) 66 4, zGoto 22]),
  (22, 24, [zPush 0, zRetV zisI])])
noncomputable def tb_L_haven (scr slen opc : Nat) (iv : Nat → Nat × Nat) (dc db du : List (Nat × Nat)) (cal : zCal) : Nat × zBs := (5, [(0, 9, [zLdA 3, zPush 0, zLdA 0, zLdI 1, zLdI 2, zCallH cal 17 [] 26 3 [(1, 8), (3, 16)], zNo])])
noncomputable def tb_L_hyperedge (scr slen opc : Nat) (iv : Nat → Nat × Nat) (dc db du : List (Nat × Nat)) (cal : zCal) : Nat × zBs := (4, [(0, 8, [zLdA 2, zPush 0, zLdA 0, zLdI 1, zCallH cal 17 [] 27 2 [(1, 8)], zNo])])
noncomputable def tb_L_isIn (scr slen opc : Nat) (iv : Nat → Nat × Nat) (dc db du : List (Nat × Nat)) (cal : zCal) : Nat × zBs := (4, [(0, 10, [zLdA 2, zPush 0, zLdA 0, zLdI 1, zCallH cal 17 [] 30 2 [(1, 8)], z0eq iv false 14]),
  (10, 14, [zPush 12, zGoto 15]),
  (14, 15, [zNo]),
  (15, 19, [zAst (fun v => zt v 4) 66 4, zGoto 22]),
  (22, 24, [zPush 0, zRetV zisI])])
noncomputable def tb_L_join (scr slen opc : Nat) (iv : Nat → Nat × Nat) (dc db du : List (Nat × Nat)) (cal : zCal) : Nat × zBs := (5, [(0, 9, [zLdA 3, zPush 0, zLdA 0, zLdI 1, zLdI 2, zCallH cal 17 [] 32 3 [(2, 8)], zNo])])
noncomputable def tb_L_kernel (scr slen opc : Nat) (iv : Nat → Nat × Nat) (dc db du : List (Nat × Nat)) (cal : zCal) : Nat × zBs := (4, [(0, 12, [zLdA 2, zPush 0, zLdA 0, zLdI 1, zCallH cal 17 [] 33 2 [(1, 8), (3, 16)], zI2l, zAst (fun v => zt v 4) 66 4, zGoto 18]),
  (18, 20, [zPush 0, zRetV zisI])])
noncomputable def tb_L_kernelLeft (scr slen opc : Nat) (iv : Nat → Nat × Nat) (dc db du : List (Nat × Nat)) (cal : zCal) : Nat × zBs := (4, [(0, 12, [zLdA 2, zPush 0, zLdA 0, zLdI 1, zCallH cal 17 [] 34 2 [(1, 8), (3, 16)], zI2l, zAst (fun v => zt v 4) 66 4, zGoto 18]),
  (18, 20, [zPush 0, zRetV zisI])])
noncomputable def tb_L_link (scr slen opc : Nat) (iv : Nat → Nat × Nat) (dc db du : List (Nat × Nat)) (cal : zCal) : Nat × zBs := (4, [(0, 12, [zLdA 2, zPush 0, zLdA 0, zLdI 1, zCallH cal 17 [] 35 2 [(1, 8), (3, 16)], zI2l, zAst (fun v => zt v 4) 66 4, zGoto 18]),
  (18, 20, [zPush 0, zRetV zisI])])
noncomputable def tb_L_longest (scr slen opc : Nat) (iv : Nat → Nat × Nat) (dc db du : List (Nat × Nat)) (cal : zCal) : Nat × zBs := (3, [(0, 7, [zLdA 1, zPush 0, zLdA 0, zCallH cal 17 [] 36 1 [(3, 8)], zNo])])
noncomputable def tb_L_meanDegree (scr slen opc : Nat) (iv : Nat → Nat × Nat) (dc db du : List (Nat × Nat)) (cal : zCal) : Nat × zBs := (3, [(0, 7, [zLdA 1, zPush 0, zLdA 0, zCallH cal 17 [] 38 1 [(0, 8)], zNo])])
noncomputable def tb_L_model (scr slen opc : Nat) (iv : Nat → Nat × Nat) (dc db du : List (Nat × Nat)) (cal : zCal) : Nat × zBs := (5, [(0, 9, [zLdA 3, zPush 0, zLdA 0, zLdI 1, zLdI 2, zCallH cal 17 [] 39 3 [(1, 8), (2, 24), (3, 16)], zNo])])
noncomputable def tb_L_neighbours (scr slen opc : Nat) (iv : Nat → Nat × Nat) (dc db du : List (Nat × Nat)) (cal : zCal) : Nat × zBs := (4, [(0, 8, [zLdA 2, zPush 0, zLdA 0, zLdI 1, zCallH cal 17 [] 49 2 [(2, 8)], zNo])])
noncomputable def tb_L_nice (scr slen opc : Nat) (iv : Nat → Nat × Nat) (dc db du : List (Nat × Nat)) (cal : zCal) : Nat × zBs := (3, [(0, 7, [zLdA 1, zPush 0, zLdA 0, zCallH cal 17 [] 50 1 [(3, 8)], zNo])])
noncomputable def tb_L_orderAt (scr slen opc : Nat) (iv : Nat → Nat × Nat) (dc db du : List (Nat × Nat)) (cal : zCal) : Nat × zBs := (5, [(0, 9, [zLdA 3, zPush 0, zLdA 0, zLdI 1, zLdI 2, zCallH cal 17 [] 51 3 [(1, 8), (2, 16)], zNo])])
noncomputable def tb_L_place (scr slen opc : Nat) (iv : Nat → Nat × Nat) (dc db du : List (Nat × Nat)) (cal : zCal) : Nat × zBs := (4, [(0, 8, [zLdA 2, zPush 0, zLdA 0, zLdI 1, zCallH cal 17 [] 53 2 [(2, 8)], zNo])])
noncomputable def tb_L_put (scr slen opc : Nat) (iv : Nat → Nat × Nat) (dc db du : List (Nat × Nat)) (cal : zCal) : Nat × zBs := (4, [(0, 8, [zLdA 2, zPush 0, zLdA 0, zLdI 1, zCallH cal 17 [] 54 2 [(1, 8)], zNo])])
noncomputable def tb_L_remove (scr slen opc : Nat) (iv : Nat → Nat × Nat) (dc db du : List (Nat × Nat)) (cal : zCal) : Nat × zBs := (4, [(0, 8, [zLdA 2, zPush 0, zLdA 0, zLdI 1, zCallH cal 17 [] 56 2 [(2, 8)], zNo])])
noncomputable def tb_L_takeHaven (scr slen opc : Nat) (iv : Nat → Nat × Nat) (dc db du : List (Nat × Nat)) (cal : zCal) : Nat × zBs := (3, [(0, 7, [zLdA 1, zPush 0, zLdA 0, zCallH cal 17 [] 62 1 [(3, 8)], zNo])])
noncomputable def tb_L_twinWidth (scr slen opc : Nat) (iv : Nat → Nat × Nat) (dc db du : List (Nat × Nat)) (cal : zCal) : Nat × zBs := (3, [(0, 11, [zLdA 1, zPush 0, zLdA 0, zCallH cal 17 [] 63 1 [], zI2l, zAst (fun v => zt v 4) 66 4, zGoto 14]),
  (14, 16, [zPush 0, zRetV zisI])])
noncomputable def tb_L_vertex (scr slen opc : Nat) (iv : Nat → Nat × Nat) (dc db du : List (Nat × Nat)) (cal : zCal) : Nat × zBs := (4, [(0, 12, [zLdA 2, zPush 0, zLdA 0, zLdI 1, zCallH cal 17 [] 65 2 [(1, 8)], zI2l, zAst (fun v => zt v 4) 66 4, zGoto 18]),
  (18, 20, [zPush 0, zRetV zisI])])
noncomputable def tb_L_weight (scr slen opc : Nat) (iv : Nat → Nat × Nat) (dc db du : List (Nat × Nat)) (cal : zCal) : Nat × zBs := (4, [(0, 8, [zLdA 2, zPush 0, zLdA 0, zLdI 1, zCallH cal 17 [] 66 2 [(2, 8)], zNo])])
noncomputable def tb_L_width (scr slen opc : Nat) (iv : Nat → Nat × Nat) (dc db du : List (Nat × Nat)) (cal : zCal) : Nat × zBs := (4, [(0, 12, [zLdA 2, zPush 0, zLdA 0, zLdI 1, zCallH cal 17 [] 67 2 [(1, 8)], zI2l, zAst (fun v => zt v 4) 66 4, zGoto 15]),
  (15, 17, [zPush 0, zRetV zisI])])
noncomputable def tb_L_widthOf (scr slen opc : Nat) (iv : Nat → Nat × Nat) (dc db du : List (Nat × Nat)) (cal : zCal) : Nat × zBs := (4, [(0, 12, [zLdA 2, zPush 0, zLdA 0, zLdI 1, zCallH cal 17 [] 68 2 [(1, 8)], zI2l, zAst (fun v => zt v 4) 66 4, zGoto 18]),
  (18, 20, [zPush 0, zRetV zisI])])
noncomputable def tb_L_win (scr slen opc : Nat) (iv : Nat → Nat × Nat) (dc db du : List (Nat × Nat)) (cal : zCal) : Nat × zBs := (4, [(0, 10, [zLdA 2, zPush 0, zLdA 0, zLdI 1, zCallH cal 17 [] 69 2 [(1, 8)], z0eq iv false 14]),
  (10, 14, [zPush 12, zGoto 15]),
  (14, 15, [zNo]),
  (15, 19, [zAst (fun v => zt v 4) 66 4, zGoto 22]),
  (22, 24, [zPush 0, zRetV zisI])])
noncomputable def tb_X12_init (scr slen opc : Nat) (iv : Nat → Nat × Nat) (dc db du : List (Nat × Nat)) (cal : zCal) : Nat × zBs := (1, [(0, 84, [zLdA 0, zObj, zLdA 0, zPush 80, zNewA 64, zPutf zisA 18 3, zLdA 0, zPush 80, zNewA 64, zPutf zisA 18 4, zLdA 0, zNew 5 3 14167099448608935641088, zDup, zCallI cal 302 1, zPutf zisA 18 5, zLdA 0, zNew 5 3 14167099448608935641088, zDup, zCallI cal 302 1, zPutf zisA 18 6, zLdA 0, zNew 5 3 14167099448608935641088, zDup, zCallI cal 302 1, zPutf zisA 18 7, zLdA 0, zPush 48, zNewA 65, zPutf zisA 18 8, zLdA 0, zNew 5 3 14167099448608935641088, zDup, zCallI cal 302 1, zPutf zisA 18 9, zLdA 0, zNew 5 3 14167099448608935641088, zDup, zCallI cal 302 1, zPutf zisA 18 10, zRet0])])
noncomputable def tb_X12_above (scr slen opc : Nat) (iv : Nat → Nat × Nat) (dc db du : List (Nat × Nat)) (cal : zCal) : Nat × zBs := (2, [(0, 24, [zLdA 0, zPush 0, zPutf zisI 18 0, zLdI 1, zPush 0, zLdA 0, zGetf 18 6, zCallF cal 5 311 1, zPush 8, zBin zfSub, zCall cal 231 3, z0eq iv false 42]),
  (24, 25, [zNo]),
  (42, 48, [zLdA 0, zPush 8, zCallV cal 18 [] 218 2, zRetV zisI])])
noncomputable def tb_X12_alone (scr slen opc : Nat) (iv : Nat → Nat × Nat) (dc db du : List (Nat × Nat)) (cal : zCal) : Nat × zBs := (2, [(0, 13, [zLdA 0, zNew 5 3 14167099448608935641088, zDup, zCallI cal 302 1, zPutf zisA 18 10, zPush 0, zStI 2 1]),
  (13, 19, [zLdI 1, zPush 80, zJlt iv false true 49]),
  (19, 27, [zLdA 0, zLdI 1, zCallV cal 18 [] 240 2, z0eq iv false 43]),
  (27, 28, [zNo]),
  (43, 49, [zIinc 2 1 1, zGoto 13]),
  (49, 50, [zRet0])])
noncomputable def tb_X12_apex (scr slen opc : Nat) (iv : Nat → Nat × Nat) (dc db du : List (Nat × Nat)) (cal : zCal) : Nat × zBs := (5, [(0, 15, [zLdA 0, zPush 0, zPutf zisI 18 0, zPush 178, zLdI 1, zCallV cal 0 zsobj 290 2, z0lt iv false true 21]),
  (15, 21, [zLdA 0, zPush 8, zCallV cal 18 [] 218 2, zRetV zisI]),
  (21, 34, [zLdA 0, zCallV cal 18 [] 224 1, zStA 5 2, zPush 0, zStI 5 3, zLdI 3, zPush 80, zJlt iv false true 95]),
  (34, 45, [zPush 0, zStI 5 4, zLdI 4, zPush 8192, zJlt iv false true 89]),
  (45, 54, [zLdA 0, zLdI 4, zCallV cal 18 [] 238 2, z0eq iv false 83]),
  (54, 63, [zLdI 4, zCall cal 270 1, zLdI 3, zJeq iv true 83]),
  (63, 81, [zLdA 0, zLdI 1, zLdA 0, zGetf 18 2, zLdI 4, zPush 34359738360, zBin Nat.xor, zAndS, zLdA 2, zCallV cal 18 [] 232 4, z0eq iv false 83]),
  (81, 83, [zLdI 3, zRetV zisI]),
  (83, 86, [zNo]),
  (89, 92, [zNo]),
  (95, 96, [zNo])])
noncomputable def tb_X12_bag (scr slen opc : Nat) (iv : Nat → Nat × Nat) (dc db du : List (Nat × Nat)) (cal : zCal) : Nat × zBs := (3, [(0, 13, [zLdA 0, zPush 0, zPutf zisI 18 0, zLdA 0, zLdI 1, zCallV cal 18 [] 238 2, z0eq iv true 19]),
  (13, 19, [zLdA 0, zPush 8, zCallV cal 18 [] 218 2, zRetV zisI]),
  (19, 31, [zLdA 0, zGetf 18 6, zCallF cal 5 309 1, z0eq iv false 39]),
  (31, 36, [zLdI 2, zPush 34359738360, zJeq iv false 64]),
  (36, 39, [zGoto 58]),
  (39, 40, [zNo]),
  (58, 64, [zLdA 0, zPush 16, zCallV cal 18 [] 218 2, zRetV zisI]),
  (64, 78, [zLdA 0, zGetf 18 6, zCallF cal 5 311 1, zPush 160, zJeq iv true 84]),
  (78, 79, [zNo]),
  (84, 117, [zLdA 0, zGetf 18 6, zPush 16, zNewA 64, zDup, zPush 0, zLdI 1, zAst zisI 64 0, zDup, zPush 8, zLdI 2, zAst zisI 64 0, zCallF cal 5 304 2, zPop, zLdA 0, zGetf 18 6, zCallF cal 5 311 1, zPush 8, zBin zfSub, zRetV zisI])])
noncomputable def tb_X12_bagAt (scr slen opc : Nat) (iv : Nat → Nat × Nat) (dc db du : List (Nat × Nat)) (cal : zCal) : Nat × zBs := (2, [(0, 24, [zLdA 0, zPush 0, zPutf zisI 18 0, zLdI 1, zPush 0, zLdA 0, zGetf 18 6, zCallF cal 5 311 1, zPush 8, zBin zfSub, zCall cal 231 3, z0eq iv false 42]),
  (24, 25, [zNo]),
  (42, 48, [zLdA 0, zPush 8, zCallV cal 18 [] 218 2, zRetV zisI])])
noncomputable def tb_X12_bagWidth (scr slen opc : Nat) (iv : Nat → Nat × Nat) (dc db du : List (Nat × Nat)) (cal : zCal) : Nat × zBs := (4, [(0, 26, [zLdA 0, zPush 0, zPutf zisI 18 0, zPush 34359738360, zStI 4 1, zLdA 0, zGetf 18 6, zCallF cal 5 310 1, zStA 4 2, zLdA 2, zCallF cal 4 314 1, z0eq iv false 52]),
  (26, 27, [zNo]),
  (52, 64, [zLdA 0, zGetf 18 6, zCallF cal 5 309 1, z0eq iv false 72]),
  (64, 72, [zLdA 0, zPush 8, zCallV cal 18 [] 218 2, zGoto 73]),
  (72, 73, [zNo]),
  (73, 74, [zRetV zisI])])
noncomputable def tb_X12_bestSet (scr slen opc : Nat) (iv : Nat → Nat × Nat) (dc db du : List (Nat × Nat)) (cal : zCal) : Nat × zBs := (6, [(0, 11, [zLdA 0, zPush 0, zPutf zisI 18 0, zPush 34359738360, zStI 6 1, zPush 0, zStI 6 2, zPush 0, zStI 6 3]),
  (11, 18, [zLdI 3, zPush 8192, zJlt iv false true 126]),
  (18, 26, [zLdA 0, zLdI 3, zCallV cal 18 [] 238 2, z0eq iv false 120]),
  (26, 34, [zLdA 0, zLdI 3, zCallV cal 18 [] 243 2, z0eq iv false 120]),
  (34, 40, [zPush 0, zStI 6 4, zPush 0, zStI 6 5]),
  (40, 47, [zLdI 5, zPush 80, zJlt iv false true 79]),
  (47, 59, [zLdI 4, zLdI 3, zLdI 5, zShrS, zPush 8, zAndS, zPush 8, zJeq iv true 69]),
  (59, 60, [zNo]),
  (69, 79, [zPush 0, zBin Nat.add, zStI 6 4, zIinc 6 5 1, zGoto 40]),
  (79, 84, [zLdI 1, zPush 34359738360, zJeq iv false 90]),
  (84, 86, [zNo]),
  (90, 94, [zPush 8, zGoto 95]),
  (95, 102, [zStI 6 5, zLdI 5, z0eq iv false 106]),
  (102, 106, [zLdI 3, zGoto 107]),
  (106, 107, [zNo]),
  (107, 113, [zStI 6 1, zLdI 5, z0eq iv false 118]),
  (113, 118, [zLdI 4, zGoto 119]),
  (118, 119, [zNo]),
  (119, 120, [zStI 6 2]),
  (120, 126, [zIinc 6 3 1, zGoto 11]),
  (126, 131, [zLdI 1, zPush 34359738360, zJeq iv true 139]),
  (131, 132, [zNo]),
  (139, 141, [zLdI 1, zRetV zisI])])
noncomputable def tb_X12_check (scr slen opc : Nat) (iv : Nat → Nat × Nat) (dc db du : List (Nat × Nat)) (cal : zCal) : Nat × zBs := (1, [(0, 10, [zLdA 0, zPush 0, zPutf zisI 18 0, zLdA 0, zCallV cal 18 [] 201 1, zRetV zisC])])
noncomputable def tb_X12_checked (scr slen opc : Nat) (iv : Nat → Nat × Nat) (dc db du : List (Nat × Nat)) (cal : zCal) : Nat × zBs := (7, [(0, 21, [zPush 0, zStI 7 1, zLdA 0, zGetf 18 6, zCallF cal 5 310 1, zStA 7 2, zLdA 2, zCallF cal 4 314 1, z0eq iv false 40]),
  (21, 22, [zNo]),
  (40, 48, [zLdI 1, zLdA 0, zGetf 18 2, zJeq iv false 51]),
  (48, 50, [zNo]),
  (51, 53, [zPush 0, zStI 7 2]),
  (53, 59, [zLdI 2, zPush 80, zJlt iv false true 142]),
  (59, 82, [zPush 0, zStI 7 3, zLdA 0, zGetf 18 6, zCallF cal 5 310 1, zStA 7 4, zLdA 4, zCallF cal 4 314 1, z0eq iv false 120]),
  (82, 84, [zNo]),
  (120, 133, [zLdA 0, zGetf 18 4, zLdI 2, zAld zisI 64 0, zLdI 3, zPush 34359738360, zBin Nat.xor, zAndS, z0eq iv false 136]),
  (133, 135, [zNo]),
  (136, 142, [zIinc 7 2 1, zGoto 53]),
  (142, 144, [zPush 0, zStI 7 2]),
  (144, 150, [zLdI 2, zPush 80, zJlt iv false true 268]),
  (150, 173, [zPush 0, zStI 7 3, zLdA 0, zGetf 18 6, zCallF cal 5 310 1, zStA 7 4, zLdA 4, zCallF cal 4 314 1, z0eq iv false 254]),
  (173, 175, [zNo]),
  (254, 259, [zLdI 3, zPush 8, zJlt iv true true 262]),
  (259, 261, [zNo]),
  (262, 268, [zIinc 7 2 1, zGoto 144]),
  (268, 271, [zPush 360, zRetV zisC])])
noncomputable def tb_X12_clause (scr slen opc : Nat) (iv : Nat → Nat × Nat) (dc db du : List (Nat × Nat)) (cal : zCal) : Nat × zBs := (5, [(0, 12, [zPush 194, zLdI 1, zCallV cal 0 zsobj 290 2, zStI 5 3, zLdI 3, z0lt iv false true 18]),
  (12, 18, [zLdA 0, zPush 8, zCallV cal 18 [] 219 2, zRetV zisZ]),
  (18, 41, [zLdA 0, zPush 0, zPutf zisI 18 0, zLdA 0, zGetf 18 8, zLdI 3, zAld zisI 65 0, zStI 5 4, zLdA 0, zGetf 18 8, zLdI 3, zLdI 2, zAst (fun v => cond (Nat.beq v 0) true (Nat.beq v 8)) 65 0, zLdI 4, zRetV zisZ])])
noncomputable def tb_X12_clearBags (scr slen opc : Nat) (iv : Nat → Nat × Nat) (dc db du : List (Nat × Nat)) (cal : zCal) : Nat × zBs := (2, [(0, 26, [zLdA 0, zPush 0, zPutf zisI 18 0, zLdA 0, zGetf 18 6, zCallF cal 5 311 1, zStI 2 1, zLdA 0, zGetf 18 6, zCallF cal 5 306 1, zLdI 1, zRetV zisI])])
noncomputable def tb_X12_clearFamily (scr slen opc : Nat) (iv : Nat → Nat × Nat) (dc db du : List (Nat × Nat)) (cal : zCal) : Nat × zBs := (2, [(0, 26, [zLdA 0, zPush 0, zPutf zisI 18 0, zLdA 0, zGetf 18 7, zCallF cal 5 311 1, zStI 2 1, zLdA 0, zGetf 18 7, zCallF cal 5 306 1, zLdI 1, zRetV zisI])])
noncomputable def tb_X12_clearHyperedges (scr slen opc : Nat) (iv : Nat → Nat × Nat) (dc db du : List (Nat × Nat)) (cal : zCal) : Nat × zBs := (2, [(0, 26, [zLdA 0, zPush 0, zPutf zisI 18 0, zLdA 0, zGetf 18 9, zCallF cal 5 311 1, zStI 2 1, zLdA 0, zGetf 18 9, zCallF cal 5 306 1, zLdI 1, zRetV zisI])])
noncomputable def tb_X12_clearOrder (scr slen opc : Nat) (iv : Nat → Nat × Nat) (dc db du : List (Nat × Nat)) (cal : zCal) : Nat × zBs := (2, [(0, 26, [zLdA 0, zPush 0, zPutf zisI 18 0, zLdA 0, zGetf 18 5, zCallF cal 5 311 1, zStI 2 1, zLdA 0, zGetf 18 5, zCallF cal 5 306 1, zLdI 1, zRetV zisI])])
noncomputable def tb_X12_coloured (scr slen opc : Nat) (iv : Nat → Nat × Nat) (dc db du : List (Nat × Nat)) (cal : zCal) : Nat × zBs := (10, [(0, 6, [zLdI 2, zPush 80, zJeq iv true 8]),
  (6, 8, [zPush 12, zRetV (fun v => zt v 4)]),
  (8, 16, [zLdA 0, zLdI 2, zCallV cal 18 [] 240 2, z0eq iv true 26]),
  (16, 26, [zLdA 0, zLdA 1, zLdI 2, zPush 8, zBin Nat.add, zLdI 3, zCallV cal 18 [] 207 4, zRetV (fun v => zt v 4)]),
  (26, 27, [zNo])])
noncomputable def tb_X12_colourings (scr slen opc : Nat) (iv : Nat → Nat × Nat) (dc db du : List (Nat × Nat)) (cal : zCal) : Nat × zBs := (2, [(0, 11, [zLdA 0, zLdI 1, zPush 0, zPush 72, zCall cal 231 3, z0eq iv false 15]),
  (11, 15, [zPush 0, zGoto 16]),
  (15, 16, [zPush 8]),
  (16, 26, [zPutf zisI 18 0, zLdA 0, zGetf 18 0, z0lt iv true true 30]),
  (26, 30, [zPush 4, zGoto 40]),
  (30, 40, [zLdA 0, zPush 80, zNewA 64, zPush 0, zLdI 1, zCallV cal 18 [] 207 4]),
  (40, 41, [zRetV (fun v => zt v 4)])])
noncomputable def tb_X12_colours (scr slen opc : Nat) (iv : Nat → Nat × Nat) (dc db du : List (Nat × Nat)) (cal : zCal) : Nat × zBs := (2, [(0, 22, [zLdA 0, zPush 0, zPutf zisI 18 0, zPush 0, zStI 2 1, zLdA 0, zPush 80, zNewA 64, zPush 0, zLdI 1, zCallV cal 18 [] 207 4, zPush 4, zLcmp, z0eq iv true 28]),
  (22, 25, [zNo]),
  (28, 30, [zLdI 1, zRetV zisI])])
noncomputable def tb_X12_contract (scr slen opc : Nat) (iv : Nat → Nat × Nat) (dc db du : List (Nat × Nat)) (cal : zCal) : Nat × zBs := (4, [(0, 13, [zLdA 0, zPush 0, zPutf zisI 18 0, zLdA 0, zLdI 1, zCallV cal 18 [] 240 2, z0eq iv false 21]),
  (13, 14, [zNo]),
  (21, 27, [zLdA 0, zPush 8, zCallV cal 18 [] 218 2, zRetV zisI])])
noncomputable def tb_X12_countEdges (scr slen opc : Nat) (iv : Nat → Nat × Nat) (dc db du : List (Nat × Nat)) (cal : zCal) : Nat × zBs := (3, [(0, 4, [zPush 0, zStI 3 1, zPush 0, zStI 3 2]),
  (4, 10, [zLdI 2, zPush 80, zJlt iv false true 28]),
  (10, 28, [zLdI 1, zLdA 0, zGetf 18 4, zLdI 2, zAld zisI 64 0, zCall cal 270 1, zBin Nat.add, zStI 3 1, zIinc 3 2 1, zGoto 4]),
  (28, 32, [zLdI 1, zPush 16, zDiv Nat.div, zRetV zisI])])
noncomputable def tb_X12_cover (scr slen opc : Nat) (iv : Nat → Nat × Nat) (dc db du : List (Nat × Nat)) (cal : zCal) : Nat × zBs := (8, [(0, 26, [zLdA 0, zPush 0, zPutf zisI 18 0, zPush 0, zStI 8 1, zLdA 0, zGetf 18 6, zCallF cal 5 310 1, zStA 8 2, zLdA 2, zCallF cal 4 314 1, z0eq iv false 167]),
  (26, 27, [zNo]),
  (167, 174, [zLdI 1, zPush 8000, zJeq iv true 182]),
  (174, 175, [zNo]),
  (182, 184, [zLdI 1, zRetV zisI])])
noncomputable def tb_X12_decompose (scr slen opc : Nat) (iv : Nat → Nat × Nat) (dc db du : List (Nat × Nat)) (cal : zCal) : Nat × zBs := (7, [(0, 30, [zLdA 0, zPush 0, zPutf zisI 18 0, zLdA 0, zPush 928, zCallV cal 18 [] 255 2, zStA 7 1, zLdA 0, zGetf 18 6, zCallF cal 5 306 1, zLdA 1, zAlenS (zalen slen), zPush 8, zBin zfSub, zStI 7 2, zLdI 2, z0lt iv false false 193]),
  (30, 31, [zNo]),
  (193, 203, [zLdA 0, zGetf 18 6, zCallF cal 5 311 1, zRetV zisI])])
noncomputable def tb_X12_density (scr slen opc : Nat) (iv : Nat → Nat × Nat) (dc db du : List (Nat × Nat)) (cal : zCal) : Nat × zBs := (2, [(0, 14, [zLdA 0, zGetf 18 2, zCall cal 270 1, zStI 2 1, zLdA 0, zLdI 1, zPush 16, zJlt iv false true 18]),
  (14, 18, [zPush 8, zGoto 19]),
  (18, 19, [zNo]),
  (19, 29, [zPutf zisI 18 0, zLdA 0, zGetf 18 0, z0lt iv true true 33]),
  (29, 33, [zPush 5, zGoto 47]),
  (33, 34, [zNo]),
  (47, 48, [zRetV (fun v => zt v 5)])])
noncomputable def tb_X12_depth (scr slen opc : Nat) (iv : Nat → Nat × Nat) (dc db du : List (Nat × Nat)) (cal : zCal) : Nat × zBs := (7, [(0, 4, [zLdI 1, z0eq iv true 6]),
  (4, 6, [zPush 0, zRetV zisI]),
  (6, 7, [zNo])])
noncomputable def tb_X12_edge (scr slen opc : Nat) (iv : Nat → Nat × Nat) (dc db du : List (Nat × Nat)) (cal : zCal) : Nat × zBs := (5, [(0, 8, [zLdA 0, zLdI 1, zCallV cal 18 [] 240 2, z0eq iv false 16]),
  (8, 9, [zNo]),
  (16, 22, [zLdA 0, zPush 8, zCallV cal 18 [] 219 2, zRetV zisZ])])
noncomputable def tb_X12_edges (scr slen opc : Nat) (iv : Nat → Nat × Nat) (dc db du : List (Nat × Nat)) (cal : zCal) : Nat × zBs := (1, [(0, 10, [zLdA 0, zPush 0, zPutf zisI 18 0, zLdA 0, zCallV cal 18 [] 211 1, zRetV zisI])])
noncomputable def tb_X12_fails (scr slen opc : Nat) (iv : Nat → Nat × Nat) (dc db du : List (Nat × Nat)) (cal : zCal) : Nat × zBs := (2, [(0, 7, [zLdA 0, zLdI 1, zPutf zisI 18 0, zPush 0, zRetV zisI])])
noncomputable def tb_X12_failsBoolean (scr slen opc : Nat) (iv : Nat → Nat × Nat) (dc db du : List (Nat × Nat)) (cal : zCal) : Nat × zBs := (2, [(0, 7, [zLdA 0, zLdI 1, zPutf zisI 18 0, zPush 0, zRetV zisZ])])
noncomputable def tb_X12_familyOrder (scr slen opc : Nat) (iv : Nat → Nat × Nat) (dc db du : List (Nat × Nat)) (cal : zCal) : Nat × zBs := (1, [(0, 10, [zLdA 0, zPush 0, zPutf zisI 18 0, zLdA 0, zCallV cal 18 [] 229 1, zRetV zisI])])
noncomputable def tb_X12_fewest (scr slen opc : Nat) (iv : Nat → Nat × Nat) (dc db du : List (Nat × Nat)) (cal : zCal) : Nat × zBs := (2, [(0, 10, [zPush 0, zStI 2 1, zLdA 0, zLdI 1, zCallV cal 18 [] 282 2, z0eq iv true 16]),
  (10, 13, [zNo]),
  (16, 18, [zLdI 1, zRetV zisI])])
noncomputable def tb_X12_fills (scr slen opc : Nat) (iv : Nat → Nat × Nat) (dc db du : List (Nat × Nat)) (cal : zCal) : Nat × zBs := (13, [(0, 6, [zLdI 3, zLdA 2, zAlenS (zalen slen), zJeq iv true 8]),
  (6, 7, [zNo]),
  (8, 14, [zLdI 1, zPush 784, zJeq iv true 18]),
  (14, 18, [zPush 24, zGoto 29]),
  (18, 24, [zLdI 1, zPush 888, zJeq iv true 28]),
  (24, 28, [zPush 16, zGoto 29]),
  (28, 29, [zPush 0]),
  (29, 35, [zStI 13 6, zLdI 3, z0lt iv true true 45]),
  (35, 36, [zNo]),
  (45, 61, [zPush 0, zStI 13 7, zLdI 4, zNeg, zLdI 4, zAndS, zStI 13 8, zLdI 8, z0eq iv false 219]),
  (61, 63, [zNo]),
  (219, 221, [zPush 0, zRetV zisZ])])
noncomputable def tb_X12_found (scr slen opc : Nat) (iv : Nat → Nat × Nat) (dc db du : List (Nat × Nat)) (cal : zCal) : Nat × zBs := (5, [(0, 21, [zLdI 1, zCall cal 268 1, zNewA 64, zStA 5 4, zLdA 0, zLdI 1, zLdA 4, zPush 0, zLdI 2, zLdA 3, zCallV cal 18 [] 222 6, z0eq iv false 26]),
  (21, 23, [zNo]),
  (26, 28, [zPush 3, zRetV zisA])])
noncomputable def tb_X12_hanging (scr slen opc : Nat) (iv : Nat → Nat × Nat) (dc db du : List (Nat × Nat)) (cal : zCal) : Nat × zBs := (3, [(0, 8, [zPush 8192, zNewA 65, zStA 3 1, zPush 8, zStI 3 2]),
  (8, 15, [zLdI 2, zPush 8192, zJlt iv false true 45]),
  (15, 25, [zLdA 1, zLdI 2, zLdA 0, zLdI 2, zCallV cal 18 [] 238 2, z0eq iv false 37]),
  (25, 26, [zNo]),
  (37, 45, [zPush 0, zAst (fun v => cond (Nat.beq v 0) true (Nat.beq v 8)) 65 0, zIinc 3 2 1, zGoto 8]),
  (45, 47, [zLdA 1, zRetV zisA])])
noncomputable def tb_X12_hangs (scr slen opc : Nat) (iv : Nat → Nat × Nat) (dc db du : List (Nat × Nat)) (cal : zCal) : Nat × zBs := (2, [(0, 4, [zLdI 1, z0eq iv false 19]),
  (4, 5, [zNo]),
  (19, 23, [zPush 8, zGoto 24]),
  (24, 25, [zRetV zisZ])])
noncomputable def tb_X12_hasCover (scr slen opc : Nat) (iv : Nat → Nat × Nat) (dc db du : List (Nat × Nat)) (cal : zCal) : Nat × zBs := (5, [(0, 11, [zLdA 0, zLdI 1, zPush 0, zPush 80, zCall cal 231 3, z0eq iv false 15]),
  (11, 15, [zPush 0, zGoto 16]),
  (15, 16, [zPush 8]),
  (16, 28, [zPutf zisI 18 0, zPush 0, zStI 5 2, zLdI 2, zPush 8192, zJlt iv false true 119]),
  (28, 35, [zLdA 0, zGetf 18 0, z0eq iv true 119]),
  (35, 43, [zLdA 0, zLdI 2, zCallV cal 18 [] 238 2, z0eq iv false 55]),
  (43, 51, [zLdI 2, zCall cal 270 1, zLdI 1, zJlt iv true false 55]),
  (51, 55, [zPush 8, zGoto 56]),
  (55, 56, [zNo]),
  (56, 60, [zStI 5 3, zPush 0, zStI 5 4]),
  (60, 67, [zLdI 4, zPush 80, zJlt iv false true 107]),
  (67, 71, [zLdI 3, z0eq iv false 99]),
  (71, 81, [zLdI 2, zLdI 4, zShrS, zPush 8, zAndS, zPush 8, zJeq iv false 95]),
  (81, 95, [zLdA 0, zGetf 18 4, zLdI 4, zAld zisI 64 0, zLdI 2, zPush 34359738360, zBin Nat.xor, zAndS, z0eq iv true 99]),
  (95, 99, [zPush 8, zGoto 100]),
  (99, 100, [zNo]),
  (100, 107, [zStI 5 3, zIinc 5 4 1, zGoto 60]),
  (107, 111, [zLdI 3, z0eq iv false 113]),
  (111, 113, [zPush 8, zRetV zisZ]),
  (113, 116, [zNo]),
  (119, 121, [zPush 0, zRetV zisZ])])
noncomputable def tb_X12_hasMinor (scr slen opc : Nat) (iv : Nat → Nat × Nat) (dc db du : List (Nat × Nat)) (cal : zCal) : Nat × zBs := (2, [(0, 8, [zLdA 0, zLdI 1, zCall cal 236 1, z0eq iv false 12]),
  (8, 12, [zPush 0, zGoto 13]),
  (12, 13, [zPush 8]),
  (13, 23, [zPutf zisI 18 0, zLdA 0, zGetf 18 0, z0eq iv true 43]),
  (23, 39, [zLdA 0, zLdI 1, zLdA 0, zGetf 18 2, zLdA 0, zCallV cal 18 [] 224 1, zCallV cal 18 [] 223 4, zJnul false 43]),
  (39, 40, [zNo]),
  (43, 45, [zPush 0, zRetV zisZ])])
noncomputable def tb_X12_haven (scr slen opc : Nat) (iv : Nat → Nat × Nat) (dc db du : List (Nat × Nat)) (cal : zCal) : Nat × zBs := (4, [(0, 15, [zLdA 0, zPush 0, zPutf zisI 18 0, zLdI 1, zPush 0, zPush 80, zCall cal 231 3, z0eq iv false 31]),
  (15, 23, [zLdA 0, zLdI 2, zCallV cal 18 [] 238 2, z0eq iv false 31]),
  (23, 31, [zLdI 2, zCall cal 270 1, zLdI 1, zJlt iv true true 37]),
  (31, 37, [zLdA 0, zPush 8, zCallV cal 18 [] 218 2, zRetV zisI]),
  (37, 45, [zLdA 0, zLdI 1, zCallV cal 18 [] 282 2, z0eq iv false 49]),
  (45, 49, [zPush 0, zGoto 60]),
  (49, 50, [zNo]),
  (60, 65, [zStI 4 3, zLdI 3, z0eq iv true 73]),
  (65, 73, [zLdA 0, zPush 16, zCallV cal 18 [] 218 2, zGoto 74]),
  (73, 74, [zNo]),
  (74, 75, [zRetV zisI])])
noncomputable def tb_X12_hitting (scr slen opc : Nat) (iv : Nat → Nat × Nat) (dc db du : List (Nat × Nat)) (cal : zCal) : Nat × zBs := (6, [(0, 6, [zPush 8000, zStI 6 1, zPush 0, zStI 6 2]),
  (6, 13, [zLdI 2, zPush 8192, zJlt iv false true 94]),
  (13, 36, [zPush 8, zStI 6 3, zLdA 0, zGetf 18 7, zCallF cal 5 310 1, zStA 6 4, zLdA 4, zCallF cal 4 314 1, z0eq iv false 71]),
  (36, 38, [zNo]),
  (71, 75, [zLdI 3, z0eq iv false 86]),
  (75, 86, [zLdI 1, zLdI 2, zCall cal 270 1, zCall cal 286 2, zGoto 87]),
  (86, 87, [zNo]),
  (87, 94, [zStI 6 1, zIinc 6 2 1, zGoto 6]),
  (94, 96, [zLdI 1, zRetV zisI])])
noncomputable def tb_X12_hyperedge (scr slen opc : Nat) (iv : Nat → Nat × Nat) (dc db du : List (Nat × Nat)) (cal : zCal) : Nat × zBs := (2, [(0, 9, [zLdA 0, zPush 0, zPutf zisI 18 0, zLdI 1, z0eq iv false 17]),
  (9, 17, [zLdA 0, zLdI 1, zCallV cal 18 [] 238 2, z0eq iv true 23]),
  (17, 23, [zLdA 0, zPush 8, zCallV cal 18 [] 218 2, zRetV zisI]),
  (23, 24, [zNo])])
noncomputable def tb_X12_in (scr slen opc : Nat) (iv : Nat → Nat × Nat) (dc db du : List (Nat × Nat)) (cal : zCal) : Nat × zBs := (3, [(0, 5, [zLdI 0, zLdI 1, zJlt iv false false 14]),
  (5, 10, [zLdI 0, zLdI 2, zJlt iv true false 14]),
  (10, 14, [zPush 8, zGoto 15]),
  (14, 15, [zPush 0]),
  (15, 16, [zRetV zisZ])])
noncomputable def tb_X12_inClass (scr slen opc : Nat) (iv : Nat → Nat × Nat) (dc db du : List (Nat × Nat)) (cal : zCal) : Nat × zBs := (6, [(0, 6, [zLdI 1, zPush 816, zJeq iv true 12]),
  (6, 12, [zPush 98, zGoto 39]),
  (12, 18, [zLdI 1, zPush 920, zJeq iv true 24]),
  (18, 24, [zPush 130, zGoto 39]),
  (24, 30, [zLdI 1, zPush 888, zJeq iv true 36]),
  (30, 36, [zPush 146, zGoto 39]),
  (36, 39, [zPush 162]),
  (39, 44, [zStA 6 4, zPush 0, zStI 6 5]),
  (44, 54, [zLdI 5, zLdA 4, zCallV cal 0 zsobj 293 1, zJlt iv false true 78]),
  (54, 70, [zLdA 0, zLdA 4, zLdI 5, zCallV cal 0 zsobj 287 2, zLdI 2, zLdA 3, zCallV cal 18 [] 223 4, zJnul false 72]),
  (70, 71, [zNo]),
  (72, 78, [zIinc 6 5 1, zGoto 44]),
  (78, 80, [zPush 8, zRetV zisZ])])
noncomputable def tb_X12_isAcyclic (scr slen opc : Nat) (iv : Nat → Nat × Nat) (dc db du : List (Nat × Nat)) (cal : zCal) : Nat × zBs := (7, [(0, 19, [zLdA 0, zPush 0, zPutf zisI 18 0, zNew 5 3 14167099448608935641088, zDup, zLdA 0, zGetf 18 9, zCallI cal 303 2, zStA 7 1, zPush 8, zStI 7 2]),
  (19, 23, [zLdI 2, z0eq iv false 257]),
  (23, 37, [zPush 0, zStI 7 2, zPush 0, zStI 7 3, zLdI 3, zLdA 1, zCallF cal 5 311 1, zJlt iv false true 254]),
  (37, 38, [zNo]),
  (254, 257, [zGoto 19]),
  (257, 264, [zLdA 1, zCallF cal 5 309 1, zRetV zisZ])])
noncomputable def tb_X12_isBramble (scr slen opc : Nat) (iv : Nat → Nat × Nat) (dc db du : List (Nat × Nat)) (cal : zCal) : Nat × zBs := (5, [(0, 24, [zLdA 0, zPush 0, zPutf zisI 18 0, zLdA 0, zGetf 18 7, zCallF cal 5 310 1, zStA 5 1, zLdA 1, zCallF cal 4 314 1, z0eq iv false 104]),
  (24, 25, [zNo]),
  (104, 106, [zPush 8, zRetV zisZ])])
noncomputable def tb_X12_isIn (scr slen opc : Nat) (iv : Nat → Nat × Nat) (dc db du : List (Nat × Nat)) (cal : zCal) : Nat × zBs := (2, [(0, 11, [zLdA 0, zPush 178, zLdI 1, zCallV cal 0 zsobj 290 2, z0lt iv false false 15]),
  (11, 15, [zPush 0, zGoto 16]),
  (15, 16, [zPush 8]),
  (16, 26, [zPutf zisI 18 0, zLdA 0, zGetf 18 0, z0eq iv true 46]),
  (26, 42, [zLdA 0, zLdI 1, zLdA 0, zGetf 18 2, zLdA 0, zCallV cal 18 [] 224 1, zCallV cal 18 [] 232 4, z0eq iv false 46]),
  (42, 46, [zPush 8, zGoto 47]),
  (46, 47, [zPush 0]),
  (47, 48, [zRetV zisZ])])
noncomputable def tb_X12_isMinor (scr slen opc : Nat) (iv : Nat → Nat × Nat) (dc db du : List (Nat × Nat)) (cal : zCal) : Nat × zBs := (1, [(0, 9, [zPush 114, zLdI 0, zCallV cal 0 zsobj 290 2, z0lt iv false false 13]),
  (9, 13, [zPush 8, zGoto 14]),
  (13, 14, [zPush 0]),
  (14, 15, [zRetV zisZ])])
noncomputable def tb_X12_isOrdered (scr slen opc : Nat) (iv : Nat → Nat × Nat) (dc db du : List (Nat × Nat)) (cal : zCal) : Nat × zBs := (1, [(0, 9, [zPush 210, zLdI 0, zCallV cal 0 zsobj 290 2, z0lt iv false false 13]),
  (9, 13, [zPush 8, zGoto 14]),
  (13, 14, [zPush 0]),
  (14, 15, [zRetV zisZ])])
noncomputable def tb_X12_isSet (scr slen opc : Nat) (iv : Nat → Nat × Nat) (dc db du : List (Nat × Nat)) (cal : zCal) : Nat × zBs := (2, [(0, 11, [zLdI 1, zLdA 0, zGetf 18 2, zPush 34359738360, zBin Nat.xor, zAndS, z0eq iv true 15]),
  (11, 15, [zPush 8, zGoto 16]),
  (15, 16, [zPush 0]),
  (16, 17, [zRetV zisZ])])
noncomputable def tb_X12_isTrue (scr slen opc : Nat) (iv : Nat → Nat × Nat) (dc db du : List (Nat × Nat)) (cal : zCal) : Nat × zBs := (1, [(0, 7, [zLdA 0, zPush 0, zPutf zisI 18 0, zPush 8, zRetV zisZ])])
noncomputable def tb_X12_isVertex (scr slen opc : Nat) (iv : Nat → Nat × Nat) (dc db du : List (Nat × Nat)) (cal : zCal) : Nat × zBs := (2, [(0, 10, [zLdI 1, zPush 0, zPush 72, zCall cal 231 3, z0eq iv false 26]),
  (10, 22, [zLdA 0, zGetf 18 2, zLdI 1, zShrS, zPush 8, zAndS, zPush 8, zJeq iv true 26]),
  (22, 23, [zNo]),
  (26, 28, [zPush 0, zRetV zisZ])])
noncomputable def tb_X12_join (scr slen opc : Nat) (iv : Nat → Nat × Nat) (dc db du : List (Nat × Nat)) (cal : zCal) : Nat × zBs := (5, [(0, 13, [zLdA 0, zPush 0, zPutf zisI 18 0, zLdA 0, zLdI 1, zCallV cal 18 [] 240 2, z0eq iv false 21]),
  (13, 14, [zNo]),
  (21, 27, [zLdA 0, zPush 8, zCallV cal 18 [] 218 2, zRetV zisI])])
noncomputable def tb_X12_joins (scr slen opc : Nat) (iv : Nat → Nat × Nat) (dc db du : List (Nat × Nat)) (cal : zCal) : Nat × zBs := (7, [(0, 10, [zLdA 1, zCallF cal 5 311 1, zPush 16, zJlt iv false true 12]),
  (10, 12, [zPush 8, zRetV zisZ]),
  (12, 13, [zNo])])
noncomputable def tb_X12_keeps (scr slen opc : Nat) (iv : Nat → Nat × Nat) (dc db du : List (Nat × Nat)) (cal : zCal) : Nat × zBs := (6, [(0, 9, [zLdA 0, zGetf 18 8, zPush 32, zAld zisI 65 0, z0eq iv false 17]),
  (9, 10, [zNo]),
  (17, 21, [zPush 8, zGoto 22]),
  (22, 25, [zStI 6 2, zPush 0, zStI 6 3]),
  (25, 31, [zLdI 3, zPush 80, zJlt iv false true 237]),
  (31, 39, [zLdA 0, zLdI 3, zCallV cal 18 [] 240 2, z0eq iv false 231]),
  (39, 40, [zNo]),
  (231, 237, [zIinc 6 3 1, zGoto 25]),
  (237, 239, [zLdI 2, zRetV zisZ])])
noncomputable def tb_X12_kernel (scr slen opc : Nat) (iv : Nat → Nat × Nat) (dc db du : List (Nat × Nat)) (cal : zCal) : Nat × zBs := (3, [(0, 15, [zLdA 0, zPush 0, zPutf zisI 18 0, zLdI 1, zPush 0, zPush 80, zCall cal 231 3, z0eq iv true 21]),
  (15, 21, [zLdA 0, zPush 8, zCallV cal 18 [] 218 2, zRetV zisI]),
  (21, 32, [zLdA 0, zLdI 1, zCallV cal 18 [] 246 2, zStI 3 2, zLdI 2, zPush 34359738360, zJeq iv true 40]),
  (32, 33, [zNo]),
  (40, 45, [zLdI 2, zPush 800, zDiv Nat.div, zRetV zisI])])
noncomputable def tb_X12_kernelLeft (scr slen opc : Nat) (iv : Nat → Nat × Nat) (dc db du : List (Nat × Nat)) (cal : zCal) : Nat × zBs := (3, [(0, 15, [zLdA 0, zPush 0, zPutf zisI 18 0, zLdI 1, zPush 0, zPush 80, zCall cal 231 3, z0eq iv true 21]),
  (15, 21, [zLdA 0, zPush 8, zCallV cal 18 [] 218 2, zRetV zisI]),
  (21, 32, [zLdA 0, zLdI 1, zCallV cal 18 [] 246 2, zStI 3 2, zLdI 2, zPush 34359738360, zJeq iv true 40]),
  (32, 33, [zNo]),
  (40, 45, [zLdI 2, zPush 800, zDiv Nat.mod, zRetV zisI])])
noncomputable def tb_X12_kernelOf (scr slen opc : Nat) (iv : Nat → Nat × Nat) (dc db du : List (Nat × Nat)) (cal : zCal) : Nat × zBs := (10, [(0, 11, [zLdA 0, zGetf 18 2, zStI 10 2, zLdI 1, zStI 10 3, zLdI 3, z0lt iv false false 199]),
  (11, 27, [zPush 34359738360, zStI 10 4, zPush 34359738360, zStI 10 5, zPush 34359738360, zStI 10 6, zPush 0, zStI 10 7, zPush 72, zStI 10 8]),
  (27, 32, [zLdI 8, z0lt iv false false 113]),
  (32, 42, [zLdI 2, zLdI 8, zShrS, zPush 8, zAndS, zPush 8, zJeq iv true 107]),
  (42, 43, [zNo]),
  (107, 113, [zIinc 10 8 4294967295, zGoto 27]),
  (113, 119, [zLdI 4, zPush 34359738360, zJeq iv false 129]),
  (119, 120, [zNo]),
  (129, 135, [zLdI 5, zPush 34359738360, zJeq iv true 141]),
  (135, 141, [zLdI 6, zPush 34359738360, zJeq iv false 175]),
  (141, 142, [zNo]),
  (175, 185, [zLdI 7, zPush 16, zDiv Nat.div, zLdI 3, zLdI 3, zBin Nat.mul, zJlt iv true true 189]),
  (185, 186, [zNo]),
  (189, 196, [zPush 800, zLdI 2, zBin Nat.mul, zLdI 3, zBin Nat.add, zRetV zisI]),
  (199, 200, [zNo])])
noncomputable def tb_X12_leasts (scr slen opc : Nat) (iv : Nat → Nat × Nat) (dc db du : List (Nat × Nat)) (cal : zCal) : Nat × zBs := (5, [(0, 10, [zPush 8192, zNewA 64, zStA 5 2, zPush 8184, zStI 5 3]),
  (10, 14, [zLdI 3, z0lt iv false false 104]),
  (14, 22, [zLdA 0, zLdI 3, zCallV cal 18 [] 238 2, z0eq iv false 98]),
  (22, 30, [zLdI 3, zLdA 0, zGetf 18 2, zJeq iv false 98]),
  (30, 31, [zNo]),
  (98, 104, [zIinc 5 3 4294967295, zGoto 10]),
  (104, 106, [zLdA 2, zRetV zisA])])
noncomputable def tb_X12_link (scr slen opc : Nat) (iv : Nat → Nat × Nat) (dc db du : List (Nat × Nat)) (cal : zCal) : Nat × zBs := (4, [(0, 13, [zLdA 0, zPush 0, zPutf zisI 18 0, zLdA 0, zLdI 1, zCallV cal 18 [] 238 2, z0eq iv true 19]),
  (13, 19, [zLdA 0, zPush 8, zCallV cal 18 [] 218 2, zRetV zisI]),
  (19, 25, [zPush 8000, zStI 4 2, zPush 0, zStI 4 3]),
  (25, 32, [zLdI 3, zPush 8192, zJlt iv false true 74]),
  (32, 40, [zLdA 0, zLdI 3, zCallV cal 18 [] 238 2, z0eq iv false 66]),
  (40, 47, [zLdI 3, zLdI 1, zAndS, zLdI 1, zJeq iv true 66]),
  (47, 55, [zLdA 0, zLdI 3, zCallV cal 18 [] 225 2, z0eq iv false 66]),
  (55, 66, [zLdI 2, zLdI 3, zCall cal 270 1, zCall cal 286 2, zGoto 67]),
  (66, 67, [zLdI 2]),
  (67, 74, [zStI 4 2, zIinc 4 3 1, zGoto 25]),
  (74, 81, [zLdI 2, zPush 8000, zJeq iv true 89]),
  (81, 82, [zNo]),
  (89, 91, [zLdI 2, zRetV zisI])])
noncomputable def tb_X12_longest (scr slen opc : Nat) (iv : Nat → Nat × Nat) (dc db du : List (Nat × Nat)) (cal : zCal) : Nat × zBs := (3, [(0, 9, [zLdA 0, zPush 0, zPutf zisI 18 0, zPush 0, zStI 3 1, zPush 0, zStI 3 2]),
  (9, 15, [zLdI 2, zPush 80, zJlt iv false true 51]),
  (15, 23, [zLdA 0, zLdI 2, zCallV cal 18 [] 240 2, z0eq iv false 43]),
  (23, 24, [zNo]),
  (43, 51, [zLdI 1, zStI 3 1, zIinc 3 2 1, zGoto 9]),
  (51, 58, [zLdA 0, zGetf 18 2, z0eq iv true 66]),
  (58, 66, [zLdA 0, zPush 8, zCallV cal 18 [] 218 2, zGoto 67]),
  (66, 67, [zNo]),
  (67, 68, [zRetV zisI])])
noncomputable def tb_X12_lower (scr slen opc : Nat) (iv : Nat → Nat × Nat) (dc db du : List (Nat × Nat)) (cal : zCal) : Nat × zBs := (7, [(0, 20, [zLdA 0, zPush 0, zPutf zisI 18 0, zLdA 0, zGetf 18 4, zClone, zCastA 64, zStA 7 1, zPush 0, zStI 7 2, zPush 34359738360, zStI 7 3]),
  (20, 26, [zPush 34359738360, zStI 7 3, zPush 72, zStI 7 4]),
  (26, 31, [zLdI 4, z0lt iv false false 72]),
  (31, 38, [zLdA 1, zLdI 4, zAld zisI 64 0, z0eq iv false 64]),
  (38, 39, [zNo]),
  (64, 72, [zLdI 3, zStI 7 3, zIinc 7 4 4294967295, zGoto 26]),
  (72, 77, [zLdI 3, zPush 34359738360, zJeq iv false 227]),
  (77, 78, [zNo]),
  (227, 232, [zLdI 3, zPush 34359738360, zJeq iv true 20]),
  (232, 234, [zLdI 2, zRetV zisI])])
noncomputable def tb_X12_meanDegree (scr slen opc : Nat) (iv : Nat → Nat × Nat) (dc db du : List (Nat × Nat)) (cal : zCal) : Nat × zBs := (1, [(0, 8, [zLdA 0, zLdA 0, zGetf 18 2, z0eq iv true 12]),
  (8, 12, [zPush 8, zGoto 13]),
  (12, 13, [zNo]),
  (13, 23, [zPutf zisI 18 0, zLdA 0, zGetf 18 0, z0lt iv true true 27]),
  (23, 27, [zPush 6, zGoto 43]),
  (27, 28, [zNo]),
  (43, 44, [zRetV (fun v => zt v 6)])])
noncomputable def tb_X12_model (scr slen opc : Nat) (iv : Nat → Nat × Nat) (dc db du : List (Nat × Nat)) (cal : zCal) : Nat × zBs := (4, [(0, 12, [zLdA 0, zPush 0, zPutf zisI 18 0, zLdI 1, zCall cal 236 1, z0eq iv true 18]),
  (12, 18, [zLdA 0, zPush 8, zCallV cal 18 [] 218 2, zRetV zisI]),
  (18, 36, [zLdA 0, zLdI 1, zLdA 0, zGetf 18 2, zLdA 0, zCallV cal 18 [] 224 1, zCallV cal 18 [] 223 4, zStA 4 3, zLdA 3, zJnul true 42]),
  (36, 42, [zLdA 0, zPush 16, zCallV cal 18 [] 218 2, zRetV zisI]),
  (42, 43, [zNo])])
noncomputable def tb_X12_neighbours (scr slen opc : Nat) (iv : Nat → Nat × Nat) (dc db du : List (Nat × Nat)) (cal : zCal) : Nat × zBs := (2, [(0, 13, [zLdA 0, zPush 0, zPutf zisI 18 0, zLdA 0, zLdI 1, zCallV cal 18 [] 240 2, z0eq iv false 22]),
  (13, 14, [zNo]),
  (22, 28, [zLdA 0, zPush 8, zCallV cal 18 [] 218 2, zRetV zisI])])
noncomputable def tb_X12_nice (scr slen opc : Nat) (iv : Nat → Nat × Nat) (dc db du : List (Nat × Nat)) (cal : zCal) : Nat × zBs := (6, [(0, 17, [zLdA 0, zPush 0, zPutf zisI 18 0, zLdA 0, zGetf 18 6, zCallF cal 5 309 1, z0eq iv false 23]),
  (17, 23, [zLdA 0, zPush 8, zCallV cal 18 [] 218 2, zRetV zisI]),
  (23, 24, [zNo])])
noncomputable def tb_X12_order (scr slen opc : Nat) (iv : Nat → Nat × Nat) (dc db du : List (Nat × Nat)) (cal : zCal) : Nat × zBs := (10, [(0, 18, [zLdA 0, zGetf 18 2, zCall cal 270 1, zStI 10 2, zLdI 2, zNewA 64, zStA 10 3, zLdI 1, zPush 784, zJeq iv true 41]),
  (18, 33, [zPush 0, zStI 10 4, zLdA 0, zLdA 3, zPush 0, zPush 0, zLdI 4, zCallV cal 18 [] 260 5, z0eq iv true 39]),
  (33, 36, [zNo]),
  (39, 41, [zLdA 3, zRetV zisA]),
  (41, 60, [zLdA 0, zLdI 1, zCallV cal 18 [] 247 2, zStA 10 4, zPush 0, zStI 10 5, zPush 0, zStI 10 6, zLdI 6, zLdI 2, zJlt iv false true 168]),
  (60, 61, [zNo]),
  (168, 170, [zLdA 3, zRetV zisA])])
noncomputable def tb_X12_orderAt (scr slen opc : Nat) (iv : Nat → Nat × Nat) (dc db du : List (Nat × Nat)) (cal : zCal) : Nat × zBs := (3, [(0, 12, [zLdA 0, zPush 0, zPutf zisI 18 0, zLdI 1, zCall cal 237 1, z0eq iv true 18]),
  (12, 18, [zLdA 0, zPush 8, zCallV cal 18 [] 218 2, zRetV zisI]),
  (18, 35, [zLdI 2, zPush 0, zLdA 0, zGetf 18 2, zCall cal 270 1, zPush 8, zBin zfSub, zCall cal 231 3, z0eq iv false 45]),
  (35, 36, [zNo]),
  (45, 51, [zLdA 0, zPush 16, zCallV cal 18 [] 218 2, zRetV zisI])])
noncomputable def tb_X12_parts (scr slen opc : Nat) (iv : Nat → Nat × Nat) (dc db du : List (Nat × Nat)) (cal : zCal) : Nat × zBs := (1, [(0, 19, [zLdA 0, zPush 0, zPutf zisI 18 0, zLdA 0, zLdA 0, zGetf 18 2, zCallV cal 18 [] 258 2, zCallF cal 5 311 1, zRetV zisI])])
noncomputable def tb_X12_partsOf (scr slen opc : Nat) (iv : Nat → Nat × Nat) (dc db du : List (Nat × Nat)) (cal : zCal) : Nat × zBs := (5, [(0, 14, [zNew 5 3 14167099448608935641088, zDup, zCallI cal 302 1, zStA 5 2, zLdI 1, zStI 5 3, zLdI 3, z0eq iv false 49]),
  (14, 15, [zNo]),
  (49, 51, [zLdA 2, zRetV zisA])])
noncomputable def tb_X12_place (scr slen opc : Nat) (iv : Nat → Nat × Nat) (dc db du : List (Nat × Nat)) (cal : zCal) : Nat × zBs := (2, [(0, 13, [zLdA 0, zPush 0, zPutf zisI 18 0, zLdA 0, zLdI 1, zCallV cal 18 [] 240 2, z0eq iv true 19]),
  (13, 19, [zLdA 0, zPush 8, zCallV cal 18 [] 218 2, zRetV zisI]),
  (19, 20, [zNo])])
noncomputable def tb_X12_places (scr slen opc : Nat) (iv : Nat → Nat × Nat) (dc db du : List (Nat × Nat)) (cal : zCal) : Nat × zBs := (7, [(0, 9, [zPush 0, zStI 7 5, zLdI 5, zLdI 2, zJlt iv false true 54]),
  (9, 10, [zNo]),
  (54, 60, [zLdI 2, zLdA 1, zAlenS (zalen slen), zJeq iv true 62]),
  (60, 62, [zPush 8, zRetV zisZ]),
  (62, 63, [zNo])])
noncomputable def tb_X12_put (scr slen opc : Nat) (iv : Nat → Nat × Nat) (dc db du : List (Nat × Nat)) (cal : zCal) : Nat × zBs := (2, [(0, 9, [zLdA 0, zPush 0, zPutf zisI 18 0, zLdI 1, z0eq iv false 17]),
  (9, 17, [zLdA 0, zLdI 1, zCallV cal 18 [] 238 2, z0eq iv true 23]),
  (17, 23, [zLdA 0, zPush 8, zCallV cal 18 [] 218 2, zRetV zisI]),
  (23, 24, [zNo])])
noncomputable def tb_X12_red (scr slen opc : Nat) (iv : Nat → Nat × Nat) (dc db du : List (Nat × Nat)) (cal : zCal) : Nat × zBs := (1, [(0, 14, [zLdA 0, zPush 0, zPutf zisI 18 0, zLdA 0, zLdA 0, zGetf 18 10, zCallV cal 18 [] 263 2, zRetV zisI])])
noncomputable def tb_X12_redOf (scr slen opc : Nat) (iv : Nat → Nat × Nat) (dc db du : List (Nat × Nat)) (cal : zCal) : Nat × zBs := (8, [(0, 18, [zPush 0, zStI 8 2, zLdA 1, zCallF cal 5 310 1, zStA 8 3, zLdA 3, zCallF cal 4 314 1, z0eq iv false 109]),
  (18, 19, [zNo]),
  (109, 111, [zLdI 2, zRetV zisI])])
noncomputable def tb_X12_remove (scr slen opc : Nat) (iv : Nat → Nat × Nat) (dc db du : List (Nat × Nat)) (cal : zCal) : Nat × zBs := (3, [(0, 13, [zLdA 0, zPush 0, zPutf zisI 18 0, zLdA 0, zLdI 1, zCallV cal 18 [] 240 2, z0eq iv true 19]),
  (13, 19, [zLdA 0, zPush 8, zCallV cal 18 [] 218 2, zRetV zisI]),
  (19, 20, [zNo])])
noncomputable def tb_X12_rings (scr slen opc : Nat) (iv : Nat → Nat × Nat) (dc db du : List (Nat × Nat)) (cal : zCal) : Nat × zBs := (2, [(0, 16, [zLdA 0, zPush 0, zPutf zisI 18 0, zLdA 0, zGetf 18 2, zCall cal 270 1, zPush 24, zJlt iv false true 18]),
  (16, 18, [zPush 4, zRetV (fun v => zt v 4)]),
  (18, 19, [zNo])])
noncomputable def tb_X12_searchers (scr slen opc : Nat) (iv : Nat → Nat × Nat) (dc db du : List (Nat × Nat)) (cal : zCal) : Nat × zBs := (1, [(0, 10, [zLdA 0, zPush 0, zPutf zisI 18 0, zLdA 0, zCallV cal 18 [] 221 1, zRetV zisI])])
noncomputable def tb_X12_sets (scr slen opc : Nat) (iv : Nat → Nat × Nat) (dc db du : List (Nat × Nat)) (cal : zCal) : Nat × zBs := (3, [(0, 9, [zLdA 0, zPush 0, zPutf zisI 18 0, zPush 0, zStI 3 1, zPush 0, zStI 3 2]),
  (9, 16, [zLdI 2, zPush 8192, zJlt iv false true 46]),
  (16, 25, [zLdI 1, zLdA 0, zLdI 2, zCallV cal 18 [] 238 2, z0eq iv false 37]),
  (25, 33, [zLdA 0, zLdI 2, zCallV cal 18 [] 243 2, z0eq iv false 37]),
  (33, 37, [zPush 8, zGoto 38]),
  (37, 38, [zPush 0]),
  (38, 46, [zBin Nat.add, zStI 3 1, zIinc 3 2 1, zGoto 9]),
  (46, 48, [zLdI 1, zRetV zisI])])
noncomputable def tb_X12_setsOf (scr slen opc : Nat) (iv : Nat → Nat × Nat) (dc db du : List (Nat × Nat)) (cal : zCal) : Nat × zBs := (1, [(0, 6, [zLdI 0, zPush 408, zJeq iv true 10]),
  (6, 10, [zPush 24, zGoto 42]),
  (10, 16, [zLdI 0, zPush 416, zJeq iv true 20]),
  (16, 20, [zPush 32, zGoto 42]),
  (20, 26, [zLdI 0, zPush 424, zJeq iv true 30]),
  (26, 30, [zPush 40, zGoto 42]),
  (30, 36, [zLdI 0, zPush 784, zJeq iv true 41]),
  (36, 41, [zPush 48, zGoto 42]),
  (41, 42, [zPush 40]),
  (42, 43, [zRetV zisI])])
noncomputable def tb_X12_size_ (scr slen opc : Nat) (iv : Nat → Nat × Nat) (dc db du : List (Nat × Nat)) (cal : zCal) : Nat × zBs := (1, [(0, 13, [zLdA 0, zPush 0, zPutf zisI 18 0, zLdA 0, zGetf 18 2, zCall cal 270 1, zRetV zisI])])
noncomputable def tb_X12_size (scr slen opc : Nat) (iv : Nat → Nat × Nat) (dc db du : List (Nat × Nat)) (cal : zCal) : Nat × zBs := (1, [(0, 5, [zLdI 0, zCall cal 283 1, zRetV zisI])])
noncomputable def tb_X12_split (scr slen opc : Nat) (iv : Nat → Nat × Nat) (dc db du : List (Nat × Nat)) (cal : zCal) : Nat × zBs := (2, [(0, 21, [zLdA 0, zPush 0, zPutf zisI 18 0, zLdA 0, zGetf 18 10, zCallF cal 5 311 1, zStI 2 1, zLdA 0, zCallV cal 18 [] 194 1, zLdI 1, zRetV zisI])])
noncomputable def tb_X12_takeHaven (scr slen opc : Nat) (iv : Nat → Nat × Nat) (dc db du : List (Nat × Nat)) (cal : zCal) : Nat × zBs := (5, [(0, 12, [zLdA 0, zPush 0, zPutf zisI 18 0, zLdA 0, zGetf 18 2, z0eq iv true 18]),
  (12, 18, [zLdA 0, zPush 8, zCallV cal 18 [] 218 2, zRetV zisI]),
  (18, 19, [zNo])])
noncomputable def tb_X12_thrown (scr slen opc : Nat) (iv : Nat → Nat × Nat) (dc db du : List (Nat × Nat)) (cal : zCal) : Nat × zBs := (1, [(0, 5, [zLdA 0, zGetf 18 0, zRetV zisI])])
noncomputable def tb_X12_twinWidth (scr slen opc : Nat) (iv : Nat → Nat × Nat) (dc db du : List (Nat × Nat)) (cal : zCal) : Nat × zBs := (3, [(0, 17, [zLdA 0, zPush 0, zPutf zisI 18 0, zLdA 0, zGetf 18 2, zCall cal 270 1, zPush 56, zJlt iv true true 23]),
  (17, 18, [zNo]),
  (23, 33, [zNew 5 3 14167099448608935641088, zDup, zCallI cal 302 1, zStA 3 1, zPush 0, zStI 3 2]),
  (33, 39, [zLdI 2, zPush 80, zJlt iv false true 66]),
  (39, 47, [zLdA 0, zLdI 2, zCallV cal 18 [] 240 2, z0eq iv false 60]),
  (47, 48, [zNo]),
  (60, 66, [zIinc 3 2 1, zGoto 33]),
  (66, 84, [zPush 0, zStI 3 2, zLdA 0, zLdA 1, zLdI 2, zNew 22 1 3, zDup, zCallI cal 318 1, zCallV cal 18 [] 242 4, z0eq iv true 90]),
  (84, 87, [zNo]),
  (90, 92, [zLdI 2, zRetV zisI])])
noncomputable def tb_X12_upper (scr slen opc : Nat) (iv : Nat → Nat × Nat) (dc db du : List (Nat × Nat)) (cal : zCal) : Nat × zBs := (9, [(0, 27, [zLdA 0, zPush 0, zPutf zisI 18 0, zLdA 0, zGetf 18 4, zClone, zCastA 64, zStA 9 1, zLdA 0, zGetf 18 2, zStI 9 2, zPush 0, zStI 9 3, zLdI 2, z0eq iv false 255]),
  (27, 28, [zNo]),
  (255, 257, [zLdI 3, zRetV zisI])])
noncomputable def tb_X12_vertex (scr slen opc : Nat) (iv : Nat → Nat × Nat) (dc db du : List (Nat × Nat)) (cal : zCal) : Nat × zBs := (2, [(0, 15, [zLdA 0, zPush 0, zPutf zisI 18 0, zLdI 1, zPush 0, zPush 792, zCall cal 231 3, z0eq iv true 21]),
  (15, 21, [zLdA 0, zPush 8, zCallV cal 18 [] 218 2, zRetV zisI]),
  (21, 30, [zLdA 0, zGetf 18 1, zPush 80, zJeq iv true 36]),
  (30, 31, [zNo]),
  (36, 97, [zLdA 0, zGetf 18 3, zLdA 0, zGetf 18 1, zLdI 1, zAst zisI 64 0, zLdA 0, zDup, zGetf 18 2, zPush 8, zLdA 0, zGetf 18 1, zBin zfShl, zOrS, zPutf zisI 18 2, zLdA 0, zGetf 18 10, zPush 8, zLdA 0, zGetf 18 1, zBin zfShl, zCall cal 284 1, zCallF cal 5 304 2, zPop, zLdA 0, zDup, zGetf 18 1, zPush 8, zBin Nat.add, zPutf zisI 18 1, zLdA 0, zGetf 18 1, zPush 8, zBin zfSub, zRetV zisI])])
noncomputable def tb_X12_weight (scr slen opc : Nat) (iv : Nat → Nat × Nat) (dc db du : List (Nat × Nat)) (cal : zCal) : Nat × zBs := (2, [(0, 13, [zLdA 0, zPush 0, zPutf zisI 18 0, zLdA 0, zLdI 1, zCallV cal 18 [] 240 2, z0eq iv false 22]),
  (13, 14, [zNo]),
  (22, 28, [zLdA 0, zPush 8, zCallV cal 18 [] 218 2, zRetV zisI])])
noncomputable def tb_X12_width (scr slen opc : Nat) (iv : Nat → Nat × Nat) (dc db du : List (Nat × Nat)) (cal : zCal) : Nat × zBs := (6, [(0, 12, [zLdA 0, zPush 0, zPutf zisI 18 0, zLdI 1, zCall cal 237 1, z0eq iv false 23]),
  (12, 23, [zLdA 0, zLdI 1, zLdA 0, zLdI 1, zCallV cal 18 [] 255 2, zCallV cal 18 [] 279 3, zRetV zisI]),
  (23, 29, [zLdI 1, zPush 800, zJeq iv true 43]),
  (29, 43, [zLdA 0, zLdA 0, zGetf 18 2, zPush 8192, zNewA 64, zCallV cal 18 [] 215 3, zRetV zisI]),
  (43, 47, [zPush 0, zStI 6 2, zPush 8, zStI 6 3]),
  (47, 54, [zLdI 3, zPush 8192, zJlt iv false true 190]),
  (54, 62, [zPush 8000, zStI 6 4, zPush 0, zStI 6 5]),
  (62, 69, [zLdI 5, zPush 80, zJlt iv false true 109]),
  (69, 79, [zLdI 3, zLdI 5, zShrS, zPush 8, zAndS, zPush 8, zJeq iv true 99]),
  (79, 99, [zLdI 4, zLdA 0, zGetf 18 4, zLdI 5, zAld zisI 64 0, zLdI 3, zAndS, zCall cal 270 1, zCall cal 286 2, zGoto 101]),
  (99, 101, [zLdI 4]),
  (101, 109, [zStI 6 4, zIinc 6 5 1, zGoto 62]),
  (109, 115, [zLdI 1, zPush 824, zJeq iv true 137]),
  (115, 123, [zLdA 0, zLdI 3, zCallV cal 18 [] 238 2, z0eq iv false 132]),
  (123, 124, [zNo]),
  (132, 137, [zLdI 2, zStI 6 2, zGoto 184]),
  (137, 143, [zLdI 1, zPush 904, zJeq iv true 178]),
  (143, 151, [zLdA 0, zLdI 3, zCallV cal 18 [] 238 2, z0eq iv false 173]),
  (151, 153, [zNo]),
  (173, 178, [zLdI 2, zStI 6 2, zGoto 184]),
  (178, 184, [zLdA 0, zPush 8, zCallV cal 18 [] 218 2, zRetV zisI]),
  (184, 190, [zIinc 6 3 1, zGoto 47]),
  (190, 192, [zLdI 2, zRetV zisI])])
noncomputable def tb_X12_widthBy (scr slen opc : Nat) (iv : Nat → Nat × Nat) (dc db du : List (Nat × Nat)) (cal : zCal) : Nat × zBs := (7, [(0, 15, [zPush 0, zStI 7 3, zPush 0, zStI 7 4, zPush 0, zStI 7 5, zLdI 5, zLdA 2, zAlenS (zalen slen), zJlt iv false true 107]),
  (15, 16, [zNo]),
  (107, 109, [zLdI 3, zRetV zisI])])
noncomputable def tb_X12_widthOf (scr slen opc : Nat) (iv : Nat → Nat × Nat) (dc db du : List (Nat × Nat)) (cal : zCal) : Nat × zBs := (4, [(0, 12, [zLdA 0, zPush 0, zPutf zisI 18 0, zLdI 1, zCall cal 237 1, z0eq iv true 18]),
  (12, 18, [zLdA 0, zPush 8, zCallV cal 18 [] 218 2, zRetV zisI]),
  (18, 37, [zLdA 0, zGetf 18 5, zCallF cal 5 311 1, zLdA 0, zGetf 18 2, zCall cal 270 1, zJlt iv false true 43]),
  (37, 38, [zNo]),
  (43, 63, [zLdA 0, zGetf 18 5, zCallF cal 5 311 1, zNewA 64, zStA 4 2, zPush 0, zStI 4 3, zLdI 3, zLdA 2, zAlenS (zalen slen), zJlt iv false true 88]),
  (63, 64, [zNo]),
  (88, 95, [zLdA 0, zLdI 1, zLdA 2, zCallV cal 18 [] 279 3, zRetV zisI])])
noncomputable def tb_X12_win (scr slen opc : Nat) (iv : Nat → Nat × Nat) (dc db du : List (Nat × Nat)) (cal : zCal) : Nat × zBs := (2, [(0, 11, [zLdA 0, zLdI 1, zPush 0, zPush 80, zCall cal 231 3, z0eq iv false 15]),
  (11, 15, [zPush 0, zGoto 16]),
  (15, 16, [zPush 8]),
  (16, 26, [zPutf zisI 18 0, zLdA 0, zGetf 18 0, z0eq iv true 38]),
  (26, 34, [zLdA 0, zLdI 1, zCallV cal 18 [] 282 2, z0eq iv false 38]),
  (34, 38, [zPush 8, zGoto 39]),
  (38, 39, [zPush 0]),
  (39, 40, [zRetV zisZ])])
noncomputable def tb_X12_wins (scr slen opc : Nat) (iv : Nat → Nat × Nat) (dc db du : List (Nat × Nat)) (cal : zCal) : Nat × zBs := (5, [(0, 29, [zPush 8192, zNewA 64, zStA 5 2, zLdA 0, zLdA 0, zGetf 18 2, zCallV cal 18 [] 258 2, zCallF cal 5 310 1, zStA 5 3, zLdA 3, zCallF cal 4 314 1, z0eq iv false 59]),
  (29, 30, [zNo]),
  (59, 61, [zPush 8, zRetV zisZ])])
noncomputable def tb_J6_bitCount_0f7a4 (scr slen opc : Nat) (iv : Nat → Nat × Nat) (dc db du : List (Nat × Nat)) (cal : zCal) : Nat × zBs := (1, [(0, 53, [zLdI 0, zLdI 0, zPush 8, zBin zfUshr, zPush 11453246120, zAndS, zBin zfSub, zStI 1 0, zLdI 0, zPush 6871947672, zAndS, zLdI 0, zPush 16, zBin zfUshr, zPush 6871947672, zAndS, zBin Nat.add, zStI 1 0, zLdI 0, zLdI 0, zPush 32, zBin zfUshr, zBin Nat.add, zPush 2021161080, zAndS, zStI 1 0, zLdI 0, zLdI 0, zPush 64, zBin zfUshr, zBin Nat.add, zStI 1 0, zLdI 0, zLdI 0, zPush 128, zBin zfUshr, zBin Nat.add, zStI 1 0, zLdI 0, zPush 504, zAndS, zRetV zisI])])
noncomputable def tb_J6_valueOf_2dffe (scr slen opc : Nat) (iv : Nat → Nat × Nat) (dc db du : List (Nat × Nat)) (cal : zCal) : Nat × zBs := (1, [(0, 6, [zLdI 0, zPush 34359737344, zJlt iv false false 23]),
  (6, 13, [zLdI 0, zPush 1016, zJlt iv true false 23]),
  (13, 23, [zPush 18, zLdI 0, zPush 1024, zBin Nat.add, zAldS zscac, zRetV zisA]),
  (23, 26, [zNo])])
noncomputable def tb_J9_max_7cf53 (scr slen opc : Nat) (iv : Nat → Nat × Nat) (dc db du : List (Nat × Nat)) (cal : zCal) : Nat × zBs := (2, [(0, 5, [zLdI 0, zLdI 1, zJlt iv false false 9]),
  (5, 9, [zLdI 0, zGoto 10]),
  (9, 10, [zNo]),
  (10, 11, [zRetV zisI])])
noncomputable def tb_J9_min_7cf53 (scr slen opc : Nat) (iv : Nat → Nat × Nat) (dc db du : List (Nat × Nat)) (cal : zCal) : Nat × zBs := (2, [(0, 5, [zLdI 0, zLdI 1, zJlt iv true false 9]),
  (5, 9, [zLdI 0, zGoto 10]),
  (9, 10, [zLdI 1]),
  (10, 11, [zRetV zisI])])
noncomputable def tb_J0_charAt_5068e (scr slen opc : Nat) (iv : Nat → Nat × Nat) (dc db du : List (Nat × Nat)) (cal : zCal) : Nat × zBs := (2, [(0, 7, [zLdA 0, zCallV cal 0 zsobj 292 1, z0eq iv false 16]),
  (7, 16, [zLdA 0, zGetS zsval, zLdI 1, zCall cal 295 2, zRetV zisC]),
  (16, 17, [zNo])])
noncomputable def tb_J0_checkIndex_df160 (scr slen opc : Nat) (iv : Nat → Nat × Nat) (dc db du : List (Nat × Nat)) (cal : zCal) : Nat × zBs := (2, [(0, 10, [zLdI 0, zLdI 1, zPush 42, zCall cal 319 3, zPop, zRet0])])
noncomputable def tb_J0_coder_7d493 (scr slen opc : Nat) (iv : Nat → Nat × Nat) (dc db du : List (Nat × Nat)) (cal : zCal) : Nat × zBs := (1, [(0, 6, [zPush 8, z0eq iv false 13]),
  (6, 13, [zLdA 0, zGetS zscod, zGoto 14]),
  (13, 14, [zNo]),
  (14, 15, [zRetV zisZ])])
noncomputable def tb_J0_indexOf_0f7a4 (scr slen opc : Nat) (iv : Nat → Nat × Nat) (dc db du : List (Nat × Nat)) (cal : zCal) : Nat × zBs := (2, [(0, 7, [zLdA 0, zLdI 1, zPush 0, zCallV cal 0 zsobj 291 3, zRetV zisI])])
noncomputable def tb_J0_indexOf_7cf53 (scr slen opc : Nat) (iv : Nat → Nat × Nat) (dc db du : List (Nat × Nat)) (cal : zCal) : Nat × zBs := (3, [(0, 7, [zLdA 0, zCallV cal 0 zsobj 292 1, z0eq iv false 23]),
  (7, 23, [zLdA 0, zGetS zsval, zLdI 1, zLdI 2, zLdA 0, zCallV cal 0 zsobj 293 1, zCall cal 296 4, zGoto 36]),
  (23, 24, [zNo]),
  (36, 37, [zRetV zisI])])
noncomputable def tb_J0_isLatin1_aae02 (scr slen opc : Nat) (iv : Nat → Nat × Nat) (dc db du : List (Nat × Nat)) (cal : zCal) : Nat × zBs := (1, [(0, 6, [zPush 8, z0eq iv false 17]),
  (6, 13, [zLdA 0, zGetS zscod, z0eq iv true 17]),
  (13, 17, [zPush 8, zGoto 18]),
  (17, 18, [zNo]),
  (18, 19, [zRetV zisZ])])
noncomputable def tb_J0_length_8abf5 (scr slen opc : Nat) (iv : Nat → Nat × Nat) (dc db du : List (Nat × Nat)) (cal : zCal) : Nat × zBs := (1, [(0, 11, [zLdA 0, zGetS zsval, zAlenS (zalen slen), zLdA 0, zCallV cal 0 zsobj 289 1, zShrS, zRetV zisI])])
noncomputable def tb_J1_canEncode_9a6ad (scr slen opc : Nat) (iv : Nat → Nat × Nat) (dc db du : List (Nat × Nat)) (cal : zCal) : Nat × zBs := (1, [(0, 4, [zLdI 0, z0lt iv false false 15]),
  (4, 11, [zLdI 0, zPush 2040, zJlt iv true false 15]),
  (11, 15, [zPush 8, zGoto 16]),
  (15, 16, [zPush 0]),
  (16, 17, [zRetV zisZ])])
noncomputable def tb_J1_charAt_3b067 (scr slen opc : Nat) (iv : Nat → Nat × Nat) (dc db du : List (Nat × Nat)) (cal : zCal) : Nat × zBs := (2, [(0, 15, [zLdI 1, zLdA 0, zAlenS (zalen slen), zCall cal 288 2, zLdA 0, zLdI 1, zAldS zsbyt, zPush 2040, zAndS, zI2cT dc, zRetV zisC])])
noncomputable def tb_J1_indexOf_4cfef (scr slen opc : Nat) (iv : Nat → Nat × Nat) (dc db du : List (Nat × Nat)) (cal : zCal) : Nat × zBs := (4, [(0, 7, [zLdI 1, zCall cal 294 1, z0eq iv true 9]),
  (7, 9, [zPush 34359738360, zRetV zisI]),
  (9, 27, [zLdI 2, zPush 0, zCall cal 285 2, zStI 4 2, zLdI 3, zLdA 0, zAlenS (zalen slen), zCall cal 286 2, zStI 4 3, zLdI 2, zLdI 3, zJlt iv false false 29]),
  (27, 28, [zNo]),
  (29, 37, [zLdA 0, zLdI 1, zLdI 2, zLdI 3, zCall cal 297 4, zRetV zisI])])
noncomputable def tb_J1_indexOfChar_4cfef (scr slen opc : Nat) (iv : Nat → Nat × Nat) (dc db du : List (Nat × Nat)) (cal : zCal) : Nat × zBs := (6, [(0, 7, [zLdI 1, zI2bT db, zStI 6 4, zLdI 2, zStI 6 5]),
  (7, 13, [zLdI 5, zLdI 3, zJlt iv false true 31]),
  (13, 22, [zLdA 0, zLdI 5, zAldS zsbyt, zLdI 4, zJeq iv true 25]),
  (22, 25, [zLdI 5, zRetV zisI]),
  (25, 31, [zIinc 6 5 1, zGoto 7]),
  (31, 33, [zPush 34359738360, zRetV zisI])])
noncomputable def tb_Jxa1e45_init_da8c8 (scr slen opc : Nat) (iv : Nat → Nat × Nat) (dc db du : List (Nat × Nat)) (cal : zCal) : Nat × zBs := (1, [(0, 5, [zLdA 0, zObj, zRet0])])
noncomputable def tb_Jxc12de_init_da8c8 (scr slen opc : Nat) (iv : Nat → Nat × Nat) (dc db du : List (Nat × Nat)) (cal : zCal) : Nat × zBs := (1, [(0, 10, [zLdA 0, zCallI cal 298 1, zLdA 0, zPush 0, zPutf zisI 5 0, zRet0])])
noncomputable def tb_X13_init (scr slen opc : Nat) (iv : Nat → Nat × Nat) (dc db du : List (Nat × Nat)) (cal : zCal) : Nat × zBs := (1, [(0, 5, [zLdA 0, zObj, zRet0])])
noncomputable def tb_X14_init (scr slen opc : Nat) (iv : Nat → Nat × Nat) (dc db du : List (Nat × Nat)) (cal : zCal) : Nat × zBs := (1, [(0, 5, [zLdA 0, zCallI cal 298 1, zRet0])])
noncomputable def tb_Jx4a65c_init_da8c8 (scr slen opc : Nat) (iv : Nat → Nat × Nat) (dc db du : List (Nat × Nat)) (cal : zCal) : Nat × zBs := (1, [(0, 12, [zLdA 0, zCallI cal 299 1, zLdA 0, zPush 10, zPutf zisA 5 1, zRet0])])
noncomputable def tb_Jx4a65c_init_4bcb3 (scr slen opc : Nat) (iv : Nat → Nat × Nat) (dc db du : List (Nat × Nat)) (cal : zCal) : Nat × zBs := (3, [(0, 21, [zLdA 0, zCallI cal 299 1, zLdA 1, zCallF cal 5 312 1, zStA 3 2, zLdA 0, zLdA 2, zAlenS (zalen slen), zDupX1, zPutf zisI 5 2, z0eq iv false 57]),
  (21, 22, [zNo]),
  (57, 65, [zLdA 0, zPush 26, zPutf zisA 5 1, zRet0])])
noncomputable def tb_Jx4a65c_add_9ea2d (scr slen opc : Nat) (iv : Nat → Nat × Nat) (dc db du : List (Nat × Nat)) (cal : zCal) : Nat × zBs := (2, [(0, 25, [zLdA 0, zDup, zGetf 5 0, zPush 8, zBin Nat.add, zPutf zisI 5 0, zLdA 0, zLdA 1, zLdA 0, zGetf 5 1, zLdA 0, zGetf 5 2, zCallV cal 5 [] 305 4, zPush 8, zRetV zisZ])])
noncomputable def tb_Jx4a65c_add_72be8 (scr slen opc : Nat) (iv : Nat → Nat × Nat) (dc db du : List (Nat × Nat)) (cal : zCal) : Nat × zBs := (4, [(0, 6, [zLdI 3, zLdA 2, zAlenS (zalen slen), zJeq iv true 11]),
  (6, 11, [zLdA 0, zCallV cal 5 [] 307 1, zStA 4 2]),
  (11, 23, [zLdA 2, zLdI 3, zLdA 1, zAst zisA 68 3, zLdA 0, zLdI 3, zPush 8, zBin Nat.add, zPutf zisI 5 2, zRet0])])
noncomputable def tb_Jx4a65c_clear_da8c8 (scr slen opc : Nat) (iv : Nat → Nat × Nat) (dc db du : List (Nat × Nat)) (cal : zCal) : Nat × zBs := (4, [(0, 32, [zLdA 0, zDup, zGetf 5 0, zPush 8, zBin Nat.add, zPutf zisI 5 0, zLdA 0, zGetf 5 1, zStA 4 1, zLdA 0, zGetf 5 2, zStI 4 2, zLdA 0, zPush 0, zDupX1, zPutf zisI 5 2, zStI 4 3, zLdI 3, zLdI 2, zJlt iv false true 42]),
  (32, 33, [zNo]),
  (42, 43, [zRet0])])
noncomputable def tb_Jx4a65c_grow_d5877 (scr slen opc : Nat) (iv : Nat → Nat × Nat) (dc db du : List (Nat × Nat)) (cal : zCal) : Nat × zBs := (1, [(0, 11, [zLdA 0, zLdA 0, zGetf 5 2, zPush 8, zBin Nat.add, zCallV cal 5 [] 308 2, zRetV zisA])])
noncomputable def tb_Jx4a65c_grow_92f84 (scr slen opc : Nat) (iv : Nat → Nat × Nat) (dc db du : List (Nat × Nat)) (cal : zCal) : Nat × zBs := (4, [(0, 10, [zLdA 0, zGetf 5 1, zAlenS (zalen slen), zStI 4 2, zLdI 2, z0lt iv true false 20]),
  (10, 20, [zLdA 0, zGetf 5 1, zPush 10, zAcmp false 45]),
  (20, 21, [zNo]),
  (45, 60, [zLdA 0, zPush 80, zLdI 1, zCall cal 285 2, zNewO, zDupX1, zPutf zisA 5 1, zRetV zisA])])
noncomputable def tb_Jx4a65c_isEmpty_aae02 (scr slen opc : Nat) (iv : Nat → Nat × Nat) (dc db du : List (Nat × Nat)) (cal : zCal) : Nat × zBs := (1, [(0, 7, [zLdA 0, zGetf 5 2, z0eq iv true 11]),
  (7, 11, [zPush 8, zGoto 12]),
  (11, 12, [zNo]),
  (12, 13, [zRetV zisZ])])
noncomputable def tb_Jx4a65c_iterator_32c93 (scr slen opc : Nat) (iv : Nat → Nat × Nat) (dc db du : List (Nat × Nat)) (cal : zCal) : Nat × zBs := (1, [(0, 9, [zNew 4 4 315936875005671560093754083051011296956685286201647333762932932608, zDup, zLdA 0, zCallI cal 313 2, zRetV zisA])])
noncomputable def tb_Jx4a65c_size_8abf5 (scr slen opc : Nat) (iv : Nat → Nat × Nat) (dc db du : List (Nat × Nat)) (cal : zCal) : Nat × zBs := (1, [(0, 5, [zLdA 0, zGetf 5 2, zRetV zisI])])
noncomputable def tb_Jx4a65c_toArray_d5877 (scr slen opc : Nat) (iv : Nat → Nat × Nat) (dc db du : List (Nat × Nat)) (cal : zCal) : Nat × zBs := (1, [(0, 12, [zLdA 0, zGetf 5 1, zLdA 0, zGetf 5 2, zCall cal 315 2, zRetV zisA])])
noncomputable def tb_Jx35411_init_45d68 (scr slen opc : Nat) (iv : Nat → Nat × Nat) (dc db du : List (Nat × Nat)) (cal : zCal) : Nat × zBs := (2, [(0, 26, [zLdA 0, zLdA 1, zPutf zisA 4 3, zLdA 0, zObj, zLdA 0, zPush 34359738360, zPutf zisI 4 1, zLdA 0, zLdA 0, zGetf 4 3, zGetf 5 0, zPutf zisI 4 2, zRet0])])
noncomputable def tb_Jx35411_hasNext_aae02 (scr slen opc : Nat) (iv : Nat → Nat × Nat) (dc db du : List (Nat × Nat)) (cal : zCal) : Nat × zBs := (1, [(0, 14, [zLdA 0, zGetf 4 0, zLdA 0, zGetf 4 3, zGetf 5 2, zJeq iv false 18]),
  (14, 15, [zNo]),
  (18, 20, [zPush 0, zRetV zisZ])])
noncomputable def tb_J7_copyOf_1904c (scr slen opc : Nat) (iv : Nat → Nat × Nat) (dc db du : List (Nat × Nat)) (cal : zCal) : Nat × zBs := (2, [(0, 6, [zLdA 0, zLdI 1, zLdA 0, zNo])])
noncomputable def tb_J7_copyOf_6403c (scr slen opc : Nat) (iv : Nat → Nat × Nat) (dc db du : List (Nat × Nat)) (cal : zCal) : Nat × zBs := (4, [(0, 3, [zLdA 2, zNo]),
  (6, 13, [zLdI 1, zNewO, zGoto 24]),
  (13, 14, [zNo]),
  (24, 38, [zStA 4 3, zLdA 0, zPush 0, zLdA 3, zPush 0, zLdA 0, zAlenS (zalen slen), zLdI 1, zCall cal 286 2, zNo])])
noncomputable def tb_X17_init (scr slen opc : Nat) (iv : Nat → Nat × Nat) (dc db du : List (Nat × Nat)) (cal : zCal) : Nat × zBs := (1, [(0, 11, [zLdA 0, zCallI cal 300 1, zLdA 0, zPush 8489271301, zPutf (fun v => zt v 5) 21 7, zRet0])])
noncomputable def tb_X18_init (scr slen opc : Nat) (iv : Nat → Nat × Nat) (dc db du : List (Nat × Nat)) (cal : zCal) : Nat × zBs := (1, [(0, 16, [zLdA 0, zCallI cal 301 1, zLdA 0, zNew 21 8 261871248631691349601055175746207932177331363683445183158663309447690703712373964390661923322947338243631028551190092287626206633578355008993738593665027, zDup, zCallI cal 317 1, zPutf zisA 22 0, zRet0])])
noncomputable def tb_J3_checkIndex_8e157 (scr slen opc : Nat) (iv : Nat → Nat × Nat) (dc db du : List (Nat × Nat)) (cal : zCal) : Nat × zBs := (3, [(0, 4, [zLdI 0, z0lt iv false false 9]),
  (4, 9, [zLdI 0, zLdI 1, zJlt iv false false 16]),
  (9, 10, [zNo]),
  (16, 18, [zLdI 0, zRetV zisI])])
noncomputable def tbr_0 (scr slen opc : Nat) (iv : Nat → Nat × Nat) (dc db du : List (Nat × Nat)) (cal : zCal) : List (Nat × zBs) := [tb_L_law scr slen opc iv dc db du cal, tb_X11_init scr slen opc iv dc db du cal, tb_X11_above scr slen opc iv dc db du cal, tb_X11_apex scr slen opc iv dc db du cal, tb_X11_bag scr slen opc iv dc db du cal, tb_X11_bagAt scr slen opc iv dc db du cal, tb_X11_bagWidth scr slen opc iv dc db du cal, tb_X11_bestSet scr slen opc iv dc db du cal, tb_X11_check scr slen opc iv dc db du cal, tb_X11_clause scr slen opc iv dc db du cal, tb_X11_clearBags scr slen opc iv dc db du cal, tb_X11_clearFamily scr slen opc iv dc db du cal, tb_X11_clearHyperedges scr slen opc iv dc db du cal, tb_X11_clearOrder scr slen opc iv dc db du cal, tb_X11_colourings scr slen opc iv dc db du cal, tb_X11_colours scr slen opc iv dc db du cal, tb_X11_contract scr slen opc iv dc db du cal, tb_X11_cover scr slen opc iv dc db du cal]
noncomputable def tbr_1 (scr slen opc : Nat) (iv : Nat → Nat × Nat) (dc db du : List (Nat × Nat)) (cal : zCal) : List (Nat × zBs) := [tb_X11_decompose scr slen opc iv dc db du cal, tb_X11_density scr slen opc iv dc db du cal, tb_X11_edge scr slen opc iv dc db du cal, tb_X11_edges scr slen opc iv dc db du cal, tb_X11_familyOrder scr slen opc iv dc db du cal, tb_X11_fewestSearchers scr slen opc iv dc db du cal, tb_X11_hasCover scr slen opc iv dc db du cal, tb_X11_hasMinor scr slen opc iv dc db du cal, tb_X11_haven scr slen opc iv dc db du cal, tb_X11_hyperedge scr slen opc iv dc db du cal, tb_X11_isAcyclic scr slen opc iv dc db du cal, tb_X11_isBramble scr slen opc iv dc db du cal, tb_X11_isIn scr slen opc iv dc db du cal, tb_X11_isTrue scr slen opc iv dc db du cal, tb_X11_join scr slen opc iv dc db du cal, tb_X11_kernel scr slen opc iv dc db du cal, tb_X11_kernelLeft scr slen opc iv dc db du cal, tb_X11_link scr slen opc iv dc db du cal]
noncomputable def tbr_2 (scr slen opc : Nat) (iv : Nat → Nat × Nat) (dc db du : List (Nat × Nat)) (cal : zCal) : List (Nat × zBs) := [tb_X11_longest scr slen opc iv dc db du cal, tb_X11_lower scr slen opc iv dc db du cal, tb_X11_meanDegree scr slen opc iv dc db du cal, tb_X11_model scr slen opc iv dc db du cal, tb_X11_needBags scr slen opc iv dc db du cal, tb_X11_needFilledSet scr slen opc iv dc db du cal, tb_X11_needIndex scr slen opc iv dc db du cal, tb_X11_needKernel scr slen opc iv dc db du cal, tb_X11_needKind scr slen opc iv dc db du cal, tb_X11_needPair scr slen opc iv dc db du cal, tb_X11_needRange scr slen opc iv dc db du cal, tb_X11_needSet scr slen opc iv dc db du cal, tb_X11_needVertex scr slen opc iv dc db du cal, tb_X11_neighbours scr slen opc iv dc db du cal, tb_X11_nice scr slen opc iv dc db du cal, tb_X11_orderAt scr slen opc iv dc db du cal, tb_X11_parts scr slen opc iv dc db du cal, tb_X11_place scr slen opc iv dc db du cal]
noncomputable def tbr_3 (scr slen opc : Nat) (iv : Nat → Nat × Nat) (dc db du : List (Nat × Nat)) (cal : zCal) : List (Nat × zBs) := [tb_X11_put scr slen opc iv dc db du cal, tb_X11_red scr slen opc iv dc db du cal, tb_X11_remove scr slen opc iv dc db du cal, tb_X11_rings scr slen opc iv dc db du cal, tb_X11_searchers scr slen opc iv dc db du cal, tb_X11_sets scr slen opc iv dc db du cal, tb_X11_size scr slen opc iv dc db du cal, tb_X11_split scr slen opc iv dc db du cal, tb_X11_takeHaven scr slen opc iv dc db du cal, tb_X11_twinWidth scr slen opc iv dc db du cal, tb_X11_upper scr slen opc iv dc db du cal, tb_X11_vertex scr slen opc iv dc db du cal, tb_X11_weight scr slen opc iv dc db du cal, tb_X11_width scr slen opc iv dc db du cal, tb_X11_widthOf scr slen opc iv dc db du cal, tb_X11_win scr slen opc iv dc db du cal, tb_X0_init scr slen opc iv dc db du cal, tb_X0_everyVertexHangs scr slen opc iv dc db du cal]
noncomputable def tbr_4 (scr slen opc : Nat) (iv : Nat → Nat × Nat) (dc db du : List (Nat × Nat)) (cal : zCal) : List (Nat × zBs) := [tb_X0_fault scr slen opc iv dc db du cal, tb_X0_hang scr slen opc iv dc db du cal, tb_X0_holdsAllEdges scr slen opc iv dc db du cal, tb_X0_make scr slen opc iv dc db du cal, tb_X0_union scr slen opc iv dc db du cal, tb_X1_init scr slen opc iv dc db du cal, tb_X1_countKept scr slen opc iv dc db du cal, tb_X1_densestCore scr slen opc iv dc db du cal, tb_X1_fewestThatCover scr slen opc iv dc db du cal, tb_X1_fewestThatLink scr slen opc iv dc db du cal, tb_X1_keepsAll scr slen opc iv dc db du cal, tb_X1_largestClique scr slen opc iv dc db du cal, tb_X1_lightest scr slen opc iv dc db du cal, tb_X1_tell scr slen opc iv dc db du cal, tb_X1_weigh scr slen opc iv dc db du cal, tb_X2_init scr slen opc iv dc db du cal, tb_X2_brambles scr slen opc iv dc db du cal, tb_X2_fewestThatMeet scr slen opc iv dc db du cal]
noncomputable def tbr_5 (scr slen opc : Nat) (iv : Nat → Nat × Nat) (dc db du : List (Nat × Nat)) (cal : zCal) : List (Nat × zBs) := [tb_X3_init scr slen opc iv dc db du cal, tb_X3_add scr slen opc iv dc db du cal, tb_X3_count scr slen opc iv dc db du cal, tb_X3_edgesWithin scr slen opc iv dc db du cal, tb_X3_ends scr slen opc iv dc db du cal, tb_X3_hangs scr slen opc iv dc db du cal, tb_X3_has scr slen opc iv dc db du cal, tb_X3_holds scr slen opc iv dc db du cal, tb_X3_partsWithin scr slen opc iv dc db du cal, tb_X3_reach scr slen opc iv dc db du cal, tb_X3_refresh scr slen opc iv dc db du cal, tb_X4_init scr slen opc iv dc db du cal, tb_X4_ready scr slen opc iv dc db du cal, tb_X5_init scr slen opc iv dc db du cal, tb_X5_dropInner scr slen opc iv dc db du cal, tb_X5_mostNeeded scr slen opc iv dc db du cal, tb_X5_stripLone scr slen opc iv dc db du cal, tb_X5_union scr slen opc iv dc db du cal]
noncomputable def tbr_6 (scr slen opc : Nat) (iv : Nat → Nat × Nat) (dc db du : List (Nat × Nat)) (cal : zCal) : List (Nat × zBs) := [tb_X5_unionOf scr slen opc iv dc db du cal, tb_X5_vanish scr slen opc iv dc db du cal, tb_X6_init scr slen opc iv dc db du cal, tb_X6_extend scr slen opc iv dc db du cal, tb_X6_fewestTooMany scr slen opc iv dc db du cal, tb_X6_find scr slen opc iv dc db du cal, tb_X6_firstSide scr slen opc iv dc db du cal, tb_X6_inClass scr slen opc iv dc db du cal, tb_X6_ready scr slen opc iv dc db du cal, tb_X6_roomIsLeft scr slen opc iv dc db du cal, tb_X6_setsOf scr slen opc iv dc db du cal, tb_X7_init scr slen opc iv dc db du cal, tb_X7_cutCost scr slen opc iv dc db du cal, tb_X7_edgesAcross scr slen opc iv dc db du cal, tb_X7_extendBand scr slen opc iv dc db du cal, tb_X7_leastAhead scr slen opc iv dc db du cal, tb_X7_rank scr slen opc iv dc db du cal, tb_X7_solve scr slen opc iv dc db du cal]
noncomputable def tbr_7 (scr slen opc : Nat) (iv : Nat → Nat × Nat) (dc db du : List (Nat × Nat)) (cal : zCal) : List (Nat × zBs) := [tb_X7_solveBand scr slen opc iv dc db du cal, tb_X7_solveByBeginnings scr slen opc iv dc db du cal, tb_X7_widthAlong scr slen opc iv dc db du cal, tb_X8_init scr slen opc iv dc db du cal, tb_X8_countColourings scr slen opc iv dc db du cal, tb_X8_countRings scr slen opc iv dc db du cal, tb_X8_fewestColours scr slen opc iv dc db du cal, tb_X8_readyShadings scr slen opc iv dc db du cal, tb_X8_shadeFrom scr slen opc iv dc db du cal, tb_X9_init scr slen opc iv dc db du cal, tb_X9_boundAbove scr slen opc iv dc db du cal, tb_X9_boundBelow scr slen opc iv dc db du cal, tb_X9_leastOf scr slen opc iv dc db du cal, tb_X9_load scr slen opc iv dc db du cal, tb_X9_lowestWith scr slen opc iv dc db du cal, tb_X9_reduceOnce scr slen opc iv dc db du cal, tb_X9_shrink scr slen opc iv dc db du cal, tb_X9_stands scr slen opc iv dc db du cal]
noncomputable def tbr_8 (scr slen opc : Nat) (iv : Nat → Nat × Nat) (dc db du : List (Nat × Nat)) (cal : zCal) : List (Nat × zBs) := [tb_X10_init scr slen opc iv dc db du cal, tb_X10_countGroups scr slen opc iv dc db du cal, tb_X10_gatherPieces scr slen opc iv dc db du cal, tb_X10_leads scr slen opc iv dc db du cal, tb_X10_leastAfterJoin scr slen opc iv dc db du cal, tb_X10_leastRed scr slen opc iv dc db du cal, tb_X10_mostRed scr slen opc iv dc db du cal, tb_X10_mostRedPiece scr slen opc iv dc db du cal, tb_X10_readLabels scr slen opc iv dc db du cal, tb_X10_scatter scr slen opc iv dc db du cal, tb_X10_seat scr slen opc iv dc db du cal, tb_L_above scr slen opc iv dc db du cal, tb_L_apex scr slen opc iv dc db du cal, tb_L_bag scr slen opc iv dc db du cal, tb_L_bagAt scr slen opc iv dc db du cal, tb_L_bagWidth scr slen opc iv dc db du cal, tb_L_bestSet scr slen opc iv dc db du cal, tb_L_clause scr slen opc iv dc db du cal]
noncomputable def tbr_9 (scr slen opc : Nat) (iv : Nat → Nat × Nat) (dc db du : List (Nat × Nat)) (cal : zCal) : List (Nat × zBs) := [tb_L_colourings scr slen opc iv dc db du cal, tb_L_contract scr slen opc iv dc db du cal, tb_L_cover scr slen opc iv dc db du cal, tb_L_density scr slen opc iv dc db du cal, tb_L_edge scr slen opc iv dc db du cal, tb_L_hasCover scr slen opc iv dc db du cal, tb_L_hasMinor scr slen opc iv dc db du cal, tb_L_haven scr slen opc iv dc db du cal, tb_L_hyperedge scr slen opc iv dc db du cal, tb_L_isIn scr slen opc iv dc db du cal, tb_L_join scr slen opc iv dc db du cal, tb_L_kernel scr slen opc iv dc db du cal, tb_L_kernelLeft scr slen opc iv dc db du cal, tb_L_link scr slen opc iv dc db du cal, tb_L_longest scr slen opc iv dc db du cal, tb_L_meanDegree scr slen opc iv dc db du cal, tb_L_model scr slen opc iv dc db du cal, tb_L_neighbours scr slen opc iv dc db du cal]
noncomputable def tbr_10 (scr slen opc : Nat) (iv : Nat → Nat × Nat) (dc db du : List (Nat × Nat)) (cal : zCal) : List (Nat × zBs) := [tb_L_nice scr slen opc iv dc db du cal, tb_L_orderAt scr slen opc iv dc db du cal, tb_L_place scr slen opc iv dc db du cal, tb_L_put scr slen opc iv dc db du cal, tb_L_remove scr slen opc iv dc db du cal, tb_L_takeHaven scr slen opc iv dc db du cal, tb_L_twinWidth scr slen opc iv dc db du cal, tb_L_vertex scr slen opc iv dc db du cal, tb_L_weight scr slen opc iv dc db du cal, tb_L_width scr slen opc iv dc db du cal, tb_L_widthOf scr slen opc iv dc db du cal, tb_L_win scr slen opc iv dc db du cal, tb_X12_init scr slen opc iv dc db du cal, tb_X12_above scr slen opc iv dc db du cal, tb_X12_alone scr slen opc iv dc db du cal, tb_X12_apex scr slen opc iv dc db du cal, tb_X12_bag scr slen opc iv dc db du cal, tb_X12_bagAt scr slen opc iv dc db du cal]
noncomputable def tbr_11 (scr slen opc : Nat) (iv : Nat → Nat × Nat) (dc db du : List (Nat × Nat)) (cal : zCal) : List (Nat × zBs) := [tb_X12_bagWidth scr slen opc iv dc db du cal, tb_X12_bestSet scr slen opc iv dc db du cal, tb_X12_check scr slen opc iv dc db du cal, tb_X12_checked scr slen opc iv dc db du cal, tb_X12_clause scr slen opc iv dc db du cal, tb_X12_clearBags scr slen opc iv dc db du cal, tb_X12_clearFamily scr slen opc iv dc db du cal, tb_X12_clearHyperedges scr slen opc iv dc db du cal, tb_X12_clearOrder scr slen opc iv dc db du cal, tb_X12_coloured scr slen opc iv dc db du cal, tb_X12_colourings scr slen opc iv dc db du cal, tb_X12_colours scr slen opc iv dc db du cal, tb_X12_contract scr slen opc iv dc db du cal, tb_X12_countEdges scr slen opc iv dc db du cal, tb_X12_cover scr slen opc iv dc db du cal, tb_X12_decompose scr slen opc iv dc db du cal, tb_X12_density scr slen opc iv dc db du cal, tb_X12_depth scr slen opc iv dc db du cal]
noncomputable def tbr_12 (scr slen opc : Nat) (iv : Nat → Nat × Nat) (dc db du : List (Nat × Nat)) (cal : zCal) : List (Nat × zBs) := [tb_X12_edge scr slen opc iv dc db du cal, tb_X12_edges scr slen opc iv dc db du cal, tb_X12_fails scr slen opc iv dc db du cal, tb_X12_failsBoolean scr slen opc iv dc db du cal, tb_X12_familyOrder scr slen opc iv dc db du cal, tb_X12_fewest scr slen opc iv dc db du cal, tb_X12_fills scr slen opc iv dc db du cal, tb_X12_found scr slen opc iv dc db du cal, tb_X12_hanging scr slen opc iv dc db du cal, tb_X12_hangs scr slen opc iv dc db du cal, tb_X12_hasCover scr slen opc iv dc db du cal, tb_X12_hasMinor scr slen opc iv dc db du cal, tb_X12_haven scr slen opc iv dc db du cal, tb_X12_hitting scr slen opc iv dc db du cal, tb_X12_hyperedge scr slen opc iv dc db du cal, tb_X12_in scr slen opc iv dc db du cal, tb_X12_inClass scr slen opc iv dc db du cal, tb_X12_isAcyclic scr slen opc iv dc db du cal]
noncomputable def tbr_13 (scr slen opc : Nat) (iv : Nat → Nat × Nat) (dc db du : List (Nat × Nat)) (cal : zCal) : List (Nat × zBs) := [tb_X12_isBramble scr slen opc iv dc db du cal, tb_X12_isIn scr slen opc iv dc db du cal, tb_X12_isMinor scr slen opc iv dc db du cal, tb_X12_isOrdered scr slen opc iv dc db du cal, tb_X12_isSet scr slen opc iv dc db du cal, tb_X12_isTrue scr slen opc iv dc db du cal, tb_X12_isVertex scr slen opc iv dc db du cal, tb_X12_join scr slen opc iv dc db du cal, tb_X12_joins scr slen opc iv dc db du cal, tb_X12_keeps scr slen opc iv dc db du cal, tb_X12_kernel scr slen opc iv dc db du cal, tb_X12_kernelLeft scr slen opc iv dc db du cal, tb_X12_kernelOf scr slen opc iv dc db du cal, tb_X12_leasts scr slen opc iv dc db du cal, tb_X12_link scr slen opc iv dc db du cal, tb_X12_longest scr slen opc iv dc db du cal, tb_X12_lower scr slen opc iv dc db du cal, tb_X12_meanDegree scr slen opc iv dc db du cal]
noncomputable def tbr_14 (scr slen opc : Nat) (iv : Nat → Nat × Nat) (dc db du : List (Nat × Nat)) (cal : zCal) : List (Nat × zBs) := [tb_X12_model scr slen opc iv dc db du cal, tb_X12_neighbours scr slen opc iv dc db du cal, tb_X12_nice scr slen opc iv dc db du cal, tb_X12_order scr slen opc iv dc db du cal, tb_X12_orderAt scr slen opc iv dc db du cal, tb_X12_parts scr slen opc iv dc db du cal, tb_X12_partsOf scr slen opc iv dc db du cal, tb_X12_place scr slen opc iv dc db du cal, tb_X12_places scr slen opc iv dc db du cal, tb_X12_put scr slen opc iv dc db du cal, tb_X12_red scr slen opc iv dc db du cal, tb_X12_redOf scr slen opc iv dc db du cal, tb_X12_remove scr slen opc iv dc db du cal, tb_X12_rings scr slen opc iv dc db du cal, tb_X12_searchers scr slen opc iv dc db du cal, tb_X12_sets scr slen opc iv dc db du cal, tb_X12_setsOf scr slen opc iv dc db du cal, tb_X12_size_ scr slen opc iv dc db du cal]
noncomputable def tbr_15 (scr slen opc : Nat) (iv : Nat → Nat × Nat) (dc db du : List (Nat × Nat)) (cal : zCal) : List (Nat × zBs) := [tb_X12_size scr slen opc iv dc db du cal, tb_X12_split scr slen opc iv dc db du cal, tb_X12_takeHaven scr slen opc iv dc db du cal, tb_X12_thrown scr slen opc iv dc db du cal, tb_X12_twinWidth scr slen opc iv dc db du cal, tb_X12_upper scr slen opc iv dc db du cal, tb_X12_vertex scr slen opc iv dc db du cal, tb_X12_weight scr slen opc iv dc db du cal, tb_X12_width scr slen opc iv dc db du cal, tb_X12_widthBy scr slen opc iv dc db du cal, tb_X12_widthOf scr slen opc iv dc db du cal, tb_X12_win scr slen opc iv dc db du cal, tb_X12_wins scr slen opc iv dc db du cal, tb_J6_bitCount_0f7a4 scr slen opc iv dc db du cal, tb_J6_valueOf_2dffe scr slen opc iv dc db du cal, tb_J9_max_7cf53 scr slen opc iv dc db du cal, tb_J9_min_7cf53 scr slen opc iv dc db du cal, tb_J0_charAt_5068e scr slen opc iv dc db du cal]
noncomputable def tbr_16 (scr slen opc : Nat) (iv : Nat → Nat × Nat) (dc db du : List (Nat × Nat)) (cal : zCal) : List (Nat × zBs) := [tb_J0_checkIndex_df160 scr slen opc iv dc db du cal, tb_J0_coder_7d493 scr slen opc iv dc db du cal, tb_J0_indexOf_0f7a4 scr slen opc iv dc db du cal, tb_J0_indexOf_7cf53 scr slen opc iv dc db du cal, tb_J0_isLatin1_aae02 scr slen opc iv dc db du cal, tb_J0_length_8abf5 scr slen opc iv dc db du cal, tb_J1_canEncode_9a6ad scr slen opc iv dc db du cal, tb_J1_charAt_3b067 scr slen opc iv dc db du cal, tb_J1_indexOf_4cfef scr slen opc iv dc db du cal, tb_J1_indexOfChar_4cfef scr slen opc iv dc db du cal, tb_Jxa1e45_init_da8c8 scr slen opc iv dc db du cal, tb_Jxc12de_init_da8c8 scr slen opc iv dc db du cal, tb_X13_init scr slen opc iv dc db du cal, tb_X14_init scr slen opc iv dc db du cal, tb_Jx4a65c_init_da8c8 scr slen opc iv dc db du cal, tb_Jx4a65c_init_4bcb3 scr slen opc iv dc db du cal, tb_Jx4a65c_add_9ea2d scr slen opc iv dc db du cal, tb_Jx4a65c_add_72be8 scr slen opc iv dc db du cal]
noncomputable def tbr_17 (scr slen opc : Nat) (iv : Nat → Nat × Nat) (dc db du : List (Nat × Nat)) (cal : zCal) : List (Nat × zBs) := [tb_Jx4a65c_clear_da8c8 scr slen opc iv dc db du cal, tb_Jx4a65c_grow_d5877 scr slen opc iv dc db du cal, tb_Jx4a65c_grow_92f84 scr slen opc iv dc db du cal, tb_Jx4a65c_isEmpty_aae02 scr slen opc iv dc db du cal, tb_Jx4a65c_iterator_32c93 scr slen opc iv dc db du cal, tb_Jx4a65c_size_8abf5 scr slen opc iv dc db du cal, tb_Jx4a65c_toArray_d5877 scr slen opc iv dc db du cal, tb_Jx35411_init_45d68 scr slen opc iv dc db du cal, tb_Jx35411_hasNext_aae02 scr slen opc iv dc db du cal, tb_J7_copyOf_1904c scr slen opc iv dc db du cal, tb_J7_copyOf_6403c scr slen opc iv dc db du cal, tb_X17_init scr slen opc iv dc db du cal, tb_X18_init scr slen opc iv dc db du cal, tb_J3_checkIndex_8e157 scr slen opc iv dc db du cal]
noncomputable def zln {α : Type} (d : α) (l : List α) : Nat → α := List.rec (motive := fun _ => Nat → α) (fun _ => d) (fun q _ ih i => Nat.rec (motive := fun _ => α) q (fun i _ => ih i) i) l
noncomputable def ztab (scr slen opc : Nat) (iv : Nat → Nat × Nat) (dc db du : List (Nat × Nat)) (cal : zCal) : zTab := fun i => zln (0, []) (zln [] [tbr_0 scr slen opc iv dc db du cal, tbr_1 scr slen opc iv dc db du cal, tbr_2 scr slen opc iv dc db du cal, tbr_3 scr slen opc iv dc db du cal, tbr_4 scr slen opc iv dc db du cal, tbr_5 scr slen opc iv dc db du cal, tbr_6 scr slen opc iv dc db du cal, tbr_7 scr slen opc iv dc db du cal, tbr_8 scr slen opc iv dc db du cal, tbr_9 scr slen opc iv dc db du cal, tbr_10 scr slen opc iv dc db du cal, tbr_11 scr slen opc iv dc db du cal, tbr_12 scr slen opc iv dc db du cal, tbr_13 scr slen opc iv dc db du cal, tbr_14 scr slen opc iv dc db du cal, tbr_15 scr slen opc iv dc db du cal, tbr_16 scr slen opc iv dc db du cal, tbr_17 scr slen opc iv dc db du cal] (Nat.div i 18)) (Nat.mod i 18)
end
section
noncomputable def zcodes (a b c d : Nat) : Nat := Nat.add a (Nat.add (Nat.shiftLeft b 72) (Nat.add (Nat.shiftLeft c 144) (Nat.shiftLeft d 216)))
noncomputable def zok (r : zR) : Bool := Option.rec (motive := fun _ => Bool) false (fun o => cond (Nat.beq o.1 1) (Nat.beq o.2.1 8) false) r
noncomputable def ziv (l : List (Nat × Nat × Nat)) : Nat → Nat × Nat := fun j => List.rec (motive := fun _ => Nat × Nat) (0, 4294967295) (fun q _ ih => cond (Nat.beq q.1 j) q.2 ih) l
set_option maxRecDepth 100000 in
theorem zc_1_0 : zok (zE (ztab (zcodes 7 15 23 31) 4 1 (ziv [(1, 0, 2147483647), (3, 0, 2147483647)]) [] [] []) 1000000 30 0 [2] [] 0 0) = true := by decide +kernel
set_option maxRecDepth 100000 in
theorem zc_1_1 : zok (zE (ztab (zcodes 7 15 23 0) 4 1 (ziv [(1, 0, 2147483647)]) [] [] []) 1000000 30 0 [2] [] 0 0) = true := by decide +kernel
set_option maxRecDepth 100000 in
theorem zc_1_2 : zok (zE (ztab (zcodes 7 15 23 31) 4 1 (ziv [(1, 0, 2147483647), (3, 2147483649, 4294967295)]) [] [] []) 1000000 30 0 [2] [] 0 0) = true := by decide +kernel
set_option maxRecDepth 100000 in
theorem zc_1_3 : zok (zE (ztab (zcodes 7 15 23 31) 4 1 (ziv [(1, 2147483648, 2147483657), (3, 0, 2147483647)]) [] [] []) 1000000 30 0 [2] [] 0 0) = true := by decide +kernel
set_option maxRecDepth 100000 in
theorem zc_1_4 : zok (zE (ztab (zcodes 7 15 23 0) 4 1 (ziv [(1, 2147483648, 2147483657)]) [] [] []) 1000000 30 0 [2] [] 0 0) = true := by decide +kernel
set_option maxRecDepth 100000 in
theorem zc_1_5 : zok (zE (ztab (zcodes 7 15 23 31) 4 1 (ziv [(1, 2147483648, 2147483657), (3, 2147483649, 4294967295)]) [] [] []) 1000000 30 0 [2] [] 0 0) = true := by decide +kernel
set_option maxRecDepth 100000 in
theorem zc_1_6 : zok (zE (ztab (zcodes 7 15 23 31) 4 1 (ziv [(1, 2147483658, 4294967295), (3, 0, 2147483647)]) [] [] []) 1000000 30 0 [2] [] 0 0) = true := by decide +kernel
set_option maxRecDepth 100000 in
theorem zc_1_7 : zok (zE (ztab (zcodes 7 15 23 0) 4 1 (ziv [(1, 2147483658, 4294967295)]) [] [] []) 1000000 30 0 [2] [] 0 0) = true := by decide +kernel
set_option maxRecDepth 100000 in
theorem zc_1_8 : zok (zE (ztab (zcodes 7 15 23 31) 4 1 (ziv [(1, 2147483658, 4294967295), (3, 2147483649, 4294967295)]) [] [] []) 1000000 30 0 [2] [] 0 0) = true := by decide +kernel
set_option maxRecDepth 100000 in
theorem zc_2_9 : zok (zE (ztab (zcodes 7 15 23 31) 4 2 (ziv [(1, 0, 2147483647)]) [] [] []) 1000000 30 0 [2] [] 0 0) = true := by decide +kernel
set_option maxRecDepth 100000 in
theorem zc_2_10 : zok (zE (ztab (zcodes 7 15 23 31) 4 2 (ziv [(1, 2147483648, 2147483657)]) [] [] []) 1000000 30 0 [2] [] 0 0) = true := by decide +kernel
set_option maxRecDepth 100000 in
theorem zc_2_11 : zok (zE (ztab (zcodes 7 15 23 31) 4 2 (ziv [(1, 2147483658, 4294967295)]) [] [] []) 1000000 30 0 [2] [] 0 0) = true := by decide +kernel
set_option maxRecDepth 100000 in
theorem zc_3_12 : zok (zE (ztab (zcodes 7 15 23 31) 4 3 (ziv [(1, 0, 2147483647)]) [] [] []) 1000000 30 0 [2] [] 0 0) = true := by decide +kernel
set_option maxRecDepth 100000 in
theorem zc_3_13 : zok (zE (ztab (zcodes 7 15 23 31) 4 3 (ziv [(1, 2147483648, 2147483657)]) [] [] []) 1000000 30 0 [2] [] 0 0) = true := by decide +kernel
set_option maxRecDepth 100000 in
theorem zc_3_14 : zok (zE (ztab (zcodes 7 15 23 31) 4 3 (ziv [(1, 2147483658, 4294967295)]) [] [] []) 1000000 30 0 [2] [] 0 0) = true := by decide +kernel
set_option maxRecDepth 100000 in
theorem zc_4_15 : zok (zE (ztab (zcodes 7 15 23 31) 4 4 (ziv []) [] [] []) 1000000 30 0 [2] [] 0 0) = true := by decide +kernel
set_option maxRecDepth 100000 in
theorem zc_5_16 : zok (zE (ztab (zcodes 7 15 23 31) 4 5 (ziv []) [] [] []) 1000000 30 0 [2] [] 0 0) = true := by decide +kernel
set_option maxRecDepth 100000 in
theorem zc_6_17 : zok (zE (ztab (zcodes 7 15 23 31) 4 6 (ziv [(1, 0, 2147483647)]) [] [] []) 1000000 30 0 [2] [] 0 0) = true := by decide +kernel
set_option maxRecDepth 100000 in
theorem zc_6_18 : zok (zE (ztab (zcodes 7 15 23 31) 4 6 (ziv [(1, 2147483648, 2147483657)]) [] [] []) 1000000 30 0 [2] [] 0 0) = true := by decide +kernel
set_option maxRecDepth 100000 in
theorem zc_6_19 : zok (zE (ztab (zcodes 7 15 23 31) 4 6 (ziv [(1, 2147483658, 4294967295)]) [] [] []) 1000000 30 0 [2] [] 0 0) = true := by decide +kernel
set_option maxRecDepth 100000 in
theorem zc_7_20 : zok (zE (ztab (zcodes 7 15 23 31) 4 7 (ziv []) [] [] []) 1000000 30 0 [2] [] 0 0) = true := by decide +kernel
set_option maxRecDepth 100000 in
theorem zc_8_21 : zok (zE (ztab (zcodes 7 15 23 31) 4 8 (ziv [(1, 0, 2147483647)]) [] [] []) 1000000 30 0 [2] [] 0 0) = true := by decide +kernel
set_option maxRecDepth 100000 in
theorem zc_8_22 : zok (zE (ztab (zcodes 7 15 23 31) 4 8 (ziv [(1, 2147483648, 2147483657)]) [] [] []) 1000000 30 0 [2] [] 0 0) = true := by decide +kernel
set_option maxRecDepth 100000 in
theorem zc_8_23 : zok (zE (ztab (zcodes 7 15 23 31) 4 8 (ziv [(1, 2147483658, 4294967295)]) [] [] []) 1000000 30 0 [2] [] 0 0) = true := by decide +kernel
set_option maxRecDepth 100000 in
theorem zc_11_24 : zok (zE (ztab (zcodes 7 15 23 31) 4 11 (ziv [(1, 0, 2147483647)]) [] [] []) 1000000 30 0 [2] [] 0 0) = true := by decide +kernel
set_option maxRecDepth 100000 in
theorem zc_11_25 : zok (zE (ztab (zcodes 7 15 23 31) 4 11 (ziv [(1, 2147483648, 2147483657)]) [] [] []) 1000000 30 0 [2] [] 0 0) = true := by decide +kernel
set_option maxRecDepth 100000 in
theorem zc_11_26 : zok (zE (ztab (zcodes 7 15 23 31) 4 11 (ziv [(1, 2147483658, 4294967295)]) [] [] []) 1000000 30 0 [2] [] 0 0) = true := by decide +kernel
set_option maxRecDepth 100000 in
theorem zc_12_27 : zok (zE (ztab (zcodes 7 15 23 31) 4 12 (ziv []) [] [] []) 1000000 30 0 [2] [] 0 0) = true := by decide +kernel
set_option maxRecDepth 100000 in
theorem zc_17_28 : zok (zE (ztab (zcodes 7 15 23 31) 4 17 (ziv []) [] [] []) 1000000 30 0 [2] [] 0 0) = true := by decide +kernel
set_option maxRecDepth 100000 in
theorem zc_19_29 : zok (zE (ztab (zcodes 7 15 23 31) 4 19 (ziv []) [] [] []) 1000000 30 0 [2] [] 0 0) = true := by decide +kernel
set_option maxRecDepth 100000 in
theorem zc_20_30 : zok (zE (ztab (zcodes 7 15 23 31) 4 20 (ziv []) [] [] []) 1000000 30 0 [2] [] 0 0) = true := by decide +kernel
set_option maxRecDepth 100000 in
theorem zc_21_31 : zok (zE (ztab (zcodes 7 15 23 31) 4 21 (ziv [(1, 0, 2147483647)]) [] [] []) 1000000 30 0 [2] [] 0 0) = true := by decide +kernel
set_option maxRecDepth 100000 in
theorem zc_21_32 : zok (zE (ztab (zcodes 7 15 23 31) 4 21 (ziv [(1, 2147483648, 4294967295)]) [] [] []) 1000000 30 0 [2] [] 0 0) = true := by decide +kernel
set_option maxRecDepth 100000 in
theorem zc_22_33 : zok (zE (ztab (zcodes 7 15 23 31) 4 22 (ziv [(1, 0, 2147483647)]) [] [] []) 1000000 30 0 [2] [] 0 0) = true := by decide +kernel
set_option maxRecDepth 100000 in
theorem zc_22_34 : zok (zE (ztab (zcodes 7 15 23 31) 4 22 (ziv [(1, 2147483648, 4294967295)]) [] [] []) 1000000 30 0 [2] [] 0 0) = true := by decide +kernel
set_option maxRecDepth 100000 in
theorem zc_23_35 : zok (zE (ztab (zcodes 7 15 23 31) 4 23 (ziv []) [] [] []) 1000000 30 0 [2] [] 0 0) = true := by decide +kernel
set_option maxRecDepth 100000 in
theorem zc_24_36 : zok (zE (ztab (zcodes 7 15 23 31) 4 24 (ziv [(1, 0, 2147483647)]) [] [] []) 1000000 30 0 [2] [] 0 0) = true := by decide +kernel
set_option maxRecDepth 100000 in
theorem zc_24_37 : zok (zE (ztab (zcodes 7 15 23 31) 4 24 (ziv [(1, 2147483648, 2147483658)]) [] [] []) 1000000 30 0 [2] [] 0 0) = true := by decide +kernel
set_option maxRecDepth 100000 in
theorem zc_24_38 : zok (zE (ztab (zcodes 7 15 23 31) 4 24 (ziv [(1, 2147483659, 4294967295)]) [] [] []) 1000000 30 0 [2] [] 0 0) = true := by decide +kernel
set_option maxRecDepth 100000 in
theorem zc_25_39 : zok (zE (ztab (zcodes 7 15 23 31) 4 25 (ziv []) [] [] []) 1000000 30 0 [2] [] 0 0) = true := by decide +kernel
set_option maxRecDepth 100000 in
theorem zc_28_40 : zok (zE (ztab (zcodes 7 15 23 31) 4 28 (ziv []) [] [] []) 1000000 30 0 [2] [] 0 0) = true := by decide +kernel
set_option maxRecDepth 100000 in
theorem zc_29_41 : zok (zE (ztab (zcodes 7 15 23 31) 4 29 (ziv []) [] [] []) 1000000 30 0 [2] [] 0 0) = true := by decide +kernel
set_option maxRecDepth 100000 in
theorem zc_41_42 : zok (zE (ztab (zcodes 7 15 23 31) 4 41 (ziv []) [] [] []) 1000000 30 0 [2] [] 0 0) = true := by decide +kernel
set_option maxRecDepth 100000 in
theorem zc_42_43 : zok (zE (ztab (zcodes 7 15 23 31) 4 42 (ziv []) [] [] []) 1000000 30 0 [2] [] 0 0) = true := by decide +kernel
set_option maxRecDepth 100000 in
theorem zc_53_44 : zok (zE (ztab (zcodes 7 15 23 31) 4 53 (ziv []) [] [] []) 1000000 30 0 [2] [] 0 0) = true := by decide +kernel
set_option maxRecDepth 100000 in
theorem zc_55_45 : zok (zE (ztab (zcodes 7 15 23 31) 4 55 (ziv []) [] [] []) 1000000 30 0 [2] [] 0 0) = true := by decide +kernel
set_option maxRecDepth 100000 in
theorem zc_56_46 : zok (zE (ztab (zcodes 7 15 23 31) 4 56 (ziv []) [] [] []) 1000000 30 0 [2] [] 0 0) = true := by decide +kernel
set_option maxRecDepth 100000 in
theorem zc_57_47 : zok (zE (ztab (zcodes 7 15 23 31) 4 57 (ziv []) [] [] []) 1000000 30 0 [2] [] 0 0) = true := by decide +kernel
set_option maxRecDepth 100000 in
theorem zc_58_48 : zok (zE (ztab (zcodes 7 15 23 31) 4 58 (ziv []) [] [] []) 1000000 30 0 [2] [] 0 0) = true := by decide +kernel
end
section
set_option maxRecDepth 100000 in
theorem zc_46_0 : zok (zE (ztab (zcodes 7 15 23 31) 4 46 (ziv [(1, 0, 2147483647)]) [] [] []) 1000000 30 0 [2] [] 0 0) = true := by decide +kernel
set_option maxRecDepth 100000 in
theorem zc_46_1 : zok (zE (ztab (zcodes 7 15 23 31) 4 46 (ziv [(1, 2147483648, 2147483658)]) [] [] []) 1000000 30 0 [2] [] 0 0) = true := by decide +kernel
set_option maxRecDepth 100000 in
theorem zc_46_2 : zok (zE (ztab (zcodes 7 15 23 31) 4 46 (ziv [(1, 2147483659, 4294967295)]) [] [] []) 1000000 30 0 [2] [] 0 0) = true := by decide +kernel
set_option maxRecDepth 100000 in
theorem zc_47_3 : zok (zE (ztab (zcodes 7 15 23 31) 4 47 (ziv [(1, 0, 2147483647)]) [] [] []) 1000000 30 0 [2] [] 0 0) = true := by decide +kernel
set_option maxRecDepth 100000 in
theorem zc_47_4 : zok (zE (ztab (zcodes 7 0 23 31) 4 47 (ziv []) [] [] []) 1000000 30 0 [2] [] 0 0) = true := by decide +kernel
set_option maxRecDepth 100000 in
theorem zc_47_5 : zok (zE (ztab (zcodes 7 15 23 31) 4 47 (ziv [(1, 2147483649, 4294967295)]) [] [] []) 1000000 30 0 [2] [] 0 0) = true := by decide +kernel
set_option maxRecDepth 100000 in
theorem zc_50_6 : zok (zE (ztab (zcodes 7 15 23 31) 4 50 (ziv []) [] [] []) 1000000 30 0 [2] [] 0 0) = true := by decide +kernel
set_option maxRecDepth 100000 in
theorem zc_51_7 : zok (zE (ztab (zcodes 7 15 23 31) 4 51 (ziv [(1, 0, 2147483647)]) [] [] []) 1000000 30 0 [2] [] 0 0) = true := by decide +kernel
set_option maxRecDepth 100000 in
theorem zc_51_8 : zok (zE (ztab (zcodes 7 15 23 31) 4 51 (ziv [(1, 2147483648, 2147483657)]) [] [] []) 1000000 30 0 [2] [] 0 0) = true := by decide +kernel
set_option maxRecDepth 100000 in
theorem zc_51_9 : zok (zE (ztab (zcodes 7 15 23 31) 4 51 (ziv [(1, 2147483658, 4294967295)]) [] [] []) 1000000 30 0 [2] [] 0 0) = true := by decide +kernel
set_option maxRecDepth 100000 in
theorem zc_59_10 : zok (zE (ztab (zcodes 7 15 23 31) 4 59 (ziv []) [] [] []) 1000000 30 0 [2] [] 0 0) = true := by decide +kernel
set_option maxRecDepth 100000 in
theorem zc_60_11 : zok (zE (ztab (zcodes 7 15 23 31) 4 60 (ziv []) [] [] []) 1000000 30 0 [2] [] 0 0) = true := by decide +kernel
set_option maxRecDepth 100000 in
theorem zc_61_12 : zok (zE (ztab (zcodes 7 15 23 31) 4 61 (ziv []) [] [] []) 1000000 30 0 [2] [] 0 0) = true := by decide +kernel
set_option maxRecDepth 100000 in
theorem zc_62_13 : zok (zE (ztab (zcodes 7 15 23 31) 4 62 (ziv []) [] [] []) 1000000 30 0 [2] [] 0 0) = true := by decide +kernel
set_option maxRecDepth 100000 in
theorem zc_63_14 : zok (zE (ztab (zcodes 7 15 23 31) 4 63 (ziv []) [] [] []) 1000000 30 0 [2] [] 0 0) = true := by decide +kernel
end
