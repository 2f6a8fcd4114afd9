section
/-! ===== BEGIN words of one list among another's, by their places ===== -/
theorem goodIn_r {big : List Cond} (ws : List Cond) (ps : List Nat) (hp : ws = ps.filterMap (fun i => big[i]?)) (h : ws.all goodWord = true) : GoodIn big ws := by
  intro w hw
  have h1 := List.all_eq_true.mp h w hw
  rw [hp] at hw
  obtain ⟨i, -, hi⟩ := List.mem_filterMap.mp hw
  have hm : w ∈ big := by first | exact List.mem_of_getElem? hi | exact List.getElem?_mem hi
  exact ⟨hm, good_of_word h1⟩
theorem goodIn_app {big a b : List Cond} (ha : GoodIn big a) (hb : GoodIn big b) : GoodIn big (a ++ b) := fun w h => (List.mem_append.mp h).elim (ha w) (hb w)
theorem goodIn_ca {big a b : List Cond} {c : Cond} (ha : GoodIn big (c :: a)) (hb : GoodIn big b) : GoodIn big (c :: (a ++ b)) := fun w h => (List.mem_cons.mp h).elim (fun e => ha w (List.mem_cons.mpr (Or.inl e))) (fun h => (List.mem_append.mp h).elim (fun h => ha w (List.mem_cons.mpr (Or.inr h))) (hb w))
theorem goodIn_sub {big ws : List Cond} (hm : ∀ w ∈ ws, w ∈ big) (h : ws.all goodWord = true) : GoodIn big ws := fun w hw => ⟨hm w hw, good_of_word (List.all_eq_true.mp h w hw)⟩
/-! ===== END ===== -/

/-! ===== BEGIN exceptions that leave a method, and their catching by the caller (launches without stack traces) ===== -/
section VXA
/-! The laws vx_back, vx_callV, vx_callS, vx_callSW, vx_throw0, vx_throwS follow proofs of the library, with one case more: JvmDerived/Free/Laws.lean (Back.of_free), Shelf42/LK1.lean (callV, callS), Shelf/KitTraced.lean (throwNew0V, throwNewS). -/
/-- where a method has thrown q: the class by its name, the cell, what was written, the world -/
def vx_T (XC : String → State → State → Prop) (st : State) (q : Addr) (t : State) (mc ms : Nat) (free : Addr → Prop) : Prop :=
  ∃ (E : String) (ce : Cell) (L : List Loc), XC E st t ∧ t.heap[q]? = some ce ∧ ce.vm = .none ∧ st.vm.findClass E = some ce.cls ∧ st.WarmedH t.vm ∧ st.sameButNew ({ t with vm := st.vm } : State) L mc ms ∧ ∀ z ∈ L, free z.base
def vx_Q (Qc : Array Value → State → Outcome → State → Prop) (XC : String → State → State → Prop) (mc ms : Nat) (free : Addr → Prop) : Array Value → State → Outcome → State → Prop := fun a st o t =>
  (Qc a st o t ∧ ∃ L, FrameEnd st o t L mc ms ∧ ∀ q ∈ L, free q.base) ∨ ∃ q, o = .threw q ∧ vx_T XC st q t mc ms free
/-- a callee that returns or throws -/
def vx_Met (l : Launch) (y : MethodName) (ws : List Cond) (rm : Room) (Pc : Array Value → State → Prop) (Qc : Array Value → State → Outcome → State → Prop) (XC : String → State → State → Prop) (mc ms : Nat) (free : Addr → Prop) : Prop :=
  MetFree l y (headSpec ws rm) Pc (fun _ _ _ _ _ => True) (vx_Q Qc XC mc ms free)
def vx_Post (XC : String → State → State → Prop) (mc ms : Nat) (free : Addr → Prop) : Pt → Array Value → Addr → Pt → Prop := fun A a q B =>
  ∃ (g : JFrame) (mk : MethodId) (t : State) (L : List Loc) (E : String) (ce : Cell), B.U.heap = t.heap ∧ B.U.vm = t.vm ∧ XC E (A.U.calling g mk a) t ∧ t.heap[q]? = some ce ∧ ce.vm = .none ∧ A.U.vm.findClass E = some ce.cls ∧ B.locs = A.locs ++ L ∧ (∀ z ∈ L, free z.base) ∧ B.cells = A.cells + mc ∧ B.slots = A.slots + ms
def vx_Back (l : Launch) (R : Room) (p : Program) (e : Env) (below : List Frame) (s : State) (sargs : Array Value) (y : MethodName) (len W9 : Nat)
    (Pre : Pt → Array Value → Prop) (Post : Pt → Array Value → Option Value → Pt → Prop) (PostX : Pt → Array Value → Addr → Pt → Prop) : Prop :=
  ∀ (m : MethodId) (meth : Method) (c : Code) (A : Pt) (g : JFrame) (ig : Instr) (mk : MethodId) (a : Array Value),
    Stand p l e R s m sargs below meth c A.U A.locs A.cells A.slots → g.method = m → g.locals.size = c.maxLocals → decode c.code g.pc = .ok (ig, len) →
    2 * g.monitorRoom + (g.stack.map fun v => v.category).sum ≤ W9 → A.U.methodNamed? y = some mk → Pre A a →
    (∃ (v : Option Value) (B : Pt), Stand p l e R s m sargs below meth c B.U B.locs B.cells B.slots ∧ Post A a v B ∧
      Steps p.tables e below (doInvoke e (A.U.setTop g) [] mk a).1 (B.U.setTop { g with pc := g.pc + len, stack := v.toList ++ g.stack })) ∨
    (∃ (q : Addr) (B : Pt), Stand p l e R s m sargs below meth c B.U B.locs B.cells B.slots ∧ PostX A a q B ∧
      Steps p.tables e below (doInvoke e (A.U.setTop g) [] mk a).1 ((B.U.setTop g).pushFrame (.throwing q)))
section Payer
variable {l : Launch} {R : Room} {p : Program} {e : Env} {below : List Frame} {s : State} {sargs : Array Value} {y : MethodName} {len W9 : Nat}
theorem vx_back {ws : List Cond} {rm : Room} {Pc : Array Value → State → Prop} {Qc : Array Value → State → Outcome → State → Prop} {XC : String → State → State → Prop} {mc ms : Nat} {free : Addr → Prop} {bytes : ByteArray} {maxL : Nat} {ret : Option FieldType}
    (hM : vx_Met l y ws rm Pc Qc XC mc ms free) (hblind : FrameBlind Pc) (hrc : rm.cells = mc) (hrs : rm.slots = ms)
    (hframes : rm.frames + 1 ≤ R.frames) (hlocals : W9 + (maxL + 11) + rm.locals ≤ R.locals)
    (hws : ∀ w ∈ ws, ∀ a' U, s.WarmedH U.vm → w.before a' U = true) (hcode : Cond.code y bytes maxL ret ∈ ws) (hinit : ∀ a' U, s.WarmedH U.vm → (Cond.initialized y.cls).before a' U = true) :
    vx_Back l R p e below s sargs y len W9 (PreOf R mc ms Pc) (PostOf Qc mc ms free) (vx_Post XC mc ms free) := by
  intro m meth c A g ig mk a X hg hsize hdg hW hn hp
  have h1 : (headSpec ws rm).pre.before a A.U = true := atoms_intro fun w hw => hws w hw _ _ X.warmed
  have h2 : (Cond.code y bytes maxL ret).before a A.U = true := hws _ hcode _ _ X.warmed
  have h3 : (Cond.initialized y.cls).before a A.U = true := hinit _ _ X.warmed
  have h4 : A.cells + (headSpec ws rm).room.cells ≤ R.cells := by rw [show (headSpec ws rm).room.cells = mc from hrc]; exact hp.1
  have h5 : A.slots + (headSpec ws rm).room.slots ≤ R.slots := by rw [show (headSpec ws rm).room.slots = ms from hrs]; exact hp.2.1
  have hPc : Pc a (A.U.calling g mk a) := hblind _ _ _ _ hp.2.2
  obtain ⟨U, Ls, c0, s0⟩ := A
  dsimp only [Pt.U, Pt.locs, Pt.cells, Pt.slots] at h1 h2 h3 h4 h5 X hn hPc ⊢
  obtain ⟨methY, cY, hmY, hcY, -, hlY, -, -, -, -⟩ := Cond.code_spec hn h2
  obtain ⟨kY, hkY, -⟩ := className_of_methodNamed hn
  have hinitY : kY.init = .initialized := Cond.initialized_spec (findClass_of_methodNamed hn) hkY h3
  have h : At U g.method c below := by rw [hg]; exact X.here
  have hlocals9 : W9 + (maxL + 11) + (headSpec ws rm).room.locals ≤ R.locals := hlocals
  have happ : (headSpec ws rm).appliesLoose y e.platform (U.calling g mk a) = true :=
    Spec.appliesLoose_calling (g := g) h hdg hn hkY hinitY
      (X.room_calling (g := g) (R' := (headSpec ws rm).room) hsize hmY hcY hframes (by rw [hlY]; omega) h4 h5) h1
  obtain ⟨mid, hmid⟩ := h.above
  have hfr : (U.setTop g).frames = (.java g :: mid) ++ below := by rw [State.frames_setTop' g h.top, hmid]; rfl
  obtain ⟨o, s₂, hsteps, -, hend, hq⟩ := Steps.callFree hM p X.admits X.cas X.clock (acts := []) hfr happ hPc trivial
  have hq' : vx_Q Qc XC mc ms free a (U.calling g mk a) o s₂ := hq
  rw [State.frames_setTop' g h.top] at hend
  obtain ⟨g₀, hg0⟩ := Option.isSome_iff_exists.mp h.top
  obtain ⟨r, hr⟩ := State.topJava?_eq_some.mp hg0
  have hr' : (({ U with heap := s₂.heap, slotsUsed := s₂.slotsUsed } : State).setVm s₂.vm).frames = .java g₀ :: r := hr
  rcases hq' with ⟨hqc, L, hfe, hL⟩ | ⟨q, rfl, E, ce, L, hx, hce, hcv, hcl, hW₂, hsm, hL⟩
  · obtain ⟨⟨v, rfl⟩, hW₂, e2, q2, q3, q4, q5, q6⟩ := id hfe
    have e3 : s₂ = ({ (U.calling g mk a).setFrames s₂.frames with heap := s₂.heap, slotsUsed := s₂.slotsUsed } : State).setVm s₂.vm := by
      have : s₂ = ({ s₂ with vm := (U.calling g mk a).vm } : State).setVm s₂.vm := rfl
      rw [e2] at this
      exact this
    obtain ⟨c₂, i₂, len₂, hc₂, hd₂, hf₂⟩ := hend
    have hW' : U.WarmedH s₂.vm := hW₂
    have hcc : c₂ = c := by
      have h1 : s₂.code? g.method = U.code? g.method := by
        rw [State.code?_eq, State.code?_eq, hW'.alike.method?]
      exact Option.some.inj (hc₂.symm.trans (h1.trans h.code))
    subst hcc
    have hlen : len₂ = len := by rw [hdg] at hd₂; cases hd₂; rfl
    subst hlen
    have hs₂ : s₂ = (({ U with heap := s₂.heap, slotsUsed := s₂.slotsUsed } : State).setVm s₂.vm).setTop { g with pc := g.pc + len₂, stack := v.toList ++ g.stack } := by
      refine e3.trans ?_
      rw [hf₂, State.calling_eq h.top, State.setFrames_setFrames, State.setTop_of_frames _ hr', hr]
      rfl
    have hsame : U.sameButNew ({ U with heap := s₂.heap, slotsUsed := s₂.slotsUsed } : State) L mc ms := by
      refine ⟨?_, q2, q3, q4, q5, q6⟩
      obtain ⟨t, ht, -⟩ := State.frames_cons hr
      show ({ U with heap := s₂.heap, slotsUsed := s₂.slotsUsed } : State) = { U.setFrames U.frames with heap := s₂.heap, slotsUsed := s₂.slotsUsed }
      rw [State.setFrames_self ht]
    subst hg
    refine Or.inl ⟨v, ⟨(({ U with heap := s₂.heap, slotsUsed := s₂.slotsUsed } : State).setVm s₂.vm), Ls ++ L, c0 + mc, s0 + ms⟩,
      ⟨X.admits, X.cas, X.clock, X.frames, X.room, X.hears, X.method, X.code, (X.here.setHeapUsed s₂.heap s₂.slotsUsed).setVm hW'.alike, X.tail, State.WarmedH.trans X.warmed hW', X.limits, X.bytes, X.same.trans (hsame.setVm s.vm)⟩,
      ⟨g, mk, s₂, L, rfl, rfl, hqc, rfl, hL, rfl, rfl⟩, ?_⟩
    show Steps p.tables e below _ ((({ U with heap := s₂.heap, slotsUsed := s₂.slotsUsed } : State).setVm s₂.vm).setTop { g with pc := g.pc + len₂, stack := v.toList ++ g.stack })
    rw [← hs₂]
    exact hsteps
  · obtain ⟨e2, q2, q3, q4, q5, q6⟩ := id hsm
    have e3 : s₂ = ({ (U.calling g mk a).setFrames s₂.frames with heap := s₂.heap, slotsUsed := s₂.slotsUsed } : State).setVm s₂.vm := by
      have : s₂ = ({ s₂ with vm := (U.calling g mk a).vm } : State).setVm s₂.vm := rfl
      rw [e2] at this
      exact this
    have hf₂ : s₂.frames = .throwing q :: .java g :: U.frames.tail := hend
    have hW' : U.WarmedH s₂.vm := hW₂
    have hs₂ : s₂ = ((({ U with heap := s₂.heap, slotsUsed := s₂.slotsUsed } : State).setVm s₂.vm).setTop g).pushFrame (.throwing q) := by
      refine e3.trans ?_
      rw [hf₂, State.calling_eq h.top, State.setFrames_setFrames, State.pushFrame, State.frames_setTop _ hr', State.setTop_of_frames _ hr', State.setFrames_setFrames, hr]
      rfl
    have hsame : U.sameButNew ({ U with heap := s₂.heap, slotsUsed := s₂.slotsUsed } : State) L mc ms := by
      refine ⟨?_, q2, q3, q4, q5, q6⟩
      obtain ⟨t, ht, -⟩ := State.frames_cons hr
      show ({ U with heap := s₂.heap, slotsUsed := s₂.slotsUsed } : State) = { U.setFrames U.frames with heap := s₂.heap, slotsUsed := s₂.slotsUsed }
      rw [State.setFrames_self ht]
    subst hg
    refine Or.inr ⟨q, ⟨(({ U with heap := s₂.heap, slotsUsed := s₂.slotsUsed } : State).setVm s₂.vm), Ls ++ L, c0 + mc, s0 + ms⟩,
      ⟨X.admits, X.cas, X.clock, X.frames, X.room, X.hears, X.method, X.code, (X.here.setHeapUsed s₂.heap s₂.slotsUsed).setVm hW'.alike, X.tail, State.WarmedH.trans X.warmed hW', X.limits, X.bytes, X.same.trans (hsame.setVm s.vm)⟩,
      ⟨g, mk, s₂, L, E, ce, rfl, rfl, hx, hce, hcv, hcl, rfl, hL, rfl, rfl⟩, ?_⟩
    show Steps p.tables e below _ (((({ U with heap := s₂.heap, slotsUsed := s₂.slotsUsed } : State).setVm s₂.vm).setTop g).pushFrame (.throwing q))
    rw [← hs₂]
    exact hsteps
end Payer
section Calls
variable {p : Program} {l : Launch} {e : Env} {R : Room} {s : State} {m : MethodId} {args : Array Value} {below : List Frame} {meth : Method} {c : Code} {T : State} {locs : List Loc} {cells slots : Nat}
theorem vx_callV (X : Stand p l e R s m args below meth c T locs cells slots) (hexec : p.tables.exec = Jvm.exec) {own C : String} {index : Nat} {y : MethodName} {bytes : ByteArray} {maxL : Nat} {ret : Option FieldType}
    (hown : s.vm.findClass own = some m.cls) (hlink : (Cond.methodLink own index y).before args s = true) (hinst : (Cond.instanceMethod y).before args s = true) (hsel : (Cond.selects C y y).before args s = true)
    (hcode : (Cond.code y bytes maxL ret).before args s = true) (hy : y.cls ≠ "java/lang/invoke/MethodHandle" ∧ y.cls ≠ "java/lang/invoke/VarHandle")
    {W9 : Nat} {Pre : Pt → Array Value → Prop} {Post : Pt → Array Value → Option Value → Pt → Prop} {PostX : Pt → Array Value → Addr → Pt → Prop} (hK : vx_Back l R p e below s args y 3 W9 Pre Post PostX)
    {b : Addr} {cellB : Cell} (hcell : T.heap[b]? = some cellB) (hobj : cellB.vm.isStatics = false) (hcls : s.vm.findClass C = some cellB.cls)
    {g : JFrame} (hg : g.method = m) (hsize : g.locals.size = c.maxLocals) {argsL rest : List Value} (hlen : ∀ sig, parseMethodDescriptor y.desc = some sig → argsL.length = sig.parameters.length)
    (hstack : g.stack = argsL.reverse ++ .ref b :: rest) (hW : 2 * g.monitorRoom + (rest.map fun v => v.category).sum ≤ W9) (hdg : decode c.code g.pc = .ok (.invokevirtual index, 3))
    (hpre : ∀ vm₁, s.WarmedH vm₁ → Pre ⟨T.setVm vm₁, locs, cells, slots⟩ (Value.ref b :: argsL).toArray) :
    (∃ (v : Option Value) (vm₁ : Vm) (B : Pt), s.WarmedH vm₁ ∧ Stand p l e R s m args below meth c B.U B.locs B.cells B.slots ∧ Post ⟨T.setVm vm₁, locs, cells, slots⟩ (Value.ref b :: argsL).toArray v B ∧
      ∀ target, Steps p.tables e below (B.U.setTop { g with pc := g.pc + 3, stack := v.toList ++ rest }) target → Steps p.tables e below (T.setTop g) target) ∨
    (∃ (q : Addr) (vm₁ : Vm) (B : Pt), s.WarmedH vm₁ ∧ Stand p l e R s m args below meth c B.U B.locs B.cells B.slots ∧ PostX ⟨T.setVm vm₁, locs, cells, slots⟩ (Value.ref b :: argsL).toArray q B ∧
      Steps p.tables e below (T.setTop g) ((B.U.setTop { g with stack := rest }).pushFrame (.throwing q))) := by
  obtain ⟨mk, methM, hnamed, hmethM, hstM, habM⟩ := Cond.instanceMethod_spec hinst
  obtain ⟨methM', cM, hmethM', -, -, -, -, -, -, hsigM⟩ := Cond.code_spec hnamed hcode
  cases hmethM.symm.trans hmethM'
  obtain ⟨c2, r2, m2, q1, q2, q3, q4, kP, hkP, hkPi⟩ := Cond.selects_spec hsel
  cases hcls.symm.trans q1
  cases (State.methodFound?_of_named hnamed hy).symm.trans q2
  cases hnamed.symm.trans q3
  have hselP : selectMethod e.platform s.vm cellB.cls mk = .method mk := by rw [Launch.admits_selectMethod X.admits]; exact q4
  obtain ⟨vm₁, X₁, hstep₁⟩ := X.invokevirtual hexec hown hlink hnamed hmethM hstM hkP hkPi hy (a := b) (cell := cellB) hcell
    (fun z h => by rw [h] at hobj; cases hobj) hselP hmethM habM hkP hkPi (g := g) hg (argsL := argsL) (rest := rest) (hlen _ hsigM) hstack hdg
  rcases hK m meth c ⟨T.setVm vm₁, locs, cells, slots⟩ { g with stack := rest } (.invokevirtual index) mk (Value.ref b :: argsL).toArray X₁ hg hsize hdg hW (X₁.named hnamed) (hpre vm₁ X₁.warmed) with ⟨v, B, X', hpost, hsteps⟩ | ⟨q, B, X', hpost, hsteps⟩
  · exact Or.inl ⟨v, vm₁, B, X₁.warmed, X', hpost, fun target h => hstep₁ _ fun acts => by rw [doInvoke_state]; exact hsteps.trans h⟩
  · exact Or.inr ⟨q, vm₁, B, X₁.warmed, X', hpost, hstep₁ _ fun acts => by rw [doInvoke_state]; exact hsteps⟩
theorem vx_callS (X : Stand p l e R s m args below meth c T locs cells slots) (hexec : p.tables.exec = Jvm.exec) {own : String} {index : Nat} {y : MethodName} {bytes : ByteArray} {maxL : Nat} {ret : Option FieldType}
    (hown : s.vm.findClass own = some m.cls) (hlink : (Cond.methodLink own index y).before args s = true) (hstat : (Cond.static y).before args s = true) (hinit : (Cond.initialized y.cls).before args s = true)
    (hcode : (Cond.code y bytes maxL ret).before args s = true) (hy : y.cls ≠ "java/lang/invoke/MethodHandle" ∧ y.cls ≠ "java/lang/invoke/VarHandle")
    {W9 : Nat} {Pre : Pt → Array Value → Prop} {Post : Pt → Array Value → Option Value → Pt → Prop} {PostX : Pt → Array Value → Addr → Pt → Prop} (hK : vx_Back l R p e below s args y 3 W9 Pre Post PostX)
    {g : JFrame} (hg : g.method = m) (hsize : g.locals.size = c.maxLocals) {argsL rest : List Value} (hlen : ∀ sig, parseMethodDescriptor y.desc = some sig → argsL.length = sig.parameters.length)
    (hstack : g.stack = argsL.reverse ++ rest) (hW : 2 * g.monitorRoom + (rest.map fun v => v.category).sum ≤ W9) (hdg : decode c.code g.pc = .ok (.invokestatic index, 3))
    (hpre : ∀ vm₁, s.WarmedH vm₁ → Pre ⟨T.setVm vm₁, locs, cells, slots⟩ argsL.toArray) :
    (∃ (v : Option Value) (vm₁ : Vm) (B : Pt), s.WarmedH vm₁ ∧ Stand p l e R s m args below meth c B.U B.locs B.cells B.slots ∧ Post ⟨T.setVm vm₁, locs, cells, slots⟩ argsL.toArray v B ∧
      ∀ target, Steps p.tables e below (B.U.setTop { g with pc := g.pc + 3, stack := v.toList ++ rest }) target → Steps p.tables e below (T.setTop g) target) ∨
    (∃ (q : Addr) (vm₁ : Vm) (B : Pt), s.WarmedH vm₁ ∧ Stand p l e R s m args below meth c B.U B.locs B.cells B.slots ∧ PostX ⟨T.setVm vm₁, locs, cells, slots⟩ argsL.toArray q B ∧
      Steps p.tables e below (T.setTop g) ((B.U.setTop { g with stack := rest }).pushFrame (.throwing q))) := by
  obtain ⟨mk, hnamed⟩ := Cond.code_named hcode
  obtain ⟨methM, cM, hmethM, -, -, -, -, -, -, hsigM⟩ := Cond.code_spec hnamed hcode
  have hstatic : methM.isStatic = true := Cond.static_spec hnamed hmethM hstat
  obtain ⟨kP, hkP, -⟩ := className_of_methodNamed hnamed
  have hinitP : kP.init = .initialized := Cond.initialized_spec (findClass_of_methodNamed hnamed) hkP hinit
  obtain ⟨vm₁, X₁, hstep₁⟩ := X.invokestatic hexec hown hlink hnamed hmethM hstatic hkP hinitP hy (g := g) hg (argsL := argsL) (rest := rest) (hlen _ hsigM) hstack hdg
  rcases hK m meth c ⟨T.setVm vm₁, locs, cells, slots⟩ { g with stack := rest } (.invokestatic index) mk argsL.toArray X₁ hg hsize hdg hW (X₁.named hnamed) (hpre vm₁ X₁.warmed) with ⟨v, B, X', hpost, hsteps⟩ | ⟨q, B, X', hpost, hsteps⟩
  · exact Or.inl ⟨v, vm₁, B, X₁.warmed, X', hpost, fun target h => hstep₁ _ fun acts => by rw [doInvoke_state]; exact hsteps.trans h⟩
  · exact Or.inr ⟨q, vm₁, B, X₁.warmed, X', hpost, hstep₁ _ fun acts => by rw [doInvoke_state]; exact hsteps⟩
end Calls
theorem vx_cls {s : State} {T : State} {vm₁ : Vm} {E : String} {k : ClassId} (hW : s.WarmedH vm₁) (h : (T.setVm vm₁).vm.findClass E = some k) : s.vm.findClass E = some k := by
  have h1 : vm₁.findClass E = some k := h
  rw [hW.alike.findClass] at h1
  exact h1
/-- the method's frame g, with q thrown over it -/
def vx_W (p : Program) (l : Launch) (e : Env) (R : Room) (s : State) (m : MethodId) (args : Array Value) (below : List Frame) (meth : Method) (c : Code) (H : Heap) (locs : List Loc) (cells slots : Nat) (Q : State → Prop) (g : JFrame) (q : Addr) : Prop :=
  ∀ T : State, T.heap = H → Stand p l e R s m args below meth c T locs cells slots → ∃ t, Steps p.tables e below ((T.setTop g).pushFrame (.throwing q)) t ∧ Q t
def vx_Run (p : Program) (l : Launch) (e : Env) (R : Room) (s : State) (m : MethodId) (args : Array Value) (below : List Frame) (meth : Method) (c : Code) (H : Heap) (locs : List Loc) (cells slots mc ms : Nat) (g : JFrame) (rest : List Value) (Qa : State → Outcome → State → Prop) (XC : String → State → State → Prop) (free : Addr → Prop) : Prop :=
  ∀ T : State, T.heap = H → Stand p l e R s m args below meth c T locs cells slots →
    (∃ (v : Option Value) (st₀ t T' : State) (L : List Loc), st₀.heap = H ∧ Stand p l e R s m args below meth c T' (locs ++ L) (cells + mc) (slots + ms) ∧ (∀ q ∈ L, free q.base) ∧ T'.heap = t.heap ∧ T'.vm = t.vm ∧ Qa st₀ (.returned v) t ∧
      Goes p e below T g T' { g with pc := g.pc + 3, stack := v.toList ++ rest }) ∨
    (∃ (q : Addr) (st₀ t T' : State) (L : List Loc) (E : String) (ce : Cell), st₀.heap = H ∧ Stand p l e R s m args below meth c T' (locs ++ L) (cells + mc) (slots + ms) ∧ (∀ z ∈ L, free z.base) ∧ T'.heap = t.heap ∧ T'.vm = t.vm ∧ XC E st₀ t ∧ t.heap[q]? = some ce ∧ ce.vm = .none ∧ s.vm.findClass E = some ce.cls ∧
      Steps p.tables e below (T.setTop g) ((T'.setTop { g with stack := rest }).pushFrame (.throwing q)))
def vx_X {S : Type} (px : S → Prop) (B : String → S → State → Prop) (A : Nat → Prop) : String → State → State → Prop := fun E st t => ∃ u : S, px u ∧ B E u t ∧ va_F A st t
section Runs
variable {p : Program} {l : Launch} {e : Env} {R : Room} {s : State} {m : MethodId} {args : Array Value} {below : List Frame} {meth : Method} {c : Code} {H : Heap} {locs : List Loc} {cells slots : Nat}
variable {y : MethodName} {bytes cc : ByteArray} {maxL nL mc ms n index : Nat} {ret : Option FieldType} {ws : List Cond} {rm : Room} {Pc : Array Value → State → Prop} {Qc : Array Value → State → Outcome → State → Prop} {XC : String → State → State → Prop} {free : Addr → Prop} {Ts : List Cond} {own C : String} {b : Addr} {As rest : List Value} {g : JFrame}
theorem vx_callBack (cb : CallB R s args own index y bytes maxL ret ws rm mc ms n) (hM : vx_Met l y ws rm Pc Qc XC mc ms free) (hbl : FrameBlind Pc) : vx_Back l R p e below s args y 3 8 (PreOf R mc ms Pc) (PostOf Qc mc ms free) (vx_Post XC mc ms free) := by
  obtain ⟨hrc, hrs, hfr, hlo, hws, hcw, -, hini, -⟩ := cb
  exact vx_back (bytes := bytes) (maxL := maxL) (ret := ret) hM hbl hrc hrs hfr hlo hws hcw (fun a' U hW => word_at hW (Or.inl (by first | rfl | simp [Cond.onTables, Cond.keeps, Cond.steady])) hini)
theorem vx_runV (S : CallFix p m c cc nL s args Ts own) (hM : vx_Met l y ws rm Pc Qc XC mc ms free) (cw : CallW R s args own C index y bytes maxL ret ws rm mc ms n) (hp : PreV s H C b Pc As)
    (hg : g.method = m) (hn : As.length = n) (hsize : g.locals.size = nL) (hstack : g.stack = As.reverse ++ .ref b :: rest) (hW : 2 * g.monitorRoom + (rest.map fun v => v.category).sum ≤ 8) (hdg : decode cc g.pc = .ok (.invokevirtual index, 3)) (hf : cells + mc ≤ R.cells ∧ slots + ms ≤ R.slots) :
    vx_Run p l e R s m args below meth c H locs cells slots mc ms g rest (Qc (Value.ref b :: As).toArray) XC free := by
  have hK : vx_Back l R p e below s args y 3 8 (PreOf R mc ms Pc) (PostOf Qc mc ms free) (vx_Post XC mc ms free) := vx_callBack cw.1 hM hp.1
  obtain ⟨⟨-, -, -, -, -, -, hcode, -, hy, hlen, hl⟩, hin, hse⟩ := cw
  obtain ⟨hx, hb, hml, ho, -⟩ := S
  obtain ⟨-, ⟨cellB, hcB, hoB, hclB⟩, hPc⟩ := hp
  intro T hT X
  rcases vx_callV X hx (C := C) (bytes := bytes) (maxL := maxL) (ret := ret) ho hl hin hse hcode hy hK (by rw [hT]; exact hcB) hoB hclB hg (hsize.trans hml.symm) (argsL := As) (rest := rest) (fun sig h => hn.trans (hlen sig h)) hstack hW (by rw [hb]; exact hdg)
    (fun vm₁ hW₁ => ⟨hf.1, hf.2, hPc (T.setVm vm₁) hT hW₁⟩) with ⟨v, vm₁, ⟨U', l2, c2, s2⟩, hW₁, X', ⟨g', mk, t, L, e1, e2, hq, h1, hL, h2, h3⟩, st⟩ | ⟨q, vm₁, ⟨U', l2, c2, s2⟩, hW₁, X', ⟨g', mk, t, L, E, ce, e1, e2, hq, hce, hcv, hcl, h1, hL, h2, h3⟩, st⟩
  · dsimp only [Pt.U, Pt.locs, Pt.cells, Pt.slots] at X' e1 e2 h1 h2 h3 st
    subst h1; subst h2; subst h3
    exact Or.inl ⟨v, (T.setVm vm₁).calling g' mk (Value.ref b :: As).toArray, t, U', L, hT, X', hL, e1, e2, hq, st⟩
  · dsimp only [Pt.U, Pt.locs, Pt.cells, Pt.slots] at X' e1 e2 h1 h2 h3 st hcl
    subst h1; subst h2; subst h3
    exact Or.inr ⟨q, (T.setVm vm₁).calling g' mk (Value.ref b :: As).toArray, t, U', L, E, ce, hT, X', hL, e1, e2, hq, hce, hcv, vx_cls hW₁ hcl, st⟩
theorem vx_runS (S : CallFix p m c cc nL s args Ts own) (hM : vx_Met l y ws rm Pc Qc XC mc ms free) (cw : CallB R s args own index y bytes maxL ret ws rm mc ms n ∧ (Cond.static y).before args s = true) (hp : PreS s H Pc As)
    (hg : g.method = m) (hn : As.length = n) (hsize : g.locals.size = nL) (hstack : g.stack = As.reverse ++ rest) (hW : 2 * g.monitorRoom + (rest.map fun v => v.category).sum ≤ 8) (hdg : decode cc g.pc = .ok (.invokestatic index, 3)) (hf : cells + mc ≤ R.cells ∧ slots + ms ≤ R.slots) :
    vx_Run p l e R s m args below meth c H locs cells slots mc ms g rest (Qc As.toArray) XC free := by
  have hK : vx_Back l R p e below s args y 3 8 (PreOf R mc ms Pc) (PostOf Qc mc ms free) (vx_Post XC mc ms free) := vx_callBack cw.1 hM hp.1
  obtain ⟨⟨-, -, -, -, -, -, hcode, hini, hy, hlen, hl⟩, hstt⟩ := cw
  obtain ⟨hx, hb, hml, ho, -⟩ := S
  intro T hT X
  rcases vx_callS X hx (bytes := bytes) (maxL := maxL) (ret := ret) ho hl hstt hini hcode hy hK hg (hsize.trans hml.symm) (argsL := As) (rest := rest) (fun sig h => hn.trans (hlen sig h)) hstack hW (by rw [hb]; exact hdg)
    (fun vm₁ hW₁ => ⟨hf.1, hf.2, hp.2 (T.setVm vm₁) hT hW₁⟩) with ⟨v, vm₁, ⟨U', l2, c2, s2⟩, hW₁, X', ⟨g', mk, t, L, e1, e2, hq, h1, hL, h2, h3⟩, st⟩ | ⟨q, vm₁, ⟨U', l2, c2, s2⟩, hW₁, X', ⟨g', mk, t, L, E, ce, e1, e2, hq, hce, hcv, hcl, h1, hL, h2, h3⟩, st⟩
  · dsimp only [Pt.U, Pt.locs, Pt.cells, Pt.slots] at X' e1 e2 h1 h2 h3 st
    subst h1; subst h2; subst h3
    exact Or.inl ⟨v, (T.setVm vm₁).calling g' mk As.toArray, t, U', L, hT, X', hL, e1, e2, hq, st⟩
  · dsimp only [Pt.U, Pt.locs, Pt.cells, Pt.slots] at X' e1 e2 h1 h2 h3 st hcl
    subst h1; subst h2; subst h3
    exact Or.inr ⟨q, (T.setVm vm₁).calling g' mk As.toArray, t, U', L, E, ce, hT, X', hL, e1, e2, hq, hce, hcv, vx_cls hW₁ hcl, st⟩
end Runs
section Rows
variable {p : Program} {l : Launch} {e : Env} {R : Room} {s : State} {m : MethodId} {args : Array Value} {below : List Frame} {meth : Method} {c : Code} {H : Heap} {locs : List Loc} {cells slots : Nat} {Q : State → Prop}
variable {mc ms : Nat} {free : Addr → Prop} {A0 A1 : Nat → Prop} {H0 : Heap} {a : Array Value} {pc : Nat} {ls : Array Slot} {st0 rest : List Value}
theorem vx_keep {st₀ t T' : State} {L : List Loc} (h0 : st₀.heap = H) (e1 : T'.heap = t.heap) (hS : va_S A0 H0 H locs) (hA : ∀ q, q < H.size → A1 q → A0 q) (hf : ∀ q, free q → A0 q) (hL : ∀ q ∈ L, free q.base) (hF : va_F A1 st₀ t) :
    H.size ≤ T'.heap.size ∧ (∀ q : Nat, q < H.size → ¬ A1 q → T'.heap[q]? = H[q]?) ∧ va_S A0 H0 T'.heap (locs ++ L) := by
  obtain ⟨hz, hk⟩ := hF
  rw [h0] at hz hk
  exact ⟨by rw [e1]; exact hz, fun q h1 h2 => by rw [e1]; exact hk q h1 h2,
    ⟨Nat.le_trans hS.1 (by rw [e1]; exact hz), fun q h1 h2 => by rw [e1, hk q (Nat.lt_of_lt_of_le h1 hS.1) (fun z => h2 (hA q (Nat.lt_of_lt_of_le h1 hS.1) z))]; exact hS.2.1 q h1 h2, fun q hq => by
      rcases List.mem_append.mp hq with h | h
      · exact hS.2.2 q h
      · exact hf _ (hL q h)⟩⟩
theorem vx_calli {S SX : Type} {post : Int32 → S → Prop} {px : SX → Prop} {B : S → State → Prop} {BX : String → SX → State → Prop} {AX : Nat → Prop} (hr : vx_Run p l e R s m args below meth c H locs cells slots mc ms (F0 m pc ls st0) rest (va_Qi post B A1 a) (vx_X px BX AX) free) (hS : va_S A0 H0 H locs) (hA : ∀ q, q < H.size → A1 q → A0 q) (hf : ∀ q, free q → A0 q) (hAX : ∀ q, q < H.size → AX q → A0 q)
    (kx : ∀ (E : String) (ce : Cell) (q9 : Addr) (u : SX) (t : State) (H1 : Heap) (locs1 : List Loc), t.heap = H1 → s.vm.Alike t.vm → px u → BX E u t → H.size ≤ H1.size → (∀ q : Nat, q < H.size → ¬ AX q → H1[q]? = H[q]?) → va_S A0 H0 H1 locs1 → H1[q9]? = some ce → ce.vm = .none → s.vm.findClass E = some ce.cls → vx_W p l e R s m args below meth c H1 locs1 (cells + mc) (slots + ms) Q (F0 m pc ls rest) q9)
    (kk : ∀ (r : Int32) (u : S) (t : State) (H1 : Heap) (locs1 : List Loc), t.heap = H1 → s.vm.Alike t.vm → post r u → B u t → H.size ≤ H1.size → (∀ q : Nat, q < H.size → ¬ A1 q → H1[q]? = H[q]?) → va_S A0 H0 H1 locs1 → W p l e R s m args below meth c H1 locs1 (cells + mc) (slots + ms) Q (F0 m (pc + 3) ls (.int r :: rest))) : W p l e R s m args below meth c H locs cells slots Q (F0 m pc ls st0) := by
  intro T hT X
  rcases hr T hT X with ⟨v, st₀, t, T', L, h0, X', hL, e1, e2, ⟨⟨r, u, hv, hp, hb⟩, hF⟩, st⟩ | ⟨q, st₀, t, T', L, E, ce, h0, X', hL, e1, e2, ⟨u, hp, hb, hF⟩, hce, hcv, hcl, st⟩
  · cases hv
    obtain ⟨k1, k2, k3⟩ := vx_keep h0 e1 hS hA hf hL hF
    obtain ⟨t2, a1, b1⟩ := kk r u t T'.heap (locs ++ L) e1.symm (by rw [← e2]; exact X'.warmed.alike) hp hb k1 k2 k3 T' rfl X'
    exact ⟨t2, st t2 a1, b1⟩
  · obtain ⟨k1, k2, k3⟩ := vx_keep h0 e1 hS hAX hf hL hF
    obtain ⟨t2, a1, b1⟩ := kx E ce q u t T'.heap (locs ++ L) e1.symm (by rw [← e2]; exact X'.warmed.alike) hp hb k1 k2 k3 (by rw [e1]; exact hce) hcv hcl T' rfl X'
    exact ⟨t2, st.trans a1, b1⟩
theorem vx_calll {S SX : Type} {post : Int64 → S → Prop} {px : SX → Prop} {B : S → State → Prop} {BX : String → SX → State → Prop} {AX : Nat → Prop} (hr : vx_Run p l e R s m args below meth c H locs cells slots mc ms (F0 m pc ls st0) rest (va_Ql post B A1 a) (vx_X px BX AX) free) (hS : va_S A0 H0 H locs) (hA : ∀ q, q < H.size → A1 q → A0 q) (hf : ∀ q, free q → A0 q) (hAX : ∀ q, q < H.size → AX q → A0 q)
    (kx : ∀ (E : String) (ce : Cell) (q9 : Addr) (u : SX) (t : State) (H1 : Heap) (locs1 : List Loc), t.heap = H1 → s.vm.Alike t.vm → px u → BX E u t → H.size ≤ H1.size → (∀ q : Nat, q < H.size → ¬ AX q → H1[q]? = H[q]?) → va_S A0 H0 H1 locs1 → H1[q9]? = some ce → ce.vm = .none → s.vm.findClass E = some ce.cls → vx_W p l e R s m args below meth c H1 locs1 (cells + mc) (slots + ms) Q (F0 m pc ls rest) q9)
    (kk : ∀ (r : Int64) (u : S) (t : State) (H1 : Heap) (locs1 : List Loc), t.heap = H1 → s.vm.Alike t.vm → post r u → B u t → H.size ≤ H1.size → (∀ q : Nat, q < H.size → ¬ A1 q → H1[q]? = H[q]?) → va_S A0 H0 H1 locs1 → W p l e R s m args below meth c H1 locs1 (cells + mc) (slots + ms) Q (F0 m (pc + 3) ls (.long r :: rest))) : W p l e R s m args below meth c H locs cells slots Q (F0 m pc ls st0) := by
  intro T hT X
  rcases hr T hT X with ⟨v, st₀, t, T', L, h0, X', hL, e1, e2, ⟨⟨r, u, hv, hp, hb⟩, hF⟩, st⟩ | ⟨q, st₀, t, T', L, E, ce, h0, X', hL, e1, e2, ⟨u, hp, hb, hF⟩, hce, hcv, hcl, st⟩
  · cases hv
    obtain ⟨k1, k2, k3⟩ := vx_keep h0 e1 hS hA hf hL hF
    obtain ⟨t2, a1, b1⟩ := kk r u t T'.heap (locs ++ L) e1.symm (by rw [← e2]; exact X'.warmed.alike) hp hb k1 k2 k3 T' rfl X'
    exact ⟨t2, st t2 a1, b1⟩
  · obtain ⟨k1, k2, k3⟩ := vx_keep h0 e1 hS hAX hf hL hF
    obtain ⟨t2, a1, b1⟩ := kx E ce q u t T'.heap (locs ++ L) e1.symm (by rw [← e2]; exact X'.warmed.alike) hp hb k1 k2 k3 (by rw [e1]; exact hce) hcv hcl T' rfl X'
    exact ⟨t2, st.trans a1, b1⟩
theorem vx_callf {S SX : Type} {post : UInt32 → S → Prop} {px : SX → Prop} {B : S → State → Prop} {BX : String → SX → State → Prop} {AX : Nat → Prop} (hr : vx_Run p l e R s m args below meth c H locs cells slots mc ms (F0 m pc ls st0) rest (va_Qf post B A1 a) (vx_X px BX AX) free) (hS : va_S A0 H0 H locs) (hA : ∀ q, q < H.size → A1 q → A0 q) (hf : ∀ q, free q → A0 q) (hAX : ∀ q, q < H.size → AX q → A0 q)
    (kx : ∀ (E : String) (ce : Cell) (q9 : Addr) (u : SX) (t : State) (H1 : Heap) (locs1 : List Loc), t.heap = H1 → s.vm.Alike t.vm → px u → BX E u t → H.size ≤ H1.size → (∀ q : Nat, q < H.size → ¬ AX q → H1[q]? = H[q]?) → va_S A0 H0 H1 locs1 → H1[q9]? = some ce → ce.vm = .none → s.vm.findClass E = some ce.cls → vx_W p l e R s m args below meth c H1 locs1 (cells + mc) (slots + ms) Q (F0 m pc ls rest) q9)
    (kk : ∀ (r : UInt32) (u : S) (t : State) (H1 : Heap) (locs1 : List Loc), t.heap = H1 → s.vm.Alike t.vm → post r u → B u t → H.size ≤ H1.size → (∀ q : Nat, q < H.size → ¬ A1 q → H1[q]? = H[q]?) → va_S A0 H0 H1 locs1 → W p l e R s m args below meth c H1 locs1 (cells + mc) (slots + ms) Q (F0 m (pc + 3) ls (.float r :: rest))) : W p l e R s m args below meth c H locs cells slots Q (F0 m pc ls st0) := by
  intro T hT X
  rcases hr T hT X with ⟨v, st₀, t, T', L, h0, X', hL, e1, e2, ⟨⟨r, u, hv, hp, hb⟩, hF⟩, st⟩ | ⟨q, st₀, t, T', L, E, ce, h0, X', hL, e1, e2, ⟨u, hp, hb, hF⟩, hce, hcv, hcl, st⟩
  · cases hv
    obtain ⟨k1, k2, k3⟩ := vx_keep h0 e1 hS hA hf hL hF
    obtain ⟨t2, a1, b1⟩ := kk r u t T'.heap (locs ++ L) e1.symm (by rw [← e2]; exact X'.warmed.alike) hp hb k1 k2 k3 T' rfl X'
    exact ⟨t2, st t2 a1, b1⟩
  · obtain ⟨k1, k2, k3⟩ := vx_keep h0 e1 hS hAX hf hL hF
    obtain ⟨t2, a1, b1⟩ := kx E ce q u t T'.heap (locs ++ L) e1.symm (by rw [← e2]; exact X'.warmed.alike) hp hb k1 k2 k3 (by rw [e1]; exact hce) hcv hcl T' rfl X'
    exact ⟨t2, st.trans a1, b1⟩
theorem vx_calld {S SX : Type} {post : UInt64 → S → Prop} {px : SX → Prop} {B : S → State → Prop} {BX : String → SX → State → Prop} {AX : Nat → Prop} (hr : vx_Run p l e R s m args below meth c H locs cells slots mc ms (F0 m pc ls st0) rest (va_Qd post B A1 a) (vx_X px BX AX) free) (hS : va_S A0 H0 H locs) (hA : ∀ q, q < H.size → A1 q → A0 q) (hf : ∀ q, free q → A0 q) (hAX : ∀ q, q < H.size → AX q → A0 q)
    (kx : ∀ (E : String) (ce : Cell) (q9 : Addr) (u : SX) (t : State) (H1 : Heap) (locs1 : List Loc), t.heap = H1 → s.vm.Alike t.vm → px u → BX E u t → H.size ≤ H1.size → (∀ q : Nat, q < H.size → ¬ AX q → H1[q]? = H[q]?) → va_S A0 H0 H1 locs1 → H1[q9]? = some ce → ce.vm = .none → s.vm.findClass E = some ce.cls → vx_W p l e R s m args below meth c H1 locs1 (cells + mc) (slots + ms) Q (F0 m pc ls rest) q9)
    (kk : ∀ (r : UInt64) (u : S) (t : State) (H1 : Heap) (locs1 : List Loc), t.heap = H1 → s.vm.Alike t.vm → post r u → B u t → H.size ≤ H1.size → (∀ q : Nat, q < H.size → ¬ A1 q → H1[q]? = H[q]?) → va_S A0 H0 H1 locs1 → W p l e R s m args below meth c H1 locs1 (cells + mc) (slots + ms) Q (F0 m (pc + 3) ls (.double r :: rest))) : W p l e R s m args below meth c H locs cells slots Q (F0 m pc ls st0) := by
  intro T hT X
  rcases hr T hT X with ⟨v, st₀, t, T', L, h0, X', hL, e1, e2, ⟨⟨r, u, hv, hp, hb⟩, hF⟩, st⟩ | ⟨q, st₀, t, T', L, E, ce, h0, X', hL, e1, e2, ⟨u, hp, hb, hF⟩, hce, hcv, hcl, st⟩
  · cases hv
    obtain ⟨k1, k2, k3⟩ := vx_keep h0 e1 hS hA hf hL hF
    obtain ⟨t2, a1, b1⟩ := kk r u t T'.heap (locs ++ L) e1.symm (by rw [← e2]; exact X'.warmed.alike) hp hb k1 k2 k3 T' rfl X'
    exact ⟨t2, st t2 a1, b1⟩
  · obtain ⟨k1, k2, k3⟩ := vx_keep h0 e1 hS hAX hf hL hF
    obtain ⟨t2, a1, b1⟩ := kx E ce q u t T'.heap (locs ++ L) e1.symm (by rw [← e2]; exact X'.warmed.alike) hp hb k1 k2 k3 (by rw [e1]; exact hce) hcv hcl T' rfl X'
    exact ⟨t2, st.trans a1, b1⟩
theorem vx_callv {S SX : Type} {post : S → Prop} {px : SX → Prop} {B : S → State → Prop} {BX : String → SX → State → Prop} {AX : Nat → Prop} (hr : vx_Run p l e R s m args below meth c H locs cells slots mc ms (F0 m pc ls st0) rest (va_Qv post B A1 a) (vx_X px BX AX) free) (hS : va_S A0 H0 H locs) (hA : ∀ q, q < H.size → A1 q → A0 q) (hf : ∀ q, free q → A0 q) (hAX : ∀ q, q < H.size → AX q → A0 q)
    (kx : ∀ (E : String) (ce : Cell) (q9 : Addr) (u : SX) (t : State) (H1 : Heap) (locs1 : List Loc), t.heap = H1 → s.vm.Alike t.vm → px u → BX E u t → H.size ≤ H1.size → (∀ q : Nat, q < H.size → ¬ AX q → H1[q]? = H[q]?) → va_S A0 H0 H1 locs1 → H1[q9]? = some ce → ce.vm = .none → s.vm.findClass E = some ce.cls → vx_W p l e R s m args below meth c H1 locs1 (cells + mc) (slots + ms) Q (F0 m pc ls rest) q9)
    (kk : ∀ (u : S) (t : State) (H1 : Heap) (locs1 : List Loc), t.heap = H1 → s.vm.Alike t.vm → post u → B u t → H.size ≤ H1.size → (∀ q : Nat, q < H.size → ¬ A1 q → H1[q]? = H[q]?) → va_S A0 H0 H1 locs1 → W p l e R s m args below meth c H1 locs1 (cells + mc) (slots + ms) Q (F0 m (pc + 3) ls (rest))) : W p l e R s m args below meth c H locs cells slots Q (F0 m pc ls st0) := by
  intro T hT X
  rcases hr T hT X with ⟨v, st₀, t, T', L, h0, X', hL, e1, e2, ⟨⟨u, hv, hp, hb⟩, hF⟩, st⟩ | ⟨q, st₀, t, T', L, E, ce, h0, X', hL, e1, e2, ⟨u, hp, hb, hF⟩, hce, hcv, hcl, st⟩
  · cases hv
    obtain ⟨k1, k2, k3⟩ := vx_keep h0 e1 hS hA hf hL hF
    obtain ⟨t2, a1, b1⟩ := kk u t T'.heap (locs ++ L) e1.symm (by rw [← e2]; exact X'.warmed.alike) hp hb k1 k2 k3 T' rfl X'
    exact ⟨t2, st t2 a1, b1⟩
  · obtain ⟨k1, k2, k3⟩ := vx_keep h0 e1 hS hAX hf hL hF
    obtain ⟨t2, a1, b1⟩ := kx E ce q u t T'.heap (locs ++ L) e1.symm (by rw [← e2]; exact X'.warmed.alike) hp hb k1 k2 k3 (by rw [e1]; exact hce) hcv hcl T' rfl X'
    exact ⟨t2, st.trans a1, b1⟩
/-- caught by the row x of this method's table; the rows ahead don't take it -/
theorem vx_catch {own name : String} {E : String} {ce : Cell} {q : Addr} (hown : s.vm.findClass own = some m.cls) (pre : List ExceptionTableEntry) (x : ExceptionTableEntry) (suf : List ExceptionTableEntry) (hsplit : c.exceptionTable.toList = pre ++ x :: suf)
    (hpass : ∀ z ∈ pre, covers z pc = false ∨ (z.catchType ≠ 0 ∧ ∃ nm : String, (Cond.classLink own z.catchType nm).before args s = true ∧ va_Nc E nm s)) (hx : covers x pc = true) (h0 : x.catchType ≠ 0)
    (hlink : (Cond.classLink own x.catchType name).before args s = true) (hcast : (Cond.castable E name).before args s = true) (hcell : H[q]? = some ce) (hv : ce.vm = .none) (hcl : s.vm.findClass E = some ce.cls)
    (kk : W p l e R s m args below meth c H locs cells slots Q (F0 m x.handlerPc ls [.ref q])) : vx_W p l e R s m args below meth c H locs cells slots Q (F0 m pc ls rest) q := by
  intro T hT X
  have hpl : e.platform.magicAccessors = ({} : Platform).magicAccessors := by rw [X.admits.platform]
  obtain ⟨c3, c4, hc3, hc4, hasg⟩ := Cond.castable_spec hcast
  cases Option.some.inj (hc3.symm.trans hcl)
  obtain ⟨c5, hc5, hcl5⟩ := Cond.classLink_spec hown hlink e.platform hpl
  cases Option.some.inj (hc4.symm.trans hc5)
  obtain ⟨vm', X', st⟩ := X.thenCaughtThrough q (g := F0 m pc ls rest) rfl (Steps.refl _) (by rw [hT]; exact hcell) (by rw [hv]; rfl) (by obtain ⟨k9, h9, -⟩ := Vm.findClass_spec hcl; exact ⟨k9, h9⟩) pre x suf hsplit
    (fun z hz => by
      rcases hpass z hz with h | ⟨hz0, nm, hl1, hn1⟩
      · exact Or.inl h
      · obtain ⟨c6, hc6, hcl6⟩ := Cond.classLink_spec hown hl1 e.platform hpl
        obtain ⟨a8, b8, h1, h2, h3⟩ := hn1
        cases Option.some.inj (h1.symm.trans hcl)
        cases Option.some.inj (h2.symm.trans hc6)
        exact Or.inr ⟨hz0, _, hcl6, h3⟩) hx (Or.inr ⟨h0, c4, hcl5, hasg⟩)
  obtain ⟨t, a1, b1⟩ := kk (T.setVm vm') hT X'
  exact ⟨t, st.trans a1, b1⟩
end Rows
section Ends
variable {p : Program} {l : Launch} {e : Env} {R : Room} {s : State} {m : MethodId} {args : Array Value} {below : List Frame} {meth : Method} {c : Code} {H : Heap} {locs : List Loc} {cells slots : Nat} {Q : State → Prop}
variable {mc ms : Nat} {free : Addr → Prop} {A0 A1 : Nat → Prop} {H0 : Heap} {a : Array Value} {ls : Array Slot} {st0 rest : List Value}
variable {Qc : Array Value → State → Outcome → State → Prop} {XC : String → State → State → Prop}
/-- what a body that may throw owes at its end -/
def vx_MQ (below : List Frame) (Qc : Array Value → State → Outcome → State → Prop) (XC : String → State → State → Prop) (a : Array Value) (s : State) (mc ms : Nat) (free : Addr → Prop) : State → Prop := fun t =>
  ∃ o, t.status = .running ∧ Ended t below o ∧ vx_Q Qc XC mc ms free a s o t
theorem vx_ret {g : JFrame} {mc ms : Nat} (k : W p l e R s m args below meth c H locs cells slots (MQ below Qc args s mc ms free) g) : W p l e R s m args below meth c H locs cells slots (vx_MQ below Qc XC args s mc ms free) g := by
  intro T hT X
  obtain ⟨t, a1, o, b1, b2, b3, b4⟩ := k T hT X
  exact ⟨t, a1, o, b1, b2, Or.inl ⟨b3, b4⟩⟩
/-- not caught here: it goes on to the caller -/
theorem vx_widen {g : JFrame} {q : Addr} {k n : Nat} (h1 : cells ≤ k) (h2 : slots ≤ n) (kk : vx_W p l e R s m args below meth c H locs k n Q g q) : vx_W p l e R s m args below meth c H locs cells slots Q g q := fun T hT X => kk T hT (stand_widen X h1 h2)
theorem vx_out {pc : Nat} {E : String} {ce : Cell} {q : Addr} {mc ms : Nat} (hout : ∀ x ∈ c.exceptionTable.toList, covers x pc = false) (hlocks : meth.locks = false) (hcell : H[q]? = some ce) (hv : ce.vm = .none) (hcl : s.vm.findClass E = some ce.cls)
    (hx : ∀ t : State, t.heap = H → s.vm.Alike t.vm → XC E s t) (hf : ∀ z ∈ locs, free z.base) (hc : cells ≤ mc) (hs : slots ≤ ms) :
    vx_W p l e R s m args below meth c H locs cells slots (vx_MQ below Qc XC args s mc ms free) (F0 m pc ls rest) q := by
  intro T hT X
  obtain ⟨st1, hrun, hend, hW, hsm⟩ := X.leaveThrown q (g := F0 m pc ls rest) rfl rfl rfl hout hlocks
  have hcell9 : (T.setFrames (.throwing q :: below)).heap[q]? = some ce := by
    show T.heap[q]? = some ce
    rw [hT]; exact hcell
  exact ⟨_, st1, .threw q, hrun, hend, Or.inr ⟨q, rfl, E, ce, locs, hx _ hT hW.alike, hcell9, hv, hcl, hW, hsm.mono hc hs, hf⟩⟩
theorem vx_frame {U : State} {k n : Nat} (h : s.sameButNew ({ U with vm := s.vm } : State) locs k n) : s.heap.size ≤ U.heap.size ∧ ∀ q : Nat, q < s.heap.size → (∀ z ∈ locs, z.base ≠ q) → U.heap[q]? = s.heap[q]? := by
  obtain ⟨-, h2, -, -, -, h6⟩ := h
  refine ⟨h2, fun q hq hz => ?_⟩
  obtain ⟨c9, e1, e2, e3, e4⟩ := h6 q _ (Array.getElem?_eq_getElem hq)
  have hs : c9.slots = (s.heap[q]).slots := Array.ext_getElem? fun i => e4 i fun hm => hz _ hm rfl
  have h9 : c9 = s.heap[q] := by
    rw [hs] at e2
    exact e2
  have e5 : U.heap[q]? = some c9 := e1
  rw [e5, h9, Array.getElem?_eq_getElem hq]
/-- the words of a throw but the four that speak of the heap -/
def vx_no (w : Cond) : Bool := decide (w ≠ .isRef (.static Bundle.tN "UNASSIGNED_STACK" Bundle.steD)) && decide (w ≠ .isRef (.static Bundle.tN "SUPPRESSED_SENTINEL" Bundle.listD)) && decide (w ≠ .laysStatic Bundle.tN "UNASSIGNED_STACK" Bundle.steD) && decide (w ≠ .laysStatic Bundle.tN "SUPPRESSED_SENTINEL" Bundle.listD)
def vx_at0 (own : String) (ic : Nat) (X : String) (names : List String) : List Cond := (Bundle.ownAtoms0 own ic X names).filter vx_no
def vx_atS (own : String) (ic : Nat) (X : String) (names : List String) : List Cond := (Bundle.ownAtoms own ic X names).filter vx_no
/-- a word that the tables alone decide, or a good one -/
def vx_ot (w : Cond) : Bool := w.onTables || goodWord w
theorem vx_ot_at {args a' : Array Value} {s U : State} {w : Cond} (hW : s.WarmedH U.vm) (hvm : s.vm = U.vm) (hg : vx_ot w = true) (h : w.before args s = true) : w.before a' U = true := by
  simp only [vx_ot, Bool.or_eq_true] at hg
  rcases hg with hg | hg
  · exact va_tabs hg hvm h
  · exact word_at hW (good_of_word hg) h
/-- a list's words: the good ones out of the method's own list, the others by premises of their own -/
theorem vx_hat {args : Array Value} {s : State} {L B : List Cond} (h1 : ∀ w ∈ L.filter goodWord, w.before args s = true) (h2 : ∀ w ∈ L.filter (fun w => !goodWord w), w ∈ B) (h3 : ∀ w ∈ B, w.before args s = true) : ∀ w ∈ L, w.before args s = true := by
  intro w hw
  by_cases g : goodWord w = true
  · exact h1 w (List.mem_filter.mpr ⟨hw, g⟩)
  · refine h3 w (h2 w (List.mem_filter.mpr ⟨hw, ?_⟩))
    show (!goodWord w) = true
    cases hgw : goodWord w
    · rfl
    · exact absurd hgw g
theorem vx_c {args : Array Value} {s : State} {w : Cond} {B : List Cond} (h : w.before args s = true) (t : ∀ w ∈ B, w.before args s = true) : ∀ w' ∈ w :: B, w'.before args s = true := fun w' h' => (List.mem_cons.mp h').elim (fun e => by rw [e]; exact h) (t w')
theorem vx_n {args : Array Value} {s : State} : ∀ w ∈ ([] : List Cond), w.before args s = true := fun _ h => nomatch h
theorem vx_own {args : Array Value} {s : State} {L : List Cond} (h1 : ∀ w ∈ L.filter vx_no, w.before args s = true)
    (hU : (Cond.isRef (.static Bundle.tN "UNASSIGNED_STACK" Bundle.steD)).before args s = true) (hN : (Cond.isRef (.static Bundle.tN "SUPPRESSED_SENTINEL" Bundle.listD)).before args s = true)
    (lU : (Cond.laysStatic Bundle.tN "UNASSIGNED_STACK" Bundle.steD).before args s = true) (lN : (Cond.laysStatic Bundle.tN "SUPPRESSED_SENTINEL" Bundle.listD).before args s = true) : ∀ w ∈ L, w.before args s = true := by
  intro w hw
  by_cases e1 : w = .isRef (.static Bundle.tN "UNASSIGNED_STACK" Bundle.steD)
  · rw [e1]; exact hU
  · by_cases e2 : w = .isRef (.static Bundle.tN "SUPPRESSED_SENTINEL" Bundle.listD)
    · rw [e2]; exact hN
    · by_cases e3 : w = .laysStatic Bundle.tN "UNASSIGNED_STACK" Bundle.steD
      · rw [e3]; exact lU
      · by_cases e4 : w = .laysStatic Bundle.tN "SUPPRESSED_SENTINEL" Bundle.listD
        · rw [e4]; exact lN
        · exact h1 w (List.mem_filter.mpr ⟨hw, by unfold vx_no; rw [decide_eq_true e1, decide_eq_true e2, decide_eq_true e3, decide_eq_true e4]; rfl⟩)
/-- where a static field lies, its class's statics cell in H -/
def vx_L (C n d : String) (A : Nat → Prop) (U : State) (H : Heap) : Prop := ∃ (c : ClassId) (k : Class) (i : Nat) (f : Field) (a : Nat) (cell : Cell), U.vm.findClass C = some c ∧ U.fieldFound? C n d = some (c, k, i, f) ∧ f.isStatic = true ∧ k.statics = some a ∧ H[a]? = some cell ∧ cell.vm.isStatics = true ∧ cell.cls = c ∧ f.slot < cell.slots.size ∧ k.staticTypes[f.slot]? = some f.type ∧ ¬ A a
theorem vx_L.moved {C n d : String} {A : Nat → Prop} {u U : State} {H : Heap} (hvm : u.vm.Alike U.vm) (h : vx_L C n d A u H) : vx_L C n d A U H := by
  obtain ⟨c, k, i, f, a, cell, h1, h2, h3, h4, h5, h6, h7, h8, h9, h10⟩ := h
  obtain ⟨k', hi', he⟩ := State.fieldFound?_setVm hvm h2
  exact ⟨c, k', i, f, a, cell, by rw [hvm.findClass]; exact h1, hi', h3, by rw [he]; exact h4, h5, h6, h7, h8, by rw [he]; exact h9, h10⟩
theorem vx_L.kept {C n d : String} {A : Nat → Prop} {U : State} {H H1 : Heap} (h : vx_L C n d A U H) (hq : ∀ a : Nat, a < H.size → ¬ A a → H1[a]? = H[a]?) : vx_L C n d A U H1 := by
  obtain ⟨c, k, i, f, a, cell, h1, h2, h3, h4, h5, h6, h7, h8, h9, h10⟩ := h
  exact ⟨c, k, i, f, a, cell, h1, h2, h3, h4, by rw [hq a (Array.getElem?_eq_some_iff.mp h5).1 h10]; exact h5, h6, h7, h8, h9, h10⟩
theorem vx_L.narrow {C n d : String} {A B : Nat → Prop} {U : State} {H : Heap} (h : vx_L C n d A U H) (hAB : ∀ q, B q → A q) : vx_L C n d B U H := by
  obtain ⟨c, k, i, f, a, cell, h1, h2, h3, h4, h5, h6, h7, h8, h9, h10⟩ := h
  exact ⟨c, k, i, f, a, cell, h1, h2, h3, h4, h5, h6, h7, h8, h9, fun z => h10 (hAB _ z)⟩
theorem vx_L.word {C n d : String} {A : Nat → Prop} {s : State} {args : Array Value} (h : vx_L C n d A s s.heap) : (Cond.laysStatic C n d).before args s = true := by
  obtain ⟨c, k, i, f, a, cell, h1, h2, h3, h4, h5, h6, h7, h8, h9, -⟩ := h
  show (Cond.laysStatic C n d).holds args s none s [] = true
  exact Cond.laysStatic_of h1 h2 h3 h4 h5 h6 h7 h8 h9
/-- .. and what it holds: null or some reference -/
def vx_Zq (C n d : String) (A : Nat → Prop) (U : State) (H : Heap) : Prop := va_Zq C n d A U H ∧ vx_L C n d A U H
theorem vx_Zq.moved {C n d : String} {A : Nat → Prop} {u U : State} {H : Heap} (hvm : u.vm.Alike U.vm) (h : vx_Zq C n d A u H) : vx_Zq C n d A U H := ⟨va_Zq.moved hvm h.1, vx_L.moved hvm h.2⟩
theorem vx_Zq.kept {C n d : String} {A : Nat → Prop} {U : State} {H H1 : Heap} (h : vx_Zq C n d A U H) (hq : ∀ a : Nat, a < H.size → ¬ A a → H1[a]? = H[a]?) : vx_Zq C n d A U H1 := ⟨va_Zq.kept h.1 hq, vx_L.kept h.2 hq⟩
theorem vx_Zq.narrow {C n d : String} {A B : Nat → Prop} {U : State} {H : Heap} (h : vx_Zq C n d A U H) (hAB : ∀ q, B q → A q) : vx_Zq C n d B U H := ⟨va_Zq.narrow h.1 hAB, vx_L.narrow h.2 hAB⟩
theorem vx_Zqof {args : Array Value} {s : State} {C n d : String} {A : Nat → Prop} (hl : (Cond.laysStatic C n d).before args s = true) (hini : (Cond.initialized C).before args s = true) (h : (Cond.isRef (.static C n d)).before args s = true) (hA : ∀ a : Nat, a < s.heap.size → ¬ A a) : vx_Zq C n d A s s.heap := by
  refine ⟨va_Zqof hl hini h hA, ?_⟩
  obtain ⟨c, k, i, f, a, cell, h1, h2, h3, h4, h5, h6, h7, h8, h9⟩ := Cond.laysStatic_spec hl
  exact ⟨c, k, i, f, a, cell, h1, h2, h3, h4, h5, h6, h7, h8, h9, hA a (Array.getElem?_eq_some_iff.mp h5).1⟩
theorem vx_isRef {C n d : String} {v : Value} {A : Nat → Prop} {s : State} {args : Array Value} (h : va_Z C n d v A s s.heap) (hv : v.isRef = true) : (Cond.isRef (.static C n d)).before args s = true := by
  obtain ⟨cf, kf, fi, f, a, cell, h1, h2, h3, h4, h5, h6, h7, -⟩ := h
  have he : (Term.static C n d).eval args s none [] s = some v := by
    simp [Term.eval, State.fieldNamed?, h1, h2, h4, h5, h6, h7]
  simp only [Cond.before, Cond.holds, Cond.value, he]
  cases v <;> simp_all [Value.isRef]
theorem vx_isRefq {C n d : String} {A : Nat → Prop} {s : State} {args : Array Value} (h : va_Zq C n d A s s.heap) : (Cond.isRef (.static C n d)).before args s = true := by
  rcases h with h | ⟨t, h⟩
  · exact vx_isRef h rfl
  · exact vx_isRef h rfl
/-- the same frame, seen from here: as if the method were called anew in this heap -/
theorem vx_rebase {T : State} (X : Stand p l e R s m args below meth c T locs cells slots) {R' : Room} (hf : R'.frames ≤ R.frames) (hl : R'.locals ≤ R.locals) (hc : cells + R'.cells ≤ R.cells) (hs : slots + R'.slots ≤ R.slots) :
    Stand p l e R' ((T.setVm s.vm).setFrames (.invoking m args :: below)) m args below meth c T [] 0 0 := by
  have htop : (T.setVm s.vm).topJava?.isSome := X.here.top
  have hF : ((T.setVm s.vm).setFrames (.invoking m args :: below)).frames = .invoking m args :: below := State.frames_setFrames _ (State.cur_lt_of_top htop)
  obtain ⟨g₀, hg0⟩ := Option.isSome_iff_exists.mp htop
  obtain ⟨r, hr⟩ := State.topJava?_eq_some.mp hg0
  have hl9 : e.platform.stackLimits (T.setVm s.vm).me = e.platform.stackLimits s.me := X.limits
  have hb9 : (T.setVm s.vm).me.stackBytes = s.me.stackBytes := X.bytes
  refine ⟨X.admits, X.cas, X.clock, hF, ?_, X.hears, X.method, X.code, X.here, X.tail, X.warmed, ?_, ?_, ?_⟩
  · have h := X.room
    have hU : ((T.setVm s.vm).setFrames (.invoking m args :: below)).localsInUse = s.localsInUse := by
      rw [State.localsInUse_invoking hF (meth := meth) (c := c) X.method X.code, State.localsInUse_invoking X.frames X.method X.code]
    simp only [State.hasRoom, Bool.and_eq_true, decide_eq_true_eq] at h ⊢
    obtain ⟨⟨⟨⟨h1, h2, h3, h4, h5, h6⟩, h7⟩, h8⟩, h9⟩ := h
    rw [X.frames, List.length_cons] at h2 h3
    have q1 := X.heapSize
    have q2 := X.used
    simp only [hF, hU, List.length_cons, State.stackLimits_setFrames, State.stackBytes_setFrames, hl9, hb9]
    refine ⟨⟨⟨⟨by omega, by omega, by omega, by omega, by omega, h6⟩, ?_⟩, ?_⟩, X.book⟩
    · show T.heap.size + R'.cells ≤ e.platform.maxCells
      omega
    · show T.slotsUsed + R'.slots ≤ e.platform.maxSlots
      omega
  · rw [State.stackLimits_setFrames]; rfl
  · rw [State.stackBytes_setFrames]; rfl
  · refine ⟨?_, Nat.le_refl _, Nat.le_refl _, ?_, ?_, fun a c9 h9 => ⟨c9, h9, rfl, rfl, fun _ _ => rfl⟩⟩
    · obtain ⟨t, ht, -⟩ := State.frames_cons hr
      show T.setVm s.vm = { ((T.setVm s.vm).setFrames (.invoking m args :: below)).setFrames (T.setVm s.vm).frames with heap := T.heap, slotsUsed := T.slotsUsed }
      rw [State.setFrames_setFrames, State.setFrames_self ht]
      rfl
    · show T.slotsUsed = T.slotsUsed + ((T.heap.toList.drop T.heap.size).map (·.slots.size)).sum
      rw [List.drop_eq_nil_of_le (Nat.le_of_eq Array.length_toList)]
      rfl
    · show ((T.heap.toList.drop T.heap.size).map (·.slots.size)).sum ≤ 0
      rw [List.drop_eq_nil_of_le (Nat.le_of_eq Array.length_toList)]
      exact Nat.le_refl _
/-- 'throw new E()': new; dup; invokespecial; athrow -/
theorem vx_throw0 {cc : ByteArray} {pc : Nat} (hexec : p.tables.exec = Jvm.exec) (hb : c.code = cc) (hl : l.stackTraces = false) {own cls : String} {names : List String} {ik ic mc ms : Nat} {A : Nat → Prop}
    (hown : s.vm.findClass own = some m.cls) (hcls : Bundle.fit cls = true) (hnames : ∀ n ∈ names, Bundle.fit n = true)
    (hk : (Cond.classLink own ik cls).before args s = true) (hini : (Cond.initialized cls).before args s = true) (hat : ∀ w ∈ vx_at0 own ic cls names, w.before args s = true)
    (hgood : ∀ w ∈ Cond.classLink own ik cls :: Cond.initialized cls :: vx_at0 own ic cls names, vx_ot w = true)
    (hU : vx_Zq Bundle.tN "UNASSIGNED_STACK" Bundle.steD A s s.heap) (hN : vx_Zq Bundle.tN "SUPPRESSED_SENTINEL" Bundle.listD A s s.heap) (hS : va_S A s.heap H locs) (hsize : ls.size = c.maxLocals)
    (d0 : decode cc pc = .ok (.new ik, 3)) (d3 : decode cc (pc + 3) = .ok (.dup, 1)) (d4 : decode cc (pc + 4) = .ok (.invokespecial ic, 3)) (d7 : decode cc (pc + 7) = .ok (.athrow, 1))
    (hout : ∀ x ∈ c.exceptionTable.toList, covers x (pc + 7) = false)
    (hRframes : names.length + 3 < R.frames) (hRlocals : (rest.map fun v => v.category).sum + (13 * (names.length + 1) + 42) ≤ R.locals) (hRcells : cells + 1 ≤ R.cells) (hRslots : slots + 6 ≤ R.slots) (hlocks : meth.locks = false)
    (hx : ∀ t : State, s.vm.Alike t.vm → H.size ≤ t.heap.size → (∀ q : Nat, q < H.size → t.heap[q]? = H[q]?) → XC cls s t)
    (hf : ∀ z ∈ locs, free z.base) (hc : cells + 1 ≤ mc) (hs : slots + 6 ≤ ms) :
    W p l e R s m args below meth c H locs cells slots (vx_MQ below Qc XC args s mc ms free) (F0 m pc ls rest) := by
  intro T hT X
  have htr : e.platform.stackTraces = false := (show e.platform.stackTraces = l.stackTraces by rw [X.admits.platform]).trans hl
  have Y := vx_rebase X (R' := { frames := R.frames, locals := R.locals, cells := 1, slots := 6 }) (Nat.le_refl _) (Nat.le_refl _) hRcells hRslots
  obtain ⟨s', hA⟩ : ∃ z, z = (T.setVm s.vm).setFrames (.invoking m args :: below) := ⟨_, rfl⟩
  rw [← hA] at Y
  have hvm : s'.vm = s.vm := by rw [hA]; rfl
  have hhp : s'.heap = H := by rw [hA]; exact hT
  have hW0 : s.WarmedH s'.vm := by rw [hvm]; exact State.WarmedH.refl s
  have hat' : ∀ w ∈ vx_at0 own ic cls names, w.before args s' = true := fun w hw => vx_ot_at hW0 hvm.symm (hgood w (List.mem_cons_of_mem _ (List.mem_cons_of_mem _ hw))) (hat w hw)
  have hk' : (Cond.classLink own ik cls).before args s' = true := vx_ot_at hW0 hvm.symm (hgood _ List.mem_cons_self) hk
  have hini' : (Cond.initialized cls).before args s' = true := vx_ot_at hW0 hvm.symm (hgood _ (List.mem_cons_of_mem _ List.mem_cons_self)) hini
  have hU' : vx_Zq Bundle.tN "UNASSIGNED_STACK" Bundle.steD A s' s'.heap := by rw [hhp]; exact vx_Zq.moved hW0.alike (hU.kept hS.2.1)
  have hN' : vx_Zq Bundle.tN "SUPPRESSED_SENTINEL" Bundle.listD A s' s'.heap := by rw [hhp]; exact vx_Zq.moved hW0.alike (hN.kept hS.2.1)
  have h : ∀ w ∈ Bundle.ownAtoms0 own ic cls names, w.before args s' = true := vx_own hat' (vx_isRefq hU'.1) (vx_isRefq hN'.1) hU'.2.word hN'.2.word
  have hown' : s'.vm.findClass own = some m.cls := by rw [hvm]; exact hown
  have hins : (Cond.instantiable cls 6).before args s' = true := h _ (by simp [Bundle.ownAtoms0])
  obtain ⟨vm₁, cX, kX, hfX, hkX, -, -, X₁, st1⟩ := Y.newCold hexec (own := own) (C := cls) (index := ik) (n := 6) hown' hk' hins hini'
    (g := F0 m pc ls rest) rfl (by rw [hb]; exact d0) (Nat.le_refl _) (Nat.le_refl _)
  generalize hT1 : (T.setVm vm₁).pushCell { cls := cX, slots := kX.instanceTypes.map defaultValue, vm := .none } = T1 at X₁ st1
  have hcat : (Value.ref T.heap.size).category = 1 := rfl
  have hcellA : T1.heap[T.heap.size]? = some (freshCell cX kX) := by rw [← hT1]; exact State.heap_pushCell_size _ _
  have d3' : decode c.code (pc + 3) = .ok (.dup, 1) := by rw [hb]; exact d3
  obtain ⟨U, hsteps, hrun, hend, hW, hsame, ce, hce, hO⟩ := X₁.ctorThrow0 hexec htr (own := own) (cls := cls) (names := names) (ic := ic) hown' hcls hnames h (fun x hx => nomatch hx) hfX hkX hcellA (by rw [hhp, hT]; exact Nat.le_refl _)
    (g := { method := m, pc := pc + 4, locals := ls, stack := .ref T.heap.size :: .ref T.heap.size :: rest, locked := none }) rfl hsize rfl rfl (rest := rest) rfl
    (by rw [hb]; exact d4) (by rw [hb]; exact d7) hout hRframes (by simp only [List.map_cons, List.sum_cons, hcat]; omega) hlocks
  obtain ⟨f1, f2⟩ := vx_frame hsame
  rw [hhp] at f1 f2
  have hWs : s.WarmedH U.vm := State.WarmedH.trans hW0 hW
  have hcl : s.vm.findClass cls = some ce.cls := by
    have h9 := hO.cls
    rw [hvm] at h9
    exact h9
  have hall : s.sameButNew ({ U with vm := s.vm } : State) locs mc ms := by
    subst hA
    obtain ⟨e1, e2⟩ := hsame
    rw [State.setFrames_setFrames] at e1
    have h2 : (T.setVm s.vm).sameButNew ({ U with vm := s.vm } : State) [] (0 + 1) (0 + 6) := ⟨e1, e2⟩
    have h3 := X.same.trans h2
    rw [List.append_nil] at h3
    exact h3.mono hc hs
  refine ⟨U, ?_, .threw T.heap.size, hrun, hend, Or.inr ⟨T.heap.size, rfl, cls, ce, locs, hx U hWs.alike f1 (fun q hq => f2 q hq (fun z hz => nomatch hz)), hce, hO.vm, hcl, hWs, hall, hf⟩⟩
  refine st1 _ ?_
  show Steps p.tables e below (T1.setTop { method := m, pc := pc + 3, locals := ls, stack := .ref T.heap.size :: rest, locked := none }) _
  jvm_step X₁.here [X₁.here.top, hexec, d3', Value.category]
  exact hsteps
/-- 'throw new E("text")': new; dup; ldc; invokespecial; athrow -/
theorem vx_throwS {cc : ByteArray} {pc : Nat} (hexec : p.tables.exec = Jvm.exec) (hb : c.code = cc) (hl : l.stackTraces = false) {own cls text : String} {names : List String} {ik is ic mc ms sa : Nat} {A : Nat → Prop}
    (hown : s.vm.findClass own = some m.cls) (hcls : Bundle.fit cls = true) (hnames : ∀ n ∈ names, Bundle.fit n = true)
    (hk : (Cond.classLink own ik cls).before args s = true) (hini : (Cond.initialized cls).before args s = true) (hstr : vk_R own is text sa s) (hat : ∀ w ∈ vx_atS own ic cls names, w.before args s = true)
    (hgood : ∀ w ∈ Cond.classLink own ik cls :: Cond.initialized cls :: vx_atS own ic cls names, vx_ot w = true)
    (hU : vx_Zq Bundle.tN "UNASSIGNED_STACK" Bundle.steD A s s.heap) (hN : vx_Zq Bundle.tN "SUPPRESSED_SENTINEL" Bundle.listD A s s.heap) (hS : va_S A s.heap H locs) (hsize : ls.size = c.maxLocals)
    (d0 : decode cc pc = .ok (.new ik, 3)) (d3 : decode cc (pc + 3) = .ok (.dup, 1)) (d4 : decode cc (pc + 4) = .ok (.ldc is, 2)) (d6 : decode cc (pc + 6) = .ok (.invokespecial ic, 3)) (d9 : decode cc (pc + 9) = .ok (.athrow, 1))
    (hout : ∀ x ∈ c.exceptionTable.toList, covers x (pc + 9) = false)
    (hRframes : names.length + 3 < R.frames) (hRlocals : (rest.map fun v => v.category).sum + (13 * (names.length + 1) + 43) ≤ R.locals) (hRcells : cells + 1 ≤ R.cells) (hRslots : slots + 6 ≤ R.slots) (hlocks : meth.locks = false)
    (hx : ∀ t : State, s.vm.Alike t.vm → H.size ≤ t.heap.size → (∀ q : Nat, q < H.size → t.heap[q]? = H[q]?) → XC cls s t)
    (hf : ∀ z ∈ locs, free z.base) (hc : cells + 1 ≤ mc) (hs : slots + 6 ≤ ms) :
    W p l e R s m args below meth c H locs cells slots (vx_MQ below Qc XC args s mc ms free) (F0 m pc ls rest) := by
  intro T hT X
  have htr : e.platform.stackTraces = false := (show e.platform.stackTraces = l.stackTraces by rw [X.admits.platform]).trans hl
  have Y := vx_rebase X (R' := { frames := R.frames, locals := R.locals, cells := 1, slots := 6 }) (Nat.le_refl _) (Nat.le_refl _) hRcells hRslots
  obtain ⟨s', hA⟩ : ∃ z, z = (T.setVm s.vm).setFrames (.invoking m args :: below) := ⟨_, rfl⟩
  rw [← hA] at Y
  have hvm : s'.vm = s.vm := by rw [hA]; rfl
  have hhp : s'.heap = H := by rw [hA]; exact hT
  have hW0 : s.WarmedH s'.vm := by rw [hvm]; exact State.WarmedH.refl s
  have hat' : ∀ w ∈ vx_atS own ic cls names, w.before args s' = true := fun w hw => vx_ot_at hW0 hvm.symm (hgood w (List.mem_cons_of_mem _ (List.mem_cons_of_mem _ hw))) (hat w hw)
  have hk' : (Cond.classLink own ik cls).before args s' = true := vx_ot_at hW0 hvm.symm (hgood _ List.mem_cons_self) hk
  have hini' : (Cond.initialized cls).before args s' = true := vx_ot_at hW0 hvm.symm (hgood _ (List.mem_cons_of_mem _ List.mem_cons_self)) hini
  have hU' : vx_Zq Bundle.tN "UNASSIGNED_STACK" Bundle.steD A s' s'.heap := by rw [hhp]; exact vx_Zq.moved hW0.alike (hU.kept hS.2.1)
  have hN' : vx_Zq Bundle.tN "SUPPRESSED_SENTINEL" Bundle.listD A s' s'.heap := by rw [hhp]; exact vx_Zq.moved hW0.alike (hN.kept hS.2.1)
  have h : ∀ w ∈ Bundle.ownAtoms own ic cls names, w.before args s' = true := vx_own hat' (vx_isRefq hU'.1) (vx_isRefq hN'.1) hU'.2.word hN'.2.word
  have hown' : s'.vm.findClass own = some m.cls := by rw [hvm]; exact hown
  have hins : (Cond.instantiable cls 6).before args s' = true := h _ (by simp [Bundle.ownAtoms])
  obtain ⟨vm₁, cX, kX, hfX, hkX, -, -, X₁, st1⟩ := Y.newCold hexec (own := own) (C := cls) (index := ik) (n := 6) hown' hk' hins hini'
    (g := F0 m pc ls rest) rfl (by rw [hb]; exact d0) (Nat.le_refl _) (Nat.le_refl _)
  generalize hT1 : (T.setVm vm₁).pushCell { cls := cX, slots := kX.instanceTypes.map defaultValue, vm := .none } = T1 at X₁ st1
  have hcat : (Value.ref T.heap.size).category = 1 := rfl
  have hcellA : T1.heap[T.heap.size]? = some (freshCell cX kX) := by rw [← hT1]; exact State.heap_pushCell_size _ _
  have d3' : decode c.code (pc + 3) = .ok (.dup, 1) := by rw [hb]; exact d3
  have d4' : decode c.code (pc + 4) = .ok (.ldc is, 2) := by rw [hb]; exact d4
  have hstr' : vk_R own is text sa s' := vk_R.warm hW0 hstr
  obtain ⟨U, hsteps, hrun, hend, hW, hsame, ce, hce, hO⟩ := X₁.ctorThrowS hexec htr (own := own) (cls := cls) (names := names) (ic := ic) hown' hcls hnames h (fun x hx => nomatch hx) hfX hkX hcellA (by rw [hhp, hT]; exact Nat.le_refl _) (msg := .ref sa) rfl
    (g := { method := m, pc := pc + 6, locals := ls, stack := .ref sa :: .ref T.heap.size :: .ref T.heap.size :: rest, locked := none }) rfl hsize rfl rfl (rest := rest) rfl
    (by rw [hb]; exact d6) (by rw [hb]; exact d9) hout hRframes (by simp only [List.map_cons, List.sum_cons, hcat]; omega) hlocks
  obtain ⟨f1, f2⟩ := vx_frame hsame
  rw [hhp] at f1 f2
  have hWs : s.WarmedH U.vm := State.WarmedH.trans hW0 hW
  have hcl : s.vm.findClass cls = some ce.cls := by
    have h9 := hO.cls
    rw [hvm] at h9
    exact h9
  have hall : s.sameButNew ({ U with vm := s.vm } : State) locs mc ms := by
    subst hA
    obtain ⟨e1, e2⟩ := hsame
    rw [State.setFrames_setFrames] at e1
    have h2 : (T.setVm s.vm).sameButNew ({ U with vm := s.vm } : State) [] (0 + 1) (0 + 6) := ⟨e1, e2⟩
    have h3 := X.same.trans h2
    rw [List.append_nil] at h3
    exact h3.mono hc hs
  refine ⟨U, ?_, .threw T.heap.size, hrun, hend, Or.inr ⟨T.heap.size, rfl, cls, ce, locs, hx U hWs.alike f1 (fun q hq => f2 q hq (fun z hz => nomatch hz)), hce, hO.vm, hcl, hWs, hall, hf⟩⟩
  refine st1 _ ?_
  show Steps p.tables e below (T1.setTop { method := m, pc := pc + 3, locals := ls, stack := .ref T.heap.size :: rest, locked := none }) _
  jvm_step X₁.here [X₁.here.top, hexec, d3', Value.category]
  exact X₁.ldcString hexec (own := own) (text := text) (index := is) (a := sa) hown' hstr'.1 hstr'.2
    (g := { method := m, pc := pc + 4, locals := ls, stack := .ref T.heap.size :: .ref T.heap.size :: rest, locked := none }) rfl d4' _ hsteps
/-- 'throw new E("text")', the text by a wide index -/
theorem vx_throwSW {cc : ByteArray} {pc : Nat} (hexec : p.tables.exec = Jvm.exec) (hb : c.code = cc) (hl : l.stackTraces = false) {own cls text : String} {names : List String} {ik is ic mc ms sa : Nat} {A : Nat → Prop}
    (hown : s.vm.findClass own = some m.cls) (hcls : Bundle.fit cls = true) (hnames : ∀ n ∈ names, Bundle.fit n = true)
    (hk : (Cond.classLink own ik cls).before args s = true) (hini : (Cond.initialized cls).before args s = true) (hstr : vk_R own is text sa s) (hat : ∀ w ∈ vx_atS own ic cls names, w.before args s = true)
    (hgood : ∀ w ∈ Cond.classLink own ik cls :: Cond.initialized cls :: vx_atS own ic cls names, vx_ot w = true)
    (hU : vx_Zq Bundle.tN "UNASSIGNED_STACK" Bundle.steD A s s.heap) (hN : vx_Zq Bundle.tN "SUPPRESSED_SENTINEL" Bundle.listD A s s.heap) (hS : va_S A s.heap H locs) (hsize : ls.size = c.maxLocals)
    (d0 : decode cc pc = .ok (.new ik, 3)) (d3 : decode cc (pc + 3) = .ok (.dup, 1)) (d4 : decode cc (pc + 4) = .ok (.ldc_w is, 3)) (d7 : decode cc (pc + 7) = .ok (.invokespecial ic, 3)) (d10 : decode cc (pc + 10) = .ok (.athrow, 1))
    (hout : ∀ x ∈ c.exceptionTable.toList, covers x (pc + 10) = false)
    (hRframes : names.length + 3 < R.frames) (hRlocals : (rest.map fun v => v.category).sum + (13 * (names.length + 1) + 43) ≤ R.locals) (hRcells : cells + 1 ≤ R.cells) (hRslots : slots + 6 ≤ R.slots) (hlocks : meth.locks = false)
    (hx : ∀ t : State, s.vm.Alike t.vm → H.size ≤ t.heap.size → (∀ q : Nat, q < H.size → t.heap[q]? = H[q]?) → XC cls s t)
    (hf : ∀ z ∈ locs, free z.base) (hc : cells + 1 ≤ mc) (hs : slots + 6 ≤ ms) :
    W p l e R s m args below meth c H locs cells slots (vx_MQ below Qc XC args s mc ms free) (F0 m pc ls rest) := by
  intro T hT X
  have htr : e.platform.stackTraces = false := (show e.platform.stackTraces = l.stackTraces by rw [X.admits.platform]).trans hl
  have Y := vx_rebase X (R' := { frames := R.frames, locals := R.locals, cells := 1, slots := 6 }) (Nat.le_refl _) (Nat.le_refl _) hRcells hRslots
  obtain ⟨s', hA⟩ : ∃ z, z = (T.setVm s.vm).setFrames (.invoking m args :: below) := ⟨_, rfl⟩
  rw [← hA] at Y
  have hvm : s'.vm = s.vm := by rw [hA]; rfl
  have hhp : s'.heap = H := by rw [hA]; exact hT
  have hW0 : s.WarmedH s'.vm := by rw [hvm]; exact State.WarmedH.refl s
  have hat' : ∀ w ∈ vx_atS own ic cls names, w.before args s' = true := fun w hw => vx_ot_at hW0 hvm.symm (hgood w (List.mem_cons_of_mem _ (List.mem_cons_of_mem _ hw))) (hat w hw)
  have hk' : (Cond.classLink own ik cls).before args s' = true := vx_ot_at hW0 hvm.symm (hgood _ List.mem_cons_self) hk
  have hini' : (Cond.initialized cls).before args s' = true := vx_ot_at hW0 hvm.symm (hgood _ (List.mem_cons_of_mem _ List.mem_cons_self)) hini
  have hU' : vx_Zq Bundle.tN "UNASSIGNED_STACK" Bundle.steD A s' s'.heap := by rw [hhp]; exact vx_Zq.moved hW0.alike (hU.kept hS.2.1)
  have hN' : vx_Zq Bundle.tN "SUPPRESSED_SENTINEL" Bundle.listD A s' s'.heap := by rw [hhp]; exact vx_Zq.moved hW0.alike (hN.kept hS.2.1)
  have h : ∀ w ∈ Bundle.ownAtoms own ic cls names, w.before args s' = true := vx_own hat' (vx_isRefq hU'.1) (vx_isRefq hN'.1) hU'.2.word hN'.2.word
  have hown' : s'.vm.findClass own = some m.cls := by rw [hvm]; exact hown
  have hins : (Cond.instantiable cls 6).before args s' = true := h _ (by simp [Bundle.ownAtoms])
  obtain ⟨vm₁, cX, kX, hfX, hkX, -, -, X₁, st1⟩ := Y.newCold hexec (own := own) (C := cls) (index := ik) (n := 6) hown' hk' hins hini'
    (g := F0 m pc ls rest) rfl (by rw [hb]; exact d0) (Nat.le_refl _) (Nat.le_refl _)
  generalize hT1 : (T.setVm vm₁).pushCell { cls := cX, slots := kX.instanceTypes.map defaultValue, vm := .none } = T1 at X₁ st1
  have hcat : (Value.ref T.heap.size).category = 1 := rfl
  have hcellA : T1.heap[T.heap.size]? = some (freshCell cX kX) := by rw [← hT1]; exact State.heap_pushCell_size _ _
  have d3' : decode c.code (pc + 3) = .ok (.dup, 1) := by rw [hb]; exact d3
  have d4' : decode c.code (pc + 4) = .ok (.ldc_w is, 3) := by rw [hb]; exact d4
  have hstr' : vk_R own is text sa s' := vk_R.warm hW0 hstr
  obtain ⟨U, hsteps, hrun, hend, hW, hsame, ce, hce, hO⟩ := X₁.ctorThrowS hexec htr (own := own) (cls := cls) (names := names) (ic := ic) hown' hcls hnames h (fun x hx => nomatch hx) hfX hkX hcellA (by rw [hhp, hT]; exact Nat.le_refl _) (msg := .ref sa) rfl
    (g := { method := m, pc := pc + 7, locals := ls, stack := .ref sa :: .ref T.heap.size :: .ref T.heap.size :: rest, locked := none }) rfl hsize rfl rfl (rest := rest) rfl
    (by rw [hb]; exact d7) (by rw [hb]; exact d10) hout hRframes (by simp only [List.map_cons, List.sum_cons, hcat]; omega) hlocks
  obtain ⟨f1, f2⟩ := vx_frame hsame
  rw [hhp] at f1 f2
  have hWs : s.WarmedH U.vm := State.WarmedH.trans hW0 hW
  have hcl : s.vm.findClass cls = some ce.cls := by
    have h9 := hO.cls
    rw [hvm] at h9
    exact h9
  have hall : s.sameButNew ({ U with vm := s.vm } : State) locs mc ms := by
    subst hA
    obtain ⟨e1, e2⟩ := hsame
    rw [State.setFrames_setFrames] at e1
    have h2 : (T.setVm s.vm).sameButNew ({ U with vm := s.vm } : State) [] (0 + 1) (0 + 6) := ⟨e1, e2⟩
    have h3 := X.same.trans h2
    rw [List.append_nil] at h3
    exact h3.mono hc hs
  refine ⟨U, ?_, .threw T.heap.size, hrun, hend, Or.inr ⟨T.heap.size, rfl, cls, ce, locs, hx U hWs.alike f1 (fun q hq => f2 q hq (fun z hz => nomatch hz)), hce, hO.vm, hcl, hWs, hall, hf⟩⟩
  refine st1 _ ?_
  show Steps p.tables e below (T1.setTop { method := m, pc := pc + 3, locals := ls, stack := .ref T.heap.size :: rest, locked := none }) _
  jvm_step X₁.here [X₁.here.top, hexec, d3', Value.category]
  exact X₁.ldcStringW hexec (own := own) (text := text) (index := is) (a := sa) hown' hstr'.1 hstr'.2
    (g := { method := m, pc := pc + 4, locals := ls, stack := .ref T.heap.size :: .ref T.heap.size :: rest, locked := none }) rfl d4' _ hsteps
end Ends
section Bodies
variable {l : Launch}
theorem vx_ofW {y : MethodName} {ws ws' : List Cond} {rm : Room} {Pc : Array Value → State → Prop} {Qc : Array Value → State → Outcome → State → Prop} {XC : String → State → State → Prop} {mc ms : Nat} {free : Addr → Prop} {cc : ByteArray} {maxL : Nat} {ret : Option FieldType}
    (hy : plainName y.cls = true) (hw : ws = Cond.code y cc maxL ret :: ws')
    (body : ∀ p e s m args below meth c s₁, BodyLoose p l y (headSpec ws rm) cc maxL ret e s m args below meth c s₁ → c.maxLocals = maxL → (∀ x ∈ c.exceptionTable.toList, False) → Pc args s →
      W p l e (headSpec ws rm).room s m args below meth c s.heap [] 0 0 (vx_MQ below Qc XC args s mc ms free) (entryFrame m args maxL)) : vx_Met l y ws rm Pc Qc XC mc ms free := by
  refine MetFree.of_bodyS (code := cc) (maxLocals := maxL) (ret := ret) hy ?_ ?_
  · intro args s m h hn
    obtain ⟨meth, c, h1, h2, h3, h4, h5, h6, -, -⟩ := Cond.code_spec hn (atoms_spec (ws := ws) h _ (by rw [hw]; exact List.mem_cons_self))
    exact ⟨meth, c, h1, h2, h3, h4, h5, h6⟩
  · intro p e s m args below meth c s₁ B hml hP _
    have hh0 : s₁.heap = s.heap := by rw [B.state]; rfl
    have ht : ∀ x ∈ c.exceptionTable.toList, False := by
      obtain ⟨meth9, c9, h1, h2, -, -, -, -, h7, -⟩ := Cond.code_spec B.named (atoms_spec (ws := ws) B.pre _ (by rw [hw]; exact List.mem_cons_self))
      cases Option.some.inj (h1.symm.trans B.method)
      cases Option.some.inj (h2.symm.trans (Stand.of_body B).code)
      intro x hx
      rw [Array.isEmpty_iff.mp h7] at hx
      cases hx
    obtain ⟨t, a1, o, b1, b2, b3⟩ := body p e s m args below meth c s₁ B hml ht hP s₁ hh0 (Stand.of_body B)
    exact ⟨t, o, a1, b1, b2, b3⟩
/-- the table of a body with handlers -/
theorem vx_table {p : Program} {x y : MethodName} {S : Spec} {cc bytes : ByteArray} {maxL maxL' : Nat} {ret ret' : Option FieldType} {e : Env} {s s₁ : State} {m : MethodId} {args : Array Value} {below : List Frame} {meth : Method} {c : Code} {hh : List (Nat × Nat × Nat × Nat)}
    (B : BodyLoose p l y S cc maxL ret e s m args below meth c s₁) (h : (Cond.codeWith y bytes maxL' ret' hh).before args s = true) : c.exceptionTable.toList = tableOf hh := by
  obtain ⟨m9, meth9, c9, hn9, h1, h2, -, -, h6, -⟩ := Cond.codeWith_spec h
  cases Option.some.inj (hn9.symm.trans B.named)
  cases Option.some.inj (h1.symm.trans B.method)
  cases Option.some.inj (h2.symm.trans (Stand.of_body B).code)
  rw [← h6, table_eq]
end Bodies
end VXA
/-! ===== END ===== -/
/-! ===== BEGIN a static call of a method with an exception table ===== -/
section VXS
variable {p : Program} {l : Launch} {e : Env} {R : Room} {s : State} {m : MethodId} {args : Array Value} {below : List Frame} {meth : Method} {c : Code} {T : State} {H : Heap} {locs : List Loc} {cells slots : Nat}
abbrev vx_CSW (R : Room) (s : State) (args : Array Value) (own : String) (index : Nat) (y : MethodName) (bytes : ByteArray) (maxL : Nat) (ret : Option FieldType) (hh : List (Nat × Nat × Nat × Nat)) (ws : List Cond) (rm : Room) (mc ms n : Nat) : Prop :=
  (rm.cells = mc ∧ rm.slots = ms ∧ rm.frames + 1 ≤ R.frames ∧ 8 + (maxL + 11) + rm.locals ≤ R.locals ∧ (∀ w ∈ ws, ∀ (a' : Array Value) (U : State), s.WarmedH U.vm → w.before a' U = true) ∧ Cond.codeWith y bytes maxL ret hh ∈ ws) ∧
  (Cond.codeWith y bytes maxL ret hh).before args s = true ∧ (Cond.initialized y.cls).before args s = true ∧ (y.cls ≠ "java/lang/invoke/MethodHandle" ∧ y.cls ≠ "java/lang/invoke/VarHandle") ∧
  (∀ sig, parseMethodDescriptor y.desc = some sig → n = sig.parameters.length) ∧ (Cond.methodLink own index y).before args s = true ∧ (Cond.static y).before args s = true
theorem vx_cwSW {own : String} {index maxL mc ms : Nat} {y : MethodName} {bytes : ByteArray} {ret : Option FieldType} {hh : List (Nat × Nat × Nat × Nat)} {Ts ws ws' : List Cond} {rm : Room} (n : Nat) (ht : ∀ w ∈ Ts, w.before args s = true) (hT : GoodIn Ts (va_wsS own index y ws)) (hw : ws = Cond.codeWith y bytes maxL ret hh :: ws') (hrc : rm.cells = mc) (hrs : rm.slots = ms)
    (hd : y.cls ≠ "java/lang/invoke/MethodHandle" ∧ y.cls ≠ "java/lang/invoke/VarHandle" ∧ (parseMethodDescriptor y.desc).map (fun d => d.parameters.length) = some n) (hR : rm.frames + 1 ≤ R.frames ∧ 8 + (maxL + 11) + rm.locals ≤ R.locals) :
    vx_CSW R s args own index y bytes maxL ret hh ws rm mc ms n := by
  have ok : ∀ w ∈ va_wsS own index y ws, w.before args s = true := fun w h => ht w (hT w h).1
  have hG : GoodIn Ts ws := fun w h => hT w (by unfold va_wsS; exact List.mem_append_right _ h)
  have hc : Cond.codeWith y bytes maxL ret hh ∈ ws := by rw [hw]; exact List.mem_cons_self
  refine ⟨⟨hrc, hrs, hR.1, hR.2, pay_in ht hG, hc⟩, ht _ (hG _ hc).1, ok _ (by simp [va_wsS]), ⟨hd.1, hd.2.1⟩, fun sig h => ?_, ok _ (by simp [va_wsS]), ok _ (by simp [va_wsS])⟩
  have h2 := hd.2.2
  rw [h] at h2
  exact (Option.some.inj h2).symm
theorem vx_callSW (X : Stand p l e R s m args below meth c T locs cells slots) (hexec : p.tables.exec = Jvm.exec) {own : String} {index : Nat} {y : MethodName} {bytes : ByteArray} {maxL : Nat} {ret : Option FieldType} {hh : List (Nat × Nat × Nat × Nat)}
    (hown : s.vm.findClass own = some m.cls) (hlink : (Cond.methodLink own index y).before args s = true) (hstat : (Cond.static y).before args s = true) (hinit : (Cond.initialized y.cls).before args s = true)
    (hcode : (Cond.codeWith y bytes maxL ret hh).before args s = true) (hy : y.cls ≠ "java/lang/invoke/MethodHandle" ∧ y.cls ≠ "java/lang/invoke/VarHandle")
    {W9 : Nat} {Pre : Pt → Array Value → Prop} {Post : Pt → Array Value → Option Value → Pt → Prop} (hK : Back l R p e below s args y 3 W9 Pre Post)
    {g : JFrame} (hg : g.method = m) (hsize : g.locals.size = c.maxLocals) {argsL rest : List Value} (hlen : ∀ sig, parseMethodDescriptor y.desc = some sig → argsL.length = sig.parameters.length)
    (hstack : g.stack = argsL.reverse ++ rest) (hW : 2 * g.monitorRoom + (rest.map fun v => v.category).sum ≤ W9) (hdg : decode c.code g.pc = .ok (.invokestatic index, 3))
    (hpre : ∀ vm₁, s.WarmedH vm₁ → Pre ⟨T.setVm vm₁, locs, cells, slots⟩ argsL.toArray) :
    ∃ (v : Option Value) (vm₁ : Vm) (B : Pt), s.WarmedH vm₁ ∧ Stand p l e R s m args below meth c B.U B.locs B.cells B.slots ∧ Post ⟨T.setVm vm₁, locs, cells, slots⟩ argsL.toArray v B ∧
      ∀ target, Steps p.tables e below (B.U.setTop { g with pc := g.pc + 3, stack := v.toList ++ rest }) target → Steps p.tables e below (T.setTop g) target := by
  obtain ⟨mk, methM, cM, hnamed, hmethM, -, -, -, -, -, -, hsigM⟩ := Cond.codeWith_spec hcode
  have hstatic : methM.isStatic = true := Cond.static_spec hnamed hmethM hstat
  obtain ⟨kP, hkP, -⟩ := className_of_methodNamed hnamed
  have hinitP : kP.init = .initialized := Cond.initialized_spec (findClass_of_methodNamed hnamed) hkP hinit
  obtain ⟨vm₁, X₁, hstep₁⟩ := X.invokestatic hexec hown hlink hnamed hmethM hstatic hkP hinitP hy (g := g) hg (argsL := argsL) (rest := rest) (hlen _ hsigM) hstack hdg
  obtain ⟨v, B, X', hpost, hsteps⟩ := hK m meth c ⟨T.setVm vm₁, locs, cells, slots⟩ { g with stack := rest } (.invokestatic index) mk argsL.toArray X₁ hg hsize hdg hW (X₁.named hnamed) (hpre vm₁ X₁.warmed)
  exact ⟨v, vm₁, B, X₁.warmed, X', hpost, fun target h => hstep₁ _ fun acts => by rw [doInvoke_state]; exact hsteps.trans h⟩
theorem vx_runSW {y : MethodName} {bytes cc : ByteArray} {maxL nL mc ms n index : Nat} {ret : Option FieldType} {hh : List (Nat × Nat × Nat × Nat)} {ws : List Cond} {rm : Room} {Pc : Array Value → State → Prop} {Qc : Array Value → State → Outcome → State → Prop} {free : Addr → Prop} {Ts : List Cond} {own : String} {As rest : List Value} {g : JFrame}
    (S : CallFix p m c cc nL s args Ts own) (hM : Met l y ws rm Pc Qc mc ms free) (cw : vx_CSW R s args own index y bytes maxL ret hh ws rm mc ms n) (hp : PreS s H Pc As)
    (hg : g.method = m) (hn : As.length = n) (hsize : g.locals.size = nL) (hstack : g.stack = As.reverse ++ rest) (hW : 2 * g.monitorRoom + (rest.map fun v => v.category).sum ≤ 8) (hdg : decode cc g.pc = .ok (.invokestatic index, 3)) (hf : cells + mc ≤ R.cells ∧ slots + ms ≤ R.slots) :
    va_Run p l e R s m args below meth c H locs cells slots mc ms g rest (Qc As.toArray) (free) := by
  obtain ⟨⟨hrc, hrs, hfr, hlo, hws, hcw⟩, hcode, hini, hy, hlen, hl, hstt⟩ := cw
  have hK : Back l R p e below s args y 3 8 (PreOf R mc ms Pc) (PostOf Qc mc ms free) := va_backW (hh := hh) (bytes := bytes) (maxL := maxL) (ret := ret) hM hp.1 hrc hrs hfr hlo hws hcw (fun a' U hW => word_at hW (Or.inl (by first | rfl | simp [Cond.onTables, Cond.keeps, Cond.steady])) hini)
  obtain ⟨hx, hb, hml, ho, -⟩ := S
  intro T hT X
  obtain ⟨v, vm₁, ⟨U', l2, c2, s2⟩, hW₁, X', ⟨g', mk, t, L, e1, e2, hq, h1, hL, h2, h3⟩, st⟩ := vx_callSW X hx (hh := hh) (bytes := bytes) (maxL := maxL) (ret := ret) ho hl hstt hini hcode hy hK hg (hsize.trans hml.symm) (argsL := As) (rest := rest) (fun sig h => hn.trans (hlen sig h)) hstack hW (by rw [hb]; exact hdg)
    (fun vm₁ hW₁ => ⟨hf.1, hf.2, hp.2 (T.setVm vm₁) hT hW₁⟩)
  dsimp only [Pt.U, Pt.locs, Pt.cells, Pt.slots] at X' e1 e2 h1 h2 h3 st
  subst h1; subst h2; subst h3
  exact ⟨v, (T.setVm vm₁).calling g' mk As.toArray, t, U', L, hT, X', hL, e1, e2, hq, st⟩
/-- not caught here, past rows that name other classes: it goes on to the caller -/
theorem vx_outP {p : Program} {l : Launch} {e : Env} {R : Room} {s : State} {m : MethodId} {args : Array Value} {below : List Frame} {meth : Method} {c : Code} {H : Heap} {locs : List Loc} {cells slots : Nat} {free : Addr → Prop} {ls : Array Slot} {rest : List Value} {Qc : Array Value → State → Outcome → State → Prop} {XC : String → State → State → Prop}
    {pc : Nat} {own E : String} {ce : Cell} {q : Addr} {mc ms : Nat} (hown : s.vm.findClass own = some m.cls) (hlocks : meth.locks = false)
    (hpass : ∀ z ∈ c.exceptionTable.toList, covers z pc = false ∨ (z.catchType ≠ 0 ∧ ∃ nm : String, (Cond.classLink own z.catchType nm).before args s = true ∧ va_Nc E nm s)) (hcell : H[q]? = some ce) (hv : ce.vm = .none) (hcl : s.vm.findClass E = some ce.cls)
    (hx : ∀ t : State, t.heap = H → s.vm.Alike t.vm → XC E s t) (hf : ∀ z ∈ locs, free z.base) (hc : cells ≤ mc) (hs : slots ≤ ms) :
    vx_W p l e R s m args below meth c H locs cells slots (vx_MQ below Qc XC args s mc ms free) (F0 m pc ls rest) q := by
  intro T hT X
  have hpl : e.platform.magicAccessors = ({} : Platform).magicAccessors := by rw [X.admits.platform]
  obtain ⟨vm', hW', X', st⟩ := X.outThrough hlocks q (g := F0 m pc ls rest) rfl rfl rfl (cell := ce) (by rw [hT]; exact hcell) (by rw [hv]; rfl)
    (by obtain ⟨k9, h9, -⟩ := Vm.findClass_spec hcl; exact ⟨k9, h9⟩) (fun z hz => by
      rcases hpass z hz with h | ⟨hz0, nm, hl1, hn1⟩
      · exact Or.inl h
      · obtain ⟨c6, hc6, hcl6⟩ := Cond.classLink_spec hown hl1 e.platform hpl
        obtain ⟨a8, b8, h1, h2, h3⟩ := hn1
        cases Option.some.inj (h1.symm.trans hcl)
        cases Option.some.inj (h2.symm.trans hc6)
        exact Or.inr ⟨hz0, _, hcl6, h3⟩)
  obtain ⟨g₀, hfr⟩ := X'.frames_eq
  have hcell9 : ((T.setVm vm').setFrames (.throwing q :: below)).heap[q]? = some ce := by
    show T.heap[q]? = some ce
    rw [hT]; exact hcell
  have hend : Ended ((T.setVm vm').setFrames (.throwing q :: below)) below (.threw q) := State.frames_setFrames _ (State.cur_lt_of_frames hfr)
  refine ⟨(T.setVm vm').setFrames (.throwing q :: below), ?_, .threw q, X'.here.running, hend, Or.inr ⟨q, rfl, E, ce, locs, hx _ hT (X'.ends _).1.alike, hcell9, hv, hcl, (X'.ends _).1, (X'.ends _).2.mono hc hs, hf⟩⟩
  rw [X.pushThrowing_eq]
  exact st
/-- a thing of a world lies in the heap -/
theorem vx_lt {D : va_G} {cl : List vw_C} {ws : va_W} {H1 : Heap} (h : va_P D cl ws H1) {k : Nat} {q : Nat × va_E} (hk : ws[k]? = some q) : q.1 < H1.size := (h k q hk).lt
end VXS
/-! ===== END ===== -/
/-! ===== BEGIN methods with a table of their own: called by a name, returning or throwing ===== -/
section VXH
/-! vx_backW, vx_callVX, vx_callSX, vx_callVW, vx_runVW, vx_runVX, vx_runSX, vx_ofWH follow the same proofs as their sisters above (Free/Laws.lean, Shelf42/LK1.lean); vx_outP calls Shelf42/NT130.lean (outThrough). -/
section
variable {l : Launch} {R : Room} {p : Program} {e : Env} {below : List Frame} {s : State} {sargs : Array Value} {y : MethodName} {len W9 : Nat}
theorem vx_backW {ws : List Cond} {rm : Room} {Pc : Array Value → State → Prop} {Qc : Array Value → State → Outcome → State → Prop} {XC : String → State → State → Prop} {mc ms : Nat} {free : Addr → Prop} {bytes : ByteArray} {maxL : Nat} {ret : Option FieldType} {hh : List (Nat × Nat × Nat × Nat)}
    (hM : vx_Met l y ws rm Pc Qc XC mc ms free) (hblind : FrameBlind Pc) (hrc : rm.cells = mc) (hrs : rm.slots = ms)
    (hframes : rm.frames + 1 ≤ R.frames) (hlocals : W9 + (maxL + 11) + rm.locals ≤ R.locals)
    (hws : ∀ w ∈ ws, ∀ a' U, s.WarmedH U.vm → w.before a' U = true) (hcode : Cond.codeWith y bytes maxL ret hh ∈ ws) (hinit : ∀ a' U, s.WarmedH U.vm → (Cond.initialized y.cls).before a' U = true) :
    vx_Back l R p e below s sargs y len W9 (PreOf R mc ms Pc) (PostOf Qc mc ms free) (vx_Post XC mc ms free) := by
  intro m meth c A g ig mk a X hg hsize hdg hW hn hp
  have h1 : (headSpec ws rm).pre.before a A.U = true := atoms_intro fun w hw => hws w hw _ _ X.warmed
  have h2 : (Cond.codeWith y bytes maxL ret hh).before a A.U = true := hws _ hcode _ _ X.warmed
  have h3 : (Cond.initialized y.cls).before a A.U = true := hinit _ _ X.warmed
  have h4 : A.cells + (headSpec ws rm).room.cells ≤ R.cells := by rw [show (headSpec ws rm).room.cells = mc from hrc]; exact hp.1
  have h5 : A.slots + (headSpec ws rm).room.slots ≤ R.slots := by rw [show (headSpec ws rm).room.slots = ms from hrs]; exact hp.2.1
  have hPc : Pc a (A.U.calling g mk a) := hblind _ _ _ _ hp.2.2
  obtain ⟨U, Ls, c0, s0⟩ := A
  dsimp only [Pt.U, Pt.locs, Pt.cells, Pt.slots] at h1 h2 h3 h4 h5 X hn hPc ⊢
  obtain ⟨m9, methY, cY, hn9, hmY, hcY, -, hlY, -⟩ := Cond.codeWith_spec h2
  cases Option.some.inj (hn9.symm.trans hn)
  obtain ⟨kY, hkY, -⟩ := className_of_methodNamed hn
  have hinitY : kY.init = .initialized := Cond.initialized_spec (findClass_of_methodNamed hn) hkY h3
  have h : At U g.method c below := by rw [hg]; exact X.here
  have hlocals9 : W9 + (maxL + 11) + (headSpec ws rm).room.locals ≤ R.locals := hlocals
  have happ : (headSpec ws rm).appliesLoose y e.platform (U.calling g mk a) = true :=
    Spec.appliesLoose_calling (g := g) h hdg hn hkY hinitY
      (X.room_calling (g := g) (R' := (headSpec ws rm).room) hsize hmY hcY hframes (by rw [hlY]; omega) h4 h5) h1
  obtain ⟨mid, hmid⟩ := h.above
  have hfr : (U.setTop g).frames = (.java g :: mid) ++ below := by rw [State.frames_setTop' g h.top, hmid]; rfl
  obtain ⟨o, s₂, hsteps, -, hend, hq⟩ := Steps.callFree hM p X.admits X.cas X.clock (acts := []) hfr happ hPc trivial
  have hq' : vx_Q Qc XC mc ms free a (U.calling g mk a) o s₂ := hq
  rw [State.frames_setTop' g h.top] at hend
  obtain ⟨g₀, hg0⟩ := Option.isSome_iff_exists.mp h.top
  obtain ⟨r, hr⟩ := State.topJava?_eq_some.mp hg0
  have hr' : (({ U with heap := s₂.heap, slotsUsed := s₂.slotsUsed } : State).setVm s₂.vm).frames = .java g₀ :: r := hr
  rcases hq' with ⟨hqc, L, hfe, hL⟩ | ⟨q, rfl, E, ce, L, hx, hce, hcv, hcl, hW₂, hsm, hL⟩
  · obtain ⟨⟨v, rfl⟩, hW₂, e2, q2, q3, q4, q5, q6⟩ := id hfe
    have e3 : s₂ = ({ (U.calling g mk a).setFrames s₂.frames with heap := s₂.heap, slotsUsed := s₂.slotsUsed } : State).setVm s₂.vm := by
      have : s₂ = ({ s₂ with vm := (U.calling g mk a).vm } : State).setVm s₂.vm := rfl
      rw [e2] at this
      exact this
    obtain ⟨c₂, i₂, len₂, hc₂, hd₂, hf₂⟩ := hend
    have hW' : U.WarmedH s₂.vm := hW₂
    have hcc : c₂ = c := by
      have h1 : s₂.code? g.method = U.code? g.method := by
        rw [State.code?_eq, State.code?_eq, hW'.alike.method?]
      exact Option.some.inj (hc₂.symm.trans (h1.trans h.code))
    subst hcc
    have hlen : len₂ = len := by rw [hdg] at hd₂; cases hd₂; rfl
    subst hlen
    have hs₂ : s₂ = (({ U with heap := s₂.heap, slotsUsed := s₂.slotsUsed } : State).setVm s₂.vm).setTop { g with pc := g.pc + len₂, stack := v.toList ++ g.stack } := by
      refine e3.trans ?_
      rw [hf₂, State.calling_eq h.top, State.setFrames_setFrames, State.setTop_of_frames _ hr', hr]
      rfl
    have hsame : U.sameButNew ({ U with heap := s₂.heap, slotsUsed := s₂.slotsUsed } : State) L mc ms := by
      refine ⟨?_, q2, q3, q4, q5, q6⟩
      obtain ⟨t, ht, -⟩ := State.frames_cons hr
      show ({ U with heap := s₂.heap, slotsUsed := s₂.slotsUsed } : State) = { U.setFrames U.frames with heap := s₂.heap, slotsUsed := s₂.slotsUsed }
      rw [State.setFrames_self ht]
    subst hg
    refine Or.inl ⟨v, ⟨(({ U with heap := s₂.heap, slotsUsed := s₂.slotsUsed } : State).setVm s₂.vm), Ls ++ L, c0 + mc, s0 + ms⟩,
      ⟨X.admits, X.cas, X.clock, X.frames, X.room, X.hears, X.method, X.code, (X.here.setHeapUsed s₂.heap s₂.slotsUsed).setVm hW'.alike, X.tail, State.WarmedH.trans X.warmed hW', X.limits, X.bytes, X.same.trans (hsame.setVm s.vm)⟩,
      ⟨g, mk, s₂, L, rfl, rfl, hqc, rfl, hL, rfl, rfl⟩, ?_⟩
    show Steps p.tables e below _ ((({ U with heap := s₂.heap, slotsUsed := s₂.slotsUsed } : State).setVm s₂.vm).setTop { g with pc := g.pc + len₂, stack := v.toList ++ g.stack })
    rw [← hs₂]
    exact hsteps
  · obtain ⟨e2, q2, q3, q4, q5, q6⟩ := id hsm
    have e3 : s₂ = ({ (U.calling g mk a).setFrames s₂.frames with heap := s₂.heap, slotsUsed := s₂.slotsUsed } : State).setVm s₂.vm := by
      have : s₂ = ({ s₂ with vm := (U.calling g mk a).vm } : State).setVm s₂.vm := rfl
      rw [e2] at this
      exact this
    have hf₂ : s₂.frames = .throwing q :: .java g :: U.frames.tail := hend
    have hW' : U.WarmedH s₂.vm := hW₂
    have hs₂ : s₂ = ((({ U with heap := s₂.heap, slotsUsed := s₂.slotsUsed } : State).setVm s₂.vm).setTop g).pushFrame (.throwing q) := by
      refine e3.trans ?_
      rw [hf₂, State.calling_eq h.top, State.setFrames_setFrames, State.pushFrame, State.frames_setTop _ hr', State.setTop_of_frames _ hr', State.setFrames_setFrames, hr]
      rfl
    have hsame : U.sameButNew ({ U with heap := s₂.heap, slotsUsed := s₂.slotsUsed } : State) L mc ms := by
      refine ⟨?_, q2, q3, q4, q5, q6⟩
      obtain ⟨t, ht, -⟩ := State.frames_cons hr
      show ({ U with heap := s₂.heap, slotsUsed := s₂.slotsUsed } : State) = { U.setFrames U.frames with heap := s₂.heap, slotsUsed := s₂.slotsUsed }
      rw [State.setFrames_self ht]
    subst hg
    refine Or.inr ⟨q, ⟨(({ U with heap := s₂.heap, slotsUsed := s₂.slotsUsed } : State).setVm s₂.vm), Ls ++ L, c0 + mc, s0 + ms⟩,
      ⟨X.admits, X.cas, X.clock, X.frames, X.room, X.hears, X.method, X.code, (X.here.setHeapUsed s₂.heap s₂.slotsUsed).setVm hW'.alike, X.tail, State.WarmedH.trans X.warmed hW', X.limits, X.bytes, X.same.trans (hsame.setVm s.vm)⟩,
      ⟨g, mk, s₂, L, E, ce, rfl, rfl, hx, hce, hcv, hcl, rfl, hL, rfl, rfl⟩, ?_⟩
    show Steps p.tables e below _ (((({ U with heap := s₂.heap, slotsUsed := s₂.slotsUsed } : State).setVm s₂.vm).setTop g).pushFrame (.throwing q))
    rw [← hs₂]
    exact hsteps
end
variable {p : Program} {l : Launch} {e : Env} {R : Room} {s : State} {m : MethodId} {args : Array Value} {below : List Frame} {meth : Method} {c : Code} {T : State} {H : Heap} {locs : List Loc} {cells slots : Nat}
theorem vx_callVX (X : Stand p l e R s m args below meth c T locs cells slots) (hexec : p.tables.exec = Jvm.exec) {own C : String} {index : Nat} {y : MethodName} {bytes : ByteArray} {maxL : Nat} {ret : Option FieldType} {hh : List (Nat × Nat × Nat × Nat)}
    (hown : s.vm.findClass own = some m.cls) (hlink : (Cond.methodLink own index y).before args s = true) (hinst : (Cond.instanceMethod y).before args s = true) (hsel : (Cond.selects C y y).before args s = true)
    (hcode : (Cond.codeWith y bytes maxL ret hh).before args s = true) (hy : y.cls ≠ "java/lang/invoke/MethodHandle" ∧ y.cls ≠ "java/lang/invoke/VarHandle")
    {W9 : Nat} {Pre : Pt → Array Value → Prop} {Post : Pt → Array Value → Option Value → Pt → Prop} {PostX : Pt → Array Value → Addr → Pt → Prop} (hK : vx_Back l R p e below s args y 3 W9 Pre Post PostX)
    {b : Addr} {cellB : Cell} (hcell : T.heap[b]? = some cellB) (hobj : cellB.vm.isStatics = false) (hcls : s.vm.findClass C = some cellB.cls)
    {g : JFrame} (hg : g.method = m) (hsize : g.locals.size = c.maxLocals) {argsL rest : List Value} (hlen : ∀ sig, parseMethodDescriptor y.desc = some sig → argsL.length = sig.parameters.length)
    (hstack : g.stack = argsL.reverse ++ .ref b :: rest) (hW : 2 * g.monitorRoom + (rest.map fun v => v.category).sum ≤ W9) (hdg : decode c.code g.pc = .ok (.invokevirtual index, 3))
    (hpre : ∀ vm₁, s.WarmedH vm₁ → Pre ⟨T.setVm vm₁, locs, cells, slots⟩ (Value.ref b :: argsL).toArray) :
    (∃ (v : Option Value) (vm₁ : Vm) (B : Pt), s.WarmedH vm₁ ∧ Stand p l e R s m args below meth c B.U B.locs B.cells B.slots ∧ Post ⟨T.setVm vm₁, locs, cells, slots⟩ (Value.ref b :: argsL).toArray v B ∧
      ∀ target, Steps p.tables e below (B.U.setTop { g with pc := g.pc + 3, stack := v.toList ++ rest }) target → Steps p.tables e below (T.setTop g) target) ∨
    (∃ (q : Addr) (vm₁ : Vm) (B : Pt), s.WarmedH vm₁ ∧ Stand p l e R s m args below meth c B.U B.locs B.cells B.slots ∧ PostX ⟨T.setVm vm₁, locs, cells, slots⟩ (Value.ref b :: argsL).toArray q B ∧
      Steps p.tables e below (T.setTop g) ((B.U.setTop { g with stack := rest }).pushFrame (.throwing q))) := by
  obtain ⟨mk, methM, hnamed, hmethM, hstM, habM⟩ := Cond.instanceMethod_spec hinst
  obtain ⟨m8, methM', cM, hn8, hmethM', -, -, -, -, -, -, hsigM⟩ := Cond.codeWith_spec hcode
  cases Option.some.inj (hn8.symm.trans hnamed)
  cases hmethM.symm.trans hmethM'
  obtain ⟨c2, r2, m2, q1, q2, q3, q4, kP, hkP, hkPi⟩ := Cond.selects_spec hsel
  cases hcls.symm.trans q1
  cases (State.methodFound?_of_named hnamed hy).symm.trans q2
  cases hnamed.symm.trans q3
  have hselP : selectMethod e.platform s.vm cellB.cls mk = .method mk := by rw [Launch.admits_selectMethod X.admits]; exact q4
  obtain ⟨vm₁, X₁, hstep₁⟩ := X.invokevirtual hexec hown hlink hnamed hmethM hstM hkP hkPi hy (a := b) (cell := cellB) hcell
    (fun z h => by rw [h] at hobj; cases hobj) hselP hmethM habM hkP hkPi (g := g) hg (argsL := argsL) (rest := rest) (hlen _ hsigM) hstack hdg
  rcases hK m meth c ⟨T.setVm vm₁, locs, cells, slots⟩ { g with stack := rest } (.invokevirtual index) mk (Value.ref b :: argsL).toArray X₁ hg hsize hdg hW (X₁.named hnamed) (hpre vm₁ X₁.warmed) with ⟨v, B, X', hpost, hsteps⟩ | ⟨q, B, X', hpost, hsteps⟩
  · exact Or.inl ⟨v, vm₁, B, X₁.warmed, X', hpost, fun target h => hstep₁ _ fun acts => by rw [doInvoke_state]; exact hsteps.trans h⟩
  · exact Or.inr ⟨q, vm₁, B, X₁.warmed, X', hpost, hstep₁ _ fun acts => by rw [doInvoke_state]; exact hsteps⟩
theorem vx_callSX (X : Stand p l e R s m args below meth c T locs cells slots) (hexec : p.tables.exec = Jvm.exec) {own : String} {index : Nat} {y : MethodName} {bytes : ByteArray} {maxL : Nat} {ret : Option FieldType} {hh : List (Nat × Nat × Nat × Nat)}
    (hown : s.vm.findClass own = some m.cls) (hlink : (Cond.methodLink own index y).before args s = true) (hstat : (Cond.static y).before args s = true) (hinit : (Cond.initialized y.cls).before args s = true)
    (hcode : (Cond.codeWith y bytes maxL ret hh).before args s = true) (hy : y.cls ≠ "java/lang/invoke/MethodHandle" ∧ y.cls ≠ "java/lang/invoke/VarHandle")
    {W9 : Nat} {Pre : Pt → Array Value → Prop} {Post : Pt → Array Value → Option Value → Pt → Prop} {PostX : Pt → Array Value → Addr → Pt → Prop} (hK : vx_Back l R p e below s args y 3 W9 Pre Post PostX)
    {g : JFrame} (hg : g.method = m) (hsize : g.locals.size = c.maxLocals) {argsL rest : List Value} (hlen : ∀ sig, parseMethodDescriptor y.desc = some sig → argsL.length = sig.parameters.length)
    (hstack : g.stack = argsL.reverse ++ rest) (hW : 2 * g.monitorRoom + (rest.map fun v => v.category).sum ≤ W9) (hdg : decode c.code g.pc = .ok (.invokestatic index, 3))
    (hpre : ∀ vm₁, s.WarmedH vm₁ → Pre ⟨T.setVm vm₁, locs, cells, slots⟩ argsL.toArray) :
    (∃ (v : Option Value) (vm₁ : Vm) (B : Pt), s.WarmedH vm₁ ∧ Stand p l e R s m args below meth c B.U B.locs B.cells B.slots ∧ Post ⟨T.setVm vm₁, locs, cells, slots⟩ argsL.toArray v B ∧
      ∀ target, Steps p.tables e below (B.U.setTop { g with pc := g.pc + 3, stack := v.toList ++ rest }) target → Steps p.tables e below (T.setTop g) target) ∨
    (∃ (q : Addr) (vm₁ : Vm) (B : Pt), s.WarmedH vm₁ ∧ Stand p l e R s m args below meth c B.U B.locs B.cells B.slots ∧ PostX ⟨T.setVm vm₁, locs, cells, slots⟩ argsL.toArray q B ∧
      Steps p.tables e below (T.setTop g) ((B.U.setTop { g with stack := rest }).pushFrame (.throwing q))) := by
  obtain ⟨mk, methM, cM, hnamed, hmethM, -, -, -, -, -, -, hsigM⟩ := Cond.codeWith_spec hcode
  have hstatic : methM.isStatic = true := Cond.static_spec hnamed hmethM hstat
  obtain ⟨kP, hkP, -⟩ := className_of_methodNamed hnamed
  have hinitP : kP.init = .initialized := Cond.initialized_spec (findClass_of_methodNamed hnamed) hkP hinit
  obtain ⟨vm₁, X₁, hstep₁⟩ := X.invokestatic hexec hown hlink hnamed hmethM hstatic hkP hinitP hy (g := g) hg (argsL := argsL) (rest := rest) (hlen _ hsigM) hstack hdg
  rcases hK m meth c ⟨T.setVm vm₁, locs, cells, slots⟩ { g with stack := rest } (.invokestatic index) mk argsL.toArray X₁ hg hsize hdg hW (X₁.named hnamed) (hpre vm₁ X₁.warmed) with ⟨v, B, X', hpost, hsteps⟩ | ⟨q, B, X', hpost, hsteps⟩
  · exact Or.inl ⟨v, vm₁, B, X₁.warmed, X', hpost, fun target h => hstep₁ _ fun acts => by rw [doInvoke_state]; exact hsteps.trans h⟩
  · exact Or.inr ⟨q, vm₁, B, X₁.warmed, X', hpost, hstep₁ _ fun acts => by rw [doInvoke_state]; exact hsteps⟩
theorem vx_callVW (X : Stand p l e R s m args below meth c T locs cells slots) (hexec : p.tables.exec = Jvm.exec) {own C : String} {index : Nat} {y : MethodName} {bytes : ByteArray} {maxL : Nat} {ret : Option FieldType} {hh : List (Nat × Nat × Nat × Nat)}
    (hown : s.vm.findClass own = some m.cls) (hlink : (Cond.methodLink own index y).before args s = true) (hinst : (Cond.instanceMethod y).before args s = true) (hsel : (Cond.selects C y y).before args s = true)
    (hcode : (Cond.codeWith y bytes maxL ret hh).before args s = true) (hy : y.cls ≠ "java/lang/invoke/MethodHandle" ∧ y.cls ≠ "java/lang/invoke/VarHandle")
    {W9 : Nat} {Pre : Pt → Array Value → Prop} {Post : Pt → Array Value → Option Value → Pt → Prop} (hK : Back l R p e below s args y 3 W9 Pre Post)
    {b : Addr} {cellB : Cell} (hcell : T.heap[b]? = some cellB) (hobj : cellB.vm.isStatics = false) (hcls : s.vm.findClass C = some cellB.cls)
    {g : JFrame} (hg : g.method = m) (hsize : g.locals.size = c.maxLocals) {argsL rest : List Value} (hlen : ∀ sig, parseMethodDescriptor y.desc = some sig → argsL.length = sig.parameters.length)
    (hstack : g.stack = argsL.reverse ++ .ref b :: rest) (hW : 2 * g.monitorRoom + (rest.map fun v => v.category).sum ≤ W9) (hdg : decode c.code g.pc = .ok (.invokevirtual index, 3))
    (hpre : ∀ vm₁, s.WarmedH vm₁ → Pre ⟨T.setVm vm₁, locs, cells, slots⟩ (Value.ref b :: argsL).toArray) :
    ∃ (v : Option Value) (vm₁ : Vm) (B : Pt), s.WarmedH vm₁ ∧ Stand p l e R s m args below meth c B.U B.locs B.cells B.slots ∧ Post ⟨T.setVm vm₁, locs, cells, slots⟩ (Value.ref b :: argsL).toArray v B ∧
      ∀ target, Steps p.tables e below (B.U.setTop { g with pc := g.pc + 3, stack := v.toList ++ rest }) target → Steps p.tables e below (T.setTop g) target := by
  obtain ⟨mk, methM, hnamed, hmethM, hstM, habM⟩ := Cond.instanceMethod_spec hinst
  obtain ⟨m8, methM', cM, hn8, hmethM', -, -, -, -, -, -, hsigM⟩ := Cond.codeWith_spec hcode
  cases Option.some.inj (hn8.symm.trans hnamed)
  cases hmethM.symm.trans hmethM'
  obtain ⟨c2, r2, m2, q1, q2, q3, q4, kP, hkP, hkPi⟩ := Cond.selects_spec hsel
  cases hcls.symm.trans q1
  cases (State.methodFound?_of_named hnamed hy).symm.trans q2
  cases hnamed.symm.trans q3
  have hselP : selectMethod e.platform s.vm cellB.cls mk = .method mk := by rw [Launch.admits_selectMethod X.admits]; exact q4
  obtain ⟨vm₁, X₁, hstep₁⟩ := X.invokevirtual hexec hown hlink hnamed hmethM hstM hkP hkPi hy (a := b) (cell := cellB) hcell
    (fun z h => by rw [h] at hobj; cases hobj) hselP hmethM habM hkP hkPi (g := g) hg (argsL := argsL) (rest := rest) (hlen _ hsigM) hstack hdg
  obtain ⟨v, B, X', hpost, hsteps⟩ := hK m meth c ⟨T.setVm vm₁, locs, cells, slots⟩ { g with stack := rest } (.invokevirtual index) mk (Value.ref b :: argsL).toArray X₁ hg hsize hdg hW (X₁.named hnamed) (hpre vm₁ X₁.warmed)
  exact ⟨v, vm₁, B, X₁.warmed, X', hpost, fun target h => hstep₁ _ fun acts => by rw [doInvoke_state]; exact hsteps.trans h⟩
abbrev vx_CVW (R : Room) (s : State) (args : Array Value) (own C : String) (index : Nat) (y : MethodName) (bytes : ByteArray) (maxL : Nat) (ret : Option FieldType) (hh : List (Nat × Nat × Nat × Nat)) (ws : List Cond) (rm : Room) (mc ms n : Nat) : Prop :=
  (rm.cells = mc ∧ rm.slots = ms ∧ rm.frames + 1 ≤ R.frames ∧ 8 + (maxL + 11) + rm.locals ≤ R.locals ∧ (∀ w ∈ ws, ∀ (a' : Array Value) (U : State), s.WarmedH U.vm → w.before a' U = true) ∧ Cond.codeWith y bytes maxL ret hh ∈ ws) ∧
  (Cond.codeWith y bytes maxL ret hh).before args s = true ∧ (Cond.initialized y.cls).before args s = true ∧ (y.cls ≠ "java/lang/invoke/MethodHandle" ∧ y.cls ≠ "java/lang/invoke/VarHandle") ∧
  (∀ sig, parseMethodDescriptor y.desc = some sig → n = sig.parameters.length) ∧ (Cond.methodLink own index y).before args s = true ∧ (Cond.instanceMethod y).before args s = true ∧ (Cond.selects C y y).before args s = true
theorem vx_cwVW {own C : String} {index maxL mc ms : Nat} {y : MethodName} {bytes : ByteArray} {ret : Option FieldType} {hh : List (Nat × Nat × Nat × Nat)} {Ts ws ws' : List Cond} {rm : Room} (n : Nat) (ht : ∀ w ∈ Ts, w.before args s = true) (hT : GoodIn Ts (wsV own index C y ws)) (hw : ws = Cond.codeWith y bytes maxL ret hh :: ws') (hrc : rm.cells = mc) (hrs : rm.slots = ms)
    (hd : y.cls = C ∧ y.cls ≠ "java/lang/invoke/MethodHandle" ∧ y.cls ≠ "java/lang/invoke/VarHandle" ∧ (parseMethodDescriptor y.desc).map (fun d => d.parameters.length) = some n) (hR : rm.frames + 1 ≤ R.frames ∧ 8 + (maxL + 11) + rm.locals ≤ R.locals) :
    vx_CVW R s args own C index y bytes maxL ret hh ws rm mc ms n := by
  obtain ⟨hC, hd⟩ := hd
  subst hC
  have ok : ∀ w ∈ wsV own index y.cls y ws, w.before args s = true := fun w h => ht w (hT w h).1
  have hG : GoodIn Ts ws := fun w h => hT w (by unfold wsV; exact List.mem_append_right _ h)
  have hc : Cond.codeWith y bytes maxL ret hh ∈ ws := by rw [hw]; exact List.mem_cons_self
  refine ⟨⟨hrc, hrs, hR.1, hR.2, pay_in ht hG, hc⟩, ht _ (hG _ hc).1, ok _ (by simp [wsV]), ⟨hd.1, hd.2.1⟩, fun sig h => ?_, ok _ (by simp [wsV]), ok _ (by simp [wsV]), ok _ (by simp [wsV])⟩
  have h2 := hd.2.2
  rw [h] at h2
  exact (Option.some.inj h2).symm
theorem vx_runVW {y : MethodName} {bytes cc : ByteArray} {maxL nL mc ms n index : Nat} {ret : Option FieldType} {hh : List (Nat × Nat × Nat × Nat)} {ws : List Cond} {rm : Room} {Pc : Array Value → State → Prop} {Qc : Array Value → State → Outcome → State → Prop} {free : Addr → Prop} {Ts : List Cond} {own C : String} {b : Addr} {As rest : List Value} {g : JFrame}
    (S : CallFix p m c cc nL s args Ts own) (hM : Met l y ws rm Pc Qc mc ms free) (cw : vx_CVW R s args own C index y bytes maxL ret hh ws rm mc ms n) (hp : PreV s H C b Pc As)
    (hg : g.method = m) (hn : As.length = n) (hsize : g.locals.size = nL) (hstack : g.stack = As.reverse ++ .ref b :: rest) (hW : 2 * g.monitorRoom + (rest.map fun v => v.category).sum ≤ 8) (hdg : decode cc g.pc = .ok (.invokevirtual index, 3)) (hf : cells + mc ≤ R.cells ∧ slots + ms ≤ R.slots) :
    va_Run p l e R s m args below meth c H locs cells slots mc ms g rest (Qc (Value.ref b :: As).toArray) free := by
  obtain ⟨⟨hrc, hrs, hfr, hlo, hws, hcw⟩, hcode, hini, hy, hlen, hl, hin, hse⟩ := cw
  have hK : Back l R p e below s args y 3 8 (PreOf R mc ms Pc) (PostOf Qc mc ms free) := va_backW (hh := hh) (bytes := bytes) (maxL := maxL) (ret := ret) hM hp.1 hrc hrs hfr hlo hws hcw (fun a' U hW => word_at hW (Or.inl (by first | rfl | simp [Cond.onTables, Cond.keeps, Cond.steady])) hini)
  obtain ⟨hx, hb, hml, ho, -⟩ := S
  obtain ⟨-, ⟨cellB, hcB, hoB, hclB⟩, hPc⟩ := hp
  intro T hT X
  obtain ⟨v, vm₁, ⟨U', l2, c2, s2⟩, hW₁, X', ⟨g', mk, t, L, e1, e2, hq, h1, hL, h2, h3⟩, st⟩ := vx_callVW X hx (C := C) (hh := hh) (bytes := bytes) (maxL := maxL) (ret := ret) ho hl hin hse hcode hy hK (by rw [hT]; exact hcB) hoB hclB hg (hsize.trans hml.symm) (argsL := As) (rest := rest) (fun sig h => hn.trans (hlen sig h)) hstack hW (by rw [hb]; exact hdg)
    (fun vm₁ hW₁ => ⟨hf.1, hf.2, hPc (T.setVm vm₁) hT hW₁⟩)
  dsimp only [Pt.U, Pt.locs, Pt.cells, Pt.slots] at X' e1 e2 h1 h2 h3 st
  subst h1; subst h2; subst h3
  exact ⟨v, (T.setVm vm₁).calling g' mk (Value.ref b :: As).toArray, t, U', L, hT, X', hL, e1, e2, hq, st⟩
section
variable {y : MethodName} {bytes cc : ByteArray} {maxL nL mc ms n index : Nat} {ret : Option FieldType} {ws : List Cond} {rm : Room} {Pc : Array Value → State → Prop} {Qc : Array Value → State → Outcome → State → Prop} {XC : String → State → State → Prop} {free : Addr → Prop} {Ts : List Cond} {own C : String} {b : Addr} {As rest : List Value} {g : JFrame}
theorem vx_runVX {hh : List (Nat × Nat × Nat × Nat)} (S : CallFix p m c cc nL s args Ts own) (hM : vx_Met l y ws rm Pc Qc XC mc ms free) (cw : vx_CVW R s args own C index y bytes maxL ret hh ws rm mc ms n) (hp : PreV s H C b Pc As)
    (hg : g.method = m) (hn : As.length = n) (hsize : g.locals.size = nL) (hstack : g.stack = As.reverse ++ .ref b :: rest) (hW : 2 * g.monitorRoom + (rest.map fun v => v.category).sum ≤ 8) (hdg : decode cc g.pc = .ok (.invokevirtual index, 3)) (hf : cells + mc ≤ R.cells ∧ slots + ms ≤ R.slots) :
    vx_Run p l e R s m args below meth c H locs cells slots mc ms g rest (Qc (Value.ref b :: As).toArray) XC free := by
  obtain ⟨⟨hrc, hrs, hfr, hlo, hws, hcw⟩, hcode, hini, hy, hlen, hl, hin, hse⟩ := cw
  have hK : vx_Back l R p e below s args y 3 8 (PreOf R mc ms Pc) (PostOf Qc mc ms free) (vx_Post XC mc ms free) := vx_backW (hh := hh) (bytes := bytes) (maxL := maxL) (ret := ret) hM hp.1 hrc hrs hfr hlo hws hcw (fun a' U hW => word_at hW (Or.inl (by first | rfl | simp [Cond.onTables, Cond.keeps, Cond.steady])) hini)
  obtain ⟨hx, hb, hml, ho, -⟩ := S
  obtain ⟨-, ⟨cellB, hcB, hoB, hclB⟩, hPc⟩ := hp
  intro T hT X
  rcases vx_callVX X hx (C := C) (hh := hh) (bytes := bytes) (maxL := maxL) (ret := ret) ho hl hin hse hcode hy hK (by rw [hT]; exact hcB) hoB hclB hg (hsize.trans hml.symm) (argsL := As) (rest := rest) (fun sig h => hn.trans (hlen sig h)) hstack hW (by rw [hb]; exact hdg)
    (fun vm₁ hW₁ => ⟨hf.1, hf.2, hPc (T.setVm vm₁) hT hW₁⟩) with ⟨v, vm₁, ⟨U', l2, c2, s2⟩, hW₁, X', ⟨g', mk, t, L, e1, e2, hq, h1, hL, h2, h3⟩, st⟩ | ⟨q, vm₁, ⟨U', l2, c2, s2⟩, hW₁, X', ⟨g', mk, t, L, E, ce, e1, e2, hq, hce, hcv, hcl, h1, hL, h2, h3⟩, st⟩
  · dsimp only [Pt.U, Pt.locs, Pt.cells, Pt.slots] at X' e1 e2 h1 h2 h3 st
    subst h1; subst h2; subst h3
    exact Or.inl ⟨v, (T.setVm vm₁).calling g' mk (Value.ref b :: As).toArray, t, U', L, hT, X', hL, e1, e2, hq, st⟩
  · dsimp only [Pt.U, Pt.locs, Pt.cells, Pt.slots] at X' e1 e2 h1 h2 h3 st hcl
    subst h1; subst h2; subst h3
    exact Or.inr ⟨q, (T.setVm vm₁).calling g' mk (Value.ref b :: As).toArray, t, U', L, E, ce, hT, X', hL, e1, e2, hq, hce, hcv, vx_cls hW₁ hcl, st⟩
theorem vx_runSX {hh : List (Nat × Nat × Nat × Nat)} (S : CallFix p m c cc nL s args Ts own) (hM : vx_Met l y ws rm Pc Qc XC mc ms free) (cw : vx_CSW R s args own index y bytes maxL ret hh ws rm mc ms n) (hp : PreS s H Pc As)
    (hg : g.method = m) (hn : As.length = n) (hsize : g.locals.size = nL) (hstack : g.stack = As.reverse ++ rest) (hW : 2 * g.monitorRoom + (rest.map fun v => v.category).sum ≤ 8) (hdg : decode cc g.pc = .ok (.invokestatic index, 3)) (hf : cells + mc ≤ R.cells ∧ slots + ms ≤ R.slots) :
    vx_Run p l e R s m args below meth c H locs cells slots mc ms g rest (Qc As.toArray) XC free := by
  obtain ⟨⟨hrc, hrs, hfr, hlo, hws, hcw⟩, hcode, hini, hy, hlen, hl, hstt⟩ := cw
  have hK : vx_Back l R p e below s args y 3 8 (PreOf R mc ms Pc) (PostOf Qc mc ms free) (vx_Post XC mc ms free) := vx_backW (hh := hh) (bytes := bytes) (maxL := maxL) (ret := ret) hM hp.1 hrc hrs hfr hlo hws hcw (fun a' U hW => word_at hW (Or.inl (by first | rfl | simp [Cond.onTables, Cond.keeps, Cond.steady])) hini)
  obtain ⟨hx, hb, hml, ho, -⟩ := S
  intro T hT X
  rcases vx_callSX X hx (hh := hh) (bytes := bytes) (maxL := maxL) (ret := ret) ho hl hstt hini hcode hy hK hg (hsize.trans hml.symm) (argsL := As) (rest := rest) (fun sig h => hn.trans (hlen sig h)) hstack hW (by rw [hb]; exact hdg)
    (fun vm₁ hW₁ => ⟨hf.1, hf.2, hp.2 (T.setVm vm₁) hT hW₁⟩) with ⟨v, vm₁, ⟨U', l2, c2, s2⟩, hW₁, X', ⟨g', mk, t, L, e1, e2, hq, h1, hL, h2, h3⟩, st⟩ | ⟨q, vm₁, ⟨U', l2, c2, s2⟩, hW₁, X', ⟨g', mk, t, L, E, ce, e1, e2, hq, hce, hcv, hcl, h1, hL, h2, h3⟩, st⟩
  · dsimp only [Pt.U, Pt.locs, Pt.cells, Pt.slots] at X' e1 e2 h1 h2 h3 st
    subst h1; subst h2; subst h3
    exact Or.inl ⟨v, (T.setVm vm₁).calling g' mk As.toArray, t, U', L, hT, X', hL, e1, e2, hq, st⟩
  · dsimp only [Pt.U, Pt.locs, Pt.cells, Pt.slots] at X' e1 e2 h1 h2 h3 st hcl
    subst h1; subst h2; subst h3
    exact Or.inr ⟨q, (T.setVm vm₁).calling g' mk As.toArray, t, U', L, E, ce, hT, X', hL, e1, e2, hq, hce, hcv, vx_cls hW₁ hcl, st⟩
end
end VXH
theorem vx_ofWH {l : Launch} {y : MethodName} {ws ws' : List Cond} {rm : Room} {Pc : Array Value → State → Prop} {Qc : Array Value → State → Outcome → State → Prop} {XC : String → State → State → Prop} {mc ms : Nat} {free : Addr → Prop} {cc : ByteArray} {maxL : Nat} {ret : Option FieldType} {hh : List (Nat × Nat × Nat × Nat)}
    (hy : plainName y.cls = true) (hw : ws = Cond.codeWith y cc maxL ret hh :: ws')
    (body : ∀ p e s m args below meth c s₁, BodyLoose p l y (headSpec ws rm) cc maxL ret e s m args below meth c s₁ → c.maxLocals = maxL → Pc args s →
      W p l e (headSpec ws rm).room s m args below meth c s.heap [] 0 0 (vx_MQ below Qc XC args s mc ms free) (entryFrame m args maxL)) : vx_Met l y ws rm Pc Qc XC mc ms free := by
  refine MetFree.of_bodyS (code := cc) (maxLocals := maxL) (ret := ret) hy ?_ ?_
  · intro args s m h hn
    obtain ⟨m9, meth, c, hn9, h1, h2, h3, h4, -, h5, h6, -⟩ := Cond.codeWith_spec (atoms_spec (ws := ws) h _ (by rw [hw]; exact List.mem_cons_self))
    cases hn.symm.trans hn9
    exact ⟨meth, c, h1, h2, h3, h4, h5, h6⟩
  · intro p e s m args below meth c s₁ B hml hP _
    have hh0 : s₁.heap = s.heap := by rw [B.state]; rfl
    obtain ⟨t, a1, o, b1, b2, b3⟩ := body p e s m args below meth c s₁ B hml hP s₁ hh0 (Stand.of_body B)
    exact ⟨t, o, a1, b1, b2, b3⟩
/-! ===== END ===== -/
end
section
-- ===== PART A: goes FIRST, ahead of the names: the tables' words, and 'selects' of the private methods out of them =====
/-- a private method of a class that the tables say can be made, by its rows of tables_1 -/
def lw_okq (q : MethodName × Nat) : Prop := (q.1.cls ≠ "java/lang/invoke/MethodHandle" ∧ q.1.cls ≠ "java/lang/invoke/VarHandle") ∧ Cond.instantiable q.1.cls q.2 ∈ tables_1 ∧ Cond.privateMethod q.1 ∈ tables_1 ∧ Cond.instanceMethod q.1 ∈ tables_1
theorem lw_p0 : lw_okq (⟨"java/lang/Throwable", "fillInStackTrace", "(I)Ljava/lang/Throwable;"⟩, 6) := ⟨⟨by decide +kernel, by decide +kernel⟩, List.mem_of_getElem? (i := 243) (by decide +kernel), List.mem_of_getElem? (i := 241) (by decide +kernel), List.mem_of_getElem? (i := 242) (by decide +kernel)⟩
theorem lw_p1 : lw_okq (⟨"LambdaBench", "requireSlot", "(I)V"⟩, 9) := ⟨⟨by decide +kernel, by decide +kernel⟩, List.mem_of_getElem? (i := 19) (by decide +kernel), List.mem_of_getElem? (i := 304) (by decide +kernel), List.mem_of_getElem? (i := 305) (by decide +kernel)⟩
theorem lw_p2 : lw_okq (⟨"LambdaBench$Grammar", "beginTerm", "(I)V"⟩, 5) := ⟨⟨by decide +kernel, by decide +kernel⟩, List.mem_of_getElem? (i := 58) (by decide +kernel), List.mem_of_getElem? (i := 313) (by decide +kernel), List.mem_of_getElem? (i := 314) (by decide +kernel)⟩
theorem lw_p3 : lw_okq (⟨"LambdaBench$Grammar", "accepts", "(II)Z"⟩, 5) := ⟨⟨by decide +kernel, by decide +kernel⟩, List.mem_of_getElem? (i := 58) (by decide +kernel), List.mem_of_getElem? (i := 322) (by decide +kernel), List.mem_of_getElem? (i := 323) (by decide +kernel)⟩
theorem lw_p4 : lw_okq (⟨"LambdaBench$Grammar", "acceptsInTerm", "(II)Z"⟩, 5) := ⟨⟨by decide +kernel, by decide +kernel⟩, List.mem_of_getElem? (i := 58) (by decide +kernel), List.mem_of_getElem? (i := 329) (by decide +kernel), List.mem_of_getElem? (i := 330) (by decide +kernel)⟩
theorem lw_p5 : lw_okq (⟨"LambdaBench$Grammar", "closes", "()Z"⟩, 5) := ⟨⟨by decide +kernel, by decide +kernel⟩, List.mem_of_getElem? (i := 58) (by decide +kernel), List.mem_of_getElem? (i := 333) (by decide +kernel), List.mem_of_getElem? (i := 334) (by decide +kernel)⟩
theorem lw_p6 : lw_okq (⟨"LambdaBench$Grammar", "opens", "(I)Z"⟩, 5) := ⟨⟨by decide +kernel, by decide +kernel⟩, List.mem_of_getElem? (i := 58) (by decide +kernel), List.mem_of_getElem? (i := 337) (by decide +kernel), List.mem_of_getElem? (i := 338) (by decide +kernel)⟩
theorem lw_p7 : lw_okq (⟨"LambdaBench$Grammar", "acceptsInNames", "(II)Z"⟩, 5) := ⟨⟨by decide +kernel, by decide +kernel⟩, List.mem_of_getElem? (i := 58) (by decide +kernel), List.mem_of_getElem? (i := 347) (by decide +kernel), List.mem_of_getElem? (i := 348) (by decide +kernel)⟩
theorem lw_p8 : lw_okq (⟨"LambdaBench$Grammar", "mayEnd", "()Z"⟩, 5) := ⟨⟨by decide +kernel, by decide +kernel⟩, List.mem_of_getElem? (i := 58) (by decide +kernel), List.mem_of_getElem? (i := 351) (by decide +kernel), List.mem_of_getElem? (i := 352) (by decide +kernel)⟩
theorem lw_p9 : lw_okq (⟨"LambdaBench$Builder", "addApplications", "(ILLambdaBench$Term;)V"⟩, 4) := ⟨⟨by decide +kernel, by decide +kernel⟩, List.mem_of_getElem? (i := 80) (by decide +kernel), List.mem_of_getElem? (i := 367) (by decide +kernel), List.mem_of_getElem? (i := 368) (by decide +kernel)⟩
theorem lw_p10 : lw_okq (⟨"LambdaBench$Builder", "opens", "()V"⟩, 4) := ⟨⟨by decide +kernel, by decide +kernel⟩, List.mem_of_getElem? (i := 80) (by decide +kernel), List.mem_of_getElem? (i := 377) (by decide +kernel), List.mem_of_getElem? (i := 378) (by decide +kernel)⟩
theorem lw_p11 : lw_okq (⟨"LambdaBench$Builder", "closes", "()V"⟩, 4) := ⟨⟨by decide +kernel, by decide +kernel⟩, List.mem_of_getElem? (i := 80) (by decide +kernel), List.mem_of_getElem? (i := 381) (by decide +kernel), List.mem_of_getElem? (i := 382) (by decide +kernel)⟩
theorem lw_p12 : lw_okq (⟨"LambdaBench$Builder", "addNumeral", "(ILLambdaBench$Term;)V"⟩, 4) := ⟨⟨by decide +kernel, by decide +kernel⟩, List.mem_of_getElem? (i := 80) (by decide +kernel), List.mem_of_getElem? (i := 391) (by decide +kernel), List.mem_of_getElem? (i := 392) (by decide +kernel)⟩
theorem lw_p13 : lw_okq (⟨"LambdaBench$Builder", "addAbstraction", "(ILLambdaBench$Term;)V"⟩, 4) := ⟨⟨by decide +kernel, by decide +kernel⟩, List.mem_of_getElem? (i := 80) (by decide +kernel), List.mem_of_getElem? (i := 396) (by decide +kernel), List.mem_of_getElem? (i := 397) (by decide +kernel)⟩
theorem lw_p14 : lw_okq (⟨"LambdaBench$Builder", "meaningOf", "(I)I"⟩, 4) := ⟨⟨by decide +kernel, by decide +kernel⟩, List.mem_of_getElem? (i := 80) (by decide +kernel), List.mem_of_getElem? (i := 400) (by decide +kernel), List.mem_of_getElem? (i := 401) (by decide +kernel)⟩
theorem lw_p15 : lw_okq (⟨"LambdaBench", "requireTerm", "(I)V"⟩, 9) := ⟨⟨by decide +kernel, by decide +kernel⟩, List.mem_of_getElem? (i := 19) (by decide +kernel), List.mem_of_getElem? (i := 487) (by decide +kernel), List.mem_of_getElem? (i := 488) (by decide +kernel)⟩
def lw_privs_1 : List (MethodName × Nat) := [(⟨"java/lang/Throwable", "fillInStackTrace", "(I)Ljava/lang/Throwable;"⟩, 6), (⟨"LambdaBench", "requireSlot", "(I)V"⟩, 9), (⟨"LambdaBench$Grammar", "beginTerm", "(I)V"⟩, 5), (⟨"LambdaBench$Grammar", "accepts", "(II)Z"⟩, 5), (⟨"LambdaBench$Grammar", "acceptsInTerm", "(II)Z"⟩, 5), (⟨"LambdaBench$Grammar", "closes", "()Z"⟩, 5), (⟨"LambdaBench$Grammar", "opens", "(I)Z"⟩, 5), (⟨"LambdaBench$Grammar", "acceptsInNames", "(II)Z"⟩, 5), (⟨"LambdaBench$Grammar", "mayEnd", "()Z"⟩, 5), (⟨"LambdaBench$Builder", "addApplications", "(ILLambdaBench$Term;)V"⟩, 4), (⟨"LambdaBench$Builder", "opens", "()V"⟩, 4), (⟨"LambdaBench$Builder", "closes", "()V"⟩, 4), (⟨"LambdaBench$Builder", "addNumeral", "(ILLambdaBench$Term;)V"⟩, 4), (⟨"LambdaBench$Builder", "addAbstraction", "(ILLambdaBench$Term;)V"⟩, 4), (⟨"LambdaBench$Builder", "meaningOf", "(I)I"⟩, 4), (⟨"LambdaBench", "requireTerm", "(I)V"⟩, 9)]
theorem lw_r1 : ∀ q ∈ lw_privs_1, lw_okq q := List.forall_mem_cons.mpr ⟨lw_p0, List.forall_mem_cons.mpr ⟨lw_p1, List.forall_mem_cons.mpr ⟨lw_p2, List.forall_mem_cons.mpr ⟨lw_p3, List.forall_mem_cons.mpr ⟨lw_p4, List.forall_mem_cons.mpr ⟨lw_p5, List.forall_mem_cons.mpr ⟨lw_p6, List.forall_mem_cons.mpr ⟨lw_p7, List.forall_mem_cons.mpr ⟨lw_p8, List.forall_mem_cons.mpr ⟨lw_p9, List.forall_mem_cons.mpr ⟨lw_p10, List.forall_mem_cons.mpr ⟨lw_p11, List.forall_mem_cons.mpr ⟨lw_p12, List.forall_mem_cons.mpr ⟨lw_p13, List.forall_mem_cons.mpr ⟨lw_p14, List.forall_mem_cons.mpr ⟨lw_p15, fun _ h => absurd h List.not_mem_nil⟩⟩⟩⟩⟩⟩⟩⟩⟩⟩⟩⟩⟩⟩⟩⟩
theorem lw_p16 : lw_okq (⟨"LambdaBench", "requireLetter", "(I)V"⟩, 9) := ⟨⟨by decide +kernel, by decide +kernel⟩, List.mem_of_getElem? (i := 19) (by decide +kernel), List.mem_of_getElem? (i := 503) (by decide +kernel), List.mem_of_getElem? (i := 504) (by decide +kernel)⟩
theorem lw_p17 : lw_okq (⟨"LambdaBench", "requireSteps", "(I)V"⟩, 9) := ⟨⟨by decide +kernel, by decide +kernel⟩, List.mem_of_getElem? (i := 19) (by decide +kernel), List.mem_of_getElem? (i := 539) (by decide +kernel), List.mem_of_getElem? (i := 540) (by decide +kernel)⟩
theorem lw_p18 : lw_okq (⟨"LambdaBench$Reducer", "writeStep", "(I)V"⟩, 4) := ⟨⟨by decide +kernel, by decide +kernel⟩, List.mem_of_getElem? (i := 112) (by decide +kernel), List.mem_of_getElem? (i := 554) (by decide +kernel), List.mem_of_getElem? (i := 555) (by decide +kernel)⟩
theorem lw_p19 : lw_okq (⟨"LambdaBench$Reducer", "writeReplacement", "(I)I"⟩, 4) := ⟨⟨by decide +kernel, by decide +kernel⟩, List.mem_of_getElem? (i := 112) (by decide +kernel), List.mem_of_getElem? (i := 560) (by decide +kernel), List.mem_of_getElem? (i := 561) (by decide +kernel)⟩
theorem lw_p20 : lw_okq (⟨"LambdaBench$Reducer", "writeBody", "(I)I"⟩, 4) := ⟨⟨by decide +kernel, by decide +kernel⟩, List.mem_of_getElem? (i := 112) (by decide +kernel), List.mem_of_getElem? (i := 565) (by decide +kernel), List.mem_of_getElem? (i := 566) (by decide +kernel)⟩
theorem lw_p21 : lw_okq (⟨"LambdaBench$Reducer", "writeArgument", "(III)V"⟩, 4) := ⟨⟨by decide +kernel, by decide +kernel⟩, List.mem_of_getElem? (i := 112) (by decide +kernel), List.mem_of_getElem? (i := 573) (by decide +kernel), List.mem_of_getElem? (i := 574) (by decide +kernel)⟩
theorem lw_p22 : lw_okq (⟨"LambdaBench$Reducer", "writeShared", "(I)I"⟩, 4) := ⟨⟨by decide +kernel, by decide +kernel⟩, List.mem_of_getElem? (i := 112) (by decide +kernel), List.mem_of_getElem? (i := 578) (by decide +kernel), List.mem_of_getElem? (i := 579) (by decide +kernel)⟩
theorem lw_p23 : lw_okq (⟨"LambdaBench$Abstractor", "writeWithout", "(I)V"⟩, 4) := ⟨⟨by decide +kernel, by decide +kernel⟩, List.mem_of_getElem? (i := 135) (by decide +kernel), List.mem_of_getElem? (i := 605) (by decide +kernel), List.mem_of_getElem? (i := 606) (by decide +kernel)⟩
theorem lw_p24 : lw_okq (⟨"LambdaBench$Abstractor", "measure", "(II)V"⟩, 4) := ⟨⟨by decide +kernel, by decide +kernel⟩, List.mem_of_getElem? (i := 135) (by decide +kernel), List.mem_of_getElem? (i := 610) (by decide +kernel), List.mem_of_getElem? (i := 611) (by decide +kernel)⟩
theorem lw_p25 : lw_okq (⟨"LambdaBench$Abstractor", "writePart", "(I)I"⟩, 4) := ⟨⟨by decide +kernel, by decide +kernel⟩, List.mem_of_getElem? (i := 135) (by decide +kernel), List.mem_of_getElem? (i := 617) (by decide +kernel), List.mem_of_getElem? (i := 618) (by decide +kernel)⟩
theorem lw_p26 : lw_okq (⟨"LambdaBench$Abstractor", "isUsed", "(II)Z"⟩, 4) := ⟨⟨by decide +kernel, by decide +kernel⟩, List.mem_of_getElem? (i := 135) (by decide +kernel), List.mem_of_getElem? (i := 622) (by decide +kernel), List.mem_of_getElem? (i := 623) (by decide +kernel)⟩
theorem lw_p27 : lw_okq (⟨"LambdaBench$Abstractor", "writeOutside", "(II)V"⟩, 4) := ⟨⟨by decide +kernel, by decide +kernel⟩, List.mem_of_getElem? (i := 135) (by decide +kernel), List.mem_of_getElem? (i := 626) (by decide +kernel), List.mem_of_getElem? (i := 627) (by decide +kernel)⟩
theorem lw_p28 : lw_okq (⟨"LambdaBenchModel", "throwing", "(ZZ)Z"⟩, 24) := ⟨⟨by decide +kernel, by decide +kernel⟩, List.mem_of_getElem? (i := 668) (by decide +kernel), List.mem_of_getElem? (i := 758) (by decide +kernel), List.mem_of_getElem? (i := 759) (by decide +kernel)⟩
theorem lw_p29 : lw_okq (⟨"LambdaBenchModel", "text", "()V"⟩, 24) := ⟨⟨by decide +kernel, by decide +kernel⟩, List.mem_of_getElem? (i := 668) (by decide +kernel), List.mem_of_getElem? (i := 769) (by decide +kernel), List.mem_of_getElem? (i := 770) (by decide +kernel)⟩
theorem lw_p30 : lw_okq (⟨"LambdaBenchModel", "begin", "()V"⟩, 24) := ⟨⟨by decide +kernel, by decide +kernel⟩, List.mem_of_getElem? (i := 668) (by decide +kernel), List.mem_of_getElem? (i := 773) (by decide +kernel), List.mem_of_getElem? (i := 774) (by decide +kernel)⟩
theorem lw_p31 : lw_okq (⟨"LambdaBenchModel", "openTerm", "(I)V"⟩, 24) := ⟨⟨by decide +kernel, by decide +kernel⟩, List.mem_of_getElem? (i := 668) (by decide +kernel), List.mem_of_getElem? (i := 777) (by decide +kernel), List.mem_of_getElem? (i := 778) (by decide +kernel)⟩
def lw_privs_2 : List (MethodName × Nat) := [(⟨"LambdaBench", "requireLetter", "(I)V"⟩, 9), (⟨"LambdaBench", "requireSteps", "(I)V"⟩, 9), (⟨"LambdaBench$Reducer", "writeStep", "(I)V"⟩, 4), (⟨"LambdaBench$Reducer", "writeReplacement", "(I)I"⟩, 4), (⟨"LambdaBench$Reducer", "writeBody", "(I)I"⟩, 4), (⟨"LambdaBench$Reducer", "writeArgument", "(III)V"⟩, 4), (⟨"LambdaBench$Reducer", "writeShared", "(I)I"⟩, 4), (⟨"LambdaBench$Abstractor", "writeWithout", "(I)V"⟩, 4), (⟨"LambdaBench$Abstractor", "measure", "(II)V"⟩, 4), (⟨"LambdaBench$Abstractor", "writePart", "(I)I"⟩, 4), (⟨"LambdaBench$Abstractor", "isUsed", "(II)Z"⟩, 4), (⟨"LambdaBench$Abstractor", "writeOutside", "(II)V"⟩, 4), (⟨"LambdaBenchModel", "throwing", "(ZZ)Z"⟩, 24), (⟨"LambdaBenchModel", "text", "()V"⟩, 24), (⟨"LambdaBenchModel", "begin", "()V"⟩, 24), (⟨"LambdaBenchModel", "openTerm", "(I)V"⟩, 24)]
theorem lw_r2 : ∀ q ∈ lw_privs_2, lw_okq q := List.forall_mem_cons.mpr ⟨lw_p16, List.forall_mem_cons.mpr ⟨lw_p17, List.forall_mem_cons.mpr ⟨lw_p18, List.forall_mem_cons.mpr ⟨lw_p19, List.forall_mem_cons.mpr ⟨lw_p20, List.forall_mem_cons.mpr ⟨lw_p21, List.forall_mem_cons.mpr ⟨lw_p22, List.forall_mem_cons.mpr ⟨lw_p23, List.forall_mem_cons.mpr ⟨lw_p24, List.forall_mem_cons.mpr ⟨lw_p25, List.forall_mem_cons.mpr ⟨lw_p26, List.forall_mem_cons.mpr ⟨lw_p27, List.forall_mem_cons.mpr ⟨lw_p28, List.forall_mem_cons.mpr ⟨lw_p29, List.forall_mem_cons.mpr ⟨lw_p30, List.forall_mem_cons.mpr ⟨lw_p31, fun _ h => absurd h List.not_mem_nil⟩⟩⟩⟩⟩⟩⟩⟩⟩⟩⟩⟩⟩⟩⟩⟩
theorem lw_p32 : lw_okq (⟨"LambdaBenchModel", "see", "()I"⟩, 24) := ⟨⟨by decide +kernel, by decide +kernel⟩, List.mem_of_getElem? (i := 668) (by decide +kernel), List.mem_of_getElem? (i := 781) (by decide +kernel), List.mem_of_getElem? (i := 782) (by decide +kernel)⟩
theorem lw_p33 : lw_okq (⟨"LambdaBenchModel", "closeAbstractions", "()Z"⟩, 24) := ⟨⟨by decide +kernel, by decide +kernel⟩, List.mem_of_getElem? (i := 668) (by decide +kernel), List.mem_of_getElem? (i := 785) (by decide +kernel), List.mem_of_getElem? (i := 786) (by decide +kernel)⟩
theorem lw_p34 : lw_okq (⟨"LambdaBenchModel", "fail", "(I)V"⟩, 24) := ⟨⟨by decide +kernel, by decide +kernel⟩, List.mem_of_getElem? (i := 668) (by decide +kernel), List.mem_of_getElem? (i := 789) (by decide +kernel), List.mem_of_getElem? (i := 790) (by decide +kernel)⟩
theorem lw_p35 : lw_okq (⟨"LambdaBenchModel", "atom", "()V"⟩, 24) := ⟨⟨by decide +kernel, by decide +kernel⟩, List.mem_of_getElem? (i := 668) (by decide +kernel), List.mem_of_getElem? (i := 793) (by decide +kernel), List.mem_of_getElem? (i := 794) (by decide +kernel)⟩
theorem lw_p36 : lw_okq (⟨"LambdaBenchModel", "beginAtom", "()V"⟩, 24) := ⟨⟨by decide +kernel, by decide +kernel⟩, List.mem_of_getElem? (i := 668) (by decide +kernel), List.mem_of_getElem? (i := 800) (by decide +kernel), List.mem_of_getElem? (i := 801) (by decide +kernel)⟩
theorem lw_p37 : lw_okq (⟨"LambdaBenchModel", "put", "(I)V"⟩, 24) := ⟨⟨by decide +kernel, by decide +kernel⟩, List.mem_of_getElem? (i := 668) (by decide +kernel), List.mem_of_getElem? (i := 804) (by decide +kernel), List.mem_of_getElem? (i := 805) (by decide +kernel)⟩
theorem lw_p38 : lw_okq (⟨"LambdaBenchModel", "numeral", "()V"⟩, 24) := ⟨⟨by decide +kernel, by decide +kernel⟩, List.mem_of_getElem? (i := 668) (by decide +kernel), List.mem_of_getElem? (i := 808) (by decide +kernel), List.mem_of_getElem? (i := 809) (by decide +kernel)⟩
theorem lw_p39 : lw_okq (⟨"LambdaBenchModel", "abstraction", "()V"⟩, 24) := ⟨⟨by decide +kernel, by decide +kernel⟩, List.mem_of_getElem? (i := 668) (by decide +kernel), List.mem_of_getElem? (i := 812) (by decide +kernel), List.mem_of_getElem? (i := 813) (by decide +kernel)⟩
theorem lw_p40 : lw_okq (⟨"LambdaBenchModel", "variable", "(I)V"⟩, 24) := ⟨⟨by decide +kernel, by decide +kernel⟩, List.mem_of_getElem? (i := 668) (by decide +kernel), List.mem_of_getElem? (i := 816) (by decide +kernel), List.mem_of_getElem? (i := 817) (by decide +kernel)⟩
theorem lw_p41 : lw_okq (⟨"LambdaBenchModel", "settle", "()V"⟩, 24) := ⟨⟨by decide +kernel, by decide +kernel⟩, List.mem_of_getElem? (i := 668) (by decide +kernel), List.mem_of_getElem? (i := 820) (by decide +kernel), List.mem_of_getElem? (i := 821) (by decide +kernel)⟩
theorem lw_p42 : lw_okq (⟨"LambdaBenchModel", "store", "(I)V"⟩, 24) := ⟨⟨by decide +kernel, by decide +kernel⟩, List.mem_of_getElem? (i := 668) (by decide +kernel), List.mem_of_getElem? (i := 824) (by decide +kernel), List.mem_of_getElem? (i := 825) (by decide +kernel)⟩
theorem lw_p43 : lw_okq (⟨"LambdaBenchModel", "load", "(I)V"⟩, 24) := ⟨⟨by decide +kernel, by decide +kernel⟩, List.mem_of_getElem? (i := 668) (by decide +kernel), List.mem_of_getElem? (i := 836) (by decide +kernel), List.mem_of_getElem? (i := 837) (by decide +kernel)⟩
theorem lw_p44 : lw_okq (⟨"LambdaBenchModel", "redex", "(I)I"⟩, 24) := ⟨⟨by decide +kernel, by decide +kernel⟩, List.mem_of_getElem? (i := 668) (by decide +kernel), List.mem_of_getElem? (i := 840) (by decide +kernel), List.mem_of_getElem? (i := 841) (by decide +kernel)⟩
theorem lw_p45 : lw_okq (⟨"LambdaBenchModel", "steps", "(I)I"⟩, 24) := ⟨⟨by decide +kernel, by decide +kernel⟩, List.mem_of_getElem? (i := 668) (by decide +kernel), List.mem_of_getElem? (i := 848) (by decide +kernel), List.mem_of_getElem? (i := 849) (by decide +kernel)⟩
theorem lw_p46 : lw_okq (⟨"LambdaBenchModel", "step", "()I"⟩, 24) := ⟨⟨by decide +kernel, by decide +kernel⟩, List.mem_of_getElem? (i := 668) (by decide +kernel), List.mem_of_getElem? (i := 852) (by decide +kernel), List.mem_of_getElem? (i := 853) (by decide +kernel)⟩
theorem lw_p47 : lw_okq (⟨"LambdaBenchModel", "find", "()I"⟩, 24) := ⟨⟨by decide +kernel, by decide +kernel⟩, List.mem_of_getElem? (i := 668) (by decide +kernel), List.mem_of_getElem? (i := 856) (by decide +kernel), List.mem_of_getElem? (i := 857) (by decide +kernel)⟩
def lw_privs_3 : List (MethodName × Nat) := [(⟨"LambdaBenchModel", "see", "()I"⟩, 24), (⟨"LambdaBenchModel", "closeAbstractions", "()Z"⟩, 24), (⟨"LambdaBenchModel", "fail", "(I)V"⟩, 24), (⟨"LambdaBenchModel", "atom", "()V"⟩, 24), (⟨"LambdaBenchModel", "beginAtom", "()V"⟩, 24), (⟨"LambdaBenchModel", "put", "(I)V"⟩, 24), (⟨"LambdaBenchModel", "numeral", "()V"⟩, 24), (⟨"LambdaBenchModel", "abstraction", "()V"⟩, 24), (⟨"LambdaBenchModel", "variable", "(I)V"⟩, 24), (⟨"LambdaBenchModel", "settle", "()V"⟩, 24), (⟨"LambdaBenchModel", "store", "(I)V"⟩, 24), (⟨"LambdaBenchModel", "load", "(I)V"⟩, 24), (⟨"LambdaBenchModel", "redex", "(I)I"⟩, 24), (⟨"LambdaBenchModel", "steps", "(I)I"⟩, 24), (⟨"LambdaBenchModel", "step", "()I"⟩, 24), (⟨"LambdaBenchModel", "find", "()I"⟩, 24)]
theorem lw_r3 : ∀ q ∈ lw_privs_3, lw_okq q := List.forall_mem_cons.mpr ⟨lw_p32, List.forall_mem_cons.mpr ⟨lw_p33, List.forall_mem_cons.mpr ⟨lw_p34, List.forall_mem_cons.mpr ⟨lw_p35, List.forall_mem_cons.mpr ⟨lw_p36, List.forall_mem_cons.mpr ⟨lw_p37, List.forall_mem_cons.mpr ⟨lw_p38, List.forall_mem_cons.mpr ⟨lw_p39, List.forall_mem_cons.mpr ⟨lw_p40, List.forall_mem_cons.mpr ⟨lw_p41, List.forall_mem_cons.mpr ⟨lw_p42, List.forall_mem_cons.mpr ⟨lw_p43, List.forall_mem_cons.mpr ⟨lw_p44, List.forall_mem_cons.mpr ⟨lw_p45, List.forall_mem_cons.mpr ⟨lw_p46, List.forall_mem_cons.mpr ⟨lw_p47, fun _ h => absurd h List.not_mem_nil⟩⟩⟩⟩⟩⟩⟩⟩⟩⟩⟩⟩⟩⟩⟩⟩
theorem lw_p48 : lw_okq (⟨"LambdaBenchModel", "behind", "(I)I"⟩, 24) := ⟨⟨by decide +kernel, by decide +kernel⟩, List.mem_of_getElem? (i := 668) (by decide +kernel), List.mem_of_getElem? (i := 860) (by decide +kernel), List.mem_of_getElem? (i := 861) (by decide +kernel)⟩
theorem lw_p49 : lw_okq (⟨"LambdaBenchModel", "putBody", "(II)V"⟩, 24) := ⟨⟨by decide +kernel, by decide +kernel⟩, List.mem_of_getElem? (i := 668) (by decide +kernel), List.mem_of_getElem? (i := 867) (by decide +kernel), List.mem_of_getElem? (i := 868) (by decide +kernel)⟩
theorem lw_p50 : lw_okq (⟨"LambdaBenchModel", "putShifted", "(II)V"⟩, 24) := ⟨⟨by decide +kernel, by decide +kernel⟩, List.mem_of_getElem? (i := 668) (by decide +kernel), List.mem_of_getElem? (i := 874) (by decide +kernel), List.mem_of_getElem? (i := 875) (by decide +kernel)⟩
theorem lw_p51 : lw_okq (⟨"LambdaBenchModel", "putPart", "(I)V"⟩, 24) := ⟨⟨by decide +kernel, by decide +kernel⟩, List.mem_of_getElem? (i := 668) (by decide +kernel), List.mem_of_getElem? (i := 878) (by decide +kernel), List.mem_of_getElem? (i := 879) (by decide +kernel)⟩
theorem lw_p52 : lw_okq (⟨"LambdaBenchModel", "spread", "(I)V"⟩, 24) := ⟨⟨by decide +kernel, by decide +kernel⟩, List.mem_of_getElem? (i := 668) (by decide +kernel), List.mem_of_getElem? (i := 882) (by decide +kernel), List.mem_of_getElem? (i := 883) (by decide +kernel)⟩
theorem lw_p53 : lw_okq (⟨"LambdaBenchModel", "abstractOne", "()Z"⟩, 24) := ⟨⟨by decide +kernel, by decide +kernel⟩, List.mem_of_getElem? (i := 668) (by decide +kernel), List.mem_of_getElem? (i := 898) (by decide +kernel), List.mem_of_getElem? (i := 899) (by decide +kernel)⟩
theorem lw_p54 : lw_okq (⟨"LambdaBenchModel", "isIn", "(I)Z"⟩, 24) := ⟨⟨by decide +kernel, by decide +kernel⟩, List.mem_of_getElem? (i := 668) (by decide +kernel), List.mem_of_getElem? (i := 902) (by decide +kernel), List.mem_of_getElem? (i := 903) (by decide +kernel)⟩
theorem lw_p55 : lw_okq (⟨"LambdaBenchModel", "putLess", "(I)V"⟩, 24) := ⟨⟨by decide +kernel, by decide +kernel⟩, List.mem_of_getElem? (i := 668) (by decide +kernel), List.mem_of_getElem? (i := 906) (by decide +kernel), List.mem_of_getElem? (i := 907) (by decide +kernel)⟩
def lw_privs_4 : List (MethodName × Nat) := [(⟨"LambdaBenchModel", "behind", "(I)I"⟩, 24), (⟨"LambdaBenchModel", "putBody", "(II)V"⟩, 24), (⟨"LambdaBenchModel", "putShifted", "(II)V"⟩, 24), (⟨"LambdaBenchModel", "putPart", "(I)V"⟩, 24), (⟨"LambdaBenchModel", "spread", "(I)V"⟩, 24), (⟨"LambdaBenchModel", "abstractOne", "()Z"⟩, 24), (⟨"LambdaBenchModel", "isIn", "(I)Z"⟩, 24), (⟨"LambdaBenchModel", "putLess", "(I)V"⟩, 24)]
theorem lw_r4 : ∀ q ∈ lw_privs_4, lw_okq q := List.forall_mem_cons.mpr ⟨lw_p48, List.forall_mem_cons.mpr ⟨lw_p49, List.forall_mem_cons.mpr ⟨lw_p50, List.forall_mem_cons.mpr ⟨lw_p51, List.forall_mem_cons.mpr ⟨lw_p52, List.forall_mem_cons.mpr ⟨lw_p53, List.forall_mem_cons.mpr ⟨lw_p54, List.forall_mem_cons.mpr ⟨lw_p55, fun _ h => absurd h List.not_mem_nil⟩⟩⟩⟩⟩⟩⟩⟩
def lw_privs : List (MethodName × Nat) := lw_privs_1 ++ (lw_privs_2 ++ (lw_privs_3 ++ (lw_privs_4)))
def lw_tbl : List Cond := k2_sels lw_privs ++ tables_1
theorem lw_privs_ok : ∀ q ∈ lw_privs, lw_okq q := by
  show ∀ q ∈ lw_privs_1 ++ (lw_privs_2 ++ (lw_privs_3 ++ (lw_privs_4))), lw_okq q
  exact List.forall_mem_append.mpr ⟨lw_r1, List.forall_mem_append.mpr ⟨lw_r2, List.forall_mem_append.mpr ⟨lw_r3, lw_r4⟩⟩⟩
end
section
/-! The small machine's values, cells, locals, and how they stand for the machine's. An address there is a place in the list of cells; retAddr 0 is the script's array, retAddr 1 what was caught. -/
abbrev mm_In : Type := Instr × Nat × Nat × Int32
abbrev mm_Y : Type := (MethodName × Nat) × ByteArray × Nat × Option FieldType × List (Nat × Nat × Nat × Nat) × Room × List (Nat × mm_In)
abbrev mm_O : Type := Option Value ⊕ Nat
abbrev mm_M : Type := List va_E
abbrev mm_L : Type := List (Option Value)
def mm_v (al : List Nat) (sa : Nat) (v w : Value) : Prop := match v with
  | .ref i => ∃ a, al[i]? = some a ∧ w = .ref a
  | .retAddr 0 => w = .ref sa
  | .retAddr (_ + 1) => ∃ a, w = .ref a
  | .int x => w = .int x
  | .long x => w = .long x
  | .float x => w = .float x
  | .double x => w = .double x
  | .null => w = .null
def mm_e (al al' : List Nat) : Prop := ∀ (i a : Nat), al[i]? = some a → al'[i]? = some a
theorem mm_e.rf (al : List Nat) : mm_e al al := fun _ _ h => h
theorem mm_e.tr {a b c : List Nat} (h1 : mm_e a b) (h2 : mm_e b c) : mm_e a c := fun i x h => h2 i x (h1 i x h)
theorem mm_e.push (al : List Nat) (q : Nat) : mm_e al (al ++ [q]) := fun i a h => by
  rw [List.getElem?_append_left (List.getElem?_eq_some_iff.mp h).1]; exact h
theorem mm_v.mono {al al' : List Nat} {sa : Nat} {v w : Value} (h : mm_e al al') (hv : mm_v al sa v w) : mm_v al' sa v w := by
  cases v with
  | ref i => obtain ⟨a, h1, h2⟩ := hv; exact ⟨a, h i a h1, h2⟩
  | retAddr n => cases n with
    | zero => exact hv
    | succ n => exact hv
  | int x => exact hv
  | long x => exact hv
  | float x => exact hv
  | double x => exact hv
  | null => exact hv
theorem mm_v.cat {al : List Nat} {sa : Nat} {v w : Value} (h : mm_v al sa v w) : w.category = v.category := by
  cases v with
  | ref i => obtain ⟨a, -, rfl⟩ := h; rfl
  | retAddr n => cases n with
    | zero => have h' : w = .ref sa := h
              rw [h']; rfl
    | succ n => obtain ⟨a, rfl⟩ := h; rfl
  | int x => have h' : w = .int x := h
             rw [h']
  | long x => have h' : w = .long x := h
              rw [h']
  | float x => have h' : w = .float x := h
               rw [h']
  | double x => have h' : w = .double x := h
                rw [h']
  | null => have h' : w = .null := h
            rw [h']
/-- a reference, whichever of the three kinds -/
def mm_isR : Value → Bool
  | .ref _ => true
  | .retAddr _ => true
  | _ => false
theorem mm_v.isR {al : List Nat} {sa : Nat} {v w : Value} (h : mm_v al sa v w) (hr : mm_isR v = true) : ∃ a, w = .ref a := by
  cases v with
  | ref i => obtain ⟨a, -, h2⟩ := h; exact ⟨a, h2⟩
  | retAddr n => cases n with
    | zero => exact ⟨sa, h⟩
    | succ n => exact h
  | int x => cases hr
  | long x => cases hr
  | float x => cases hr
  | double x => cases hr
  | null => cases hr
def mm_l (al : List Nat) (sa : Nat) : List Value → List Value → Prop
  | [], ws => ws = []
  | v :: vs, ws => ∃ w ws', ws = w :: ws' ∧ mm_v al sa v w ∧ mm_l al sa vs ws'
theorem mm_l.mono {al al' : List Nat} {sa : Nat} (h : mm_e al al') : ∀ {vs ws : List Value}, mm_l al sa vs ws → mm_l al' sa vs ws := by
  intro vs
  induction vs with
  | nil => intro ws hl; exact hl
  | cons v vs ih =>
    intro ws hl
    obtain ⟨w, ws', h1, h2, h3⟩ := hl
    exact ⟨w, ws', h1, h2.mono h, ih h3⟩
theorem mm_l.len {al : List Nat} {sa : Nat} : ∀ {vs ws : List Value}, mm_l al sa vs ws → ws.length = vs.length := by
  intro vs
  induction vs with
  | nil => intro ws hl; have h : ws = [] := hl
           rw [h]
  | cons v vs ih =>
    intro ws hl
    obtain ⟨w, ws', rfl, -, h3⟩ := hl
    simp only [List.length_cons, ih h3]
theorem mm_l.cats {al : List Nat} {sa : Nat} : ∀ {vs ws : List Value}, mm_l al sa vs ws → (ws.map fun v => v.category).sum = (vs.map fun v => v.category).sum := by
  intro vs
  induction vs with
  | nil => intro ws hl; have h : ws = [] := hl
           rw [h]
  | cons v vs ih =>
    intro ws hl
    obtain ⟨w, ws', rfl, h2, h3⟩ := hl
    simp only [List.map_cons, List.sum_cons, ih h3, h2.cat]
theorem mm_l.get {al : List Nat} {sa : Nat} : ∀ {vs ws : List Value} {k : Nat} {v : Value}, mm_l al sa vs ws → vs[k]? = some v → ∃ w, ws[k]? = some w ∧ mm_v al sa v w := by
  intro vs
  induction vs with
  | nil => intro ws k v _ hk; simp at hk
  | cons u vs ih =>
    intro ws k v hl hk
    obtain ⟨w, ws', rfl, h2, h3⟩ := hl
    cases k with
    | zero => simp only [List.getElem?_cons_zero, Option.some.injEq] at hk
              subst hk
              exact ⟨w, rfl, h2⟩
    | succ k => simp only [List.getElem?_cons_succ] at hk ⊢
                exact ih h3 hk
theorem mm_l.put {al : List Nat} {sa : Nat} {v w : Value} (hv : mm_v al sa v w) : ∀ {vs ws : List Value} (k : Nat), mm_l al sa vs ws → mm_l al sa (vs.set k v) (ws.set k w) := by
  intro vs
  induction vs with
  | nil => intro ws k hl; have h : ws = [] := hl
           rw [h]; exact rfl
  | cons u vs ih =>
    intro ws k hl
    obtain ⟨x, ws', rfl, h2, h3⟩ := hl
    cases k with
    | zero => exact ⟨w, ws', rfl, hv, h3⟩
    | succ k => exact ⟨x, ws'.set k w, rfl, h2, ih k h3⟩
theorem mm_l.split {al : List Nat} {sa : Nat} {ys : List Value} : ∀ {xs ws : List Value}, mm_l al sa (xs ++ ys) ws → ∃ w1 w2, ws = w1 ++ w2 ∧ mm_l al sa xs w1 ∧ mm_l al sa ys w2 := by
  intro xs
  induction xs with
  | nil => intro ws h; exact ⟨[], ws, rfl, rfl, h⟩
  | cons x xs ih =>
    intro ws h
    obtain ⟨w, ws', rfl, h2, h3⟩ := h
    obtain ⟨w1, w2, rfl, h4, h5⟩ := ih h3
    exact ⟨w :: w1, w2, rfl, ⟨w, w1, rfl, h2, h4⟩, h5⟩
theorem mm_l.app {al : List Nat} {sa : Nat} {ys w2 : List Value} (hy : mm_l al sa ys w2) : ∀ {xs w1 : List Value}, mm_l al sa xs w1 → mm_l al sa (xs ++ ys) (w1 ++ w2) := by
  intro xs
  induction xs with
  | nil => intro w1 h; have h' : w1 = [] := h
           rw [h']; exact hy
  | cons x xs ih =>
    intro w1 h
    obtain ⟨w, ws', rfl, h2, h3⟩ := h
    exact ⟨w, ws' ++ w2, rfl, h2, ih h3⟩
theorem mm_l.rev {al : List Nat} {sa : Nat} : ∀ {xs ws : List Value}, mm_l al sa xs ws → mm_l al sa xs.reverse ws.reverse := by
  intro xs
  induction xs with
  | nil => intro ws h; have h' : ws = [] := h
           rw [h']; exact rfl
  | cons x xs ih =>
    intro ws h
    obtain ⟨w, ws', rfl, h2, h3⟩ := h
    rw [List.reverse_cons, List.reverse_cons]
    exact mm_l.app (show mm_l al sa [x] [w] from ⟨w, [], rfl, h2, rfl⟩) (ih h3)
/-- the types of the arrays by their tags -/
def mm_ty : Nat → FieldType
  | 0 => .int
  | 1 => .long
  | _ => .object "LambdaBench$Term"
def mm_a (al : List Nat) (x y : (Nat → Int32) ⊕ (Nat → Int64) ⊕ (Nat → UInt32) ⊕ (Nat → UInt64) ⊕ (Nat → Option Nat)) : Prop := match x with
  | .inr (.inr (.inr (.inr f))) => ∃ g : Nat → Option Nat, y = .inr (.inr (.inr (.inr g))) ∧ ∀ k, (f k = none → g k = none) ∧ ∀ i, f k = some i → ∃ a, al[i]? = some a ∧ g k = some a
  | .inl f => y = .inl f
  | .inr (.inl f) => y = .inr (.inl f)
  | .inr (.inr (.inl f)) => y = .inr (.inr (.inl f))
  | .inr (.inr (.inr (.inl f))) => y = .inr (.inr (.inr (.inl f)))
theorem mm_a.mono {al al' : List Nat} {x y : (Nat → Int32) ⊕ (Nat → Int64) ⊕ (Nat → UInt32) ⊕ (Nat → UInt64) ⊕ (Nat → Option Nat)} (h : mm_e al al') (hx : mm_a al x y) : mm_a al' x y := by
  rcases x with f | f | f | f | f
  · exact hx
  · exact hx
  · exact hx
  · exact hx
  · obtain ⟨g, h1, h2⟩ := hx
    exact ⟨g, h1, fun k => ⟨(h2 k).1, fun i hi => by obtain ⟨a, h3, h4⟩ := (h2 k).2 i hi; exact ⟨a, h i a h3, h4⟩⟩⟩
def mm_E (U : State) (al : List Nat) (sa : Nat) (e e' : va_E) : Prop := match e with
  | .inl (t, n, x) => ∃ (c : ClassId) (y : (Nat → Int32) ⊕ (Nat → Int64) ⊕ (Nat → UInt32) ⊕ (Nat → UInt64) ⊕ (Nat → Option Nat)), e' = .inl (c, n, y) ∧ mm_a al x y ∧ ArrOfT U c (mm_ty t) ∧ va_RA U c (mm_ty t)
  | .inr (ci, fs) => ∃ fs' : List Value, e' = .inr (ci, fs') ∧ mm_l al sa fs fs'
theorem mm_E.mono {U : State} {al al' : List Nat} {sa : Nat} {e e' : va_E} (h : mm_e al al') (he : mm_E U al sa e e') : mm_E U al' sa e e' := by
  rcases e with ⟨t, n, x⟩ | ⟨ci, fs⟩
  · obtain ⟨c, y, h1, h2, h3, h4⟩ := he
    exact ⟨c, y, h1, h2.mono h, h3, h4⟩
  · obtain ⟨fs', h1, h2⟩ := he
    exact ⟨fs', h1, h2.mono h⟩
theorem mm_E.moved {u U : State} {al : List Nat} {sa : Nat} {e e' : va_E} (hvm : u.vm.Alike U.vm) (he : mm_E u al sa e e') : mm_E U al sa e e' := by
  rcases e with ⟨t, n, x⟩ | ⟨ci, fs⟩
  · obtain ⟨c, y, h1, h2, h3, h4⟩ := he
    exact ⟨c, y, h1, h2, arrOfT_moved hvm h3, h4.moved hvm⟩
  · exact he
/-- the cells M stand at the addresses al as the world ws -/
def mm_W (U : State) (al : List Nat) (sa : Nat) (M : mm_M) (ws : va_W) : Prop := al.length = M.length ∧ ws.length = M.length ∧ ∀ (i : Nat) (e : va_E), M[i]? = some e → ∃ (a : Nat) (e' : va_E), al[i]? = some a ∧ ws[i]? = some (a, e') ∧ mm_E U al sa e e'
theorem mm_W.moved {u U : State} {al : List Nat} {sa : Nat} {M : mm_M} {ws : va_W} (hvm : u.vm.Alike U.vm) (h : mm_W u al sa M ws) : mm_W U al sa M ws :=
  ⟨h.1, h.2.1, fun i e he => by obtain ⟨a, e', h1, h2, h3⟩ := h.2.2 i e he; exact ⟨a, e', h1, h2, h3.moved hvm⟩⟩
theorem mm_W.lk {U : State} {al : List Nat} {sa : Nat} {M : mm_M} {ws : va_W} (h : mm_W U al sa M ws) {i : Nat} {w : Value} {e : va_E} (hv : mm_v al sa (.ref i) w) (he : M[i]? = some e) : ∃ (a : Nat) (e' : va_E), w = .ref a ∧ al[i]? = some a ∧ ws[i]? = some (a, e') ∧ mm_E U al sa e e' := by
  obtain ⟨a, h1, h2⟩ := hv
  obtain ⟨b, e', h3, h4, h5⟩ := h.2.2 i e he
  cases Option.some.inj (h1.symm.trans h3)
  exact ⟨a, e', h2, h1, h4, h5⟩
theorem mm_W.set {U : State} {al : List Nat} {sa : Nat} {M : mm_M} {ws : va_W} (h : mm_W U al sa M ws) {i a : Nat} {e e' : va_E} (ha : al[i]? = some a) (he : mm_E U al sa e e') : mm_W U al sa (M.set i e) (ws.set i (a, e')) := by
  refine ⟨by rw [List.length_set]; exact h.1, by rw [List.length_set, List.length_set]; exact h.2.1, fun j x hx => ?_⟩
  by_cases hj : i = j
  · subst hj
    have hlt : i < M.length := by
      have := (List.getElem?_eq_some_iff.mp hx).1
      rw [List.length_set] at this
      exact this
    rw [List.getElem?_set_self hlt] at hx
    cases hx
    refine ⟨a, e', ha, ?_, he⟩
    rw [List.getElem?_set_self (by rw [h.2.1]; exact hlt)]
  · rw [List.getElem?_set_ne hj] at hx
    obtain ⟨b, y, h1, h2, h3⟩ := h.2.2 j x hx
    exact ⟨b, y, h1, by rw [List.getElem?_set_ne hj]; exact h2, h3⟩
theorem mm_W.push {U : State} {al : List Nat} {sa : Nat} {M : mm_M} {ws : va_W} (h : mm_W U al sa M ws) {q : Nat} {e e' : va_E} (he : mm_E U (al ++ [q]) sa e e') : mm_W U (al ++ [q]) sa (M ++ [e]) (ws ++ [(q, e')]) := by
  refine ⟨by simp [h.1], by simp [h.2.1], fun j x hx => ?_⟩
  by_cases hj : j < M.length
  · rw [List.getElem?_append_left hj] at hx
    obtain ⟨b, y, h1, h2, h3⟩ := h.2.2 j x hx
    exact ⟨b, y, mm_e.push al q j b h1, by rw [List.getElem?_append_left (by rw [h.2.1]; exact hj)]; exact h2, h3.mono (mm_e.push al q)⟩
  · have hlt : j < (M ++ [e]).length := (List.getElem?_eq_some_iff.mp hx).1
    have hj2 : j = M.length := by simp at hlt; omega
    subst hj2
    rw [List.getElem?_append_right (Nat.le_refl _), Nat.sub_self] at hx
    cases hx
    refine ⟨q, e', ?_, ?_, he⟩
    · rw [← h.1, List.getElem?_append_right (Nat.le_refl _), Nat.sub_self]; rfl
    · rw [← h.2.1, List.getElem?_append_right (Nat.le_refl _), Nat.sub_self]; rfl
/-- locals: what L tells of them -/
def mm_Lr (al : List Nat) (sa nL : Nat) (L : mm_L) (ls : Array Slot) : Prop := L.length = nL ∧ ls.size = nL ∧ lv_wf ls ∧ ∀ (i : Nat) (v : Value), L[i]? = some (some v) → ∃ w, ls[i]? = some (.val w) ∧ mm_v al sa v w
theorem mm_Lr.mono {al al' : List Nat} {sa nL : Nat} {L : mm_L} {ls : Array Slot} (h : mm_e al al') (hl : mm_Lr al sa nL L ls) : mm_Lr al' sa nL L ls :=
  ⟨hl.1, hl.2.1, hl.2.2.1, fun i v hv => by obtain ⟨w, h1, h2⟩ := hl.2.2.2 i v hv; exact ⟨w, h1, h2.mono h⟩⟩
def mm_get (L : mm_L) (i : Nat) : Option Value := match L[i]? with
  | some (some v) => some v
  | _ => none
theorem mm_get_inv {L : mm_L} {i : Nat} {v : Value} (h : mm_get L i = some v) : L[i]? = some (some v) := by
  unfold mm_get at h
  split at h
  · next u hu => cases h; exact hu
  · cases h
def mm_c2 (o : Option (Option Value)) : Bool := match o with
  | some (some (.long _)) => true
  | some (some (.double _)) => true
  | _ => false
/-- a store of one place; not behind a long, whose second half it would take -/
def mm_set (L : mm_L) (i : Nat) (v : Value) : Option mm_L := match L[i]? with
  | none => none
  | some _ => match i with
    | 0 => some (L.set 0 (some v))
    | j + 1 => match mm_c2 L[j]? with
      | true => none
      | false => some (L.set (j + 1) (some v))
theorem mm_set_inv {L L' : mm_L} {i : Nat} {v : Value} (h : mm_set L i v = some L') : i < L.length ∧ L' = L.set i (some v) ∧ ∀ j, j + 1 = i → mm_c2 L[j]? = false := by
  unfold mm_set at h
  split at h
  · cases h
  · next u hu =>
    have hlt : i < L.length := (List.getElem?_eq_some_iff.mp hu).1
    split at h
    · cases h; exact ⟨hlt, rfl, fun j hj => by omega⟩
    · next j =>
      split at h
      · cases h
      · next hc =>
        cases h
        exact ⟨hlt, rfl, fun k hk => by cases (Nat.succ.inj hk); exact hc⟩
def mm_ls (ls : Array Slot) : List (Nat × Value) := (List.range ls.size).filterMap fun (i : Nat) => match (ls[i]? : Option Slot) with
  | some (Slot.val w) => some (i, w)
  | _ => none
theorem mm_ls_mem {ls : Array Slot} {i : Nat} {w : Value} (h : ls[i]? = some (.val w)) : (i, w) ∈ mm_ls ls := by
  refine List.mem_filterMap.mpr ⟨i, List.mem_range.mpr (Array.getElem?_eq_some_iff.mp h).1, ?_⟩
  simp only [h]
theorem mm_ls_has {ls : Array Slot} {nL : Nat} (h1 : ls.size = nL) (h2 : lv_wf ls) : lv_has ls nL (mm_ls ls) := by
  refine ⟨h1, h2, fun q hq => ?_⟩
  obtain ⟨i, -, h⟩ := List.mem_filterMap.mp hq
  split at h
  · next w hw => cases h; exact hw
  · cases h
theorem mm_Lr.set {al : List Nat} {sa nL i : Nat} {L L' : mm_L} {ls ls' : Array Slot} {v w : Value} (h : mm_Lr al sa nL L ls) (hs : mm_set L i v = some L') (hv : mm_v al sa v w)
    (hl : lv_has ls' nL ((i, w) :: (mm_ls ls).filter (fun q => !(q.1 == i) && !(q.1 + 1 == i && q.2.category == 2)))) : mm_Lr al sa nL L' ls' := by
  obtain ⟨hlt, rfl, hc⟩ := mm_set_inv hs
  refine ⟨by rw [List.length_set]; exact h.1, hl.1, hl.2.1, fun j u hj => ?_⟩
  by_cases hij : i = j
  · subst hij
    rw [List.getElem?_set_self hlt] at hj
    cases hj
    exact ⟨w, hl.2.2 (i, w) List.mem_cons_self, hv⟩
  · rw [List.getElem?_set_ne hij] at hj
    obtain ⟨x, h1, h2⟩ := h.2.2.2 j u hj
    refine ⟨x, hl.2.2 (j, x) (List.mem_cons_of_mem _ (List.mem_filter.mpr ⟨mm_ls_mem h1, ?_⟩)), h2⟩
    have e1 : (j == i) = false := by simp; omega
    have e2 : (j + 1 == i && x.category == 2) = false := by
      by_cases hji : j + 1 = i
      · have h3 := hc j hji
        rw [hj] at h3
        have h4 : u.category = 1 := by
          cases u with
          | long y => cases h3
          | double y => cases h3
          | int y => rfl
          | float y => rfl
          | null => rfl
          | ref y => rfl
          | retAddr y => rfl
        rw [h2.cat, h4]; simp
      · simp [hji]
    simp only [e1, e2]; rfl
/-- a method's first locals -/
def mm_args : List Value → List (Option Value)
  | [] => []
  | v :: vs => if v.category = 2 then some v :: none :: mm_args vs else some v :: mm_args vs
theorem mm_args_has {al : List Nat} {sa : Nat} : ∀ {vs us : List Value} (off : Nat), mm_l al sa vs us → ∀ (i : Nat) (v : Value), (mm_args vs)[i]? = some (some v) → ∃ w, (off + i, w) ∈ lv_args off us ∧ mm_v al sa v w := by
  intro vs
  induction vs with
  | nil => intro us off _ i v hv; simp [mm_args] at hv
  | cons u vs ih =>
    intro us off hl i v hv
    obtain ⟨w, ws', rfl, h2, h3⟩ := hl
    have hc := h2.cat
    by_cases h : u.category = 2
    · rw [h] at hc
      simp only [mm_args, if_pos h] at hv
      simp only [lv_args, if_pos hc]
      cases i with
      | zero => simp only [List.getElem?_cons_zero, Option.some.injEq] at hv
                subst hv
                exact ⟨w, List.mem_cons_self, h2⟩
      | succ i => cases i with
        | zero => simp at hv
        | succ i =>
          simp only [List.getElem?_cons_succ] at hv
          obtain ⟨x, h4, h5⟩ := ih (off + 2) h3 i v hv
          exact ⟨x, List.mem_cons_of_mem _ (by rw [show off + (i + 1 + 1) = off + 2 + i by omega]; exact h4), h5⟩
    · have hc' : ¬ w.category = 2 := by rw [hc]; exact h
      simp only [mm_args, if_neg h] at hv
      simp only [lv_args, if_neg hc']
      cases i with
      | zero => simp only [List.getElem?_cons_zero, Option.some.injEq] at hv
                subst hv
                exact ⟨w, List.mem_cons_self, h2⟩
      | succ i =>
        simp only [List.getElem?_cons_succ] at hv
        obtain ⟨x, h4, h5⟩ := ih (off + 1) h3 i v hv
        exact ⟨x, List.mem_cons_of_mem _ (by rw [show off + (i + 1) = off + 1 + i by omega]; exact h4), h5⟩
theorem mm_args_len {al : List Nat} {sa : Nat} : ∀ {vs us : List Value}, mm_l al sa vs us → (lg_sl us).length = (mm_args vs).length := by
  intro vs
  induction vs with
  | nil => intro us hl; have h : us = [] := hl
           rw [h]; rfl
  | cons u vs ih =>
    intro us hl
    obtain ⟨w, ws', rfl, h2, h3⟩ := hl
    have hc := h2.cat
    have h4 := ih h3
    unfold lg_sl at h4 ⊢
    rw [List.flatMap_cons, List.length_append, h4]
    by_cases h : u.category = 2
    · rw [h] at hc
      simp only [mm_args, if_pos h, if_pos hc, List.length_cons, List.length_nil]; omega
    · have hc' : ¬ w.category = 2 := by rw [hc]; exact h
      simp only [mm_args, if_neg h, if_neg hc', List.length_cons, List.length_nil]; omega
def mm_ent (nL : Nat) (vs : List Value) : mm_L := mm_args vs ++ List.replicate (nL - (mm_args vs).length) none
theorem mm_entry {al : List Nat} {sa nL : Nat} {vs us : List Value} (h : mm_l al sa vs us) (hn : (mm_args vs).length ≤ nL) : mm_Lr al sa nL (mm_ent nL vs) ((lg_sl us ++ List.replicate (nL - (lg_sl us).length) Slot.unset).toArray) := by
  have hlen := mm_args_len h
  have he := lv_entry us (n := nL) (by rw [hlen]; exact hn)
  refine ⟨?_, he.1, he.2.1, fun i v hv => ?_⟩
  · unfold mm_ent; rw [List.length_append, List.length_replicate]; omega
  · unfold mm_ent at hv
    by_cases hi : i < (mm_args vs).length
    · rw [List.getElem?_append_left hi] at hv
      obtain ⟨w, h1, h2⟩ := mm_args_has 0 h i v hv
      rw [Nat.zero_add] at h1
      exact ⟨w, he.2.2 (i, w) h1, h2⟩
    · rw [List.getElem?_append_right (Nat.le_of_not_lt hi), List.getElem?_replicate] at hv
      split at hv
      · cases hv
      · cases hv
/-- stacks -/
theorem mm_l.i {al : List Nat} {sa : Nat} {x : Int32} {R st : List Value} (h : mm_l al sa (.int x :: R) st) : ∃ st', st = .int x :: st' ∧ mm_l al sa R st' := by
  obtain ⟨w, ws', h1, h2, h3⟩ := h
  have h2' : w = .int x := h2
  subst h2'
  exact ⟨ws', h1, h3⟩
theorem mm_l.g {al : List Nat} {sa : Nat} {x : Int64} {R st : List Value} (h : mm_l al sa (.long x :: R) st) : ∃ st', st = .long x :: st' ∧ mm_l al sa R st' := by
  obtain ⟨w, ws', h1, h2, h3⟩ := h
  have h2' : w = .long x := h2
  subst h2'
  exact ⟨ws', h1, h3⟩
theorem mm_l.r {al : List Nat} {sa i : Nat} {R st : List Value} (h : mm_l al sa (.ref i :: R) st) : ∃ a st', st = .ref a :: st' ∧ al[i]? = some a ∧ mm_l al sa R st' := by
  obtain ⟨w, ws', h1, ⟨a, h2, rfl⟩, h3⟩ := h
  exact ⟨a, ws', h1, h2, h3⟩
theorem mm_l.pi {al : List Nat} {sa : Nat} {R st : List Value} (x : Int32) (h : mm_l al sa R st) : mm_l al sa (.int x :: R) (.int x :: st) := ⟨_, _, rfl, rfl, h⟩
theorem mm_l.pg {al : List Nat} {sa : Nat} {R st : List Value} (x : Int64) (h : mm_l al sa R st) : mm_l al sa (.long x :: R) (.long x :: st) := ⟨_, _, rfl, rfl, h⟩
theorem mm_l.pv {al : List Nat} {sa : Nat} {R st : List Value} {v w : Value} (hv : mm_v al sa v w) (h : mm_l al sa R st) : mm_l al sa (v :: R) (w :: st) := ⟨_, _, rfl, hv, h⟩
def mm_plv : Value → Bool
  | .int _ => true
  | .long _ => true
  | .null => true
  | _ => false
theorem mm_l.self {al : List Nat} {sa : Nat} : ∀ {fs : List Value}, fs.all mm_plv = true → mm_l al sa fs fs := by
  intro fs
  induction fs with
  | nil => intro _; exact rfl
  | cons v fs ih =>
    intro h
    rw [List.all_cons, Bool.and_eq_true] at h
    refine ⟨v, fs, rfl, ?_, ih h.2⟩
    cases v with
    | int x => exact rfl
    | long x => exact rfl
    | null => exact rfl
    | float x => exact absurd h.1 (by simp [mm_plv])
    | double x => exact absurd h.1 (by simp [mm_plv])
    | ref x => exact absurd h.1 (by simp [mm_plv])
    | retAddr x => exact absurd h.1 (by simp [mm_plv])
end
section
/-! Printed by wip/whole/gen.py: classes, fields, uses of fields, methods and classes, by their places in the tables. -/
def mm_tbl : List Cond := lw_tbl.filter goodWord
theorem mm_in {w : Cond} (h : w ∈ lw_tbl) (hg : goodWord w = true) : w ∈ mm_tbl := List.mem_filter.mpr ⟨h, hg⟩
theorem mm_good : ∀ w ∈ mm_tbl, (w.onTables && w.keeps) = true ∨ ∃ ty, w = .arrayClass ty := fun w h => good_of_word (List.mem_filter.mp h).2
theorem mm_r1 : ∀ w ∈ tables_1_1, w ∈ lw_tbl := fun w h => List.mem_append_right _ (by simp only [tables_1, List.mem_append, h, true_or, or_true])
theorem mm_r2 : ∀ w ∈ tables_1_2, w ∈ lw_tbl := fun w h => List.mem_append_right _ (by simp only [tables_1, List.mem_append, h, true_or, or_true])
theorem mm_r3 : ∀ w ∈ tables_1_3, w ∈ lw_tbl := fun w h => List.mem_append_right _ (by simp only [tables_1, List.mem_append, h, true_or, or_true])
theorem mm_r4 : ∀ w ∈ tables_1_4, w ∈ lw_tbl := fun w h => List.mem_append_right _ (by simp only [tables_1, List.mem_append, h, true_or, or_true])
def mm_nm : Nat → String
  | 0 => "LambdaBench$Abstractor"
  | 1 => "LambdaBench$Builder"
  | 2 => "LambdaBench$Depths"
  | 3 => "LambdaBench$Grammar"
  | 4 => "LambdaBench$Reducer"
  | 5 => "LambdaBench$Tape"
  | 6 => "LambdaBench$Term"
  | 7 => "LambdaBench"
  | 8 => "LambdaBenchModel"
  | _ => "LambdaBenchLaw"
def mm_xn : Nat → String
  | 0 => "java/lang/IllegalArgumentException"
  | 1 => "java/lang/IllegalStateException"
  | _ => "java/lang/IndexOutOfBoundsException"
def mm_F0 : u_T := fun k => match k with
  | 0 => ("LambdaBench$Abstractor", "ends", "[I", true)
  | 1 => ("LambdaBench$Abstractor", "uses", "[I", true)
  | 2 => ("LambdaBench$Abstractor", "now", "LLambdaBench$Term;", false)
  | _ => ("LambdaBench$Abstractor", "next", "LLambdaBench$Term;", false)
def mm_T0 : Nat → FieldType := fun k => match k with
  | 0 => (.array .int)
  | 1 => (.array .int)
  | 2 => (.object "LambdaBench$Term")
  | _ => (.object "LambdaBench$Term")
def mm_F1 : u_T := fun k => match k with
  | 0 => ("LambdaBench$Builder", "names", "[I", true)
  | 1 => ("LambdaBench$Builder", "namesAround", "[I", true)
  | 2 => ("LambdaBench$Builder", "known", "I", false)
  | _ => ("LambdaBench$Builder", "open", "I", false)
def mm_T1 : Nat → FieldType := fun k => match k with
  | 0 => (.array .int)
  | 1 => (.array .int)
  | 2 => .int
  | _ => .int
def mm_F2 : u_T := fun k => match k with
  | 0 => ("LambdaBench$Depths", "depths", "[I", true)
  | _ => ("LambdaBench$Depths", "waiting", "[I", true)
def mm_T2 : Nat → FieldType := fun k => match k with
  | 0 => (.array .int)
  | _ => (.array .int)
def mm_F3 : u_T := fun k => match k with
  | 0 => ("LambdaBench$Grammar", "atoms", "[I", true)
  | 1 => ("LambdaBench$Grammar", "around", "[I", true)
  | 2 => ("LambdaBench$Grammar", "open", "I", false)
  | 3 => ("LambdaBench$Grammar", "begin", "I", false)
  | _ => ("LambdaBench$Grammar", "state", "I", false)
def mm_T3 : Nat → FieldType := fun k => match k with
  | 0 => (.array .int)
  | 1 => (.array .int)
  | 2 => .int
  | 3 => .int
  | _ => .int
def mm_F4 : u_T := fun k => match k with
  | 0 => ("LambdaBench$Reducer", "depths", "LLambdaBench$Depths;", true)
  | 1 => ("LambdaBench$Reducer", "now", "LLambdaBench$Term;", false)
  | 2 => ("LambdaBench$Reducer", "next", "LLambdaBench$Term;", false)
  | _ => ("LambdaBench$Reducer", "outcome", "I", false)
def mm_T4 : Nat → FieldType := fun k => match k with
  | 0 => (.object "LambdaBench$Depths")
  | 1 => (.object "LambdaBench$Term")
  | 2 => (.object "LambdaBench$Term")
  | _ => .int
def mm_F5 : u_T := fun k => match k with
  | 0 => ("LambdaBench$Tape", "bytes", "[I", true)
  | _ => ("LambdaBench$Tape", "length", "I", false)
def mm_T5 : Nat → FieldType := fun k => match k with
  | 0 => (.array .int)
  | _ => .int
def mm_F6 : u_T := fun k => match k with
  | 0 => ("LambdaBench$Term", "codes", "[I", true)
  | 1 => ("LambdaBench$Term", "length", "I", false)
  | _ => ("LambdaBench$Term", "tooGreat", "Z", false)
def mm_T6 : Nat → FieldType := fun k => match k with
  | 0 => (.array .int)
  | 1 => .int
  | _ => .boolean
def mm_F7 : u_T := fun k => match k with
  | 0 => ("LambdaBench", "slots", "[LLambdaBench$Term;", true)
  | 1 => ("LambdaBench", "work", "LLambdaBench$Term;", true)
  | 2 => ("LambdaBench", "tape", "LLambdaBench$Tape;", true)
  | 3 => ("LambdaBench", "grammar", "LLambdaBench$Grammar;", true)
  | 4 => ("LambdaBench", "builder", "LLambdaBench$Builder;", true)
  | 5 => ("LambdaBench", "depths", "LLambdaBench$Depths;", true)
  | 6 => ("LambdaBench", "reducer", "LLambdaBench$Reducer;", true)
  | 7 => ("LambdaBench", "abstractor", "LLambdaBench$Abstractor;", true)
  | _ => ("LambdaBench", "wrongAt", "I", false)
def mm_T7 : Nat → FieldType := fun k => match k with
  | 0 => (.array (.object "LambdaBench$Term"))
  | 1 => (.object "LambdaBench$Term")
  | 2 => (.object "LambdaBench$Tape")
  | 3 => (.object "LambdaBench$Grammar")
  | 4 => (.object "LambdaBench$Builder")
  | 5 => (.object "LambdaBench$Depths")
  | 6 => (.object "LambdaBench$Reducer")
  | 7 => (.object "LambdaBench$Abstractor")
  | _ => .int
def mm_F8 : u_T := fun k => match k with
  | 0 => ("LambdaBenchModel", "thrown", "I", false)
  | 1 => ("LambdaBenchModel", "tape", "[I", true)
  | 2 => ("LambdaBenchModel", "taped", "I", false)
  | 3 => ("LambdaBenchModel", "place", "I", false)
  | 4 => ("LambdaBenchModel", "how", "I", false)
  | 5 => ("LambdaBenchModel", "terms", "[I", true)
  | 6 => ("LambdaBenchModel", "sizes", "[I", true)
  | 7 => ("LambdaBenchModel", "row", "[I", true)
  | 8 => ("LambdaBenchModel", "size", "I", false)
  | 9 => ("LambdaBenchModel", "next", "[I", true)
  | 10 => ("LambdaBenchModel", "nextSize", "I", false)
  | 11 => ("LambdaBenchModel", "great", "Z", false)
  | 12 => ("LambdaBenchModel", "depths", "[I", true)
  | 13 => ("LambdaBenchModel", "todo", "[I", true)
  | 14 => ("LambdaBenchModel", "begins", "[I", true)
  | 15 => ("LambdaBenchModel", "atoms", "[I", true)
  | 16 => ("LambdaBenchModel", "opened", "[I", true)
  | 17 => ("LambdaBenchModel", "open", "I", false)
  | 18 => ("LambdaBenchModel", "bound", "[I", true)
  | 19 => ("LambdaBenchModel", "bounds", "I", false)
  | 20 => ("LambdaBenchModel", "brackets", "I", false)
  | 21 => ("LambdaBenchModel", "at", "I", false)
  | 22 => ("LambdaBenchModel", "length", "I", false)
  | _ => ("LambdaBenchModel", "wrong", "Z", false)
def mm_T8 : Nat → FieldType := fun k => match k with
  | 0 => .int
  | 1 => (.array .int)
  | 2 => .int
  | 3 => .int
  | 4 => .int
  | 5 => (.array .int)
  | 6 => (.array .int)
  | 7 => (.array .int)
  | 8 => .int
  | 9 => (.array .int)
  | 10 => .int
  | 11 => .boolean
  | 12 => (.array .int)
  | 13 => (.array .int)
  | 14 => (.array .int)
  | 15 => (.array .int)
  | 16 => (.array .int)
  | 17 => .int
  | 18 => (.array .int)
  | 19 => .int
  | 20 => .int
  | 21 => .int
  | 22 => .int
  | _ => .boolean
def mm_tf : Nat → Nat → FieldType
  | 0 => mm_T0
  | 1 => mm_T1
  | 2 => mm_T2
  | 3 => mm_T3
  | 4 => mm_T4
  | 5 => mm_T5
  | 6 => mm_T6
  | 7 => mm_T7
  | _ => mm_T8
def mm_fin : Nat → Nat → Bool
  | 0 => fun k => (mm_F0 k).2.2.2
  | 1 => fun k => (mm_F1 k).2.2.2
  | 2 => fun k => (mm_F2 k).2.2.2
  | 3 => fun k => (mm_F3 k).2.2.2
  | 4 => fun k => (mm_F4 k).2.2.2
  | 5 => fun k => (mm_F5 k).2.2.2
  | 6 => fun k => (mm_F6 k).2.2.2
  | 7 => fun k => (mm_F7 k).2.2.2
  | _ => fun k => (mm_F8 k).2.2.2
def mm_df : Nat → List Value
  | 0 => [.null, .null, .null, .null]
  | 1 => [.null, .null, .int 0, .int 0]
  | 2 => [.null, .null]
  | 3 => [.null, .null, .int 0, .int 0, .int 0]
  | 4 => [.null, .null, .null, .int 0]
  | 5 => [.null, .int 0]
  | 6 => [.null, .int 0, .int 0]
  | 7 => [.null, .null, .null, .null, .null, .null, .null, .null, .int 0]
  | _ => [.int 0, .null, .int 0, .int 0, .int 0, .null, .null, .null, .int 0, .null, .int 0, .int 0, .null, .null, .null, .null, .null, .int 0, .null, .int 0, .int 0, .int 0, .int 0, .int 0]
abbrev mm_cl : List vw_C := [("LambdaBench$Abstractor", mm_F0, 4), ("LambdaBench$Builder", mm_F1, 4), ("LambdaBench$Depths", mm_F2, 2), ("LambdaBench$Grammar", mm_F3, 5), ("LambdaBench$Reducer", mm_F4, 4), ("LambdaBench$Tape", mm_F5, 2), ("LambdaBench$Term", mm_F6, 3), ("LambdaBench", mm_F7, 9), ("LambdaBenchModel", mm_F8, 24)]
def mm_cT : Nat := 6
def mm_clT : vw_C := ("LambdaBench$Term", mm_F6, 3)
theorem mm_clT_at : mm_cl[mm_cT]? = some mm_clT := rfl
theorem mm_cT_nm : mm_nm mm_cT = "LambdaBench$Term" := rfl
def mm_clP (ci : Nat) (C : String) (T : u_T) (N : Nat) : Prop := C = mm_nm ci ∧ (∀ k, k < N → (T k).1 = C ∧ (T k).2.2.2 = mm_fin ci k ∧ parseFieldDescriptor (T k).2.2.1 = some (mm_tf ci k)) ∧ (∀ a, a < N → ∀ b, b < N → a ≠ b → (T a).2.1 ≠ (T b).2.1) ∧ (∀ w ∈ u_ws C T N, w ∈ mm_tbl) ∧ Cond.instantiable C N ∈ mm_tbl ∧ Cond.initialized C ∈ mm_tbl
theorem mm_w0 : ∀ w ∈ u_ws "LambdaBench$Abstractor" mm_F0 4, w ∈ mm_tbl :=
  show ∀ w ∈ ([.laysFinal "LambdaBench$Abstractor" "LambdaBench$Abstractor" "ends" "[I", .laysFinal "LambdaBench$Abstractor" "LambdaBench$Abstractor" "uses" "[I", .lays "LambdaBench$Abstractor" "LambdaBench$Abstractor" "now" "LLambdaBench$Term;", .lays "LambdaBench$Abstractor" "LambdaBench$Abstractor" "next" "LLambdaBench$Term;"] : List Cond), w ∈ mm_tbl from List.forall_mem_cons.mpr ⟨mm_in (mm_r1 _ (List.mem_of_getElem? (i := 146) rfl)) rfl, List.forall_mem_cons.mpr ⟨mm_in (mm_r1 _ (List.mem_of_getElem? (i := 148) rfl)) rfl, List.forall_mem_cons.mpr ⟨mm_in (mm_r1 _ (List.mem_of_getElem? (i := 150) rfl)) rfl, List.forall_mem_cons.mpr ⟨mm_in (mm_r1 _ (List.mem_of_getElem? (i := 152) rfl)) rfl, fun _ h => absurd h List.not_mem_nil⟩⟩⟩⟩
theorem mm_cp0 : mm_clP 0 "LambdaBench$Abstractor" mm_F0 4 := ⟨rfl, by decide +kernel, by decide +kernel, mm_w0, mm_in (mm_r1 _ (List.mem_of_getElem? (i := 135) rfl)) rfl, mm_in (mm_r1 _ (List.mem_of_getElem? (i := 8) rfl)) rfl⟩
theorem mm_w1 : ∀ w ∈ u_ws "LambdaBench$Builder" mm_F1 4, w ∈ mm_tbl :=
  show ∀ w ∈ ([.laysFinal "LambdaBench$Builder" "LambdaBench$Builder" "names" "[I", .laysFinal "LambdaBench$Builder" "LambdaBench$Builder" "namesAround" "[I", .lays "LambdaBench$Builder" "LambdaBench$Builder" "known" "I", .lays "LambdaBench$Builder" "LambdaBench$Builder" "open" "I"] : List Cond), w ∈ mm_tbl from List.forall_mem_cons.mpr ⟨mm_in (mm_r1 _ (List.mem_of_getElem? (i := 89) rfl)) rfl, List.forall_mem_cons.mpr ⟨mm_in (mm_r1 _ (List.mem_of_getElem? (i := 91) rfl)) rfl, List.forall_mem_cons.mpr ⟨mm_in (mm_r1 _ (List.mem_of_getElem? (i := 93) rfl)) rfl, List.forall_mem_cons.mpr ⟨mm_in (mm_r1 _ (List.mem_of_getElem? (i := 95) rfl)) rfl, fun _ h => absurd h List.not_mem_nil⟩⟩⟩⟩
theorem mm_cp1 : mm_clP 1 "LambdaBench$Builder" mm_F1 4 := ⟨rfl, by decide +kernel, by decide +kernel, mm_w1, mm_in (mm_r1 _ (List.mem_of_getElem? (i := 80) rfl)) rfl, mm_in (mm_r1 _ (List.mem_of_getElem? (i := 5) rfl)) rfl⟩
theorem mm_w2 : ∀ w ∈ u_ws "LambdaBench$Depths" mm_F2 2, w ∈ mm_tbl :=
  show ∀ w ∈ ([.laysFinal "LambdaBench$Depths" "LambdaBench$Depths" "depths" "[I", .laysFinal "LambdaBench$Depths" "LambdaBench$Depths" "waiting" "[I"] : List Cond), w ∈ mm_tbl from List.forall_mem_cons.mpr ⟨mm_in (mm_r1 _ (List.mem_of_getElem? (i := 106) rfl)) rfl, List.forall_mem_cons.mpr ⟨mm_in (mm_r1 _ (List.mem_of_getElem? (i := 108) rfl)) rfl, fun _ h => absurd h List.not_mem_nil⟩⟩
theorem mm_cp2 : mm_clP 2 "LambdaBench$Depths" mm_F2 2 := ⟨rfl, by decide +kernel, by decide +kernel, mm_w2, mm_in (mm_r1 _ (List.mem_of_getElem? (i := 99) rfl)) rfl, mm_in (mm_r1 _ (List.mem_of_getElem? (i := 6) rfl)) rfl⟩
theorem mm_w3 : ∀ w ∈ u_ws "LambdaBench$Grammar" mm_F3 5, w ∈ mm_tbl :=
  show ∀ w ∈ ([.laysFinal "LambdaBench$Grammar" "LambdaBench$Grammar" "atoms" "[I", .laysFinal "LambdaBench$Grammar" "LambdaBench$Grammar" "around" "[I", .lays "LambdaBench$Grammar" "LambdaBench$Grammar" "open" "I", .lays "LambdaBench$Grammar" "LambdaBench$Grammar" "begin" "I", .lays "LambdaBench$Grammar" "LambdaBench$Grammar" "state" "I"] : List Cond), w ∈ mm_tbl from List.forall_mem_cons.mpr ⟨mm_in (mm_r1 _ (List.mem_of_getElem? (i := 68) rfl)) rfl, List.forall_mem_cons.mpr ⟨mm_in (mm_r1 _ (List.mem_of_getElem? (i := 70) rfl)) rfl, List.forall_mem_cons.mpr ⟨mm_in (mm_r1 _ (List.mem_of_getElem? (i := 72) rfl)) rfl, List.forall_mem_cons.mpr ⟨mm_in (mm_r1 _ (List.mem_of_getElem? (i := 74) rfl)) rfl, List.forall_mem_cons.mpr ⟨mm_in (mm_r1 _ (List.mem_of_getElem? (i := 76) rfl)) rfl, fun _ h => absurd h List.not_mem_nil⟩⟩⟩⟩⟩
theorem mm_cp3 : mm_clP 3 "LambdaBench$Grammar" mm_F3 5 := ⟨rfl, by decide +kernel, by decide +kernel, mm_w3, mm_in (mm_r1 _ (List.mem_of_getElem? (i := 58) rfl)) rfl, mm_in (mm_r1 _ (List.mem_of_getElem? (i := 4) rfl)) rfl⟩
theorem mm_w4 : ∀ w ∈ u_ws "LambdaBench$Reducer" mm_F4 4, w ∈ mm_tbl :=
  show ∀ w ∈ ([.laysFinal "LambdaBench$Reducer" "LambdaBench$Reducer" "depths" "LLambdaBench$Depths;", .lays "LambdaBench$Reducer" "LambdaBench$Reducer" "now" "LLambdaBench$Term;", .lays "LambdaBench$Reducer" "LambdaBench$Reducer" "next" "LLambdaBench$Term;", .lays "LambdaBench$Reducer" "LambdaBench$Reducer" "outcome" "I"] : List Cond), w ∈ mm_tbl from List.forall_mem_cons.mpr ⟨mm_in (mm_r1 _ (List.mem_of_getElem? (i := 125) rfl)) rfl, List.forall_mem_cons.mpr ⟨mm_in (mm_r1 _ (List.mem_of_getElem? (i := 127) rfl)) rfl, List.forall_mem_cons.mpr ⟨mm_in (mm_r1 _ (List.mem_of_getElem? (i := 129) rfl)) rfl, List.forall_mem_cons.mpr ⟨mm_in (mm_r1 _ (List.mem_of_getElem? (i := 131) rfl)) rfl, fun _ h => absurd h List.not_mem_nil⟩⟩⟩⟩
theorem mm_cp4 : mm_clP 4 "LambdaBench$Reducer" mm_F4 4 := ⟨rfl, by decide +kernel, by decide +kernel, mm_w4, mm_in (mm_r1 _ (List.mem_of_getElem? (i := 112) rfl)) rfl, mm_in (mm_r1 _ (List.mem_of_getElem? (i := 7) rfl)) rfl⟩
theorem mm_w5 : ∀ w ∈ u_ws "LambdaBench$Tape" mm_F5 2, w ∈ mm_tbl :=
  show ∀ w ∈ ([.laysFinal "LambdaBench$Tape" "LambdaBench$Tape" "bytes" "[I", .lays "LambdaBench$Tape" "LambdaBench$Tape" "length" "I"] : List Cond), w ∈ mm_tbl from List.forall_mem_cons.mpr ⟨mm_in (mm_r1 _ (List.mem_of_getElem? (i := 52) rfl)) rfl, List.forall_mem_cons.mpr ⟨mm_in (mm_r1 _ (List.mem_of_getElem? (i := 54) rfl)) rfl, fun _ h => absurd h List.not_mem_nil⟩⟩
theorem mm_cp5 : mm_clP 5 "LambdaBench$Tape" mm_F5 2 := ⟨rfl, by decide +kernel, by decide +kernel, mm_w5, mm_in (mm_r1 _ (List.mem_of_getElem? (i := 45) rfl)) rfl, mm_in (mm_r1 _ (List.mem_of_getElem? (i := 3) rfl)) rfl⟩
theorem mm_w6 : ∀ w ∈ u_ws "LambdaBench$Term" mm_F6 3, w ∈ mm_tbl :=
  show ∀ w ∈ ([.laysFinal "LambdaBench$Term" "LambdaBench$Term" "codes" "[I", .lays "LambdaBench$Term" "LambdaBench$Term" "length" "I", .lays "LambdaBench$Term" "LambdaBench$Term" "tooGreat" "Z"] : List Cond), w ∈ mm_tbl from List.forall_mem_cons.mpr ⟨mm_in (mm_r1 _ (List.mem_of_getElem? (i := 36) rfl)) rfl, List.forall_mem_cons.mpr ⟨mm_in (mm_r1 _ (List.mem_of_getElem? (i := 38) rfl)) rfl, List.forall_mem_cons.mpr ⟨mm_in (mm_r1 _ (List.mem_of_getElem? (i := 40) rfl)) rfl, fun _ h => absurd h List.not_mem_nil⟩⟩⟩
theorem mm_cp6 : mm_clP 6 "LambdaBench$Term" mm_F6 3 := ⟨rfl, by decide +kernel, by decide +kernel, mm_w6, mm_in (mm_r1 _ (List.mem_of_getElem? (i := 28) rfl)) rfl, mm_in (mm_r1 _ (List.mem_of_getElem? (i := 2) rfl)) rfl⟩
theorem mm_w7 : ∀ w ∈ u_ws "LambdaBench" mm_F7 9, w ∈ mm_tbl :=
  show ∀ w ∈ ([.laysFinal "LambdaBench" "LambdaBench" "slots" "[LLambdaBench$Term;", .laysFinal "LambdaBench" "LambdaBench" "work" "LLambdaBench$Term;", .laysFinal "LambdaBench" "LambdaBench" "tape" "LLambdaBench$Tape;", .laysFinal "LambdaBench" "LambdaBench" "grammar" "LLambdaBench$Grammar;", .laysFinal "LambdaBench" "LambdaBench" "builder" "LLambdaBench$Builder;", .laysFinal "LambdaBench" "LambdaBench" "depths" "LLambdaBench$Depths;", .laysFinal "LambdaBench" "LambdaBench" "reducer" "LLambdaBench$Reducer;", .laysFinal "LambdaBench" "LambdaBench" "abstractor" "LLambdaBench$Abstractor;", .lays "LambdaBench" "LambdaBench" "wrongAt" "I"] : List Cond), w ∈ mm_tbl from List.forall_mem_cons.mpr ⟨mm_in (mm_r1 _ (List.mem_of_getElem? (i := 164) rfl)) rfl, List.forall_mem_cons.mpr ⟨mm_in (mm_r1 _ (List.mem_of_getElem? (i := 166) rfl)) rfl, List.forall_mem_cons.mpr ⟨mm_in (mm_r1 _ (List.mem_of_getElem? (i := 168) rfl)) rfl, List.forall_mem_cons.mpr ⟨mm_in (mm_r1 _ (List.mem_of_getElem? (i := 170) rfl)) rfl, List.forall_mem_cons.mpr ⟨mm_in (mm_r1 _ (List.mem_of_getElem? (i := 172) rfl)) rfl, List.forall_mem_cons.mpr ⟨mm_in (mm_r1 _ (List.mem_of_getElem? (i := 174) rfl)) rfl, List.forall_mem_cons.mpr ⟨mm_in (mm_r1 _ (List.mem_of_getElem? (i := 176) rfl)) rfl, List.forall_mem_cons.mpr ⟨mm_in (mm_r1 _ (List.mem_of_getElem? (i := 178) rfl)) rfl, List.forall_mem_cons.mpr ⟨mm_in (mm_r1 _ (List.mem_of_getElem? (i := 180) rfl)) rfl, fun _ h => absurd h List.not_mem_nil⟩⟩⟩⟩⟩⟩⟩⟩⟩
theorem mm_cp7 : mm_clP 7 "LambdaBench" mm_F7 9 := ⟨rfl, by decide +kernel, by decide +kernel, mm_w7, mm_in (mm_r1 _ (List.mem_of_getElem? (i := 19) rfl)) rfl, mm_in (mm_r1 _ (List.mem_of_getElem? (i := 1) rfl)) rfl⟩
theorem mm_w8 : ∀ w ∈ u_ws "LambdaBenchModel" mm_F8 24, w ∈ mm_tbl :=
  show ∀ w ∈ ([.lays "LambdaBenchModel" "LambdaBenchModel" "thrown" "I", .laysFinal "LambdaBenchModel" "LambdaBenchModel" "tape" "[I", .lays "LambdaBenchModel" "LambdaBenchModel" "taped" "I", .lays "LambdaBenchModel" "LambdaBenchModel" "place" "I", .lays "LambdaBenchModel" "LambdaBenchModel" "how" "I", .laysFinal "LambdaBenchModel" "LambdaBenchModel" "terms" "[I", .laysFinal "LambdaBenchModel" "LambdaBenchModel" "sizes" "[I", .laysFinal "LambdaBenchModel" "LambdaBenchModel" "row" "[I", .lays "LambdaBenchModel" "LambdaBenchModel" "size" "I", .laysFinal "LambdaBenchModel" "LambdaBenchModel" "next" "[I", .lays "LambdaBenchModel" "LambdaBenchModel" "nextSize" "I", .lays "LambdaBenchModel" "LambdaBenchModel" "great" "Z", .laysFinal "LambdaBenchModel" "LambdaBenchModel" "depths" "[I", .laysFinal "LambdaBenchModel" "LambdaBenchModel" "todo" "[I", .laysFinal "LambdaBenchModel" "LambdaBenchModel" "begins" "[I", .laysFinal "LambdaBenchModel" "LambdaBenchModel" "atoms" "[I", .laysFinal "LambdaBenchModel" "LambdaBenchModel" "opened" "[I", .lays "LambdaBenchModel" "LambdaBenchModel" "open" "I", .laysFinal "LambdaBenchModel" "LambdaBenchModel" "bound" "[I", .lays "LambdaBenchModel" "LambdaBenchModel" "bounds" "I", .lays "LambdaBenchModel" "LambdaBenchModel" "brackets" "I", .lays "LambdaBenchModel" "LambdaBenchModel" "at" "I", .lays "LambdaBenchModel" "LambdaBenchModel" "length" "I", .lays "LambdaBenchModel" "LambdaBenchModel" "wrong" "Z"] : List Cond), w ∈ mm_tbl from List.forall_mem_cons.mpr ⟨mm_in (mm_r3 _ (List.mem_of_getElem? (i := 217) rfl)) rfl, List.forall_mem_cons.mpr ⟨mm_in (mm_r3 _ (List.mem_of_getElem? (i := 219) rfl)) rfl, List.forall_mem_cons.mpr ⟨mm_in (mm_r3 _ (List.mem_of_getElem? (i := 221) rfl)) rfl, List.forall_mem_cons.mpr ⟨mm_in (mm_r3 _ (List.mem_of_getElem? (i := 223) rfl)) rfl, List.forall_mem_cons.mpr ⟨mm_in (mm_r3 _ (List.mem_of_getElem? (i := 225) rfl)) rfl, List.forall_mem_cons.mpr ⟨mm_in (mm_r3 _ (List.mem_of_getElem? (i := 227) rfl)) rfl, List.forall_mem_cons.mpr ⟨mm_in (mm_r3 _ (List.mem_of_getElem? (i := 229) rfl)) rfl, List.forall_mem_cons.mpr ⟨mm_in (mm_r3 _ (List.mem_of_getElem? (i := 231) rfl)) rfl, List.forall_mem_cons.mpr ⟨mm_in (mm_r3 _ (List.mem_of_getElem? (i := 233) rfl)) rfl, List.forall_mem_cons.mpr ⟨mm_in (mm_r3 _ (List.mem_of_getElem? (i := 235) rfl)) rfl, List.forall_mem_cons.mpr ⟨mm_in (mm_r3 _ (List.mem_of_getElem? (i := 237) rfl)) rfl, List.forall_mem_cons.mpr ⟨mm_in (mm_r3 _ (List.mem_of_getElem? (i := 239) rfl)) rfl, List.forall_mem_cons.mpr ⟨mm_in (mm_r4 _ (List.mem_of_getElem? (i := 1) rfl)) rfl, List.forall_mem_cons.mpr ⟨mm_in (mm_r4 _ (List.mem_of_getElem? (i := 3) rfl)) rfl, List.forall_mem_cons.mpr ⟨mm_in (mm_r4 _ (List.mem_of_getElem? (i := 5) rfl)) rfl, List.forall_mem_cons.mpr ⟨mm_in (mm_r4 _ (List.mem_of_getElem? (i := 7) rfl)) rfl, List.forall_mem_cons.mpr ⟨mm_in (mm_r4 _ (List.mem_of_getElem? (i := 9) rfl)) rfl, List.forall_mem_cons.mpr ⟨mm_in (mm_r4 _ (List.mem_of_getElem? (i := 11) rfl)) rfl, List.forall_mem_cons.mpr ⟨mm_in (mm_r4 _ (List.mem_of_getElem? (i := 13) rfl)) rfl, List.forall_mem_cons.mpr ⟨mm_in (mm_r4 _ (List.mem_of_getElem? (i := 15) rfl)) rfl, List.forall_mem_cons.mpr ⟨mm_in (mm_r4 _ (List.mem_of_getElem? (i := 17) rfl)) rfl, List.forall_mem_cons.mpr ⟨mm_in (mm_r4 _ (List.mem_of_getElem? (i := 19) rfl)) rfl, List.forall_mem_cons.mpr ⟨mm_in (mm_r4 _ (List.mem_of_getElem? (i := 21) rfl)) rfl, List.forall_mem_cons.mpr ⟨mm_in (mm_r4 _ (List.mem_of_getElem? (i := 23) rfl)) rfl, fun _ h => absurd h List.not_mem_nil⟩⟩⟩⟩⟩⟩⟩⟩⟩⟩⟩⟩⟩⟩⟩⟩⟩⟩⟩⟩⟩⟩⟩⟩
theorem mm_cp8 : mm_clP 8 "LambdaBenchModel" mm_F8 24 := ⟨rfl, by decide +kernel, by decide +kernel, mm_w8, mm_in (mm_r3 _ (List.mem_of_getElem? (i := 188) rfl)) rfl, mm_in (mm_r1 _ (List.mem_of_getElem? (i := 9) rfl)) rfl⟩
theorem mm_cl_ok : ∀ (ci : Nat) (C : String) (T : u_T) (N : Nat), mm_cl[ci]? = some (C, T, N) → mm_clP ci C T N := by
  intro ci C T N h
  match ci, h with
  | 0, h => cases h; exact mm_cp0
  | 1, h => cases h; exact mm_cp1
  | 2, h => cases h; exact mm_cp2
  | 3, h => cases h; exact mm_cp3
  | 4, h => cases h; exact mm_cp4
  | 5, h => cases h; exact mm_cp5
  | 6, h => cases h; exact mm_cp6
  | 7, h => cases h; exact mm_cp7
  | 8, h => cases h; exact mm_cp8
  | n + 9, h => cases h
theorem mm_df_ok : ∀ (ci : Nat) (C : String) (T : u_T) (N : Nat), mm_cl[ci]? = some (C, T, N) → (mm_df ci).length = N ∧ (mm_df ci).all mm_plv = true ∧ ∀ j, j < N → defaultValue (mm_tf ci j) = vp_V (mm_df ci) j := by
  intro ci C T N h
  match ci, h with
  | 0, h => cases h; exact ⟨rfl, rfl, by decide +kernel⟩
  | 1, h => cases h; exact ⟨rfl, rfl, by decide +kernel⟩
  | 2, h => cases h; exact ⟨rfl, rfl, by decide +kernel⟩
  | 3, h => cases h; exact ⟨rfl, rfl, by decide +kernel⟩
  | 4, h => cases h; exact ⟨rfl, rfl, by decide +kernel⟩
  | 5, h => cases h; exact ⟨rfl, rfl, by decide +kernel⟩
  | 6, h => cases h; exact ⟨rfl, rfl, by decide +kernel⟩
  | 7, h => cases h; exact ⟨rfl, rfl, by decide +kernel⟩
  | 8, h => cases h; exact ⟨rfl, rfl, by decide +kernel⟩
  | n + 9, h => cases h
def mm_fuP (q : Nat × Nat × Nat × Nat) : Prop := ∃ (C : String) (T : u_T) (N : Nat), mm_cl[q.2.2.1]? = some (C, T, N) ∧ q.2.2.2 < N ∧ Cond.fieldLink (mm_nm q.1) q.2.1 C (T q.2.2.2).2.1 (T q.2.2.2).2.2.1 ∈ mm_tbl
def mm_fu_0 : List (Nat × Nat × Nat × Nat) := [(7, 11, 7, 0), (7, 16, 7, 1), (7, 23, 7, 2), (7, 30, 7, 3), (7, 37, 7, 4), (7, 44, 7, 5), (7, 51, 7, 6), (7, 58, 7, 7), (7, 62, 7, 8), (6, 9, 6, 0), (5, 9, 5, 0), (3, 9, 3, 0), (3, 15, 3, 1), (1, 9, 1, 0), (1, 15, 1, 1), (2, 9, 2, 0), (2, 15, 2, 1), (4, 12, 4, 0), (4, 21, 4, 1), (4, 25, 4, 2), (4, 28, 4, 3), (0, 9, 0, 0), (0, 15, 0, 1), (0, 21, 0, 2), (0, 25, 0, 3)]
theorem mm_fu_p0 : ∀ q ∈ mm_fu_0, mm_fuP q := List.forall_mem_cons.mpr ⟨⟨_, _, _, rfl, by decide, mm_in (mm_r1 _ (List.mem_of_getElem? (i := 155) rfl)) rfl⟩, List.forall_mem_cons.mpr ⟨⟨_, _, _, rfl, by decide, mm_in (mm_r1 _ (List.mem_of_getElem? (i := 156) rfl)) rfl⟩, List.forall_mem_cons.mpr ⟨⟨_, _, _, rfl, by decide, mm_in (mm_r1 _ (List.mem_of_getElem? (i := 157) rfl)) rfl⟩, List.forall_mem_cons.mpr ⟨⟨_, _, _, rfl, by decide, mm_in (mm_r1 _ (List.mem_of_getElem? (i := 158) rfl)) rfl⟩, List.forall_mem_cons.mpr ⟨⟨_, _, _, rfl, by decide, mm_in (mm_r1 _ (List.mem_of_getElem? (i := 159) rfl)) rfl⟩, List.forall_mem_cons.mpr ⟨⟨_, _, _, rfl, by decide, mm_in (mm_r1 _ (List.mem_of_getElem? (i := 160) rfl)) rfl⟩, List.forall_mem_cons.mpr ⟨⟨_, _, _, rfl, by decide, mm_in (mm_r1 _ (List.mem_of_getElem? (i := 161) rfl)) rfl⟩, List.forall_mem_cons.mpr ⟨⟨_, _, _, rfl, by decide, mm_in (mm_r1 _ (List.mem_of_getElem? (i := 162) rfl)) rfl⟩, List.forall_mem_cons.mpr ⟨⟨_, _, _, rfl, by decide, mm_in (mm_r1 _ (List.mem_of_getElem? (i := 163) rfl)) rfl⟩, List.forall_mem_cons.mpr ⟨⟨_, _, _, rfl, by decide, mm_in (mm_r1 _ (List.mem_of_getElem? (i := 33) rfl)) rfl⟩, List.forall_mem_cons.mpr ⟨⟨_, _, _, rfl, by decide, mm_in (mm_r1 _ (List.mem_of_getElem? (i := 50) rfl)) rfl⟩, List.forall_mem_cons.mpr ⟨⟨_, _, _, rfl, by decide, mm_in (mm_r1 _ (List.mem_of_getElem? (i := 63) rfl)) rfl⟩, List.forall_mem_cons.mpr ⟨⟨_, _, _, rfl, by decide, mm_in (mm_r1 _ (List.mem_of_getElem? (i := 64) rfl)) rfl⟩, List.forall_mem_cons.mpr ⟨⟨_, _, _, rfl, by decide, mm_in (mm_r1 _ (List.mem_of_getElem? (i := 85) rfl)) rfl⟩, List.forall_mem_cons.mpr ⟨⟨_, _, _, rfl, by decide, mm_in (mm_r1 _ (List.mem_of_getElem? (i := 86) rfl)) rfl⟩, List.forall_mem_cons.mpr ⟨⟨_, _, _, rfl, by decide, mm_in (mm_r1 _ (List.mem_of_getElem? (i := 104) rfl)) rfl⟩, List.forall_mem_cons.mpr ⟨⟨_, _, _, rfl, by decide, mm_in (mm_r1 _ (List.mem_of_getElem? (i := 105) rfl)) rfl⟩, List.forall_mem_cons.mpr ⟨⟨_, _, _, rfl, by decide, mm_in (mm_r1 _ (List.mem_of_getElem? (i := 121) rfl)) rfl⟩, List.forall_mem_cons.mpr ⟨⟨_, _, _, rfl, by decide, mm_in (mm_r1 _ (List.mem_of_getElem? (i := 122) rfl)) rfl⟩, List.forall_mem_cons.mpr ⟨⟨_, _, _, rfl, by decide, mm_in (mm_r1 _ (List.mem_of_getElem? (i := 123) rfl)) rfl⟩, List.forall_mem_cons.mpr ⟨⟨_, _, _, rfl, by decide, mm_in (mm_r1 _ (List.mem_of_getElem? (i := 124) rfl)) rfl⟩, List.forall_mem_cons.mpr ⟨⟨_, _, _, rfl, by decide, mm_in (mm_r1 _ (List.mem_of_getElem? (i := 142) rfl)) rfl⟩, List.forall_mem_cons.mpr ⟨⟨_, _, _, rfl, by decide, mm_in (mm_r1 _ (List.mem_of_getElem? (i := 143) rfl)) rfl⟩, List.forall_mem_cons.mpr ⟨⟨_, _, _, rfl, by decide, mm_in (mm_r1 _ (List.mem_of_getElem? (i := 144) rfl)) rfl⟩, List.forall_mem_cons.mpr ⟨⟨_, _, _, rfl, by decide, mm_in (mm_r1 _ (List.mem_of_getElem? (i := 145) rfl)) rfl⟩, fun _ h => absurd h List.not_mem_nil⟩⟩⟩⟩⟩⟩⟩⟩⟩⟩⟩⟩⟩⟩⟩⟩⟩⟩⟩⟩⟩⟩⟩⟩⟩
def mm_fu_1 : List (Nat × Nat × Nat × Nat) := [(5, 15, 5, 1), (3, 18, 3, 2), (3, 44, 3, 4), (3, 47, 3, 3), (1, 18, 1, 2), (1, 22, 1, 3), (6, 15, 6, 1), (6, 19, 6, 2), (8, 7, 8, 1), (8, 13, 8, 3), (8, 17, 8, 5), (8, 20, 8, 6), (8, 23, 8, 7), (8, 26, 8, 9), (8, 29, 8, 12), (8, 32, 8, 13), (8, 35, 8, 14), (8, 38, 8, 15), (8, 41, 8, 16), (8, 44, 8, 18), (8, 47, 8, 0), (8, 54, 8, 2), (8, 89, 8, 22), (8, 83, 8, 23), (8, 64, 8, 11)]
theorem mm_fu_p1 : ∀ q ∈ mm_fu_1, mm_fuP q := List.forall_mem_cons.mpr ⟨⟨_, _, _, rfl, by decide, mm_in (mm_r1 _ (List.mem_of_getElem? (i := 51) rfl)) rfl⟩, List.forall_mem_cons.mpr ⟨⟨_, _, _, rfl, by decide, mm_in (mm_r1 _ (List.mem_of_getElem? (i := 65) rfl)) rfl⟩, List.forall_mem_cons.mpr ⟨⟨_, _, _, rfl, by decide, mm_in (mm_r1 _ (List.mem_of_getElem? (i := 67) rfl)) rfl⟩, List.forall_mem_cons.mpr ⟨⟨_, _, _, rfl, by decide, mm_in (mm_r1 _ (List.mem_of_getElem? (i := 66) rfl)) rfl⟩, List.forall_mem_cons.mpr ⟨⟨_, _, _, rfl, by decide, mm_in (mm_r1 _ (List.mem_of_getElem? (i := 87) rfl)) rfl⟩, List.forall_mem_cons.mpr ⟨⟨_, _, _, rfl, by decide, mm_in (mm_r1 _ (List.mem_of_getElem? (i := 88) rfl)) rfl⟩, List.forall_mem_cons.mpr ⟨⟨_, _, _, rfl, by decide, mm_in (mm_r1 _ (List.mem_of_getElem? (i := 34) rfl)) rfl⟩, List.forall_mem_cons.mpr ⟨⟨_, _, _, rfl, by decide, mm_in (mm_r1 _ (List.mem_of_getElem? (i := 35) rfl)) rfl⟩, List.forall_mem_cons.mpr ⟨⟨_, _, _, rfl, by decide, mm_in (mm_r3 _ (List.mem_of_getElem? (i := 194) rfl)) rfl⟩, List.forall_mem_cons.mpr ⟨⟨_, _, _, rfl, by decide, mm_in (mm_r3 _ (List.mem_of_getElem? (i := 196) rfl)) rfl⟩, List.forall_mem_cons.mpr ⟨⟨_, _, _, rfl, by decide, mm_in (mm_r3 _ (List.mem_of_getElem? (i := 198) rfl)) rfl⟩, List.forall_mem_cons.mpr ⟨⟨_, _, _, rfl, by decide, mm_in (mm_r3 _ (List.mem_of_getElem? (i := 199) rfl)) rfl⟩, List.forall_mem_cons.mpr ⟨⟨_, _, _, rfl, by decide, mm_in (mm_r3 _ (List.mem_of_getElem? (i := 200) rfl)) rfl⟩, List.forall_mem_cons.mpr ⟨⟨_, _, _, rfl, by decide, mm_in (mm_r3 _ (List.mem_of_getElem? (i := 202) rfl)) rfl⟩, List.forall_mem_cons.mpr ⟨⟨_, _, _, rfl, by decide, mm_in (mm_r3 _ (List.mem_of_getElem? (i := 205) rfl)) rfl⟩, List.forall_mem_cons.mpr ⟨⟨_, _, _, rfl, by decide, mm_in (mm_r3 _ (List.mem_of_getElem? (i := 206) rfl)) rfl⟩, List.forall_mem_cons.mpr ⟨⟨_, _, _, rfl, by decide, mm_in (mm_r3 _ (List.mem_of_getElem? (i := 207) rfl)) rfl⟩, List.forall_mem_cons.mpr ⟨⟨_, _, _, rfl, by decide, mm_in (mm_r3 _ (List.mem_of_getElem? (i := 208) rfl)) rfl⟩, List.forall_mem_cons.mpr ⟨⟨_, _, _, rfl, by decide, mm_in (mm_r3 _ (List.mem_of_getElem? (i := 209) rfl)) rfl⟩, List.forall_mem_cons.mpr ⟨⟨_, _, _, rfl, by decide, mm_in (mm_r3 _ (List.mem_of_getElem? (i := 211) rfl)) rfl⟩, List.forall_mem_cons.mpr ⟨⟨_, _, _, rfl, by decide, mm_in (mm_r3 _ (List.mem_of_getElem? (i := 193) rfl)) rfl⟩, List.forall_mem_cons.mpr ⟨⟨_, _, _, rfl, by decide, mm_in (mm_r3 _ (List.mem_of_getElem? (i := 195) rfl)) rfl⟩, List.forall_mem_cons.mpr ⟨⟨_, _, _, rfl, by decide, mm_in (mm_r3 _ (List.mem_of_getElem? (i := 215) rfl)) rfl⟩, List.forall_mem_cons.mpr ⟨⟨_, _, _, rfl, by decide, mm_in (mm_r3 _ (List.mem_of_getElem? (i := 216) rfl)) rfl⟩, List.forall_mem_cons.mpr ⟨⟨_, _, _, rfl, by decide, mm_in (mm_r3 _ (List.mem_of_getElem? (i := 204) rfl)) rfl⟩, fun _ h => absurd h List.not_mem_nil⟩⟩⟩⟩⟩⟩⟩⟩⟩⟩⟩⟩⟩⟩⟩⟩⟩⟩⟩⟩⟩⟩⟩⟩⟩
def mm_fu_2 : List (Nat × Nat × Nat × Nat) := [(8, 61, 8, 8), (8, 92, 8, 17), (8, 95, 8, 19), (8, 111, 8, 20), (8, 86, 8, 21), (8, 68, 8, 10), (8, 170, 8, 4)]
theorem mm_fu_p2 : ∀ q ∈ mm_fu_2, mm_fuP q := List.forall_mem_cons.mpr ⟨⟨_, _, _, rfl, by decide, mm_in (mm_r3 _ (List.mem_of_getElem? (i := 201) rfl)) rfl⟩, List.forall_mem_cons.mpr ⟨⟨_, _, _, rfl, by decide, mm_in (mm_r3 _ (List.mem_of_getElem? (i := 210) rfl)) rfl⟩, List.forall_mem_cons.mpr ⟨⟨_, _, _, rfl, by decide, mm_in (mm_r3 _ (List.mem_of_getElem? (i := 212) rfl)) rfl⟩, List.forall_mem_cons.mpr ⟨⟨_, _, _, rfl, by decide, mm_in (mm_r3 _ (List.mem_of_getElem? (i := 213) rfl)) rfl⟩, List.forall_mem_cons.mpr ⟨⟨_, _, _, rfl, by decide, mm_in (mm_r3 _ (List.mem_of_getElem? (i := 214) rfl)) rfl⟩, List.forall_mem_cons.mpr ⟨⟨_, _, _, rfl, by decide, mm_in (mm_r3 _ (List.mem_of_getElem? (i := 203) rfl)) rfl⟩, List.forall_mem_cons.mpr ⟨⟨_, _, _, rfl, by decide, mm_in (mm_r3 _ (List.mem_of_getElem? (i := 197) rfl)) rfl⟩, fun _ h => absurd h List.not_mem_nil⟩⟩⟩⟩⟩⟩⟩
def mm_fu : List (Nat × Nat × Nat × Nat) := mm_fu_0 ++ (mm_fu_1 ++ (mm_fu_2))
theorem mm_fu_all : ∀ q ∈ mm_fu, mm_fuP q := by
  show ∀ q ∈ mm_fu_0 ++ (mm_fu_1 ++ (mm_fu_2)), mm_fuP q
  exact List.forall_mem_append.mpr ⟨mm_fu_p0, List.forall_mem_append.mpr ⟨mm_fu_p1, mm_fu_p2⟩⟩
theorem mm_fu_ok (j cn ix ci k : Nat) (h : mm_fu[j]? = some (cn, ix, ci, k)) : ∃ (C : String) (T : u_T) (N : Nat), mm_cl[ci]? = some (C, T, N) ∧ k < N ∧ Cond.fieldLink (mm_nm cn) ix C (T k).2.1 (T k).2.2.1 ∈ mm_tbl := mm_fu_all _ (List.mem_of_getElem? h)
def mm_nw : List (String × Nat × MethodName × String) := [("LambdaBench$Grammar", 50, ⟨"LambdaBench", "isDigit", "(I)Z"⟩, "LambdaBench"), ("LambdaBench$Grammar", 60, ⟨"LambdaBench", "isLetter", "(I)Z"⟩, "LambdaBench"), ("LambdaBench$Grammar", 69, ⟨"LambdaBench", "isCombinator", "(I)Z"⟩, "LambdaBench"), ("LambdaBench$Tape", 23, ⟨"LambdaBench", "isDigit", "(I)Z"⟩, "LambdaBench"), ("LambdaBench$Builder", 61, ⟨"LambdaBench", "isLetter", "(I)Z"⟩, "LambdaBench"), ("LambdaBench$Builder", 75, ⟨"LambdaBench", "isCombinator", "(I)Z"⟩, "LambdaBench")]
def mm_ca : List (String × String) := [("java/lang/IllegalArgumentException", "java/lang/IllegalArgumentException"), ("java/lang/IllegalStateException", "java/lang/IllegalStateException"), ("java/lang/IndexOutOfBoundsException", "java/lang/IndexOutOfBoundsException")]
def mm_st : List (String × Nat × String) := [("LambdaBench", 68, "1 to 8 bytes"), ("LambdaBench", 79, "the tape is full"), ("LambdaBench", 183, "no such slot"), ("LambdaBench", 100, "the text is wrong"), ("LambdaBench", 106, "the text's term is too great"), ("LambdaBench", 115, "outside the printing"), ("LambdaBench", 192, "the slot has no term"), ("LambdaBench", 136, "the application is too great"), ("LambdaBench", 188, "no such letter"), ("LambdaBench", 146, "the abstraction is too great"), ("LambdaBench", 190, "1 to 400 steps"), ("LambdaBench", 167, "the abstracted term is too great"), ("LambdaBench", 170, "the term is too great with two letters")]
def mm_nc : List (String × String) := [(mm_xn 1, mm_xn 0), (mm_xn 2, mm_xn 0)]
def mm_de : List MethodName := [⟨"java/lang/RuntimeException", "<init>", "()V"⟩, ⟨"java/lang/RuntimeException", "<init>", "(Ljava/lang/String;)V"⟩, ⟨"java/lang/Exception", "<init>", "()V"⟩, ⟨"java/lang/Exception", "<init>", "(Ljava/lang/String;)V"⟩, ⟨"java/lang/Throwable", "<init>", "()V"⟩, ⟨"java/lang/Throwable", "<init>", "(Ljava/lang/String;)V"⟩]
def mm_muP (q : Nat × Nat × Nat × MethodName × Nat) : Prop := match q.2.2.1 with
  | 0 => (q.2.2.2.1.cls ≠ "java/lang/invoke/MethodHandle") ∧ (q.2.2.2.1.cls ≠ "java/lang/invoke/VarHandle") ∧ (parseMethodDescriptor q.2.2.2.1.desc).map (fun d => d.parameters.length) = some q.2.2.2.2 ∧ Cond.initialized q.2.2.2.1.cls ∈ mm_tbl ∧ Cond.methodLink (mm_nm q.1) q.2.1 q.2.2.2.1 ∈ mm_tbl ∧ Cond.instanceMethod q.2.2.2.1 ∈ mm_tbl ∧ Cond.selects q.2.2.2.1.cls q.2.2.2.1 q.2.2.2.1 ∈ mm_tbl
  | 1 => (q.2.2.2.1.cls ≠ "java/lang/invoke/MethodHandle") ∧ (q.2.2.2.1.cls ≠ "java/lang/invoke/VarHandle") ∧ (parseMethodDescriptor q.2.2.2.1.desc).map (fun d => d.parameters.length) = some q.2.2.2.2 ∧ Cond.initialized q.2.2.2.1.cls ∈ mm_tbl ∧ q.2.2.2.1.cls = mm_nm q.1 ∧ Cond.methodLink (mm_nm q.1) q.2.1 q.2.2.2.1 ∈ mm_tbl ∧ Cond.static q.2.2.2.1 ∈ mm_tbl
  | 2 => (q.2.2.2.1.cls ≠ "java/lang/invoke/MethodHandle") ∧ (q.2.2.2.1.cls ≠ "java/lang/invoke/VarHandle") ∧ (parseMethodDescriptor q.2.2.2.1.desc).map (fun d => d.parameters.length) = some q.2.2.2.2 ∧ Cond.initialized q.2.2.2.1.cls ∈ mm_tbl ∧ Cond.methodLink (mm_nm q.1) q.2.1 q.2.2.2.1 ∈ mm_tbl ∧ Cond.instanceMethod q.2.2.2.1 ∈ mm_tbl ∧ q.2.2.2.1.name = "<init>"
  | 3 => (q.2.2.2.1.cls ≠ "java/lang/invoke/MethodHandle") ∧ (q.2.2.2.1.cls ≠ "java/lang/invoke/VarHandle") ∧ (parseMethodDescriptor q.2.2.2.1.desc).map (fun d => d.parameters.length) = some q.2.2.2.2 ∧ Cond.initialized q.2.2.2.1.cls ∈ mm_tbl ∧ (mm_nm q.1, q.2.1, q.2.2.2.1, "LambdaBench") ∈ mm_nw ∧ Cond.static q.2.2.2.1 ∈ mm_tbl
  | 5 => Cond.methodLink (mm_nm q.1) q.2.1 q.2.2.2.1 ∈ mm_tbl ∧ q.2.2.2.1 = Lib.objectInit
  | 6 => Cond.methodLink (mm_nm q.1) q.2.1 q.2.2.2.1 ∈ mm_tbl ∧ q.2.2.2.1 = Lib.Math.min.name
  | _ => Cond.methodLink (mm_nm q.1) q.2.1 q.2.2.2.1 ∈ mm_tbl ∧ q.2.2.2.1 = arraycopyName
def mm_mu_0 : List (Nat × Nat × Nat × MethodName × Nat) := [(7, 1, 5, Lib.objectInit, 0), (7, 15, 2, (⟨"LambdaBench$Term", "<init>", "()V"⟩ : MethodName), 0), (7, 22, 2, (⟨"LambdaBench$Tape", "<init>", "()V"⟩ : MethodName), 0), (7, 29, 2, (⟨"LambdaBench$Grammar", "<init>", "()V"⟩ : MethodName), 0), (7, 36, 2, (⟨"LambdaBench$Builder", "<init>", "()V"⟩ : MethodName), 0), (7, 43, 2, (⟨"LambdaBench$Depths", "<init>", "()V"⟩ : MethodName), 0), (7, 50, 2, (⟨"LambdaBench$Reducer", "<init>", "()V"⟩ : MethodName), 0), (7, 57, 2, (⟨"LambdaBench$Abstractor", "<init>", "()V"⟩ : MethodName), 0), (6, 3, 5, Lib.objectInit, 0), (5, 3, 5, Lib.objectInit, 0), (3, 3, 5, Lib.objectInit, 0), (1, 3, 5, Lib.objectInit, 0), (2, 3, 5, Lib.objectInit, 0), (4, 3, 5, Lib.objectInit, 0), (4, 11, 2, (⟨"LambdaBench$Depths", "<init>", "()V"⟩ : MethodName), 0), (4, 20, 2, (⟨"LambdaBench$Term", "<init>", "()V"⟩ : MethodName), 0), (0, 3, 5, Lib.objectInit, 0), (0, 20, 2, (⟨"LambdaBench$Term", "<init>", "()V"⟩ : MethodName), 0), (7, 161, 0, (⟨"LambdaBench$Reducer", "outcome", "()I"⟩ : MethodName), 0), (9, 7, 0, (⟨"LambdaBench", "feed", "(JI)I"⟩ : MethodName), 2), (7, 73, 0, (⟨"LambdaBench$Tape", "length", "()I"⟩ : MethodName), 0), (7, 82, 0, (⟨"LambdaBench$Tape", "add", "(I)V"⟩ : MethodName), 1), (9, 17, 0, (⟨"LambdaBench", "read", "(I)I"⟩ : MethodName), 1), (7, 86, 0, (⟨"LambdaBench", "requireSlot", "(I)V"⟩ : MethodName), 1), (7, 89, 0, (⟨"LambdaBench$Grammar", "firstWrong", "(LLambdaBench$Tape;)I"⟩ : MethodName), 1)]
theorem mm_mu_p0 : ∀ q ∈ mm_mu_0, mm_muP q := List.forall_mem_cons.mpr ⟨⟨mm_in (mm_r1 _ (List.mem_of_getElem? (i := 23) rfl)) rfl, rfl⟩, List.forall_mem_cons.mpr ⟨⟨by decide +kernel, by decide +kernel, by decide +kernel, mm_in (mm_r1 _ (List.mem_of_getElem? (i := 2) rfl)) rfl, mm_in (mm_r1 _ (List.mem_of_getElem? (i := 29) rfl)) rfl, mm_in (mm_r1 _ (List.mem_of_getElem? (i := 30) rfl)) rfl, rfl⟩, List.forall_mem_cons.mpr ⟨⟨by decide +kernel, by decide +kernel, by decide +kernel, mm_in (mm_r1 _ (List.mem_of_getElem? (i := 3) rfl)) rfl, mm_in (mm_r1 _ (List.mem_of_getElem? (i := 46) rfl)) rfl, mm_in (mm_r1 _ (List.mem_of_getElem? (i := 47) rfl)) rfl, rfl⟩, List.forall_mem_cons.mpr ⟨⟨by decide +kernel, by decide +kernel, by decide +kernel, mm_in (mm_r1 _ (List.mem_of_getElem? (i := 4) rfl)) rfl, mm_in (mm_r1 _ (List.mem_of_getElem? (i := 59) rfl)) rfl, mm_in (mm_r1 _ (List.mem_of_getElem? (i := 60) rfl)) rfl, rfl⟩, List.forall_mem_cons.mpr ⟨⟨by decide +kernel, by decide +kernel, by decide +kernel, mm_in (mm_r1 _ (List.mem_of_getElem? (i := 5) rfl)) rfl, mm_in (mm_r1 _ (List.mem_of_getElem? (i := 81) rfl)) rfl, mm_in (mm_r1 _ (List.mem_of_getElem? (i := 82) rfl)) rfl, rfl⟩, List.forall_mem_cons.mpr ⟨⟨by decide +kernel, by decide +kernel, by decide +kernel, mm_in (mm_r1 _ (List.mem_of_getElem? (i := 6) rfl)) rfl, mm_in (mm_r1 _ (List.mem_of_getElem? (i := 100) rfl)) rfl, mm_in (mm_r1 _ (List.mem_of_getElem? (i := 101) rfl)) rfl, rfl⟩, List.forall_mem_cons.mpr ⟨⟨by decide +kernel, by decide +kernel, by decide +kernel, mm_in (mm_r1 _ (List.mem_of_getElem? (i := 7) rfl)) rfl, mm_in (mm_r1 _ (List.mem_of_getElem? (i := 113) rfl)) rfl, mm_in (mm_r1 _ (List.mem_of_getElem? (i := 114) rfl)) rfl, rfl⟩, List.forall_mem_cons.mpr ⟨⟨by decide +kernel, by decide +kernel, by decide +kernel, mm_in (mm_r1 _ (List.mem_of_getElem? (i := 8) rfl)) rfl, mm_in (mm_r1 _ (List.mem_of_getElem? (i := 136) rfl)) rfl, mm_in (mm_r1 _ (List.mem_of_getElem? (i := 137) rfl)) rfl, rfl⟩, List.forall_mem_cons.mpr ⟨⟨mm_in (mm_r1 _ (List.mem_of_getElem? (i := 32) rfl)) rfl, rfl⟩, List.forall_mem_cons.mpr ⟨⟨mm_in (mm_r1 _ (List.mem_of_getElem? (i := 49) rfl)) rfl, rfl⟩, List.forall_mem_cons.mpr ⟨⟨mm_in (mm_r1 _ (List.mem_of_getElem? (i := 62) rfl)) rfl, rfl⟩, List.forall_mem_cons.mpr ⟨⟨mm_in (mm_r1 _ (List.mem_of_getElem? (i := 84) rfl)) rfl, rfl⟩, List.forall_mem_cons.mpr ⟨⟨mm_in (mm_r1 _ (List.mem_of_getElem? (i := 103) rfl)) rfl, rfl⟩, List.forall_mem_cons.mpr ⟨⟨mm_in (mm_r1 _ (List.mem_of_getElem? (i := 116) rfl)) rfl, rfl⟩, List.forall_mem_cons.mpr ⟨⟨by decide +kernel, by decide +kernel, by decide +kernel, mm_in (mm_r1 _ (List.mem_of_getElem? (i := 6) rfl)) rfl, mm_in (mm_r1 _ (List.mem_of_getElem? (i := 118) rfl)) rfl, mm_in (mm_r1 _ (List.mem_of_getElem? (i := 101) rfl)) rfl, rfl⟩, List.forall_mem_cons.mpr ⟨⟨by decide +kernel, by decide +kernel, by decide +kernel, mm_in (mm_r1 _ (List.mem_of_getElem? (i := 2) rfl)) rfl, mm_in (mm_r1 _ (List.mem_of_getElem? (i := 120) rfl)) rfl, mm_in (mm_r1 _ (List.mem_of_getElem? (i := 30) rfl)) rfl, rfl⟩, List.forall_mem_cons.mpr ⟨⟨mm_in (mm_r1 _ (List.mem_of_getElem? (i := 139) rfl)) rfl, rfl⟩, List.forall_mem_cons.mpr ⟨⟨by decide +kernel, by decide +kernel, by decide +kernel, mm_in (mm_r1 _ (List.mem_of_getElem? (i := 2) rfl)) rfl, mm_in (mm_r1 _ (List.mem_of_getElem? (i := 141) rfl)) rfl, mm_in (mm_r1 _ (List.mem_of_getElem? (i := 30) rfl)) rfl, rfl⟩, List.forall_mem_cons.mpr ⟨⟨by decide +kernel, by decide +kernel, by decide +kernel, mm_in (mm_r1 _ (List.mem_of_getElem? (i := 7) rfl)) rfl, mm_in (mm_r1 _ (List.mem_of_getElem? (i := 191) rfl)) rfl, mm_in (mm_r1 _ (List.mem_of_getElem? (i := 192) rfl)) rfl, mm_in (mm_r1 _ (List.mem_of_getElem? (i := 193) rfl)) rfl⟩, List.forall_mem_cons.mpr ⟨⟨by decide +kernel, by decide +kernel, by decide +kernel, mm_in (mm_r1 _ (List.mem_of_getElem? (i := 1) rfl)) rfl, mm_in (mm_r1 _ (List.mem_of_getElem? (i := 200) rfl)) rfl, mm_in (mm_r1 _ (List.mem_of_getElem? (i := 201) rfl)) rfl, mm_in (mm_r1 _ (List.mem_of_getElem? (i := 202) rfl)) rfl⟩, List.forall_mem_cons.mpr ⟨⟨by decide +kernel, by decide +kernel, by decide +kernel, mm_in (mm_r1 _ (List.mem_of_getElem? (i := 3) rfl)) rfl, mm_in (mm_r2 _ (List.mem_of_getElem? (i := 32) rfl)) rfl, mm_in (mm_r2 _ (List.mem_of_getElem? (i := 33) rfl)) rfl, mm_in (mm_r2 _ (List.mem_of_getElem? (i := 34) rfl)) rfl⟩, List.forall_mem_cons.mpr ⟨⟨by decide +kernel, by decide +kernel, by decide +kernel, mm_in (mm_r1 _ (List.mem_of_getElem? (i := 3) rfl)) rfl, mm_in (mm_r2 _ (List.mem_of_getElem? (i := 52) rfl)) rfl, mm_in (mm_r2 _ (List.mem_of_getElem? (i := 53) rfl)) rfl, mm_in (mm_r2 _ (List.mem_of_getElem? (i := 54) rfl)) rfl⟩, List.forall_mem_cons.mpr ⟨⟨by decide +kernel, by decide +kernel, by decide +kernel, mm_in (mm_r1 _ (List.mem_of_getElem? (i := 1) rfl)) rfl, mm_in (mm_r2 _ (List.mem_of_getElem? (i := 59) rfl)) rfl, mm_in (mm_r2 _ (List.mem_of_getElem? (i := 60) rfl)) rfl, mm_in (mm_r2 _ (List.mem_of_getElem? (i := 61) rfl)) rfl⟩, List.forall_mem_cons.mpr ⟨⟨by decide +kernel, by decide +kernel, by decide +kernel, mm_in (mm_r1 _ (List.mem_of_getElem? (i := 1) rfl)) rfl, mm_in (mm_r2 _ (List.mem_of_getElem? (i := 63) rfl)) rfl, mm_in (mm_r2 _ (List.mem_of_getElem? (i := 65) rfl)) rfl, mm_in (List.mem_append_left _ (List.mem_of_getElem? (i := 1) rfl)) rfl⟩, List.forall_mem_cons.mpr ⟨⟨by decide +kernel, by decide +kernel, by decide +kernel, mm_in (mm_r1 _ (List.mem_of_getElem? (i := 4) rfl)) rfl, mm_in (mm_r2 _ (List.mem_of_getElem? (i := 68) rfl)) rfl, mm_in (mm_r2 _ (List.mem_of_getElem? (i := 69) rfl)) rfl, mm_in (mm_r2 _ (List.mem_of_getElem? (i := 70) rfl)) rfl⟩, fun _ h => absurd h List.not_mem_nil⟩⟩⟩⟩⟩⟩⟩⟩⟩⟩⟩⟩⟩⟩⟩⟩⟩⟩⟩⟩⟩⟩⟩⟩⟩
def mm_mu_1 : List (Nat × Nat × Nat × MethodName × Nat) := [(7, 93, 0, (⟨"LambdaBench$Builder", "build", "(LLambdaBench$Tape;LLambdaBench$Grammar;LLambdaBench$Term;)V"⟩ : MethodName), 3), (7, 97, 0, (⟨"LambdaBench$Tape", "clear", "()V"⟩ : MethodName), 0), (7, 102, 0, (⟨"LambdaBench$Term", "isTooGreat", "()Z"⟩ : MethodName), 0), (7, 108, 0, (⟨"LambdaBench$Term", "become", "(LLambdaBench$Term;)V"⟩ : MethodName), 1), (7, 112, 0, (⟨"LambdaBench$Term", "length", "()I"⟩ : MethodName), 0), (3, 22, 0, (⟨"LambdaBench$Grammar", "beginTerm", "(I)V"⟩ : MethodName), 1), (3, 26, 0, (⟨"LambdaBench$Tape", "length", "()I"⟩ : MethodName), 0), (3, 32, 0, (⟨"LambdaBench$Tape", "at", "(I)I"⟩ : MethodName), 1), (3, 36, 0, (⟨"LambdaBench$Grammar", "accepts", "(II)Z"⟩ : MethodName), 2), (3, 40, 0, (⟨"LambdaBench$Grammar", "mayEnd", "()Z"⟩ : MethodName), 0), (3, 50, 3, (⟨"LambdaBench", "isDigit", "(I)Z"⟩ : MethodName), 1), (3, 54, 0, (⟨"LambdaBench$Grammar", "acceptsInTerm", "(II)Z"⟩ : MethodName), 2), (3, 57, 0, (⟨"LambdaBench$Grammar", "acceptsInNames", "(II)Z"⟩ : MethodName), 2), (3, 63, 0, (⟨"LambdaBench$Grammar", "closes", "()Z"⟩ : MethodName), 0), (3, 66, 0, (⟨"LambdaBench$Grammar", "opens", "(I)Z"⟩ : MethodName), 1), (3, 60, 3, (⟨"LambdaBench", "isLetter", "(I)Z"⟩ : MethodName), 1), (3, 69, 3, (⟨"LambdaBench", "isCombinator", "(I)Z"⟩ : MethodName), 1), (1, 25, 0, (⟨"LambdaBench$Term", "clear", "()V"⟩ : MethodName), 0), (1, 30, 0, (⟨"LambdaBench$Grammar", "atomsFrom", "(I)I"⟩ : MethodName), 1), (1, 36, 0, (⟨"LambdaBench$Builder", "addApplications", "(ILLambdaBench$Term;)V"⟩ : MethodName), 2), (1, 40, 0, (⟨"LambdaBench$Tape", "length", "()I"⟩ : MethodName), 0), (1, 46, 0, (⟨"LambdaBench$Tape", "at", "(I)I"⟩ : MethodName), 1), (1, 49, 0, (⟨"LambdaBench$Builder", "opens", "()V"⟩ : MethodName), 0), (1, 52, 0, (⟨"LambdaBench$Builder", "closes", "()V"⟩ : MethodName), 0), (1, 55, 0, (⟨"LambdaBench$Tape", "numberBehind", "(I)I"⟩ : MethodName), 1)]
theorem mm_mu_p1 : ∀ q ∈ mm_mu_1, mm_muP q := List.forall_mem_cons.mpr ⟨⟨by decide +kernel, by decide +kernel, by decide +kernel, mm_in (mm_r1 _ (List.mem_of_getElem? (i := 5) rfl)) rfl, mm_in (mm_r2 _ (List.mem_of_getElem? (i := 114) rfl)) rfl, mm_in (mm_r2 _ (List.mem_of_getElem? (i := 115) rfl)) rfl, mm_in (mm_r2 _ (List.mem_of_getElem? (i := 116) rfl)) rfl⟩, List.forall_mem_cons.mpr ⟨⟨by decide +kernel, by decide +kernel, by decide +kernel, mm_in (mm_r1 _ (List.mem_of_getElem? (i := 3) rfl)) rfl, mm_in (mm_r2 _ (List.mem_of_getElem? (i := 164) rfl)) rfl, mm_in (mm_r2 _ (List.mem_of_getElem? (i := 165) rfl)) rfl, mm_in (mm_r2 _ (List.mem_of_getElem? (i := 166) rfl)) rfl⟩, List.forall_mem_cons.mpr ⟨⟨by decide +kernel, by decide +kernel, by decide +kernel, mm_in (mm_r1 _ (List.mem_of_getElem? (i := 2) rfl)) rfl, mm_in (mm_r2 _ (List.mem_of_getElem? (i := 169) rfl)) rfl, mm_in (mm_r2 _ (List.mem_of_getElem? (i := 170) rfl)) rfl, mm_in (mm_r2 _ (List.mem_of_getElem? (i := 171) rfl)) rfl⟩, List.forall_mem_cons.mpr ⟨⟨by decide +kernel, by decide +kernel, by decide +kernel, mm_in (mm_r1 _ (List.mem_of_getElem? (i := 2) rfl)) rfl, mm_in (mm_r2 _ (List.mem_of_getElem? (i := 174) rfl)) rfl, mm_in (mm_r2 _ (List.mem_of_getElem? (i := 175) rfl)) rfl, mm_in (mm_r2 _ (List.mem_of_getElem? (i := 176) rfl)) rfl⟩, List.forall_mem_cons.mpr ⟨⟨by decide +kernel, by decide +kernel, by decide +kernel, mm_in (mm_r1 _ (List.mem_of_getElem? (i := 2) rfl)) rfl, mm_in (mm_r2 _ (List.mem_of_getElem? (i := 190) rfl)) rfl, mm_in (mm_r2 _ (List.mem_of_getElem? (i := 191) rfl)) rfl, mm_in (mm_r2 _ (List.mem_of_getElem? (i := 192) rfl)) rfl⟩, List.forall_mem_cons.mpr ⟨⟨by decide +kernel, by decide +kernel, by decide +kernel, mm_in (mm_r1 _ (List.mem_of_getElem? (i := 4) rfl)) rfl, mm_in (mm_r2 _ (List.mem_of_getElem? (i := 72) rfl)) rfl, mm_in (mm_r2 _ (List.mem_of_getElem? (i := 74) rfl)) rfl, mm_in (List.mem_append_left _ (List.mem_of_getElem? (i := 2) rfl)) rfl⟩, List.forall_mem_cons.mpr ⟨⟨by decide +kernel, by decide +kernel, by decide +kernel, mm_in (mm_r1 _ (List.mem_of_getElem? (i := 3) rfl)) rfl, mm_in (mm_r2 _ (List.mem_of_getElem? (i := 76) rfl)) rfl, mm_in (mm_r2 _ (List.mem_of_getElem? (i := 33) rfl)) rfl, mm_in (mm_r2 _ (List.mem_of_getElem? (i := 34) rfl)) rfl⟩, List.forall_mem_cons.mpr ⟨⟨by decide +kernel, by decide +kernel, by decide +kernel, mm_in (mm_r1 _ (List.mem_of_getElem? (i := 3) rfl)) rfl, mm_in (mm_r2 _ (List.mem_of_getElem? (i := 77) rfl)) rfl, mm_in (mm_r2 _ (List.mem_of_getElem? (i := 78) rfl)) rfl, mm_in (mm_r2 _ (List.mem_of_getElem? (i := 79) rfl)) rfl⟩, List.forall_mem_cons.mpr ⟨⟨by decide +kernel, by decide +kernel, by decide +kernel, mm_in (mm_r1 _ (List.mem_of_getElem? (i := 4) rfl)) rfl, mm_in (mm_r2 _ (List.mem_of_getElem? (i := 81) rfl)) rfl, mm_in (mm_r2 _ (List.mem_of_getElem? (i := 83) rfl)) rfl, mm_in (List.mem_append_left _ (List.mem_of_getElem? (i := 3) rfl)) rfl⟩, List.forall_mem_cons.mpr ⟨⟨by decide +kernel, by decide +kernel, by decide +kernel, mm_in (mm_r1 _ (List.mem_of_getElem? (i := 4) rfl)) rfl, mm_in (mm_r2 _ (List.mem_of_getElem? (i := 110) rfl)) rfl, mm_in (mm_r2 _ (List.mem_of_getElem? (i := 112) rfl)) rfl, mm_in (List.mem_append_left _ (List.mem_of_getElem? (i := 8) rfl)) rfl⟩, List.forall_mem_cons.mpr ⟨⟨by decide +kernel, by decide +kernel, by decide +kernel, mm_in (mm_r1 _ (List.mem_of_getElem? (i := 1) rfl)) rfl, List.mem_of_getElem? (i := 0) rfl, mm_in (mm_r2 _ (List.mem_of_getElem? (i := 86) rfl)) rfl⟩, List.forall_mem_cons.mpr ⟨⟨by decide +kernel, by decide +kernel, by decide +kernel, mm_in (mm_r1 _ (List.mem_of_getElem? (i := 4) rfl)) rfl, mm_in (mm_r2 _ (List.mem_of_getElem? (i := 88) rfl)) rfl, mm_in (mm_r2 _ (List.mem_of_getElem? (i := 90) rfl)) rfl, mm_in (List.mem_append_left _ (List.mem_of_getElem? (i := 4) rfl)) rfl⟩, List.forall_mem_cons.mpr ⟨⟨by decide +kernel, by decide +kernel, by decide +kernel, mm_in (mm_r1 _ (List.mem_of_getElem? (i := 4) rfl)) rfl, mm_in (mm_r2 _ (List.mem_of_getElem? (i := 106) rfl)) rfl, mm_in (mm_r2 _ (List.mem_of_getElem? (i := 108) rfl)) rfl, mm_in (List.mem_append_left _ (List.mem_of_getElem? (i := 7) rfl)) rfl⟩, List.forall_mem_cons.mpr ⟨⟨by decide +kernel, by decide +kernel, by decide +kernel, mm_in (mm_r1 _ (List.mem_of_getElem? (i := 4) rfl)) rfl, mm_in (mm_r2 _ (List.mem_of_getElem? (i := 92) rfl)) rfl, mm_in (mm_r2 _ (List.mem_of_getElem? (i := 94) rfl)) rfl, mm_in (List.mem_append_left _ (List.mem_of_getElem? (i := 5) rfl)) rfl⟩, List.forall_mem_cons.mpr ⟨⟨by decide +kernel, by decide +kernel, by decide +kernel, mm_in (mm_r1 _ (List.mem_of_getElem? (i := 4) rfl)) rfl, mm_in (mm_r2 _ (List.mem_of_getElem? (i := 96) rfl)) rfl, mm_in (mm_r2 _ (List.mem_of_getElem? (i := 98) rfl)) rfl, mm_in (List.mem_append_left _ (List.mem_of_getElem? (i := 6) rfl)) rfl⟩, List.forall_mem_cons.mpr ⟨⟨by decide +kernel, by decide +kernel, by decide +kernel, mm_in (mm_r1 _ (List.mem_of_getElem? (i := 1) rfl)) rfl, List.mem_of_getElem? (i := 1) rfl, mm_in (mm_r2 _ (List.mem_of_getElem? (i := 101) rfl)) rfl⟩, List.forall_mem_cons.mpr ⟨⟨by decide +kernel, by decide +kernel, by decide +kernel, mm_in (mm_r1 _ (List.mem_of_getElem? (i := 1) rfl)) rfl, List.mem_of_getElem? (i := 2) rfl, mm_in (mm_r2 _ (List.mem_of_getElem? (i := 104) rfl)) rfl⟩, List.forall_mem_cons.mpr ⟨⟨by decide +kernel, by decide +kernel, by decide +kernel, mm_in (mm_r1 _ (List.mem_of_getElem? (i := 2) rfl)) rfl, mm_in (mm_r2 _ (List.mem_of_getElem? (i := 118) rfl)) rfl, mm_in (mm_r2 _ (List.mem_of_getElem? (i := 119) rfl)) rfl, mm_in (mm_r2 _ (List.mem_of_getElem? (i := 120) rfl)) rfl⟩, List.forall_mem_cons.mpr ⟨⟨by decide +kernel, by decide +kernel, by decide +kernel, mm_in (mm_r1 _ (List.mem_of_getElem? (i := 4) rfl)) rfl, mm_in (mm_r2 _ (List.mem_of_getElem? (i := 122) rfl)) rfl, mm_in (mm_r2 _ (List.mem_of_getElem? (i := 123) rfl)) rfl, mm_in (mm_r2 _ (List.mem_of_getElem? (i := 124) rfl)) rfl⟩, List.forall_mem_cons.mpr ⟨⟨by decide +kernel, by decide +kernel, by decide +kernel, mm_in (mm_r1 _ (List.mem_of_getElem? (i := 5) rfl)) rfl, mm_in (mm_r2 _ (List.mem_of_getElem? (i := 126) rfl)) rfl, mm_in (mm_r2 _ (List.mem_of_getElem? (i := 128) rfl)) rfl, mm_in (List.mem_append_left _ (List.mem_of_getElem? (i := 9) rfl)) rfl⟩, List.forall_mem_cons.mpr ⟨⟨by decide +kernel, by decide +kernel, by decide +kernel, mm_in (mm_r1 _ (List.mem_of_getElem? (i := 3) rfl)) rfl, mm_in (mm_r2 _ (List.mem_of_getElem? (i := 134) rfl)) rfl, mm_in (mm_r2 _ (List.mem_of_getElem? (i := 33) rfl)) rfl, mm_in (mm_r2 _ (List.mem_of_getElem? (i := 34) rfl)) rfl⟩, List.forall_mem_cons.mpr ⟨⟨by decide +kernel, by decide +kernel, by decide +kernel, mm_in (mm_r1 _ (List.mem_of_getElem? (i := 3) rfl)) rfl, mm_in (mm_r2 _ (List.mem_of_getElem? (i := 135) rfl)) rfl, mm_in (mm_r2 _ (List.mem_of_getElem? (i := 78) rfl)) rfl, mm_in (mm_r2 _ (List.mem_of_getElem? (i := 79) rfl)) rfl⟩, List.forall_mem_cons.mpr ⟨⟨by decide +kernel, by decide +kernel, by decide +kernel, mm_in (mm_r1 _ (List.mem_of_getElem? (i := 5) rfl)) rfl, mm_in (mm_r2 _ (List.mem_of_getElem? (i := 136) rfl)) rfl, mm_in (mm_r2 _ (List.mem_of_getElem? (i := 138) rfl)) rfl, mm_in (List.mem_append_left _ (List.mem_of_getElem? (i := 10) rfl)) rfl⟩, List.forall_mem_cons.mpr ⟨⟨by decide +kernel, by decide +kernel, by decide +kernel, mm_in (mm_r1 _ (List.mem_of_getElem? (i := 5) rfl)) rfl, mm_in (mm_r2 _ (List.mem_of_getElem? (i := 140) rfl)) rfl, mm_in (mm_r2 _ (List.mem_of_getElem? (i := 142) rfl)) rfl, mm_in (List.mem_append_left _ (List.mem_of_getElem? (i := 11) rfl)) rfl⟩, List.forall_mem_cons.mpr ⟨⟨by decide +kernel, by decide +kernel, by decide +kernel, mm_in (mm_r1 _ (List.mem_of_getElem? (i := 3) rfl)) rfl, mm_in (mm_r2 _ (List.mem_of_getElem? (i := 144) rfl)) rfl, mm_in (mm_r2 _ (List.mem_of_getElem? (i := 145) rfl)) rfl, mm_in (mm_r2 _ (List.mem_of_getElem? (i := 146) rfl)) rfl⟩, fun _ h => absurd h List.not_mem_nil⟩⟩⟩⟩⟩⟩⟩⟩⟩⟩⟩⟩⟩⟩⟩⟩⟩⟩⟩⟩⟩⟩⟩⟩⟩
def mm_mu_2 : List (Nat × Nat × Nat × MethodName × Nat) := [(1, 58, 0, (⟨"LambdaBench$Builder", "addNumeral", "(ILLambdaBench$Term;)V"⟩ : MethodName), 2), (1, 61, 3, (⟨"LambdaBench", "isLetter", "(I)Z"⟩ : MethodName), 1), (1, 65, 0, (⟨"LambdaBench$Builder", "addAbstraction", "(ILLambdaBench$Term;)V"⟩ : MethodName), 2), (1, 68, 0, (⟨"LambdaBench$Builder", "meaningOf", "(I)I"⟩ : MethodName), 1), (1, 71, 0, (⟨"LambdaBench$Term", "add", "(I)V"⟩ : MethodName), 1), (1, 75, 3, (⟨"LambdaBench", "isCombinator", "(I)Z"⟩ : MethodName), 1), (5, 19, 0, (⟨"LambdaBench$Tape", "at", "(I)I"⟩ : MethodName), 1), (5, 23, 3, (⟨"LambdaBench", "isDigit", "(I)Z"⟩ : MethodName), 1), (6, 33, 0, (⟨"LambdaBench$Term", "clear", "()V"⟩ : MethodName), 0), (6, 36, 0, (⟨"LambdaBench$Term", "addAll", "(LLambdaBench$Term;)V"⟩ : MethodName), 1), (6, 23, 0, (⟨"LambdaBench$Term", "addPart", "(LLambdaBench$Term;II)V"⟩ : MethodName), 3), (6, 27, 7, arraycopyName, 5), (9, 21, 0, (⟨"LambdaBench", "size", "(I)I"⟩ : MethodName), 1), (9, 24, 0, (⟨"LambdaBench", "print", "(II)I"⟩ : MethodName), 2), (7, 118, 0, (⟨"LambdaBench$Term", "at", "(I)I"⟩ : MethodName), 1), (7, 122, 6, Lib.Math.min.name, 2), (9, 30, 0, (⟨"LambdaBench", "copy", "(II)V"⟩ : MethodName), 2), (9, 34, 0, (⟨"LambdaBench", "apply", "(III)I"⟩ : MethodName), 3), (7, 128, 0, (⟨"LambdaBench", "requireTerm", "(I)V"⟩ : MethodName), 1), (7, 131, 0, (⟨"LambdaBench$Term", "clear", "()V"⟩ : MethodName), 0), (7, 132, 0, (⟨"LambdaBench$Term", "add", "(I)V"⟩ : MethodName), 1), (7, 133, 0, (⟨"LambdaBench$Term", "addAll", "(LLambdaBench$Term;)V"⟩ : MethodName), 1), (9, 38, 0, (⟨"LambdaBench", "bind", "(II)I"⟩ : MethodName), 2), (7, 138, 0, (⟨"LambdaBench", "requireLetter", "(I)V"⟩ : MethodName), 1), (7, 141, 0, (⟨"LambdaBench$Depths", "measure", "(LLambdaBench$Term;I)I"⟩ : MethodName), 2)]
theorem mm_mu_p2 : ∀ q ∈ mm_mu_2, mm_muP q := List.forall_mem_cons.mpr ⟨⟨by decide +kernel, by decide +kernel, by decide +kernel, mm_in (mm_r1 _ (List.mem_of_getElem? (i := 5) rfl)) rfl, mm_in (mm_r2 _ (List.mem_of_getElem? (i := 150) rfl)) rfl, mm_in (mm_r2 _ (List.mem_of_getElem? (i := 152) rfl)) rfl, mm_in (List.mem_append_left _ (List.mem_of_getElem? (i := 12) rfl)) rfl⟩, List.forall_mem_cons.mpr ⟨⟨by decide +kernel, by decide +kernel, by decide +kernel, mm_in (mm_r1 _ (List.mem_of_getElem? (i := 1) rfl)) rfl, List.mem_of_getElem? (i := 4) rfl, mm_in (mm_r2 _ (List.mem_of_getElem? (i := 101) rfl)) rfl⟩, List.forall_mem_cons.mpr ⟨⟨by decide +kernel, by decide +kernel, by decide +kernel, mm_in (mm_r1 _ (List.mem_of_getElem? (i := 5) rfl)) rfl, mm_in (mm_r2 _ (List.mem_of_getElem? (i := 155) rfl)) rfl, mm_in (mm_r2 _ (List.mem_of_getElem? (i := 157) rfl)) rfl, mm_in (List.mem_append_left _ (List.mem_of_getElem? (i := 13) rfl)) rfl⟩, List.forall_mem_cons.mpr ⟨⟨by decide +kernel, by decide +kernel, by decide +kernel, mm_in (mm_r1 _ (List.mem_of_getElem? (i := 5) rfl)) rfl, mm_in (mm_r2 _ (List.mem_of_getElem? (i := 159) rfl)) rfl, mm_in (mm_r2 _ (List.mem_of_getElem? (i := 161) rfl)) rfl, mm_in (List.mem_append_left _ (List.mem_of_getElem? (i := 14) rfl)) rfl⟩, List.forall_mem_cons.mpr ⟨⟨by decide +kernel, by decide +kernel, by decide +kernel, mm_in (mm_r1 _ (List.mem_of_getElem? (i := 2) rfl)) rfl, mm_in (mm_r2 _ (List.mem_of_getElem? (i := 130) rfl)) rfl, mm_in (mm_r2 _ (List.mem_of_getElem? (i := 131) rfl)) rfl, mm_in (mm_r2 _ (List.mem_of_getElem? (i := 132) rfl)) rfl⟩, List.forall_mem_cons.mpr ⟨⟨by decide +kernel, by decide +kernel, by decide +kernel, mm_in (mm_r1 _ (List.mem_of_getElem? (i := 1) rfl)) rfl, List.mem_of_getElem? (i := 5) rfl, mm_in (mm_r2 _ (List.mem_of_getElem? (i := 104) rfl)) rfl⟩, List.forall_mem_cons.mpr ⟨⟨by decide +kernel, by decide +kernel, by decide +kernel, mm_in (mm_r1 _ (List.mem_of_getElem? (i := 3) rfl)) rfl, mm_in (mm_r2 _ (List.mem_of_getElem? (i := 148) rfl)) rfl, mm_in (mm_r2 _ (List.mem_of_getElem? (i := 78) rfl)) rfl, mm_in (mm_r2 _ (List.mem_of_getElem? (i := 79) rfl)) rfl⟩, List.forall_mem_cons.mpr ⟨⟨by decide +kernel, by decide +kernel, by decide +kernel, mm_in (mm_r1 _ (List.mem_of_getElem? (i := 1) rfl)) rfl, List.mem_of_getElem? (i := 3) rfl, mm_in (mm_r2 _ (List.mem_of_getElem? (i := 86) rfl)) rfl⟩, List.forall_mem_cons.mpr ⟨⟨by decide +kernel, by decide +kernel, by decide +kernel, mm_in (mm_r1 _ (List.mem_of_getElem? (i := 2) rfl)) rfl, mm_in (mm_r2 _ (List.mem_of_getElem? (i := 178) rfl)) rfl, mm_in (mm_r2 _ (List.mem_of_getElem? (i := 119) rfl)) rfl, mm_in (mm_r2 _ (List.mem_of_getElem? (i := 120) rfl)) rfl⟩, List.forall_mem_cons.mpr ⟨⟨by decide +kernel, by decide +kernel, by decide +kernel, mm_in (mm_r1 _ (List.mem_of_getElem? (i := 2) rfl)) rfl, mm_in (mm_r2 _ (List.mem_of_getElem? (i := 179) rfl)) rfl, mm_in (mm_r2 _ (List.mem_of_getElem? (i := 180) rfl)) rfl, mm_in (mm_r2 _ (List.mem_of_getElem? (i := 181) rfl)) rfl⟩, List.forall_mem_cons.mpr ⟨⟨by decide +kernel, by decide +kernel, by decide +kernel, mm_in (mm_r1 _ (List.mem_of_getElem? (i := 2) rfl)) rfl, mm_in (mm_r2 _ (List.mem_of_getElem? (i := 183) rfl)) rfl, mm_in (mm_r2 _ (List.mem_of_getElem? (i := 184) rfl)) rfl, mm_in (mm_r2 _ (List.mem_of_getElem? (i := 185) rfl)) rfl⟩, List.forall_mem_cons.mpr ⟨⟨mm_in (mm_r2 _ (List.mem_of_getElem? (i := 187) rfl)) rfl, rfl⟩, List.forall_mem_cons.mpr ⟨⟨by decide +kernel, by decide +kernel, by decide +kernel, mm_in (mm_r1 _ (List.mem_of_getElem? (i := 1) rfl)) rfl, mm_in (mm_r2 _ (List.mem_of_getElem? (i := 197) rfl)) rfl, mm_in (mm_r2 _ (List.mem_of_getElem? (i := 198) rfl)) rfl, mm_in (mm_r2 _ (List.mem_of_getElem? (i := 199) rfl)) rfl⟩, List.forall_mem_cons.mpr ⟨⟨by decide +kernel, by decide +kernel, by decide +kernel, mm_in (mm_r1 _ (List.mem_of_getElem? (i := 1) rfl)) rfl, mm_in (mm_r2 _ (List.mem_of_getElem? (i := 205) rfl)) rfl, mm_in (mm_r2 _ (List.mem_of_getElem? (i := 206) rfl)) rfl, mm_in (mm_r2 _ (List.mem_of_getElem? (i := 207) rfl)) rfl⟩, List.forall_mem_cons.mpr ⟨⟨by decide +kernel, by decide +kernel, by decide +kernel, mm_in (mm_r1 _ (List.mem_of_getElem? (i := 2) rfl)) rfl, mm_in (mm_r2 _ (List.mem_of_getElem? (i := 225) rfl)) rfl, mm_in (mm_r2 _ (List.mem_of_getElem? (i := 226) rfl)) rfl, mm_in (mm_r2 _ (List.mem_of_getElem? (i := 227) rfl)) rfl⟩, List.forall_mem_cons.mpr ⟨⟨mm_in (mm_r2 _ (List.mem_of_getElem? (i := 229) rfl)) rfl, rfl⟩, List.forall_mem_cons.mpr ⟨⟨by decide +kernel, by decide +kernel, by decide +kernel, mm_in (mm_r1 _ (List.mem_of_getElem? (i := 1) rfl)) rfl, mm_in (mm_r2 _ (List.mem_of_getElem? (i := 235) rfl)) rfl, mm_in (mm_r2 _ (List.mem_of_getElem? (i := 236) rfl)) rfl, mm_in (mm_r2 _ (List.mem_of_getElem? (i := 237) rfl)) rfl⟩, List.forall_mem_cons.mpr ⟨⟨by decide +kernel, by decide +kernel, by decide +kernel, mm_in (mm_r1 _ (List.mem_of_getElem? (i := 1) rfl)) rfl, mm_in (mm_r3 _ (List.mem_of_getElem? (i := 2) rfl)) rfl, mm_in (mm_r3 _ (List.mem_of_getElem? (i := 3) rfl)) rfl, mm_in (mm_r3 _ (List.mem_of_getElem? (i := 4) rfl)) rfl⟩, List.forall_mem_cons.mpr ⟨⟨by decide +kernel, by decide +kernel, by decide +kernel, mm_in (mm_r1 _ (List.mem_of_getElem? (i := 1) rfl)) rfl, mm_in (mm_r3 _ (List.mem_of_getElem? (i := 6) rfl)) rfl, mm_in (mm_r3 _ (List.mem_of_getElem? (i := 8) rfl)) rfl, mm_in (List.mem_append_left _ (List.mem_of_getElem? (i := 15) rfl)) rfl⟩, List.forall_mem_cons.mpr ⟨⟨by decide +kernel, by decide +kernel, by decide +kernel, mm_in (mm_r1 _ (List.mem_of_getElem? (i := 2) rfl)) rfl, mm_in (mm_r3 _ (List.mem_of_getElem? (i := 11) rfl)) rfl, mm_in (mm_r2 _ (List.mem_of_getElem? (i := 119) rfl)) rfl, mm_in (mm_r2 _ (List.mem_of_getElem? (i := 120) rfl)) rfl⟩, List.forall_mem_cons.mpr ⟨⟨by decide +kernel, by decide +kernel, by decide +kernel, mm_in (mm_r1 _ (List.mem_of_getElem? (i := 2) rfl)) rfl, mm_in (mm_r3 _ (List.mem_of_getElem? (i := 12) rfl)) rfl, mm_in (mm_r2 _ (List.mem_of_getElem? (i := 131) rfl)) rfl, mm_in (mm_r2 _ (List.mem_of_getElem? (i := 132) rfl)) rfl⟩, List.forall_mem_cons.mpr ⟨⟨by decide +kernel, by decide +kernel, by decide +kernel, mm_in (mm_r1 _ (List.mem_of_getElem? (i := 2) rfl)) rfl, mm_in (mm_r3 _ (List.mem_of_getElem? (i := 13) rfl)) rfl, mm_in (mm_r2 _ (List.mem_of_getElem? (i := 180) rfl)) rfl, mm_in (mm_r2 _ (List.mem_of_getElem? (i := 181) rfl)) rfl⟩, List.forall_mem_cons.mpr ⟨⟨by decide +kernel, by decide +kernel, by decide +kernel, mm_in (mm_r1 _ (List.mem_of_getElem? (i := 1) rfl)) rfl, mm_in (mm_r3 _ (List.mem_of_getElem? (i := 18) rfl)) rfl, mm_in (mm_r3 _ (List.mem_of_getElem? (i := 19) rfl)) rfl, mm_in (mm_r3 _ (List.mem_of_getElem? (i := 20) rfl)) rfl⟩, List.forall_mem_cons.mpr ⟨⟨by decide +kernel, by decide +kernel, by decide +kernel, mm_in (mm_r1 _ (List.mem_of_getElem? (i := 1) rfl)) rfl, mm_in (mm_r3 _ (List.mem_of_getElem? (i := 22) rfl)) rfl, mm_in (mm_r3 _ (List.mem_of_getElem? (i := 24) rfl)) rfl, mm_in (List.mem_append_left _ (List.mem_of_getElem? (i := 16) rfl)) rfl⟩, List.forall_mem_cons.mpr ⟨⟨by decide +kernel, by decide +kernel, by decide +kernel, mm_in (mm_r1 _ (List.mem_of_getElem? (i := 6) rfl)) rfl, mm_in (mm_r3 _ (List.mem_of_getElem? (i := 28) rfl)) rfl, mm_in (mm_r3 _ (List.mem_of_getElem? (i := 29) rfl)) rfl, mm_in (mm_r3 _ (List.mem_of_getElem? (i := 30) rfl)) rfl⟩, fun _ h => absurd h List.not_mem_nil⟩⟩⟩⟩⟩⟩⟩⟩⟩⟩⟩⟩⟩⟩⟩⟩⟩⟩⟩⟩⟩⟩⟩⟩⟩
def mm_mu_3 : List (Nat × Nat × Nat × MethodName × Nat) := [(7, 145, 0, (⟨"LambdaBench$Depths", "at", "(I)I"⟩ : MethodName), 1), (7, 185, 1, (⟨"LambdaBench", "isLetter", "(I)Z"⟩ : MethodName), 1), (2, 18, 0, (⟨"LambdaBench$Term", "length", "()I"⟩ : MethodName), 0), (2, 24, 0, (⟨"LambdaBench$Term", "at", "(I)I"⟩ : MethodName), 1), (9, 41, 0, (⟨"LambdaBench", "redexes", "(I)I"⟩ : MethodName), 1), (7, 148, 0, (⟨"LambdaBench$Term", "redexHead", "(I)I"⟩ : MethodName), 1), (6, 40, 0, (⟨"LambdaBench$Term", "at", "(I)I"⟩ : MethodName), 1), (9, 44, 0, (⟨"LambdaBench", "reduce", "(II)I"⟩ : MethodName), 2), (7, 151, 0, (⟨"LambdaBench", "requireSteps", "(I)V"⟩ : MethodName), 1), (7, 154, 0, (⟨"LambdaBench$Reducer", "run", "(LLambdaBench$Term;I)I"⟩ : MethodName), 2), (7, 157, 0, (⟨"LambdaBench$Reducer", "result", "()LLambdaBench$Term;"⟩ : MethodName), 0), (4, 32, 0, (⟨"LambdaBench$Term", "become", "(LLambdaBench$Term;)V"⟩ : MethodName), 1), (4, 36, 0, (⟨"LambdaBench$Term", "firstRedex", "()I"⟩ : MethodName), 0), (4, 40, 0, (⟨"LambdaBench$Reducer", "writeStep", "(I)V"⟩ : MethodName), 1), (4, 44, 0, (⟨"LambdaBench$Term", "isTooGreat", "()Z"⟩ : MethodName), 0), (6, 44, 0, (⟨"LambdaBench$Term", "redexHead", "(I)I"⟩ : MethodName), 1), (4, 48, 0, (⟨"LambdaBench$Term", "clear", "()V"⟩ : MethodName), 0), (4, 51, 0, (⟨"LambdaBench$Term", "addPart", "(LLambdaBench$Term;II)V"⟩ : MethodName), 3), (4, 55, 0, (⟨"LambdaBench$Reducer", "writeReplacement", "(I)I"⟩ : MethodName), 1), (4, 59, 0, (⟨"LambdaBench$Term", "length", "()I"⟩ : MethodName), 0), (4, 62, 0, (⟨"LambdaBench$Term", "redexHead", "(I)I"⟩ : MethodName), 1), (4, 65, 0, (⟨"LambdaBench$Reducer", "writeBody", "(I)I"⟩ : MethodName), 1), (4, 68, 0, (⟨"LambdaBench$Reducer", "writeShared", "(I)I"⟩ : MethodName), 1), (4, 71, 0, (⟨"LambdaBench$Term", "endOf", "(I)I"⟩ : MethodName), 1), (4, 77, 0, (⟨"LambdaBench$Depths", "measure", "(LLambdaBench$Term;I)I"⟩ : MethodName), 2)]
theorem mm_mu_p3 : ∀ q ∈ mm_mu_3, mm_muP q := List.forall_mem_cons.mpr ⟨⟨by decide +kernel, by decide +kernel, by decide +kernel, mm_in (mm_r1 _ (List.mem_of_getElem? (i := 6) rfl)) rfl, mm_in (mm_r3 _ (List.mem_of_getElem? (i := 34) rfl)) rfl, mm_in (mm_r3 _ (List.mem_of_getElem? (i := 35) rfl)) rfl, mm_in (mm_r3 _ (List.mem_of_getElem? (i := 36) rfl)) rfl⟩, List.forall_mem_cons.mpr ⟨⟨by decide +kernel, by decide +kernel, by decide +kernel, mm_in (mm_r1 _ (List.mem_of_getElem? (i := 1) rfl)) rfl, rfl, mm_in (mm_r3 _ (List.mem_of_getElem? (i := 26) rfl)) rfl, mm_in (mm_r2 _ (List.mem_of_getElem? (i := 101) rfl)) rfl⟩, List.forall_mem_cons.mpr ⟨⟨by decide +kernel, by decide +kernel, by decide +kernel, mm_in (mm_r1 _ (List.mem_of_getElem? (i := 2) rfl)) rfl, mm_in (mm_r3 _ (List.mem_of_getElem? (i := 32) rfl)) rfl, mm_in (mm_r2 _ (List.mem_of_getElem? (i := 191) rfl)) rfl, mm_in (mm_r2 _ (List.mem_of_getElem? (i := 192) rfl)) rfl⟩, List.forall_mem_cons.mpr ⟨⟨by decide +kernel, by decide +kernel, by decide +kernel, mm_in (mm_r1 _ (List.mem_of_getElem? (i := 2) rfl)) rfl, mm_in (mm_r3 _ (List.mem_of_getElem? (i := 33) rfl)) rfl, mm_in (mm_r2 _ (List.mem_of_getElem? (i := 226) rfl)) rfl, mm_in (mm_r2 _ (List.mem_of_getElem? (i := 227) rfl)) rfl⟩, List.forall_mem_cons.mpr ⟨⟨by decide +kernel, by decide +kernel, by decide +kernel, mm_in (mm_r1 _ (List.mem_of_getElem? (i := 1) rfl)) rfl, mm_in (mm_r3 _ (List.mem_of_getElem? (i := 42) rfl)) rfl, mm_in (mm_r3 _ (List.mem_of_getElem? (i := 43) rfl)) rfl, mm_in (mm_r3 _ (List.mem_of_getElem? (i := 44) rfl)) rfl⟩, List.forall_mem_cons.mpr ⟨⟨by decide +kernel, by decide +kernel, by decide +kernel, mm_in (mm_r1 _ (List.mem_of_getElem? (i := 2) rfl)) rfl, mm_in (mm_r3 _ (List.mem_of_getElem? (i := 46) rfl)) rfl, mm_in (mm_r3 _ (List.mem_of_getElem? (i := 47) rfl)) rfl, mm_in (mm_r3 _ (List.mem_of_getElem? (i := 48) rfl)) rfl⟩, List.forall_mem_cons.mpr ⟨⟨by decide +kernel, by decide +kernel, by decide +kernel, mm_in (mm_r1 _ (List.mem_of_getElem? (i := 2) rfl)) rfl, mm_in (mm_r3 _ (List.mem_of_getElem? (i := 50) rfl)) rfl, mm_in (mm_r2 _ (List.mem_of_getElem? (i := 226) rfl)) rfl, mm_in (mm_r2 _ (List.mem_of_getElem? (i := 227) rfl)) rfl⟩, List.forall_mem_cons.mpr ⟨⟨by decide +kernel, by decide +kernel, by decide +kernel, mm_in (mm_r1 _ (List.mem_of_getElem? (i := 1) rfl)) rfl, mm_in (mm_r3 _ (List.mem_of_getElem? (i := 54) rfl)) rfl, mm_in (mm_r3 _ (List.mem_of_getElem? (i := 55) rfl)) rfl, mm_in (mm_r3 _ (List.mem_of_getElem? (i := 56) rfl)) rfl⟩, List.forall_mem_cons.mpr ⟨⟨by decide +kernel, by decide +kernel, by decide +kernel, mm_in (mm_r1 _ (List.mem_of_getElem? (i := 1) rfl)) rfl, mm_in (mm_r3 _ (List.mem_of_getElem? (i := 58) rfl)) rfl, mm_in (mm_r3 _ (List.mem_of_getElem? (i := 60) rfl)) rfl, mm_in (List.mem_append_left _ (List.mem_of_getElem? (i := 17) rfl)) rfl⟩, List.forall_mem_cons.mpr ⟨⟨by decide +kernel, by decide +kernel, by decide +kernel, mm_in (mm_r1 _ (List.mem_of_getElem? (i := 7) rfl)) rfl, mm_in (mm_r3 _ (List.mem_of_getElem? (i := 63) rfl)) rfl, mm_in (mm_r3 _ (List.mem_of_getElem? (i := 64) rfl)) rfl, mm_in (mm_r3 _ (List.mem_of_getElem? (i := 65) rfl)) rfl⟩, List.forall_mem_cons.mpr ⟨⟨by decide +kernel, by decide +kernel, by decide +kernel, mm_in (mm_r1 _ (List.mem_of_getElem? (i := 7) rfl)) rfl, mm_in (mm_r3 _ (List.mem_of_getElem? (i := 106) rfl)) rfl, mm_in (mm_r3 _ (List.mem_of_getElem? (i := 107) rfl)) rfl, mm_in (mm_r3 _ (List.mem_of_getElem? (i := 108) rfl)) rfl⟩, List.forall_mem_cons.mpr ⟨⟨by decide +kernel, by decide +kernel, by decide +kernel, mm_in (mm_r1 _ (List.mem_of_getElem? (i := 2) rfl)) rfl, mm_in (mm_r3 _ (List.mem_of_getElem? (i := 67) rfl)) rfl, mm_in (mm_r2 _ (List.mem_of_getElem? (i := 175) rfl)) rfl, mm_in (mm_r2 _ (List.mem_of_getElem? (i := 176) rfl)) rfl⟩, List.forall_mem_cons.mpr ⟨⟨by decide +kernel, by decide +kernel, by decide +kernel, mm_in (mm_r1 _ (List.mem_of_getElem? (i := 2) rfl)) rfl, mm_in (mm_r3 _ (List.mem_of_getElem? (i := 68) rfl)) rfl, mm_in (mm_r3 _ (List.mem_of_getElem? (i := 69) rfl)) rfl, mm_in (mm_r3 _ (List.mem_of_getElem? (i := 70) rfl)) rfl⟩, List.forall_mem_cons.mpr ⟨⟨by decide +kernel, by decide +kernel, by decide +kernel, mm_in (mm_r1 _ (List.mem_of_getElem? (i := 7) rfl)) rfl, mm_in (mm_r3 _ (List.mem_of_getElem? (i := 73) rfl)) rfl, mm_in (mm_r3 _ (List.mem_of_getElem? (i := 75) rfl)) rfl, mm_in (List.mem_append_left _ (List.mem_of_getElem? (i := 18) rfl)) rfl⟩, List.forall_mem_cons.mpr ⟨⟨by decide +kernel, by decide +kernel, by decide +kernel, mm_in (mm_r1 _ (List.mem_of_getElem? (i := 2) rfl)) rfl, mm_in (mm_r3 _ (List.mem_of_getElem? (i := 89) rfl)) rfl, mm_in (mm_r2 _ (List.mem_of_getElem? (i := 170) rfl)) rfl, mm_in (mm_r2 _ (List.mem_of_getElem? (i := 171) rfl)) rfl⟩, List.forall_mem_cons.mpr ⟨⟨by decide +kernel, by decide +kernel, by decide +kernel, mm_in (mm_r1 _ (List.mem_of_getElem? (i := 2) rfl)) rfl, mm_in (mm_r3 _ (List.mem_of_getElem? (i := 72) rfl)) rfl, mm_in (mm_r3 _ (List.mem_of_getElem? (i := 47) rfl)) rfl, mm_in (mm_r3 _ (List.mem_of_getElem? (i := 48) rfl)) rfl⟩, List.forall_mem_cons.mpr ⟨⟨by decide +kernel, by decide +kernel, by decide +kernel, mm_in (mm_r1 _ (List.mem_of_getElem? (i := 2) rfl)) rfl, mm_in (mm_r3 _ (List.mem_of_getElem? (i := 77) rfl)) rfl, mm_in (mm_r2 _ (List.mem_of_getElem? (i := 119) rfl)) rfl, mm_in (mm_r2 _ (List.mem_of_getElem? (i := 120) rfl)) rfl⟩, List.forall_mem_cons.mpr ⟨⟨by decide +kernel, by decide +kernel, by decide +kernel, mm_in (mm_r1 _ (List.mem_of_getElem? (i := 2) rfl)) rfl, mm_in (mm_r3 _ (List.mem_of_getElem? (i := 78) rfl)) rfl, mm_in (mm_r2 _ (List.mem_of_getElem? (i := 184) rfl)) rfl, mm_in (mm_r2 _ (List.mem_of_getElem? (i := 185) rfl)) rfl⟩, List.forall_mem_cons.mpr ⟨⟨by decide +kernel, by decide +kernel, by decide +kernel, mm_in (mm_r1 _ (List.mem_of_getElem? (i := 7) rfl)) rfl, mm_in (mm_r3 _ (List.mem_of_getElem? (i := 79) rfl)) rfl, mm_in (mm_r3 _ (List.mem_of_getElem? (i := 81) rfl)) rfl, mm_in (List.mem_append_left _ (List.mem_of_getElem? (i := 19) rfl)) rfl⟩, List.forall_mem_cons.mpr ⟨⟨by decide +kernel, by decide +kernel, by decide +kernel, mm_in (mm_r1 _ (List.mem_of_getElem? (i := 2) rfl)) rfl, mm_in (mm_r3 _ (List.mem_of_getElem? (i := 105) rfl)) rfl, mm_in (mm_r2 _ (List.mem_of_getElem? (i := 191) rfl)) rfl, mm_in (mm_r2 _ (List.mem_of_getElem? (i := 192) rfl)) rfl⟩, List.forall_mem_cons.mpr ⟨⟨by decide +kernel, by decide +kernel, by decide +kernel, mm_in (mm_r1 _ (List.mem_of_getElem? (i := 2) rfl)) rfl, mm_in (mm_r3 _ (List.mem_of_getElem? (i := 83) rfl)) rfl, mm_in (mm_r3 _ (List.mem_of_getElem? (i := 47) rfl)) rfl, mm_in (mm_r3 _ (List.mem_of_getElem? (i := 48) rfl)) rfl⟩, List.forall_mem_cons.mpr ⟨⟨by decide +kernel, by decide +kernel, by decide +kernel, mm_in (mm_r1 _ (List.mem_of_getElem? (i := 7) rfl)) rfl, mm_in (mm_r3 _ (List.mem_of_getElem? (i := 84) rfl)) rfl, mm_in (mm_r3 _ (List.mem_of_getElem? (i := 86) rfl)) rfl, mm_in (List.mem_append_left _ (List.mem_of_getElem? (i := 20) rfl)) rfl⟩, List.forall_mem_cons.mpr ⟨⟨by decide +kernel, by decide +kernel, by decide +kernel, mm_in (mm_r1 _ (List.mem_of_getElem? (i := 7) rfl)) rfl, mm_in (mm_r3 _ (List.mem_of_getElem? (i := 97) rfl)) rfl, mm_in (mm_r3 _ (List.mem_of_getElem? (i := 99) rfl)) rfl, mm_in (List.mem_append_left _ (List.mem_of_getElem? (i := 22) rfl)) rfl⟩, List.forall_mem_cons.mpr ⟨⟨by decide +kernel, by decide +kernel, by decide +kernel, mm_in (mm_r1 _ (List.mem_of_getElem? (i := 2) rfl)) rfl, mm_in (mm_r3 _ (List.mem_of_getElem? (i := 101) rfl)) rfl, mm_in (mm_r3 _ (List.mem_of_getElem? (i := 102) rfl)) rfl, mm_in (mm_r3 _ (List.mem_of_getElem? (i := 103) rfl)) rfl⟩, List.forall_mem_cons.mpr ⟨⟨by decide +kernel, by decide +kernel, by decide +kernel, mm_in (mm_r1 _ (List.mem_of_getElem? (i := 6) rfl)) rfl, mm_in (mm_r3 _ (List.mem_of_getElem? (i := 88) rfl)) rfl, mm_in (mm_r3 _ (List.mem_of_getElem? (i := 29) rfl)) rfl, mm_in (mm_r3 _ (List.mem_of_getElem? (i := 30) rfl)) rfl⟩, fun _ h => absurd h List.not_mem_nil⟩⟩⟩⟩⟩⟩⟩⟩⟩⟩⟩⟩⟩⟩⟩⟩⟩⟩⟩⟩⟩⟩⟩⟩⟩
def mm_mu_4 : List (Nat × Nat × Nat × MethodName × Nat) := [(4, 81, 0, (⟨"LambdaBench$Term", "at", "(I)I"⟩ : MethodName), 1), (4, 84, 0, (⟨"LambdaBench$Depths", "at", "(I)I"⟩ : MethodName), 1), (4, 85, 0, (⟨"LambdaBench$Reducer", "writeArgument", "(III)V"⟩ : MethodName), 3), (4, 74, 0, (⟨"LambdaBench$Term", "add", "(I)V"⟩ : MethodName), 1), (9, 47, 0, (⟨"LambdaBench", "abstracted", "(I)I"⟩ : MethodName), 1), (7, 164, 0, (⟨"LambdaBench$Abstractor", "run", "(LLambdaBench$Term;)Z"⟩ : MethodName), 1), (7, 169, 0, (⟨"LambdaBench$Abstractor", "result", "()LLambdaBench$Term;"⟩ : MethodName), 0), (0, 28, 0, (⟨"LambdaBench$Term", "become", "(LLambdaBench$Term;)V"⟩ : MethodName), 1), (0, 32, 0, (⟨"LambdaBench$Term", "length", "()I"⟩ : MethodName), 0), (0, 36, 0, (⟨"LambdaBench$Term", "at", "(I)I"⟩ : MethodName), 1), (0, 40, 0, (⟨"LambdaBench$Abstractor", "writeWithout", "(I)V"⟩ : MethodName), 1), (0, 44, 0, (⟨"LambdaBench$Term", "isTooGreat", "()Z"⟩ : MethodName), 0), (0, 48, 0, (⟨"LambdaBench$Term", "endOf", "(I)I"⟩ : MethodName), 1), (0, 51, 0, (⟨"LambdaBench$Abstractor", "measure", "(II)V"⟩ : MethodName), 2), (0, 55, 0, (⟨"LambdaBench$Term", "clear", "()V"⟩ : MethodName), 0), (0, 58, 0, (⟨"LambdaBench$Term", "addPart", "(LLambdaBench$Term;II)V"⟩ : MethodName), 3), (0, 62, 0, (⟨"LambdaBench$Abstractor", "writePart", "(I)I"⟩ : MethodName), 1), (0, 65, 0, (⟨"LambdaBench$Term", "add", "(I)V"⟩ : MethodName), 1), (0, 68, 0, (⟨"LambdaBench$Abstractor", "isUsed", "(II)Z"⟩ : MethodName), 2), (0, 72, 0, (⟨"LambdaBench$Abstractor", "writeOutside", "(II)V"⟩ : MethodName), 2), (9, 50, 0, (⟨"LambdaBench", "numeral", "(II)I"⟩ : MethodName), 2), (7, 172, 1, (⟨"LambdaBench", "timesApplied", "(LLambdaBench$Term;)I"⟩ : MethodName), 1), (9, 53, 0, (⟨"LambdaBench", "same", "(II)Z"⟩ : MethodName), 2), (7, 176, 0, (⟨"LambdaBench$Term", "isLike", "(LLambdaBench$Term;)Z"⟩ : MethodName), 1), (9, 57, 0, (⟨"LambdaBench", "has", "(II)Z"⟩ : MethodName), 2)]
theorem mm_mu_p4 : ∀ q ∈ mm_mu_4, mm_muP q := List.forall_mem_cons.mpr ⟨⟨by decide +kernel, by decide +kernel, by decide +kernel, mm_in (mm_r1 _ (List.mem_of_getElem? (i := 2) rfl)) rfl, mm_in (mm_r3 _ (List.mem_of_getElem? (i := 90) rfl)) rfl, mm_in (mm_r2 _ (List.mem_of_getElem? (i := 226) rfl)) rfl, mm_in (mm_r2 _ (List.mem_of_getElem? (i := 227) rfl)) rfl⟩, List.forall_mem_cons.mpr ⟨⟨by decide +kernel, by decide +kernel, by decide +kernel, mm_in (mm_r1 _ (List.mem_of_getElem? (i := 6) rfl)) rfl, mm_in (mm_r3 _ (List.mem_of_getElem? (i := 91) rfl)) rfl, mm_in (mm_r3 _ (List.mem_of_getElem? (i := 35) rfl)) rfl, mm_in (mm_r3 _ (List.mem_of_getElem? (i := 36) rfl)) rfl⟩, List.forall_mem_cons.mpr ⟨⟨by decide +kernel, by decide +kernel, by decide +kernel, mm_in (mm_r1 _ (List.mem_of_getElem? (i := 7) rfl)) rfl, mm_in (mm_r3 _ (List.mem_of_getElem? (i := 92) rfl)) rfl, mm_in (mm_r3 _ (List.mem_of_getElem? (i := 94) rfl)) rfl, mm_in (List.mem_append_left _ (List.mem_of_getElem? (i := 21) rfl)) rfl⟩, List.forall_mem_cons.mpr ⟨⟨by decide +kernel, by decide +kernel, by decide +kernel, mm_in (mm_r1 _ (List.mem_of_getElem? (i := 2) rfl)) rfl, mm_in (mm_r3 _ (List.mem_of_getElem? (i := 96) rfl)) rfl, mm_in (mm_r2 _ (List.mem_of_getElem? (i := 131) rfl)) rfl, mm_in (mm_r2 _ (List.mem_of_getElem? (i := 132) rfl)) rfl⟩, List.forall_mem_cons.mpr ⟨⟨by decide +kernel, by decide +kernel, by decide +kernel, mm_in (mm_r1 _ (List.mem_of_getElem? (i := 1) rfl)) rfl, mm_in (mm_r3 _ (List.mem_of_getElem? (i := 113) rfl)) rfl, mm_in (mm_r3 _ (List.mem_of_getElem? (i := 114) rfl)) rfl, mm_in (mm_r3 _ (List.mem_of_getElem? (i := 115) rfl)) rfl⟩, List.forall_mem_cons.mpr ⟨⟨by decide +kernel, by decide +kernel, by decide +kernel, mm_in (mm_r1 _ (List.mem_of_getElem? (i := 8) rfl)) rfl, mm_in (mm_r3 _ (List.mem_of_getElem? (i := 117) rfl)) rfl, mm_in (mm_r3 _ (List.mem_of_getElem? (i := 118) rfl)) rfl, mm_in (mm_r3 _ (List.mem_of_getElem? (i := 119) rfl)) rfl⟩, List.forall_mem_cons.mpr ⟨⟨by decide +kernel, by decide +kernel, by decide +kernel, mm_in (mm_r1 _ (List.mem_of_getElem? (i := 8) rfl)) rfl, mm_in (mm_r3 _ (List.mem_of_getElem? (i := 150) rfl)) rfl, mm_in (mm_r3 _ (List.mem_of_getElem? (i := 151) rfl)) rfl, mm_in (mm_r3 _ (List.mem_of_getElem? (i := 152) rfl)) rfl⟩, List.forall_mem_cons.mpr ⟨⟨by decide +kernel, by decide +kernel, by decide +kernel, mm_in (mm_r1 _ (List.mem_of_getElem? (i := 2) rfl)) rfl, mm_in (mm_r3 _ (List.mem_of_getElem? (i := 121) rfl)) rfl, mm_in (mm_r2 _ (List.mem_of_getElem? (i := 175) rfl)) rfl, mm_in (mm_r2 _ (List.mem_of_getElem? (i := 176) rfl)) rfl⟩, List.forall_mem_cons.mpr ⟨⟨by decide +kernel, by decide +kernel, by decide +kernel, mm_in (mm_r1 _ (List.mem_of_getElem? (i := 2) rfl)) rfl, mm_in (mm_r3 _ (List.mem_of_getElem? (i := 122) rfl)) rfl, mm_in (mm_r2 _ (List.mem_of_getElem? (i := 191) rfl)) rfl, mm_in (mm_r2 _ (List.mem_of_getElem? (i := 192) rfl)) rfl⟩, List.forall_mem_cons.mpr ⟨⟨by decide +kernel, by decide +kernel, by decide +kernel, mm_in (mm_r1 _ (List.mem_of_getElem? (i := 2) rfl)) rfl, mm_in (mm_r3 _ (List.mem_of_getElem? (i := 123) rfl)) rfl, mm_in (mm_r2 _ (List.mem_of_getElem? (i := 226) rfl)) rfl, mm_in (mm_r2 _ (List.mem_of_getElem? (i := 227) rfl)) rfl⟩, List.forall_mem_cons.mpr ⟨⟨by decide +kernel, by decide +kernel, by decide +kernel, mm_in (mm_r1 _ (List.mem_of_getElem? (i := 8) rfl)) rfl, mm_in (mm_r3 _ (List.mem_of_getElem? (i := 124) rfl)) rfl, mm_in (mm_r3 _ (List.mem_of_getElem? (i := 126) rfl)) rfl, mm_in (List.mem_append_left _ (List.mem_of_getElem? (i := 23) rfl)) rfl⟩, List.forall_mem_cons.mpr ⟨⟨by decide +kernel, by decide +kernel, by decide +kernel, mm_in (mm_r1 _ (List.mem_of_getElem? (i := 2) rfl)) rfl, mm_in (mm_r3 _ (List.mem_of_getElem? (i := 135) rfl)) rfl, mm_in (mm_r2 _ (List.mem_of_getElem? (i := 170) rfl)) rfl, mm_in (mm_r2 _ (List.mem_of_getElem? (i := 171) rfl)) rfl⟩, List.forall_mem_cons.mpr ⟨⟨by decide +kernel, by decide +kernel, by decide +kernel, mm_in (mm_r1 _ (List.mem_of_getElem? (i := 2) rfl)) rfl, mm_in (mm_r3 _ (List.mem_of_getElem? (i := 128) rfl)) rfl, mm_in (mm_r3 _ (List.mem_of_getElem? (i := 102) rfl)) rfl, mm_in (mm_r3 _ (List.mem_of_getElem? (i := 103) rfl)) rfl⟩, List.forall_mem_cons.mpr ⟨⟨by decide +kernel, by decide +kernel, by decide +kernel, mm_in (mm_r1 _ (List.mem_of_getElem? (i := 8) rfl)) rfl, mm_in (mm_r3 _ (List.mem_of_getElem? (i := 129) rfl)) rfl, mm_in (mm_r3 _ (List.mem_of_getElem? (i := 131) rfl)) rfl, mm_in (List.mem_append_left _ (List.mem_of_getElem? (i := 24) rfl)) rfl⟩, List.forall_mem_cons.mpr ⟨⟨by decide +kernel, by decide +kernel, by decide +kernel, mm_in (mm_r1 _ (List.mem_of_getElem? (i := 2) rfl)) rfl, mm_in (mm_r3 _ (List.mem_of_getElem? (i := 133) rfl)) rfl, mm_in (mm_r2 _ (List.mem_of_getElem? (i := 119) rfl)) rfl, mm_in (mm_r2 _ (List.mem_of_getElem? (i := 120) rfl)) rfl⟩, List.forall_mem_cons.mpr ⟨⟨by decide +kernel, by decide +kernel, by decide +kernel, mm_in (mm_r1 _ (List.mem_of_getElem? (i := 2) rfl)) rfl, mm_in (mm_r3 _ (List.mem_of_getElem? (i := 134) rfl)) rfl, mm_in (mm_r2 _ (List.mem_of_getElem? (i := 184) rfl)) rfl, mm_in (mm_r2 _ (List.mem_of_getElem? (i := 185) rfl)) rfl⟩, List.forall_mem_cons.mpr ⟨⟨by decide +kernel, by decide +kernel, by decide +kernel, mm_in (mm_r1 _ (List.mem_of_getElem? (i := 8) rfl)) rfl, mm_in (mm_r3 _ (List.mem_of_getElem? (i := 136) rfl)) rfl, mm_in (mm_r3 _ (List.mem_of_getElem? (i := 138) rfl)) rfl, mm_in (List.mem_append_left _ (List.mem_of_getElem? (i := 25) rfl)) rfl⟩, List.forall_mem_cons.mpr ⟨⟨by decide +kernel, by decide +kernel, by decide +kernel, mm_in (mm_r1 _ (List.mem_of_getElem? (i := 2) rfl)) rfl, mm_in (mm_r3 _ (List.mem_of_getElem? (i := 140) rfl)) rfl, mm_in (mm_r2 _ (List.mem_of_getElem? (i := 131) rfl)) rfl, mm_in (mm_r2 _ (List.mem_of_getElem? (i := 132) rfl)) rfl⟩, List.forall_mem_cons.mpr ⟨⟨by decide +kernel, by decide +kernel, by decide +kernel, mm_in (mm_r1 _ (List.mem_of_getElem? (i := 8) rfl)) rfl, mm_in (mm_r3 _ (List.mem_of_getElem? (i := 141) rfl)) rfl, mm_in (mm_r3 _ (List.mem_of_getElem? (i := 143) rfl)) rfl, mm_in (List.mem_append_left _ (List.mem_of_getElem? (i := 26) rfl)) rfl⟩, List.forall_mem_cons.mpr ⟨⟨by decide +kernel, by decide +kernel, by decide +kernel, mm_in (mm_r1 _ (List.mem_of_getElem? (i := 8) rfl)) rfl, mm_in (mm_r3 _ (List.mem_of_getElem? (i := 145) rfl)) rfl, mm_in (mm_r3 _ (List.mem_of_getElem? (i := 147) rfl)) rfl, mm_in (List.mem_append_left _ (List.mem_of_getElem? (i := 27) rfl)) rfl⟩, List.forall_mem_cons.mpr ⟨⟨by decide +kernel, by decide +kernel, by decide +kernel, mm_in (mm_r1 _ (List.mem_of_getElem? (i := 1) rfl)) rfl, mm_in (mm_r3 _ (List.mem_of_getElem? (i := 157) rfl)) rfl, mm_in (mm_r3 _ (List.mem_of_getElem? (i := 158) rfl)) rfl, mm_in (mm_r3 _ (List.mem_of_getElem? (i := 159) rfl)) rfl⟩, List.forall_mem_cons.mpr ⟨⟨by decide +kernel, by decide +kernel, by decide +kernel, mm_in (mm_r1 _ (List.mem_of_getElem? (i := 1) rfl)) rfl, rfl, mm_in (mm_r3 _ (List.mem_of_getElem? (i := 162) rfl)) rfl, mm_in (mm_r3 _ (List.mem_of_getElem? (i := 163) rfl)) rfl⟩, List.forall_mem_cons.mpr ⟨⟨by decide +kernel, by decide +kernel, by decide +kernel, mm_in (mm_r1 _ (List.mem_of_getElem? (i := 1) rfl)) rfl, mm_in (mm_r3 _ (List.mem_of_getElem? (i := 168) rfl)) rfl, mm_in (mm_r3 _ (List.mem_of_getElem? (i := 169) rfl)) rfl, mm_in (mm_r3 _ (List.mem_of_getElem? (i := 170) rfl)) rfl⟩, List.forall_mem_cons.mpr ⟨⟨by decide +kernel, by decide +kernel, by decide +kernel, mm_in (mm_r1 _ (List.mem_of_getElem? (i := 2) rfl)) rfl, mm_in (mm_r3 _ (List.mem_of_getElem? (i := 172) rfl)) rfl, mm_in (mm_r3 _ (List.mem_of_getElem? (i := 173) rfl)) rfl, mm_in (mm_r3 _ (List.mem_of_getElem? (i := 174) rfl)) rfl⟩, List.forall_mem_cons.mpr ⟨⟨by decide +kernel, by decide +kernel, by decide +kernel, mm_in (mm_r1 _ (List.mem_of_getElem? (i := 1) rfl)) rfl, mm_in (mm_r3 _ (List.mem_of_getElem? (i := 179) rfl)) rfl, mm_in (mm_r3 _ (List.mem_of_getElem? (i := 180) rfl)) rfl, mm_in (mm_r3 _ (List.mem_of_getElem? (i := 181) rfl)) rfl⟩, fun _ h => absurd h List.not_mem_nil⟩⟩⟩⟩⟩⟩⟩⟩⟩⟩⟩⟩⟩⟩⟩⟩⟩⟩⟩⟩⟩⟩⟩⟩⟩
def mm_mu_5 : List (Nat × Nat × Nat × MethodName × Nat) := [(7, 179, 0, (⟨"LambdaBench$Term", "contains", "(I)Z"⟩ : MethodName), 1), (8, 1, 5, Lib.objectInit, 0), (8, 50, 1, (⟨"LambdaBenchModel", "in", "(III)Z"⟩ : MethodName), 3), (8, 57, 0, (⟨"LambdaBenchModel", "throwing", "(ZZ)Z"⟩ : MethodName), 2), (8, 136, 1, (⟨"LambdaBenchModel", "isSlot", "(I)Z"⟩ : MethodName), 1), (8, 139, 0, (⟨"LambdaBenchModel", "text", "()V"⟩ : MethodName), 0), (8, 142, 0, (⟨"LambdaBenchModel", "settle", "()V"⟩ : MethodName), 0), (8, 145, 0, (⟨"LambdaBenchModel", "store", "(I)V"⟩ : MethodName), 1), (8, 126, 0, (⟨"LambdaBenchModel", "begin", "()V"⟩ : MethodName), 0), (8, 108, 0, (⟨"LambdaBenchModel", "openTerm", "(I)V"⟩ : MethodName), 1), (8, 101, 0, (⟨"LambdaBenchModel", "see", "()I"⟩ : MethodName), 0), (8, 129, 0, (⟨"LambdaBenchModel", "closeAbstractions", "()Z"⟩ : MethodName), 0), (8, 98, 0, (⟨"LambdaBenchModel", "fail", "(I)V"⟩ : MethodName), 1), (8, 133, 0, (⟨"LambdaBenchModel", "atom", "()V"⟩ : MethodName), 0), (8, 105, 1, (⟨"LambdaBenchModel", "isLetter", "(I)Z"⟩ : MethodName), 1), (8, 114, 0, (⟨"LambdaBenchModel", "beginAtom", "()V"⟩ : MethodName), 0), (8, 117, 0, (⟨"LambdaBenchModel", "numeral", "()V"⟩ : MethodName), 0), (8, 120, 0, (⟨"LambdaBenchModel", "abstraction", "()V"⟩ : MethodName), 0), (8, 123, 0, (⟨"LambdaBenchModel", "variable", "(I)V"⟩ : MethodName), 1), (8, 79, 0, (⟨"LambdaBenchModel", "put", "(I)V"⟩ : MethodName), 1), (8, 176, 0, (⟨"LambdaBenchModel", "load", "(I)V"⟩ : MethodName), 1), (8, 155, 0, (⟨"LambdaBenchModel", "redex", "(I)I"⟩ : MethodName), 1), (8, 179, 0, (⟨"LambdaBenchModel", "steps", "(I)I"⟩ : MethodName), 1), (8, 173, 0, (⟨"LambdaBenchModel", "step", "()I"⟩ : MethodName), 0), (8, 158, 0, (⟨"LambdaBenchModel", "find", "()I"⟩ : MethodName), 0)]
theorem mm_mu_p5 : ∀ q ∈ mm_mu_5, mm_muP q := List.forall_mem_cons.mpr ⟨⟨by decide +kernel, by decide +kernel, by decide +kernel, mm_in (mm_r1 _ (List.mem_of_getElem? (i := 2) rfl)) rfl, mm_in (mm_r3 _ (List.mem_of_getElem? (i := 183) rfl)) rfl, mm_in (mm_r3 _ (List.mem_of_getElem? (i := 184) rfl)) rfl, mm_in (mm_r3 _ (List.mem_of_getElem? (i := 185) rfl)) rfl⟩, List.forall_mem_cons.mpr ⟨⟨mm_in (mm_r3 _ (List.mem_of_getElem? (i := 192) rfl)) rfl, rfl⟩, List.forall_mem_cons.mpr ⟨⟨by decide +kernel, by decide +kernel, by decide +kernel, mm_in (mm_r1 _ (List.mem_of_getElem? (i := 9) rfl)) rfl, rfl, mm_in (mm_r4 _ (List.mem_of_getElem? (i := 34) rfl)) rfl, mm_in (mm_r4 _ (List.mem_of_getElem? (i := 35) rfl)) rfl⟩, List.forall_mem_cons.mpr ⟨⟨by decide +kernel, by decide +kernel, by decide +kernel, mm_in (mm_r1 _ (List.mem_of_getElem? (i := 9) rfl)) rfl, mm_in (mm_r4 _ (List.mem_of_getElem? (i := 37) rfl)) rfl, mm_in (mm_r4 _ (List.mem_of_getElem? (i := 39) rfl)) rfl, mm_in (List.mem_append_left _ (List.mem_of_getElem? (i := 28) rfl)) rfl⟩, List.forall_mem_cons.mpr ⟨⟨by decide +kernel, by decide +kernel, by decide +kernel, mm_in (mm_r1 _ (List.mem_of_getElem? (i := 9) rfl)) rfl, rfl, mm_in (mm_r4 _ (List.mem_of_getElem? (i := 45) rfl)) rfl, mm_in (mm_r4 _ (List.mem_of_getElem? (i := 46) rfl)) rfl⟩, List.forall_mem_cons.mpr ⟨⟨by decide +kernel, by decide +kernel, by decide +kernel, mm_in (mm_r1 _ (List.mem_of_getElem? (i := 9) rfl)) rfl, mm_in (mm_r4 _ (List.mem_of_getElem? (i := 48) rfl)) rfl, mm_in (mm_r4 _ (List.mem_of_getElem? (i := 50) rfl)) rfl, mm_in (List.mem_append_left _ (List.mem_of_getElem? (i := 29) rfl)) rfl⟩, List.forall_mem_cons.mpr ⟨⟨by decide +kernel, by decide +kernel, by decide +kernel, mm_in (mm_r1 _ (List.mem_of_getElem? (i := 9) rfl)) rfl, mm_in (mm_r4 _ (List.mem_of_getElem? (i := 99) rfl)) rfl, mm_in (mm_r4 _ (List.mem_of_getElem? (i := 101) rfl)) rfl, mm_in (List.mem_append_left _ (List.mem_of_getElem? (i := 41) rfl)) rfl⟩, List.forall_mem_cons.mpr ⟨⟨by decide +kernel, by decide +kernel, by decide +kernel, mm_in (mm_r1 _ (List.mem_of_getElem? (i := 9) rfl)) rfl, mm_in (mm_r4 _ (List.mem_of_getElem? (i := 103) rfl)) rfl, mm_in (mm_r4 _ (List.mem_of_getElem? (i := 105) rfl)) rfl, mm_in (List.mem_append_left _ (List.mem_of_getElem? (i := 42) rfl)) rfl⟩, List.forall_mem_cons.mpr ⟨⟨by decide +kernel, by decide +kernel, by decide +kernel, mm_in (mm_r1 _ (List.mem_of_getElem? (i := 9) rfl)) rfl, mm_in (mm_r4 _ (List.mem_of_getElem? (i := 52) rfl)) rfl, mm_in (mm_r4 _ (List.mem_of_getElem? (i := 54) rfl)) rfl, mm_in (List.mem_append_left _ (List.mem_of_getElem? (i := 30) rfl)) rfl⟩, List.forall_mem_cons.mpr ⟨⟨by decide +kernel, by decide +kernel, by decide +kernel, mm_in (mm_r1 _ (List.mem_of_getElem? (i := 9) rfl)) rfl, mm_in (mm_r4 _ (List.mem_of_getElem? (i := 56) rfl)) rfl, mm_in (mm_r4 _ (List.mem_of_getElem? (i := 58) rfl)) rfl, mm_in (List.mem_append_left _ (List.mem_of_getElem? (i := 31) rfl)) rfl⟩, List.forall_mem_cons.mpr ⟨⟨by decide +kernel, by decide +kernel, by decide +kernel, mm_in (mm_r1 _ (List.mem_of_getElem? (i := 9) rfl)) rfl, mm_in (mm_r4 _ (List.mem_of_getElem? (i := 60) rfl)) rfl, mm_in (mm_r4 _ (List.mem_of_getElem? (i := 62) rfl)) rfl, mm_in (List.mem_append_left _ (List.mem_of_getElem? (i := 32) rfl)) rfl⟩, List.forall_mem_cons.mpr ⟨⟨by decide +kernel, by decide +kernel, by decide +kernel, mm_in (mm_r1 _ (List.mem_of_getElem? (i := 9) rfl)) rfl, mm_in (mm_r4 _ (List.mem_of_getElem? (i := 64) rfl)) rfl, mm_in (mm_r4 _ (List.mem_of_getElem? (i := 66) rfl)) rfl, mm_in (List.mem_append_left _ (List.mem_of_getElem? (i := 33) rfl)) rfl⟩, List.forall_mem_cons.mpr ⟨⟨by decide +kernel, by decide +kernel, by decide +kernel, mm_in (mm_r1 _ (List.mem_of_getElem? (i := 9) rfl)) rfl, mm_in (mm_r4 _ (List.mem_of_getElem? (i := 68) rfl)) rfl, mm_in (mm_r4 _ (List.mem_of_getElem? (i := 70) rfl)) rfl, mm_in (List.mem_append_left _ (List.mem_of_getElem? (i := 34) rfl)) rfl⟩, List.forall_mem_cons.mpr ⟨⟨by decide +kernel, by decide +kernel, by decide +kernel, mm_in (mm_r1 _ (List.mem_of_getElem? (i := 9) rfl)) rfl, mm_in (mm_r4 _ (List.mem_of_getElem? (i := 72) rfl)) rfl, mm_in (mm_r4 _ (List.mem_of_getElem? (i := 74) rfl)) rfl, mm_in (List.mem_append_left _ (List.mem_of_getElem? (i := 35) rfl)) rfl⟩, List.forall_mem_cons.mpr ⟨⟨by decide +kernel, by decide +kernel, by decide +kernel, mm_in (mm_r1 _ (List.mem_of_getElem? (i := 9) rfl)) rfl, rfl, mm_in (mm_r4 _ (List.mem_of_getElem? (i := 76) rfl)) rfl, mm_in (mm_r4 _ (List.mem_of_getElem? (i := 77) rfl)) rfl⟩, List.forall_mem_cons.mpr ⟨⟨by decide +kernel, by decide +kernel, by decide +kernel, mm_in (mm_r1 _ (List.mem_of_getElem? (i := 9) rfl)) rfl, mm_in (mm_r4 _ (List.mem_of_getElem? (i := 79) rfl)) rfl, mm_in (mm_r4 _ (List.mem_of_getElem? (i := 81) rfl)) rfl, mm_in (List.mem_append_left _ (List.mem_of_getElem? (i := 36) rfl)) rfl⟩, List.forall_mem_cons.mpr ⟨⟨by decide +kernel, by decide +kernel, by decide +kernel, mm_in (mm_r1 _ (List.mem_of_getElem? (i := 9) rfl)) rfl, mm_in (mm_r4 _ (List.mem_of_getElem? (i := 87) rfl)) rfl, mm_in (mm_r4 _ (List.mem_of_getElem? (i := 89) rfl)) rfl, mm_in (List.mem_append_left _ (List.mem_of_getElem? (i := 38) rfl)) rfl⟩, List.forall_mem_cons.mpr ⟨⟨by decide +kernel, by decide +kernel, by decide +kernel, mm_in (mm_r1 _ (List.mem_of_getElem? (i := 9) rfl)) rfl, mm_in (mm_r4 _ (List.mem_of_getElem? (i := 91) rfl)) rfl, mm_in (mm_r4 _ (List.mem_of_getElem? (i := 93) rfl)) rfl, mm_in (List.mem_append_left _ (List.mem_of_getElem? (i := 39) rfl)) rfl⟩, List.forall_mem_cons.mpr ⟨⟨by decide +kernel, by decide +kernel, by decide +kernel, mm_in (mm_r1 _ (List.mem_of_getElem? (i := 9) rfl)) rfl, mm_in (mm_r4 _ (List.mem_of_getElem? (i := 95) rfl)) rfl, mm_in (mm_r4 _ (List.mem_of_getElem? (i := 97) rfl)) rfl, mm_in (List.mem_append_left _ (List.mem_of_getElem? (i := 40) rfl)) rfl⟩, List.forall_mem_cons.mpr ⟨⟨by decide +kernel, by decide +kernel, by decide +kernel, mm_in (mm_r1 _ (List.mem_of_getElem? (i := 9) rfl)) rfl, mm_in (mm_r4 _ (List.mem_of_getElem? (i := 83) rfl)) rfl, mm_in (mm_r4 _ (List.mem_of_getElem? (i := 85) rfl)) rfl, mm_in (List.mem_append_left _ (List.mem_of_getElem? (i := 37) rfl)) rfl⟩, List.forall_mem_cons.mpr ⟨⟨by decide +kernel, by decide +kernel, by decide +kernel, mm_in (mm_r1 _ (List.mem_of_getElem? (i := 9) rfl)) rfl, mm_in (mm_r4 _ (List.mem_of_getElem? (i := 115) rfl)) rfl, mm_in (mm_r4 _ (List.mem_of_getElem? (i := 117) rfl)) rfl, mm_in (List.mem_append_left _ (List.mem_of_getElem? (i := 43) rfl)) rfl⟩, List.forall_mem_cons.mpr ⟨⟨by decide +kernel, by decide +kernel, by decide +kernel, mm_in (mm_r1 _ (List.mem_of_getElem? (i := 9) rfl)) rfl, mm_in (mm_r4 _ (List.mem_of_getElem? (i := 119) rfl)) rfl, mm_in (mm_r4 _ (List.mem_of_getElem? (i := 121) rfl)) rfl, mm_in (List.mem_append_left _ (List.mem_of_getElem? (i := 44) rfl)) rfl⟩, List.forall_mem_cons.mpr ⟨⟨by decide +kernel, by decide +kernel, by decide +kernel, mm_in (mm_r1 _ (List.mem_of_getElem? (i := 9) rfl)) rfl, mm_in (mm_r4 _ (List.mem_of_getElem? (i := 127) rfl)) rfl, mm_in (mm_r4 _ (List.mem_of_getElem? (i := 129) rfl)) rfl, mm_in (List.mem_append_left _ (List.mem_of_getElem? (i := 45) rfl)) rfl⟩, List.forall_mem_cons.mpr ⟨⟨by decide +kernel, by decide +kernel, by decide +kernel, mm_in (mm_r1 _ (List.mem_of_getElem? (i := 9) rfl)) rfl, mm_in (mm_r4 _ (List.mem_of_getElem? (i := 131) rfl)) rfl, mm_in (mm_r4 _ (List.mem_of_getElem? (i := 133) rfl)) rfl, mm_in (List.mem_append_left _ (List.mem_of_getElem? (i := 46) rfl)) rfl⟩, List.forall_mem_cons.mpr ⟨⟨by decide +kernel, by decide +kernel, by decide +kernel, mm_in (mm_r1 _ (List.mem_of_getElem? (i := 9) rfl)) rfl, mm_in (mm_r4 _ (List.mem_of_getElem? (i := 135) rfl)) rfl, mm_in (mm_r4 _ (List.mem_of_getElem? (i := 137) rfl)) rfl, mm_in (List.mem_append_left _ (List.mem_of_getElem? (i := 47) rfl)) rfl⟩, fun _ h => absurd h List.not_mem_nil⟩⟩⟩⟩⟩⟩⟩⟩⟩⟩⟩⟩⟩⟩⟩⟩⟩⟩⟩⟩⟩⟩⟩⟩⟩
def mm_mu_6 : List (Nat × Nat × Nat × MethodName × Nat) := [(8, 75, 0, (⟨"LambdaBenchModel", "behind", "(I)I"⟩ : MethodName), 1), (8, 161, 0, (⟨"LambdaBenchModel", "putBody", "(II)V"⟩ : MethodName), 2), (8, 164, 0, (⟨"LambdaBenchModel", "putPart", "(I)V"⟩ : MethodName), 1), (8, 167, 0, (⟨"LambdaBenchModel", "spread", "(I)V"⟩ : MethodName), 1), (8, 71, 1, (⟨"LambdaBenchModel", "isLeaf", "(I)Z"⟩ : MethodName), 1), (8, 148, 1, (⟨"LambdaBenchModel", "isIndex", "(I)Z"⟩ : MethodName), 1), (8, 151, 0, (⟨"LambdaBenchModel", "putShifted", "(II)V"⟩ : MethodName), 2), (8, 188, 0, (⟨"LambdaBenchModel", "abstractOne", "()Z"⟩ : MethodName), 0), (8, 182, 0, (⟨"LambdaBenchModel", "isIn", "(I)Z"⟩ : MethodName), 1), (8, 185, 0, (⟨"LambdaBenchModel", "putLess", "(I)V"⟩ : MethodName), 1), (9, 60, 2, (⟨"LambdaBench", "<init>", "()V"⟩ : MethodName), 0), (9, 63, 2, (⟨"LambdaBenchModel", "<init>", "()V"⟩ : MethodName), 0), (9, 66, 1, (⟨"LambdaBenchLaw", "feed", "(LLambdaBench;JI[J)I"⟩ : MethodName), 4), (9, 71, 0, (⟨"LambdaBenchModel", "feed", "(JI)I"⟩ : MethodName), 2), (9, 72, 0, (⟨"LambdaBenchModel", "thrown", "()I"⟩ : MethodName), 0), (9, 76, 1, (⟨"LambdaBenchLaw", "read", "(LLambdaBench;I[J)I"⟩ : MethodName), 3), (9, 79, 0, (⟨"LambdaBenchModel", "read", "(I)I"⟩ : MethodName), 1), (9, 80, 0, (⟨"LambdaBench", "place", "()I"⟩ : MethodName), 0), (9, 83, 0, (⟨"LambdaBenchModel", "place", "()I"⟩ : MethodName), 0), (9, 84, 1, (⟨"LambdaBenchLaw", "size", "(LLambdaBench;I[J)I"⟩ : MethodName), 3), (9, 86, 0, (⟨"LambdaBenchModel", "size", "(I)I"⟩ : MethodName), 1), (9, 87, 1, (⟨"LambdaBenchLaw", "print", "(LLambdaBench;II[J)I"⟩ : MethodName), 4), (9, 90, 0, (⟨"LambdaBenchModel", "print", "(II)I"⟩ : MethodName), 2), (9, 91, 1, (⟨"LambdaBenchLaw", "copy", "(LLambdaBench;II)I"⟩ : MethodName), 3), (9, 94, 0, (⟨"LambdaBenchModel", "copy", "(II)V"⟩ : MethodName), 2)]
theorem mm_mu_p6 : ∀ q ∈ mm_mu_6, mm_muP q := List.forall_mem_cons.mpr ⟨⟨by decide +kernel, by decide +kernel, by decide +kernel, mm_in (mm_r1 _ (List.mem_of_getElem? (i := 9) rfl)) rfl, mm_in (mm_r4 _ (List.mem_of_getElem? (i := 139) rfl)) rfl, mm_in (mm_r4 _ (List.mem_of_getElem? (i := 141) rfl)) rfl, mm_in (List.mem_append_left _ (List.mem_of_getElem? (i := 48) rfl)) rfl⟩, List.forall_mem_cons.mpr ⟨⟨by decide +kernel, by decide +kernel, by decide +kernel, mm_in (mm_r1 _ (List.mem_of_getElem? (i := 9) rfl)) rfl, mm_in (mm_r4 _ (List.mem_of_getElem? (i := 146) rfl)) rfl, mm_in (mm_r4 _ (List.mem_of_getElem? (i := 148) rfl)) rfl, mm_in (List.mem_append_left _ (List.mem_of_getElem? (i := 49) rfl)) rfl⟩, List.forall_mem_cons.mpr ⟨⟨by decide +kernel, by decide +kernel, by decide +kernel, mm_in (mm_r1 _ (List.mem_of_getElem? (i := 9) rfl)) rfl, mm_in (mm_r4 _ (List.mem_of_getElem? (i := 157) rfl)) rfl, mm_in (mm_r4 _ (List.mem_of_getElem? (i := 159) rfl)) rfl, mm_in (List.mem_append_left _ (List.mem_of_getElem? (i := 51) rfl)) rfl⟩, List.forall_mem_cons.mpr ⟨⟨by decide +kernel, by decide +kernel, by decide +kernel, mm_in (mm_r1 _ (List.mem_of_getElem? (i := 9) rfl)) rfl, mm_in (mm_r4 _ (List.mem_of_getElem? (i := 161) rfl)) rfl, mm_in (mm_r4 _ (List.mem_of_getElem? (i := 163) rfl)) rfl, mm_in (List.mem_append_left _ (List.mem_of_getElem? (i := 52) rfl)) rfl⟩, List.forall_mem_cons.mpr ⟨⟨by decide +kernel, by decide +kernel, by decide +kernel, mm_in (mm_r1 _ (List.mem_of_getElem? (i := 9) rfl)) rfl, rfl, mm_in (mm_r4 _ (List.mem_of_getElem? (i := 143) rfl)) rfl, mm_in (mm_r4 _ (List.mem_of_getElem? (i := 144) rfl)) rfl⟩, List.forall_mem_cons.mpr ⟨⟨by decide +kernel, by decide +kernel, by decide +kernel, mm_in (mm_r1 _ (List.mem_of_getElem? (i := 9) rfl)) rfl, rfl, mm_in (mm_r4 _ (List.mem_of_getElem? (i := 150) rfl)) rfl, mm_in (mm_r4 _ (List.mem_of_getElem? (i := 151) rfl)) rfl⟩, List.forall_mem_cons.mpr ⟨⟨by decide +kernel, by decide +kernel, by decide +kernel, mm_in (mm_r1 _ (List.mem_of_getElem? (i := 9) rfl)) rfl, mm_in (mm_r4 _ (List.mem_of_getElem? (i := 153) rfl)) rfl, mm_in (mm_r4 _ (List.mem_of_getElem? (i := 155) rfl)) rfl, mm_in (List.mem_append_left _ (List.mem_of_getElem? (i := 50) rfl)) rfl⟩, List.forall_mem_cons.mpr ⟨⟨by decide +kernel, by decide +kernel, by decide +kernel, mm_in (mm_r1 _ (List.mem_of_getElem? (i := 9) rfl)) rfl, mm_in (mm_r4 _ (List.mem_of_getElem? (i := 177) rfl)) rfl, mm_in (mm_r4 _ (List.mem_of_getElem? (i := 179) rfl)) rfl, mm_in (List.mem_append_left _ (List.mem_of_getElem? (i := 53) rfl)) rfl⟩, List.forall_mem_cons.mpr ⟨⟨by decide +kernel, by decide +kernel, by decide +kernel, mm_in (mm_r1 _ (List.mem_of_getElem? (i := 9) rfl)) rfl, mm_in (mm_r4 _ (List.mem_of_getElem? (i := 181) rfl)) rfl, mm_in (mm_r4 _ (List.mem_of_getElem? (i := 183) rfl)) rfl, mm_in (List.mem_append_left _ (List.mem_of_getElem? (i := 54) rfl)) rfl⟩, List.forall_mem_cons.mpr ⟨⟨by decide +kernel, by decide +kernel, by decide +kernel, mm_in (mm_r1 _ (List.mem_of_getElem? (i := 9) rfl)) rfl, mm_in (mm_r4 _ (List.mem_of_getElem? (i := 185) rfl)) rfl, mm_in (mm_r4 _ (List.mem_of_getElem? (i := 187) rfl)) rfl, mm_in (List.mem_append_left _ (List.mem_of_getElem? (i := 55) rfl)) rfl⟩, List.forall_mem_cons.mpr ⟨⟨by decide +kernel, by decide +kernel, by decide +kernel, mm_in (mm_r1 _ (List.mem_of_getElem? (i := 1) rfl)) rfl, mm_in (mm_r1 _ (List.mem_of_getElem? (i := 20) rfl)) rfl, mm_in (mm_r1 _ (List.mem_of_getElem? (i := 21) rfl)) rfl, rfl⟩, List.forall_mem_cons.mpr ⟨⟨by decide +kernel, by decide +kernel, by decide +kernel, mm_in (mm_r1 _ (List.mem_of_getElem? (i := 9) rfl)) rfl, mm_in (mm_r3 _ (List.mem_of_getElem? (i := 189) rfl)) rfl, mm_in (mm_r3 _ (List.mem_of_getElem? (i := 190) rfl)) rfl, rfl⟩, List.forall_mem_cons.mpr ⟨⟨by decide +kernel, by decide +kernel, by decide +kernel, mm_in (mm_r1 _ (List.mem_of_getElem? (i := 0) rfl)) rfl, rfl, mm_in (mm_r1 _ (List.mem_of_getElem? (i := 195) rfl)) rfl, mm_in (mm_r1 _ (List.mem_of_getElem? (i := 196) rfl)) rfl⟩, List.forall_mem_cons.mpr ⟨⟨by decide +kernel, by decide +kernel, by decide +kernel, mm_in (mm_r1 _ (List.mem_of_getElem? (i := 9) rfl)) rfl, mm_in (mm_r4 _ (List.mem_of_getElem? (i := 30) rfl)) rfl, mm_in (mm_r4 _ (List.mem_of_getElem? (i := 31) rfl)) rfl, mm_in (mm_r4 _ (List.mem_of_getElem? (i := 32) rfl)) rfl⟩, List.forall_mem_cons.mpr ⟨⟨by decide +kernel, by decide +kernel, by decide +kernel, mm_in (mm_r1 _ (List.mem_of_getElem? (i := 9) rfl)) rfl, mm_in (mm_r4 _ (List.mem_of_getElem? (i := 26) rfl)) rfl, mm_in (mm_r4 _ (List.mem_of_getElem? (i := 27) rfl)) rfl, mm_in (mm_r4 _ (List.mem_of_getElem? (i := 28) rfl)) rfl⟩, List.forall_mem_cons.mpr ⟨⟨by decide +kernel, by decide +kernel, by decide +kernel, mm_in (mm_r1 _ (List.mem_of_getElem? (i := 0) rfl)) rfl, rfl, mm_in (mm_r2 _ (List.mem_of_getElem? (i := 56) rfl)) rfl, mm_in (mm_r2 _ (List.mem_of_getElem? (i := 57) rfl)) rfl⟩, List.forall_mem_cons.mpr ⟨⟨by decide +kernel, by decide +kernel, by decide +kernel, mm_in (mm_r1 _ (List.mem_of_getElem? (i := 9) rfl)) rfl, mm_in (mm_r4 _ (List.mem_of_getElem? (i := 41) rfl)) rfl, mm_in (mm_r4 _ (List.mem_of_getElem? (i := 42) rfl)) rfl, mm_in (mm_r4 _ (List.mem_of_getElem? (i := 43) rfl)) rfl⟩, List.forall_mem_cons.mpr ⟨⟨by decide +kernel, by decide +kernel, by decide +kernel, mm_in (mm_r1 _ (List.mem_of_getElem? (i := 1) rfl)) rfl, mm_in (mm_r1 _ (List.mem_of_getElem? (i := 183) rfl)) rfl, mm_in (mm_r1 _ (List.mem_of_getElem? (i := 184) rfl)) rfl, mm_in (mm_r1 _ (List.mem_of_getElem? (i := 185) rfl)) rfl⟩, List.forall_mem_cons.mpr ⟨⟨by decide +kernel, by decide +kernel, by decide +kernel, mm_in (mm_r1 _ (List.mem_of_getElem? (i := 9) rfl)) rfl, mm_in (mm_r4 _ (List.mem_of_getElem? (i := 107) rfl)) rfl, mm_in (mm_r4 _ (List.mem_of_getElem? (i := 108) rfl)) rfl, mm_in (mm_r4 _ (List.mem_of_getElem? (i := 109) rfl)) rfl⟩, List.forall_mem_cons.mpr ⟨⟨by decide +kernel, by decide +kernel, by decide +kernel, mm_in (mm_r1 _ (List.mem_of_getElem? (i := 0) rfl)) rfl, rfl, mm_in (mm_r2 _ (List.mem_of_getElem? (i := 194) rfl)) rfl, mm_in (mm_r2 _ (List.mem_of_getElem? (i := 195) rfl)) rfl⟩, List.forall_mem_cons.mpr ⟨⟨by decide +kernel, by decide +kernel, by decide +kernel, mm_in (mm_r1 _ (List.mem_of_getElem? (i := 9) rfl)) rfl, mm_in (mm_r4 _ (List.mem_of_getElem? (i := 189) rfl)) rfl, mm_in (mm_r4 _ (List.mem_of_getElem? (i := 190) rfl)) rfl, mm_in (mm_r4 _ (List.mem_of_getElem? (i := 191) rfl)) rfl⟩, List.forall_mem_cons.mpr ⟨⟨by decide +kernel, by decide +kernel, by decide +kernel, mm_in (mm_r1 _ (List.mem_of_getElem? (i := 0) rfl)) rfl, rfl, mm_in (mm_r2 _ (List.mem_of_getElem? (i := 201) rfl)) rfl, mm_in (mm_r2 _ (List.mem_of_getElem? (i := 202) rfl)) rfl⟩, List.forall_mem_cons.mpr ⟨⟨by decide +kernel, by decide +kernel, by decide +kernel, mm_in (mm_r1 _ (List.mem_of_getElem? (i := 9) rfl)) rfl, mm_in (mm_r4 _ (List.mem_of_getElem? (i := 193) rfl)) rfl, mm_in (mm_r4 _ (List.mem_of_getElem? (i := 194) rfl)) rfl, mm_in (mm_r4 _ (List.mem_of_getElem? (i := 195) rfl)) rfl⟩, List.forall_mem_cons.mpr ⟨⟨by decide +kernel, by decide +kernel, by decide +kernel, mm_in (mm_r1 _ (List.mem_of_getElem? (i := 0) rfl)) rfl, rfl, mm_in (mm_r2 _ (List.mem_of_getElem? (i := 232) rfl)) rfl, mm_in (mm_r2 _ (List.mem_of_getElem? (i := 233) rfl)) rfl⟩, List.forall_mem_cons.mpr ⟨⟨by decide +kernel, by decide +kernel, by decide +kernel, mm_in (mm_r1 _ (List.mem_of_getElem? (i := 9) rfl)) rfl, mm_in (mm_r4 _ (List.mem_of_getElem? (i := 197) rfl)) rfl, mm_in (mm_r4 _ (List.mem_of_getElem? (i := 198) rfl)) rfl, mm_in (mm_r4 _ (List.mem_of_getElem? (i := 199) rfl)) rfl⟩, fun _ h => absurd h List.not_mem_nil⟩⟩⟩⟩⟩⟩⟩⟩⟩⟩⟩⟩⟩⟩⟩⟩⟩⟩⟩⟩⟩⟩⟩⟩⟩
def mm_mu_7 : List (Nat × Nat × Nat × MethodName × Nat) := [(9, 95, 1, (⟨"LambdaBenchLaw", "apply", "(LLambdaBench;III[J)I"⟩ : MethodName), 5), (9, 98, 0, (⟨"LambdaBenchModel", "apply", "(III)I"⟩ : MethodName), 3), (9, 99, 1, (⟨"LambdaBenchLaw", "bind", "(LLambdaBench;II[J)I"⟩ : MethodName), 4), (9, 101, 0, (⟨"LambdaBenchModel", "bind", "(II)I"⟩ : MethodName), 2), (9, 102, 1, (⟨"LambdaBenchLaw", "redexes", "(LLambdaBench;I[J)I"⟩ : MethodName), 3), (9, 104, 0, (⟨"LambdaBenchModel", "redexes", "(I)I"⟩ : MethodName), 1), (9, 105, 1, (⟨"LambdaBenchLaw", "reduce", "(LLambdaBench;II[J)I"⟩ : MethodName), 4), (9, 107, 0, (⟨"LambdaBenchModel", "reduce", "(II)I"⟩ : MethodName), 2), (9, 108, 0, (⟨"LambdaBench", "how", "()I"⟩ : MethodName), 0), (9, 111, 0, (⟨"LambdaBenchModel", "how", "()I"⟩ : MethodName), 0), (9, 112, 1, (⟨"LambdaBenchLaw", "abstracted", "(LLambdaBench;I[J)I"⟩ : MethodName), 3), (9, 114, 0, (⟨"LambdaBenchModel", "abstracted", "(I)I"⟩ : MethodName), 1), (9, 115, 1, (⟨"LambdaBenchLaw", "numeral", "(LLambdaBench;II[J)I"⟩ : MethodName), 4), (9, 117, 0, (⟨"LambdaBenchModel", "numeral", "(II)I"⟩ : MethodName), 2), (9, 118, 1, (⟨"LambdaBenchLaw", "same", "(LLambdaBench;II[J)I"⟩ : MethodName), 4), (9, 120, 0, (⟨"LambdaBenchModel", "same", "(II)Z"⟩ : MethodName), 2), (9, 121, 1, (⟨"LambdaBenchLaw", "has", "(LLambdaBench;II[J)I"⟩ : MethodName), 4), (9, 123, 0, (⟨"LambdaBenchModel", "has", "(II)Z"⟩ : MethodName), 2)]
theorem mm_mu_p7 : ∀ q ∈ mm_mu_7, mm_muP q := List.forall_mem_cons.mpr ⟨⟨by decide +kernel, by decide +kernel, by decide +kernel, mm_in (mm_r1 _ (List.mem_of_getElem? (i := 0) rfl)) rfl, rfl, mm_in (mm_r2 _ (List.mem_of_getElem? (i := 239) rfl)) rfl, mm_in (mm_r3 _ (List.mem_of_getElem? (i := 0) rfl)) rfl⟩, List.forall_mem_cons.mpr ⟨⟨by decide +kernel, by decide +kernel, by decide +kernel, mm_in (mm_r1 _ (List.mem_of_getElem? (i := 9) rfl)) rfl, mm_in (mm_r4 _ (List.mem_of_getElem? (i := 201) rfl)) rfl, mm_in (mm_r4 _ (List.mem_of_getElem? (i := 202) rfl)) rfl, mm_in (mm_r4 _ (List.mem_of_getElem? (i := 203) rfl)) rfl⟩, List.forall_mem_cons.mpr ⟨⟨by decide +kernel, by decide +kernel, by decide +kernel, mm_in (mm_r1 _ (List.mem_of_getElem? (i := 0) rfl)) rfl, rfl, mm_in (mm_r3 _ (List.mem_of_getElem? (i := 15) rfl)) rfl, mm_in (mm_r3 _ (List.mem_of_getElem? (i := 16) rfl)) rfl⟩, List.forall_mem_cons.mpr ⟨⟨by decide +kernel, by decide +kernel, by decide +kernel, mm_in (mm_r1 _ (List.mem_of_getElem? (i := 9) rfl)) rfl, mm_in (mm_r4 _ (List.mem_of_getElem? (i := 205) rfl)) rfl, mm_in (mm_r4 _ (List.mem_of_getElem? (i := 206) rfl)) rfl, mm_in (mm_r4 _ (List.mem_of_getElem? (i := 207) rfl)) rfl⟩, List.forall_mem_cons.mpr ⟨⟨by decide +kernel, by decide +kernel, by decide +kernel, mm_in (mm_r1 _ (List.mem_of_getElem? (i := 0) rfl)) rfl, rfl, mm_in (mm_r3 _ (List.mem_of_getElem? (i := 39) rfl)) rfl, mm_in (mm_r3 _ (List.mem_of_getElem? (i := 40) rfl)) rfl⟩, List.forall_mem_cons.mpr ⟨⟨by decide +kernel, by decide +kernel, by decide +kernel, mm_in (mm_r1 _ (List.mem_of_getElem? (i := 9) rfl)) rfl, mm_in (mm_r4 _ (List.mem_of_getElem? (i := 111) rfl)) rfl, mm_in (mm_r4 _ (List.mem_of_getElem? (i := 112) rfl)) rfl, mm_in (mm_r4 _ (List.mem_of_getElem? (i := 113) rfl)) rfl⟩, List.forall_mem_cons.mpr ⟨⟨by decide +kernel, by decide +kernel, by decide +kernel, mm_in (mm_r1 _ (List.mem_of_getElem? (i := 0) rfl)) rfl, rfl, mm_in (mm_r3 _ (List.mem_of_getElem? (i := 51) rfl)) rfl, mm_in (mm_r3 _ (List.mem_of_getElem? (i := 52) rfl)) rfl⟩, List.forall_mem_cons.mpr ⟨⟨by decide +kernel, by decide +kernel, by decide +kernel, mm_in (mm_r1 _ (List.mem_of_getElem? (i := 9) rfl)) rfl, mm_in (mm_r4 _ (List.mem_of_getElem? (i := 123) rfl)) rfl, mm_in (mm_r4 _ (List.mem_of_getElem? (i := 124) rfl)) rfl, mm_in (mm_r4 _ (List.mem_of_getElem? (i := 125) rfl)) rfl⟩, List.forall_mem_cons.mpr ⟨⟨by decide +kernel, by decide +kernel, by decide +kernel, mm_in (mm_r1 _ (List.mem_of_getElem? (i := 1) rfl)) rfl, mm_in (mm_r1 _ (List.mem_of_getElem? (i := 187) rfl)) rfl, mm_in (mm_r1 _ (List.mem_of_getElem? (i := 188) rfl)) rfl, mm_in (mm_r1 _ (List.mem_of_getElem? (i := 189) rfl)) rfl⟩, List.forall_mem_cons.mpr ⟨⟨by decide +kernel, by decide +kernel, by decide +kernel, mm_in (mm_r1 _ (List.mem_of_getElem? (i := 9) rfl)) rfl, mm_in (mm_r4 _ (List.mem_of_getElem? (i := 165) rfl)) rfl, mm_in (mm_r4 _ (List.mem_of_getElem? (i := 166) rfl)) rfl, mm_in (mm_r4 _ (List.mem_of_getElem? (i := 167) rfl)) rfl⟩, List.forall_mem_cons.mpr ⟨⟨by decide +kernel, by decide +kernel, by decide +kernel, mm_in (mm_r1 _ (List.mem_of_getElem? (i := 0) rfl)) rfl, rfl, mm_in (mm_r3 _ (List.mem_of_getElem? (i := 110) rfl)) rfl, mm_in (mm_r3 _ (List.mem_of_getElem? (i := 111) rfl)) rfl⟩, List.forall_mem_cons.mpr ⟨⟨by decide +kernel, by decide +kernel, by decide +kernel, mm_in (mm_r1 _ (List.mem_of_getElem? (i := 9) rfl)) rfl, mm_in (mm_r4 _ (List.mem_of_getElem? (i := 173) rfl)) rfl, mm_in (mm_r4 _ (List.mem_of_getElem? (i := 174) rfl)) rfl, mm_in (mm_r4 _ (List.mem_of_getElem? (i := 175) rfl)) rfl⟩, List.forall_mem_cons.mpr ⟨⟨by decide +kernel, by decide +kernel, by decide +kernel, mm_in (mm_r1 _ (List.mem_of_getElem? (i := 0) rfl)) rfl, rfl, mm_in (mm_r3 _ (List.mem_of_getElem? (i := 154) rfl)) rfl, mm_in (mm_r3 _ (List.mem_of_getElem? (i := 155) rfl)) rfl⟩, List.forall_mem_cons.mpr ⟨⟨by decide +kernel, by decide +kernel, by decide +kernel, mm_in (mm_r1 _ (List.mem_of_getElem? (i := 9) rfl)) rfl, mm_in (mm_r4 _ (List.mem_of_getElem? (i := 169) rfl)) rfl, mm_in (mm_r4 _ (List.mem_of_getElem? (i := 170) rfl)) rfl, mm_in (mm_r4 _ (List.mem_of_getElem? (i := 171) rfl)) rfl⟩, List.forall_mem_cons.mpr ⟨⟨by decide +kernel, by decide +kernel, by decide +kernel, mm_in (mm_r1 _ (List.mem_of_getElem? (i := 0) rfl)) rfl, rfl, mm_in (mm_r3 _ (List.mem_of_getElem? (i := 165) rfl)) rfl, mm_in (mm_r3 _ (List.mem_of_getElem? (i := 166) rfl)) rfl⟩, List.forall_mem_cons.mpr ⟨⟨by decide +kernel, by decide +kernel, by decide +kernel, mm_in (mm_r1 _ (List.mem_of_getElem? (i := 9) rfl)) rfl, mm_in (mm_r4 _ (List.mem_of_getElem? (i := 209) rfl)) rfl, mm_in (mm_r4 _ (List.mem_of_getElem? (i := 210) rfl)) rfl, mm_in (mm_r4 _ (List.mem_of_getElem? (i := 211) rfl)) rfl⟩, List.forall_mem_cons.mpr ⟨⟨by decide +kernel, by decide +kernel, by decide +kernel, mm_in (mm_r1 _ (List.mem_of_getElem? (i := 0) rfl)) rfl, rfl, mm_in (mm_r3 _ (List.mem_of_getElem? (i := 176) rfl)) rfl, mm_in (mm_r3 _ (List.mem_of_getElem? (i := 177) rfl)) rfl⟩, List.forall_mem_cons.mpr ⟨⟨by decide +kernel, by decide +kernel, by decide +kernel, mm_in (mm_r1 _ (List.mem_of_getElem? (i := 9) rfl)) rfl, mm_in (mm_r4 _ (List.mem_of_getElem? (i := 213) rfl)) rfl, mm_in (mm_r4 _ (List.mem_of_getElem? (i := 214) rfl)) rfl, mm_in (mm_r4 _ (List.mem_of_getElem? (i := 215) rfl)) rfl⟩, fun _ h => absurd h List.not_mem_nil⟩⟩⟩⟩⟩⟩⟩⟩⟩⟩⟩⟩⟩⟩⟩⟩⟩⟩
def mm_mu : List (Nat × Nat × Nat × MethodName × Nat) := mm_mu_0 ++ (mm_mu_1 ++ (mm_mu_2 ++ (mm_mu_3 ++ (mm_mu_4 ++ (mm_mu_5 ++ (mm_mu_6 ++ (mm_mu_7)))))))
theorem mm_mu_all : ∀ q ∈ mm_mu, mm_muP q := by
  show ∀ q ∈ mm_mu_0 ++ (mm_mu_1 ++ (mm_mu_2 ++ (mm_mu_3 ++ (mm_mu_4 ++ (mm_mu_5 ++ (mm_mu_6 ++ (mm_mu_7))))))), mm_muP q
  exact List.forall_mem_append.mpr ⟨mm_mu_p0, List.forall_mem_append.mpr ⟨mm_mu_p1, List.forall_mem_append.mpr ⟨mm_mu_p2, List.forall_mem_append.mpr ⟨mm_mu_p3, List.forall_mem_append.mpr ⟨mm_mu_p4, List.forall_mem_append.mpr ⟨mm_mu_p5, List.forall_mem_append.mpr ⟨mm_mu_p6, mm_mu_p7⟩⟩⟩⟩⟩⟩⟩
theorem mm_mu_ok (j : Nat) (q : Nat × Nat × Nat × MethodName × Nat) (h : mm_mu[j]? = some q) : mm_muP q := mm_mu_all _ (List.mem_of_getElem? h)
def mm_cuP (q : Nat × Nat × Nat) : Prop := ∃ (C : String) (T : u_T) (N : Nat), mm_cl[q.2.2]? = some (C, T, N) ∧ Cond.classLink (mm_nm q.1) q.2.1 C ∈ mm_tbl
def mm_cu_0 : List (Nat × Nat × Nat) := [(7, 9, 6), (7, 20, 5), (7, 27, 3), (7, 34, 1), (7, 41, 2), (7, 48, 4), (7, 55, 0), (4, 9, 2), (4, 18, 6), (0, 18, 6), (9, 8, 7), (9, 61, 8)]
theorem mm_cu_p0 : ∀ q ∈ mm_cu_0, mm_cuP q := List.forall_mem_cons.mpr ⟨⟨_, _, _, rfl, mm_in (mm_r1 _ (List.mem_of_getElem? (i := 26) rfl)) rfl⟩, List.forall_mem_cons.mpr ⟨⟨_, _, _, rfl, mm_in (mm_r1 _ (List.mem_of_getElem? (i := 44) rfl)) rfl⟩, List.forall_mem_cons.mpr ⟨⟨_, _, _, rfl, mm_in (mm_r1 _ (List.mem_of_getElem? (i := 57) rfl)) rfl⟩, List.forall_mem_cons.mpr ⟨⟨_, _, _, rfl, mm_in (mm_r1 _ (List.mem_of_getElem? (i := 79) rfl)) rfl⟩, List.forall_mem_cons.mpr ⟨⟨_, _, _, rfl, mm_in (mm_r1 _ (List.mem_of_getElem? (i := 98) rfl)) rfl⟩, List.forall_mem_cons.mpr ⟨⟨_, _, _, rfl, mm_in (mm_r1 _ (List.mem_of_getElem? (i := 111) rfl)) rfl⟩, List.forall_mem_cons.mpr ⟨⟨_, _, _, rfl, mm_in (mm_r1 _ (List.mem_of_getElem? (i := 134) rfl)) rfl⟩, List.forall_mem_cons.mpr ⟨⟨_, _, _, rfl, mm_in (mm_r1 _ (List.mem_of_getElem? (i := 117) rfl)) rfl⟩, List.forall_mem_cons.mpr ⟨⟨_, _, _, rfl, mm_in (mm_r1 _ (List.mem_of_getElem? (i := 119) rfl)) rfl⟩, List.forall_mem_cons.mpr ⟨⟨_, _, _, rfl, mm_in (mm_r1 _ (List.mem_of_getElem? (i := 140) rfl)) rfl⟩, List.forall_mem_cons.mpr ⟨⟨_, _, _, rfl, mm_in (mm_r1 _ (List.mem_of_getElem? (i := 18) rfl)) rfl⟩, List.forall_mem_cons.mpr ⟨⟨_, _, _, rfl, mm_in (mm_r3 _ (List.mem_of_getElem? (i := 187) rfl)) rfl⟩, fun _ h => absurd h List.not_mem_nil⟩⟩⟩⟩⟩⟩⟩⟩⟩⟩⟩⟩
def mm_cu : List (Nat × Nat × Nat) := mm_cu_0
theorem mm_cu_all : ∀ q ∈ mm_cu, mm_cuP q := by
  show ∀ q ∈ mm_cu_0, mm_cuP q
  exact mm_cu_p0
theorem mm_cu_ok (j cn ix ci : Nat) (h : mm_cu[j]? = some (cn, ix, ci)) : ∃ (C : String) (T : u_T) (N : Nat), mm_cl[ci]? = some (C, T, N) ∧ Cond.classLink (mm_nm cn) ix C ∈ mm_tbl := mm_cu_all _ (List.mem_of_getElem? h)
theorem mm_arrI : Cond.arrayClass .int ∈ mm_tbl := mm_in (mm_r1 _ (List.mem_of_getElem? (i := 43) rfl)) rfl
theorem mm_arrL : Cond.arrayClass .long ∈ mm_tbl := mm_in (mm_r4 _ (List.mem_of_getElem? (i := 218) rfl)) rfl
theorem mm_oiI : Cond.instanceMethod Lib.objectInit ∈ mm_tbl := mm_in (mm_r1 _ (List.mem_of_getElem? (i := 24) rfl)) rfl
theorem mm_oiC : Cond.code Lib.objectInit ⟨#[0xb1]⟩ 1 none ∈ mm_tbl := mm_in (mm_r1 _ (List.mem_of_getElem? (i := 25) rfl)) rfl
theorem mm_mnS : Cond.static Lib.Math.min.name ∈ mm_tbl := mm_in (mm_r2 _ (List.mem_of_getElem? (i := 230) rfl)) rfl
theorem mm_mnI : Cond.initialized "java/lang/Math" ∈ mm_tbl := mm_in (mm_r1 _ (List.mem_of_getElem? (i := 17) rfl)) rfl
theorem mm_mnC : Cond.code Lib.Math.min.name Lib.Math.min.code 2 (some .int) ∈ mm_tbl := mm_in (mm_r2 _ (List.mem_of_getElem? (i := 231) rfl)) rfl
theorem mm_acN : Cond.native arraycopyName ∈ mm_tbl := mm_in (mm_r2 _ (List.mem_of_getElem? (i := 189) rfl)) rfl
theorem mm_acS : Cond.static arraycopyName ∈ mm_tbl := mm_in (mm_r2 _ (List.mem_of_getElem? (i := 188) rfl)) rfl
theorem mm_acI : Cond.initialized "java/lang/System" ∈ mm_tbl := mm_in (mm_r1 _ (List.mem_of_getElem? (i := 15) rfl)) rfl
end
section
/-! The small machine: its instructions, runs of them, and that they are the machine's. -/
abbrev mm_nam (Y : mm_Y) : MethodName := Y.1.1
abbrev mm_cn (Y : mm_Y) : Nat := Y.1.2
abbrev mm_cod (Y : mm_Y) : ByteArray := Y.2.1
abbrev mm_nL (Y : mm_Y) : Nat := Y.2.2.1
abbrev mm_ret (Y : mm_Y) : Option FieldType := Y.2.2.2.1
abbrev mm_hh (Y : mm_Y) : List (Nat × Nat × Nat × Nat) := Y.2.2.2.2.1
abbrev mm_rm (Y : mm_Y) : Room := Y.2.2.2.2.2.1
abbrev mm_tab (Y : mm_Y) : List (Nat × mm_In) := Y.2.2.2.2.2.2
def mm_at : List (Nat × mm_In) → Nat → Option mm_In
  | [], _ => none
  | q :: t, pc => match Nat.beq q.1 pc with
    | true => some q.2
    | false => mm_at t pc
theorem mm_at_mem : ∀ {t : List (Nat × mm_In)} {pc : Nat} {q : mm_In}, mm_at t pc = some q → (pc, q) ∈ t := by
  intro t
  induction t with
  | nil => intro pc q h; cases h
  | cons x t ih =>
    intro pc q h
    unfold mm_at at h
    split at h
    · next hb =>
      cases h
      have e : x.1 = pc := Nat.eq_of_beq_eq_true hb
      subst e
      exact List.mem_cons_self
    · exact List.mem_cons_of_mem _ (ih h)
def mm_len : Instr → Nat
  | .bipush _ => 2
  | .sipush _ => 3
  | .iload _ => 2
  | .aload _ => 2
  | .lload _ => 2
  | .istore _ => 2
  | .astore _ => 2
  | .iinc _ _ => 3
  | .goto _ => 3
  | .if_icmp _ _ => 3
  | .ifCond _ _ => 3
  | .if_acmp _ _ => 3
  | .getfield _ => 3
  | .putfield _ => 3
  | .invokevirtual _ => 3
  | .invokestatic _ => 3
  | .invokespecial _ => 3
  | .new _ => 3
  | .newarray _ => 2
  | .anewarray _ => 3
  | .ldc _ => 2
  | .ldc2_w _ => 3
  | _ => 1
def mm_fok (cn ix j : Nat) : Bool := match mm_fu[j]? with
  | some f => decide (f.1 = cn) && decide (f.2.1 = ix)
  | none => false
def mm_pok (ini : Bool) (cn j : Nat) : Bool := match mm_fu[j]? with
  | some f => !(mm_fin f.2.2.1 f.2.2.2) || (ini && decide (cn = f.2.2.1))
  | none => false
/-- what a row of a method's table must keep -/
def mm_ok (cn nL : Nat) (ini : Bool) (q : Nat × mm_In) : Bool := match q.2.1 with
  | .iconst n => decide (Int32.ofInt n = q.2.2.2.2) && decide (q.2.2.1 = q.1 + 1)
  | .bipush n => decide ((Int8.ofInt n).toInt32 = q.2.2.2.2) && decide (q.2.2.1 = q.1 + 2)
  | .sipush n => decide ((Int16.ofInt n).toInt32 = q.2.2.2.2) && decide (q.2.2.1 = q.1 + 3)
  | .iinc _ n => decide (Int32.ofInt n = q.2.2.2.2) && decide (q.2.2.1 = q.1 + 3)
  | .goto off => decide ((q.1 : Int) + off = (q.2.2.1 : Int))
  | .if_icmp _ off => decide ((q.1 : Int) + off = (q.2.2.2.1 : Int)) && decide (q.2.2.1 = q.1 + 3)
  | .ifCond _ off => decide ((q.1 : Int) + off = (q.2.2.2.1 : Int)) && decide (q.2.2.1 = q.1 + 3)
  | .if_acmp _ off => decide ((q.1 : Int) + off = (q.2.2.2.1 : Int)) && decide (q.2.2.1 = q.1 + 3)
  | .getfield ix => mm_fok cn ix q.2.2.2.1 && decide (q.2.2.1 = q.1 + 3)
  | .putfield ix => mm_fok cn ix q.2.2.2.1 && mm_pok ini cn q.2.2.2.1 && decide (q.2.2.1 = q.1 + 3)
  | i => decide (q.2.2.1 = q.1 + mm_len i)
def mm_cw (Y : mm_Y) : Cond := match mm_hh Y with
  | [] => .code (mm_nam Y) (mm_cod Y) (mm_nL Y) (mm_ret Y)
  | h :: t => .codeWith (mm_nam Y) (mm_cod Y) (mm_nL Y) (mm_ret Y) (h :: t)
def mm_ws (Y : mm_Y) : List Cond := mm_cw Y :: mm_tbl
/-- a method whose row in the tables is as the code has it -/
def mm_okY (Y : mm_Y) : Prop := (∀ q ∈ mm_tab Y, decode (mm_cod Y) q.1 = .ok (q.2.1, mm_len q.2.1)) ∧ (∀ q ∈ mm_tab Y, mm_ok (mm_cn Y) (mm_nL Y) (decide ((mm_nam Y).name = "<init>")) q = true) ∧ mm_nm (mm_cn Y) = (mm_nam Y).cls ∧ plainName (mm_nam Y).cls = true
/-! instructions that only one way follows -/
def mm_b (f : Int32 → Int32 → Int32) (S : List Value) : Option (List Value) := match S with
  | .int y :: .int x :: R => some (.int (f x y) :: R)
  | _ => none
theorem mm_b_inv {f : Int32 → Int32 → Int32} {S S' : List Value} (h : mm_b f S = some S') : ∃ x y R, S = .int y :: .int x :: R ∧ S' = .int (f x y) :: R := by
  unfold mm_b at h
  split at h
  · cases h; exact ⟨_, _, _, rfl, rfl⟩
  · cases h
def mm_bl (f : Int64 → Int64 → Int64) (S : List Value) : Option (List Value) := match S with
  | .long y :: .long x :: R => some (.long (f x y) :: R)
  | _ => none
theorem mm_bl_inv {f : Int64 → Int64 → Int64} {S S' : List Value} (h : mm_bl f S = some S') : ∃ x y R, S = .long y :: .long x :: R ∧ S' = .long (f x y) :: R := by
  unfold mm_bl at h
  split at h
  · cases h; exact ⟨_, _, _, rfl, rfl⟩
  · cases h
def mm_sh (f : Int64 → Int32 → Int64) (S : List Value) : Option (List Value) := match S with
  | .int y :: .long x :: R => some (.long (f x y) :: R)
  | _ => none
theorem mm_sh_inv {f : Int64 → Int32 → Int64} {S S' : List Value} (h : mm_sh f S = some S') : ∃ x y R, S = .int y :: .long x :: R ∧ S' = .long (f x y) :: R := by
  unfold mm_sh at h
  split at h
  · cases h; exact ⟨_, _, _, rfl, rfl⟩
  · cases h
def mm_l2i (S : List Value) : Option (List Value) := match S with
  | .long x :: R => some (.int x.toInt32 :: R)
  | _ => none
def mm_i2l (S : List Value) : Option (List Value) := match S with
  | .int x :: R => some (.long x.toInt64 :: R)
  | _ => none
def mm_lc (S : List Value) : Option (List Value) := match S with
  | .long y :: .long x :: R => some (.int (lg_cmp x y) :: R)
  | _ => none
def mm_dup (S : List Value) : Option (List Value) := match S with
  | v :: R => if v.category = 1 then some (v :: v :: R) else none
  | _ => none
def mm_dup2 (S : List Value) : Option (List Value) := match S with
  | v :: u :: R => if v.category = 1 then if u.category = 1 then some (v :: u :: v :: u :: R) else none else none
  | _ => none
def mm_pop (S : List Value) : Option (List Value) := match S with
  | v :: R => if v.category = 1 then some R else none
  | _ => none
def mm_ldi (L : mm_L) (S : List Value) (i : Nat) : Option (List Value) := match mm_get L i with
  | some (.int x) => some (.int x :: S)
  | _ => none
def mm_ldl (L : mm_L) (S : List Value) (i : Nat) : Option (List Value) := match mm_get L i with
  | some (.long x) => some (.long x :: S)
  | _ => none
def mm_lda (L : mm_L) (S : List Value) (i : Nat) : Option (List Value) := match mm_get L i with
  | some v => match mm_isR v with
    | true => some (v :: S)
    | false => none
  | none => none
def mm_sti (L : mm_L) (S : List Value) (i : Nat) : Option (mm_L × List Value) := match S with
  | .int x :: R => match mm_set L i (.int x) with
    | some L' => some (L', R)
    | none => none
  | _ => none
def mm_sta (L : mm_L) (S : List Value) (i : Nat) : Option (mm_L × List Value) := match S with
  | v :: R => match mm_isR v with
    | true => match mm_set L i v with
      | some L' => some (L', R)
      | none => none
    | false => none
  | _ => none
def mm_inc (L : mm_L) (i : Nat) (z : Int32) : Option mm_L := match mm_get L i with
  | some (.int x) => mm_set L i (.int (x + z))
  | _ => none
def mm_ob (M : mm_M) (a ci : Nat) : Option (List Value) := match M[a]? with
  | some (.inr o) => match Nat.beq o.1 ci with
    | true => some o.2
    | false => none
  | _ => none
theorem mm_ob_inv {M : mm_M} {a ci : Nat} {fs : List Value} (h : mm_ob M a ci = some fs) : M[a]? = some (.inr (ci, fs)) := by
  unfold mm_ob at h
  split at h
  · next o ho =>
    split at h
    · next hb =>
      cases h
      rw [ho, ← Nat.eq_of_beq_eq_true hb]
    · cases h
  · cases h
def mm_gf (M : mm_M) (S : List Value) (j : Nat) : Option (List Value) := match S with
  | .ref a :: R => match mm_fu[j]? with
    | some f => match mm_ob M a f.2.2.1 with
      | some fs => match fs[f.2.2.2]? with
        | some v => some (v :: R)
        | none => none
      | none => none
    | none => none
  | _ => none
theorem mm_gf_inv {M : mm_M} {S S' : List Value} {j : Nat} (h : mm_gf M S j = some S') : ∃ (a : Nat) (R : List Value) (f : Nat × Nat × Nat × Nat) (fs : List Value) (v : Value), S = .ref a :: R ∧ mm_fu[j]? = some f ∧ M[a]? = some (.inr (f.2.2.1, fs)) ∧ fs[f.2.2.2]? = some v ∧ S' = v :: R := by
  unfold mm_gf at h
  split at h
  · next a R =>
    split at h
    · next f hf =>
      split at h
      · next fs hfs =>
        split at h
        · next v hv => cases h; exact ⟨a, R, f, fs, v, rfl, hf, mm_ob_inv hfs, hv, rfl⟩
        · cases h
      · cases h
    · cases h
  · cases h
def mm_fit (ty : FieldType) (v : Value) : Bool := match ty with
  | .int => match v with
    | .int _ => true
    | _ => false
  | .boolean => match v with
    | .int x => decide (x = nI 0) || decide (x = nI 1)
    | _ => false
  | .object _ => match v with
    | .ref _ => true
    | _ => false
  | .array _ => match v with
    | .ref _ => true
    | _ => false
  | _ => false
theorem mm_fit_ok {al : List Nat} {sa : Nat} {ty : FieldType} {v w : Value} (h : mm_fit ty v = true) (hv : mm_v al sa v w) : narrow ty w = w ∧ fits ty w = true := by
  unfold mm_fit at h
  split at h
  · split at h
    · next x => have h' : w = .int x := hv
                rw [h']; exact ⟨rfl, rfl⟩
    · cases h
  · split at h
    · next x =>
      have h' : w = .int x := hv
      rw [h']
      simp only [Bool.or_eq_true, decide_eq_true_eq] at h
      rcases h with h | h
      · rw [h]; decide +kernel
      · rw [h]; decide +kernel
    · cases h
  · split at h
    · next x => obtain ⟨a, -, h'⟩ := hv
                rw [h']; exact ⟨rfl, rfl⟩
    · cases h
  · split at h
    · next x => obtain ⟨a, -, h'⟩ := hv
                rw [h']; exact ⟨rfl, rfl⟩
    · cases h
  · cases h
def mm_pf (M : mm_M) (S : List Value) (j : Nat) : Option (mm_M × List Value) := match S with
  | v :: .ref a :: R => match mm_fu[j]? with
    | some f => match mm_ob M a f.2.2.1 with
      | some fs => match Nat.blt f.2.2.2 fs.length with
        | true => match mm_fit (mm_tf f.2.2.1 f.2.2.2) v with
          | true => some (M.set a (.inr (f.2.2.1, fs.set f.2.2.2 v)), R)
          | false => none
        | false => none
      | none => none
    | none => none
  | _ => none
theorem mm_pf_inv {M M' : mm_M} {S S' : List Value} {j : Nat} (h : mm_pf M S j = some (M', S')) : ∃ (v : Value) (a : Nat) (f : Nat × Nat × Nat × Nat) (fs : List Value), S = v :: .ref a :: S' ∧ mm_fu[j]? = some f ∧ M[a]? = some (.inr (f.2.2.1, fs)) ∧ f.2.2.2 < fs.length ∧ mm_fit (mm_tf f.2.2.1 f.2.2.2) v = true ∧ M' = M.set a (.inr (f.2.2.1, fs.set f.2.2.2 v)) := by
  unfold mm_pf at h
  split at h
  · next v a R =>
    split at h
    · next f hf =>
      split at h
      · next fs hfs =>
        split at h
        · next hlt =>
          split at h
          · next hfit => cases h; exact ⟨v, a, f, fs, rfl, hf, mm_ob_inv hfs, Nat.blt_eq.mp hlt, hfit, rfl⟩
          · cases h
        · cases h
      · cases h
    · cases h
  · cases h
def mm_s (M : mm_M) (L : mm_L) (o : Option (List Value)) : Option (mm_M × mm_L × List Value) := match o with
  | some S => some (M, L, S)
  | none => none
theorem mm_s_inv {M M' : mm_M} {L L' : mm_L} {o : Option (List Value)} {S' : List Value} (h : mm_s M L o = some (M', L', S')) : M' = M ∧ L' = L ∧ o = some S' := by
  unfold mm_s at h
  split at h
  · cases h; exact ⟨rfl, rfl, rfl⟩
  · cases h
def mm_t (M : mm_M) (o : Option (mm_L × List Value)) : Option (mm_M × mm_L × List Value) := match o with
  | some (L, S) => some (M, L, S)
  | none => none
theorem mm_t_inv {M M' : mm_M} {L' : mm_L} {o : Option (mm_L × List Value)} {S' : List Value} (h : mm_t M o = some (M', L', S')) : M' = M ∧ o = some (L', S') := by
  unfold mm_t at h
  split at h
  · cases h; exact ⟨rfl, rfl⟩
  · cases h
def mm_x (q : mm_In) (M : mm_M) (L : mm_L) (S : List Value) : Option (mm_M × mm_L × List Value) := match q.1 with
  | .iconst _ => some (M, L, .int q.2.2.2 :: S)
  | .bipush _ => some (M, L, .int q.2.2.2 :: S)
  | .sipush _ => some (M, L, .int q.2.2.2 :: S)
  | .lconst n => some (M, L, .long (Int64.ofNat n.val) :: S)
  | .iload_n i => mm_s M L (mm_ldi L S i.val)
  | .iload i => mm_s M L (mm_ldi L S i)
  | .lload_n i => mm_s M L (mm_ldl L S i.val)
  | .aload_n i => mm_s M L (mm_lda L S i.val)
  | .aload i => mm_s M L (mm_lda L S i)
  | .istore_n i => mm_t M (mm_sti L S i.val)
  | .istore i => mm_t M (mm_sti L S i)
  | .astore_n i => mm_t M (mm_sta L S i.val)
  | .astore i => mm_t M (mm_sta L S i)
  | .iinc i _ => match mm_inc L i q.2.2.2 with
    | some L' => some (M, L', S)
    | none => none
  | .iadd => mm_s M L (mm_b (fun x y => x + y) S)
  | .isub => mm_s M L (mm_b (fun x y => x - y) S)
  | .imul => mm_s M L (mm_b (fun x y => x * y) S)
  | .iand => mm_s M L (mm_b (fun x y => x &&& y) S)
  | .land => mm_s M L (mm_bl (fun x y => x &&& y) S)
  | .lor => mm_s M L (mm_bl (fun x y => x ||| y) S)
  | .lshl => mm_s M L (mm_sh (fun x y => x <<< (y.toInt64 &&& 63)) S)
  | .lshr => mm_s M L (mm_sh (fun x y => x >>> (y.toInt64 &&& 63)) S)
  | .lushr => mm_s M L (mm_sh (fun x y => (x.toUInt64 >>> (y.toInt64.toUInt64 &&& Int64.toUInt64 63)).toInt64) S)
  | .l2i => mm_s M L (mm_l2i S)
  | .i2l => mm_s M L (mm_i2l S)
  | .lcmp => mm_s M L (mm_lc S)
  | .dup => mm_s M L (mm_dup S)
  | .dup2 => mm_s M L (mm_dup2 S)
  | .pop => mm_s M L (mm_pop S)
  | .goto _ => some (M, L, S)
  | .getfield _ => mm_s M L (mm_gf M S q.2.2.1)
  | .putfield _ => match mm_pf M S q.2.2.1 with
    | some (M', S') => some (M', L, S')
    | none => none
  | _ => none
def mm_run : Nat → List (Nat × mm_In) → Nat → mm_M → mm_L → List Value → Option (Nat × mm_M × mm_L × List Value)
  | 0, _, pc, M, L, S => some (pc, M, L, S)
  | n + 1, t, pc, M, L, S => match mm_at t pc with
    | none => none
    | some q => match mm_x q M L S with
      | none => none
      | some (M', L', S') => mm_run n t q.2.1 M' L' S'
end
section
/-! What every method may lean on; the judgement; one instruction, and runs of them. -/
def mm_env (sc : Nat × (Nat → Int32)) (D : va_G) (A : Nat → Prop) (sa : Nat) (U : State) : Prop := va_K D mm_cl [] U ∧ va_AO "LambdaBench$Term" U ∧ vx_Zq Bundle.tN "UNASSIGNED_STACK" Bundle.steD A U U.heap ∧ vx_Zq Bundle.tN "SUPPRESSED_SENTINEL" Bundle.listD A U U.heap ∧ (∀ q ∈ mm_st, ∃ a, vk_R q.1 q.2.1 q.2.2 a U) ∧ (∀ q ∈ mm_nw, va_Nw (.methodLinkNest q.1 q.2.1 q.2.2.1 q.2.2.2) U) ∧ (∀ q ∈ mm_ca, va_Nw (.castable q.1 q.2) U) ∧ (∀ q ∈ mm_nc, va_Nc q.1 q.2 U) ∧ (∀ y ∈ mm_de, va_Nw (.declares y) U) ∧ va_X sa sc.1 sc.2 U U.heap ∧ sa < U.heap.size ∧ ¬ A sa
theorem mm_env.call {sc : Nat × (Nat → Int32)} {D : va_G} {A : Nat → Prop} {sa : Nat} {s U : State} {H : Heap} {locs : List Loc} (h : mm_env sc D A sa s) (hS : va_S A s.heap H locs) (hU : U.heap = H) (hW : s.WarmedH U.vm) : mm_env sc D A sa U := by
  obtain ⟨h1, h2, h3, h4, h5, h6, h7, h8, h12, h9, h10, h11⟩ := h
  refine ⟨h1.moved hW.alike, h2.moved hW.alike, by rw [hU]; exact vx_Zq.moved hW.alike (h3.kept hS.2.1), by rw [hU]; exact vx_Zq.moved hW.alike (h4.kept hS.2.1), fun q hq => ?_, fun q hq => (h6 q hq).warmM hW, fun q hq => (h7 q hq).warmC hW, fun q hq => (h8 q hq).moved hW.alike, fun y hy => (h12 y hy).warmD hW, ?_, by rw [hU]; exact Nat.lt_of_lt_of_le h10 hS.1, h11⟩
  · obtain ⟨a, ha⟩ := h5 q hq
    exact ⟨a, vk_R.warm hW ha⟩
  · rw [hU]
    exact (h9.kept (hS.2.1 sa h10 h11)).moved hW.alike
theorem mm_env.blind {sc : Nat × (Nat → Int32)} {D : va_G} {A : Nat → Prop} {sa : Nat} {U : State} (g : JFrame) (mk : MethodId) (a : Array Value) (h : mm_env sc D A sa U) : mm_env sc D A sa (U.calling g mk a) := by
  obtain ⟨h1, h2, h3, h4, h5, h6, h7, h8, h12, h9, h10, h11⟩ := h
  have hr : U.vm.Alike (U.calling g mk a).vm := Vm.Alike.refl U.vm
  refine ⟨h1.moved hr, h2.moved hr, vx_Zq.moved hr h3, vx_Zq.moved hr h4, fun q hq => ?_, fun q hq => va_Nw.same rfl (u := U) rfl (h6 q hq), fun q hq => va_Nw.same rfl (u := U) rfl (h7 q hq), fun q hq => (h8 q hq).moved hr, fun y hy => va_Nw.same rfl (u := U) rfl (h12 y hy), va_X.moved hr h9, h10, h11⟩
  obtain ⟨b, hb⟩ := h5 q hq
  exact ⟨b, vk_R.same rfl hb⟩
def mm_H (D : va_G) (A : Nat → Prop) (U : State) (al : List Nat) (sa : Nat) (M : mm_M) (ws : va_W) (H : Heap) : Prop := mm_W U al sa M ws ∧ va_P D mm_cl ws H ∧ va_D A ws
def mm_o (al : List Nat) (sa : Nat) (v w : Option Value) : Prop := match v with
  | none => w = none
  | some x => ∃ y, w = some y ∧ mm_v al sa x y
def mm_Qc (D : va_G) (A : Nat → Prop) (al : List Nat) (sa : Nat) (Q : mm_O → mm_M → Prop) : Array Value → State → Outcome → State → Prop := fun _ st oc t =>
  ∃ (v w : Option Value) (M : mm_M) (al' : List Nat) (ws : va_W), oc = .returned w ∧ mm_o al' sa v w ∧ Q (.inl v) M ∧ mm_e al al' ∧ mm_H D A t al' sa M ws t.heap ∧ va_F A st t
def mm_XC (D : va_G) (A : Nat → Prop) (al : List Nat) (sa : Nat) (Q : mm_O → mm_M → Prop) : String → State → State → Prop := fun E st t =>
  ∃ (j : Nat) (M : mm_M) (al' : List Nat) (ws : va_W), E = mm_xn j ∧ Q (.inr j) M ∧ mm_e al al' ∧ mm_H D A t al' sa M ws t.heap ∧ va_F A st t
def mm_Pc (sc : Nat × (Nat → Int32)) (D : va_G) (A : Nat → Prop) (al : List Nat) (sa : Nat) (M : mm_M) (ws : va_W) (us : List Value) : Array Value → State → Prop := fun a U =>
  a = us.toArray ∧ mm_env sc D A sa U ∧ (∀ q, U.heap.size ≤ q → A q) ∧ mm_H D A U al sa M ws U.heap
/-- a call of Y with vs over the cells M ends in Q -/
def mm_Ct (l : Launch) (sc : Nat × (Nat → Int32)) (Y : mm_Y) (M : mm_M) (vs : List Value) (Q : mm_O → mm_M → Prop) : Prop :=
  mm_okY Y ∧ mm_cw Y ∈ mm_tbl ∧ ∀ (D : va_G) (A : Nat → Prop) (sa : Nat) (al : List Nat) (ws : va_W) (us : List Value), mm_l al sa vs us →
    vx_Met l (mm_nam Y) (mm_ws Y) (mm_rm Y) (mm_Pc sc D A al sa M ws us) (mm_Qc D A al sa Q) (mm_XC D A al sa Q) (mm_rm Y).cells (mm_rm Y).slots A
def mm_Cx (sc : Nat × (Nat → Int32)) (Y : mm_Y) (D : va_G) (A : Nat → Prop) (sa : Nat) (p : Program) (s : State) (m : MethodId) (args : Array Value) (meth : Method) (c : Code) : Prop :=
  p.tables.exec = Jvm.exec ∧ c.code = mm_cod Y ∧ c.maxLocals = mm_nL Y ∧ meth.sig.returnType = mm_ret Y ∧ meth.locks = false ∧ meth.name = (mm_nam Y).name ∧ s.vm.findClass (mm_nm (mm_cn Y)) = some m.cls ∧ (∀ w ∈ mm_tbl, w.before args s = true) ∧ c.exceptionTable.toList = tableOf (mm_hh Y) ∧ mm_env sc D A sa s ∧ ∀ q, s.heap.size ≤ q → A q
def mm_At (l : Launch) (R : Room) (p : Program) (e : Env) (s : State) (m : MethodId) (args : Array Value) (below : List Frame) (meth : Method) (c : Code) (D : va_G) (A : Nat → Prop) (sa : Nat) (al : List Nat) (k n : Nat) (Z : State → Prop) (nL : Nat) (M : mm_M) (L : mm_L) (S : List Value) (pc : Nat) : Prop :=
  ∀ (ws : va_W) (H : Heap) (locs : List Loc) (ls : Array Slot) (st : List Value), mm_H D A s al sa M ws H → va_S A s.heap H locs → mm_Lr al sa nL L ls → mm_l al sa S st → W p l e R s m args below meth c H locs k n Z (F0 m pc ls st)
section
variable {l : Launch} {sc : Nat × (Nat → Int32)} {Y : mm_Y} {R : Room} {p : Program} {e : Env} {s : State} {m : MethodId} {args : Array Value} {below : List Frame} {meth : Method} {c : Code} {D : va_G} {A : Nat → Prop} {sa : Nat} {al : List Nat} {k n : Nat} {Z : State → Prop} {nL : Nat} {M M' : mm_M} {L L' : mm_L} {S S' : List Value} {pc : Nat}
theorem mx_p {v : Int32} {j : Nat} (hrow : ∀ (H : Heap) (locs : List Loc) (ls : Array Slot) (st : List Value), W p l e R s m args below meth c H locs k n Z (F0 m j ls (.int v :: st)) → W p l e R s m args below meth c H locs k n Z (F0 m pc ls st)) (kk : mm_At l R p e s m args below meth c D A sa al k n Z nL M L (.int v :: S) j) : mm_At l R p e s m args below meth c D A sa al k n Z nL M L S pc :=
  fun ws H locs ls st hH hS hL hl => hrow H locs ls st (kk ws H locs ls _ hH hS hL (hl.pi v))
theorem mx_ldi {i j : Nat} (hrow : ∀ (H : Heap) (locs : List Loc) (ls : Array Slot) (st : List Value) (x : Int32), ls[i]? = some (.val (.int x)) → W p l e R s m args below meth c H locs k n Z (F0 m j ls (.int x :: st)) → W p l e R s m args below meth c H locs k n Z (F0 m pc ls st))
    (hx : mm_s M L (mm_ldi L S i) = some (M', L', S')) (kk : mm_At l R p e s m args below meth c D A sa al k n Z nL M' L' S' j) : mm_At l R p e s m args below meth c D A sa al k n Z nL M L S pc := by
  obtain ⟨rfl, rfl, ho⟩ := mm_s_inv hx
  unfold mm_ldi at ho
  split at ho
  · next x hg =>
    cases ho
    intro ws H locs ls st hH hS hL hl
    obtain ⟨w, h1, h2⟩ := hL.2.2.2 i _ (mm_get_inv hg)
    have h2' : w = .int x := h2
    subst h2'
    exact hrow H locs ls st x h1 (kk ws H locs ls _ hH hS hL (hl.pi x))
  · cases ho
theorem mx_ldl {i j : Nat} (hrow : ∀ (H : Heap) (locs : List Loc) (ls : Array Slot) (st : List Value) (x : Int64), ls[i]? = some (.val (.long x)) → W p l e R s m args below meth c H locs k n Z (F0 m j ls (.long x :: st)) → W p l e R s m args below meth c H locs k n Z (F0 m pc ls st))
    (hx : mm_s M L (mm_ldl L S i) = some (M', L', S')) (kk : mm_At l R p e s m args below meth c D A sa al k n Z nL M' L' S' j) : mm_At l R p e s m args below meth c D A sa al k n Z nL M L S pc := by
  obtain ⟨rfl, rfl, ho⟩ := mm_s_inv hx
  unfold mm_ldl at ho
  split at ho
  · next x hg =>
    cases ho
    intro ws H locs ls st hH hS hL hl
    obtain ⟨w, h1, h2⟩ := hL.2.2.2 i _ (mm_get_inv hg)
    have h2' : w = .long x := h2
    subst h2'
    exact hrow H locs ls st x h1 (kk ws H locs ls _ hH hS hL (hl.pg x))
  · cases ho
theorem mx_lda {i j : Nat} (hrow : ∀ (H : Heap) (locs : List Loc) (ls : Array Slot) (st : List Value) (x : Nat), ls[i]? = some (.val (.ref x)) → W p l e R s m args below meth c H locs k n Z (F0 m j ls (.ref x :: st)) → W p l e R s m args below meth c H locs k n Z (F0 m pc ls st))
    (hx : mm_s M L (mm_lda L S i) = some (M', L', S')) (kk : mm_At l R p e s m args below meth c D A sa al k n Z nL M' L' S' j) : mm_At l R p e s m args below meth c D A sa al k n Z nL M L S pc := by
  obtain ⟨rfl, rfl, ho⟩ := mm_s_inv hx
  unfold mm_lda at ho
  split at ho
  · next v hg =>
    split at ho
    · next hr =>
      cases ho
      intro ws H locs ls st hH hS hL hl
      obtain ⟨w, h1, h2⟩ := hL.2.2.2 i _ (mm_get_inv hg)
      obtain ⟨x, rfl⟩ := h2.isR hr
      exact hrow H locs ls st x h1 (kk ws H locs ls _ hH hS hL (hl.pv h2))
    · cases ho
  · cases ho
theorem mx_sti {i j : Nat} (hrow : ∀ (H : Heap) (locs : List Loc) (ls : Array Slot) (st : List Value) (x : Int32), lv_has ls nL (mm_ls ls) → i < nL → (∀ ls' : Array Slot, lv_has ls' nL ((i, Value.int x) :: (mm_ls ls).filter (fun q => !(q.1 == i) && !(q.1 + 1 == i && q.2.category == 2))) → W p l e R s m args below meth c H locs k n Z (F0 m j ls' st)) → W p l e R s m args below meth c H locs k n Z (F0 m pc ls (.int x :: st)))
    (hx : mm_t M (mm_sti L S i) = some (M', L', S')) (kk : mm_At l R p e s m args below meth c D A sa al k n Z nL M' L' S' j) : mm_At l R p e s m args below meth c D A sa al k n Z nL M L S pc := by
  obtain ⟨rfl, ho⟩ := mm_t_inv hx
  unfold mm_sti at ho
  split at ho
  · next x R9 =>
    split at ho
    · next L9 hs =>
      cases ho
      intro ws H locs ls st hH hS hL hl
      obtain ⟨st', rfl, hl'⟩ := hl.i
      refine hrow H locs ls st' x (mm_ls_has hL.2.1 hL.2.2.1) (by rw [← hL.1]; exact (mm_set_inv hs).1) (fun ls' h' => ?_)
      exact kk ws H locs ls' _ hH hS (hL.set hs rfl h') hl'
    · cases ho
  · cases ho
theorem mx_sta {i j : Nat} (hrow : ∀ (H : Heap) (locs : List Loc) (ls : Array Slot) (st : List Value) (x : Nat), lv_has ls nL (mm_ls ls) → i < nL → (∀ ls' : Array Slot, lv_has ls' nL ((i, Value.ref x) :: (mm_ls ls).filter (fun q => !(q.1 == i) && !(q.1 + 1 == i && q.2.category == 2))) → W p l e R s m args below meth c H locs k n Z (F0 m j ls' st)) → W p l e R s m args below meth c H locs k n Z (F0 m pc ls (.ref x :: st)))
    (hx : mm_t M (mm_sta L S i) = some (M', L', S')) (kk : mm_At l R p e s m args below meth c D A sa al k n Z nL M' L' S' j) : mm_At l R p e s m args below meth c D A sa al k n Z nL M L S pc := by
  obtain ⟨rfl, ho⟩ := mm_t_inv hx
  unfold mm_sta at ho
  split at ho
  · next v R9 =>
    split at ho
    · next hr =>
      split at ho
      · next L9 hs =>
        cases ho
        intro ws H locs ls st hH hS hL hl
        obtain ⟨w, st', rfl, hv, hl'⟩ := hl
        obtain ⟨x, rfl⟩ := hv.isR hr
        refine hrow H locs ls st' x (mm_ls_has hL.2.1 hL.2.2.1) (by rw [← hL.1]; exact (mm_set_inv hs).1) (fun ls' h' => ?_)
        exact kk ws H locs ls' _ hH hS (hL.set hs hv h') hl'
      · cases ho
    · cases ho
  · cases ho
theorem mx_b {f : Int32 → Int32 → Int32} {j : Nat} (hrow : ∀ (H : Heap) (locs : List Loc) (ls : Array Slot) (st : List Value) (x y : Int32), W p l e R s m args below meth c H locs k n Z (F0 m j ls (.int (f x y) :: st)) → W p l e R s m args below meth c H locs k n Z (F0 m pc ls (.int y :: .int x :: st)))
    (hx : mm_s M L (mm_b f S) = some (M', L', S')) (kk : mm_At l R p e s m args below meth c D A sa al k n Z nL M' L' S' j) : mm_At l R p e s m args below meth c D A sa al k n Z nL M L S pc := by
  obtain ⟨rfl, rfl, ho⟩ := mm_s_inv hx
  obtain ⟨x, y, R9, rfl, rfl⟩ := mm_b_inv ho
  intro ws H locs ls st hH hS hL hl
  obtain ⟨st1, rfl, hl1⟩ := hl.i
  obtain ⟨st2, rfl, hl2⟩ := hl1.i
  exact hrow H locs ls st2 x y (kk ws H locs ls _ hH hS hL (hl2.pi _))
theorem mx_bl {f : Int64 → Int64 → Int64} {j : Nat} (hrow : ∀ (H : Heap) (locs : List Loc) (ls : Array Slot) (st : List Value) (x y : Int64), W p l e R s m args below meth c H locs k n Z (F0 m j ls (.long (f x y) :: st)) → W p l e R s m args below meth c H locs k n Z (F0 m pc ls (.long y :: .long x :: st)))
    (hx : mm_s M L (mm_bl f S) = some (M', L', S')) (kk : mm_At l R p e s m args below meth c D A sa al k n Z nL M' L' S' j) : mm_At l R p e s m args below meth c D A sa al k n Z nL M L S pc := by
  obtain ⟨rfl, rfl, ho⟩ := mm_s_inv hx
  obtain ⟨x, y, R9, rfl, rfl⟩ := mm_bl_inv ho
  intro ws H locs ls st hH hS hL hl
  obtain ⟨st1, rfl, hl1⟩ := hl.g
  obtain ⟨st2, rfl, hl2⟩ := hl1.g
  exact hrow H locs ls st2 x y (kk ws H locs ls _ hH hS hL (hl2.pg _))
theorem mx_sh {f : Int64 → Int32 → Int64} {j : Nat} (hrow : ∀ (H : Heap) (locs : List Loc) (ls : Array Slot) (st : List Value) (x : Int64) (y : Int32), W p l e R s m args below meth c H locs k n Z (F0 m j ls (.long (f x y) :: st)) → W p l e R s m args below meth c H locs k n Z (F0 m pc ls (.int y :: .long x :: st)))
    (hx : mm_s M L (mm_sh f S) = some (M', L', S')) (kk : mm_At l R p e s m args below meth c D A sa al k n Z nL M' L' S' j) : mm_At l R p e s m args below meth c D A sa al k n Z nL M L S pc := by
  obtain ⟨rfl, rfl, ho⟩ := mm_s_inv hx
  obtain ⟨x, y, R9, rfl, rfl⟩ := mm_sh_inv ho
  intro ws H locs ls st hH hS hL hl
  obtain ⟨st1, rfl, hl1⟩ := hl.i
  obtain ⟨st2, rfl, hl2⟩ := hl1.g
  exact hrow H locs ls st2 x y (kk ws H locs ls _ hH hS hL (hl2.pg _))
theorem mm_cl_at {ci : Nat} {r : vw_C} (h : mm_cl[ci]? = some r) : mm_cl[ci]? = some (r.1, r.2.1, r.2.2) := h
theorem mx_get {ix j nx : Nat} (hC : mm_Cx sc Y D A sa p s m args meth c) (hfo : mm_fok (mm_cn Y) ix j = true) (hd : decode (mm_cod Y) pc = .ok (.getfield ix, 3)) (hn : nx = pc + 3)
    (hx : mm_s M L (mm_gf M S j) = some (M', L', S')) (kk : mm_At l R p e s m args below meth c D A sa al k n Z nL M' L' S' nx) : mm_At l R p e s m args below meth c D A sa al k n Z nL M L S pc := by
  obtain ⟨rfl, rfl, ho⟩ := mm_s_inv hx
  obtain ⟨a, R9, f, fs, v, rfl, hf1, hM, hv, rfl⟩ := mm_gf_inv ho
  subst hn
  obtain ⟨hex, hcode, -, -, -, -, hown, hts, -, henv, -⟩ := hC
  unfold mm_fok at hfo
  rw [hf1] at hfo
  simp only [Bool.and_eq_true, decide_eq_true_eq] at hfo
  obtain ⟨cn, ix2, ci, kf⟩ := f
  obtain ⟨e1, e2⟩ := hfo
  dsimp only at e1 e2 hM hv
  subst e1 e2
  obtain ⟨C, T, N, hc, hk, hlink⟩ := mm_fu_ok j _ _ ci kf hf1
  obtain ⟨hCn, hT, hnm, hin, -, -⟩ := mm_cl_ok ci C T N hc
  intro ws H locs ls st hH hS hL hl
  obtain ⟨b, st1, rfl, hb, hl1⟩ := hl.r
  obtain ⟨b', e', h1, h2, h3⟩ := hH.1.2.2 a _ hM
  cases Option.some.inj (hb.symm.trans h1)
  obtain ⟨fs', rfl, hfs⟩ := h3
  obtain ⟨w, hw, hvw⟩ := hfs.get hv
  exact va_get (D := D) (ci := ci) (C := C) (T := T) (N := N) (v := w) (ref := C) hex hcode hts hin hown henv.1 hH.2.1 a h2 hc kf hk (hts _ hlink) (fun x9 h9 => by rw [(hT kf hk).1] at h9; exact h9) hw hd (kk ws H locs ls _ hH hS hL (hl1.pv hvw))
theorem mx_put {ix j nx : Nat} (hC : mm_Cx sc Y D A sa p s m args meth c) (hY : mm_nm (mm_cn Y) = (mm_nam Y).cls) (hfo : mm_fok (mm_cn Y) ix j = true) (hpo : mm_pok (decide ((mm_nam Y).name = "<init>")) (mm_cn Y) j = true) (hd : decode (mm_cod Y) pc = .ok (.putfield ix, 3)) (hn : nx = pc + 3)
    (hx : mm_pf M S j = some (M', S')) (kk : mm_At l R p e s m args below meth c D A sa al k n Z nL M' L S' nx) : mm_At l R p e s m args below meth c D A sa al k n Z nL M L S pc := by
  obtain ⟨v, a, f, fs, rfl, hf1, hM, hlt, hfit, rfl⟩ := mm_pf_inv hx
  subst hn
  obtain ⟨hex, hcode, -, -, -, hname, hown, hts, -, henv, -⟩ := hC
  unfold mm_fok at hfo
  unfold mm_pok at hpo
  rw [hf1] at hfo hpo
  simp only [Bool.and_eq_true, decide_eq_true_eq] at hfo
  obtain ⟨cn, ix2, ci, kf⟩ := f
  obtain ⟨e1, e2⟩ := hfo
  dsimp only at e1 e2 hM hlt hfit hpo
  subst e1 e2
  obtain ⟨C, T, N, hc, hk, hlink⟩ := mm_fu_ok j _ _ ci kf hf1
  obtain ⟨hCn, hT, hnm, hin, -, -⟩ := mm_cl_ok ci C T N hc
  intro ws H locs ls st hH hS hL hl
  obtain ⟨w, st0, rfl, hvw, hl0⟩ := hl
  obtain ⟨b, st1, rfl, hb, hl1⟩ := mm_l.r hl0
  obtain ⟨b', e', h1, h2, h3⟩ := hH.1.2.2 a _ hM
  cases Option.some.inj (hb.symm.trans h1)
  obtain ⟨fs', rfl, hfs⟩ := h3
  obtain ⟨hnar, hfw⟩ := mm_fit_ok hfit hvw
  have hlen : kf < fs'.length := by rw [hfs.len]; exact hlt
  have hput : ∀ (H1 : Heap) (locs1 : List Loc), va_P D mm_cl (ws.set a (b, .inr (ci, fs'.set kf w))) H1 → va_D A (ws.set a (b, .inr (ci, fs'.set kf w))) → va_S A s.heap H1 locs1 → W p l e R s m args below meth c H1 locs1 k n Z (F0 m (pc + 3) ls st1) := fun H1 locs1 g1 g2 g3 =>
    kk _ H1 locs1 ls _ ⟨hH.1.set hb ⟨fs'.set kf w, rfl, mm_l.put hvw kf hfs⟩, g1, g2⟩ g3 hL hl1
  have htf : ∀ k9, k9 < N → parseFieldDescriptor (T k9).2.2.1 = some (mm_tf ci k9) := fun k9 h9 => (hT k9 h9).2.2
  by_cases hfin : (T kf).2.2.2 = true
  · have hfin2 : mm_fin ci kf = true := by rw [← (hT kf hk).2.1]; exact hfin
    rw [hfin2] at hpo
    simp only [Bool.not_true, Bool.false_or, Bool.and_eq_true, decide_eq_true_eq] at hpo
    have hdecl : (T kf).1 = mm_nm (mm_cn Y) := by rw [(hT kf hk).1, hCn, hpo.2]
    exact va_putF (D := D) (ci := ci) (C := C) (T := T) (N := N) (v := w) (ref := C) (ty := mm_tf ci kf) hex hcode hts hin (mm_tf ci) htf hnm hown henv.1 hH.2.1 hH.2.2 hS a h2 hc kf hk (hts _ hlink) (fun x9 h9 => by rw [(hT kf hk).1] at h9; exact h9) hfin (hname.trans hpo.1) hdecl (htf kf hk) hnar hfw hlen hd hput
  · have hfin0 : (T kf).2.2.2 = false := by
      cases h9 : (T kf).2.2.2
      · rfl
      · exact absurd h9 hfin
    exact va_put (D := D) (ci := ci) (C := C) (T := T) (N := N) (v := w) (ref := C) (ty := mm_tf ci kf) hex hcode hts hin (mm_tf ci) htf hnm hown henv.1 hH.2.1 hH.2.2 hS a h2 hc kf hk (hts _ hlink) (fun x9 h9 => by rw [(hT kf hk).1] at h9; exact h9) hfin0 (htf kf hk) hnar hfw hlen hd hput
end
end
section
/-! One instruction of a table, whichever it is; a run of them; the judgement of a method. -/
section
variable {l : Launch} {sc : Nat × (Nat → Int32)} {Y : mm_Y} {R : Room} {p : Program} {e : Env} {s : State} {m : MethodId} {args : Array Value} {below : List Frame} {meth : Method} {c : Code} {D : va_G} {A : Nat → Prop} {sa : Nat} {al : List Nat} {k n : Nat} {Z : State → Prop} {M M' : mm_M} {L L' : mm_L} {S S' : List Value} {pc : Nat}
theorem mx_l2i {j : Nat} (hrow : ∀ (H : Heap) (locs : List Loc) (ls : Array Slot) (st : List Value) (x : Int64), W p l e R s m args below meth c H locs k n Z (F0 m j ls (.int x.toInt32 :: st)) → W p l e R s m args below meth c H locs k n Z (F0 m pc ls (.long x :: st)))
    (hx : mm_s M L (mm_l2i S) = some (M', L', S')) (kk : mm_At l R p e s m args below meth c D A sa al k n Z (mm_nL Y) M' L' S' j) : mm_At l R p e s m args below meth c D A sa al k n Z (mm_nL Y) M L S pc := by
  obtain ⟨rfl, rfl, ho⟩ := mm_s_inv hx
  unfold mm_l2i at ho
  split at ho
  · next x R9 =>
    cases ho
    intro ws H locs ls st hH hS hL hl
    obtain ⟨st1, rfl, hl1⟩ := hl.g
    exact hrow H locs ls st1 x (kk ws H locs ls _ hH hS hL (hl1.pi _))
  · cases ho
theorem mx_i2l {j : Nat} (hrow : ∀ (H : Heap) (locs : List Loc) (ls : Array Slot) (st : List Value) (x : Int32), W p l e R s m args below meth c H locs k n Z (F0 m j ls (.long x.toInt64 :: st)) → W p l e R s m args below meth c H locs k n Z (F0 m pc ls (.int x :: st)))
    (hx : mm_s M L (mm_i2l S) = some (M', L', S')) (kk : mm_At l R p e s m args below meth c D A sa al k n Z (mm_nL Y) M' L' S' j) : mm_At l R p e s m args below meth c D A sa al k n Z (mm_nL Y) M L S pc := by
  obtain ⟨rfl, rfl, ho⟩ := mm_s_inv hx
  unfold mm_i2l at ho
  split at ho
  · next x R9 =>
    cases ho
    intro ws H locs ls st hH hS hL hl
    obtain ⟨st1, rfl, hl1⟩ := hl.i
    exact hrow H locs ls st1 x (kk ws H locs ls _ hH hS hL (hl1.pg _))
  · cases ho
theorem mx_lc {j : Nat} (hrow : ∀ (H : Heap) (locs : List Loc) (ls : Array Slot) (st : List Value) (x y : Int64), W p l e R s m args below meth c H locs k n Z (F0 m j ls (.int (lg_cmp x y) :: st)) → W p l e R s m args below meth c H locs k n Z (F0 m pc ls (.long y :: .long x :: st)))
    (hx : mm_s M L (mm_lc S) = some (M', L', S')) (kk : mm_At l R p e s m args below meth c D A sa al k n Z (mm_nL Y) M' L' S' j) : mm_At l R p e s m args below meth c D A sa al k n Z (mm_nL Y) M L S pc := by
  obtain ⟨rfl, rfl, ho⟩ := mm_s_inv hx
  unfold mm_lc at ho
  split at ho
  · next y x R9 =>
    cases ho
    intro ws H locs ls st hH hS hL hl
    obtain ⟨st1, rfl, hl1⟩ := hl.g
    obtain ⟨st2, rfl, hl2⟩ := hl1.g
    exact hrow H locs ls st2 x y (kk ws H locs ls _ hH hS hL (hl2.pi _))
  · cases ho
theorem mx_dup {j : Nat} (hrow : ∀ (H : Heap) (locs : List Loc) (ls : Array Slot) (st : List Value) (w : Value), w.category = 1 → W p l e R s m args below meth c H locs k n Z (F0 m j ls (w :: w :: st)) → W p l e R s m args below meth c H locs k n Z (F0 m pc ls (w :: st)))
    (hx : mm_s M L (mm_dup S) = some (M', L', S')) (kk : mm_At l R p e s m args below meth c D A sa al k n Z (mm_nL Y) M' L' S' j) : mm_At l R p e s m args below meth c D A sa al k n Z (mm_nL Y) M L S pc := by
  obtain ⟨rfl, rfl, ho⟩ := mm_s_inv hx
  unfold mm_dup at ho
  split at ho
  · next v R9 =>
    split at ho
    · next hc =>
      cases ho
      intro ws H locs ls st hH hS hL hl
      obtain ⟨w, st', rfl, hv, hl'⟩ := hl
      exact hrow H locs ls st' w (hv.cat.trans hc) (kk ws H locs ls _ hH hS hL (mm_l.pv hv (mm_l.pv hv hl')))
    · cases ho
  · cases ho
theorem mx_pop {j : Nat} (hrow : ∀ (H : Heap) (locs : List Loc) (ls : Array Slot) (st : List Value) (w : Value), w.category = 1 → W p l e R s m args below meth c H locs k n Z (F0 m j ls st) → W p l e R s m args below meth c H locs k n Z (F0 m pc ls (w :: st)))
    (hx : mm_s M L (mm_pop S) = some (M', L', S')) (kk : mm_At l R p e s m args below meth c D A sa al k n Z (mm_nL Y) M' L' S' j) : mm_At l R p e s m args below meth c D A sa al k n Z (mm_nL Y) M L S pc := by
  obtain ⟨rfl, rfl, ho⟩ := mm_s_inv hx
  unfold mm_pop at ho
  split at ho
  · next v R9 =>
    split at ho
    · next hc =>
      cases ho
      intro ws H locs ls st hH hS hL hl
      obtain ⟨w, st', rfl, hv, hl'⟩ := hl
      exact hrow H locs ls st' w (hv.cat.trans hc) (kk ws H locs ls _ hH hS hL hl')
    · cases ho
  · cases ho
theorem mx_dup2 {j : Nat} (hrow : ∀ (H : Heap) (locs : List Loc) (ls : Array Slot) (st : List Value) (w u : Value), w.category = 1 → u.category = 1 → W p l e R s m args below meth c H locs k n Z (F0 m j ls (w :: u :: w :: u :: st)) → W p l e R s m args below meth c H locs k n Z (F0 m pc ls (w :: u :: st)))
    (hx : mm_s M L (mm_dup2 S) = some (M', L', S')) (kk : mm_At l R p e s m args below meth c D A sa al k n Z (mm_nL Y) M' L' S' j) : mm_At l R p e s m args below meth c D A sa al k n Z (mm_nL Y) M L S pc := by
  obtain ⟨rfl, rfl, ho⟩ := mm_s_inv hx
  unfold mm_dup2 at ho
  split at ho
  · next v u R9 =>
    split at ho
    · next hc =>
      split at ho
      · next hc2 =>
        cases ho
        intro ws H locs ls st hH hS hL hl
        obtain ⟨w, st', rfl, hv, hl'⟩ := hl
        obtain ⟨w2, st2, rfl, hv2, hl2⟩ := hl'
        exact hrow H locs ls st2 w w2 (hv.cat.trans hc) (hv2.cat.trans hc2) (kk ws H locs ls _ hH hS hL (mm_l.pv hv (mm_l.pv hv2 (mm_l.pv hv (mm_l.pv hv2 hl2)))))
      · cases ho
    · cases ho
  · cases ho
theorem mx_inc {i j : Nat} {z : Int32} {nL : Nat} (hrow : ∀ (H : Heap) (locs : List Loc) (ls : Array Slot) (st : List Value) (x : Int32) (q : Nat), lv_has ls nL (mm_ls ls) → (mm_ls ls)[q]? = some (i, .int x) → i < nL → (∀ ls' : Array Slot, lv_has ls' nL ((i, Value.int (x + z)) :: (mm_ls ls).filter (fun q => !(q.1 == i) && !(q.1 + 1 == i && q.2.category == 2))) → W p l e R s m args below meth c H locs k n Z (F0 m j ls' st)) → W p l e R s m args below meth c H locs k n Z (F0 m pc ls st))
    (hx : mm_inc L i z = some L') (kk : mm_At l R p e s m args below meth c D A sa al k n Z nL M L' S j) : mm_At l R p e s m args below meth c D A sa al k n Z nL M L S pc := by
  unfold mm_inc at hx
  split at hx
  · next x hg =>
    intro ws H locs ls st hH hS hL hl
    obtain ⟨w, h1, h2⟩ := hL.2.2.2 i _ (mm_get_inv hg)
    have h2' : w = .int x := h2
    subst h2'
    obtain ⟨q, hq⟩ := List.getElem?_of_mem (mm_ls_mem h1)
    refine hrow H locs ls st x q (mm_ls_has hL.2.1 hL.2.2.1) hq (by rw [← hL.1]; exact (mm_set_inv hx).1) (fun ls' h' => ?_)
    exact kk ws H locs ls' _ hH hS (hL.set hx rfl h') hl
  · cases hx
set_option maxHeartbeats 4000000 in
theorem mx_all {q : mm_In} (hC : mm_Cx sc Y D A sa p s m args meth c) (hY : mm_okY Y) (hq : (pc, q) ∈ mm_tab Y) (hx : mm_x q M L S = some (M', L', S')) (kk : mm_At l R p e s m args below meth c D A sa al k n Z (mm_nL Y) M' L' S' q.2.1) : mm_At l R p e s m args below meth c D A sa al k n Z (mm_nL Y) M L S pc := by
  have hd := hY.1 _ hq
  have ho := hY.2.1 _ hq
  have hex := hC.1
  have hb := hC.2.1
  obtain ⟨i, nx, aux, v⟩ := q
  dsimp only at hd ho kk
  cases i
  case iconst i =>
    simp only [mm_ok, Bool.and_eq_true, decide_eq_true_eq] at ho
    obtain ⟨h1, h2⟩ := ho
    simp only [mm_x, Option.some.injEq, Prod.mk.injEq] at hx
    obtain ⟨rfl, rfl, rfl⟩ := hx
    subst h2
    exact mx_p (fun H locs ls st kk => lv_iconst hex hb hd h1 kk) kk
  case bipush i =>
    simp only [mm_ok, Bool.and_eq_true, decide_eq_true_eq] at ho
    obtain ⟨h1, h2⟩ := ho
    simp only [mm_x, Option.some.injEq, Prod.mk.injEq] at hx
    obtain ⟨rfl, rfl, rfl⟩ := hx
    subst h2
    exact mx_p (fun H locs ls st kk => lv_bipush hex hb hd h1 kk) kk
  case sipush i =>
    simp only [mm_ok, Bool.and_eq_true, decide_eq_true_eq] at ho
    obtain ⟨h1, h2⟩ := ho
    simp only [mm_x, Option.some.injEq, Prod.mk.injEq] at hx
    obtain ⟨rfl, rfl, rfl⟩ := hx
    subst h2
    exact mx_p (fun H locs ls st kk => lv_sipush hex hb hd h1 kk) kk
  case lconst i =>
    simp only [mm_ok, decide_eq_true_eq] at ho
    simp only [mm_x, Option.some.injEq, Prod.mk.injEq] at hx
    obtain ⟨rfl, rfl, rfl⟩ := hx
    subst ho
    exact fun ws H locs ls st hH hS hL hl => lv_lconst hex hb hd rfl (kk ws H locs ls _ hH hS hL (hl.pg _))
  case iload_n i =>
    simp only [mm_ok, decide_eq_true_eq] at ho
    subst ho
    exact mx_ldi (fun H locs ls st x h kk => lv_iload_n hex hb hd rfl h kk) hx kk
  case iload i =>
    simp only [mm_ok, decide_eq_true_eq] at ho
    subst ho
    exact mx_ldi (fun H locs ls st x h kk => lv_iload hex hb hd h kk) hx kk
  case lload_n i =>
    simp only [mm_ok, decide_eq_true_eq] at ho
    subst ho
    exact mx_ldl (fun H locs ls st x h kk => lv_lload_n hex hb hd rfl h kk) hx kk
  case aload_n i =>
    simp only [mm_ok, decide_eq_true_eq] at ho
    subst ho
    exact mx_lda (fun H locs ls st x h kk => lv_aload_n hex hb hd rfl h kk) hx kk
  case aload i =>
    simp only [mm_ok, decide_eq_true_eq] at ho
    subst ho
    exact mx_lda (fun H locs ls st x h kk => lv_aload hex hb hd h kk) hx kk
  case istore_n i =>
    simp only [mm_ok, decide_eq_true_eq] at ho
    subst ho
    exact mx_sti (fun H locs ls st x h1 h2 kk => lv_istore_n hex hb hd rfl h1 h2 rfl kk) hx kk
  case istore i =>
    simp only [mm_ok, decide_eq_true_eq] at ho
    subst ho
    exact mx_sti (fun H locs ls st x h1 h2 kk => lv_istore hex hb hd h1 h2 rfl kk) hx kk
  case astore_n i =>
    simp only [mm_ok, decide_eq_true_eq] at ho
    subst ho
    exact mx_sta (fun H locs ls st x h1 h2 kk => lv_astore_n hex hb hd rfl h1 h2 rfl kk) hx kk
  case astore i =>
    simp only [mm_ok, decide_eq_true_eq] at ho
    subst ho
    exact mx_sta (fun H locs ls st x h1 h2 kk => lv_astore hex hb hd h1 h2 rfl kk) hx kk
  case iinc i z =>
    simp only [mm_ok, Bool.and_eq_true, decide_eq_true_eq] at ho
    obtain ⟨h1, h2⟩ := ho
    subst h2
    simp only [mm_x] at hx
    split at hx
    · next L9 h9 =>
      cases hx
      exact mx_inc (fun H locs ls st x q g1 g2 g3 kk => lv_iinc hex hb hd g1 g2 (by rw [h1]) g3 rfl kk) h9 kk
    · cases hx
  case iadd =>
    simp only [mm_ok, decide_eq_true_eq] at ho
    subst ho
    exact mx_b (fun H locs ls st x y kk => lv_iadd hex hb hd kk) hx kk
  case isub =>
    simp only [mm_ok, decide_eq_true_eq] at ho
    subst ho
    exact mx_b (fun H locs ls st x y kk => lv_isub hex hb hd kk) hx kk
  case imul =>
    simp only [mm_ok, decide_eq_true_eq] at ho
    subst ho
    exact mx_b (fun H locs ls st x y kk => lv_imul hex hb hd kk) hx kk
  case iand =>
    simp only [mm_ok, decide_eq_true_eq] at ho
    subst ho
    exact mx_b (fun H locs ls st x y kk => lv_iand hex hb hd kk) hx kk
  case land =>
    simp only [mm_ok, decide_eq_true_eq] at ho
    subst ho
    exact mx_bl (fun H locs ls st x y kk => lv_land hex hb hd kk) hx kk
  case lor =>
    simp only [mm_ok, decide_eq_true_eq] at ho
    subst ho
    exact mx_bl (fun H locs ls st x y kk => lv_lor hex hb hd kk) hx kk
  case lshl =>
    simp only [mm_ok, decide_eq_true_eq] at ho
    subst ho
    exact mx_sh (fun H locs ls st x y kk => lv_lshl hex hb hd rfl kk) hx kk
  case lshr =>
    simp only [mm_ok, decide_eq_true_eq] at ho
    subst ho
    exact mx_sh (fun H locs ls st x y kk => lv_lshr hex hb hd rfl kk) hx kk
  case lushr =>
    simp only [mm_ok, decide_eq_true_eq] at ho
    subst ho
    exact mx_sh (fun H locs ls st x y kk => lv_lushr hex hb hd rfl kk) hx kk
  case l2i =>
    simp only [mm_ok, decide_eq_true_eq] at ho
    subst ho
    exact mx_l2i (fun H locs ls st x kk => lv_l2i hex hb hd rfl kk) hx kk
  case i2l =>
    simp only [mm_ok, decide_eq_true_eq] at ho
    subst ho
    exact mx_i2l (fun H locs ls st x kk => lv_i2l hex hb hd rfl kk) hx kk
  case lcmp =>
    simp only [mm_ok, decide_eq_true_eq] at ho
    subst ho
    exact mx_lc (fun H locs ls st x y kk => W.lcmp hex hb hd kk) hx kk
  case dup =>
    simp only [mm_ok, decide_eq_true_eq] at ho
    subst ho
    exact mx_dup (fun H locs ls st w h kk => lv_dup hex hb hd h kk) hx kk
  case dup2 =>
    simp only [mm_ok, decide_eq_true_eq] at ho
    subst ho
    exact mx_dup2 (fun H locs ls st w u h1 h2 kk => lv_dup2_11 hex hb hd h1 h2 kk) hx kk
  case pop =>
    simp only [mm_ok, decide_eq_true_eq] at ho
    subst ho
    exact mx_pop (fun H locs ls st w h kk => lv_pop hex hb hd h kk) hx kk
  case goto off =>
    simp only [mm_ok, decide_eq_true_eq] at ho
    simp only [mm_x, Option.some.injEq, Prod.mk.injEq] at hx
    obtain ⟨rfl, rfl, rfl⟩ := hx
    exact fun ws H locs ls st hH hS hL hl => lv_goto hex hb hd ho (kk ws H locs ls st hH hS hL hl)
  case getfield ix =>
    simp only [mm_ok, Bool.and_eq_true, decide_eq_true_eq] at ho
    exact mx_get hC ho.1 hd ho.2 hx kk
  case putfield ix =>
    simp only [mm_ok, Bool.and_eq_true, decide_eq_true_eq] at ho
    simp only [mm_x] at hx
    split at hx
    · next M9 S9 h9 =>
      cases hx
      exact mx_put hC hY.2.2.1 ho.1.1 ho.1.2 hd ho.2 h9 kk
    · cases hx
  all_goals (simp only [mm_x] at hx; cases hx)
theorem mx_run (hC : mm_Cx sc Y D A sa p s m args meth c) (hY : mm_okY Y) : ∀ (i : Nat) {pc pc' : Nat} {M M' : mm_M} {L L' : mm_L} {S S' : List Value}, mm_run i (mm_tab Y) pc M L S = some (pc', M', L', S') → mm_At l R p e s m args below meth c D A sa al k n Z (mm_nL Y) M' L' S' pc' → mm_At l R p e s m args below meth c D A sa al k n Z (mm_nL Y) M L S pc := by
  intro i
  induction i with
  | zero => intro pc pc' M M' L L' S S' h kk; cases h; exact kk
  | succ i ih =>
    intro pc pc' M M' L L' S S' h kk
    unfold mm_run at h
    split at h
    · cases h
    · next q hq =>
      split at h
      · cases h
      · next M9 L9 S9 hx => exact mx_all hC hY (mm_at_mem hq) hx (ih h kk)
end
/-- from pc on, with M, L, S and k cells of n slots made: the method ends in Q -/
def mm_Go (l : Launch) (sc : Nat × (Nat → Int32)) (Y : mm_Y) (k n : Nat) (M : mm_M) (L : mm_L) (S : List Value) (pc : Nat) (Q : mm_O → mm_M → Prop) : Prop :=
  mm_okY Y → ∀ (p : Program) (e : Env) (s : State) (m : MethodId) (args : Array Value) (below : List Frame) (meth : Method) (c : Code) (D : va_G) (A : Nat → Prop) (sa : Nat) (al0 al : List Nat), mm_Cx sc Y D A sa p s m args meth c → mm_e al0 al →
    mm_At l (mm_rm Y) p e s m args below meth c D A sa al k n (vx_MQ below (mm_Qc D A al0 sa Q) (mm_XC D A al0 sa Q) args s (mm_rm Y).cells (mm_rm Y).slots A) (mm_nL Y) M L S pc
section
variable {l : Launch} {sc : Nat × (Nat → Int32)} {Y : mm_Y} {k n : Nat} {M M' : mm_M} {L L' : mm_L} {S S' : List Value} {pc pc' : Nat} {Q : mm_O → mm_M → Prop}
theorem mg_run (i : Nat) (h : mm_run i (mm_tab Y) pc M L S = some (pc', M', L', S')) (kk : mm_Go l sc Y k n M' L' S' pc' Q) : mm_Go l sc Y k n M L S pc Q :=
  fun hY p e s m args below meth c D A sa al0 al hC he => mx_run hC hY i h (kk hY p e s m args below meth c D A sa al0 al hC he)
/-! branches -/
def mm_cc (o : Jvm.ClassFile.Cond) (x y : Int32) : Prop := match o with
  | .eq => x = y
  | .ne => ¬ x = y
  | .lt => x < y
  | .ge => y ≤ x
  | .gt => y < x
  | .le => x ≤ y
theorem mg_icmp {o : Jvm.ClassFile.Cond} {off : Int} {nx tg : Nat} {v x y : Int32} (hq : mm_at (mm_tab Y) pc = some (.if_icmp o off, nx, tg, v)) (kt : mm_cc o x y → mm_Go l sc Y k n M L S tg Q) (kf : ¬ mm_cc o x y → mm_Go l sc Y k n M L S nx Q) : mm_Go l sc Y k n M L (.int y :: .int x :: S) pc Q := by
  intro hY p e s m args below meth c D A sa al0 al hC he ws H locs ls st hH hS hL hl
  have hm := mm_at_mem hq
  have hd := hY.1 _ hm
  have ho := hY.2.1 _ hm
  have hex := hC.1
  have hb := hC.2.1
  simp only [mm_ok, Bool.and_eq_true, decide_eq_true_eq] at ho
  obtain ⟨h1, h2⟩ := ho
  subst h2
  obtain ⟨st1, rfl, hl1⟩ := hl.i
  obtain ⟨st2, rfl, hl2⟩ := hl1.i
  have kt' : mm_cc o x y → W p l e (mm_rm Y) s m args below meth c H locs k n (vx_MQ below (mm_Qc D A al0 sa Q) (mm_XC D A al0 sa Q) args s (mm_rm Y).cells (mm_rm Y).slots A) (F0 m tg ls st2) := fun h => kt h hY p e s m args below meth c D A sa al0 al hC he ws H locs ls st2 hH hS hL hl2
  have kf' : ¬ mm_cc o x y → W p l e (mm_rm Y) s m args below meth c H locs k n (vx_MQ below (mm_Qc D A al0 sa Q) (mm_XC D A al0 sa Q) args s (mm_rm Y).cells (mm_rm Y).slots A) (F0 m (pc + 3) ls st2) := fun h => kf h hY p e s m args below meth c D A sa al0 al hC he ws H locs ls st2 hH hS hL hl2
  cases o
  · exact lv_icmp_eq hex hb hd h1 kt' kf'
  · exact lv_icmp_ne hex hb hd h1 kt' (fun h => kf' (fun h9 => h9 h))
  · exact lv_icmp_lt hex hb hd h1 kt' kf'
  · exact lv_icmp_ge hex hb hd h1 kt' kf'
  · exact lv_icmp_gt hex hb hd h1 kt' kf'
  · exact lv_icmp_le hex hb hd h1 kt' kf'
theorem mg_if {o : Jvm.ClassFile.Cond} {off : Int} {nx tg : Nat} {v x : Int32} (hq : mm_at (mm_tab Y) pc = some (.ifCond o off, nx, tg, v)) (kt : mm_cc o x 0 → mm_Go l sc Y k n M L S tg Q) (kf : ¬ mm_cc o x 0 → mm_Go l sc Y k n M L S nx Q) : mm_Go l sc Y k n M L (.int x :: S) pc Q := by
  intro hY p e s m args below meth c D A sa al0 al hC he ws H locs ls st hH hS hL hl
  have hm := mm_at_mem hq
  have hd := hY.1 _ hm
  have ho := hY.2.1 _ hm
  have hex := hC.1
  have hb := hC.2.1
  simp only [mm_ok, Bool.and_eq_true, decide_eq_true_eq] at ho
  obtain ⟨h1, h2⟩ := ho
  subst h2
  obtain ⟨st2, rfl, hl2⟩ := hl.i
  have kt' : mm_cc o x 0 → W p l e (mm_rm Y) s m args below meth c H locs k n (vx_MQ below (mm_Qc D A al0 sa Q) (mm_XC D A al0 sa Q) args s (mm_rm Y).cells (mm_rm Y).slots A) (F0 m tg ls st2) := fun h => kt h hY p e s m args below meth c D A sa al0 al hC he ws H locs ls st2 hH hS hL hl2
  have kf' : ¬ mm_cc o x 0 → W p l e (mm_rm Y) s m args below meth c H locs k n (vx_MQ below (mm_Qc D A al0 sa Q) (mm_XC D A al0 sa Q) args s (mm_rm Y).cells (mm_rm Y).slots A) (F0 m (pc + 3) ls st2) := fun h => kf h hY p e s m args below meth c D A sa al0 al hC he ws H locs ls st2 hH hS hL hl2
  cases o
  · exact lv_if_eq hex hb hd h1 kt' kf'
  · exact lv_if_ne hex hb hd h1 kt' (fun h => kf' (fun h9 => h9 h))
  · exact lv_if_lt hex hb hd h1 kt' kf'
  · exact lv_if_ge hex hb hd h1 kt' kf'
  · exact lv_if_gt hex hb hd h1 kt' kf'
  · exact lv_if_le hex hb hd h1 kt' kf'
end
end
section
/-! Rules of the judgement: arrays, references, ends, contracts, calls. -/
theorem mm_K1 {D : va_G} {U : State} {c : ClassId} {ty : FieldType} (h : va_K D mm_cl [] U) (h1 : ArrOfT U c ty) (h2 : va_RA U c ty) : va_K D mm_cl [(c, ty)] U := by
  refine ⟨h.1, fun k q hk => ?_⟩
  cases k with
  | zero => cases hk; exact ⟨h1, h2⟩
  | succ k => cases hk
section
variable {l : Launch} {sc : Nat × (Nat → Int32)} {Y : mm_Y} {k n : Nat} {M M' : mm_M} {L L' : mm_L} {S S' : List Value} {pc pc' : Nat} {Q : mm_O → mm_M → Prop}
theorem mg_iald {nx aux N a : Nat} {v x : Int32} {f : Nat → Int32} (hq : mm_at (mm_tab Y) pc = some (.iaload, nx, aux, v)) (hM : M[a]? = some (.inl (0, N, .inl f))) (hx : vp_in x N) (kk : mm_Go l sc Y k n M L (.int (f x.toNatClampNeg) :: S) nx Q) : mm_Go l sc Y k n M L (.int x :: .ref a :: S) pc Q := by
  intro hY p e s m args below meth c D A sa al0 al hC he ws H locs ls st hH hS hL hl
  have hm := mm_at_mem hq
  have hd := hY.1 _ hm
  have ho := hY.2.1 _ hm
  simp only [mm_ok, decide_eq_true_eq] at ho
  subst ho
  have henv := hC.2.2.2.2.2.2.2.2.2.1
  obtain ⟨st1, rfl, hl1⟩ := hl.i
  obtain ⟨b, st2, rfl, hb, hl2⟩ := hl1.r
  obtain ⟨b', e', h1, h2, h3⟩ := hH.1.2.2 a _ hM
  cases Option.some.inj (hb.symm.trans h1)
  obtain ⟨cA, y, rfl, hy, g1, g2⟩ := h3
  have hy' : y = .inl f := hy
  subst hy'
  exact va_iald hC.1 hC.2.1 (mm_K1 henv.1 g1 g2) hH.2.1 a 0 h2 rfl hx hd (kk hY p e s m args below meth c D A sa al0 al hC he ws H locs ls _ hH hS hL (hl2.pi _))
theorem mg_iast {nx aux N a : Nat} {v x z : Int32} {f : Nat → Int32} (hq : mm_at (mm_tab Y) pc = some (.iastore, nx, aux, v)) (hM : M[a]? = some (.inl (0, N, .inl f))) (hx : vp_in x N) (kk : mm_Go l sc Y k n (M.set a (.inl (0, N, .inl (upd f x.toNatClampNeg z)))) L S nx Q) : mm_Go l sc Y k n M L (.int z :: .int x :: .ref a :: S) pc Q := by
  intro hY p e s m args below meth c D A sa al0 al hC he ws H locs ls st hH hS hL hl
  have hm := mm_at_mem hq
  have hd := hY.1 _ hm
  have ho := hY.2.1 _ hm
  simp only [mm_ok, decide_eq_true_eq] at ho
  subst ho
  have henv := hC.2.2.2.2.2.2.2.2.2.1
  obtain ⟨st0, rfl, hl0⟩ := hl.i
  obtain ⟨st1, rfl, hl1⟩ := hl0.i
  obtain ⟨b, st2, rfl, hb, hl2⟩ := hl1.r
  obtain ⟨b', e', h1, h2, h3⟩ := hH.1.2.2 a _ hM
  cases Option.some.inj (hb.symm.trans h1)
  obtain ⟨cA, y, rfl, hy, g1, g2⟩ := h3
  have hy' : y = .inl f := hy
  subst hy'
  exact va_iast hC.1 hC.2.1 (mm_K1 henv.1 g1 g2) hH.2.1 hH.2.2 hS a 0 h2 rfl hx hd (fun H1 locs1 q1 q2 q3 => kk hY p e s m args below meth c D A sa al0 al hC he _ H1 locs1 ls _ ⟨hH.1.set hb ⟨cA, _, rfl, rfl, g1, g2⟩, q1, q2⟩ q3 hL hl2)
theorem mg_lald {nx aux N a : Nat} {v x : Int32} {f : Nat → Int64} (hq : mm_at (mm_tab Y) pc = some (.laload, nx, aux, v)) (hM : M[a]? = some (.inl (1, N, .inr (.inl f)))) (hx : vp_in x N) (kk : mm_Go l sc Y k n M L (.long (f x.toNatClampNeg) :: S) nx Q) : mm_Go l sc Y k n M L (.int x :: .ref a :: S) pc Q := by
  intro hY p e s m args below meth c D A sa al0 al hC he ws H locs ls st hH hS hL hl
  have hm := mm_at_mem hq
  have hd := hY.1 _ hm
  have ho := hY.2.1 _ hm
  simp only [mm_ok, decide_eq_true_eq] at ho
  subst ho
  have henv := hC.2.2.2.2.2.2.2.2.2.1
  obtain ⟨st1, rfl, hl1⟩ := hl.i
  obtain ⟨b, st2, rfl, hb, hl2⟩ := hl1.r
  obtain ⟨b', e', h1, h2, h3⟩ := hH.1.2.2 a _ hM
  cases Option.some.inj (hb.symm.trans h1)
  obtain ⟨cA, y, rfl, hy, g1, g2⟩ := h3
  have hy' : y = .inr (.inl f) := hy
  subst hy'
  exact va_lald hC.1 hC.2.1 (mm_K1 henv.1 g1 g2) hH.2.1 a 0 h2 rfl hx hd (kk hY p e s m args below meth c D A sa al0 al hC he ws H locs ls _ hH hS hL (hl2.pg _))
theorem mg_last {nx aux N a : Nat} {v x : Int32} {z : Int64} {f : Nat → Int64} (hq : mm_at (mm_tab Y) pc = some (.lastore, nx, aux, v)) (hM : M[a]? = some (.inl (1, N, .inr (.inl f)))) (hx : vp_in x N) (kk : mm_Go l sc Y k n (M.set a (.inl (1, N, .inr (.inl (vp_updL f x.toNatClampNeg z))))) L S nx Q) : mm_Go l sc Y k n M L (.long z :: .int x :: .ref a :: S) pc Q := by
  intro hY p e s m args below meth c D A sa al0 al hC he ws H locs ls st hH hS hL hl
  have hm := mm_at_mem hq
  have hd := hY.1 _ hm
  have ho := hY.2.1 _ hm
  simp only [mm_ok, decide_eq_true_eq] at ho
  subst ho
  have henv := hC.2.2.2.2.2.2.2.2.2.1
  obtain ⟨st0, rfl, hl0⟩ := hl.g
  obtain ⟨st1, rfl, hl1⟩ := hl0.i
  obtain ⟨b, st2, rfl, hb, hl2⟩ := hl1.r
  obtain ⟨b', e', h1, h2, h3⟩ := hH.1.2.2 a _ hM
  cases Option.some.inj (hb.symm.trans h1)
  obtain ⟨cA, y, rfl, hy, g1, g2⟩ := h3
  have hy' : y = .inr (.inl f) := hy
  subst hy'
  exact va_last hC.1 hC.2.1 (mm_K1 henv.1 g1 g2) hH.2.1 hH.2.2 hS a 0 h2 rfl hx hd (fun H1 locs1 q1 q2 q3 => kk hY p e s m args below meth c D A sa al0 al hC he _ H1 locs1 ls _ ⟨hH.1.set hb ⟨cA, _, rfl, rfl, g1, g2⟩, q1, q2⟩ q3 hL hl2)
theorem mg_aald {nx aux N a i : Nat} {v x : Int32} {f : Nat → Option Nat} (hq : mm_at (mm_tab Y) pc = some (.aaload, nx, aux, v)) (hM : M[a]? = some (.inl (2, N, .inr (.inr (.inr (.inr f)))))) (hx : vp_in x N) (hf : f x.toNatClampNeg = some i) (kk : mm_Go l sc Y k n M L (.ref i :: S) nx Q) : mm_Go l sc Y k n M L (.int x :: .ref a :: S) pc Q := by
  intro hY p e s m args below meth c D A sa al0 al hC he ws H locs ls st hH hS hL hl
  have hm := mm_at_mem hq
  have hd := hY.1 _ hm
  have ho := hY.2.1 _ hm
  simp only [mm_ok, decide_eq_true_eq] at ho
  subst ho
  have henv := hC.2.2.2.2.2.2.2.2.2.1
  obtain ⟨st1, rfl, hl1⟩ := hl.i
  obtain ⟨b, st2, rfl, hb, hl2⟩ := hl1.r
  obtain ⟨b', e', h1, h2, h3⟩ := hH.1.2.2 a _ hM
  cases Option.some.inj (hb.symm.trans h1)
  obtain ⟨cA, y, rfl, hy, g1, g2⟩ := h3
  obtain ⟨g, rfl, hg⟩ := hy
  obtain ⟨z, hz1, hz2⟩ := (hg x.toNatClampNeg).2 i hf
  refine va_aldq (C := "LambdaBench$Term") hC.1 hC.2.1 (mm_K1 henv.1 g1 g2) hH.2.1 a 0 h2 rfl hx hd ?_
  rw [hz2]
  exact kk hY p e s m args below meth c D A sa al0 al hC he ws H locs ls _ hH hS hL (mm_l.pv ⟨z, hz1, rfl⟩ hl2)
theorem mg_aast {nx aux N a i : Nat} {v x : Int32} {f : Nat → Option Nat} {fs : List Value} (hq : mm_at (mm_tab Y) pc = some (.aastore, nx, aux, v)) (hM : M[a]? = some (.inl (2, N, .inr (.inr (.inr (.inr f)))))) (hi : M[i]? = some (.inr (mm_cT, fs))) (hx : vp_in x N) (kk : mm_Go l sc Y k n (M.set a (.inl (2, N, .inr (.inr (.inr (.inr (va_up f x.toNatClampNeg (some i)))))))) L S nx Q) : mm_Go l sc Y k n M L (.ref i :: .int x :: .ref a :: S) pc Q := by
  intro hY p e s m args below meth c D A sa al0 al hC he ws H locs ls st hH hS hL hl
  have hm := mm_at_mem hq
  have hd := hY.1 _ hm
  have ho := hY.2.1 _ hm
  simp only [mm_ok, decide_eq_true_eq] at ho
  subst ho
  have henv := hC.2.2.2.2.2.2.2.2.2.1
  obtain ⟨w, st0, rfl, hw, hl0⟩ := mm_l.r hl
  obtain ⟨st1, rfl, hl1⟩ := hl0.i
  obtain ⟨b, st2, rfl, hb, hl2⟩ := hl1.r
  obtain ⟨b', e', h1, h2, h3⟩ := hH.1.2.2 a _ hM
  cases Option.some.inj (hb.symm.trans h1)
  obtain ⟨cA, y, rfl, hy, g1, g2⟩ := h3
  obtain ⟨g, rfl, hg⟩ := hy
  obtain ⟨w', e2, j1, j2, j3⟩ := hH.1.2.2 i _ hi
  cases Option.some.inj (hw.symm.trans j1)
  obtain ⟨fs', rfl, hfs⟩ := j3
  refine va_astq (r := mm_clT) hC.1 hC.2.1 (mm_K1 henv.1 g1 g2) hH.2.1 hH.2.2 hS a 0 i mm_cT h2 rfl j2 mm_clT_at hx hd (fun H1 locs1 q1 q2 q3 => ?_)
  refine kk hY p e s m args below meth c D A sa al0 al hC he _ H1 locs1 ls _ ⟨hH.1.set hb ⟨cA, _, rfl, ⟨_, rfl, fun j => ?_⟩, g1, g2⟩, q1, q2⟩ q3 hL hl2
  by_cases hj : j = x.toNatClampNeg
  · subst hj
    simp only [va_up, if_true]
    exact ⟨fun h => (by cases h), fun i9 h9 => (by cases h9; exact ⟨w, hw, rfl⟩)⟩
  · simp only [va_up, if_neg hj]
    exact hg j
theorem mg_sld {nx aux : Nat} {v x : Int32} (hq : mm_at (mm_tab Y) pc = some (.iaload, nx, aux, v)) (hx : vp_in x sc.1) (kk : mm_Go l sc Y k n M L (.int (sc.2 x.toNatClampNeg) :: S) nx Q) : mm_Go l sc Y k n M L (.int x :: .retAddr 0 :: S) pc Q := by
  intro hY p e s m args below meth c D A sa al0 al hC he ws H locs ls st hH hS hL hl
  have hm := mm_at_mem hq
  have hd := hY.1 _ hm
  have ho := hY.2.1 _ hm
  simp only [mm_ok, decide_eq_true_eq] at ho
  subst ho
  obtain ⟨-, -, -, -, -, -, -, -, -, hX, hsa, hnA⟩ := hC.2.2.2.2.2.2.2.2.2.1
  obtain ⟨st1, rfl, hl1⟩ := hl.i
  obtain ⟨w, st2, rfl, hw, hl2⟩ := hl1
  have hw' : w = .ref sa := hw
  subst hw'
  exact va_sld hC.1 hC.2.1 hX hsa hnA hS hx hd (kk hY p e s m args below meth c D A sa al0 al hC he ws H locs ls _ hH hS hL (hl2.pi _))
theorem mg_slen {nx aux : Nat} {v : Int32} (hq : mm_at (mm_tab Y) pc = some (.arraylength, nx, aux, v)) (kk : mm_Go l sc Y k n M L (.int (nI sc.1) :: S) nx Q) : mm_Go l sc Y k n M L (.retAddr 0 :: S) pc Q := by
  intro hY p e s m args below meth c D A sa al0 al hC he ws H locs ls st hH hS hL hl
  have hm := mm_at_mem hq
  have hd := hY.1 _ hm
  have ho := hY.2.1 _ hm
  simp only [mm_ok, decide_eq_true_eq] at ho
  subst ho
  obtain ⟨-, -, -, -, -, -, -, -, -, hX, hsa, hnA⟩ := hC.2.2.2.2.2.2.2.2.2.1
  obtain ⟨w, st2, rfl, hw, hl2⟩ := hl
  have hw' : w = .ref sa := hw
  subst hw'
  exact va_slen hC.1 hC.2.1 hX hsa hnA hS hd (kk hY p e s m args below meth c D A sa al0 al hC he ws H locs ls _ hH hS hL (mm_l.pi _ hl2))
theorem mg_idiv {nx aux : Nat} {v x y : Int32} (hq : mm_at (mm_tab Y) pc = some (.idiv, nx, aux, v)) (hy : ¬ y = 0) (kk : mm_Go l sc Y k n M L (.int (x / y) :: S) nx Q) : mm_Go l sc Y k n M L (.int y :: .int x :: S) pc Q := by
  intro hY p e s m args below meth c D A sa al0 al hC he ws H locs ls st hH hS hL hl
  have hm := mm_at_mem hq
  have hd := hY.1 _ hm
  have ho := hY.2.1 _ hm
  simp only [mm_ok, decide_eq_true_eq] at ho
  subst ho
  obtain ⟨st1, rfl, hl1⟩ := hl.i
  obtain ⟨st2, rfl, hl2⟩ := hl1.i
  exact lv_idiv hC.1 hC.2.1 hd hy (kk hY p e s m args below meth c D A sa al0 al hC he ws H locs ls _ hH hS hL (hl2.pi _))
/-- two places of the list are two addresses -/
theorem mm_H.inj {D : va_G} {A : Nat → Prop} {U : State} {al : List Nat} {sa : Nat} {M : mm_M} {ws : va_W} {H : Heap} (h : mm_H D A U al sa M ws H) {i j a : Nat} (hi : al[i]? = some a) (hj : al[j]? = some a) : i = j := by
  have li : i < M.length := by rw [← h.1.1]; exact (List.getElem?_eq_some_iff.mp hi).1
  have lj : j < M.length := by rw [← h.1.1]; exact (List.getElem?_eq_some_iff.mp hj).1
  obtain ⟨a1, e1, p1, p2, -⟩ := h.1.2.2 i _ (List.getElem?_eq_getElem li)
  obtain ⟨a2, e2, q1, q2, -⟩ := h.1.2.2 j _ (List.getElem?_eq_getElem lj)
  cases Option.some.inj (hi.symm.trans p1)
  cases Option.some.inj (hj.symm.trans q1)
  exact h.2.2.1 i j _ _ p2 q2 rfl
theorem mg_acmp {off : Int} {nx tg i j : Nat} {v : Int32} (hq : mm_at (mm_tab Y) pc = some (.if_acmp .eq off, nx, tg, v)) (kt : i = j → mm_Go l sc Y k n M L S tg Q) (kf : ¬ i = j → mm_Go l sc Y k n M L S nx Q) : mm_Go l sc Y k n M L (.ref j :: .ref i :: S) pc Q := by
  intro hY p e s m args below meth c D A sa al0 al hC he ws H locs ls st hH hS hL hl
  have hm := mm_at_mem hq
  have hd := hY.1 _ hm
  have ho := hY.2.1 _ hm
  simp only [mm_ok, Bool.and_eq_true, decide_eq_true_eq] at ho
  obtain ⟨h1, h2⟩ := ho
  subst h2
  obtain ⟨b, st1, rfl, hb, hl1⟩ := hl.r
  obtain ⟨a, st2, rfl, ha, hl2⟩ := hl1.r
  refine lv_acmp_eq (rx := some a) (ry := some b) hC.1 hC.2.1 hd h1 (fun h => ?_) (fun h => ?_)
  · cases h
    exact kt (hH.inj ha hb) hY p e s m args below meth c D A sa al0 al hC he ws H locs ls st2 hH hS hL hl2
  · refine kf (fun h9 => h ?_) hY p e s m args below meth c D A sa al0 al hC he ws H locs ls st2 hH hS hL hl2
    subst h9
    exact ha.symm.trans hb
/-! ends -/
theorem mm_end {p : Program} {e : Env} {s : State} {m : MethodId} {args : Array Value} {below : List Frame} {meth : Method} {c : Code} {D : va_G} {A : Nat → Prop} {sa : Nat} {al0 al : List Nat} {ws : va_W} {H : Heap} {locs : List Loc} (he : mm_e al0 al) (hH : mm_H D A s al sa M ws H) (hS : va_S A s.heap H locs) {v w : Option Value} (hv : mm_o al sa v w) (hQ : Q (.inl v) M) :
    ∀ t : State, t.heap = H → s.WarmedH t.vm → mm_Qc D A al0 sa Q args s (.returned w) t :=
  fun t ht hW => ⟨v, w, M, al, ws, rfl, hv, hQ, he, ⟨hH.1.moved hW.alike, by rw [ht]; exact hH.2.1, hH.2.2⟩, hS.F ht⟩
theorem mg_iret {nx aux : Nat} {v x : Int32} (hq : mm_at (mm_tab Y) pc = some (.ireturn, nx, aux, v)) (hr : mm_ret Y = some .int) (hk : k ≤ (mm_rm Y).cells) (hn : n ≤ (mm_rm Y).slots) (hQ : Q (.inl (some (.int x))) M) : mm_Go l sc Y k n M L [.int x] pc Q := by
  intro hY p e s m args below meth c D A sa al0 al hC he ws H locs ls st hH hS hL hl
  have hd := hY.1 _ (mm_at_mem hq)
  obtain ⟨st1, rfl, hl1⟩ := hl.i
  have hl1' : st1 = [] := hl1
  subst hl1'
  have hlocks := hC.2.2.2.2.1
  refine W.widen hk hn (vx_ret ?_)
  exact W.iret hC.1 hC.2.1 (hC.2.2.2.1.trans hr) (mm_end (meth := meth) (c := c) (e := e) (p := p) (m := m) (below := below) he hH hS (v := some (.int x)) ⟨_, rfl, rfl⟩ hQ) hS.2.2 hd hlocks
theorem mg_zret {nx aux : Nat} {v x : Int32} (hq : mm_at (mm_tab Y) pc = some (.ireturn, nx, aux, v)) (hr : mm_ret Y = some .boolean) (hx : x = nI 0 ∨ x = nI 1) (hk : k ≤ (mm_rm Y).cells) (hn : n ≤ (mm_rm Y).slots) (hQ : Q (.inl (some (.int x))) M) : mm_Go l sc Y k n M L [.int x] pc Q := by
  intro hY p e s m args below meth c D A sa al0 al hC he ws H locs ls st hH hS hL hl
  have hd := hY.1 _ (mm_at_mem hq)
  obtain ⟨st1, rfl, hl1⟩ := hl.i
  have hl1' : st1 = [] := hl1
  subst hl1'
  have hlocks := hC.2.2.2.2.1
  have hnar : narrow .boolean (.int x) = .int x := by
    rcases hx with rfl | rfl
    · decide +kernel
    · decide +kernel
  refine W.widen hk hn (vx_ret ?_)
  exact W.zret (ty := .boolean) hC.1 hC.2.1 (hC.2.2.2.1.trans hr) hnar (mm_end (meth := meth) (c := c) (e := e) (p := p) (m := m) (below := below) he hH hS (v := some (.int x)) ⟨_, rfl, rfl⟩ hQ) hS.2.2 hd hlocks
theorem mg_vret {nx aux : Nat} {v : Int32} (hq : mm_at (mm_tab Y) pc = some (.return_, nx, aux, v)) (hr : mm_ret Y = none) (hk : k ≤ (mm_rm Y).cells) (hn : n ≤ (mm_rm Y).slots) (hQ : Q (.inl none) M) : mm_Go l sc Y k n M L [] pc Q := by
  intro hY p e s m args below meth c D A sa al0 al hC he ws H locs ls st hH hS hL hl
  have hd := hY.1 _ (mm_at_mem hq)
  have hl1' : st = [] := hl
  subst hl1'
  have hlocks := hC.2.2.2.2.1
  refine W.widen hk hn (vx_ret ?_)
  exact W.vret hC.1 hC.2.1 (hC.2.2.2.1.trans hr) (mm_end (meth := meth) (c := c) (e := e) (p := p) (m := m) (below := below) he hH hS (v := none) rfl hQ) hS.2.2 hd hlocks
theorem mg_aret {nx aux i : Nat} {v : Int32} {nm : String} (hq : mm_at (mm_tab Y) pc = some (.areturn, nx, aux, v)) (hr : mm_ret Y = some (.object nm)) (hk : k ≤ (mm_rm Y).cells) (hn : n ≤ (mm_rm Y).slots) (hQ : Q (.inl (some (.ref i))) M) : mm_Go l sc Y k n M L [.ref i] pc Q := by
  intro hY p e s m args below meth c D A sa al0 al hC he ws H locs ls st hH hS hL hl
  have hd := hY.1 _ (mm_at_mem hq)
  obtain ⟨a, st1, rfl, ha, hl1⟩ := hl.r
  have hl1' : st1 = [] := hl1
  subst hl1'
  have hlocks := hC.2.2.2.2.1
  refine W.widen hk hn (vx_ret ?_)
  exact W.aret hC.1 hC.2.1 (hC.2.2.2.1.trans hr) (Or.inl ⟨nm, rfl⟩) (Or.inr ⟨a, rfl⟩) (mm_end (meth := meth) (c := c) (e := e) (p := p) (m := m) (below := below) he hH hS (v := some (.ref i)) ⟨_, rfl, ⟨a, ha, rfl⟩⟩ hQ) hS.2.2 hd hlocks
/-! a method's contract out of its body -/
theorem mm_of (hY : mm_okY Y) (hcw : mm_cw Y ∈ mm_tbl) (hh : mm_hh Y = []) {vs : List Value} (hn : (mm_args vs).length ≤ mm_nL Y) (kk : mm_Go l sc Y 0 0 M (mm_ent (mm_nL Y) vs) [] 0 Q) : mm_Ct l sc Y M vs Q := by
  refine ⟨hY, hcw, ?_⟩
  intro D A sa al ws us hl
  have hw : mm_ws Y = Cond.code (mm_nam Y) (mm_cod Y) (mm_nL Y) (mm_ret Y) :: mm_tbl := by unfold mm_ws mm_cw; rw [hh]
  refine vx_ofW (cc := mm_cod Y) (maxL := mm_nL Y) (ret := mm_ret Y) hY.2.2.2 hw ?_
  intro p e s m args below meth c s₁ B hml htab hP
  obtain ⟨rfl, henv, hA, hH⟩ := hP
  have hts : ∀ w ∈ mm_tbl, w.before us.toArray s = true := fun w h => atoms_spec (ws := mm_ws Y) B.pre w (List.mem_cons_of_mem _ h)
  have htb : c.exceptionTable.toList = tableOf (mm_hh Y) := by
    rw [hh]
    exact List.eq_nil_iff_forall_not_mem.mpr (fun x hx => htab x hx)
  have hC : mm_Cx sc Y D A sa p s m us.toArray meth c := ⟨B.exec, B.bytes, hml, B.returns, B.notSynchronized, (name_of_methodNamed B.named B.method).1, by rw [hY.2.2.1]; exact findClass_of_methodNamed B.named, hts, htb, henv, hA⟩
  rw [lg_entry_eq]
  exact kk hY p e s m us.toArray below meth c D A sa al al hC (mm_e.rf al) ws s.heap [] _ [] hH va_S.rf (mm_entry hl hn) rfl
theorem mm_ofH (hY : mm_okY Y) (hcw : mm_cw Y ∈ mm_tbl) {h9 : Nat × Nat × Nat × Nat} {t9 : List (Nat × Nat × Nat × Nat)} (hh : mm_hh Y = h9 :: t9) {vs : List Value} (hn : (mm_args vs).length ≤ mm_nL Y) (kk : mm_Go l sc Y 0 0 M (mm_ent (mm_nL Y) vs) [] 0 Q) : mm_Ct l sc Y M vs Q := by
  refine ⟨hY, hcw, ?_⟩
  intro D A sa al ws us hl
  have hw : mm_ws Y = Cond.codeWith (mm_nam Y) (mm_cod Y) (mm_nL Y) (mm_ret Y) (mm_hh Y) :: mm_tbl := by unfold mm_ws mm_cw; rw [hh]
  refine vx_ofWH (cc := mm_cod Y) (maxL := mm_nL Y) (ret := mm_ret Y) hY.2.2.2 hw ?_
  intro p e s m args below meth c s₁ B hml hP
  obtain ⟨rfl, henv, hA, hH⟩ := hP
  have hall : ∀ w ∈ mm_ws Y, w.before us.toArray s = true := atoms_spec (ws := mm_ws Y) B.pre
  have hts : ∀ w ∈ mm_tbl, w.before us.toArray s = true := fun w h => hall w (List.mem_cons_of_mem _ h)
  have htb : c.exceptionTable.toList = tableOf (mm_hh Y) := vx_table (x := mm_nam Y) B (hall _ (by rw [hw]; exact List.mem_cons_self))
  have hC : mm_Cx sc Y D A sa p s m us.toArray meth c := ⟨B.exec, B.bytes, hml, B.returns, B.notSynchronized, (name_of_methodNamed B.named B.method).1, by rw [hY.2.2.1]; exact findClass_of_methodNamed B.named, hts, htb, henv, hA⟩
  rw [lg_entry_eq]
  exact kk hY p e s m us.toArray below meth c D A sa al al hC (mm_e.rf al) ws s.heap [] _ [] hH va_S.rf (mm_entry hl hn) rfl
/-! calls -/
theorem mm_back {R : Room} {p : Program} {e : Env} {s : State} {m : MethodId} {args : Array Value} {below : List Frame} {meth : Method} {c : Code} {D : va_G} {A : Nat → Prop} {sa : Nat} {al : List Nat} {H : Heap} {locs : List Loc} {mc ms : Nat} {ls : Array Slot} {st0 rest : List Value} {aa : Array Value} {Z : State → Prop}
    (hr : vx_Run p l e R s m args below meth c H locs k n mc ms (F0 m pc ls st0) rest (mm_Qc D A al sa Q aa) (mm_XC D A al sa Q) A) (hS : va_S A s.heap H locs)
    (kx : ∀ (j : Nat) (ce : Cell) (q9 : Addr) (M1 : mm_M) (al1 : List Nat) (ws1 : va_W) (H1 : Heap) (locs1 : List Loc), Q (.inr j) M1 → mm_e al al1 → mm_H D A s al1 sa M1 ws1 H1 → va_S A s.heap H1 locs1 → H1[q9]? = some ce → ce.vm = .none → s.vm.findClass (mm_xn j) = some ce.cls → vx_W p l e R s m args below meth c H1 locs1 (k + mc) (n + ms) Z (F0 m pc ls rest) q9)
    (kk : ∀ (v w : Option Value) (M1 : mm_M) (al1 : List Nat) (ws1 : va_W) (H1 : Heap) (locs1 : List Loc), Q (.inl v) M1 → mm_o al1 sa v w → mm_e al al1 → mm_H D A s al1 sa M1 ws1 H1 → va_S A s.heap H1 locs1 → W p l e R s m args below meth c H1 locs1 (k + mc) (n + ms) Z (F0 m (pc + 3) ls (w.toList ++ rest))) :
    W p l e R s m args below meth c H locs k n Z (F0 m pc ls st0) := by
  intro T hT X
  rcases hr T hT X with ⟨v, st₀, t, T', L9, h0, X', hL, e1, e2, hq, st⟩ | ⟨q, st₀, t, T', L9, E, ce, h0, X', hL, e1, e2, hq, hce, hcv, hcl, st⟩
  · obtain ⟨v1, w1, M1, al1, ws1, hv, ho, hQ, he, hH, hF⟩ := hq
    cases hv
    obtain ⟨k1, k2, k3⟩ := vx_keep (A0 := A) h0 e1 hS (fun _ _ h => h) (fun _ h => h) hL hF
    have hal : s.vm.Alike t.vm := by rw [← e2]; exact X'.warmed.alike
    obtain ⟨t2, a1, b1⟩ := kk v1 v M1 al1 ws1 T'.heap (locs ++ L9) hQ ho he ⟨hH.1.moved hal.symm, by rw [e1]; exact hH.2.1, hH.2.2⟩ k3 T' rfl X'
    exact ⟨t2, st t2 a1, b1⟩
  · obtain ⟨j, M1, al1, ws1, hE, hQ, he, hH, hF⟩ := hq
    subst hE
    obtain ⟨k1, k2, k3⟩ := vx_keep (A0 := A) h0 e1 hS (fun _ _ h => h) (fun _ h => h) hL hF
    have hal : s.vm.Alike t.vm := by rw [← e2]; exact X'.warmed.alike
    obtain ⟨t2, a1, b1⟩ := kx j ce q M1 al1 ws1 T'.heap (locs ++ L9) hQ he ⟨hH.1.moved hal.symm, by rw [e1]; exact hH.2.1, hH.2.2⟩ k3 (by rw [e1]; exact hce) hcv hcl T' rfl X'
    exact ⟨t2, st.trans a1, b1⟩
theorem mm_blind {D : va_G} {A : Nat → Prop} {sa : Nat} {al : List Nat} {ws : va_W} {us : List Value} : FrameBlind (mm_Pc sc D A al sa M ws us) := fun a U g mk h =>
  ⟨h.1, h.2.1.blind g mk a, h.2.2.1, ⟨h.2.2.2.1.moved (U := U.calling g mk a) (Vm.Alike.refl U.vm), h.2.2.2.2⟩⟩
theorem mm_pre {D : va_G} {A : Nat → Prop} {sa : Nat} {al : List Nat} {ws : va_W} {us : List Value} {s : State} {H : Heap} {locs : List Loc} (henv : mm_env sc D A sa s) (hA : ∀ q, s.heap.size ≤ q → A q) (hH : mm_H D A s al sa M ws H) (hS : va_S A s.heap H locs) : ∀ U : State, U.heap = H → s.WarmedH U.vm → mm_Pc sc D A al sa M ws us us.toArray U :=
  fun U hU hW => ⟨rfl, henv.call hS hU hW, fun q hq => hA q (Nat.le_trans hS.1 (by rw [← hU]; exact hq)), ⟨hH.1.moved hW.alike, by rw [hU]; exact hH.2.1, hH.2.2⟩⟩
/-- where a call goes on -/
abbrev mm_K (l : Launch) (sc : Nat × (Nat → Int32)) (Y : mm_Y) (k n : Nat) (L : mm_L) (S : List Value) (nx : Nat) (Q : mm_O → mm_M → Prop) : mm_O → mm_M → Prop := fun o M1 => match o with
  | .inl v => mm_Go l sc Y k n M1 L (v.toList ++ S) nx Q
  | .inr j => Q (.inr j) M1
/-- .. of a callee that never throws -/
abbrev mm_K0 (l : Launch) (sc : Nat × (Nat → Int32)) (Y : mm_Y) (k n : Nat) (L : mm_L) (S : List Value) (nx : Nat) (Q : mm_O → mm_M → Prop) : mm_O → mm_M → Prop := fun o M1 => match o with
  | .inl v => mm_Go l sc Y k n M1 L (v.toList ++ S) nx Q
  | .inr _ => False
theorem mm_met {D : va_G} {A : Nat → Prop} {sa : Nat} {al : List Nat} {y : MethodName} {ws : List Cond} {rm : Room} {Pc : Array Value → State → Prop} {mc ms : Nat} (hM : vx_Met l y ws rm Pc (mm_Qc D A al sa Q) (mm_XC D A al sa Q) mc ms A) (hno : ∀ j M1, ¬ Q (.inr j) M1) : Met l y ws rm Pc (mm_Qc D A al sa Q) mc ms A := by
  intro p e h1 h2 h3 s m args below h4 h5 h6 h7
  obtain ⟨i, o, a1, a2, a3, a4⟩ := hM p e h1 h2 h3 s m args below h4 h5 h6 h7
  refine ⟨i, o, a1, a2, a3, ?_⟩
  rcases a4 with a4 | ⟨q, -, E, ce, L9, ⟨j, M1, al1, ws1, -, hQ, -⟩, -⟩
  · exact a4
  · exact absurd hQ (hno j M1)
theorem mm_o.list {al : List Nat} {sa : Nat} {v w : Option Value} (h : mm_o al sa v w) {st : List Value} (hl : mm_l al sa S st) : mm_l al sa (v.toList ++ S) (w.toList ++ st) := by
  cases v with
  | none => have h' : w = none := h
            subst h'; exact hl
  | some x => obtain ⟨y, rfl, hy⟩ := h
              exact ⟨y, st, rfl, hy, hl⟩
/-- an exception leaves a method that has no table -/
theorem mm_leave {p : Program} {e : Env} {s : State} {m : MethodId} {args : Array Value} {below : List Frame} {meth : Method} {c : Code} {D : va_G} {A : Nat → Prop} {sa : Nat} {al0 al : List Nat} {H : Heap} {locs : List Loc} {ls : Array Slot} {rest : List Value} {ws : va_W} {ce : Cell} {q : Addr} {j : Nat} (hC : mm_Cx sc Y D A sa p s m args meth c) (hh : mm_hh Y = []) (he : mm_e al0 al) (hH : mm_H D A s al sa M ws H) (hS : va_S A s.heap H locs) (hce : H[q]? = some ce) (hv : ce.vm = .none) (hcl : s.vm.findClass (mm_xn j) = some ce.cls) (hk : k ≤ (mm_rm Y).cells) (hn : n ≤ (mm_rm Y).slots) (hQ : Q (.inr j) M) :
    vx_W p l e (mm_rm Y) s m args below meth c H locs k n (vx_MQ below (mm_Qc D A al0 sa Q) (mm_XC D A al0 sa Q) args s (mm_rm Y).cells (mm_rm Y).slots A) (F0 m pc ls rest) q := by
  have htb := hC.2.2.2.2.2.2.2.2.1
  rw [hh] at htb
  refine vx_out (E := mm_xn j) (fun x hx => ?_) hC.2.2.2.2.1 hce hv hcl (fun t ht hW => ⟨j, M, al, ws, rfl, hQ, he, ⟨hH.1.moved hW, by rw [ht]; exact hH.2.1, hH.2.2⟩, hS.F ht⟩) hS.2.2 hk hn
  rw [htb] at hx
  cases hx
end
end
section
/-! Calls of methods; new cells; the three methods of the JDK. -/
def mm_chk (k n : Nat) (R R' : Room) (nL' z : Nat) : Bool := Nat.ble (R'.frames + 1) R.frames && Nat.ble (8 + (nL' + 11) + R'.locals) R.locals && Nat.ble (k + R'.cells) R.cells && Nat.ble (n + R'.slots) R.slots && Nat.ble z 8
theorem mm_chk_inv {k n : Nat} {R R' : Room} {nL' z : Nat} (h : mm_chk k n R R' nL' z = true) : (R'.frames + 1 ≤ R.frames ∧ 8 + (nL' + 11) + R'.locals ≤ R.locals) ∧ (k + R'.cells ≤ R.cells ∧ n + R'.slots ≤ R.slots) ∧ z ≤ 8 := by
  simp only [mm_chk, Bool.and_eq_true, Nat.ble_eq] at h
  exact ⟨⟨h.1.1.1.1, h.1.1.1.2⟩, ⟨h.1.1.2, h.1.2⟩, h.2⟩
theorem mm_gin {X : List Cond} (h : ∀ w ∈ X, w ∈ mm_tbl) : GoodIn mm_tbl X := fun w hw => ⟨h w hw, mm_good w (h w hw)⟩
theorem mm_wsin {Y : mm_Y} (hY : mm_cw Y ∈ mm_tbl) : ∀ w ∈ mm_ws Y, w ∈ mm_tbl := fun w h => (List.mem_cons.mp h).elim (fun e => by rw [e]; exact hY) id
section
variable {l : Launch} {sc : Nat × (Nat → Int32)} {Y Y' : mm_Y} {k n : Nat} {M M' : mm_M} {L L' : mm_L} {S S0 : List Value} {pc : Nat} {Q : mm_O → mm_M → Prop}
/-- the receiver of a call -/
theorem mm_recv {D : va_G} {A : Nat → Prop} {s : State} {sa : Nat} {al : List Nat} {ws : va_W} {H : Heap} {b a ci : Nat} {fs : List Value} (hK : va_K D mm_cl [] s) (hH : mm_H D A s al sa M ws H) (ha : al[b]? = some a) (hM : M[b]? = some (.inr (ci, fs))) : ∃ cellB : Cell, H[a]? = some cellB ∧ cellB.vm.isStatics = false ∧ s.vm.findClass (mm_nm ci) = some cellB.cls := by
  obtain ⟨a', e', h1, h2, h3⟩ := hH.1.2.2 b _ hM
  cases Option.some.inj (ha.symm.trans h1)
  obtain ⟨fs', rfl, -⟩ := h3
  obtain ⟨r, hr, cell, hc1, hc2, hc3, -⟩ := hH.2.1 b _ h2
  have hcl := (hK.1 ci r hr).2.1
  refine ⟨cell, hc1, by rw [hc3]; rfl, ?_⟩
  rw [hc2, ← (mm_cl_ok ci r.1 r.2.1 r.2.2 hr).1]
  exact hcl
theorem mg_callV {ix nx j b ci : Nat} {v : Int32} {fs : List Value} (vs : List Value) (hq : mm_at (mm_tab Y) pc = some (.invokevirtual ix, nx, j, v)) (hu : mm_mu[j]? = some (mm_cn Y, ix, 0, mm_nam Y', vs.length)) (hS0 : S0 = vs.reverse ++ .ref b :: S) (hb : M[b]? = some (.inr (ci, fs))) (hci : mm_nm ci = (mm_nam Y').cls) (hh : mm_hh Y = []) (hh' : mm_hh Y' = [])
    (hst : mm_chk k n (mm_rm Y) (mm_rm Y') (mm_nL Y') ((S.map fun v => v.category).sum) = true) (hM : mm_Ct l sc Y' M (.ref b :: vs) (mm_K l sc Y (k + (mm_rm Y').cells) (n + (mm_rm Y').slots) L S nx Q)) : mm_Go l sc Y k n M L S0 pc Q := by
  intro hY p e s m args below meth c D A sa al0 al hC he ws H locs ls st hH hS hL hl
  have hm := mm_at_mem hq
  have hd := hY.1 _ hm
  have ho := hY.2.1 _ hm
  simp only [mm_ok, decide_eq_true_eq] at ho
  subst ho hS0
  obtain ⟨-, hY', hM'⟩ := hM
  obtain ⟨hR, hf, hz⟩ := mm_chk_inv hst
  have henv := hC.2.2.2.2.2.2.2.2.2.1
  have hts := hC.2.2.2.2.2.2.2.1
  have hown := hC.2.2.2.2.2.2.1
  obtain ⟨w1, w2, rfl, hw1, hw2⟩ := hl.split
  obtain ⟨a, st2, rfl, ha, hl2⟩ := hw2.r
  have hAs : mm_l al sa vs w1.reverse := by
    have h9 := hw1.rev
    rwa [List.reverse_reverse] at h9
  have hMet := hM' D A sa al ws (.ref a :: w1.reverse) ⟨_, _, rfl, ⟨a, ha, rfl⟩, hAs⟩
  have hcell := mm_recv henv.1 hH ha hb
  rw [hci] at hcell
  obtain ⟨hd1, hd2, hd3, hini, hlink, hins, hsel⟩ := mm_mu_ok j _ hu
  have hw : mm_ws Y' = Cond.code (mm_nam Y') (mm_cod Y') (mm_nL Y') (mm_ret Y') :: mm_tbl := by unfold mm_ws mm_cw; rw [hh']
  have hT : GoodIn mm_tbl (wsV (mm_nm (mm_cn Y)) ix (mm_nam Y').cls (mm_nam Y') (mm_ws Y')) := mm_gin (fun w h => by
    unfold wsV at h
    rcases List.mem_append.mp h with h | h
    · simp only [List.mem_cons, List.not_mem_nil, or_false] at h
      rcases h with rfl | rfl | rfl | rfl
      · exact hlink
      · exact hins
      · exact hsel
      · exact hini
    · exact mm_wsin hY' w h)
  have cw := cwV (R := mm_rm Y) (rm := mm_rm Y') vs.length hts hT hw rfl rfl ⟨rfl, hd1, hd2, hd3⟩ hR
  have hrun := vx_runV (p := p) (e := e) (below := below) (meth := meth) (locs := locs) (g := F0 m pc ls (w1 ++ .ref a :: st2)) (rest := st2) ⟨hC.1, hC.2.1, hC.2.2.1, hown, hts⟩ hMet cw ⟨mm_blind, hcell, mm_pre henv hC.2.2.2.2.2.2.2.2.2.2 hH hS⟩ rfl (hAs.len) hL.2.1 (by rw [List.reverse_reverse]) (lv_room (by rw [hl2.cats]; exact hz)) hd hf
  refine mm_back hrun hS (fun j9 ce q9 M1 al1 ws1 H1 locs1 hQ he1 hH1 hS1 g1 g2 g3 => ?_) (fun v9 w9 M1 al1 ws1 H1 locs1 hQ ho1 he1 hH1 hS1 => ?_)
  · exact mm_leave hC hh (he.tr he1) hH1 hS1 g1 g2 g3 hf.1 hf.2 hQ
  · exact hQ hY p e s m args below meth c D A sa al0 al1 hC (he.tr he1) ws1 H1 locs1 ls _ hH1 hS1 (hL.mono he1) (ho1.list (hl2.mono he1))
theorem mg_callS {ix nx j : Nat} {v : Int32} (vs : List Value) (hq : mm_at (mm_tab Y) pc = some (.invokestatic ix, nx, j, v)) (hu : mm_mu[j]? = some (mm_cn Y, ix, 1, mm_nam Y', vs.length)) (hS0 : S0 = vs.reverse ++ S) (hh : mm_hh Y = []) (hh' : mm_hh Y' = [])
    (hst : mm_chk k n (mm_rm Y) (mm_rm Y') (mm_nL Y') ((S.map fun v => v.category).sum) = true) (hM : mm_Ct l sc Y' M vs (mm_K l sc Y (k + (mm_rm Y').cells) (n + (mm_rm Y').slots) L S nx Q)) : mm_Go l sc Y k n M L S0 pc Q := by
  intro hY p e s m args below meth c D A sa al0 al hC he ws H locs ls st hH hS hL hl
  have hm := mm_at_mem hq
  have hd := hY.1 _ hm
  have ho := hY.2.1 _ hm
  simp only [mm_ok, decide_eq_true_eq] at ho
  subst ho hS0
  obtain ⟨-, hY', hM'⟩ := hM
  obtain ⟨hR, hf, hz⟩ := mm_chk_inv hst
  have henv := hC.2.2.2.2.2.2.2.2.2.1
  have hts := hC.2.2.2.2.2.2.2.1
  have hown := hC.2.2.2.2.2.2.1
  obtain ⟨w1, st2, rfl, hw1, hl2⟩ := hl.split
  have hAs : mm_l al sa vs w1.reverse := by
    have h9 := hw1.rev
    rwa [List.reverse_reverse] at h9
  have hMet := hM' D A sa al ws w1.reverse hAs
  obtain ⟨hd1, hd2, hd3, hini, hcls, hlink, hsta⟩ := mm_mu_ok j _ hu
  have hw : mm_ws Y' = Cond.code (mm_nam Y') (mm_cod Y') (mm_nL Y') (mm_ret Y') :: mm_tbl := by unfold mm_ws mm_cw; rw [hh']
  have hT : GoodIn mm_tbl (wsS (mm_nm (mm_cn Y)) ix (mm_nam Y') (mm_ws Y')) := mm_gin (fun w h => by
    unfold wsS at h
    rcases List.mem_append.mp h with h | h
    · simp only [List.mem_cons, List.not_mem_nil, or_false] at h
      rcases h with rfl | rfl | rfl
      · exact hlink
      · exact hsta
      · rw [← hcls]; exact hini
    · exact mm_wsin hY' w h)
  have cw := cwS (R := mm_rm Y) (rm := mm_rm Y') vs.length hts hT hw rfl rfl ⟨hcls, hd1, hd2, hd3⟩ hR
  have hrun := vx_runS (p := p) (e := e) (below := below) (meth := meth) (locs := locs) (g := F0 m pc ls (w1 ++ st2)) (rest := st2) ⟨hC.1, hC.2.1, hC.2.2.1, hown, hts⟩ hMet cw ⟨mm_blind, mm_pre henv hC.2.2.2.2.2.2.2.2.2.2 hH hS⟩ rfl (hAs.len) hL.2.1 (by rw [List.reverse_reverse]) (lv_room (by rw [hl2.cats]; exact hz)) hd hf
  refine mm_back hrun hS (fun j9 ce q9 M1 al1 ws1 H1 locs1 hQ he1 hH1 hS1 g1 g2 g3 => ?_) (fun v9 w9 M1 al1 ws1 H1 locs1 hQ ho1 he1 hH1 hS1 => ?_)
  · exact mm_leave hC hh (he.tr he1) hH1 hS1 g1 g2 g3 hf.1 hf.2 hQ
  · exact hQ hY p e s m args below meth c D A sa al0 al1 hC (he.tr he1) ws1 H1 locs1 ls _ hH1 hS1 (hL.mono he1) (ho1.list (hl2.mono he1))
/-- a private static method of a nest mate -/
theorem mg_callN {ix nx j : Nat} {v : Int32} (vs : List Value) (hq : mm_at (mm_tab Y) pc = some (.invokestatic ix, nx, j, v)) (hu : mm_mu[j]? = some (mm_cn Y, ix, 3, mm_nam Y', vs.length)) (hS0 : S0 = vs.reverse ++ S) (hh' : mm_hh Y' = [])
    (hst : mm_chk k n (mm_rm Y) (mm_rm Y') (mm_nL Y') ((S.map fun v => v.category).sum) = true) (hM : mm_Ct l sc Y' M vs (mm_K0 l sc Y (k + (mm_rm Y').cells) (n + (mm_rm Y').slots) L S nx Q)) : mm_Go l sc Y k n M L S0 pc Q := by
  intro hY p e s m args below meth c D A sa al0 al hC he ws H locs ls st hH hS hL hl
  have hm := mm_at_mem hq
  have hd := hY.1 _ hm
  have ho := hY.2.1 _ hm
  simp only [mm_ok, decide_eq_true_eq] at ho
  subst ho hS0
  obtain ⟨-, hY', hM'⟩ := hM
  obtain ⟨hR, hf, hz⟩ := mm_chk_inv hst
  have henv := hC.2.2.2.2.2.2.2.2.2.1
  have hts := hC.2.2.2.2.2.2.2.1
  have hown := hC.2.2.2.2.2.2.1
  obtain ⟨w1, st2, rfl, hw1, hl2⟩ := hl.split
  have hAs : mm_l al sa vs w1.reverse := by
    have h9 := hw1.rev
    rwa [List.reverse_reverse] at h9
  have hMet := mm_met (hM' D A sa al ws w1.reverse hAs) (fun _ _ h => h)
  obtain ⟨hd1, hd2, hd3, hini, hlink, hsta⟩ := mm_mu_ok j _ hu
  have hw : mm_ws Y' = Cond.code (mm_nam Y') (mm_cod Y') (mm_nL Y') (mm_ret Y') :: mm_tbl := by unfold mm_ws mm_cw; rw [hh']
  have cw := va_cnB (R := mm_rm Y) (rm := mm_rm Y') (own := mm_nm (mm_cn Y)) (index := ix) (host := "LambdaBench") vs.length hts (mm_gin (mm_wsin hY')) hw rfl rfl (henv.2.2.2.2.2.1 _ hlink) (hts _ hini) ⟨hd1, hd2, hd3⟩ hR
  have hrun := va_runSN (p := p) (e := e) (below := below) (meth := meth) (locs := locs) (g := F0 m pc ls (w1 ++ st2)) (rest := st2) ⟨hC.1, hC.2.1, hC.2.2.1, hown, hts⟩ hMet ⟨cw, hts _ hsta, trivial⟩ ⟨mm_blind, mm_pre henv hC.2.2.2.2.2.2.2.2.2.2 hH hS⟩ rfl (hAs.len) hL.2.1 (by rw [List.reverse_reverse]) (lv_room (by rw [hl2.cats]; exact hz)) hd hf
  refine mm_back (fun T hT X => Or.inl (hrun T hT X)) hS (fun j9 ce q9 M1 al1 ws1 H1 locs1 hQ he1 hH1 hS1 g1 g2 g3 => ?_) (fun v9 w9 M1 al1 ws1 H1 locs1 hQ ho1 he1 hH1 hS1 => ?_)
  · exact hQ.elim
  · exact hQ hY p e s m args below meth c D A sa al0 al1 hC (he.tr he1) ws1 H1 locs1 ls _ hH1 hS1 (hL.mono he1) (ho1.list (hl2.mono he1))
/-- a constructor -/
theorem mg_callI {ix nx j b : Nat} {v : Int32} (vs : List Value) (hq : mm_at (mm_tab Y) pc = some (.invokespecial ix, nx, j, v)) (hu : mm_mu[j]? = some (mm_cn Y, ix, 2, mm_nam Y', vs.length)) (hS0 : S0 = vs.reverse ++ .ref b :: S) (hret : mm_ret Y' = none) (hh' : mm_hh Y' = [])
    (hst : mm_chk k n (mm_rm Y) (mm_rm Y') (mm_nL Y') ((S.map fun v => v.category).sum) = true) (hM : mm_Ct l sc Y' M (.ref b :: vs) (mm_K0 l sc Y (k + (mm_rm Y').cells) (n + (mm_rm Y').slots) L S nx Q)) : mm_Go l sc Y k n M L S0 pc Q := by
  intro hY p e s m args below meth c D A sa al0 al hC he ws H locs ls st hH hS hL hl
  have hm := mm_at_mem hq
  have hd := hY.1 _ hm
  have ho := hY.2.1 _ hm
  simp only [mm_ok, decide_eq_true_eq] at ho
  subst ho hS0
  obtain ⟨-, hY', hM'⟩ := hM
  obtain ⟨hR, hf, hz⟩ := mm_chk_inv hst
  have henv := hC.2.2.2.2.2.2.2.2.2.1
  have hts := hC.2.2.2.2.2.2.2.1
  have hown := hC.2.2.2.2.2.2.1
  obtain ⟨w1, w2, rfl, hw1, hw2⟩ := hl.split
  obtain ⟨a, st2, rfl, ha, hl2⟩ := hw2.r
  have hAs : mm_l al sa vs w1.reverse := by
    have h9 := hw1.rev
    rwa [List.reverse_reverse] at h9
  have hMet := mm_met (hM' D A sa al ws (.ref a :: w1.reverse) ⟨_, _, rfl, ⟨a, ha, rfl⟩, hAs⟩) (fun _ _ h => h)
  obtain ⟨hd1, hd2, hd3, hini, hlink, hins, hnm⟩ := mm_mu_ok j _ hu
  have hw : mm_ws Y' = Cond.code (mm_nam Y') (mm_cod Y') (mm_nL Y') none :: mm_tbl := by unfold mm_ws mm_cw; rw [hh', hret]
  have cw := cwI (R := mm_rm Y) (rm := mm_rm Y') (own := mm_nm (mm_cn Y)) (index := ix) vs.length hts (mm_gin (mm_wsin hY')) hw rfl rfl (hts _ hini) (hts _ hlink) (hts _ hins) hnm ⟨hd1, hd2, hd3⟩ hR
  have hrun := va_runI (p := p) (e := e) (below := below) (meth := meth) (locs := locs) (g := F0 m pc ls (w1 ++ .ref a :: st2)) (rest := st2) ⟨hC.1, hC.2.1, hC.2.2.1, hown, hts⟩ hMet cw ⟨mm_blind, mm_pre henv hC.2.2.2.2.2.2.2.2.2.2 hH hS⟩ rfl (hAs.len) hL.2.1 (by rw [List.reverse_reverse]) (lv_room (by rw [hl2.cats]; exact hz)) hd hf
  refine mm_back (fun T hT X => Or.inl (hrun T hT X)) hS (fun j9 ce q9 M1 al1 ws1 H1 locs1 hQ he1 hH1 hS1 g1 g2 g3 => ?_) (fun v9 w9 M1 al1 ws1 H1 locs1 hQ ho1 he1 hH1 hS1 => ?_)
  · exact hQ.elim
  · exact hQ hY p e s m args below meth c D A sa al0 al1 hC (he.tr he1) ws1 H1 locs1 ls _ hH1 hS1 (hL.mono he1) (ho1.list (hl2.mono he1))
/-- a static method with a table of its own -/
theorem mg_callX {ix nx j : Nat} {v : Int32} {h9 : Nat × Nat × Nat × Nat} {t9 : List (Nat × Nat × Nat × Nat)} (vs : List Value) (hq : mm_at (mm_tab Y) pc = some (.invokestatic ix, nx, j, v)) (hu : mm_mu[j]? = some (mm_cn Y, ix, 1, mm_nam Y', vs.length)) (hS0 : S0 = vs.reverse ++ S) (hh : mm_hh Y = []) (hh' : mm_hh Y' = h9 :: t9)
    (hst : mm_chk k n (mm_rm Y) (mm_rm Y') (mm_nL Y') ((S.map fun v => v.category).sum) = true) (hM : mm_Ct l sc Y' M vs (mm_K l sc Y (k + (mm_rm Y').cells) (n + (mm_rm Y').slots) L S nx Q)) : mm_Go l sc Y k n M L S0 pc Q := by
  intro hY p e s m args below meth c D A sa al0 al hC he ws H locs ls st hH hS hL hl
  have hm := mm_at_mem hq
  have hd := hY.1 _ hm
  have ho := hY.2.1 _ hm
  simp only [mm_ok, decide_eq_true_eq] at ho
  subst ho hS0
  obtain ⟨-, hY', hM'⟩ := hM
  obtain ⟨hR, hf, hz⟩ := mm_chk_inv hst
  have henv := hC.2.2.2.2.2.2.2.2.2.1
  have hts := hC.2.2.2.2.2.2.2.1
  have hown := hC.2.2.2.2.2.2.1
  obtain ⟨w1, st2, rfl, hw1, hl2⟩ := hl.split
  have hAs : mm_l al sa vs w1.reverse := by
    have h9 := hw1.rev
    rwa [List.reverse_reverse] at h9
  have hMet := hM' D A sa al ws w1.reverse hAs
  obtain ⟨hd1, hd2, hd3, hini, hcls, hlink, hsta⟩ := mm_mu_ok j _ hu
  have hw : mm_ws Y' = Cond.codeWith (mm_nam Y') (mm_cod Y') (mm_nL Y') (mm_ret Y') (mm_hh Y') :: mm_tbl := by unfold mm_ws mm_cw; rw [hh']
  have hT : GoodIn mm_tbl (va_wsS (mm_nm (mm_cn Y)) ix (mm_nam Y') (mm_ws Y')) := mm_gin (fun w h => by
    unfold va_wsS at h
    rcases List.mem_append.mp h with h | h
    · simp only [List.mem_cons, List.not_mem_nil, or_false] at h
      rcases h with rfl | rfl | rfl
      · exact hlink
      · exact hsta
      · exact hini
    · exact mm_wsin hY' w h)
  have cw := vx_cwSW (R := mm_rm Y) (rm := mm_rm Y') vs.length hts hT hw rfl rfl ⟨hd1, hd2, hd3⟩ hR
  have hrun := vx_runSX (p := p) (e := e) (below := below) (meth := meth) (locs := locs) (g := F0 m pc ls (w1 ++ st2)) (rest := st2) ⟨hC.1, hC.2.1, hC.2.2.1, hown, hts⟩ hMet cw ⟨mm_blind, mm_pre henv hC.2.2.2.2.2.2.2.2.2.2 hH hS⟩ rfl (hAs.len) hL.2.1 (by rw [List.reverse_reverse]) (lv_room (by rw [hl2.cats]; exact hz)) hd hf
  refine mm_back hrun hS (fun j9 ce q9 M1 al1 ws1 H1 locs1 hQ he1 hH1 hS1 g1 g2 g3 => ?_) (fun v9 w9 M1 al1 ws1 H1 locs1 hQ ho1 he1 hH1 hS1 => ?_)
  · exact mm_leave hC hh (he.tr he1) hH1 hS1 g1 g2 g3 hf.1 hf.2 hQ
  · exact hQ hY p e s m args below meth c D A sa al0 al1 hC (he.tr he1) ws1 H1 locs1 ls _ hH1 hS1 (hL.mono he1) (ho1.list (hl2.mono he1))
end
end
section
/-! New cells; Object's constructor, Math.min, System.arraycopy; throws. -/
section
variable {l : Launch} {sc : Nat × (Nat → Int32)} {Y Y' : mm_Y} {k n : Nat} {M M' : mm_M} {L L' : mm_L} {S S0 : List Value} {pc : Nat} {Q : mm_O → mm_M → Prop}
theorem mg_new {ix nx j ci : Nat} {v : Int32} (hq : mm_at (mm_tab Y) pc = some (.new ix, nx, j, v)) (hu : mm_cu[j]? = some (mm_cn Y, ix, ci)) (hk : Nat.ble (k + 1) (mm_rm Y).cells = true) (hn : Nat.ble (n + (mm_df ci).length) (mm_rm Y).slots = true) (kk : mm_Go l sc Y (k + 1) (n + (mm_df ci).length) (M ++ [.inr (ci, mm_df ci)]) L (.ref M.length :: S) nx Q) : mm_Go l sc Y k n M L S pc Q := by
  intro hY p e s m args below meth c D A sa al0 al hC he ws H locs ls st hH hS hL hl
  have hm := mm_at_mem hq
  have hd := hY.1 _ hm
  have ho := hY.2.1 _ hm
  simp only [mm_ok, decide_eq_true_eq] at ho
  subst ho
  have henv := hC.2.2.2.2.2.2.2.2.2.1
  have hts := hC.2.2.2.2.2.2.2.1
  have hown := hC.2.2.2.2.2.2.1
  obtain ⟨C, T, N, hc, hlink⟩ := mm_cu_ok j _ _ ci hu
  obtain ⟨hCn, hT, hnm, hin, hins, hini⟩ := mm_cl_ok ci C T N hc
  obtain ⟨hN, hpl, hdf⟩ := mm_df_ok ci C T N hc
  refine va_new (ci := ci) (fs := mm_df ci) (C := C) (T := T) (N := N) hC.1 hC.2.1 hts hin (mm_tf ci) (fun k9 h9 => (hT k9 h9).2.2) hown (hts _ hlink) (hts _ hins) (hts _ hini) henv.1 hH.2.1 hH.2.2 hS hC.2.2.2.2.2.2.2.2.2.2 hc hdf (Nat.le_of_ble_eq_true hk) (by rw [← hN]; exact Nat.le_of_ble_eq_true hn) hd (fun q H1 g1 g2 g3 => ?_)
  rw [← hN]
  refine kk hY p e s m args below meth c D A sa al0 (al ++ [q]) hC (he.tr (mm_e.push al q)) _ H1 locs ls _ ⟨hH.1.push ⟨mm_df ci, rfl, mm_l.self hpl⟩, g1, g2⟩ g3 (hL.mono (mm_e.push al q)) (mm_l.pv ⟨q, ?_, rfl⟩ (hl.mono (mm_e.push al q)))
  rw [← hH.1.1, List.getElem?_append_right (Nat.le_refl _), Nat.sub_self]; rfl
theorem mg_newi {nx j N : Nat} {v : Int32} (hq : mm_at (mm_tab Y) pc = some (.newarray .int, nx, j, v)) (hN : N ≤ 100000) (hk : Nat.ble (k + 1) (mm_rm Y).cells = true) (hn : Nat.ble (n + N) (mm_rm Y).slots = true) (kk : mm_Go l sc Y (k + 1) (n + N) (M ++ [.inl (0, N, .inl (fun _ => 0))]) L (.ref M.length :: S) nx Q) : mm_Go l sc Y k n M L (.int (nI N) :: S) pc Q := by
  intro hY p e s m args below meth c D A sa al0 al hC he ws H locs ls st hH hS hL hl
  have hm := mm_at_mem hq
  have hd := hY.1 _ hm
  have ho := hY.2.1 _ hm
  simp only [mm_ok, decide_eq_true_eq] at ho
  subst ho
  have henv := hC.2.2.2.2.2.2.2.2.2.1
  have hts := hC.2.2.2.2.2.2.2.1
  obtain ⟨st1, rfl, hl1⟩ := hl.i
  refine va_newa (atype := .int) (ty := .int) (a0 := (N, .inl (fun _ => 0))) (N' := N) hC.1 hC.2.1 (hts _ mm_arrI) rfl henv.1 hH.2.1 hH.2.2 hS hC.2.2.2.2.2.2.2.2.2.2 (fun cA => rfl) (nI_pos (by omega)) (nI_clamp (by omega)) (by show N * 4 ≤ 536870912; omega) (Nat.le_of_ble_eq_true hk) (Nat.le_of_ble_eq_true hn) hd (fun q cA H1 hK1 g1 g2 g3 => ?_)
  have hK2 := hK1.2 0 _ rfl
  refine kk hY p e s m args below meth c D A sa al0 (al ++ [q]) hC (he.tr (mm_e.push al q)) _ H1 locs ls _ ⟨hH.1.push ⟨cA, _, rfl, rfl, hK2.1, hK2.2⟩, g1, g2⟩ g3 (hL.mono (mm_e.push al q)) (mm_l.pv ⟨q, ?_, rfl⟩ (hl1.mono (mm_e.push al q)))
  rw [← hH.1.1, List.getElem?_append_right (Nat.le_refl _), Nat.sub_self]; rfl
theorem mg_newl {nx j N : Nat} {v : Int32} (hq : mm_at (mm_tab Y) pc = some (.newarray .long, nx, j, v)) (hN : N ≤ 100000) (hk : Nat.ble (k + 1) (mm_rm Y).cells = true) (hn : Nat.ble (n + N) (mm_rm Y).slots = true) (kk : mm_Go l sc Y (k + 1) (n + N) (M ++ [.inl (1, N, .inr (.inl (fun _ => 0)))]) L (.ref M.length :: S) nx Q) : mm_Go l sc Y k n M L (.int (nI N) :: S) pc Q := by
  intro hY p e s m args below meth c D A sa al0 al hC he ws H locs ls st hH hS hL hl
  have hm := mm_at_mem hq
  have hd := hY.1 _ hm
  have ho := hY.2.1 _ hm
  simp only [mm_ok, decide_eq_true_eq] at ho
  subst ho
  have henv := hC.2.2.2.2.2.2.2.2.2.1
  have hts := hC.2.2.2.2.2.2.2.1
  obtain ⟨st1, rfl, hl1⟩ := hl.i
  refine va_newa (atype := .long) (ty := .long) (a0 := (N, .inr (.inl (fun _ => 0)))) (N' := N) hC.1 hC.2.1 (hts _ mm_arrL) rfl henv.1 hH.2.1 hH.2.2 hS hC.2.2.2.2.2.2.2.2.2.2 (fun cA => rfl) (nI_pos (by omega)) (nI_clamp (by omega)) (by show N * 8 ≤ 536870912; omega) (Nat.le_of_ble_eq_true hk) (Nat.le_of_ble_eq_true hn) hd (fun q cA H1 hK1 g1 g2 g3 => ?_)
  have hK2 := hK1.2 0 _ rfl
  refine kk hY p e s m args below meth c D A sa al0 (al ++ [q]) hC (he.tr (mm_e.push al q)) _ H1 locs ls _ ⟨hH.1.push ⟨cA, _, rfl, rfl, hK2.1, hK2.2⟩, g1, g2⟩ g3 (hL.mono (mm_e.push al q)) (mm_l.pv ⟨q, ?_, rfl⟩ (hl1.mono (mm_e.push al q)))
  rw [← hH.1.1, List.getElem?_append_right (Nat.le_refl _), Nat.sub_self]; rfl
theorem mg_newT {ix nx j N : Nat} {v : Int32} (hq : mm_at (mm_tab Y) pc = some (.anewarray ix, nx, j, v)) (hu : mm_cu[j]? = some (mm_cn Y, ix, mm_cT)) (hN : N ≤ 100000) (hk : Nat.ble (k + 1) (mm_rm Y).cells = true) (hn : Nat.ble (n + N) (mm_rm Y).slots = true) (kk : mm_Go l sc Y (k + 1) (n + N) (M ++ [.inl (2, N, .inr (.inr (.inr (.inr (fun _ => none)))))]) L (.ref M.length :: S) nx Q) : mm_Go l sc Y k n M L (.int (nI N) :: S) pc Q := by
  intro hY p e s m args below meth c D A sa al0 al hC he ws H locs ls st hH hS hL hl
  have hm := mm_at_mem hq
  have hd := hY.1 _ hm
  have ho := hY.2.1 _ hm
  simp only [mm_ok, decide_eq_true_eq] at ho
  subst ho
  have henv := hC.2.2.2.2.2.2.2.2.2.1
  have hts := hC.2.2.2.2.2.2.2.1
  have hown := hC.2.2.2.2.2.2.1
  obtain ⟨C, T, N9, hc, hlink⟩ := mm_cu_ok j _ _ mm_cT hu
  have hCn := (mm_cl_ok mm_cT C T N9 hc).1
  have hCT : C = "LambdaBench$Term" := hCn.trans mm_cT_nm
  subst hCT
  obtain ⟨st1, rfl, hl1⟩ := hl.i
  refine va_newq (C := "LambdaBench$Term") (N' := N) hC.1 hC.2.1 hown (hts _ hlink) henv.2.1 henv.1 hH.2.1 hH.2.2 hS hC.2.2.2.2.2.2.2.2.2.2 (nI_pos (by omega)) (nI_clamp (by omega)) (by omega) (Nat.le_of_ble_eq_true hk) (Nat.le_of_ble_eq_true hn) hd (fun q cA H1 hK1 g1 g2 g3 => ?_)
  have hK2 := hK1.2 0 _ rfl
  refine kk hY p e s m args below meth c D A sa al0 (al ++ [q]) hC (he.tr (mm_e.push al q)) _ H1 locs ls _ ⟨hH.1.push ⟨cA, _, rfl, ⟨_, rfl, fun k9 => ⟨fun _ => rfl, fun i9 h9 => (by cases h9)⟩⟩, hK2.1, hK2.2⟩, g1, g2⟩ g3 (hL.mono (mm_e.push al q)) (mm_l.pv ⟨q, ?_, rfl⟩ (hl1.mono (mm_e.push al q)))
  rw [← hH.1.1, List.getElem?_append_right (Nat.le_refl _), Nat.sub_self]; rfl
theorem mg_oinit {ix nx j b : Nat} {v : Int32} (hq : mm_at (mm_tab Y) pc = some (.invokespecial ix, nx, j, v)) (hu : mm_mu[j]? = some (mm_cn Y, ix, 5, Lib.objectInit, 0)) (hst : (Nat.ble 1 (mm_rm Y).frames && Nat.ble ((S.map fun v => v.category).sum + 12) (mm_rm Y).locals) = true) (kk : mm_Go l sc Y k n M L S nx Q) : mm_Go l sc Y k n M L (.ref b :: S) pc Q := by
  intro hY p e s m args below meth c D A sa al0 al hC he ws H locs ls st hH hS hL hl
  have hm := mm_at_mem hq
  have hd := hY.1 _ hm
  have ho := hY.2.1 _ hm
  simp only [mm_ok, decide_eq_true_eq] at ho
  simp only [Bool.and_eq_true, Nat.ble_eq] at hst
  subst ho
  have hts := hC.2.2.2.2.2.2.2.1
  have hown := hC.2.2.2.2.2.2.1
  obtain ⟨hlink, -⟩ := mm_mu_ok j _ hu
  obtain ⟨a, st1, rfl, ha, hl1⟩ := hl.r
  refine W.objInit (rest := st1) hC.1 hC.2.1 hown (hts _ hlink) (hts _ mm_oiI) (hts _ mm_oiC) rfl (hL.2.1.trans hC.2.2.1.symm) rfl hd hst.1 (by show 2 * 0 + _ + 12 ≤ _; rw [hl1.cats]; omega) ?_
  exact kk hY p e s m args below meth c D A sa al0 al hC he ws H locs ls _ hH hS hL hl1
theorem mg_min {ix nx j : Nat} {v x y : Int32} (hq : mm_at (mm_tab Y) pc = some (.invokestatic ix, nx, j, v)) (hu : mm_mu[j]? = some (mm_cn Y, ix, 6, Lib.Math.min.name, 2)) (hst : (Nat.ble 1 (mm_rm Y).frames && Nat.ble ((S.map fun v => v.category).sum + 13) (mm_rm Y).locals && Nat.ble k (mm_rm Y).cells && Nat.ble n (mm_rm Y).slots) = true) (kk : mm_Go l sc Y k n M L (.int (if y < x then y else x) :: S) nx Q) : mm_Go l sc Y k n M L (.int y :: .int x :: S) pc Q := by
  intro hY p e s m args below meth c D A sa al0 al hC he ws H locs ls st hH hS hL hl
  have hm := mm_at_mem hq
  have hd := hY.1 _ hm
  have ho := hY.2.1 _ hm
  simp only [mm_ok, decide_eq_true_eq] at ho
  simp only [Bool.and_eq_true, Nat.ble_eq] at hst
  subst ho
  have hts := hC.2.2.2.2.2.2.2.1
  have hown := hC.2.2.2.2.2.2.1
  obtain ⟨hlink, -⟩ := mm_mu_ok j _ hu
  obtain ⟨st1, rfl, hl1⟩ := hl.i
  obtain ⟨st2, rfl, hl2⟩ := hl1.i
  exact va_mmin hC.1 hC.2.1 (hC.2.2.1.trans hL.2.1.symm) hown (hts _ hlink) (hts _ mm_mnS) (hts _ mm_mnI) (hts _ mm_mnC) hst.1.1.1 (by rw [hl2.cats]; exact hst.1.1.2) hst.1.2 hst.2 hd (kk hY p e s m args below meth c D A sa al0 al hC he ws H locs ls _ hH hS hL (hl2.pi _))
theorem mg_copy {ix nx j a0 a1 n0 n1 : Nat} {v sp dp z : Int32} {f g : Nat → Int32} (hq : mm_at (mm_tab Y) pc = some (.invokestatic ix, nx, j, v)) (hu : mm_mu[j]? = some (mm_cn Y, ix, 7, arraycopyName, 5)) (hM0 : M[a0]? = some (.inl (0, n0, .inl f))) (hM1 : M[a1]? = some (.inl (0, n1, .inl g))) (h1 : ¬ sp < 0) (h2 : ¬ dp < 0) (h3 : ¬ z < 0) (h4 : sp.toNatClampNeg + z.toNatClampNeg ≤ n0) (h5 : dp.toNatClampNeg + z.toNatClampNeg ≤ n1)
    (hst : (Nat.ble 1 (mm_rm Y).frames && Nat.ble ((S.map fun v => v.category).sum + (nativeFrameWords "java/lang/System" "arraycopy" 5 + 11)) (mm_rm Y).locals) = true) (kk : mm_Go l sc Y k n (M.set a1 (.inl (0, n1, .inl (va_cpy f g sp.toNatClampNeg dp.toNatClampNeg z.toNatClampNeg)))) L S nx Q) : mm_Go l sc Y k n M L (.int z :: .int dp :: .ref a1 :: .int sp :: .ref a0 :: S) pc Q := by
  intro hY p e s m args below meth c D A sa al0 al hC he ws H locs ls st hH hS hL hl
  have hm := mm_at_mem hq
  have hd := hY.1 _ hm
  have ho := hY.2.1 _ hm
  simp only [mm_ok, decide_eq_true_eq] at ho
  simp only [Bool.and_eq_true, Nat.ble_eq] at hst
  subst ho
  have henv := hC.2.2.2.2.2.2.2.2.2.1
  have hts := hC.2.2.2.2.2.2.2.1
  have hown := hC.2.2.2.2.2.2.1
  obtain ⟨hlink, -⟩ := mm_mu_ok j _ hu
  obtain ⟨st1, rfl, hl1⟩ := hl.i
  obtain ⟨st2, rfl, hl2⟩ := hl1.i
  obtain ⟨b1, st3, rfl, hb1, hl3⟩ := hl2.r
  obtain ⟨st4, rfl, hl4⟩ := hl3.i
  obtain ⟨b0, st5, rfl, hb0, hl5⟩ := hl4.r
  obtain ⟨x0, e0, p1, p2, p3⟩ := hH.1.2.2 a0 _ hM0
  cases Option.some.inj (hb0.symm.trans p1)
  obtain ⟨cA, y0, rfl, hy0, g1, g2⟩ := p3
  have hy0' : y0 = .inl f := hy0
  subst hy0'
  obtain ⟨x1, e1, q1, q2, q3⟩ := hH.1.2.2 a1 _ hM1
  cases Option.some.inj (hb1.symm.trans q1)
  obtain ⟨cB, y1, rfl, hy1, g3, g4⟩ := q3
  have hy1' : y1 = .inl g := hy1
  subst hy1'
  have hK2 : va_K D mm_cl [(cA, .int), (cB, .int)] s := (mm_K1 henv.1 g1 g2).app (mm_K1 henv.1 g3 g4)
  exact va_copyi hC.1 hC.2.1 (hC.2.2.1.trans hL.2.1.symm) hown (hts _ hlink) (hts _ mm_acN) (hts _ mm_acS) (hts _ mm_acI) hK2 hH.2.1 hH.2.2 hS a0 a1 0 1 p2 q2 rfl rfl rfl h1 h2 h3 h4 h5 (fun _ _ => rfl) hst.1 (by rw [hl5.cats]; exact hst.2) hd (fun H1 locs1 r1 r2 r3 => kk hY p e s m args below meth c D A sa al0 al hC he _ H1 locs1 ls _ ⟨hH.1.set hb1 ⟨cB, _, rfl, rfl, g3, g4⟩, r1, r2⟩ r3 hL hl5)
end
end
section
/-! Rules with natural numbers; fields of cells that are known by a hypothesis. -/
def mm_cN (o : Jvm.ClassFile.Cond) (a b : Nat) : Prop := match o with
  | .eq => a = b
  | .ne => ¬ a = b
  | .lt => a < b
  | .ge => b ≤ a
  | .gt => b < a
  | .le => a ≤ b
theorem mm_cN_ok {o : Jvm.ClassFile.Cond} {a b : Nat} (ha : a < 2 ^ 31) (hb : b < 2 ^ 31) : mm_cc o (nI a) (nI b) ↔ mm_cN o a b := by
  cases o
  · exact nI_eq ha hb
  · exact not_congr (nI_eq ha hb)
  · exact nI_ltI ha hb
  · exact nI_leI hb ha
  · exact nI_ltI hb ha
  · exact nI_leI ha hb
section
variable {l : Launch} {sc : Nat × (Nat → Int32)} {Y : mm_Y} {k n : Nat} {M M' : mm_M} {L L' : mm_L} {S S' : List Value} {pc : Nat} {Q : mm_O → mm_M → Prop}
theorem mg_x {q : mm_In} (hq : mm_at (mm_tab Y) pc = some q) (hx : mm_x q M L S = some (M', L', S')) (kk : mm_Go l sc Y k n M' L' S' q.2.1 Q) : mm_Go l sc Y k n M L S pc Q :=
  fun hY p e s m args below meth c D A sa al0 al hC he => mx_all hC hY (mm_at_mem hq) hx (kk hY p e s m args below meth c D A sa al0 al hC he)
theorem mg_icmpN {o : Jvm.ClassFile.Cond} {off : Int} {nx tg a b : Nat} {v : Int32} (hq : mm_at (mm_tab Y) pc = some (.if_icmp o off, nx, tg, v)) (ha : a < 2 ^ 31) (hb : b < 2 ^ 31) (kt : mm_cN o a b → mm_Go l sc Y k n M L S tg Q) (kf : ¬ mm_cN o a b → mm_Go l sc Y k n M L S nx Q) : mm_Go l sc Y k n M L (.int (nI b) :: .int (nI a) :: S) pc Q :=
  mg_icmp hq (fun h => kt ((mm_cN_ok ha hb).mp h)) (fun h => kf (fun h9 => h ((mm_cN_ok ha hb).mpr h9)))
theorem mg_ifN {o : Jvm.ClassFile.Cond} {off : Int} {nx tg a : Nat} {v : Int32} (hq : mm_at (mm_tab Y) pc = some (.ifCond o off, nx, tg, v)) (ha : a < 2 ^ 31) (kt : mm_cN o a 0 → mm_Go l sc Y k n M L S tg Q) (kf : ¬ mm_cN o a 0 → mm_Go l sc Y k n M L S nx Q) : mm_Go l sc Y k n M L (.int (nI a) :: S) pc Q :=
  mg_if hq (fun h => kt ((mm_cN_ok ha (by decide)).mp h)) (fun h => kf (fun h9 => h ((mm_cN_ok ha (by decide)).mpr h9)))
theorem mg_addN {nx aux a b : Nat} {v : Int32} (hq : mm_at (mm_tab Y) pc = some (.iadd, nx, aux, v)) (kk : mm_Go l sc Y k n M L (.int (nI (a + b)) :: S) nx Q) : mm_Go l sc Y k n M L (.int (nI b) :: .int (nI a) :: S) pc Q := by
  refine mg_x (M' := M) (L' := L) (S' := .int (nI a + nI b) :: S) hq rfl ?_
  rw [nI_add]; exact kk
theorem mg_subN {nx aux a b : Nat} {v : Int32} (hq : mm_at (mm_tab Y) pc = some (.isub, nx, aux, v)) (h : b ≤ a) (kk : mm_Go l sc Y k n M L (.int (nI (a - b)) :: S) nx Q) : mm_Go l sc Y k n M L (.int (nI b) :: .int (nI a) :: S) pc Q := by
  refine mg_x (M' := M) (L' := L) (S' := .int (nI a - nI b) :: S) hq rfl ?_
  rw [pk_sub h]; exact kk
theorem mg_mulN {nx aux a b : Nat} {v : Int32} (hq : mm_at (mm_tab Y) pc = some (.imul, nx, aux, v)) (kk : mm_Go l sc Y k n M L (.int (nI (a * b)) :: S) nx Q) : mm_Go l sc Y k n M L (.int (nI b) :: .int (nI a) :: S) pc Q := by
  refine mg_x (M' := M) (L' := L) (S' := .int (nI a * nI b) :: S) hq rfl ?_
  rw [pk_mul]; exact kk
theorem mg_incN {i nx aux a b : Nat} {z : Int} (hq : mm_at (mm_tab Y) pc = some (.iinc i z, nx, aux, nI b)) (hg : mm_get L i = some (.int (nI a))) (hs : mm_set L i (.int (nI (a + b))) = some L') (kk : mm_Go l sc Y k n M L' S nx Q) : mm_Go l sc Y k n M L S pc Q := by
  refine mg_x (M' := M) (L' := L') (S' := S) hq ?_ kk
  show (match mm_inc L i (nI b) with | some L' => some (M, L', S) | none => none) = _
  unfold mm_inc
  rw [hg]
  show (match mm_set L i (.int (nI a + nI b)) with | some L' => some (M, L', S) | none => none) = _
  rw [nI_add, hs]
theorem mg_decN {i nx aux a : Nat} {z : Int} (hq : mm_at (mm_tab Y) pc = some (.iinc i z, nx, aux, -1)) (hg : mm_get L i = some (.int (nI (a + 1)))) (hs : mm_set L i (.int (nI a)) = some L') (kk : mm_Go l sc Y k n M L' S nx Q) : mm_Go l sc Y k n M L S pc Q := by
  refine mg_x (M' := M) (L' := L') (S' := S) hq ?_ kk
  show (match mm_inc L i (-1) with | some L' => some (M, L', S) | none => none) = _
  unfold mm_inc
  rw [hg]
  show (match mm_set L i (.int (nI (a + 1) + -1)) with | some L' => some (M, L', S) | none => none) = _
  rw [pk_m1, hs]
theorem mg_get {ix nx j cn ix2 ci kf a : Nat} {v : Int32} {fs : List Value} {w : Value} (hq : mm_at (mm_tab Y) pc = some (.getfield ix, nx, j, v)) (hf : mm_fu[j]? = some (cn, ix2, ci, kf)) (hM : M[a]? = some (.inr (ci, fs))) (hv : fs[kf]? = some w) (kk : mm_Go l sc Y k n M L (w :: S) nx Q) : mm_Go l sc Y k n M L (.ref a :: S) pc Q := by
  refine mg_x (M' := M) (L' := L) (S' := w :: S) hq ?_ kk
  show mm_s M L (mm_gf M (.ref a :: S) j) = _
  have hb : Nat.beq ci ci = true := Nat.beq_refl ci
  simp only [mm_gf, hf, mm_ob, hM, hb, hv, mm_s]
theorem mg_put {ix nx j cn ix2 ci kf a : Nat} {v : Int32} {fs : List Value} {w : Value} (hq : mm_at (mm_tab Y) pc = some (.putfield ix, nx, j, v)) (hf : mm_fu[j]? = some (cn, ix2, ci, kf)) (hM : M[a]? = some (.inr (ci, fs))) (hl : Nat.blt kf fs.length = true) (hw : mm_fit (mm_tf ci kf) w = true) (kk : mm_Go l sc Y k n (M.set a (.inr (ci, fs.set kf w))) L S nx Q) : mm_Go l sc Y k n M L (w :: .ref a :: S) pc Q := by
  refine mg_x (M' := M.set a (.inr (ci, fs.set kf w))) (L' := L) (S' := S) hq ?_ kk
  show (match mm_pf M (w :: .ref a :: S) j with | some (M', S') => some (M', L, S') | none => none) = _
  have hb : Nat.beq ci ci = true := Nat.beq_refl ci
  simp only [mm_pf, hf, mm_ob, hM, hb, hl, hw]
theorem mg_ildN {nx aux N a j : Nat} {v : Int32} {f : Nat → Int32} (hq : mm_at (mm_tab Y) pc = some (.iaload, nx, aux, v)) (hM : M[a]? = some (.inl (0, N, .inl f))) (hN : N < 2 ^ 31) (hj : j < N) (kk : mm_Go l sc Y k n M L (.int (f j) :: S) nx Q) : mm_Go l sc Y k n M L (.int (nI j) :: .ref a :: S) pc Q :=
  mg_iald hq hM (vp_in_nI hj hN) (by rw [nI_clamp (Nat.lt_trans hj hN)]; exact kk)
theorem mg_istN {nx aux N a j : Nat} {v z : Int32} {f : Nat → Int32} (hq : mm_at (mm_tab Y) pc = some (.iastore, nx, aux, v)) (hM : M[a]? = some (.inl (0, N, .inl f))) (hN : N < 2 ^ 31) (hj : j < N) (kk : mm_Go l sc Y k n (M.set a (.inl (0, N, .inl (upd f j z)))) L S nx Q) : mm_Go l sc Y k n M L (.int z :: .int (nI j) :: .ref a :: S) pc Q :=
  mg_iast hq hM (vp_in_nI hj hN) (by rw [nI_clamp (Nat.lt_trans hj hN)]; exact kk)
end
end
section
/-! 'throw new E("text")' as one step. -/
def mm_sup : List String := ["java/lang/RuntimeException", "java/lang/Exception"]
def mm_xsP (q : Nat × Nat × Nat × Nat × Nat × String) : Prop := Cond.classLink (mm_nm q.1) q.2.1 (mm_xn q.2.2.2.2.1) ∈ mm_tbl ∧ Cond.initialized (mm_xn q.2.2.2.2.1) ∈ mm_tbl ∧ (mm_nm q.1, q.2.2.1, q.2.2.2.2.2) ∈ mm_st ∧ Bundle.fit (mm_xn q.2.2.2.2.1) = true ∧
  ((vx_atS (mm_nm q.1) q.2.2.2.1 (mm_xn q.2.2.2.2.1) mm_sup).all fun w => (goodWord w && decide (w ∈ lw_tbl)) || (mm_ca.any (fun z => decide (w = .castable z.1 z.2)) || mm_de.any (fun y => decide (w = .declares y)))) = true
theorem mm_sup_fit : ∀ n ∈ mm_sup, Bundle.fit n = true := by decide +kernel
section
variable {l : Launch} {sc : Nat × (Nat → Int32)} {Y : mm_Y} {k n : Nat} {M : mm_M} {L : mm_L} {S : List Value} {pc : Nat} {Q : mm_O → mm_M → Prop}
theorem mg_throw {ik is ic x n0 n3 n4 n6 n9 a0 a3 a4 a6 a9 : Nat} {text : String} {v0 v3 v4 v6 v9 : Int32} (hxs : mm_xsP (mm_cn Y, ik, is, ic, x, text)) (h0 : mm_at (mm_tab Y) pc = some (.new ik, n0, a0, v0)) (h3 : mm_at (mm_tab Y) (pc + 3) = some (.dup, n3, a3, v3)) (h4 : mm_at (mm_tab Y) (pc + 4) = some (.ldc is, n4, a4, v4)) (h6 : mm_at (mm_tab Y) (pc + 6) = some (.invokespecial ic, n6, a6, v6)) (h9 : mm_at (mm_tab Y) (pc + 9) = some (.athrow, n9, a9, v9)) (hh : mm_hh Y = [])
    (hst : (Nat.ble 6 (mm_rm Y).frames && Nat.ble ((S.map fun v => v.category).sum + 82) (mm_rm Y).locals && Nat.ble (k + 1) (mm_rm Y).cells && Nat.ble (n + 6) (mm_rm Y).slots) = true) (hl : l.stackTraces = false) (hQ : Q (.inr x) M) : mm_Go l sc Y k n M L S pc Q := by
  intro hY p e s m args below meth c D A sa al0 al hC he ws H locs ls st hH hS hL hl0
  have d0 := hY.1 _ (mm_at_mem h0)
  have d3 := hY.1 _ (mm_at_mem h3)
  have d4 := hY.1 _ (mm_at_mem h4)
  have d6 := hY.1 _ (mm_at_mem h6)
  have d9 := hY.1 _ (mm_at_mem h9)
  simp only [Bool.and_eq_true, Nat.ble_eq] at hst
  have henv := hC.2.2.2.2.2.2.2.2.2.1
  have hts := hC.2.2.2.2.2.2.2.1
  have hown := hC.2.2.2.2.2.2.1
  have htb := hC.2.2.2.2.2.2.2.2.1
  obtain ⟨x1, x2, x3, x4, x5⟩ := hxs
  obtain ⟨sa9, hstr⟩ := henv.2.2.2.2.1 _ x3
  have hw : ∀ w ∈ vx_atS (mm_nm (mm_cn Y)) ic (mm_xn x) mm_sup, w.before args s = true ∧ vx_ot w = true := fun w hw => by
    have h := List.all_eq_true.mp x5 w hw
    simp only [Bool.or_eq_true, Bool.and_eq_true, decide_eq_true_eq, List.any_eq_true] at h
    rcases h with ⟨g1, g2⟩ | ⟨z, hz, rfl⟩ | ⟨z, hz, rfl⟩
    · exact ⟨hts w (mm_in g2 g1), by simp only [vx_ot, g1, Bool.or_true]⟩
    · exact ⟨va_Nw.use rfl (henv.2.2.2.2.2.2.1 z hz), rfl⟩
    · exact ⟨va_Nw.use rfl (henv.2.2.2.2.2.2.2.2.1 z hz), rfl⟩
  refine vx_throwS (own := mm_nm (mm_cn Y)) (cls := mm_xn x) (text := text) (names := mm_sup) (ik := ik) (is := is) (ic := ic) (sa := sa9) (A := A) hC.1 hC.2.1 hl hown x4 mm_sup_fit (hts _ x1) (hts _ x2) hstr (fun w h => (hw w h).1) (fun w h => ?_) henv.2.2.1 henv.2.2.2.1 hS (hL.2.1.trans hC.2.2.1.symm) d0 d3 d4 d6 d9 (fun y hy => ?_) hst.1.1.1 (by rw [hl0.cats]; exact hst.1.1.2) hst.1.2 hst.2 hC.2.2.2.2.1 (fun t hW hz hk => ?_) hS.2.2 hst.1.2 hst.2
  · rcases List.mem_cons.mp h with rfl | h
    · simp only [vx_ot, (List.mem_filter.mp x1).2, Bool.or_true]
    · rcases List.mem_cons.mp h with rfl | h
      · simp only [vx_ot, (List.mem_filter.mp x2).2, Bool.or_true]
      · exact (hw w h).2
  · rw [htb, hh] at hy
    cases hy
  · refine ⟨x, M, al, ws, rfl, hQ, he, ⟨hH.1.moved hW, hH.2.1.kept (fun i q hq => hk q.1 (hH.2.1 i q hq).lt), hH.2.2⟩, ⟨Nat.le_trans hS.1 hz, fun q h1 h2 => ?_⟩⟩
    rw [hk q (Nat.lt_of_lt_of_le h1 hS.1)]
    exact hS.2.1 q h1 h2
end
end
section
/-! What stays: cells outside P are as they were. -/
def mm_on (P : Nat → Prop) (M M' : mm_M) : Prop := ∀ i, ¬ P i → M'[i]? = M[i]?
theorem mm_on.rf (P : Nat → Prop) (M : mm_M) : mm_on P M M := fun _ _ => rfl
theorem mm_on.tr {P : Nat → Prop} {M M1 M2 : mm_M} (h1 : mm_on P M M1) (h2 : mm_on P M1 M2) : mm_on P M M2 := fun i hi => (h2 i hi).trans (h1 i hi)
theorem mm_on.wk {P P' : Nat → Prop} {M M1 : mm_M} (h : mm_on P M M1) (hp : ∀ i, P i → P' i) : mm_on P' M M1 := fun i hi => h i (fun h9 => hi (hp i h9))
theorem mm_on.set {P : Nat → Prop} (M : mm_M) {a : Nat} (e : va_E) (ha : P a) : mm_on P M (M.set a e) := fun i hi => by
  rw [List.getElem?_set_ne]
  intro h9
  subst h9
  exact hi ha
theorem mm_at_set {M : mm_M} {a : Nat} {e0 : va_E} (e : va_E) (h : M[a]? = some e0) : (M.set a e)[a]? = some e := by
  rw [List.getElem?_set_self (List.getElem?_eq_some_iff.mp h).1]
theorem mm_at_ne {M : mm_M} {a b : Nat} {e : va_E} {o : Option va_E} (hab : ¬ a = b) (h : M[b]? = o) : (M.set a e)[b]? = o := by
  rw [List.getElem?_set_ne hab]; exact h
/-- a Term at t, its codes at t + 1: a row, and whether it was too great -/
def te_is (M : mm_M) (t : Nat) (r : List Nat) (g : Nat) : Prop := ∃ f : Nat → Int32, M[t]? = some (.inr (6, [.ref (t + 1), .int (nI r.length), .int (nI g)])) ∧ M[t + 1]? = some (.inl (0, 2000, .inl f)) ∧ (∀ i, i < r.length → f i = nI (r.getD i 0)) ∧ r.length ≤ 2000 ∧ g ≤ 1
def te_P (t i : Nat) : Prop := i = t ∨ i = t + 1
theorem te_is.keep {P : Nat → Prop} {M M' : mm_M} {t g : Nat} {r : List Nat} (h : te_is M t r g) (hon : mm_on P M M') (h1 : ¬ P t) (h2 : ¬ P (t + 1)) : te_is M' t r g := by
  obtain ⟨f, a1, a2, a3, a4, a5⟩ := h
  exact ⟨f, by rw [hon t h1]; exact a1, by rw [hon (t + 1) h2]; exact a2, a3, a4, a5⟩
theorem te_is.len {M : mm_M} {t g : Nat} {r : List Nat} (h : te_is M t r g) : r.length ≤ 2000 := by
  obtain ⟨f, a1, a2, a3, a4, a5⟩ := h
  exact a4
/-- a writer: what it holds, and whether something was lost -/
def te_add (b : List Nat × Nat) (v : Nat) : List Nat × Nat := if b.1.length < 2000 then (b.1 ++ [v], b.2) else (b.1, 1)
def te_adds (b : List Nat × Nat) (p : List Nat) : List Nat × Nat := if b.1.length + p.length ≤ 2000 then (b.1 ++ p, b.2) else (b.1, 1)
end
section
/-! Printed by wip/whole/gen.py: the throws. -/
theorem mm_xs0 : mm_xsP (7, 66, 68, 70, 0, "1 to 8 bytes") := ⟨mm_in (mm_r1 _ (List.mem_of_getElem? (i := 204) rfl)) rfl, mm_in (mm_r1 _ (List.mem_of_getElem? (i := 13) rfl)) rfl, List.mem_of_getElem? (i := 0) rfl, by decide +kernel, by decide +kernel⟩
theorem mm_xs1 : mm_xsP (7, 77, 79, 81, 1, "the tape is full") := ⟨mm_in (mm_r2 _ (List.mem_of_getElem? (i := 36) rfl)) rfl, mm_in (mm_r1 _ (List.mem_of_getElem? (i := 14) rfl)) rfl, List.mem_of_getElem? (i := 1) rfl, by decide +kernel, by decide +kernel⟩
theorem mm_xs2 : mm_xsP (7, 66, 100, 70, 0, "the text is wrong") := ⟨mm_in (mm_r1 _ (List.mem_of_getElem? (i := 204) rfl)) rfl, mm_in (mm_r1 _ (List.mem_of_getElem? (i := 13) rfl)) rfl, List.mem_of_getElem? (i := 3) rfl, by decide +kernel, by decide +kernel⟩
theorem mm_xs3 : mm_xsP (7, 66, 106, 70, 0, "the text's term is too great") := ⟨mm_in (mm_r1 _ (List.mem_of_getElem? (i := 204) rfl)) rfl, mm_in (mm_r1 _ (List.mem_of_getElem? (i := 13) rfl)) rfl, List.mem_of_getElem? (i := 4) rfl, by decide +kernel, by decide +kernel⟩
theorem mm_xs4 : mm_xsP (7, 66, 183, 70, 0, "no such slot") := ⟨mm_in (mm_r1 _ (List.mem_of_getElem? (i := 204) rfl)) rfl, mm_in (mm_r1 _ (List.mem_of_getElem? (i := 13) rfl)) rfl, List.mem_of_getElem? (i := 2) rfl, by decide +kernel, by decide +kernel⟩
theorem mm_xs5 : mm_xsP (7, 113, 115, 117, 2, "outside the printing") := ⟨mm_in (mm_r2 _ (List.mem_of_getElem? (i := 209) rfl)) rfl, mm_in (mm_r1 _ (List.mem_of_getElem? (i := 16) rfl)) rfl, List.mem_of_getElem? (i := 5) rfl, by decide +kernel, by decide +kernel⟩
theorem mm_xs6 : mm_xsP (7, 77, 136, 81, 1, "the application is too great") := ⟨mm_in (mm_r2 _ (List.mem_of_getElem? (i := 36) rfl)) rfl, mm_in (mm_r1 _ (List.mem_of_getElem? (i := 14) rfl)) rfl, List.mem_of_getElem? (i := 7) rfl, by decide +kernel, by decide +kernel⟩
theorem mm_xs7 : mm_xsP (7, 77, 192, 81, 1, "the slot has no term") := ⟨mm_in (mm_r2 _ (List.mem_of_getElem? (i := 36) rfl)) rfl, mm_in (mm_r1 _ (List.mem_of_getElem? (i := 14) rfl)) rfl, List.mem_of_getElem? (i := 6) rfl, by decide +kernel, by decide +kernel⟩
theorem mm_xs8 : mm_xsP (7, 77, 146, 81, 1, "the abstraction is too great") := ⟨mm_in (mm_r2 _ (List.mem_of_getElem? (i := 36) rfl)) rfl, mm_in (mm_r1 _ (List.mem_of_getElem? (i := 14) rfl)) rfl, List.mem_of_getElem? (i := 9) rfl, by decide +kernel, by decide +kernel⟩
theorem mm_xs9 : mm_xsP (7, 66, 188, 70, 0, "no such letter") := ⟨mm_in (mm_r1 _ (List.mem_of_getElem? (i := 204) rfl)) rfl, mm_in (mm_r1 _ (List.mem_of_getElem? (i := 13) rfl)) rfl, List.mem_of_getElem? (i := 8) rfl, by decide +kernel, by decide +kernel⟩
theorem mm_xs10 : mm_xsP (7, 66, 190, 70, 0, "1 to 400 steps") := ⟨mm_in (mm_r1 _ (List.mem_of_getElem? (i := 204) rfl)) rfl, mm_in (mm_r1 _ (List.mem_of_getElem? (i := 13) rfl)) rfl, List.mem_of_getElem? (i := 10) rfl, by decide +kernel, by decide +kernel⟩
theorem mm_xs11 : mm_xsP (7, 77, 167, 81, 1, "the abstracted term is too great") := ⟨mm_in (mm_r2 _ (List.mem_of_getElem? (i := 36) rfl)) rfl, mm_in (mm_r1 _ (List.mem_of_getElem? (i := 14) rfl)) rfl, List.mem_of_getElem? (i := 11) rfl, by decide +kernel, by decide +kernel⟩
theorem mm_xs12 : mm_xsP (7, 77, 170, 81, 1, "the term is too great with two letters") := ⟨mm_in (mm_r2 _ (List.mem_of_getElem? (i := 36) rfl)) rfl, mm_in (mm_r1 _ (List.mem_of_getElem? (i := 14) rfl)) rfl, List.mem_of_getElem? (i := 12) rfl, by decide +kernel, by decide +kernel⟩
end
section
/-! Printed by wip/whole/gen.py: every method as a row of the small machine. -/
def Y_LB_init : mm_Y := ((⟨"LambdaBench", "<init>", "()V"⟩, 7), prog_1_method_1_code, 2, none, [], { frames := 3, cells := 75, slots := 69366, locals := 60 }, [(0, .aload_n 0, 1, 0, 0), (1, .invokespecial 1, 4, 0, 0), (4, .aload_n 0, 5, 0, 0), (5, .bipush 12, 7, 0, nI 12), (7, .anewarray 9, 10, 0, 0), (10, .putfield 11, 13, 0, 0), (13, .iconst 0, 14, 0, nI 0), (14, .istore_n 1, 15, 0, 0), (15, .iload_n 1, 16, 0, 0), (16, .bipush 12, 18, 0, nI 12), (18, .if_icmp .ge 22, 21, 40, 0), (21, .aload_n 0, 22, 0, 0), (22, .getfield 11, 25, 0, 0), (25, .iload_n 1, 26, 0, 0), (26, .new 9, 29, 0, 0), (29, .dup, 30, 0, 0), (30, .invokespecial 15, 33, 1, 0), (33, .aastore, 34, 0, 0), (34, .iinc 1 1, 37, 0, nI 1), (37, .goto (-22), 15, 0, 0), (40, .aload_n 0, 41, 0, 0), (41, .new 9, 44, 0, 0), (44, .dup, 45, 0, 0), (45, .invokespecial 15, 48, 1, 0), (48, .putfield 16, 51, 1, 0), (51, .aload_n 0, 52, 0, 0), (52, .new 20, 55, 1, 0), (55, .dup, 56, 0, 0), (56, .invokespecial 22, 59, 2, 0), (59, .putfield 23, 62, 2, 0), (62, .aload_n 0, 63, 0, 0), (63, .new 27, 66, 2, 0), (66, .dup, 67, 0, 0), (67, .invokespecial 29, 70, 3, 0), (70, .putfield 30, 73, 3, 0), (73, .aload_n 0, 74, 0, 0), (74, .new 34, 77, 3, 0), (77, .dup, 78, 0, 0), (78, .invokespecial 36, 81, 4, 0), (81, .putfield 37, 84, 4, 0), (84, .aload_n 0, 85, 0, 0), (85, .new 41, 88, 4, 0), (88, .dup, 89, 0, 0), (89, .invokespecial 43, 92, 5, 0), (92, .putfield 44, 95, 5, 0), (95, .aload_n 0, 96, 0, 0), (96, .new 48, 99, 5, 0), (99, .dup, 100, 0, 0), (100, .invokespecial 50, 103, 6, 0), (103, .putfield 51, 106, 6, 0), (106, .aload_n 0, 107, 0, 0), (107, .new 55, 110, 6, 0), (110, .dup, 111, 0, 0), (111, .invokespecial 57, 114, 7, 0), (114, .putfield 58, 117, 7, 0), (117, .aload_n 0, 118, 0, 0), (118, .iconst (-1), 119, 0, (-1)), (119, .putfield 62, 122, 8, 0), (122, .return_, 123, 0, 0)])
theorem k_LB_init : mm_okY Y_LB_init := ⟨by decide +kernel, by decide +kernel, rfl, by decide⟩
theorem w_LB_init : mm_cw Y_LB_init ∈ mm_tbl := mm_in (mm_r1 _ (List.mem_of_getElem? (i := 22) rfl)) rfl
def Y_Te_init : mm_Y := ((⟨"LambdaBench$Term", "<init>", "()V"⟩, 6), prog_8_method_1_code, 1, none, [], { frames := 1, cells := 1, slots := 2000, locals := 20 }, [(0, .aload_n 0, 1, 0, 0), (1, .invokespecial 3, 4, 8, 0), (4, .aload_n 0, 5, 0, 0), (5, .sipush 2000, 8, 0, nI 2000), (8, .newarray .int, 10, 0, 0), (10, .putfield 9, 13, 9, 0), (13, .return_, 14, 0, 0)])
theorem k_Te_init : mm_okY Y_Te_init := ⟨by decide +kernel, by decide +kernel, rfl, by decide⟩
theorem w_Te_init : mm_cw Y_Te_init ∈ mm_tbl := mm_in (mm_r1 _ (List.mem_of_getElem? (i := 31) rfl)) rfl
def Y_Ta_init : mm_Y := ((⟨"LambdaBench$Tape", "<init>", "()V"⟩, 5), prog_7_method_1_code, 1, none, [], { frames := 1, cells := 1, slots := 400, locals := 20 }, [(0, .aload_n 0, 1, 0, 0), (1, .invokespecial 3, 4, 9, 0), (4, .aload_n 0, 5, 0, 0), (5, .sipush 400, 8, 0, nI 400), (8, .newarray .int, 10, 0, 0), (10, .putfield 9, 13, 10, 0), (13, .return_, 14, 0, 0)])
theorem k_Ta_init : mm_okY Y_Ta_init := ⟨by decide +kernel, by decide +kernel, rfl, by decide⟩
theorem w_Ta_init : mm_cw Y_Ta_init ∈ mm_tbl := mm_in (mm_r1 _ (List.mem_of_getElem? (i := 48) rfl)) rfl
def Y_Gr_init : mm_Y := ((⟨"LambdaBench$Grammar", "<init>", "()V"⟩, 3), prog_5_method_1_code, 1, none, [], { frames := 1, cells := 2, slots := 421, locals := 20 }, [(0, .aload_n 0, 1, 0, 0), (1, .invokespecial 3, 4, 10, 0), (4, .aload_n 0, 5, 0, 0), (5, .sipush 401, 8, 0, nI 401), (8, .newarray .int, 10, 0, 0), (10, .putfield 9, 13, 11, 0), (13, .aload_n 0, 14, 0, 0), (14, .bipush 20, 16, 0, nI 20), (16, .newarray .int, 18, 0, 0), (18, .putfield 15, 21, 12, 0), (21, .return_, 22, 0, 0)])
theorem k_Gr_init : mm_okY Y_Gr_init := ⟨by decide +kernel, by decide +kernel, rfl, by decide⟩
theorem w_Gr_init : mm_cw Y_Gr_init ∈ mm_tbl := mm_in (mm_r1 _ (List.mem_of_getElem? (i := 61) rfl)) rfl
def Y_Bu_init : mm_Y := ((⟨"LambdaBench$Builder", "<init>", "()V"⟩, 1), prog_3_method_1_code, 1, none, [], { frames := 1, cells := 2, slots := 420, locals := 20 }, [(0, .aload_n 0, 1, 0, 0), (1, .invokespecial 3, 4, 11, 0), (4, .aload_n 0, 5, 0, 0), (5, .sipush 400, 8, 0, nI 400), (8, .newarray .int, 10, 0, 0), (10, .putfield 9, 13, 13, 0), (13, .aload_n 0, 14, 0, 0), (14, .bipush 20, 16, 0, nI 20), (16, .newarray .int, 18, 0, 0), (18, .putfield 15, 21, 14, 0), (21, .return_, 22, 0, 0)])
theorem k_Bu_init : mm_okY Y_Bu_init := ⟨by decide +kernel, by decide +kernel, rfl, by decide⟩
theorem w_Bu_init : mm_cw Y_Bu_init ∈ mm_tbl := mm_in (mm_r1 _ (List.mem_of_getElem? (i := 83) rfl)) rfl
def Y_De_init : mm_Y := ((⟨"LambdaBench$Depths", "<init>", "()V"⟩, 2), prog_4_method_1_code, 1, none, [], { frames := 1, cells := 2, slots := 4002, locals := 20 }, [(0, .aload_n 0, 1, 0, 0), (1, .invokespecial 3, 4, 12, 0), (4, .aload_n 0, 5, 0, 0), (5, .sipush 2000, 8, 0, nI 2000), (8, .newarray .int, 10, 0, 0), (10, .putfield 9, 13, 15, 0), (13, .aload_n 0, 14, 0, 0), (14, .sipush 2002, 17, 0, nI 2002), (17, .newarray .int, 19, 0, 0), (19, .putfield 15, 22, 16, 0), (22, .return_, 23, 0, 0)])
theorem k_De_init : mm_okY Y_De_init := ⟨by decide +kernel, by decide +kernel, rfl, by decide⟩
theorem w_De_init : mm_cw Y_De_init ∈ mm_tbl := mm_in (mm_r1 _ (List.mem_of_getElem? (i := 102) rfl)) rfl
def Y_Re_init : mm_Y := ((⟨"LambdaBench$Reducer", "<init>", "()V"⟩, 4), prog_6_method_1_code, 1, none, [], { frames := 2, cells := 7, slots := 8010, locals := 40 }, [(0, .aload_n 0, 1, 0, 0), (1, .invokespecial 3, 4, 13, 0), (4, .aload_n 0, 5, 0, 0), (5, .new 9, 8, 7, 0), (8, .dup, 9, 0, 0), (9, .invokespecial 11, 12, 14, 0), (12, .putfield 12, 15, 17, 0), (15, .aload_n 0, 16, 0, 0), (16, .new 18, 19, 8, 0), (19, .dup, 20, 0, 0), (20, .invokespecial 20, 23, 15, 0), (23, .putfield 21, 26, 18, 0), (26, .aload_n 0, 27, 0, 0), (27, .new 18, 30, 8, 0), (30, .dup, 31, 0, 0), (31, .invokespecial 20, 34, 15, 0), (34, .putfield 25, 37, 19, 0), (37, .aload_n 0, 38, 0, 0), (38, .iconst 0, 39, 0, nI 0), (39, .putfield 28, 42, 20, 0), (42, .return_, 43, 0, 0)])
theorem k_Re_init : mm_okY Y_Re_init := ⟨by decide +kernel, by decide +kernel, rfl, by decide⟩
theorem w_Re_init : mm_cw Y_Re_init ∈ mm_tbl := mm_in (mm_r1 _ (List.mem_of_getElem? (i := 115) rfl)) rfl
def Y_Ab_init : mm_Y := ((⟨"LambdaBench$Abstractor", "<init>", "()V"⟩, 0), prog_2_method_1_code, 1, none, [], { frames := 2, cells := 6, slots := 8008, locals := 40 }, [(0, .aload_n 0, 1, 0, 0), (1, .invokespecial 3, 4, 16, 0), (4, .aload_n 0, 5, 0, 0), (5, .sipush 2001, 8, 0, nI 2001), (8, .newarray .int, 10, 0, 0), (10, .putfield 9, 13, 21, 0), (13, .aload_n 0, 14, 0, 0), (14, .sipush 2001, 17, 0, nI 2001), (17, .newarray .int, 19, 0, 0), (19, .putfield 15, 22, 22, 0), (22, .aload_n 0, 23, 0, 0), (23, .new 18, 26, 9, 0), (26, .dup, 27, 0, 0), (27, .invokespecial 20, 30, 17, 0), (30, .putfield 21, 33, 23, 0), (33, .aload_n 0, 34, 0, 0), (34, .new 18, 37, 9, 0), (37, .dup, 38, 0, 0), (38, .invokespecial 20, 41, 17, 0), (41, .putfield 25, 44, 24, 0), (44, .return_, 45, 0, 0)])
theorem k_Ab_init : mm_okY Y_Ab_init := ⟨by decide +kernel, by decide +kernel, rfl, by decide⟩
theorem w_Ab_init : mm_cw Y_Ab_init ∈ mm_tbl := mm_in (mm_r1 _ (List.mem_of_getElem? (i := 138) rfl)) rfl
def Y_LB_place : mm_Y := ((⟨"LambdaBench", "place", "()I"⟩, 7), prog_1_method_4_code, 1, (some .int), [], { frames := 0, cells := 0, slots := 0, locals := 0 }, [(0, .aload_n 0, 1, 0, 0), (1, .getfield 62, 4, 8, 0), (4, .ireturn, 5, 0, 0)])
theorem k_LB_place : mm_okY Y_LB_place := ⟨by decide +kernel, by decide +kernel, rfl, by decide⟩
theorem w_LB_place : mm_cw Y_LB_place ∈ mm_tbl := mm_in (mm_r1 _ (List.mem_of_getElem? (i := 186) rfl)) rfl
def Y_LB_how : mm_Y := ((⟨"LambdaBench", "how", "()I"⟩, 7), prog_1_method_12_code, 1, (some .int), [], { frames := 1, cells := 0, slots := 0, locals := 20 }, [(0, .aload_n 0, 1, 0, 0), (1, .getfield 51, 4, 6, 0), (4, .invokevirtual 161, 7, 18, 0), (7, .ireturn, 8, 0, 0)])
theorem k_LB_how : mm_okY Y_LB_how := ⟨by decide +kernel, by decide +kernel, rfl, by decide⟩
theorem w_LB_how : mm_cw Y_LB_how ∈ mm_tbl := mm_in (mm_r1 _ (List.mem_of_getElem? (i := 190) rfl)) rfl
def Y_Re_outcome : mm_Y := ((⟨"LambdaBench$Reducer", "outcome", "()I"⟩, 4), prog_6_method_2_code, 1, (some .int), [], { frames := 0, cells := 0, slots := 0, locals := 0 }, [(0, .aload_n 0, 1, 0, 0), (1, .getfield 28, 4, 20, 0), (4, .ireturn, 5, 0, 0)])
theorem k_Re_outcome : mm_okY Y_Re_outcome := ⟨by decide +kernel, by decide +kernel, rfl, by decide⟩
theorem w_Re_outcome : mm_cw Y_Re_outcome ∈ mm_tbl := mm_in (mm_r1 _ (List.mem_of_getElem? (i := 194) rfl)) rfl
def Y_La_feed : mm_Y := ((⟨"LambdaBenchLaw", "feed", "(LLambdaBench;JI[J)I"⟩, 9), method_3_code, 6, (some .int), [(0, 11, 14, 13), (0, 11, 18, 15)], { frames := 7, cells := 2, slots := 12, locals := 114 }, [(0, .aload 4, 2, 0, 0), (2, .iconst 0, 3, 0, nI 0), (3, .aload_n 0, 4, 0, 0), (4, .lload_n 1, 5, 0, 0), (5, .iload_n 3, 6, 0, 0), (6, .invokevirtual 7, 9, 19, 0), (9, .i2l, 10, 0, 0), (10, .lastore, 11, 0, 0), (11, .goto 11, 22, 0, 0), (14, .astore 5, 16, 0, 0), (16, .iconst 1, 17, 0, nI 1), (17, .ireturn, 18, 0, 0), (18, .astore 5, 20, 0, 0), (20, .iconst 2, 21, 0, nI 2), (21, .ireturn, 22, 0, 0), (22, .iconst 0, 23, 0, nI 0), (23, .ireturn, 24, 0, 0)])
theorem k_La_feed : mm_okY Y_La_feed := ⟨by decide +kernel, by decide +kernel, rfl, by decide⟩
theorem w_La_feed : mm_cw Y_La_feed ∈ mm_tbl := mm_in (mm_r1 _ (List.mem_of_getElem? (i := 197) rfl)) rfl
def Y_LB_feed : mm_Y := ((⟨"LambdaBench", "feed", "(JI)I"⟩, 7), prog_1_method_2_code, 5, (some .int), [], { frames := 6, cells := 2, slots := 12, locals := 90 }, [(0, .iload_n 3, 1, 0, 0), (1, .iconst 1, 2, 0, nI 1), (2, .if_icmp .lt 9, 5, 11, 0), (5, .iload_n 3, 6, 0, 0), (6, .bipush 8, 8, 0, nI 8), (8, .if_icmp .le 13, 11, 21, 0), (11, .new 66, 14, 0, 0), (14, .dup, 15, 0, 0), (15, .ldc 68, 17, 0, 0), (17, .invokespecial 70, 20, 0, 0), (20, .athrow, 21, 0, 0), (21, .aload_n 0, 22, 0, 0), (22, .getfield 23, 25, 2, 0), (25, .invokevirtual 73, 28, 20, 0), (28, .iload_n 3, 29, 0, 0), (29, .iadd, 30, 0, 0), (30, .sipush 400, 33, 0, nI 400), (33, .if_icmp .le 13, 36, 46, 0), (36, .new 77, 39, 1, 0), (39, .dup, 40, 0, 0), (40, .ldc 79, 42, 0, 0), (42, .invokespecial 81, 45, 0, 0), (45, .athrow, 46, 0, 0), (46, .iload_n 3, 47, 0, 0), (47, .iconst 1, 48, 0, nI 1), (48, .isub, 49, 0, 0), (49, .istore 4, 51, 0, 0), (51, .iload 4, 53, 0, 0), (53, .ifCond .lt 28, 56, 81, 0), (56, .aload_n 0, 57, 0, 0), (57, .getfield 23, 60, 2, 0), (60, .lload_n 1, 61, 0, 0), (61, .bipush 8, 63, 0, nI 8), (63, .iload 4, 65, 0, 0), (65, .imul, 66, 0, 0), (66, .lushr, 67, 0, 0), (67, .l2i, 68, 0, 0), (68, .sipush 255, 71, 0, nI 255), (71, .iand, 72, 0, 0), (72, .invokevirtual 82, 75, 21, 0), (75, .iinc 4 (-1), 78, 0, (-1)), (78, .goto (-27), 51, 0, 0), (81, .aload_n 0, 82, 0, 0), (82, .getfield 23, 85, 2, 0), (85, .invokevirtual 73, 88, 20, 0), (88, .ireturn, 89, 0, 0)])
theorem k_LB_feed : mm_okY Y_LB_feed := ⟨by decide +kernel, by decide +kernel, rfl, by decide⟩
theorem w_LB_feed : mm_cw Y_LB_feed ∈ mm_tbl := mm_in (mm_r1 _ (List.mem_of_getElem? (i := 203) rfl)) rfl
def Y_Ta_length : mm_Y := ((⟨"LambdaBench$Tape", "length", "()I"⟩, 5), prog_7_method_2_code, 1, (some .int), [], { frames := 0, cells := 0, slots := 0, locals := 0 }, [(0, .aload_n 0, 1, 0, 0), (1, .getfield 15, 4, 25, 0), (4, .ireturn, 5, 0, 0)])
theorem k_Ta_length : mm_okY Y_Ta_length := ⟨by decide +kernel, by decide +kernel, rfl, by decide⟩
theorem w_Ta_length : mm_cw Y_Ta_length ∈ mm_tbl := mm_in (mm_r2 _ (List.mem_of_getElem? (i := 35) rfl)) rfl
def Y_Ta_add : mm_Y := ((⟨"LambdaBench$Tape", "add", "(I)V"⟩, 5), prog_7_method_5_code, 2, none, [], { frames := 0, cells := 0, slots := 0, locals := 0 }, [(0, .aload_n 0, 1, 0, 0), (1, .getfield 15, 4, 25, 0), (4, .sipush 400, 7, 0, nI 400), (7, .if_icmp .ge 23, 10, 30, 0), (10, .aload_n 0, 11, 0, 0), (11, .getfield 9, 14, 10, 0), (14, .aload_n 0, 15, 0, 0), (15, .getfield 15, 18, 25, 0), (18, .iload_n 1, 19, 0, 0), (19, .iastore, 20, 0, 0), (20, .aload_n 0, 21, 0, 0), (21, .dup, 22, 0, 0), (22, .getfield 15, 25, 25, 0), (25, .iconst 1, 26, 0, nI 1), (26, .iadd, 27, 0, 0), (27, .putfield 15, 30, 25, 0), (30, .return_, 31, 0, 0)])
theorem k_Ta_add : mm_okY Y_Ta_add := ⟨by decide +kernel, by decide +kernel, rfl, by decide⟩
theorem w_Ta_add : mm_cw Y_Ta_add ∈ mm_tbl := mm_in (mm_r2 _ (List.mem_of_getElem? (i := 55) rfl)) rfl
def Y_La_read : mm_Y := ((⟨"LambdaBenchLaw", "read", "(LLambdaBench;I[J)I"⟩, 9), method_4_code, 4, (some .int), [(0, 9, 12, 13)], { frames := 8, cells := 3, slots := 18, locals := 147 }, [(0, .aload_n 2, 1, 0, 0), (1, .iconst 0, 2, 0, nI 0), (2, .aload_n 0, 3, 0, 0), (3, .iload_n 1, 4, 0, 0), (4, .invokevirtual 17, 7, 22, 0), (7, .i2l, 8, 0, 0), (8, .lastore, 9, 0, 0), (9, .goto 6, 15, 0, 0), (12, .astore_n 3, 13, 0, 0), (13, .iconst 1, 14, 0, nI 1), (14, .ireturn, 15, 0, 0), (15, .iconst 0, 16, 0, nI 0), (16, .ireturn, 17, 0, 0)])
theorem k_La_read : mm_okY Y_La_read := ⟨by decide +kernel, by decide +kernel, rfl, by decide⟩
theorem w_La_read : mm_cw Y_La_read ∈ mm_tbl := mm_in (mm_r2 _ (List.mem_of_getElem? (i := 58) rfl)) rfl
def Y_LB_read : mm_Y := ((⟨"LambdaBench", "read", "(I)I"⟩, 7), prog_1_method_3_code, 2, (some .int), [], { frames := 7, cells := 3, slots := 18, locals := 126 }, [(0, .aload_n 0, 1, 0, 0), (1, .iload_n 1, 2, 0, 0), (2, .invokevirtual 86, 5, 23, 0), (5, .aload_n 0, 6, 0, 0), (6, .aload_n 0, 7, 0, 0), (7, .getfield 30, 10, 3, 0), (10, .aload_n 0, 11, 0, 0), (11, .getfield 23, 14, 2, 0), (14, .invokevirtual 89, 17, 24, 0), (17, .putfield 62, 20, 8, 0), (20, .aload_n 0, 21, 0, 0), (21, .getfield 62, 24, 8, 0), (24, .iconst (-1), 25, 0, (-1)), (25, .if_icmp .ne 22, 28, 47, 0), (28, .aload_n 0, 29, 0, 0), (29, .getfield 37, 32, 4, 0), (32, .aload_n 0, 33, 0, 0), (33, .getfield 23, 36, 2, 0), (36, .aload_n 0, 37, 0, 0), (37, .getfield 30, 40, 3, 0), (40, .aload_n 0, 41, 0, 0), (41, .getfield 16, 44, 1, 0), (44, .invokevirtual 93, 47, 25, 0), (47, .aload_n 0, 48, 0, 0), (48, .getfield 23, 51, 2, 0), (51, .invokevirtual 97, 54, 26, 0), (54, .aload_n 0, 55, 0, 0), (55, .getfield 62, 58, 8, 0), (58, .iconst (-1), 59, 0, (-1)), (59, .if_icmp .eq 13, 62, 72, 0), (62, .new 66, 65, 2, 0), (65, .dup, 66, 0, 0), (66, .ldc 100, 68, 0, 0), (68, .invokespecial 70, 71, 0, 0), (71, .athrow, 72, 0, 0), (72, .aload_n 0, 73, 0, 0), (73, .getfield 16, 76, 1, 0), (76, .invokevirtual 102, 79, 27, 0), (79, .ifCond .eq 13, 82, 92, 0), (82, .new 66, 85, 3, 0), (85, .dup, 86, 0, 0), (86, .ldc 106, 88, 0, 0), (88, .invokespecial 70, 91, 0, 0), (91, .athrow, 92, 0, 0), (92, .aload_n 0, 93, 0, 0), (93, .getfield 11, 96, 0, 0), (96, .iload_n 1, 97, 0, 0), (97, .aaload, 98, 0, 0), (98, .aload_n 0, 99, 0, 0), (99, .getfield 16, 102, 1, 0), (102, .invokevirtual 108, 105, 28, 0), (105, .aload_n 0, 106, 0, 0), (106, .getfield 16, 109, 1, 0), (109, .invokevirtual 112, 112, 29, 0), (112, .ireturn, 113, 0, 0)])
theorem k_LB_read : mm_okY Y_LB_read := ⟨by decide +kernel, by decide +kernel, rfl, by decide⟩
theorem w_LB_read : mm_cw Y_LB_read ∈ mm_tbl := mm_in (mm_r2 _ (List.mem_of_getElem? (i := 62) rfl)) rfl
def Y_LB_requireSlot : mm_Y := ((⟨"LambdaBench", "requireSlot", "(I)V"⟩, 7), prog_1_method_17_code, 2, none, [], { frames := 6, cells := 1, slots := 6, locals := 90 }, [(0, .iload_n 1, 1, 0, 0), (1, .ifCond .lt 9, 4, 10, 0), (4, .iload_n 1, 5, 0, 0), (5, .bipush 12, 7, 0, nI 12), (7, .if_icmp .lt 13, 10, 20, 0), (10, .new 66, 13, 4, 0), (13, .dup, 14, 0, 0), (14, .ldc 183, 16, 0, 0), (16, .invokespecial 70, 19, 0, 0), (19, .athrow, 20, 0, 0), (20, .return_, 21, 0, 0)])
theorem k_LB_requireSlot : mm_okY Y_LB_requireSlot := ⟨by decide +kernel, by decide +kernel, rfl, by decide⟩
theorem w_LB_requireSlot : mm_cw Y_LB_requireSlot ∈ mm_tbl := mm_in (mm_r2 _ (List.mem_of_getElem? (i := 66) rfl)) rfl
def Y_Gr_firstWrong : mm_Y := ((⟨"LambdaBench$Grammar", "firstWrong", "(LLambdaBench$Tape;)I"⟩, 3), prog_5_method_3_code, 3, (some .int), [], { frames := 4, cells := 0, slots := 0, locals := 86 }, [(0, .aload_n 0, 1, 0, 0), (1, .iconst 0, 2, 0, nI 0), (2, .putfield 18, 5, 26, 0), (5, .aload_n 0, 6, 0, 0), (6, .iconst 0, 7, 0, nI 0), (7, .invokevirtual 22, 10, 30, 0), (10, .iconst 0, 11, 0, nI 0), (11, .istore_n 2, 12, 0, 0), (12, .iload_n 2, 13, 0, 0), (13, .aload_n 1, 14, 0, 0), (14, .invokevirtual 26, 17, 31, 0), (17, .if_icmp .ge 24, 20, 41, 0), (20, .aload_n 0, 21, 0, 0), (21, .aload_n 1, 22, 0, 0), (22, .iload_n 2, 23, 0, 0), (23, .invokevirtual 32, 26, 32, 0), (26, .iload_n 2, 27, 0, 0), (27, .invokevirtual 36, 30, 33, 0), (30, .ifCond .ne 5, 33, 35, 0), (33, .iload_n 2, 34, 0, 0), (34, .ireturn, 35, 0, 0), (35, .iinc 2 1, 38, 0, nI 1), (38, .goto (-26), 12, 0, 0), (41, .aload_n 0, 42, 0, 0), (42, .invokevirtual 40, 45, 34, 0), (45, .ifCond .eq 7, 48, 52, 0), (48, .iconst (-1), 49, 0, (-1)), (49, .goto 7, 56, 0, 0), (52, .aload_n 1, 53, 0, 0), (53, .invokevirtual 26, 56, 31, 0), (56, .ireturn, 57, 0, 0)])
theorem k_Gr_firstWrong : mm_okY Y_Gr_firstWrong := ⟨by decide +kernel, by decide +kernel, rfl, by decide⟩
theorem w_Gr_firstWrong : mm_cw Y_Gr_firstWrong ∈ mm_tbl := mm_in (mm_r2 _ (List.mem_of_getElem? (i := 71) rfl)) rfl
def Y_Gr_beginTerm : mm_Y := ((⟨"LambdaBench$Grammar", "beginTerm", "(I)V"⟩, 3), prog_5_method_4_code, 2, none, [], { frames := 0, cells := 0, slots := 0, locals := 0 }, [(0, .aload_n 0, 1, 0, 0), (1, .iconst 0, 2, 0, nI 0), (2, .putfield 44, 5, 27, 0), (5, .aload_n 0, 6, 0, 0), (6, .iload_n 1, 7, 0, 0), (7, .putfield 47, 10, 28, 0), (10, .aload_n 0, 11, 0, 0), (11, .getfield 9, 14, 11, 0), (14, .aload_n 0, 15, 0, 0), (15, .getfield 47, 18, 28, 0), (18, .iconst 0, 19, 0, nI 0), (19, .iastore, 20, 0, 0), (20, .return_, 21, 0, 0)])
theorem k_Gr_beginTerm : mm_okY Y_Gr_beginTerm := ⟨by decide +kernel, by decide +kernel, rfl, by decide⟩
theorem w_Gr_beginTerm : mm_cw Y_Gr_beginTerm ∈ mm_tbl := mm_in (mm_r2 _ (List.mem_of_getElem? (i := 75) rfl)) rfl
def Y_Ta_at : mm_Y := ((⟨"LambdaBench$Tape", "at", "(I)I"⟩, 5), prog_7_method_3_code, 2, (some .int), [], { frames := 0, cells := 0, slots := 0, locals := 0 }, [(0, .iload_n 1, 1, 0, 0), (1, .ifCond .lt 20, 4, 21, 0), (4, .iload_n 1, 5, 0, 0), (5, .aload_n 0, 6, 0, 0), (6, .getfield 15, 9, 25, 0), (9, .if_icmp .ge 12, 12, 21, 0), (12, .aload_n 0, 13, 0, 0), (13, .getfield 9, 16, 10, 0), (16, .iload_n 1, 17, 0, 0), (17, .iaload, 18, 0, 0), (18, .goto 4, 22, 0, 0), (21, .iconst 0, 22, 0, nI 0), (22, .ireturn, 23, 0, 0)])
theorem k_Ta_at : mm_okY Y_Ta_at := ⟨by decide +kernel, by decide +kernel, rfl, by decide⟩
theorem w_Ta_at : mm_cw Y_Ta_at ∈ mm_tbl := mm_in (mm_r2 _ (List.mem_of_getElem? (i := 80) rfl)) rfl
def Y_Gr_accepts : mm_Y := ((⟨"LambdaBench$Grammar", "accepts", "(II)Z"⟩, 3), prog_5_method_6_code, 3, (some .boolean), [], { frames := 3, cells := 0, slots := 0, locals := 64 }, [(0, .aload_n 0, 1, 0, 0), (1, .getfield 44, 4, 27, 0), (4, .iconst 3, 5, 0, nI 3), (5, .if_icmp .ne 13, 8, 18, 0), (8, .aload_n 0, 9, 0, 0), (9, .iconst 4, 10, 0, nI 4), (10, .putfield 44, 13, 27, 0), (13, .iload_n 1, 14, 0, 0), (14, .invokestatic 50, 17, 35, 0), (17, .ireturn, 18, 0, 0), (18, .aload_n 0, 19, 0, 0), (19, .getfield 44, 22, 27, 0), (22, .iconst 4, 23, 0, nI 4), (23, .if_icmp .ne 17, 26, 40, 0), (26, .aload_n 0, 27, 0, 0), (27, .iconst 0, 28, 0, nI 0), (28, .putfield 44, 31, 27, 0), (31, .iload_n 1, 32, 0, 0), (32, .invokestatic 50, 35, 35, 0), (35, .ifCond .eq 5, 38, 40, 0), (38, .iconst 1, 39, 0, nI 1), (39, .ireturn, 40, 0, 0), (40, .iload_n 1, 41, 0, 0), (41, .bipush 32, 43, 0, nI 32), (43, .if_icmp .ne 5, 46, 48, 0), (46, .iconst 1, 47, 0, nI 1), (47, .ireturn, 48, 0, 0), (48, .aload_n 0, 49, 0, 0), (49, .getfield 44, 52, 27, 0), (52, .ifCond .ne 12, 55, 64, 0), (55, .aload_n 0, 56, 0, 0), (56, .iload_n 1, 57, 0, 0), (57, .iload_n 2, 58, 0, 0), (58, .invokevirtual 54, 61, 36, 0), (61, .goto 9, 70, 0, 0), (64, .aload_n 0, 65, 0, 0), (65, .iload_n 1, 66, 0, 0), (66, .iload_n 2, 67, 0, 0), (67, .invokevirtual 57, 70, 37, 0), (70, .ireturn, 71, 0, 0)])
theorem k_Gr_accepts : mm_okY Y_Gr_accepts := ⟨by decide +kernel, by decide +kernel, rfl, by decide⟩
theorem w_Gr_accepts : mm_cw Y_Gr_accepts ∈ mm_tbl := mm_in (mm_r2 _ (List.mem_of_getElem? (i := 84) rfl)) rfl
def Y_LB_isDigit : mm_Y := ((⟨"LambdaBench", "isDigit", "(I)Z"⟩, 7), prog_1_method_24_code, 1, (some .boolean), [], { frames := 0, cells := 0, slots := 0, locals := 0 }, [(0, .iload_n 0, 1, 0, 0), (1, .bipush 48, 3, 0, nI 48), (3, .if_icmp .lt 13, 6, 16, 0), (6, .iload_n 0, 7, 0, 0), (7, .bipush 57, 9, 0, nI 57), (9, .if_icmp .gt 7, 12, 16, 0), (12, .iconst 1, 13, 0, nI 1), (13, .goto 4, 17, 0, 0), (16, .iconst 0, 17, 0, nI 0), (17, .ireturn, 18, 0, 0)])
theorem k_LB_isDigit : mm_okY Y_LB_isDigit := ⟨by decide +kernel, by decide +kernel, rfl, by decide⟩
theorem w_LB_isDigit : mm_cw Y_LB_isDigit ∈ mm_tbl := mm_in (mm_r2 _ (List.mem_of_getElem? (i := 87) rfl)) rfl
def Y_Gr_acceptsInTerm : mm_Y := ((⟨"LambdaBench$Grammar", "acceptsInTerm", "(II)Z"⟩, 3), prog_5_method_8_code, 3, (some .boolean), [], { frames := 2, cells := 0, slots := 0, locals := 42 }, [(0, .iload_n 1, 1, 0, 0), (1, .bipush 41, 3, 0, nI 41), (3, .if_icmp .ne 8, 6, 11, 0), (6, .aload_n 0, 7, 0, 0), (7, .invokevirtual 63, 10, 38, 0), (10, .ireturn, 11, 0, 0), (11, .iload_n 1, 12, 0, 0), (12, .bipush 40, 14, 0, nI 40), (14, .if_icmp .ne 9, 17, 23, 0), (17, .aload_n 0, 18, 0, 0), (18, .iload_n 2, 19, 0, 0), (19, .invokevirtual 66, 22, 39, 0), (22, .ireturn, 23, 0, 0), (23, .iload_n 1, 24, 0, 0), (24, .bipush 92, 26, 0, nI 92), (26, .if_icmp .ne 11, 29, 37, 0), (29, .aload_n 0, 30, 0, 0), (30, .iconst 1, 31, 0, nI 1), (31, .putfield 44, 34, 27, 0), (34, .goto 33, 67, 0, 0), (37, .iload_n 1, 38, 0, 0), (38, .bipush 35, 40, 0, nI 35), (40, .if_icmp .ne 11, 43, 51, 0), (43, .aload_n 0, 44, 0, 0), (44, .iconst 3, 45, 0, nI 3), (45, .putfield 44, 48, 27, 0), (48, .goto 19, 67, 0, 0), (51, .iload_n 1, 52, 0, 0), (52, .invokestatic 60, 55, 40, 0), (55, .ifCond .ne 12, 58, 67, 0), (58, .iload_n 1, 59, 0, 0), (59, .invokestatic 69, 62, 41, 0), (62, .ifCond .ne 5, 65, 67, 0), (65, .iconst 0, 66, 0, nI 0), (66, .ireturn, 67, 0, 0), (67, .aload_n 0, 68, 0, 0), (68, .getfield 9, 71, 11, 0), (71, .aload_n 0, 72, 0, 0), (72, .getfield 47, 75, 28, 0), (75, .dup2, 76, 0, 0), (76, .iaload, 77, 0, 0), (77, .iconst 1, 78, 0, nI 1), (78, .iadd, 79, 0, 0), (79, .iastore, 80, 0, 0), (80, .iconst 1, 81, 0, nI 1), (81, .ireturn, 82, 0, 0)])
theorem k_Gr_acceptsInTerm : mm_okY Y_Gr_acceptsInTerm := ⟨by decide +kernel, by decide +kernel, rfl, by decide⟩
theorem w_Gr_acceptsInTerm : mm_cw Y_Gr_acceptsInTerm ∈ mm_tbl := mm_in (mm_r2 _ (List.mem_of_getElem? (i := 91) rfl)) rfl
def Y_Gr_closes : mm_Y := ((⟨"LambdaBench$Grammar", "closes", "()Z"⟩, 3), prog_5_method_10_code, 1, (some .boolean), [], { frames := 0, cells := 0, slots := 0, locals := 0 }, [(0, .aload_n 0, 1, 0, 0), (1, .getfield 18, 4, 26, 0), (4, .ifCond .eq 15, 7, 19, 0), (7, .aload_n 0, 8, 0, 0), (8, .getfield 9, 11, 11, 0), (11, .aload_n 0, 12, 0, 0), (12, .getfield 47, 15, 28, 0), (15, .iaload, 16, 0, 0), (16, .ifCond .ne 5, 19, 21, 0), (19, .iconst 0, 20, 0, nI 0), (20, .ireturn, 21, 0, 0), (21, .aload_n 0, 22, 0, 0), (22, .dup, 23, 0, 0), (23, .getfield 18, 26, 26, 0), (26, .iconst 1, 27, 0, nI 1), (27, .isub, 28, 0, 0), (28, .putfield 18, 31, 26, 0), (31, .aload_n 0, 32, 0, 0), (32, .aload_n 0, 33, 0, 0), (33, .getfield 15, 36, 12, 0), (36, .aload_n 0, 37, 0, 0), (37, .getfield 18, 40, 26, 0), (40, .iaload, 41, 0, 0), (41, .putfield 47, 44, 28, 0), (44, .iconst 1, 45, 0, nI 1), (45, .ireturn, 46, 0, 0)])
theorem k_Gr_closes : mm_okY Y_Gr_closes := ⟨by decide +kernel, by decide +kernel, rfl, by decide⟩
theorem w_Gr_closes : mm_cw Y_Gr_closes ∈ mm_tbl := mm_in (mm_r2 _ (List.mem_of_getElem? (i := 95) rfl)) rfl
def Y_Gr_opens : mm_Y := ((⟨"LambdaBench$Grammar", "opens", "(I)Z"⟩, 3), prog_5_method_9_code, 2, (some .boolean), [], { frames := 1, cells := 0, slots := 0, locals := 21 }, [(0, .aload_n 0, 1, 0, 0), (1, .getfield 18, 4, 26, 0), (4, .bipush 20, 6, 0, nI 20), (6, .if_icmp .lt 5, 9, 11, 0), (9, .iconst 0, 10, 0, nI 0), (10, .ireturn, 11, 0, 0), (11, .aload_n 0, 12, 0, 0), (12, .getfield 9, 15, 11, 0), (15, .aload_n 0, 16, 0, 0), (16, .getfield 47, 19, 28, 0), (19, .dup2, 20, 0, 0), (20, .iaload, 21, 0, 0), (21, .iconst 1, 22, 0, nI 1), (22, .iadd, 23, 0, 0), (23, .iastore, 24, 0, 0), (24, .aload_n 0, 25, 0, 0), (25, .getfield 15, 28, 12, 0), (28, .aload_n 0, 29, 0, 0), (29, .getfield 18, 32, 26, 0), (32, .aload_n 0, 33, 0, 0), (33, .getfield 47, 36, 28, 0), (36, .iastore, 37, 0, 0), (37, .aload_n 0, 38, 0, 0), (38, .dup, 39, 0, 0), (39, .getfield 18, 42, 26, 0), (42, .iconst 1, 43, 0, nI 1), (43, .iadd, 44, 0, 0), (44, .putfield 18, 47, 26, 0), (47, .aload_n 0, 48, 0, 0), (48, .iload_n 1, 49, 0, 0), (49, .iconst 1, 50, 0, nI 1), (50, .iadd, 51, 0, 0), (51, .invokevirtual 22, 54, 30, 0), (54, .iconst 1, 55, 0, nI 1), (55, .ireturn, 56, 0, 0)])
theorem k_Gr_opens : mm_okY Y_Gr_opens := ⟨by decide +kernel, by decide +kernel, rfl, by decide⟩
theorem w_Gr_opens : mm_cw Y_Gr_opens ∈ mm_tbl := mm_in (mm_r2 _ (List.mem_of_getElem? (i := 99) rfl)) rfl
def Y_LB_isLetter : mm_Y := ((⟨"LambdaBench", "isLetter", "(I)Z"⟩, 7), prog_1_method_22_code, 1, (some .boolean), [], { frames := 0, cells := 0, slots := 0, locals := 0 }, [(0, .iload_n 0, 1, 0, 0), (1, .bipush 97, 3, 0, nI 97), (3, .if_icmp .lt 13, 6, 16, 0), (6, .iload_n 0, 7, 0, 0), (7, .bipush 122, 9, 0, nI 122), (9, .if_icmp .gt 7, 12, 16, 0), (12, .iconst 1, 13, 0, nI 1), (13, .goto 4, 17, 0, 0), (16, .iconst 0, 17, 0, nI 0), (17, .ireturn, 18, 0, 0)])
theorem k_LB_isLetter : mm_okY Y_LB_isLetter := ⟨by decide +kernel, by decide +kernel, rfl, by decide⟩
theorem w_LB_isLetter : mm_cw Y_LB_isLetter ∈ mm_tbl := mm_in (mm_r2 _ (List.mem_of_getElem? (i := 102) rfl)) rfl
def Y_LB_isCombinator : mm_Y := ((⟨"LambdaBench", "isCombinator", "(I)Z"⟩, 7), prog_1_method_23_code, 1, (some .boolean), [], { frames := 0, cells := 0, slots := 0, locals := 0 }, [(0, .iload_n 0, 1, 0, 0), (1, .bipush 83, 3, 0, nI 83), (3, .if_icmp .eq 15, 6, 18, 0), (6, .iload_n 0, 7, 0, 0), (7, .bipush 75, 9, 0, nI 75), (9, .if_icmp .eq 9, 12, 18, 0), (12, .iload_n 0, 13, 0, 0), (13, .bipush 73, 15, 0, nI 73), (15, .if_icmp .ne 7, 18, 22, 0), (18, .iconst 1, 19, 0, nI 1), (19, .goto 4, 23, 0, 0), (22, .iconst 0, 23, 0, nI 0), (23, .ireturn, 24, 0, 0)])
theorem k_LB_isCombinator : mm_okY Y_LB_isCombinator := ⟨by decide +kernel, by decide +kernel, rfl, by decide⟩
theorem w_LB_isCombinator : mm_cw Y_LB_isCombinator ∈ mm_tbl := mm_in (mm_r2 _ (List.mem_of_getElem? (i := 105) rfl)) rfl
def Y_Gr_acceptsInNames : mm_Y := ((⟨"LambdaBench$Grammar", "acceptsInNames", "(II)Z"⟩, 3), prog_5_method_7_code, 3, (some .boolean), [], { frames := 1, cells := 0, slots := 0, locals := 21 }, [(0, .iload_n 1, 1, 0, 0), (1, .invokestatic 60, 4, 40, 0), (4, .ifCond .eq 10, 7, 14, 0), (7, .aload_n 0, 8, 0, 0), (8, .iconst 2, 9, 0, nI 2), (9, .putfield 44, 12, 27, 0), (12, .iconst 1, 13, 0, nI 1), (13, .ireturn, 14, 0, 0), (14, .aload_n 0, 15, 0, 0), (15, .getfield 44, 18, 27, 0), (18, .iconst 2, 19, 0, nI 2), (19, .if_icmp .ne 18, 22, 37, 0), (22, .iload_n 1, 23, 0, 0), (23, .bipush 46, 25, 0, nI 46), (25, .if_icmp .ne 12, 28, 37, 0), (28, .aload_n 0, 29, 0, 0), (29, .iload_n 2, 30, 0, 0), (30, .iconst 1, 31, 0, nI 1), (31, .iadd, 32, 0, 0), (32, .invokevirtual 22, 35, 30, 0), (35, .iconst 1, 36, 0, nI 1), (36, .ireturn, 37, 0, 0), (37, .iconst 0, 38, 0, nI 0), (38, .ireturn, 39, 0, 0)])
theorem k_Gr_acceptsInNames : mm_okY Y_Gr_acceptsInNames := ⟨by decide +kernel, by decide +kernel, rfl, by decide⟩
theorem w_Gr_acceptsInNames : mm_cw Y_Gr_acceptsInNames ∈ mm_tbl := mm_in (mm_r2 _ (List.mem_of_getElem? (i := 109) rfl)) rfl
def Y_Gr_mayEnd : mm_Y := ((⟨"LambdaBench$Grammar", "mayEnd", "()Z"⟩, 3), prog_5_method_5_code, 2, (some .boolean), [], { frames := 0, cells := 0, slots := 0, locals := 0 }, [(0, .aload_n 0, 1, 0, 0), (1, .getfield 44, 4, 27, 0), (4, .ifCond .eq 11, 7, 15, 0), (7, .aload_n 0, 8, 0, 0), (8, .getfield 44, 11, 27, 0), (11, .iconst 4, 12, 0, nI 4), (12, .if_icmp .ne 7, 15, 19, 0), (15, .iconst 1, 16, 0, nI 1), (16, .goto 4, 20, 0, 0), (19, .iconst 0, 20, 0, nI 0), (20, .istore_n 1, 21, 0, 0), (21, .iload_n 1, 22, 0, 0), (22, .ifCond .eq 26, 25, 48, 0), (25, .aload_n 0, 26, 0, 0), (26, .getfield 18, 29, 26, 0), (29, .ifCond .ne 19, 32, 48, 0), (32, .aload_n 0, 33, 0, 0), (33, .getfield 9, 36, 11, 0), (36, .aload_n 0, 37, 0, 0), (37, .getfield 47, 40, 28, 0), (40, .iaload, 41, 0, 0), (41, .ifCond .le 7, 44, 48, 0), (44, .iconst 1, 45, 0, nI 1), (45, .goto 4, 49, 0, 0), (48, .iconst 0, 49, 0, nI 0), (49, .ireturn, 50, 0, 0)])
theorem k_Gr_mayEnd : mm_okY Y_Gr_mayEnd := ⟨by decide +kernel, by decide +kernel, rfl, by decide⟩
theorem w_Gr_mayEnd : mm_cw Y_Gr_mayEnd ∈ mm_tbl := mm_in (mm_r2 _ (List.mem_of_getElem? (i := 113) rfl)) rfl
def Y_Bu_build : mm_Y := ((⟨"LambdaBench$Builder", "build", "(LLambdaBench$Tape;LLambdaBench$Grammar;LLambdaBench$Term;)V"⟩, 1), prog_3_method_2_code, 7, none, [], { frames := 2, cells := 0, slots := 0, locals := 44 }, [(0, .aload_n 0, 1, 0, 0), (1, .iconst 0, 2, 0, nI 0), (2, .putfield 18, 5, 29, 0), (5, .aload_n 0, 6, 0, 0), (6, .iconst 0, 7, 0, nI 0), (7, .putfield 22, 10, 30, 0), (10, .aload_n 3, 11, 0, 0), (11, .invokevirtual 25, 14, 42, 0), (14, .aload_n 0, 15, 0, 0), (15, .aload_n 2, 16, 0, 0), (16, .iconst 0, 17, 0, nI 0), (17, .invokevirtual 30, 20, 43, 0), (20, .aload_n 3, 21, 0, 0), (21, .invokevirtual 36, 24, 44, 0), (24, .iconst 0, 25, 0, nI 0), (25, .istore 4, 27, 0, 0), (27, .iconst 0, 28, 0, nI 0), (28, .istore 5, 30, 0, 0), (30, .iload 5, 32, 0, 0), (32, .aload_n 1, 33, 0, 0), (33, .invokevirtual 40, 36, 45, 0), (36, .if_icmp .ge 176, 39, 212, 0), (39, .aload_n 1, 40, 0, 0), (40, .iload 5, 42, 0, 0), (42, .invokevirtual 46, 45, 46, 0), (45, .istore 6, 47, 0, 0), (47, .iload 6, 49, 0, 0), (49, .bipush 92, 51, 0, nI 92), (51, .if_icmp .ne 9, 54, 60, 0), (54, .iconst 1, 55, 0, nI 1), (55, .istore 4, 57, 0, 0), (57, .goto 149, 206, 0, 0), (60, .iload 6, 62, 0, 0), (62, .bipush 46, 64, 0, nI 46), (64, .if_icmp .ne 22, 67, 86, 0), (67, .iconst 0, 68, 0, nI 0), (68, .istore 4, 70, 0, 0), (70, .aload_n 0, 71, 0, 0), (71, .aload_n 2, 72, 0, 0), (72, .iload 5, 74, 0, 0), (74, .iconst 1, 75, 0, nI 1), (75, .iadd, 76, 0, 0), (76, .invokevirtual 30, 79, 43, 0), (79, .aload_n 3, 80, 0, 0), (80, .invokevirtual 36, 83, 44, 0), (83, .goto 123, 206, 0, 0), (86, .iload 6, 88, 0, 0), (88, .bipush 40, 90, 0, nI 40), (90, .if_icmp .ne 23, 93, 113, 0), (93, .aload_n 0, 94, 0, 0), (94, .invokevirtual 49, 97, 47, 0), (97, .aload_n 0, 98, 0, 0), (98, .aload_n 2, 99, 0, 0), (99, .iload 5, 101, 0, 0), (101, .iconst 1, 102, 0, nI 1), (102, .iadd, 103, 0, 0), (103, .invokevirtual 30, 106, 43, 0), (106, .aload_n 3, 107, 0, 0), (107, .invokevirtual 36, 110, 44, 0), (110, .goto 96, 206, 0, 0), (113, .iload 6, 115, 0, 0), (115, .bipush 41, 117, 0, nI 41), (117, .if_icmp .ne 10, 120, 127, 0), (120, .aload_n 0, 121, 0, 0), (121, .invokevirtual 52, 124, 48, 0), (124, .goto 82, 206, 0, 0), (127, .iload 6, 129, 0, 0), (129, .bipush 35, 131, 0, nI 35), (131, .if_icmp .ne 17, 134, 148, 0), (134, .aload_n 0, 135, 0, 0), (135, .aload_n 1, 136, 0, 0), (136, .iload 5, 138, 0, 0), (138, .invokevirtual 55, 141, 49, 0), (141, .aload_n 3, 142, 0, 0), (142, .invokevirtual 58, 145, 50, 0), (145, .goto 61, 206, 0, 0), (148, .iload 4, 150, 0, 0), (150, .ifCond .eq 21, 153, 171, 0), (153, .iload 6, 155, 0, 0), (155, .invokestatic 61, 158, 51, 0), (158, .ifCond .eq 13, 161, 171, 0), (161, .aload_n 0, 162, 0, 0), (162, .iload 6, 164, 0, 0), (164, .aload_n 3, 165, 0, 0), (165, .invokevirtual 65, 168, 52, 0), (168, .goto 38, 206, 0, 0), (171, .iload 6, 173, 0, 0), (173, .invokestatic 61, 176, 51, 0), (176, .ifCond .eq 16, 179, 192, 0), (179, .aload_n 3, 180, 0, 0), (180, .aload_n 0, 181, 0, 0), (181, .iload 6, 183, 0, 0), (183, .invokevirtual 68, 186, 53, 0), (186, .invokevirtual 71, 189, 54, 0), (189, .goto 17, 206, 0, 0), (192, .iload 6, 194, 0, 0), (194, .invokestatic 75, 197, 55, 0), (197, .ifCond .eq 9, 200, 206, 0), (200, .aload_n 3, 201, 0, 0), (201, .iload 6, 203, 0, 0), (203, .invokevirtual 71, 206, 54, 0), (206, .iinc 5 1, 209, 0, nI 1), (209, .goto (-179), 30, 0, 0), (212, .return_, 213, 0, 0)])
theorem k_Bu_build : mm_okY Y_Bu_build := ⟨by decide +kernel, by decide +kernel, rfl, by decide⟩
theorem w_Bu_build : mm_cw Y_Bu_build ∈ mm_tbl := mm_in (mm_r2 _ (List.mem_of_getElem? (i := 117) rfl)) rfl
def Y_Te_clear : mm_Y := ((⟨"LambdaBench$Term", "clear", "()V"⟩, 6), prog_8_method_5_code, 1, none, [], { frames := 0, cells := 0, slots := 0, locals := 0 }, [(0, .aload_n 0, 1, 0, 0), (1, .iconst 0, 2, 0, nI 0), (2, .putfield 15, 5, 31, 0), (5, .aload_n 0, 6, 0, 0), (6, .iconst 0, 7, 0, nI 0), (7, .putfield 19, 10, 32, 0), (10, .return_, 11, 0, 0)])
theorem k_Te_clear : mm_okY Y_Te_clear := ⟨by decide +kernel, by decide +kernel, rfl, by decide⟩
theorem w_Te_clear : mm_cw Y_Te_clear ∈ mm_tbl := mm_in (mm_r2 _ (List.mem_of_getElem? (i := 121) rfl)) rfl
def Y_Gr_atomsFrom : mm_Y := ((⟨"LambdaBench$Grammar", "atomsFrom", "(I)I"⟩, 3), prog_5_method_2_code, 2, (some .int), [], { frames := 0, cells := 0, slots := 0, locals := 0 }, [(0, .iload_n 1, 1, 0, 0), (1, .ifCond .lt 19, 4, 20, 0), (4, .iload_n 1, 5, 0, 0), (5, .sipush 400, 8, 0, nI 400), (8, .if_icmp .gt 12, 11, 20, 0), (11, .aload_n 0, 12, 0, 0), (12, .getfield 9, 15, 11, 0), (15, .iload_n 1, 16, 0, 0), (16, .iaload, 17, 0, 0), (17, .goto 4, 21, 0, 0), (20, .iconst 0, 21, 0, nI 0), (21, .ireturn, 22, 0, 0)])
theorem k_Gr_atomsFrom : mm_okY Y_Gr_atomsFrom := ⟨by decide +kernel, by decide +kernel, rfl, by decide⟩
theorem w_Gr_atomsFrom : mm_cw Y_Gr_atomsFrom ∈ mm_tbl := mm_in (mm_r2 _ (List.mem_of_getElem? (i := 125) rfl)) rfl
def Y_Bu_addApplications : mm_Y := ((⟨"LambdaBench$Builder", "addApplications", "(ILLambdaBench$Term;)V"⟩, 1), prog_3_method_3_code, 4, none, [], { frames := 1, cells := 0, slots := 0, locals := 21 }, [(0, .iconst 1, 1, 0, nI 1), (1, .istore_n 3, 2, 0, 0), (2, .iload_n 3, 3, 0, 0), (3, .iload_n 1, 4, 0, 0), (4, .if_icmp .ge 15, 7, 19, 0), (7, .aload_n 2, 8, 0, 0), (8, .bipush 64, 10, 0, nI 64), (10, .invokevirtual 71, 13, 54, 0), (13, .iinc 3 1, 16, 0, nI 1), (16, .goto (-14), 2, 0, 0), (19, .return_, 20, 0, 0)])
theorem k_Bu_addApplications : mm_okY Y_Bu_addApplications := ⟨by decide +kernel, by decide +kernel, rfl, by decide⟩
theorem w_Bu_addApplications : mm_cw Y_Bu_addApplications ∈ mm_tbl := mm_in (mm_r2 _ (List.mem_of_getElem? (i := 129) rfl)) rfl
def Y_Te_add : mm_Y := ((⟨"LambdaBench$Term", "add", "(I)V"⟩, 6), prog_8_method_6_code, 2, none, [], { frames := 0, cells := 0, slots := 0, locals := 0 }, [(0, .aload_n 0, 1, 0, 0), (1, .getfield 15, 4, 31, 0), (4, .sipush 2000, 7, 0, nI 2000), (7, .if_icmp .lt 9, 10, 16, 0), (10, .aload_n 0, 11, 0, 0), (11, .iconst 1, 12, 0, nI 1), (12, .putfield 19, 15, 32, 0), (15, .return_, 16, 0, 0), (16, .aload_n 0, 17, 0, 0), (17, .getfield 9, 20, 9, 0), (20, .aload_n 0, 21, 0, 0), (21, .getfield 15, 24, 31, 0), (24, .iload_n 1, 25, 0, 0), (25, .iastore, 26, 0, 0), (26, .aload_n 0, 27, 0, 0), (27, .dup, 28, 0, 0), (28, .getfield 15, 31, 31, 0), (31, .iconst 1, 32, 0, nI 1), (32, .iadd, 33, 0, 0), (33, .putfield 15, 36, 31, 0), (36, .return_, 37, 0, 0)])
theorem k_Te_add : mm_okY Y_Te_add := ⟨by decide +kernel, by decide +kernel, rfl, by decide⟩
theorem w_Te_add : mm_cw Y_Te_add ∈ mm_tbl := mm_in (mm_r2 _ (List.mem_of_getElem? (i := 133) rfl)) rfl
def Y_Bu_opens : mm_Y := ((⟨"LambdaBench$Builder", "opens", "()V"⟩, 1), prog_3_method_4_code, 1, none, [], { frames := 0, cells := 0, slots := 0, locals := 0 }, [(0, .aload_n 0, 1, 0, 0), (1, .getfield 22, 4, 30, 0), (4, .bipush 20, 6, 0, nI 20), (6, .if_icmp .ge 26, 9, 32, 0), (9, .aload_n 0, 10, 0, 0), (10, .getfield 15, 13, 14, 0), (13, .aload_n 0, 14, 0, 0), (14, .getfield 22, 17, 30, 0), (17, .aload_n 0, 18, 0, 0), (18, .getfield 18, 21, 29, 0), (21, .iastore, 22, 0, 0), (22, .aload_n 0, 23, 0, 0), (23, .dup, 24, 0, 0), (24, .getfield 22, 27, 30, 0), (27, .iconst 1, 28, 0, nI 1), (28, .iadd, 29, 0, 0), (29, .putfield 22, 32, 30, 0), (32, .return_, 33, 0, 0)])
theorem k_Bu_opens : mm_okY Y_Bu_opens := ⟨by decide +kernel, by decide +kernel, rfl, by decide⟩
theorem w_Bu_opens : mm_cw Y_Bu_opens ∈ mm_tbl := mm_in (mm_r2 _ (List.mem_of_getElem? (i := 139) rfl)) rfl
def Y_Bu_closes : mm_Y := ((⟨"LambdaBench$Builder", "closes", "()V"⟩, 1), prog_3_method_5_code, 1, none, [], { frames := 0, cells := 0, slots := 0, locals := 0 }, [(0, .aload_n 0, 1, 0, 0), (1, .getfield 22, 4, 30, 0), (4, .ifCond .le 26, 7, 30, 0), (7, .aload_n 0, 8, 0, 0), (8, .dup, 9, 0, 0), (9, .getfield 22, 12, 30, 0), (12, .iconst 1, 13, 0, nI 1), (13, .isub, 14, 0, 0), (14, .putfield 22, 17, 30, 0), (17, .aload_n 0, 18, 0, 0), (18, .aload_n 0, 19, 0, 0), (19, .getfield 15, 22, 14, 0), (22, .aload_n 0, 23, 0, 0), (23, .getfield 22, 26, 30, 0), (26, .iaload, 27, 0, 0), (27, .putfield 18, 30, 29, 0), (30, .return_, 31, 0, 0)])
theorem k_Bu_closes : mm_okY Y_Bu_closes := ⟨by decide +kernel, by decide +kernel, rfl, by decide⟩
theorem w_Bu_closes : mm_cw Y_Bu_closes ∈ mm_tbl := mm_in (mm_r2 _ (List.mem_of_getElem? (i := 143) rfl)) rfl
def Y_Ta_numberBehind : mm_Y := ((⟨"LambdaBench$Tape", "numberBehind", "(I)I"⟩, 5), prog_7_method_6_code, 4, (some .int), [], { frames := 1, cells := 0, slots := 0, locals := 21 }, [(0, .aload_n 0, 1, 0, 0), (1, .iload_n 1, 2, 0, 0), (2, .iconst 1, 3, 0, nI 1), (3, .iadd, 4, 0, 0), (4, .invokevirtual 19, 7, 56, 0), (7, .bipush 48, 9, 0, nI 48), (9, .isub, 10, 0, 0), (10, .istore_n 2, 11, 0, 0), (11, .aload_n 0, 12, 0, 0), (12, .iload_n 1, 13, 0, 0), (13, .iconst 2, 14, 0, nI 2), (14, .iadd, 15, 0, 0), (15, .invokevirtual 19, 18, 56, 0), (18, .istore_n 3, 19, 0, 0), (19, .iload_n 3, 20, 0, 0), (20, .invokestatic 23, 23, 57, 0), (23, .ifCond .eq 15, 26, 38, 0), (26, .bipush 10, 28, 0, nI 10), (28, .iload_n 2, 29, 0, 0), (29, .imul, 30, 0, 0), (30, .iload_n 3, 31, 0, 0), (31, .iadd, 32, 0, 0), (32, .bipush 48, 34, 0, nI 48), (34, .isub, 35, 0, 0), (35, .goto 4, 39, 0, 0), (38, .iload_n 2, 39, 0, 0), (39, .ireturn, 40, 0, 0)])
theorem k_Ta_numberBehind : mm_okY Y_Ta_numberBehind := ⟨by decide +kernel, by decide +kernel, rfl, by decide⟩
theorem w_Ta_numberBehind : mm_cw Y_Ta_numberBehind ∈ mm_tbl := mm_in (mm_r2 _ (List.mem_of_getElem? (i := 147) rfl)) rfl
def Y_Bu_addNumeral : mm_Y := ((⟨"LambdaBench$Builder", "addNumeral", "(ILLambdaBench$Term;)V"⟩, 1), prog_3_method_6_code, 4, none, [], { frames := 1, cells := 0, slots := 0, locals := 21 }, [(0, .aload_n 2, 1, 0, 0), (1, .bipush 92, 3, 0, nI 92), (3, .invokevirtual 71, 6, 54, 0), (6, .aload_n 2, 7, 0, 0), (7, .bipush 92, 9, 0, nI 92), (9, .invokevirtual 71, 12, 54, 0), (12, .iconst 0, 13, 0, nI 0), (13, .istore_n 3, 14, 0, 0), (14, .iload_n 3, 15, 0, 0), (15, .iload_n 1, 16, 0, 0), (16, .if_icmp .ge 22, 19, 38, 0), (19, .aload_n 2, 20, 0, 0), (20, .bipush 64, 22, 0, nI 64), (22, .invokevirtual 71, 25, 54, 0), (25, .aload_n 2, 26, 0, 0), (26, .sipush 1001, 29, 0, nI 1001), (29, .invokevirtual 71, 32, 54, 0), (32, .iinc 3 1, 35, 0, nI 1), (35, .goto (-21), 14, 0, 0), (38, .aload_n 2, 39, 0, 0), (39, .sipush 1000, 42, 0, nI 1000), (42, .invokevirtual 71, 45, 54, 0), (45, .return_, 46, 0, 0)])
theorem k_Bu_addNumeral : mm_okY Y_Bu_addNumeral := ⟨by decide +kernel, by decide +kernel, rfl, by decide⟩
theorem w_Bu_addNumeral : mm_cw Y_Bu_addNumeral ∈ mm_tbl := mm_in (mm_r2 _ (List.mem_of_getElem? (i := 153) rfl)) rfl
def Y_Bu_addAbstraction : mm_Y := ((⟨"LambdaBench$Builder", "addAbstraction", "(ILLambdaBench$Term;)V"⟩, 1), prog_3_method_7_code, 3, none, [], { frames := 1, cells := 0, slots := 0, locals := 21 }, [(0, .aload_n 0, 1, 0, 0), (1, .getfield 18, 4, 29, 0), (4, .sipush 400, 7, 0, nI 400), (7, .if_icmp .ge 29, 10, 36, 0), (10, .aload_n 0, 11, 0, 0), (11, .getfield 9, 14, 13, 0), (14, .aload_n 0, 15, 0, 0), (15, .getfield 18, 18, 29, 0), (18, .iload_n 1, 19, 0, 0), (19, .iastore, 20, 0, 0), (20, .aload_n 0, 21, 0, 0), (21, .dup, 22, 0, 0), (22, .getfield 18, 25, 29, 0), (25, .iconst 1, 26, 0, nI 1), (26, .iadd, 27, 0, 0), (27, .putfield 18, 30, 29, 0), (30, .aload_n 2, 31, 0, 0), (31, .bipush 92, 33, 0, nI 92), (33, .invokevirtual 71, 36, 54, 0), (36, .return_, 37, 0, 0)])
theorem k_Bu_addAbstraction : mm_okY Y_Bu_addAbstraction := ⟨by decide +kernel, by decide +kernel, rfl, by decide⟩
theorem w_Bu_addAbstraction : mm_cw Y_Bu_addAbstraction ∈ mm_tbl := mm_in (mm_r2 _ (List.mem_of_getElem? (i := 158) rfl)) rfl
def Y_Bu_meaningOf : mm_Y := ((⟨"LambdaBench$Builder", "meaningOf", "(I)I"⟩, 1), prog_3_method_8_code, 3, (some .int), [], { frames := 0, cells := 0, slots := 0, locals := 0 }, [(0, .aload_n 0, 1, 0, 0), (1, .getfield 18, 4, 29, 0), (4, .iconst 1, 5, 0, nI 1), (5, .isub, 6, 0, 0), (6, .istore_n 2, 7, 0, 0), (7, .iload_n 2, 8, 0, 0), (8, .ifCond .lt 32, 11, 40, 0), (11, .aload_n 0, 12, 0, 0), (12, .getfield 9, 15, 13, 0), (15, .iload_n 2, 16, 0, 0), (16, .iaload, 17, 0, 0), (17, .iload_n 1, 18, 0, 0), (18, .if_icmp .ne 16, 21, 34, 0), (21, .sipush 1000, 24, 0, nI 1000), (24, .aload_n 0, 25, 0, 0), (25, .getfield 18, 28, 29, 0), (28, .iadd, 29, 0, 0), (29, .iconst 1, 30, 0, nI 1), (30, .isub, 31, 0, 0), (31, .iload_n 2, 32, 0, 0), (32, .isub, 33, 0, 0), (33, .ireturn, 34, 0, 0), (34, .iinc 2 (-1), 37, 0, (-1)), (37, .goto (-30), 7, 0, 0), (40, .iload_n 1, 41, 0, 0), (41, .ireturn, 42, 0, 0)])
theorem k_Bu_meaningOf : mm_okY Y_Bu_meaningOf := ⟨by decide +kernel, by decide +kernel, rfl, by decide⟩
theorem w_Bu_meaningOf : mm_cw Y_Bu_meaningOf ∈ mm_tbl := mm_in (mm_r2 _ (List.mem_of_getElem? (i := 162) rfl)) rfl
def Y_Ta_clear : mm_Y := ((⟨"LambdaBench$Tape", "clear", "()V"⟩, 5), prog_7_method_4_code, 1, none, [], { frames := 0, cells := 0, slots := 0, locals := 0 }, [(0, .aload_n 0, 1, 0, 0), (1, .iconst 0, 2, 0, nI 0), (2, .putfield 15, 5, 25, 0), (5, .return_, 6, 0, 0)])
theorem k_Ta_clear : mm_okY Y_Ta_clear := ⟨by decide +kernel, by decide +kernel, rfl, by decide⟩
theorem w_Ta_clear : mm_cw Y_Ta_clear ∈ mm_tbl := mm_in (mm_r2 _ (List.mem_of_getElem? (i := 167) rfl)) rfl
def Y_Te_isTooGreat : mm_Y := ((⟨"LambdaBench$Term", "isTooGreat", "()Z"⟩, 6), prog_8_method_3_code, 1, (some .boolean), [], { frames := 0, cells := 0, slots := 0, locals := 0 }, [(0, .aload_n 0, 1, 0, 0), (1, .getfield 19, 4, 32, 0), (4, .ireturn, 5, 0, 0)])
theorem k_Te_isTooGreat : mm_okY Y_Te_isTooGreat := ⟨by decide +kernel, by decide +kernel, rfl, by decide⟩
theorem w_Te_isTooGreat : mm_cw Y_Te_isTooGreat ∈ mm_tbl := mm_in (mm_r2 _ (List.mem_of_getElem? (i := 172) rfl)) rfl
def Y_Te_become : mm_Y := ((⟨"LambdaBench$Term", "become", "(LLambdaBench$Term;)V"⟩, 6), prog_8_method_9_code, 2, none, [], { frames := 3, cells := 0, slots := 0, locals := 105 }, [(0, .aload_n 1, 1, 0, 0), (1, .aload_n 0, 2, 0, 0), (2, .if_acmp .eq 12, 5, 14, 0), (5, .aload_n 0, 6, 0, 0), (6, .invokevirtual 33, 9, 58, 0), (9, .aload_n 0, 10, 0, 0), (10, .aload_n 1, 11, 0, 0), (11, .invokevirtual 36, 14, 59, 0), (14, .return_, 15, 0, 0)])
theorem k_Te_become : mm_okY Y_Te_become := ⟨by decide +kernel, by decide +kernel, rfl, by decide⟩
theorem w_Te_become : mm_cw Y_Te_become ∈ mm_tbl := mm_in (mm_r2 _ (List.mem_of_getElem? (i := 177) rfl)) rfl
def Y_Te_addAll : mm_Y := ((⟨"LambdaBench$Term", "addAll", "(LLambdaBench$Term;)V"⟩, 6), prog_8_method_7_code, 2, none, [], { frames := 2, cells := 0, slots := 0, locals := 84 }, [(0, .aload_n 0, 1, 0, 0), (1, .aload_n 1, 2, 0, 0), (2, .iconst 0, 3, 0, nI 0), (3, .aload_n 1, 4, 0, 0), (4, .getfield 15, 7, 31, 0), (7, .invokevirtual 23, 10, 60, 0), (10, .return_, 11, 0, 0)])
theorem k_Te_addAll : mm_okY Y_Te_addAll := ⟨by decide +kernel, by decide +kernel, rfl, by decide⟩
theorem w_Te_addAll : mm_cw Y_Te_addAll ∈ mm_tbl := mm_in (mm_r2 _ (List.mem_of_getElem? (i := 182) rfl)) rfl
def Y_Te_addPart : mm_Y := ((⟨"LambdaBench$Term", "addPart", "(LLambdaBench$Term;II)V"⟩, 6), prog_8_method_8_code, 5, none, [], { frames := 1, cells := 0, slots := 0, locals := 60 }, [(0, .iload_n 3, 1, 0, 0), (1, .iload_n 2, 2, 0, 0), (2, .isub, 3, 0, 0), (3, .istore 4, 5, 0, 0), (5, .iload_n 2, 6, 0, 0), (6, .ifCond .lt 16, 9, 22, 0), (9, .iload 4, 11, 0, 0), (11, .ifCond .lt 11, 14, 22, 0), (14, .iload_n 3, 15, 0, 0), (15, .aload_n 1, 16, 0, 0), (16, .getfield 15, 19, 31, 0), (19, .if_icmp .le 4, 22, 23, 0), (22, .return_, 23, 0, 0), (23, .aload_n 0, 24, 0, 0), (24, .getfield 15, 27, 31, 0), (27, .iload 4, 29, 0, 0), (29, .iadd, 30, 0, 0), (30, .sipush 2000, 33, 0, nI 2000), (33, .if_icmp .le 9, 36, 42, 0), (36, .aload_n 0, 37, 0, 0), (37, .iconst 1, 38, 0, nI 1), (38, .putfield 19, 41, 32, 0), (41, .return_, 42, 0, 0), (42, .aload_n 1, 43, 0, 0), (43, .getfield 9, 46, 9, 0), (46, .iload_n 2, 47, 0, 0), (47, .aload_n 0, 48, 0, 0), (48, .getfield 9, 51, 9, 0), (51, .aload_n 0, 52, 0, 0), (52, .getfield 15, 55, 31, 0), (55, .iload 4, 57, 0, 0), (57, .invokestatic 27, 60, 61, 0), (60, .aload_n 0, 61, 0, 0), (61, .dup, 62, 0, 0), (62, .getfield 15, 65, 31, 0), (65, .iload 4, 67, 0, 0), (67, .iadd, 68, 0, 0), (68, .putfield 15, 71, 31, 0), (71, .return_, 72, 0, 0)])
theorem k_Te_addPart : mm_okY Y_Te_addPart := ⟨by decide +kernel, by decide +kernel, rfl, by decide⟩
theorem w_Te_addPart : mm_cw Y_Te_addPart ∈ mm_tbl := mm_in (mm_r2 _ (List.mem_of_getElem? (i := 186) rfl)) rfl
def Y_Te_length : mm_Y := ((⟨"LambdaBench$Term", "length", "()I"⟩, 6), prog_8_method_2_code, 1, (some .int), [], { frames := 0, cells := 0, slots := 0, locals := 0 }, [(0, .aload_n 0, 1, 0, 0), (1, .getfield 15, 4, 31, 0), (4, .ireturn, 5, 0, 0)])
theorem k_Te_length : mm_okY Y_Te_length := ⟨by decide +kernel, by decide +kernel, rfl, by decide⟩
theorem w_Te_length : mm_cw Y_Te_length ∈ mm_tbl := mm_in (mm_r2 _ (List.mem_of_getElem? (i := 193) rfl)) rfl
def Y_La_size : mm_Y := ((⟨"LambdaBenchLaw", "size", "(LLambdaBench;I[J)I"⟩, 9), method_5_code, 4, (some .int), [(0, 9, 12, 13)], { frames := 8, cells := 1, slots := 6, locals := 132 }, [(0, .aload_n 2, 1, 0, 0), (1, .iconst 0, 2, 0, nI 0), (2, .aload_n 0, 3, 0, 0), (3, .iload_n 1, 4, 0, 0), (4, .invokevirtual 21, 7, 62, 0), (7, .i2l, 8, 0, 0), (8, .lastore, 9, 0, 0), (9, .goto 6, 15, 0, 0), (12, .astore_n 3, 13, 0, 0), (13, .iconst 1, 14, 0, nI 1), (14, .ireturn, 15, 0, 0), (15, .iconst 0, 16, 0, nI 0), (16, .ireturn, 17, 0, 0)])
theorem k_La_size : mm_okY Y_La_size := ⟨by decide +kernel, by decide +kernel, rfl, by decide⟩
theorem w_La_size : mm_cw Y_La_size ∈ mm_tbl := mm_in (mm_r2 _ (List.mem_of_getElem? (i := 196) rfl)) rfl
def Y_LB_size : mm_Y := ((⟨"LambdaBench", "size", "(I)I"⟩, 7), prog_1_method_5_code, 2, (some .int), [], { frames := 7, cells := 1, slots := 6, locals := 111 }, [(0, .aload_n 0, 1, 0, 0), (1, .iload_n 1, 2, 0, 0), (2, .invokevirtual 86, 5, 23, 0), (5, .aload_n 0, 6, 0, 0), (6, .getfield 11, 9, 0, 0), (9, .iload_n 1, 10, 0, 0), (10, .aaload, 11, 0, 0), (11, .invokevirtual 112, 14, 29, 0), (14, .ireturn, 15, 0, 0)])
theorem k_LB_size : mm_okY Y_LB_size := ⟨by decide +kernel, by decide +kernel, rfl, by decide⟩
theorem w_LB_size : mm_cw Y_LB_size ∈ mm_tbl := mm_in (mm_r2 _ (List.mem_of_getElem? (i := 200) rfl)) rfl
def Y_La_print : mm_Y := ((⟨"LambdaBenchLaw", "print", "(LLambdaBench;II[J)I"⟩, 9), method_6_code, 5, (some .int), [(0, 10, 13, 13), (0, 10, 17, 28)], { frames := 8, cells := 2, slots := 12, locals := 135 }, [(0, .aload_n 3, 1, 0, 0), (1, .iconst 0, 2, 0, nI 0), (2, .aload_n 0, 3, 0, 0), (3, .iload_n 1, 4, 0, 0), (4, .iload_n 2, 5, 0, 0), (5, .invokevirtual 24, 8, 63, 0), (8, .i2l, 9, 0, 0), (9, .lastore, 10, 0, 0), (10, .goto 11, 21, 0, 0), (13, .astore 4, 15, 0, 0), (15, .iconst 1, 16, 0, nI 1), (16, .ireturn, 17, 0, 0), (17, .astore 4, 19, 0, 0), (19, .iconst 2, 20, 0, nI 2), (20, .ireturn, 21, 0, 0), (21, .iconst 0, 22, 0, nI 0), (22, .ireturn, 23, 0, 0)])
theorem k_La_print : mm_okY Y_La_print := ⟨by decide +kernel, by decide +kernel, rfl, by decide⟩
theorem w_La_print : mm_cw Y_La_print ∈ mm_tbl := mm_in (mm_r2 _ (List.mem_of_getElem? (i := 203) rfl)) rfl
end
section
/-! Printed by wip/whole/gen.py: every method as a row of the small machine. -/
def Y_LB_print : mm_Y := ((⟨"LambdaBench", "print", "(II)I"⟩, 7), prog_1_method_6_code, 5, (some .int), [], { frames := 7, cells := 2, slots := 12, locals := 111 }, [(0, .aload_n 0, 1, 0, 0), (1, .iload_n 1, 2, 0, 0), (2, .invokevirtual 86, 5, 23, 0), (5, .aload_n 0, 6, 0, 0), (6, .getfield 11, 9, 0, 0), (9, .iload_n 1, 10, 0, 0), (10, .aaload, 11, 0, 0), (11, .astore_n 3, 12, 0, 0), (12, .iload_n 2, 13, 0, 0), (13, .ifCond .lt 11, 16, 24, 0), (16, .iload_n 2, 17, 0, 0), (17, .aload_n 3, 18, 0, 0), (18, .invokevirtual 112, 21, 29, 0), (21, .if_icmp .lt 13, 24, 34, 0), (24, .new 113, 27, 5, 0), (27, .dup, 28, 0, 0), (28, .ldc 115, 30, 0, 0), (30, .invokespecial 117, 33, 0, 0), (33, .athrow, 34, 0, 0), (34, .aload_n 3, 35, 0, 0), (35, .iload_n 2, 36, 0, 0), (36, .invokevirtual 118, 39, 64, 0), (39, .istore 4, 41, 0, 0), (41, .iload 4, 43, 0, 0), (43, .sipush 1000, 46, 0, nI 1000), (46, .if_icmp .ge 6, 49, 52, 0), (49, .iload 4, 51, 0, 0), (51, .ireturn, 52, 0, 0), (52, .bipush 48, 54, 0, nI 48), (54, .iload 4, 56, 0, 0), (56, .sipush 1000, 59, 0, nI 1000), (59, .isub, 60, 0, 0), (60, .bipush 99, 62, 0, nI 99), (62, .invokestatic 122, 65, 65, 0), (65, .iadd, 66, 0, 0), (66, .ireturn, 67, 0, 0)])
theorem k_LB_print : mm_okY Y_LB_print := ⟨by decide +kernel, by decide +kernel, rfl, by decide⟩
theorem w_LB_print : mm_cw Y_LB_print ∈ mm_tbl := mm_in (mm_r2 _ (List.mem_of_getElem? (i := 208) rfl)) rfl
def Y_Te_at : mm_Y := ((⟨"LambdaBench$Term", "at", "(I)I"⟩, 6), prog_8_method_4_code, 2, (some .int), [], { frames := 0, cells := 0, slots := 0, locals := 0 }, [(0, .iload_n 1, 1, 0, 0), (1, .ifCond .lt 20, 4, 21, 0), (4, .iload_n 1, 5, 0, 0), (5, .aload_n 0, 6, 0, 0), (6, .getfield 15, 9, 31, 0), (9, .if_icmp .ge 12, 12, 21, 0), (12, .aload_n 0, 13, 0, 0), (13, .getfield 9, 16, 9, 0), (16, .iload_n 1, 17, 0, 0), (17, .iaload, 18, 0, 0), (18, .goto 4, 22, 0, 0), (21, .iconst 0, 22, 0, nI 0), (22, .ireturn, 23, 0, 0)])
theorem k_Te_at : mm_okY Y_Te_at := ⟨by decide +kernel, by decide +kernel, rfl, by decide⟩
theorem w_Te_at : mm_cw Y_Te_at ∈ mm_tbl := mm_in (mm_r2 _ (List.mem_of_getElem? (i := 228) rfl)) rfl
def Y_La_copy : mm_Y := ((⟨"LambdaBenchLaw", "copy", "(LLambdaBench;II)I"⟩, 9), method_7_code, 4, (some .int), [(0, 6, 9, 13)], { frames := 8, cells := 2, slots := 12, locals := 148 }, [(0, .aload_n 0, 1, 0, 0), (1, .iload_n 1, 2, 0, 0), (2, .iload_n 2, 3, 0, 0), (3, .invokevirtual 30, 6, 66, 0), (6, .goto 6, 12, 0, 0), (9, .astore_n 3, 10, 0, 0), (10, .iconst 1, 11, 0, nI 1), (11, .ireturn, 12, 0, 0), (12, .iconst 0, 13, 0, nI 0), (13, .ireturn, 14, 0, 0)])
theorem k_La_copy : mm_okY Y_La_copy := ⟨by decide +kernel, by decide +kernel, rfl, by decide⟩
theorem w_La_copy : mm_cw Y_La_copy ∈ mm_tbl := mm_in (mm_r2 _ (List.mem_of_getElem? (i := 234) rfl)) rfl
def Y_LB_copy : mm_Y := ((⟨"LambdaBench", "copy", "(II)V"⟩, 7), prog_1_method_7_code, 3, none, [], { frames := 7, cells := 2, slots := 12, locals := 126 }, [(0, .aload_n 0, 1, 0, 0), (1, .iload_n 1, 2, 0, 0), (2, .invokevirtual 86, 5, 23, 0), (5, .aload_n 0, 6, 0, 0), (6, .iload_n 2, 7, 0, 0), (7, .invokevirtual 86, 10, 23, 0), (10, .aload_n 0, 11, 0, 0), (11, .getfield 11, 14, 0, 0), (14, .iload_n 2, 15, 0, 0), (15, .aaload, 16, 0, 0), (16, .aload_n 0, 17, 0, 0), (17, .getfield 11, 20, 0, 0), (20, .iload_n 1, 21, 0, 0), (21, .aaload, 22, 0, 0), (22, .invokevirtual 108, 25, 28, 0), (25, .return_, 26, 0, 0)])
theorem k_LB_copy : mm_okY Y_LB_copy := ⟨by decide +kernel, by decide +kernel, rfl, by decide⟩
theorem w_LB_copy : mm_cw Y_LB_copy ∈ mm_tbl := mm_in (mm_r2 _ (List.mem_of_getElem? (i := 238) rfl)) rfl
def Y_La_apply : mm_Y := ((⟨"LambdaBenchLaw", "apply", "(LLambdaBench;III[J)I"⟩, 9), method_8_code, 6, (some .int), [(0, 12, 15, 13), (0, 12, 19, 15)], { frames := 8, cells := 6, slots := 36, locals := 149 }, [(0, .aload 4, 2, 0, 0), (2, .iconst 0, 3, 0, nI 0), (3, .aload_n 0, 4, 0, 0), (4, .iload_n 1, 5, 0, 0), (5, .iload_n 2, 6, 0, 0), (6, .iload_n 3, 7, 0, 0), (7, .invokevirtual 34, 10, 67, 0), (10, .i2l, 11, 0, 0), (11, .lastore, 12, 0, 0), (12, .goto 11, 23, 0, 0), (15, .astore 5, 17, 0, 0), (17, .iconst 1, 18, 0, nI 1), (18, .ireturn, 19, 0, 0), (19, .astore 5, 21, 0, 0), (21, .iconst 2, 22, 0, nI 2), (22, .ireturn, 23, 0, 0), (23, .iconst 0, 24, 0, nI 0), (24, .ireturn, 25, 0, 0)])
theorem k_La_apply : mm_okY Y_La_apply := ⟨by decide +kernel, by decide +kernel, rfl, by decide⟩
theorem w_La_apply : mm_cw Y_La_apply ∈ mm_tbl := mm_in (mm_r3 _ (List.mem_of_getElem? (i := 1) rfl)) rfl
def Y_LB_apply : mm_Y := ((⟨"LambdaBench", "apply", "(III)I"⟩, 7), prog_1_method_8_code, 4, (some .int), [], { frames := 7, cells := 6, slots := 36, locals := 126 }, [(0, .aload_n 0, 1, 0, 0), (1, .iload_n 1, 2, 0, 0), (2, .invokevirtual 86, 5, 23, 0), (5, .aload_n 0, 6, 0, 0), (6, .iload_n 2, 7, 0, 0), (7, .invokevirtual 86, 10, 23, 0), (10, .aload_n 0, 11, 0, 0), (11, .iload_n 3, 12, 0, 0), (12, .invokevirtual 86, 15, 23, 0), (15, .aload_n 0, 16, 0, 0), (16, .iload_n 1, 17, 0, 0), (17, .invokevirtual 128, 20, 68, 0), (20, .aload_n 0, 21, 0, 0), (21, .iload_n 2, 22, 0, 0), (22, .invokevirtual 128, 25, 68, 0), (25, .aload_n 0, 26, 0, 0), (26, .getfield 16, 29, 1, 0), (29, .invokevirtual 131, 32, 69, 0), (32, .aload_n 0, 33, 0, 0), (33, .getfield 16, 36, 1, 0), (36, .bipush 64, 38, 0, nI 64), (38, .invokevirtual 132, 41, 70, 0), (41, .aload_n 0, 42, 0, 0), (42, .getfield 16, 45, 1, 0), (45, .aload_n 0, 46, 0, 0), (46, .getfield 11, 49, 0, 0), (49, .iload_n 1, 50, 0, 0), (50, .aaload, 51, 0, 0), (51, .invokevirtual 133, 54, 71, 0), (54, .aload_n 0, 55, 0, 0), (55, .getfield 16, 58, 1, 0), (58, .aload_n 0, 59, 0, 0), (59, .getfield 11, 62, 0, 0), (62, .iload_n 2, 63, 0, 0), (63, .aaload, 64, 0, 0), (64, .invokevirtual 133, 67, 71, 0), (67, .aload_n 0, 68, 0, 0), (68, .getfield 16, 71, 1, 0), (71, .invokevirtual 102, 74, 27, 0), (74, .ifCond .eq 13, 77, 87, 0), (77, .new 77, 80, 6, 0), (80, .dup, 81, 0, 0), (81, .ldc 136, 83, 0, 0), (83, .invokespecial 81, 86, 0, 0), (86, .athrow, 87, 0, 0), (87, .aload_n 0, 88, 0, 0), (88, .getfield 11, 91, 0, 0), (91, .iload_n 3, 92, 0, 0), (92, .aaload, 93, 0, 0), (93, .aload_n 0, 94, 0, 0), (94, .getfield 16, 97, 1, 0), (97, .invokevirtual 108, 100, 28, 0), (100, .aload_n 0, 101, 0, 0), (101, .getfield 16, 104, 1, 0), (104, .invokevirtual 112, 107, 29, 0), (107, .ireturn, 108, 0, 0)])
theorem k_LB_apply : mm_okY Y_LB_apply := ⟨by decide +kernel, by decide +kernel, rfl, by decide⟩
theorem w_LB_apply : mm_cw Y_LB_apply ∈ mm_tbl := mm_in (mm_r3 _ (List.mem_of_getElem? (i := 5) rfl)) rfl
def Y_LB_requireTerm : mm_Y := ((⟨"LambdaBench", "requireTerm", "(I)V"⟩, 7), prog_1_method_20_code, 2, none, [], { frames := 6, cells := 1, slots := 6, locals := 90 }, [(0, .aload_n 0, 1, 0, 0), (1, .getfield 11, 4, 0, 0), (4, .iload_n 1, 5, 0, 0), (5, .aaload, 6, 0, 0), (6, .invokevirtual 112, 9, 29, 0), (9, .ifCond .ne 13, 12, 22, 0), (12, .new 77, 15, 7, 0), (15, .dup, 16, 0, 0), (16, .ldc 192, 18, 0, 0), (18, .invokespecial 81, 21, 0, 0), (21, .athrow, 22, 0, 0), (22, .return_, 23, 0, 0)])
theorem k_LB_requireTerm : mm_okY Y_LB_requireTerm := ⟨by decide +kernel, by decide +kernel, rfl, by decide⟩
theorem w_LB_requireTerm : mm_cw Y_LB_requireTerm ∈ mm_tbl := mm_in (mm_r3 _ (List.mem_of_getElem? (i := 9) rfl)) rfl
def Y_La_bind : mm_Y := ((⟨"LambdaBenchLaw", "bind", "(LLambdaBench;II[J)I"⟩, 9), method_9_code, 5, (some .int), [(0, 10, 13, 13), (0, 10, 17, 15)], { frames := 8, cells := 4, slots := 24, locals := 151 }, [(0, .aload_n 3, 1, 0, 0), (1, .iconst 0, 2, 0, nI 0), (2, .aload_n 0, 3, 0, 0), (3, .iload_n 1, 4, 0, 0), (4, .iload_n 2, 5, 0, 0), (5, .invokevirtual 38, 8, 72, 0), (8, .i2l, 9, 0, 0), (9, .lastore, 10, 0, 0), (10, .goto 11, 21, 0, 0), (13, .astore 4, 15, 0, 0), (15, .iconst 1, 16, 0, nI 1), (16, .ireturn, 17, 0, 0), (17, .astore 4, 19, 0, 0), (19, .iconst 2, 20, 0, nI 2), (20, .ireturn, 21, 0, 0), (21, .iconst 0, 22, 0, nI 0), (22, .ireturn, 23, 0, 0)])
theorem k_La_bind : mm_okY Y_La_bind := ⟨by decide +kernel, by decide +kernel, rfl, by decide⟩
theorem w_La_bind : mm_cw Y_La_bind ∈ mm_tbl := mm_in (mm_r3 _ (List.mem_of_getElem? (i := 17) rfl)) rfl
def Y_LB_bind : mm_Y := ((⟨"LambdaBench", "bind", "(II)I"⟩, 7), prog_1_method_9_code, 6, (some .int), [], { frames := 7, cells := 4, slots := 24, locals := 126 }, [(0, .aload_n 0, 1, 0, 0), (1, .iload_n 1, 2, 0, 0), (2, .invokevirtual 86, 5, 23, 0), (5, .aload_n 0, 6, 0, 0), (6, .iload_n 2, 7, 0, 0), (7, .invokevirtual 138, 10, 73, 0), (10, .aload_n 0, 11, 0, 0), (11, .iload_n 1, 12, 0, 0), (12, .invokevirtual 128, 15, 68, 0), (15, .aload_n 0, 16, 0, 0), (16, .getfield 11, 19, 0, 0), (19, .iload_n 1, 20, 0, 0), (20, .aaload, 21, 0, 0), (21, .astore_n 3, 22, 0, 0), (22, .aload_n 0, 23, 0, 0), (23, .getfield 44, 26, 5, 0), (26, .aload_n 3, 27, 0, 0), (27, .iconst 0, 28, 0, nI 0), (28, .invokevirtual 141, 31, 74, 0), (31, .pop, 32, 0, 0), (32, .aload_n 0, 33, 0, 0), (33, .getfield 16, 36, 1, 0), (36, .invokevirtual 131, 39, 69, 0), (39, .aload_n 0, 40, 0, 0), (40, .getfield 16, 43, 1, 0), (43, .bipush 92, 45, 0, nI 92), (45, .invokevirtual 132, 48, 70, 0), (48, .iconst 0, 49, 0, nI 0), (49, .istore 4, 51, 0, 0), (51, .iload 4, 53, 0, 0), (53, .aload_n 3, 54, 0, 0), (54, .invokevirtual 112, 57, 29, 0), (57, .if_icmp .ge 48, 60, 105, 0), (60, .aload_n 3, 61, 0, 0), (61, .iload 4, 63, 0, 0), (63, .invokevirtual 118, 66, 64, 0), (66, .istore 5, 68, 0, 0), (68, .aload_n 0, 69, 0, 0), (69, .getfield 16, 72, 1, 0), (72, .iload 5, 74, 0, 0), (74, .iload_n 2, 75, 0, 0), (75, .if_icmp .ne 19, 78, 94, 0), (78, .sipush 1000, 81, 0, nI 1000), (81, .aload_n 0, 82, 0, 0), (82, .getfield 44, 85, 5, 0), (85, .iload 4, 87, 0, 0), (87, .invokevirtual 145, 90, 75, 0), (90, .iadd, 91, 0, 0), (91, .goto 5, 96, 0, 0), (94, .iload 5, 96, 0, 0), (96, .invokevirtual 132, 99, 70, 0), (99, .iinc 4 1, 102, 0, nI 1), (102, .goto (-51), 51, 0, 0), (105, .aload_n 0, 106, 0, 0), (106, .getfield 16, 109, 1, 0), (109, .invokevirtual 102, 112, 27, 0), (112, .ifCond .eq 13, 115, 125, 0), (115, .new 77, 118, 8, 0), (118, .dup, 119, 0, 0), (119, .ldc 146, 121, 0, 0), (121, .invokespecial 81, 124, 0, 0), (124, .athrow, 125, 0, 0), (125, .aload_n 3, 126, 0, 0), (126, .aload_n 0, 127, 0, 0), (127, .getfield 16, 130, 1, 0), (130, .invokevirtual 108, 133, 28, 0), (133, .aload_n 0, 134, 0, 0), (134, .getfield 16, 137, 1, 0), (137, .invokevirtual 112, 140, 29, 0), (140, .ireturn, 141, 0, 0)])
theorem k_LB_bind : mm_okY Y_LB_bind := ⟨by decide +kernel, by decide +kernel, rfl, by decide⟩
theorem w_LB_bind : mm_cw Y_LB_bind ∈ mm_tbl := mm_in (mm_r3 _ (List.mem_of_getElem? (i := 21) rfl)) rfl
def Y_LB_requireLetter : mm_Y := ((⟨"LambdaBench", "requireLetter", "(I)V"⟩, 7), prog_1_method_18_code, 2, none, [], { frames := 6, cells := 1, slots := 6, locals := 90 }, [(0, .iload_n 1, 1, 0, 0), (1, .invokestatic 185, 4, 76, 0), (4, .ifCond .ne 13, 7, 17, 0), (7, .new 66, 10, 9, 0), (10, .dup, 11, 0, 0), (11, .ldc 188, 13, 0, 0), (13, .invokespecial 70, 16, 0, 0), (16, .athrow, 17, 0, 0), (17, .return_, 18, 0, 0)])
theorem k_LB_requireLetter : mm_okY Y_LB_requireLetter := ⟨by decide +kernel, by decide +kernel, rfl, by decide⟩
theorem w_LB_requireLetter : mm_cw Y_LB_requireLetter ∈ mm_tbl := mm_in (mm_r3 _ (List.mem_of_getElem? (i := 25) rfl)) rfl
def Y_De_measure : mm_Y := ((⟨"LambdaBench$Depths", "measure", "(LLambdaBench$Term;I)I"⟩, 2), prog_4_method_3_code, 7, (some .int), [], { frames := 1, cells := 0, slots := 0, locals := 21 }, [(0, .iconst 1, 1, 0, nI 1), (1, .istore_n 3, 2, 0, 0), (2, .aload_n 0, 3, 0, 0), (3, .getfield 15, 6, 16, 0), (6, .iconst 0, 7, 0, nI 0), (7, .iconst 0, 8, 0, nI 0), (8, .iastore, 9, 0, 0), (9, .iload_n 2, 10, 0, 0), (10, .istore 4, 12, 0, 0), (12, .iload 4, 14, 0, 0), (14, .aload_n 1, 15, 0, 0), (15, .invokevirtual 18, 18, 77, 0), (18, .if_icmp .ge 92, 21, 110, 0), (21, .iload_n 3, 22, 0, 0), (22, .ifCond .le 88, 25, 110, 0), (25, .iinc 3 (-1), 28, 0, (-1)), (28, .aload_n 0, 29, 0, 0), (29, .getfield 15, 32, 16, 0), (32, .iload_n 3, 33, 0, 0), (33, .iaload, 34, 0, 0), (34, .istore 5, 36, 0, 0), (36, .aload_n 0, 37, 0, 0), (37, .getfield 9, 40, 15, 0), (40, .iload 4, 42, 0, 0), (42, .iload 5, 44, 0, 0), (44, .iastore, 45, 0, 0), (45, .aload_n 1, 46, 0, 0), (46, .iload 4, 48, 0, 0), (48, .invokevirtual 24, 51, 78, 0), (51, .istore 6, 53, 0, 0), (53, .iload 6, 55, 0, 0), (55, .bipush 64, 57, 0, nI 64), (57, .if_icmp .ne 27, 60, 84, 0), (60, .aload_n 0, 61, 0, 0), (61, .getfield 15, 64, 16, 0), (64, .iload_n 3, 65, 0, 0), (65, .iload 5, 67, 0, 0), (67, .iastore, 68, 0, 0), (68, .aload_n 0, 69, 0, 0), (69, .getfield 15, 72, 16, 0), (72, .iload_n 3, 73, 0, 0), (73, .iconst 1, 74, 0, nI 1), (74, .iadd, 75, 0, 0), (75, .iload 5, 77, 0, 0), (77, .iastore, 78, 0, 0), (78, .iinc 3 2, 81, 0, nI 2), (81, .goto 23, 104, 0, 0), (84, .iload 6, 86, 0, 0), (86, .bipush 92, 88, 0, nI 92), (88, .if_icmp .ne 16, 91, 104, 0), (91, .aload_n 0, 92, 0, 0), (92, .getfield 15, 95, 16, 0), (95, .iload_n 3, 96, 0, 0), (96, .iload 5, 98, 0, 0), (98, .iconst 1, 99, 0, nI 1), (99, .iadd, 100, 0, 0), (100, .iastore, 101, 0, 0), (101, .iinc 3 1, 104, 0, nI 1), (104, .iinc 4 1, 107, 0, nI 1), (107, .goto (-95), 12, 0, 0), (110, .iload 4, 112, 0, 0), (112, .ireturn, 113, 0, 0)])
theorem k_De_measure : mm_okY Y_De_measure := ⟨by decide +kernel, by decide +kernel, rfl, by decide⟩
theorem w_De_measure : mm_cw Y_De_measure ∈ mm_tbl := mm_in (mm_r3 _ (List.mem_of_getElem? (i := 31) rfl)) rfl
def Y_De_at : mm_Y := ((⟨"LambdaBench$Depths", "at", "(I)I"⟩, 2), prog_4_method_2_code, 2, (some .int), [], { frames := 0, cells := 0, slots := 0, locals := 0 }, [(0, .iload_n 1, 1, 0, 0), (1, .ifCond .lt 19, 4, 20, 0), (4, .iload_n 1, 5, 0, 0), (5, .sipush 2000, 8, 0, nI 2000), (8, .if_icmp .ge 12, 11, 20, 0), (11, .aload_n 0, 12, 0, 0), (12, .getfield 9, 15, 15, 0), (15, .iload_n 1, 16, 0, 0), (16, .iaload, 17, 0, 0), (17, .goto 4, 21, 0, 0), (20, .iconst 0, 21, 0, nI 0), (21, .ireturn, 22, 0, 0)])
theorem k_De_at : mm_okY Y_De_at := ⟨by decide +kernel, by decide +kernel, rfl, by decide⟩
theorem w_De_at : mm_cw Y_De_at ∈ mm_tbl := mm_in (mm_r3 _ (List.mem_of_getElem? (i := 37) rfl)) rfl
def Y_La_redexes : mm_Y := ((⟨"LambdaBenchLaw", "redexes", "(LLambdaBench;I[J)I"⟩, 9), method_10_code, 4, (some .int), [(0, 9, 12, 13), (0, 9, 15, 15)], { frames := 8, cells := 2, slots := 12, locals := 135 }, [(0, .aload_n 2, 1, 0, 0), (1, .iconst 0, 2, 0, nI 0), (2, .aload_n 0, 3, 0, 0), (3, .iload_n 1, 4, 0, 0), (4, .invokevirtual 41, 7, 79, 0), (7, .i2l, 8, 0, 0), (8, .lastore, 9, 0, 0), (9, .goto 9, 18, 0, 0), (12, .astore_n 3, 13, 0, 0), (13, .iconst 1, 14, 0, nI 1), (14, .ireturn, 15, 0, 0), (15, .astore_n 3, 16, 0, 0), (16, .iconst 2, 17, 0, nI 2), (17, .ireturn, 18, 0, 0), (18, .iconst 0, 19, 0, nI 0), (19, .ireturn, 20, 0, 0)])
theorem k_La_redexes : mm_okY Y_La_redexes := ⟨by decide +kernel, by decide +kernel, rfl, by decide⟩
theorem w_La_redexes : mm_cw Y_La_redexes ∈ mm_tbl := mm_in (mm_r3 _ (List.mem_of_getElem? (i := 41) rfl)) rfl
def Y_LB_redexes : mm_Y := ((⟨"LambdaBench", "redexes", "(I)I"⟩, 7), prog_1_method_10_code, 5, (some .int), [], { frames := 7, cells := 2, slots := 12, locals := 111 }, [(0, .aload_n 0, 1, 0, 0), (1, .iload_n 1, 2, 0, 0), (2, .invokevirtual 86, 5, 23, 0), (5, .aload_n 0, 6, 0, 0), (6, .iload_n 1, 7, 0, 0), (7, .invokevirtual 128, 10, 68, 0), (10, .aload_n 0, 11, 0, 0), (11, .getfield 11, 14, 0, 0), (14, .iload_n 1, 15, 0, 0), (15, .aaload, 16, 0, 0), (16, .astore_n 2, 17, 0, 0), (17, .iconst 0, 18, 0, nI 0), (18, .istore_n 3, 19, 0, 0), (19, .iconst 0, 20, 0, nI 0), (20, .istore 4, 22, 0, 0), (22, .iload 4, 24, 0, 0), (24, .aload_n 2, 25, 0, 0), (25, .invokevirtual 112, 28, 29, 0), (28, .if_icmp .ge 21, 31, 49, 0), (31, .aload_n 2, 32, 0, 0), (32, .iload 4, 34, 0, 0), (34, .invokevirtual 148, 37, 80, 0), (37, .ifCond .eq 6, 40, 43, 0), (40, .iinc 3 1, 43, 0, nI 1), (43, .iinc 4 1, 46, 0, nI 1), (46, .goto (-24), 22, 0, 0), (49, .iload_n 3, 50, 0, 0), (50, .ireturn, 51, 0, 0)])
theorem k_LB_redexes : mm_okY Y_LB_redexes := ⟨by decide +kernel, by decide +kernel, rfl, by decide⟩
theorem w_LB_redexes : mm_cw Y_LB_redexes ∈ mm_tbl := mm_in (mm_r3 _ (List.mem_of_getElem? (i := 45) rfl)) rfl
def Y_Te_redexHead : mm_Y := ((⟨"LambdaBench$Term", "redexHead", "(I)I"⟩, 6), prog_8_method_13_code, 4, (some .int), [], { frames := 1, cells := 0, slots := 0, locals := 21 }, [(0, .aload_n 0, 1, 0, 0), (1, .iload_n 1, 2, 0, 0), (2, .invokevirtual 40, 5, 81, 0), (5, .bipush 64, 7, 0, nI 64), (7, .if_icmp .eq 5, 10, 12, 0), (10, .iconst 0, 11, 0, nI 0), (11, .ireturn, 12, 0, 0), (12, .aload_n 0, 13, 0, 0), (13, .iload_n 1, 14, 0, 0), (14, .iconst 1, 15, 0, nI 1), (15, .iadd, 16, 0, 0), (16, .invokevirtual 40, 19, 81, 0), (19, .istore_n 2, 20, 0, 0), (20, .iload_n 2, 21, 0, 0), (21, .bipush 92, 23, 0, nI 92), (23, .if_icmp .eq 9, 26, 32, 0), (26, .iload_n 2, 27, 0, 0), (27, .bipush 73, 29, 0, nI 73), (29, .if_icmp .ne 5, 32, 34, 0), (32, .iload_n 2, 33, 0, 0), (33, .ireturn, 34, 0, 0), (34, .iload_n 2, 35, 0, 0), (35, .bipush 64, 37, 0, nI 64), (37, .if_icmp .eq 5, 40, 42, 0), (40, .iconst 0, 41, 0, nI 0), (41, .ireturn, 42, 0, 0), (42, .aload_n 0, 43, 0, 0), (43, .iload_n 1, 44, 0, 0), (44, .iconst 2, 45, 0, nI 2), (45, .iadd, 46, 0, 0), (46, .invokevirtual 40, 49, 81, 0), (49, .istore_n 3, 50, 0, 0), (50, .iload_n 3, 51, 0, 0), (51, .bipush 75, 53, 0, nI 75), (53, .if_icmp .ne 6, 56, 59, 0), (56, .bipush 75, 58, 0, nI 75), (58, .ireturn, 59, 0, 0), (59, .iload_n 3, 60, 0, 0), (60, .bipush 64, 62, 0, nI 64), (62, .if_icmp .ne 20, 65, 82, 0), (65, .aload_n 0, 66, 0, 0), (66, .iload_n 1, 67, 0, 0), (67, .iconst 3, 68, 0, nI 3), (68, .iadd, 69, 0, 0), (69, .invokevirtual 40, 72, 81, 0), (72, .bipush 83, 74, 0, nI 83), (74, .if_icmp .ne 8, 77, 82, 0), (77, .bipush 83, 79, 0, nI 83), (79, .goto 4, 83, 0, 0), (82, .iconst 0, 83, 0, nI 0), (83, .ireturn, 84, 0, 0)])
theorem k_Te_redexHead : mm_okY Y_Te_redexHead := ⟨by decide +kernel, by decide +kernel, rfl, by decide⟩
theorem w_Te_redexHead : mm_cw Y_Te_redexHead ∈ mm_tbl := mm_in (mm_r3 _ (List.mem_of_getElem? (i := 49) rfl)) rfl
def Y_La_reduce : mm_Y := ((⟨"LambdaBenchLaw", "reduce", "(LLambdaBench;II[J)I"⟩, 9), method_11_code, 5, (some .int), [(0, 10, 13, 13), (0, 10, 17, 15)], { frames := 8, cells := 3, slots := 18, locals := 202 }, [(0, .aload_n 3, 1, 0, 0), (1, .iconst 0, 2, 0, nI 0), (2, .aload_n 0, 3, 0, 0), (3, .iload_n 1, 4, 0, 0), (4, .iload_n 2, 5, 0, 0), (5, .invokevirtual 44, 8, 82, 0), (8, .i2l, 9, 0, 0), (9, .lastore, 10, 0, 0), (10, .goto 11, 21, 0, 0), (13, .astore 4, 15, 0, 0), (15, .iconst 1, 16, 0, nI 1), (16, .ireturn, 17, 0, 0), (17, .astore 4, 19, 0, 0), (19, .iconst 2, 20, 0, nI 2), (20, .ireturn, 21, 0, 0), (21, .iconst 0, 22, 0, nI 0), (22, .ireturn, 23, 0, 0)])
theorem k_La_reduce : mm_okY Y_La_reduce := ⟨by decide +kernel, by decide +kernel, rfl, by decide⟩
theorem w_La_reduce : mm_cw Y_La_reduce ∈ mm_tbl := mm_in (mm_r3 _ (List.mem_of_getElem? (i := 53) rfl)) rfl
def Y_LB_reduce : mm_Y := ((⟨"LambdaBench", "reduce", "(II)I"⟩, 7), prog_1_method_11_code, 4, (some .int), [], { frames := 7, cells := 3, slots := 18, locals := 179 }, [(0, .aload_n 0, 1, 0, 0), (1, .iload_n 1, 2, 0, 0), (2, .invokevirtual 86, 5, 23, 0), (5, .aload_n 0, 6, 0, 0), (6, .iload_n 2, 7, 0, 0), (7, .invokevirtual 151, 10, 83, 0), (10, .aload_n 0, 11, 0, 0), (11, .iload_n 1, 12, 0, 0), (12, .invokevirtual 128, 15, 68, 0), (15, .aload_n 0, 16, 0, 0), (16, .getfield 51, 19, 6, 0), (19, .aload_n 0, 20, 0, 0), (20, .getfield 11, 23, 0, 0), (23, .iload_n 1, 24, 0, 0), (24, .aaload, 25, 0, 0), (25, .iload_n 2, 26, 0, 0), (26, .invokevirtual 154, 29, 84, 0), (29, .istore_n 3, 30, 0, 0), (30, .aload_n 0, 31, 0, 0), (31, .getfield 11, 34, 0, 0), (34, .iload_n 1, 35, 0, 0), (35, .aaload, 36, 0, 0), (36, .aload_n 0, 37, 0, 0), (37, .getfield 51, 40, 6, 0), (40, .invokevirtual 157, 43, 85, 0), (43, .invokevirtual 108, 46, 28, 0), (46, .iload_n 3, 47, 0, 0), (47, .ireturn, 48, 0, 0)])
theorem k_LB_reduce : mm_okY Y_LB_reduce := ⟨by decide +kernel, by decide +kernel, rfl, by decide⟩
theorem w_LB_reduce : mm_cw Y_LB_reduce ∈ mm_tbl := mm_in (mm_r3 _ (List.mem_of_getElem? (i := 57) rfl)) rfl
def Y_LB_requireSteps : mm_Y := ((⟨"LambdaBench", "requireSteps", "(I)V"⟩, 7), prog_1_method_19_code, 2, none, [], { frames := 6, cells := 1, slots := 6, locals := 90 }, [(0, .iload_n 1, 1, 0, 0), (1, .iconst 1, 2, 0, nI 1), (2, .if_icmp .lt 10, 5, 12, 0), (5, .iload_n 1, 6, 0, 0), (6, .sipush 400, 9, 0, nI 400), (9, .if_icmp .le 13, 12, 22, 0), (12, .new 66, 15, 10, 0), (15, .dup, 16, 0, 0), (16, .ldc 190, 18, 0, 0), (18, .invokespecial 70, 21, 0, 0), (21, .athrow, 22, 0, 0), (22, .return_, 23, 0, 0)])
theorem k_LB_requireSteps : mm_okY Y_LB_requireSteps := ⟨by decide +kernel, by decide +kernel, rfl, by decide⟩
theorem w_LB_requireSteps : mm_cw Y_LB_requireSteps ∈ mm_tbl := mm_in (mm_r3 _ (List.mem_of_getElem? (i := 61) rfl)) rfl
def Y_Re_run : mm_Y := ((⟨"LambdaBench$Reducer", "run", "(LLambdaBench$Term;I)I"⟩, 4), prog_6_method_4_code, 6, (some .int), [], { frames := 5, cells := 0, slots := 0, locals := 154 }, [(0, .aload_n 0, 1, 0, 0), (1, .getfield 21, 4, 18, 0), (4, .aload_n 1, 5, 0, 0), (5, .invokevirtual 32, 8, 86, 0), (8, .iconst 0, 9, 0, nI 0), (9, .istore_n 3, 10, 0, 0), (10, .iload_n 3, 11, 0, 0), (11, .iload_n 2, 12, 0, 0), (12, .if_icmp .ge 74, 15, 86, 0), (15, .aload_n 0, 16, 0, 0), (16, .getfield 21, 19, 18, 0), (19, .invokevirtual 36, 22, 87, 0), (22, .istore 4, 24, 0, 0), (24, .iload 4, 26, 0, 0), (26, .iconst (-1), 27, 0, (-1)), (27, .if_icmp .ne 10, 30, 37, 0), (30, .aload_n 0, 31, 0, 0), (31, .iconst 1, 32, 0, nI 1), (32, .putfield 28, 35, 20, 0), (35, .iload_n 3, 36, 0, 0), (36, .ireturn, 37, 0, 0), (37, .aload_n 0, 38, 0, 0), (38, .iload 4, 40, 0, 0), (40, .invokevirtual 40, 43, 88, 0), (43, .aload_n 0, 44, 0, 0), (44, .getfield 25, 47, 19, 0), (47, .invokevirtual 44, 50, 89, 0), (50, .ifCond .eq 10, 53, 60, 0), (53, .aload_n 0, 54, 0, 0), (54, .iconst 3, 55, 0, nI 3), (55, .putfield 28, 58, 20, 0), (58, .iload_n 3, 59, 0, 0), (59, .ireturn, 60, 0, 0), (60, .aload_n 0, 61, 0, 0), (61, .getfield 21, 64, 18, 0), (64, .astore 5, 66, 0, 0), (66, .aload_n 0, 67, 0, 0), (67, .aload_n 0, 68, 0, 0), (68, .getfield 25, 71, 19, 0), (71, .putfield 21, 74, 18, 0), (74, .aload_n 0, 75, 0, 0), (75, .aload 5, 77, 0, 0), (77, .putfield 25, 80, 19, 0), (80, .iinc 3 1, 83, 0, nI 1), (83, .goto (-73), 10, 0, 0), (86, .aload_n 0, 87, 0, 0), (87, .aload_n 0, 88, 0, 0), (88, .getfield 21, 91, 18, 0), (91, .invokevirtual 36, 94, 87, 0), (94, .iconst (-1), 95, 0, (-1)), (95, .if_icmp .ne 7, 98, 102, 0), (98, .iconst 1, 99, 0, nI 1), (99, .goto 4, 103, 0, 0), (102, .iconst 2, 103, 0, nI 2), (103, .putfield 28, 106, 20, 0), (106, .iload_n 2, 107, 0, 0), (107, .ireturn, 108, 0, 0)])
theorem k_Re_run : mm_okY Y_Re_run := ⟨by decide +kernel, by decide +kernel, rfl, by decide⟩
theorem w_Re_run : mm_cw Y_Re_run ∈ mm_tbl := mm_in (mm_r3 _ (List.mem_of_getElem? (i := 66) rfl)) rfl
def Y_Te_firstRedex : mm_Y := ((⟨"LambdaBench$Term", "firstRedex", "()I"⟩, 6), prog_8_method_14_code, 2, (some .int), [], { frames := 2, cells := 0, slots := 0, locals := 44 }, [(0, .iconst 0, 1, 0, nI 0), (1, .istore_n 1, 2, 0, 0), (2, .iload_n 1, 3, 0, 0), (3, .aload_n 0, 4, 0, 0), (4, .getfield 15, 7, 31, 0), (7, .if_icmp .ge 19, 10, 26, 0), (10, .aload_n 0, 11, 0, 0), (11, .iload_n 1, 12, 0, 0), (12, .invokevirtual 44, 15, 90, 0), (15, .ifCond .eq 5, 18, 20, 0), (18, .iload_n 1, 19, 0, 0), (19, .ireturn, 20, 0, 0), (20, .iinc 1 1, 23, 0, nI 1), (23, .goto (-21), 2, 0, 0), (26, .iconst (-1), 27, 0, (-1)), (27, .ireturn, 28, 0, 0)])
theorem k_Te_firstRedex : mm_okY Y_Te_firstRedex := ⟨by decide +kernel, by decide +kernel, rfl, by decide⟩
theorem w_Te_firstRedex : mm_cw Y_Te_firstRedex ∈ mm_tbl := mm_in (mm_r3 _ (List.mem_of_getElem? (i := 71) rfl)) rfl
def Y_Re_writeStep : mm_Y := ((⟨"LambdaBench$Reducer", "writeStep", "(I)V"⟩, 4), prog_6_method_5_code, 3, none, [], { frames := 4, cells := 0, slots := 0, locals := 132 }, [(0, .aload_n 0, 1, 0, 0), (1, .getfield 25, 4, 19, 0), (4, .invokevirtual 48, 7, 91, 0), (7, .aload_n 0, 8, 0, 0), (8, .getfield 25, 11, 19, 0), (11, .aload_n 0, 12, 0, 0), (12, .getfield 21, 15, 18, 0), (15, .iconst 0, 16, 0, nI 0), (16, .iload_n 1, 17, 0, 0), (17, .invokevirtual 51, 20, 92, 0), (20, .aload_n 0, 21, 0, 0), (21, .iload_n 1, 22, 0, 0), (22, .invokevirtual 55, 25, 93, 0), (25, .istore_n 2, 26, 0, 0), (26, .aload_n 0, 27, 0, 0), (27, .getfield 25, 30, 19, 0), (30, .aload_n 0, 31, 0, 0), (31, .getfield 21, 34, 18, 0), (34, .iload_n 2, 35, 0, 0), (35, .aload_n 0, 36, 0, 0), (36, .getfield 21, 39, 18, 0), (39, .invokevirtual 59, 42, 94, 0), (42, .invokevirtual 51, 45, 92, 0), (45, .return_, 46, 0, 0)])
theorem k_Re_writeStep : mm_okY Y_Re_writeStep := ⟨by decide +kernel, by decide +kernel, rfl, by decide⟩
theorem w_Re_writeStep : mm_cw Y_Re_writeStep ∈ mm_tbl := mm_in (mm_r3 _ (List.mem_of_getElem? (i := 76) rfl)) rfl
def Y_Re_writeReplacement : mm_Y := ((⟨"LambdaBench$Reducer", "writeReplacement", "(I)I"⟩, 4), prog_6_method_6_code, 5, (some .int), [], { frames := 3, cells := 0, slots := 0, locals := 108 }, [(0, .aload_n 0, 1, 0, 0), (1, .getfield 21, 4, 18, 0), (4, .iload_n 1, 5, 0, 0), (5, .invokevirtual 62, 8, 95, 0), (8, .istore_n 2, 9, 0, 0), (9, .iload_n 2, 10, 0, 0), (10, .bipush 92, 12, 0, nI 92), (12, .if_icmp .ne 11, 15, 23, 0), (15, .aload_n 0, 16, 0, 0), (16, .iload_n 1, 17, 0, 0), (17, .iconst 2, 18, 0, nI 2), (18, .iadd, 19, 0, 0), (19, .invokevirtual 65, 22, 96, 0), (22, .ireturn, 23, 0, 0), (23, .iload_n 2, 24, 0, 0), (24, .bipush 83, 26, 0, nI 83), (26, .if_icmp .ne 11, 29, 37, 0), (29, .aload_n 0, 30, 0, 0), (30, .iload_n 1, 31, 0, 0), (31, .iconst 4, 32, 0, nI 4), (32, .iadd, 33, 0, 0), (33, .invokevirtual 68, 36, 97, 0), (36, .ireturn, 37, 0, 0), (37, .iload_n 2, 38, 0, 0), (38, .bipush 75, 40, 0, nI 75), (40, .if_icmp .ne 9, 43, 49, 0), (43, .iload_n 1, 44, 0, 0), (44, .iconst 3, 45, 0, nI 3), (45, .iadd, 46, 0, 0), (46, .goto 6, 52, 0, 0), (49, .iload_n 1, 50, 0, 0), (50, .iconst 2, 51, 0, nI 2), (51, .iadd, 52, 0, 0), (52, .istore_n 3, 53, 0, 0), (53, .aload_n 0, 54, 0, 0), (54, .getfield 21, 57, 18, 0), (57, .iload_n 3, 58, 0, 0), (58, .invokevirtual 71, 61, 98, 0), (61, .istore 4, 63, 0, 0), (63, .aload_n 0, 64, 0, 0), (64, .getfield 25, 67, 19, 0), (67, .aload_n 0, 68, 0, 0), (68, .getfield 21, 71, 18, 0), (71, .iload_n 3, 72, 0, 0), (72, .iload 4, 74, 0, 0), (74, .invokevirtual 51, 77, 92, 0), (77, .iload_n 2, 78, 0, 0), (78, .bipush 75, 80, 0, nI 75), (80, .if_icmp .ne 15, 83, 95, 0), (83, .aload_n 0, 84, 0, 0), (84, .getfield 21, 87, 18, 0), (87, .iload 4, 89, 0, 0), (89, .invokevirtual 71, 92, 98, 0), (92, .goto 5, 97, 0, 0), (95, .iload 4, 97, 0, 0), (97, .ireturn, 98, 0, 0)])
theorem k_Re_writeReplacement : mm_okY Y_Re_writeReplacement := ⟨by decide +kernel, by decide +kernel, rfl, by decide⟩
theorem w_Re_writeReplacement : mm_cw Y_Re_writeReplacement ∈ mm_tbl := mm_in (mm_r3 _ (List.mem_of_getElem? (i := 82) rfl)) rfl
def Y_Re_writeBody : mm_Y := ((⟨"LambdaBench$Reducer", "writeBody", "(I)I"⟩, 4), prog_6_method_8_code, 7, (some .int), [], { frames := 2, cells := 0, slots := 0, locals := 47 }, [(0, .aload_n 0, 1, 0, 0), (1, .getfield 12, 4, 17, 0), (4, .aload_n 0, 5, 0, 0), (5, .getfield 21, 8, 18, 0), (8, .iload_n 1, 9, 0, 0), (9, .invokevirtual 77, 12, 99, 0), (12, .istore_n 2, 13, 0, 0), (13, .aload_n 0, 14, 0, 0), (14, .getfield 12, 17, 17, 0), (17, .aload_n 0, 18, 0, 0), (18, .getfield 21, 21, 18, 0), (21, .iload_n 2, 22, 0, 0), (22, .invokevirtual 77, 25, 99, 0), (25, .istore_n 3, 26, 0, 0), (26, .iload_n 1, 27, 0, 0), (27, .istore 4, 29, 0, 0), (29, .iload 4, 31, 0, 0), (31, .iload_n 2, 32, 0, 0), (32, .if_icmp .ge 93, 35, 125, 0), (35, .aload_n 0, 36, 0, 0), (36, .getfield 25, 39, 19, 0), (39, .invokevirtual 44, 42, 89, 0), (42, .ifCond .ne 83, 45, 125, 0), (45, .aload_n 0, 46, 0, 0), (46, .getfield 21, 49, 18, 0), (49, .iload 4, 51, 0, 0), (51, .invokevirtual 81, 54, 100, 0), (54, .istore 5, 56, 0, 0), (56, .sipush 1000, 59, 0, nI 1000), (59, .aload_n 0, 60, 0, 0), (60, .getfield 12, 63, 17, 0), (63, .iload 4, 65, 0, 0), (65, .invokevirtual 84, 68, 101, 0), (68, .iadd, 69, 0, 0), (69, .istore 6, 71, 0, 0), (71, .iload 5, 73, 0, 0), (73, .iload 6, 75, 0, 0), (75, .if_icmp .ne 21, 78, 96, 0), (78, .aload_n 0, 79, 0, 0), (79, .iload_n 2, 80, 0, 0), (80, .iload_n 3, 81, 0, 0), (81, .aload_n 0, 82, 0, 0), (82, .getfield 12, 85, 17, 0), (85, .iload 4, 87, 0, 0), (87, .invokevirtual 84, 90, 101, 0), (90, .invokevirtual 85, 93, 102, 0), (93, .goto 26, 119, 0, 0), (96, .aload_n 0, 97, 0, 0), (97, .getfield 25, 100, 19, 0), (100, .iload 5, 102, 0, 0), (102, .iload 6, 104, 0, 0), (104, .if_icmp .le 10, 107, 114, 0), (107, .iload 5, 109, 0, 0), (109, .iconst 1, 110, 0, nI 1), (110, .isub, 111, 0, 0), (111, .goto 5, 116, 0, 0), (114, .iload 5, 116, 0, 0), (116, .invokevirtual 74, 119, 103, 0), (119, .iinc 4 1, 122, 0, nI 1), (122, .goto (-93), 29, 0, 0), (125, .iload_n 3, 126, 0, 0), (126, .ireturn, 127, 0, 0)])
theorem k_Re_writeBody : mm_okY Y_Re_writeBody := ⟨by decide +kernel, by decide +kernel, rfl, by decide⟩
theorem w_Re_writeBody : mm_cw Y_Re_writeBody ∈ mm_tbl := mm_in (mm_r3 _ (List.mem_of_getElem? (i := 87) rfl)) rfl
def Y_Re_writeArgument : mm_Y := ((⟨"LambdaBench$Reducer", "writeArgument", "(III)V"⟩, 4), prog_6_method_9_code, 6, none, [], { frames := 1, cells := 0, slots := 0, locals := 21 }, [(0, .iload_n 1, 1, 0, 0), (1, .istore 4, 3, 0, 0), (3, .iload 4, 5, 0, 0), (5, .iload_n 2, 6, 0, 0), (6, .if_icmp .ge 64, 9, 70, 0), (9, .aload_n 0, 10, 0, 0), (10, .getfield 25, 13, 19, 0), (13, .invokevirtual 44, 16, 89, 0), (16, .ifCond .ne 54, 19, 70, 0), (19, .aload_n 0, 20, 0, 0), (20, .getfield 21, 23, 18, 0), (23, .iload 4, 25, 0, 0), (25, .invokevirtual 81, 28, 100, 0), (28, .istore 5, 30, 0, 0), (30, .aload_n 0, 31, 0, 0), (31, .getfield 25, 34, 19, 0), (34, .iload 5, 36, 0, 0), (36, .sipush 1000, 39, 0, nI 1000), (39, .aload_n 0, 40, 0, 0), (40, .getfield 12, 43, 17, 0), (43, .iload 4, 45, 0, 0), (45, .invokevirtual 84, 48, 101, 0), (48, .iadd, 49, 0, 0), (49, .if_icmp .lt 10, 52, 59, 0), (52, .iload 5, 54, 0, 0), (54, .iload_n 3, 55, 0, 0), (55, .iadd, 56, 0, 0), (56, .goto 5, 61, 0, 0), (59, .iload 5, 61, 0, 0), (61, .invokevirtual 74, 64, 103, 0), (64, .iinc 4 1, 67, 0, nI 1), (67, .goto (-64), 3, 0, 0), (70, .return_, 71, 0, 0)])
theorem k_Re_writeArgument : mm_okY Y_Re_writeArgument := ⟨by decide +kernel, by decide +kernel, rfl, by decide⟩
theorem w_Re_writeArgument : mm_cw Y_Re_writeArgument ∈ mm_tbl := mm_in (mm_r3 _ (List.mem_of_getElem? (i := 95) rfl)) rfl
def Y_Re_writeShared : mm_Y := ((⟨"LambdaBench$Reducer", "writeShared", "(I)I"⟩, 4), prog_6_method_7_code, 5, (some .int), [], { frames := 2, cells := 0, slots := 0, locals := 84 }, [(0, .aload_n 0, 1, 0, 0), (1, .getfield 21, 4, 18, 0), (4, .iload_n 1, 5, 0, 0), (5, .invokevirtual 71, 8, 98, 0), (8, .istore_n 2, 9, 0, 0), (9, .aload_n 0, 10, 0, 0), (10, .getfield 21, 13, 18, 0), (13, .iload_n 2, 14, 0, 0), (14, .invokevirtual 71, 17, 98, 0), (17, .istore_n 3, 18, 0, 0), (18, .aload_n 0, 19, 0, 0), (19, .getfield 21, 22, 18, 0), (22, .iload_n 3, 23, 0, 0), (23, .invokevirtual 71, 26, 98, 0), (26, .istore 4, 28, 0, 0), (28, .aload_n 0, 29, 0, 0), (29, .getfield 25, 32, 19, 0), (32, .bipush 64, 34, 0, nI 64), (34, .invokevirtual 74, 37, 103, 0), (37, .aload_n 0, 38, 0, 0), (38, .getfield 25, 41, 19, 0), (41, .bipush 64, 43, 0, nI 64), (43, .invokevirtual 74, 46, 103, 0), (46, .aload_n 0, 47, 0, 0), (47, .getfield 25, 50, 19, 0), (50, .aload_n 0, 51, 0, 0), (51, .getfield 21, 54, 18, 0), (54, .iload_n 1, 55, 0, 0), (55, .iload_n 2, 56, 0, 0), (56, .invokevirtual 51, 59, 92, 0), (59, .aload_n 0, 60, 0, 0), (60, .getfield 25, 63, 19, 0), (63, .aload_n 0, 64, 0, 0), (64, .getfield 21, 67, 18, 0), (67, .iload_n 3, 68, 0, 0), (68, .iload 4, 70, 0, 0), (70, .invokevirtual 51, 73, 92, 0), (73, .aload_n 0, 74, 0, 0), (74, .getfield 25, 77, 19, 0), (77, .bipush 64, 79, 0, nI 64), (79, .invokevirtual 74, 82, 103, 0), (82, .aload_n 0, 83, 0, 0), (83, .getfield 25, 86, 19, 0), (86, .aload_n 0, 87, 0, 0), (87, .getfield 21, 90, 18, 0), (90, .iload_n 2, 91, 0, 0), (91, .iload 4, 93, 0, 0), (93, .invokevirtual 51, 96, 92, 0), (96, .iload 4, 98, 0, 0), (98, .ireturn, 99, 0, 0)])
theorem k_Re_writeShared : mm_okY Y_Re_writeShared := ⟨by decide +kernel, by decide +kernel, rfl, by decide⟩
theorem w_Re_writeShared : mm_cw Y_Re_writeShared ∈ mm_tbl := mm_in (mm_r3 _ (List.mem_of_getElem? (i := 100) rfl)) rfl
def Y_Te_endOf : mm_Y := ((⟨"LambdaBench$Term", "endOf", "(I)I"⟩, 6), prog_8_method_12_code, 5, (some .int), [], { frames := 1, cells := 0, slots := 0, locals := 21 }, [(0, .iconst 1, 1, 0, nI 1), (1, .istore_n 2, 2, 0, 0), (2, .iload_n 1, 3, 0, 0), (3, .istore_n 3, 4, 0, 0), (4, .iload_n 3, 5, 0, 0), (5, .aload_n 0, 6, 0, 0), (6, .getfield 15, 9, 31, 0), (9, .if_icmp .ge 43, 12, 52, 0), (12, .iload_n 2, 13, 0, 0), (13, .ifCond .le 39, 16, 52, 0), (16, .aload_n 0, 17, 0, 0), (17, .iload_n 3, 18, 0, 0), (18, .invokevirtual 40, 21, 81, 0), (21, .istore 4, 23, 0, 0), (23, .iload 4, 25, 0, 0), (25, .bipush 64, 27, 0, nI 64), (27, .if_icmp .ne 9, 30, 36, 0), (30, .iinc 2 1, 33, 0, nI 1), (33, .goto 13, 46, 0, 0), (36, .iload 4, 38, 0, 0), (38, .bipush 92, 40, 0, nI 92), (40, .if_icmp .eq 6, 43, 46, 0), (43, .iinc 2 (-1), 46, 0, (-1)), (46, .iinc 3 1, 49, 0, nI 1), (49, .goto (-45), 4, 0, 0), (52, .iload_n 3, 53, 0, 0), (53, .ireturn, 54, 0, 0)])
theorem k_Te_endOf : mm_okY Y_Te_endOf := ⟨by decide +kernel, by decide +kernel, rfl, by decide⟩
theorem w_Te_endOf : mm_cw Y_Te_endOf ∈ mm_tbl := mm_in (mm_r3 _ (List.mem_of_getElem? (i := 104) rfl)) rfl
def Y_Re_result : mm_Y := ((⟨"LambdaBench$Reducer", "result", "()LLambdaBench$Term;"⟩, 4), prog_6_method_3_code, 1, (some (.object "LambdaBench$Term")), [], { frames := 0, cells := 0, slots := 0, locals := 0 }, [(0, .aload_n 0, 1, 0, 0), (1, .getfield 21, 4, 18, 0), (4, .areturn, 5, 0, 0)])
theorem k_Re_result : mm_okY Y_Re_result := ⟨by decide +kernel, by decide +kernel, rfl, by decide⟩
theorem w_Re_result : mm_cw Y_Re_result ∈ mm_tbl := mm_in (mm_r3 _ (List.mem_of_getElem? (i := 109) rfl)) rfl
def Y_La_abstracted : mm_Y := ((⟨"LambdaBenchLaw", "abstracted", "(LLambdaBench;I[J)I"⟩, 9), method_12_code, 4, (some .int), [(0, 9, 12, 13), (0, 9, 15, 15)], { frames := 8, cells := 3, slots := 18, locals := 170 }, [(0, .aload_n 2, 1, 0, 0), (1, .iconst 0, 2, 0, nI 0), (2, .aload_n 0, 3, 0, 0), (3, .iload_n 1, 4, 0, 0), (4, .invokevirtual 47, 7, 104, 0), (7, .i2l, 8, 0, 0), (8, .lastore, 9, 0, 0), (9, .goto 9, 18, 0, 0), (12, .astore_n 3, 13, 0, 0), (13, .iconst 1, 14, 0, nI 1), (14, .ireturn, 15, 0, 0), (15, .astore_n 3, 16, 0, 0), (16, .iconst 2, 17, 0, nI 2), (17, .ireturn, 18, 0, 0), (18, .iconst 0, 19, 0, nI 0), (19, .ireturn, 20, 0, 0)])
theorem k_La_abstracted : mm_okY Y_La_abstracted := ⟨by decide +kernel, by decide +kernel, rfl, by decide⟩
theorem w_La_abstracted : mm_cw Y_La_abstracted ∈ mm_tbl := mm_in (mm_r3 _ (List.mem_of_getElem? (i := 112) rfl)) rfl
def Y_LB_abstracted : mm_Y := ((⟨"LambdaBench", "abstracted", "(I)I"⟩, 7), prog_1_method_13_code, 2, (some .int), [], { frames := 7, cells := 3, slots := 18, locals := 149 }, [(0, .aload_n 0, 1, 0, 0), (1, .iload_n 1, 2, 0, 0), (2, .invokevirtual 86, 5, 23, 0), (5, .aload_n 0, 6, 0, 0), (6, .iload_n 1, 7, 0, 0), (7, .invokevirtual 128, 10, 68, 0), (10, .aload_n 0, 11, 0, 0), (11, .getfield 58, 14, 7, 0), (14, .aload_n 0, 15, 0, 0), (15, .getfield 11, 18, 0, 0), (18, .iload_n 1, 19, 0, 0), (19, .aaload, 20, 0, 0), (20, .invokevirtual 164, 23, 105, 0), (23, .ifCond .ne 13, 26, 36, 0), (26, .new 77, 29, 11, 0), (29, .dup, 30, 0, 0), (30, .ldc 167, 32, 0, 0), (32, .invokespecial 81, 35, 0, 0), (35, .athrow, 36, 0, 0), (36, .aload_n 0, 37, 0, 0), (37, .getfield 11, 40, 0, 0), (40, .iload_n 1, 41, 0, 0), (41, .aaload, 42, 0, 0), (42, .aload_n 0, 43, 0, 0), (43, .getfield 58, 46, 7, 0), (46, .invokevirtual 169, 49, 106, 0), (49, .invokevirtual 108, 52, 28, 0), (52, .aload_n 0, 53, 0, 0), (53, .getfield 11, 56, 0, 0), (56, .iload_n 1, 57, 0, 0), (57, .aaload, 58, 0, 0), (58, .invokevirtual 112, 61, 29, 0), (61, .ireturn, 62, 0, 0)])
theorem k_LB_abstracted : mm_okY Y_LB_abstracted := ⟨by decide +kernel, by decide +kernel, rfl, by decide⟩
theorem w_LB_abstracted : mm_cw Y_LB_abstracted ∈ mm_tbl := mm_in (mm_r3 _ (List.mem_of_getElem? (i := 116) rfl)) rfl
def Y_Ab_run : mm_Y := ((⟨"LambdaBench$Abstractor", "run", "(LLambdaBench$Term;)Z"⟩, 0), prog_2_method_3_code, 4, (some .boolean), [], { frames := 4, cells := 0, slots := 0, locals := 126 }, [(0, .aload_n 0, 1, 0, 0), (1, .getfield 21, 4, 23, 0), (4, .aload_n 1, 5, 0, 0), (5, .invokevirtual 28, 8, 107, 0), (8, .aload_n 1, 9, 0, 0), (9, .invokevirtual 32, 12, 108, 0), (12, .iconst 1, 13, 0, nI 1), (13, .isub, 14, 0, 0), (14, .istore_n 2, 15, 0, 0), (15, .iload_n 2, 16, 0, 0), (16, .ifCond .lt 57, 19, 73, 0), (19, .aload_n 0, 20, 0, 0), (20, .getfield 21, 23, 23, 0), (23, .iload_n 2, 24, 0, 0), (24, .invokevirtual 36, 27, 109, 0), (27, .bipush 92, 29, 0, nI 92), (29, .if_icmp .ne 38, 32, 67, 0), (32, .aload_n 0, 33, 0, 0), (33, .iload_n 2, 34, 0, 0), (34, .invokevirtual 40, 37, 110, 0), (37, .aload_n 0, 38, 0, 0), (38, .getfield 25, 41, 24, 0), (41, .invokevirtual 44, 44, 111, 0), (44, .ifCond .eq 5, 47, 49, 0), (47, .iconst 0, 48, 0, nI 0), (48, .ireturn, 49, 0, 0), (49, .aload_n 0, 50, 0, 0), (50, .getfield 21, 53, 23, 0), (53, .astore_n 3, 54, 0, 0), (54, .aload_n 0, 55, 0, 0), (55, .aload_n 0, 56, 0, 0), (56, .getfield 25, 59, 24, 0), (59, .putfield 21, 62, 23, 0), (62, .aload_n 0, 63, 0, 0), (63, .aload_n 3, 64, 0, 0), (64, .putfield 25, 67, 24, 0), (67, .iinc 2 (-1), 70, 0, (-1)), (70, .goto (-55), 15, 0, 0), (73, .iconst 1, 74, 0, nI 1), (74, .ireturn, 75, 0, 0)])
theorem k_Ab_run : mm_okY Y_Ab_run := ⟨by decide +kernel, by decide +kernel, rfl, by decide⟩
theorem w_Ab_run : mm_cw Y_Ab_run ∈ mm_tbl := mm_in (mm_r3 _ (List.mem_of_getElem? (i := 120) rfl)) rfl
def Y_Ab_writeWithout : mm_Y := ((⟨"LambdaBench$Abstractor", "writeWithout", "(I)V"⟩, 0), prog_2_method_4_code, 6, none, [], { frames := 3, cells := 0, slots := 0, locals := 84 }, [(0, .iload_n 1, 1, 0, 0), (1, .iconst 1, 2, 0, nI 1), (2, .iadd, 3, 0, 0), (3, .istore_n 2, 4, 0, 0), (4, .aload_n 0, 5, 0, 0), (5, .getfield 21, 8, 23, 0), (8, .iload_n 2, 9, 0, 0), (9, .invokevirtual 48, 12, 112, 0), (12, .istore_n 3, 13, 0, 0), (13, .aload_n 0, 14, 0, 0), (14, .iload_n 2, 15, 0, 0), (15, .iload_n 3, 16, 0, 0), (16, .invokevirtual 51, 19, 113, 0), (19, .aload_n 0, 20, 0, 0), (20, .getfield 25, 23, 24, 0), (23, .invokevirtual 55, 26, 114, 0), (26, .aload_n 0, 27, 0, 0), (27, .getfield 25, 30, 24, 0), (30, .aload_n 0, 31, 0, 0), (31, .getfield 21, 34, 23, 0), (34, .iconst 0, 35, 0, nI 0), (35, .iload_n 1, 36, 0, 0), (36, .invokevirtual 58, 39, 115, 0), (39, .iload_n 2, 40, 0, 0), (40, .istore 4, 42, 0, 0), (42, .iload_n 2, 43, 0, 0), (43, .istore 5, 45, 0, 0), (45, .iload 5, 47, 0, 0), (47, .iload_n 3, 48, 0, 0), (48, .if_icmp .ge 34, 51, 82, 0), (51, .aload_n 0, 52, 0, 0), (52, .getfield 25, 55, 24, 0), (55, .invokevirtual 44, 58, 111, 0), (58, .ifCond .ne 24, 61, 82, 0), (61, .iload 5, 63, 0, 0), (63, .iload 4, 65, 0, 0), (65, .if_icmp .lt 11, 68, 76, 0), (68, .aload_n 0, 69, 0, 0), (69, .iload 5, 71, 0, 0), (71, .invokevirtual 62, 74, 116, 0), (74, .istore 4, 76, 0, 0), (76, .iinc 5 1, 79, 0, nI 1), (79, .goto (-34), 45, 0, 0), (82, .aload_n 0, 83, 0, 0), (83, .getfield 25, 86, 24, 0), (86, .aload_n 0, 87, 0, 0), (87, .getfield 21, 90, 23, 0), (90, .iload_n 3, 91, 0, 0), (91, .aload_n 0, 92, 0, 0), (92, .getfield 21, 95, 23, 0), (95, .invokevirtual 32, 98, 108, 0), (98, .invokevirtual 58, 101, 115, 0), (101, .return_, 102, 0, 0)])
theorem k_Ab_writeWithout : mm_okY Y_Ab_writeWithout := ⟨by decide +kernel, by decide +kernel, rfl, by decide⟩
theorem w_Ab_writeWithout : mm_cw Y_Ab_writeWithout ∈ mm_tbl := mm_in (mm_r3 _ (List.mem_of_getElem? (i := 127) rfl)) rfl
def Y_Ab_measure : mm_Y := ((⟨"LambdaBench$Abstractor", "measure", "(II)V"⟩, 0), prog_2_method_5_code, 4, none, [], { frames := 1, cells := 0, slots := 0, locals := 21 }, [(0, .aload_n 0, 1, 0, 0), (1, .getfield 9, 4, 21, 0), (4, .iload_n 2, 5, 0, 0), (5, .iload_n 2, 6, 0, 0), (6, .iastore, 7, 0, 0), (7, .iload_n 2, 8, 0, 0), (8, .iconst 1, 9, 0, nI 1), (9, .isub, 10, 0, 0), (10, .istore_n 3, 11, 0, 0), (11, .iload_n 3, 12, 0, 0), (12, .iload_n 1, 13, 0, 0), (13, .if_icmp .lt 47, 16, 60, 0), (16, .aload_n 0, 17, 0, 0), (17, .getfield 9, 20, 21, 0), (20, .iload_n 3, 21, 0, 0), (21, .aload_n 0, 22, 0, 0), (22, .getfield 21, 25, 23, 0), (25, .iload_n 3, 26, 0, 0), (26, .invokevirtual 36, 29, 109, 0), (29, .bipush 64, 31, 0, nI 64), (31, .if_icmp .ne 19, 34, 50, 0), (34, .aload_n 0, 35, 0, 0), (35, .getfield 9, 38, 21, 0), (38, .aload_n 0, 39, 0, 0), (39, .getfield 9, 42, 21, 0), (42, .iload_n 3, 43, 0, 0), (43, .iconst 1, 44, 0, nI 1), (44, .iadd, 45, 0, 0), (45, .iaload, 46, 0, 0), (46, .iaload, 47, 0, 0), (47, .goto 6, 53, 0, 0), (50, .iload_n 3, 51, 0, 0), (51, .iconst 1, 52, 0, nI 1), (52, .iadd, 53, 0, 0), (53, .iastore, 54, 0, 0), (54, .iinc 3 (-1), 57, 0, (-1)), (57, .goto (-46), 11, 0, 0), (60, .aload_n 0, 61, 0, 0), (61, .getfield 15, 64, 22, 0), (64, .iload_n 1, 65, 0, 0), (65, .iconst 0, 66, 0, nI 0), (66, .iastore, 67, 0, 0), (67, .iload_n 1, 68, 0, 0), (68, .istore_n 3, 69, 0, 0), (69, .iload_n 3, 70, 0, 0), (70, .iload_n 2, 71, 0, 0), (71, .if_icmp .ge 43, 74, 114, 0), (74, .aload_n 0, 75, 0, 0), (75, .getfield 15, 78, 22, 0), (78, .iload_n 3, 79, 0, 0), (79, .iconst 1, 80, 0, nI 1), (80, .iadd, 81, 0, 0), (81, .aload_n 0, 82, 0, 0), (82, .getfield 15, 85, 22, 0), (85, .iload_n 3, 86, 0, 0), (86, .iaload, 87, 0, 0), (87, .aload_n 0, 88, 0, 0), (88, .getfield 21, 91, 23, 0), (91, .iload_n 3, 92, 0, 0), (92, .invokevirtual 36, 95, 109, 0), (95, .sipush 1000, 98, 0, nI 1000), (98, .if_icmp .ne 7, 101, 105, 0), (101, .iconst 1, 102, 0, nI 1), (102, .goto 4, 106, 0, 0), (105, .iconst 0, 106, 0, nI 0), (106, .iadd, 107, 0, 0), (107, .iastore, 108, 0, 0), (108, .iinc 3 1, 111, 0, nI 1), (111, .goto (-42), 69, 0, 0), (114, .return_, 115, 0, 0)])
theorem k_Ab_measure : mm_okY Y_Ab_measure := ⟨by decide +kernel, by decide +kernel, rfl, by decide⟩
theorem w_Ab_measure : mm_cw Y_Ab_measure ∈ mm_tbl := mm_in (mm_r3 _ (List.mem_of_getElem? (i := 132) rfl)) rfl
def Y_Ab_writePart : mm_Y := ((⟨"LambdaBench$Abstractor", "writePart", "(I)I"⟩, 0), prog_2_method_6_code, 4, (some .int), [], { frames := 2, cells := 0, slots := 0, locals := 45 }, [(0, .aload_n 0, 1, 0, 0), (1, .getfield 9, 4, 21, 0), (4, .iload_n 1, 5, 0, 0), (5, .iaload, 6, 0, 0), (6, .istore_n 2, 7, 0, 0), (7, .aload_n 0, 8, 0, 0), (8, .getfield 21, 11, 23, 0), (11, .iload_n 1, 12, 0, 0), (12, .invokevirtual 36, 15, 109, 0), (15, .sipush 1000, 18, 0, nI 1000), (18, .if_icmp .ne 14, 21, 32, 0), (21, .aload_n 0, 22, 0, 0), (22, .getfield 25, 25, 24, 0), (25, .bipush 73, 27, 0, nI 73), (27, .invokevirtual 65, 30, 117, 0), (30, .iload_n 2, 31, 0, 0), (31, .ireturn, 32, 0, 0), (32, .aload_n 0, 33, 0, 0), (33, .iload_n 1, 34, 0, 0), (34, .iload_n 2, 35, 0, 0), (35, .invokevirtual 68, 38, 118, 0), (38, .ifCond .ne 29, 41, 67, 0), (41, .aload_n 0, 42, 0, 0), (42, .getfield 25, 45, 24, 0), (45, .bipush 64, 47, 0, nI 64), (47, .invokevirtual 65, 50, 117, 0), (50, .aload_n 0, 51, 0, 0), (51, .getfield 25, 54, 24, 0), (54, .bipush 75, 56, 0, nI 75), (56, .invokevirtual 65, 59, 117, 0), (59, .aload_n 0, 60, 0, 0), (60, .iload_n 1, 61, 0, 0), (61, .iload_n 2, 62, 0, 0), (62, .invokevirtual 72, 65, 119, 0), (65, .iload_n 2, 66, 0, 0), (66, .ireturn, 67, 0, 0), (67, .aload_n 0, 68, 0, 0), (68, .getfield 9, 71, 21, 0), (71, .iload_n 1, 72, 0, 0), (72, .iconst 1, 73, 0, nI 1), (73, .iadd, 74, 0, 0), (74, .iaload, 75, 0, 0), (75, .istore_n 3, 76, 0, 0), (76, .aload_n 0, 77, 0, 0), (77, .getfield 21, 80, 23, 0), (80, .iload_n 3, 81, 0, 0), (81, .invokevirtual 36, 84, 109, 0), (84, .sipush 1000, 87, 0, nI 1000), (87, .if_icmp .ne 24, 90, 111, 0), (90, .aload_n 0, 91, 0, 0), (91, .iload_n 1, 92, 0, 0), (92, .iconst 1, 93, 0, nI 1), (93, .iadd, 94, 0, 0), (94, .iload_n 3, 95, 0, 0), (95, .invokevirtual 68, 98, 118, 0), (98, .ifCond .ne 13, 101, 111, 0), (101, .aload_n 0, 102, 0, 0), (102, .iload_n 1, 103, 0, 0), (103, .iconst 1, 104, 0, nI 1), (104, .iadd, 105, 0, 0), (105, .iload_n 3, 106, 0, 0), (106, .invokevirtual 72, 109, 119, 0), (109, .iload_n 2, 110, 0, 0), (110, .ireturn, 111, 0, 0), (111, .aload_n 0, 112, 0, 0), (112, .getfield 25, 115, 24, 0), (115, .bipush 64, 117, 0, nI 64), (117, .invokevirtual 65, 120, 117, 0), (120, .aload_n 0, 121, 0, 0), (121, .getfield 25, 124, 24, 0), (124, .bipush 64, 126, 0, nI 64), (126, .invokevirtual 65, 129, 117, 0), (129, .aload_n 0, 130, 0, 0), (130, .getfield 25, 133, 24, 0), (133, .bipush 83, 135, 0, nI 83), (135, .invokevirtual 65, 138, 117, 0), (138, .iload_n 1, 139, 0, 0), (139, .iconst 1, 140, 0, nI 1), (140, .iadd, 141, 0, 0), (141, .ireturn, 142, 0, 0)])
theorem k_Ab_writePart : mm_okY Y_Ab_writePart := ⟨by decide +kernel, by decide +kernel, rfl, by decide⟩
theorem w_Ab_writePart : mm_cw Y_Ab_writePart ∈ mm_tbl := mm_in (mm_r3 _ (List.mem_of_getElem? (i := 139) rfl)) rfl
def Y_Ab_isUsed : mm_Y := ((⟨"LambdaBench$Abstractor", "isUsed", "(II)Z"⟩, 0), prog_2_method_7_code, 3, (some .boolean), [], { frames := 0, cells := 0, slots := 0, locals := 0 }, [(0, .aload_n 0, 1, 0, 0), (1, .getfield 15, 4, 22, 0), (4, .iload_n 2, 5, 0, 0), (5, .iaload, 6, 0, 0), (6, .aload_n 0, 7, 0, 0), (7, .getfield 15, 10, 22, 0), (10, .iload_n 1, 11, 0, 0), (11, .iaload, 12, 0, 0), (12, .if_icmp .le 7, 15, 19, 0), (15, .iconst 1, 16, 0, nI 1), (16, .goto 4, 20, 0, 0), (19, .iconst 0, 20, 0, nI 0), (20, .ireturn, 21, 0, 0)])
theorem k_Ab_isUsed : mm_okY Y_Ab_isUsed := ⟨by decide +kernel, by decide +kernel, rfl, by decide⟩
theorem w_Ab_isUsed : mm_cw Y_Ab_isUsed ∈ mm_tbl := mm_in (mm_r3 _ (List.mem_of_getElem? (i := 144) rfl)) rfl
def Y_Ab_writeOutside : mm_Y := ((⟨"LambdaBench$Abstractor", "writeOutside", "(II)V"⟩, 0), prog_2_method_8_code, 5, none, [], { frames := 1, cells := 0, slots := 0, locals := 21 }, [(0, .iload_n 1, 1, 0, 0), (1, .istore_n 3, 2, 0, 0), (2, .iload_n 3, 3, 0, 0), (3, .iload_n 2, 4, 0, 0), (4, .if_icmp .ge 43, 7, 47, 0), (7, .aload_n 0, 8, 0, 0), (8, .getfield 21, 11, 23, 0), (11, .iload_n 3, 12, 0, 0), (12, .invokevirtual 36, 15, 109, 0), (15, .istore 4, 17, 0, 0), (17, .aload_n 0, 18, 0, 0), (18, .getfield 25, 21, 24, 0), (21, .iload 4, 23, 0, 0), (23, .sipush 1000, 26, 0, nI 1000), (26, .if_icmp .le 10, 29, 36, 0), (29, .iload 4, 31, 0, 0), (31, .iconst 1, 32, 0, nI 1), (32, .isub, 33, 0, 0), (33, .goto 5, 38, 0, 0), (36, .iload 4, 38, 0, 0), (38, .invokevirtual 65, 41, 117, 0), (41, .iinc 3 1, 44, 0, nI 1), (44, .goto (-42), 2, 0, 0), (47, .return_, 48, 0, 0)])
theorem k_Ab_writeOutside : mm_okY Y_Ab_writeOutside := ⟨by decide +kernel, by decide +kernel, rfl, by decide⟩
theorem w_Ab_writeOutside : mm_cw Y_Ab_writeOutside ∈ mm_tbl := mm_in (mm_r3 _ (List.mem_of_getElem? (i := 148) rfl)) rfl
def Y_Ab_result : mm_Y := ((⟨"LambdaBench$Abstractor", "result", "()LLambdaBench$Term;"⟩, 0), prog_2_method_2_code, 1, (some (.object "LambdaBench$Term")), [], { frames := 0, cells := 0, slots := 0, locals := 0 }, [(0, .aload_n 0, 1, 0, 0), (1, .getfield 21, 4, 23, 0), (4, .areturn, 5, 0, 0)])
theorem k_Ab_result : mm_okY Y_Ab_result := ⟨by decide +kernel, by decide +kernel, rfl, by decide⟩
theorem w_Ab_result : mm_cw Y_Ab_result ∈ mm_tbl := mm_in (mm_r3 _ (List.mem_of_getElem? (i := 153) rfl)) rfl
def Y_La_numeral : mm_Y := ((⟨"LambdaBenchLaw", "numeral", "(LLambdaBench;II[J)I"⟩, 9), method_13_code, 5, (some .int), [(0, 10, 13, 13), (0, 10, 17, 15)], { frames := 8, cells := 4, slots := 24, locals := 201 }, [(0, .aload_n 3, 1, 0, 0), (1, .iconst 0, 2, 0, nI 0), (2, .aload_n 0, 3, 0, 0), (3, .iload_n 1, 4, 0, 0), (4, .iload_n 2, 5, 0, 0), (5, .invokevirtual 50, 8, 120, 0), (8, .i2l, 9, 0, 0), (9, .lastore, 10, 0, 0), (10, .goto 11, 21, 0, 0), (13, .astore 4, 15, 0, 0), (15, .iconst 1, 16, 0, nI 1), (16, .ireturn, 17, 0, 0), (17, .astore 4, 19, 0, 0), (19, .iconst 2, 20, 0, nI 2), (20, .ireturn, 21, 0, 0), (21, .iconst 0, 22, 0, nI 0), (22, .ireturn, 23, 0, 0)])
theorem k_La_numeral : mm_okY Y_La_numeral := ⟨by decide +kernel, by decide +kernel, rfl, by decide⟩
theorem w_La_numeral : mm_cw Y_La_numeral ∈ mm_tbl := mm_in (mm_r3 _ (List.mem_of_getElem? (i := 156) rfl)) rfl
def Y_LB_numeral : mm_Y := ((⟨"LambdaBench", "numeral", "(II)I"⟩, 7), prog_1_method_14_code, 3, (some .int), [], { frames := 7, cells := 4, slots := 24, locals := 179 }, [(0, .aload_n 0, 1, 0, 0), (1, .iload_n 1, 2, 0, 0), (2, .invokevirtual 86, 5, 23, 0), (5, .aload_n 0, 6, 0, 0), (6, .iload_n 2, 7, 0, 0), (7, .invokevirtual 151, 10, 83, 0), (10, .aload_n 0, 11, 0, 0), (11, .iload_n 1, 12, 0, 0), (12, .invokevirtual 128, 15, 68, 0), (15, .aload_n 0, 16, 0, 0), (16, .getfield 16, 19, 1, 0), (19, .invokevirtual 131, 22, 69, 0), (22, .aload_n 0, 23, 0, 0), (23, .getfield 16, 26, 1, 0), (26, .bipush 64, 28, 0, nI 64), (28, .invokevirtual 132, 31, 70, 0), (31, .aload_n 0, 32, 0, 0), (32, .getfield 16, 35, 1, 0), (35, .bipush 64, 37, 0, nI 64), (37, .invokevirtual 132, 40, 70, 0), (40, .aload_n 0, 41, 0, 0), (41, .getfield 16, 44, 1, 0), (44, .aload_n 0, 45, 0, 0), (45, .getfield 11, 48, 0, 0), (48, .iload_n 1, 49, 0, 0), (49, .aaload, 50, 0, 0), (50, .invokevirtual 133, 53, 71, 0), (53, .aload_n 0, 54, 0, 0), (54, .getfield 16, 57, 1, 0), (57, .iconst 1, 58, 0, nI 1), (58, .invokevirtual 132, 61, 70, 0), (61, .aload_n 0, 62, 0, 0), (62, .getfield 16, 65, 1, 0), (65, .iconst 2, 66, 0, nI 2), (66, .invokevirtual 132, 69, 70, 0), (69, .aload_n 0, 70, 0, 0), (70, .getfield 16, 73, 1, 0), (73, .invokevirtual 102, 76, 27, 0), (76, .ifCond .eq 13, 79, 89, 0), (79, .new 77, 82, 12, 0), (82, .dup, 83, 0, 0), (83, .ldc 170, 85, 0, 0), (85, .invokespecial 81, 88, 0, 0), (88, .athrow, 89, 0, 0), (89, .aload_n 0, 90, 0, 0), (90, .getfield 51, 93, 6, 0), (93, .aload_n 0, 94, 0, 0), (94, .getfield 16, 97, 1, 0), (97, .iload_n 2, 98, 0, 0), (98, .invokevirtual 154, 101, 84, 0), (101, .pop, 102, 0, 0), (102, .aload_n 0, 103, 0, 0), (103, .getfield 51, 106, 6, 0), (106, .invokevirtual 161, 109, 18, 0), (109, .iconst 1, 110, 0, nI 1), (110, .if_icmp .ne 16, 113, 126, 0), (113, .aload_n 0, 114, 0, 0), (114, .getfield 51, 117, 6, 0), (117, .invokevirtual 157, 120, 85, 0), (120, .invokestatic 172, 123, 121, 0), (123, .goto 5, 128, 0, 0), (126, .bipush (-2), 128, 0, (-2)), (128, .ireturn, 129, 0, 0)])
theorem k_LB_numeral : mm_okY Y_LB_numeral := ⟨by decide +kernel, by decide +kernel, rfl, by decide⟩
theorem w_LB_numeral : mm_cw Y_LB_numeral ∈ mm_tbl := mm_in (mm_r3 _ (List.mem_of_getElem? (i := 160) rfl)) rfl
def Y_LB_timesApplied : mm_Y := ((⟨"LambdaBench", "timesApplied", "(LLambdaBench$Term;)I"⟩, 7), prog_1_method_21_code, 3, (some .int), [], { frames := 1, cells := 0, slots := 0, locals := 21 }, [(0, .aload_n 0, 1, 0, 0), (1, .invokevirtual 112, 4, 29, 0), (4, .iconst 2, 5, 0, nI 2), (5, .idiv, 6, 0, 0), (6, .istore_n 1, 7, 0, 0), (7, .iconst 0, 8, 0, nI 0), (8, .istore_n 2, 9, 0, 0), (9, .iload_n 2, 10, 0, 0), (10, .iload_n 1, 11, 0, 0), (11, .if_icmp .ge 36, 14, 47, 0), (14, .aload_n 0, 15, 0, 0), (15, .iconst 2, 16, 0, nI 2), (16, .iload_n 2, 17, 0, 0), (17, .imul, 18, 0, 0), (18, .invokevirtual 118, 21, 64, 0), (21, .bipush 64, 23, 0, nI 64), (23, .if_icmp .ne 16, 26, 39, 0), (26, .aload_n 0, 27, 0, 0), (27, .iconst 2, 28, 0, nI 2), (28, .iload_n 2, 29, 0, 0), (29, .imul, 30, 0, 0), (30, .iconst 1, 31, 0, nI 1), (31, .iadd, 32, 0, 0), (32, .invokevirtual 118, 35, 64, 0), (35, .iconst 1, 36, 0, nI 1), (36, .if_icmp .eq 5, 39, 41, 0), (39, .iconst (-1), 40, 0, (-1)), (40, .ireturn, 41, 0, 0), (41, .iinc 2 1, 44, 0, nI 1), (44, .goto (-35), 9, 0, 0), (47, .aload_n 0, 48, 0, 0), (48, .iconst 2, 49, 0, nI 2), (49, .iload_n 1, 50, 0, 0), (50, .imul, 51, 0, 0), (51, .invokevirtual 118, 54, 64, 0), (54, .iconst 2, 55, 0, nI 2), (55, .if_icmp .ne 7, 58, 62, 0), (58, .iload_n 1, 59, 0, 0), (59, .goto 4, 63, 0, 0), (62, .iconst (-1), 63, 0, (-1)), (63, .ireturn, 64, 0, 0)])
theorem k_LB_timesApplied : mm_okY Y_LB_timesApplied := ⟨by decide +kernel, by decide +kernel, rfl, by decide⟩
theorem w_LB_timesApplied : mm_cw Y_LB_timesApplied ∈ mm_tbl := mm_in (mm_r3 _ (List.mem_of_getElem? (i := 164) rfl)) rfl
def Y_La_same : mm_Y := ((⟨"LambdaBenchLaw", "same", "(LLambdaBench;II[J)I"⟩, 9), method_14_code, 5, (some .int), [(0, 17, 20, 13)], { frames := 8, cells := 2, slots := 12, locals := 133 }, [(0, .aload_n 3, 1, 0, 0), (1, .iconst 0, 2, 0, nI 0), (2, .aload_n 0, 3, 0, 0), (3, .iload_n 1, 4, 0, 0), (4, .iload_n 2, 5, 0, 0), (5, .invokevirtual 53, 8, 122, 0), (8, .ifCond .eq 7, 11, 15, 0), (11, .lconst 1, 12, 0, 0), (12, .goto 4, 16, 0, 0), (15, .lconst 0, 16, 0, 0), (16, .lastore, 17, 0, 0), (17, .goto 7, 24, 0, 0), (20, .astore 4, 22, 0, 0), (22, .iconst 1, 23, 0, nI 1), (23, .ireturn, 24, 0, 0), (24, .iconst 0, 25, 0, nI 0), (25, .ireturn, 26, 0, 0)])
theorem k_La_same : mm_okY Y_La_same := ⟨by decide +kernel, by decide +kernel, rfl, by decide⟩
theorem w_La_same : mm_cw Y_La_same ∈ mm_tbl := mm_in (mm_r3 _ (List.mem_of_getElem? (i := 167) rfl)) rfl
def Y_LB_same : mm_Y := ((⟨"LambdaBench", "same", "(II)Z"⟩, 7), prog_1_method_15_code, 3, (some .boolean), [], { frames := 7, cells := 2, slots := 12, locals := 111 }, [(0, .aload_n 0, 1, 0, 0), (1, .iload_n 1, 2, 0, 0), (2, .invokevirtual 86, 5, 23, 0), (5, .aload_n 0, 6, 0, 0), (6, .iload_n 2, 7, 0, 0), (7, .invokevirtual 86, 10, 23, 0), (10, .aload_n 0, 11, 0, 0), (11, .getfield 11, 14, 0, 0), (14, .iload_n 1, 15, 0, 0), (15, .aaload, 16, 0, 0), (16, .aload_n 0, 17, 0, 0), (17, .getfield 11, 20, 0, 0), (20, .iload_n 2, 21, 0, 0), (21, .aaload, 22, 0, 0), (22, .invokevirtual 176, 25, 123, 0), (25, .ireturn, 26, 0, 0)])
theorem k_LB_same : mm_okY Y_LB_same := ⟨by decide +kernel, by decide +kernel, rfl, by decide⟩
theorem w_LB_same : mm_cw Y_LB_same ∈ mm_tbl := mm_in (mm_r3 _ (List.mem_of_getElem? (i := 171) rfl)) rfl
def Y_Te_isLike : mm_Y := ((⟨"LambdaBench$Term", "isLike", "(LLambdaBench$Term;)Z"⟩, 6), prog_8_method_10_code, 3, (some .boolean), [], { frames := 0, cells := 0, slots := 0, locals := 0 }, [(0, .aload_n 0, 1, 0, 0), (1, .getfield 15, 4, 31, 0), (4, .aload_n 1, 5, 0, 0), (5, .getfield 15, 8, 31, 0), (8, .if_icmp .eq 5, 11, 13, 0), (11, .iconst 0, 12, 0, nI 0), (12, .ireturn, 13, 0, 0), (13, .iconst 0, 14, 0, nI 0), (14, .istore_n 2, 15, 0, 0), (15, .iload_n 2, 16, 0, 0), (16, .aload_n 0, 17, 0, 0), (17, .getfield 15, 20, 31, 0), (20, .if_icmp .ge 26, 23, 46, 0), (23, .aload_n 0, 24, 0, 0), (24, .getfield 9, 27, 9, 0), (27, .iload_n 2, 28, 0, 0), (28, .iaload, 29, 0, 0), (29, .aload_n 1, 30, 0, 0), (30, .getfield 9, 33, 9, 0), (33, .iload_n 2, 34, 0, 0), (34, .iaload, 35, 0, 0), (35, .if_icmp .eq 5, 38, 40, 0), (38, .iconst 0, 39, 0, nI 0), (39, .ireturn, 40, 0, 0), (40, .iinc 2 1, 43, 0, nI 1), (43, .goto (-28), 15, 0, 0), (46, .iconst 1, 47, 0, nI 1), (47, .ireturn, 48, 0, 0)])
theorem k_Te_isLike : mm_okY Y_Te_isLike := ⟨by decide +kernel, by decide +kernel, rfl, by decide⟩
theorem w_Te_isLike : mm_cw Y_Te_isLike ∈ mm_tbl := mm_in (mm_r3 _ (List.mem_of_getElem? (i := 175) rfl)) rfl
def Y_La_has : mm_Y := ((⟨"LambdaBenchLaw", "has", "(LLambdaBench;II[J)I"⟩, 9), method_15_code, 5, (some .int), [(0, 17, 20, 13)], { frames := 8, cells := 2, slots := 12, locals := 133 }, [(0, .aload_n 3, 1, 0, 0), (1, .iconst 0, 2, 0, nI 0), (2, .aload_n 0, 3, 0, 0), (3, .iload_n 1, 4, 0, 0), (4, .iload_n 2, 5, 0, 0), (5, .invokevirtual 57, 8, 124, 0), (8, .ifCond .eq 7, 11, 15, 0), (11, .lconst 1, 12, 0, 0), (12, .goto 4, 16, 0, 0), (15, .lconst 0, 16, 0, 0), (16, .lastore, 17, 0, 0), (17, .goto 7, 24, 0, 0), (20, .astore 4, 22, 0, 0), (22, .iconst 1, 23, 0, nI 1), (23, .ireturn, 24, 0, 0), (24, .iconst 0, 25, 0, nI 0), (25, .ireturn, 26, 0, 0)])
theorem k_La_has : mm_okY Y_La_has := ⟨by decide +kernel, by decide +kernel, rfl, by decide⟩
theorem w_La_has : mm_cw Y_La_has ∈ mm_tbl := mm_in (mm_r3 _ (List.mem_of_getElem? (i := 178) rfl)) rfl
def Y_LB_has : mm_Y := ((⟨"LambdaBench", "has", "(II)Z"⟩, 7), prog_1_method_16_code, 3, (some .boolean), [], { frames := 7, cells := 2, slots := 12, locals := 111 }, [(0, .aload_n 0, 1, 0, 0), (1, .iload_n 1, 2, 0, 0), (2, .invokevirtual 86, 5, 23, 0), (5, .aload_n 0, 6, 0, 0), (6, .iload_n 2, 7, 0, 0), (7, .invokevirtual 138, 10, 73, 0), (10, .aload_n 0, 11, 0, 0), (11, .getfield 11, 14, 0, 0), (14, .iload_n 1, 15, 0, 0), (15, .aaload, 16, 0, 0), (16, .iload_n 2, 17, 0, 0), (17, .invokevirtual 179, 20, 125, 0), (20, .ireturn, 21, 0, 0)])
theorem k_LB_has : mm_okY Y_LB_has := ⟨by decide +kernel, by decide +kernel, rfl, by decide⟩
theorem w_LB_has : mm_cw Y_LB_has ∈ mm_tbl := mm_in (mm_r3 _ (List.mem_of_getElem? (i := 182) rfl)) rfl
def Y_Te_contains : mm_Y := ((⟨"LambdaBench$Term", "contains", "(I)Z"⟩, 6), prog_8_method_11_code, 3, (some .boolean), [], { frames := 0, cells := 0, slots := 0, locals := 0 }, [(0, .iconst 0, 1, 0, nI 0), (1, .istore_n 2, 2, 0, 0), (2, .iload_n 2, 3, 0, 0), (3, .aload_n 0, 4, 0, 0), (4, .getfield 15, 7, 31, 0), (7, .if_icmp .ge 21, 10, 28, 0), (10, .aload_n 0, 11, 0, 0), (11, .getfield 9, 14, 9, 0), (14, .iload_n 2, 15, 0, 0), (15, .iaload, 16, 0, 0), (16, .iload_n 1, 17, 0, 0), (17, .if_icmp .ne 5, 20, 22, 0), (20, .iconst 1, 21, 0, nI 1), (21, .ireturn, 22, 0, 0), (22, .iinc 2 1, 25, 0, nI 1), (25, .goto (-23), 2, 0, 0), (28, .iconst 0, 29, 0, nI 0), (29, .ireturn, 30, 0, 0)])
theorem k_Te_contains : mm_okY Y_Te_contains := ⟨by decide +kernel, by decide +kernel, rfl, by decide⟩
theorem w_Te_contains : mm_cw Y_Te_contains ∈ mm_tbl := mm_in (mm_r3 _ (List.mem_of_getElem? (i := 186) rfl)) rfl
def Y_Mo_init : mm_Y := ((⟨"LambdaBenchModel", "<init>", "()V"⟩, 8), prog_10_method_1_code, 1, none, [], { frames := 1, cells := 11, slots := 34084, locals := 20 }, [(0, .aload_n 0, 1, 0, 0), (1, .invokespecial 1, 4, 126, 0), (4, .aload_n 0, 5, 0, 0), (5, .sipush 400, 8, 0, nI 400), (8, .newarray .int, 10, 0, 0), (10, .putfield 7, 13, 33, 0), (13, .aload_n 0, 14, 0, 0), (14, .iconst (-1), 15, 0, (-1)), (15, .putfield 13, 18, 34, 0), (18, .aload_n 0, 19, 0, 0), (19, .sipush 24000, 22, 0, nI 24000), (22, .newarray .int, 24, 0, 0), (24, .putfield 17, 27, 35, 0), (27, .aload_n 0, 28, 0, 0), (28, .bipush 12, 30, 0, nI 12), (30, .newarray .int, 32, 0, 0), (32, .putfield 20, 35, 36, 0), (35, .aload_n 0, 36, 0, 0), (36, .sipush 2001, 39, 0, nI 2001), (39, .newarray .int, 41, 0, 0), (41, .putfield 23, 44, 37, 0), (44, .aload_n 0, 45, 0, 0), (45, .sipush 2001, 48, 0, nI 2001), (48, .newarray .int, 50, 0, 0), (50, .putfield 26, 53, 38, 0), (53, .aload_n 0, 54, 0, 0), (54, .sipush 2002, 57, 0, nI 2002), (57, .newarray .int, 59, 0, 0), (59, .putfield 29, 62, 39, 0), (62, .aload_n 0, 63, 0, 0), (63, .sipush 2002, 66, 0, nI 2002), (66, .newarray .int, 68, 0, 0), (68, .putfield 32, 71, 40, 0), (71, .aload_n 0, 72, 0, 0), (72, .sipush 422, 75, 0, nI 422), (75, .newarray .int, 77, 0, 0), (77, .putfield 35, 80, 41, 0), (80, .aload_n 0, 81, 0, 0), (81, .sipush 422, 84, 0, nI 422), (84, .newarray .int, 86, 0, 0), (86, .putfield 38, 89, 42, 0), (89, .aload_n 0, 90, 0, 0), (90, .sipush 422, 93, 0, nI 422), (93, .newarray .int, 95, 0, 0), (95, .putfield 41, 98, 43, 0), (98, .aload_n 0, 99, 0, 0), (99, .sipush 400, 102, 0, nI 400), (102, .newarray .int, 104, 0, 0), (104, .putfield 44, 107, 44, 0), (107, .return_, 108, 0, 0)])
theorem k_Mo_init : mm_okY Y_Mo_init := ⟨by decide +kernel, by decide +kernel, rfl, by decide⟩
theorem w_Mo_init : mm_cw Y_Mo_init ∈ mm_tbl := mm_in (mm_r3 _ (List.mem_of_getElem? (i := 191) rfl)) rfl
def Y_Mo_thrown : mm_Y := ((⟨"LambdaBenchModel", "thrown", "()I"⟩, 8), prog_10_method_2_code, 1, (some .int), [], { frames := 0, cells := 0, slots := 0, locals := 0 }, [(0, .aload_n 0, 1, 0, 0), (1, .getfield 47, 4, 45, 0), (4, .ireturn, 5, 0, 0)])
theorem k_Mo_thrown : mm_okY Y_Mo_thrown := ⟨by decide +kernel, by decide +kernel, rfl, by decide⟩
theorem w_Mo_thrown : mm_cw Y_Mo_thrown ∈ mm_tbl := mm_in (mm_r4 _ (List.mem_of_getElem? (i := 29) rfl)) rfl
def Y_Mo_feed : mm_Y := ((⟨"LambdaBenchModel", "feed", "(JI)I"⟩, 8), prog_10_method_6_code, 6, (some .int), [], { frames := 1, cells := 0, slots := 0, locals := 22 }, [(0, .iload_n 3, 1, 0, 0), (1, .iconst 1, 2, 0, nI 1), (2, .bipush 8, 4, 0, nI 8), (4, .invokestatic 50, 7, 127, 0), (7, .ifCond .ne 7, 10, 14, 0), (10, .iconst 1, 11, 0, nI 1), (11, .goto 4, 15, 0, 0), (14, .iconst 0, 15, 0, nI 0), (15, .istore 4, 17, 0, 0), (17, .aload_n 0, 18, 0, 0), (18, .iload 4, 20, 0, 0), (20, .iload 4, 22, 0, 0), (22, .ifCond .ne 19, 25, 41, 0), (25, .aload_n 0, 26, 0, 0), (26, .getfield 54, 29, 46, 0), (29, .iload_n 3, 30, 0, 0), (30, .iadd, 31, 0, 0), (31, .sipush 400, 34, 0, nI 400), (34, .if_icmp .le 7, 37, 41, 0), (37, .iconst 1, 38, 0, nI 1), (38, .goto 4, 42, 0, 0), (41, .iconst 0, 42, 0, nI 0), (42, .invokevirtual 57, 45, 128, 0), (45, .ifCond .eq 5, 48, 50, 0), (48, .iconst 0, 49, 0, nI 0), (49, .ireturn, 50, 0, 0), (50, .iload_n 3, 51, 0, 0), (51, .iconst 1, 52, 0, nI 1), (52, .isub, 53, 0, 0), (53, .istore 5, 55, 0, 0), (55, .iload 5, 57, 0, 0), (57, .ifCond .lt 40, 60, 97, 0), (60, .aload_n 0, 61, 0, 0), (61, .getfield 7, 64, 33, 0), (64, .aload_n 0, 65, 0, 0), (65, .getfield 54, 68, 46, 0), (68, .lload_n 1, 69, 0, 0), (69, .bipush 8, 71, 0, nI 8), (71, .iload 5, 73, 0, 0), (73, .imul, 74, 0, 0), (74, .lshr, 75, 0, 0), (75, .l2i, 76, 0, 0), (76, .sipush 255, 79, 0, nI 255), (79, .iand, 80, 0, 0), (80, .iastore, 81, 0, 0), (81, .aload_n 0, 82, 0, 0), (82, .dup, 83, 0, 0), (83, .getfield 54, 86, 46, 0), (86, .iconst 1, 87, 0, nI 1), (87, .iadd, 88, 0, 0), (88, .putfield 54, 91, 46, 0), (91, .iinc 5 (-1), 94, 0, (-1)), (94, .goto (-39), 55, 0, 0), (97, .aload_n 0, 98, 0, 0), (98, .getfield 54, 101, 46, 0), (101, .ireturn, 102, 0, 0)])
theorem k_Mo_feed : mm_okY Y_Mo_feed := ⟨by decide +kernel, by decide +kernel, rfl, by decide⟩
theorem w_Mo_feed : mm_cw Y_Mo_feed ∈ mm_tbl := mm_in (mm_r4 _ (List.mem_of_getElem? (i := 33) rfl)) rfl
def Y_Mo_in : mm_Y := ((⟨"LambdaBenchModel", "in", "(III)Z"⟩, 8), prog_10_method_4_code, 3, (some .boolean), [], { frames := 0, cells := 0, slots := 0, locals := 0 }, [(0, .iload_n 0, 1, 0, 0), (1, .iload_n 1, 2, 0, 0), (2, .if_icmp .lt 12, 5, 14, 0), (5, .iload_n 0, 6, 0, 0), (6, .iload_n 2, 7, 0, 0), (7, .if_icmp .gt 7, 10, 14, 0), (10, .iconst 1, 11, 0, nI 1), (11, .goto 4, 15, 0, 0), (14, .iconst 0, 15, 0, nI 0), (15, .ireturn, 16, 0, 0)])
theorem k_Mo_in : mm_okY Y_Mo_in := ⟨by decide +kernel, by decide +kernel, rfl, by decide⟩
theorem w_Mo_in : mm_cw Y_Mo_in ∈ mm_tbl := mm_in (mm_r4 _ (List.mem_of_getElem? (i := 36) rfl)) rfl
def Y_Mo_throwing : mm_Y := ((⟨"LambdaBenchModel", "throwing", "(ZZ)Z"⟩, 8), prog_10_method_3_code, 3, (some .boolean), [], { frames := 0, cells := 0, slots := 0, locals := 0 }, [(0, .aload_n 0, 1, 0, 0), (1, .iload_n 1, 2, 0, 0), (2, .ifCond .eq 7, 5, 9, 0), (5, .iconst 1, 6, 0, nI 1), (6, .goto 12, 18, 0, 0), (9, .iload_n 2, 10, 0, 0), (10, .ifCond .eq 7, 13, 17, 0), (13, .iconst 2, 14, 0, nI 2), (14, .goto 4, 18, 0, 0), (17, .iconst 0, 18, 0, nI 0), (18, .putfield 47, 21, 45, 0), (21, .aload_n 0, 22, 0, 0), (22, .getfield 47, 25, 45, 0), (25, .ifCond .le 7, 28, 32, 0), (28, .iconst 1, 29, 0, nI 1), (29, .goto 4, 33, 0, 0), (32, .iconst 0, 33, 0, nI 0), (33, .ireturn, 34, 0, 0)])
theorem k_Mo_throwing : mm_okY Y_Mo_throwing := ⟨by decide +kernel, by decide +kernel, rfl, by decide⟩
theorem w_Mo_throwing : mm_cw Y_Mo_throwing ∈ mm_tbl := mm_in (mm_r4 _ (List.mem_of_getElem? (i := 40) rfl)) rfl
end
section
/-! Printed by wip/whole/gen.py: every method as a row of the small machine. -/
def Y_Mo_read : mm_Y := ((⟨"LambdaBenchModel", "read", "(I)I"⟩, 8), prog_10_method_27_code, 2, (some .int), [], { frames := 5, cells := 0, slots := 0, locals := 107 }, [(0, .aload_n 0, 1, 0, 0), (1, .iload_n 1, 2, 0, 0), (2, .invokestatic 136, 5, 129, 0), (5, .ifCond .ne 7, 8, 12, 0), (8, .iconst 1, 9, 0, nI 1), (9, .goto 4, 13, 0, 0), (12, .iconst 0, 13, 0, nI 0), (13, .iconst 0, 14, 0, nI 0), (14, .invokevirtual 57, 17, 128, 0), (17, .ifCond .eq 5, 20, 22, 0), (20, .iconst 0, 21, 0, nI 0), (21, .ireturn, 22, 0, 0), (22, .aload_n 0, 23, 0, 0), (23, .aload_n 0, 24, 0, 0), (24, .getfield 54, 27, 46, 0), (27, .putfield 89, 30, 47, 0), (30, .aload_n 0, 31, 0, 0), (31, .iconst 0, 32, 0, nI 0), (32, .putfield 54, 35, 46, 0), (35, .aload_n 0, 36, 0, 0), (36, .invokevirtual 139, 39, 130, 0), (39, .aload_n 0, 40, 0, 0), (40, .aload_n 0, 41, 0, 0), (41, .getfield 83, 44, 48, 0), (44, .ifCond .ne 10, 47, 54, 0), (47, .aload_n 0, 48, 0, 0), (48, .getfield 64, 51, 49, 0), (51, .ifCond .eq 7, 54, 58, 0), (54, .iconst 1, 55, 0, nI 1), (55, .goto 4, 59, 0, 0), (58, .iconst 0, 59, 0, nI 0), (59, .iconst 0, 60, 0, nI 0), (60, .invokevirtual 57, 63, 128, 0), (63, .ifCond .eq 5, 66, 68, 0), (66, .iconst 0, 67, 0, nI 0), (67, .ireturn, 68, 0, 0), (68, .aload_n 0, 69, 0, 0), (69, .invokevirtual 142, 72, 131, 0), (72, .aload_n 0, 73, 0, 0), (73, .iload_n 1, 74, 0, 0), (74, .invokevirtual 145, 77, 132, 0), (77, .aload_n 0, 78, 0, 0), (78, .getfield 61, 81, 50, 0), (81, .ireturn, 82, 0, 0)])
theorem k_Mo_read : mm_okY Y_Mo_read := ⟨by decide +kernel, by decide +kernel, rfl, by decide⟩
theorem w_Mo_read : mm_cw Y_Mo_read ∈ mm_tbl := mm_in (mm_r4 _ (List.mem_of_getElem? (i := 44) rfl)) rfl
def Y_Mo_isSlot : mm_Y := ((⟨"LambdaBenchModel", "isSlot", "(I)Z"⟩, 8), prog_10_method_5_code, 1, (some .boolean), [], { frames := 1, cells := 0, slots := 0, locals := 22 }, [(0, .iload_n 0, 1, 0, 0), (1, .iconst 0, 2, 0, nI 0), (2, .bipush 11, 4, 0, nI 11), (4, .invokestatic 50, 7, 127, 0), (7, .ireturn, 8, 0, 0)])
theorem k_Mo_isSlot : mm_okY Y_Mo_isSlot := ⟨by decide +kernel, by decide +kernel, rfl, by decide⟩
theorem w_Mo_isSlot : mm_cw Y_Mo_isSlot ∈ mm_tbl := mm_in (mm_r4 _ (List.mem_of_getElem? (i := 47) rfl)) rfl
def Y_Mo_text : mm_Y := ((⟨"LambdaBenchModel", "text", "()V"⟩, 8), prog_10_method_26_code, 3, none, [], { frames := 4, cells := 0, slots := 0, locals := 85 }, [(0, .aload_n 0, 1, 0, 0), (1, .invokevirtual 126, 4, 133, 0), (4, .aload_n 0, 5, 0, 0), (5, .iconst 0, 6, 0, nI 0), (6, .putfield 92, 9, 51, 0), (9, .aload_n 0, 10, 0, 0), (10, .iconst 0, 11, 0, nI 0), (11, .putfield 95, 14, 52, 0), (14, .aload_n 0, 15, 0, 0), (15, .iconst 0, 16, 0, nI 0), (16, .putfield 111, 19, 53, 0), (19, .aload_n 0, 20, 0, 0), (20, .iconst 0, 21, 0, nI 0), (21, .putfield 86, 24, 54, 0), (24, .aload_n 0, 25, 0, 0), (25, .iconst 0, 26, 0, nI 0), (26, .putfield 83, 29, 48, 0), (29, .aload_n 0, 30, 0, 0), (30, .iconst (-1), 31, 0, (-1)), (31, .putfield 13, 34, 34, 0), (34, .aload_n 0, 35, 0, 0), (35, .bipush (-2), 37, 0, (-2)), (37, .invokevirtual 108, 40, 134, 0), (40, .iconst 1, 41, 0, nI 1), (41, .istore_n 1, 42, 0, 0), (42, .iload_n 1, 43, 0, 0), (43, .ifCond .eq 132, 46, 175, 0), (46, .aload_n 0, 47, 0, 0), (47, .getfield 83, 50, 48, 0), (50, .ifCond .ne 125, 53, 175, 0), (53, .aload_n 0, 54, 0, 0), (54, .invokevirtual 101, 57, 135, 0), (57, .istore_n 2, 58, 0, 0), (58, .iload_n 2, 59, 0, 0), (59, .iconst (-1), 60, 0, (-1)), (60, .if_icmp .ne 38, 63, 98, 0), (63, .iconst 0, 64, 0, nI 0), (64, .istore_n 1, 65, 0, 0), (65, .aload_n 0, 66, 0, 0), (66, .invokevirtual 129, 69, 136, 0), (69, .ifCond .eq 18, 72, 87, 0), (72, .aload_n 0, 73, 0, 0), (73, .getfield 41, 76, 43, 0), (76, .aload_n 0, 77, 0, 0), (77, .getfield 92, 80, 51, 0), (80, .iconst 1, 81, 0, nI 1), (81, .isub, 82, 0, 0), (82, .iaload, 83, 0, 0), (83, .iconst (-1), 84, 0, (-1)), (84, .if_icmp .ne 88, 87, 172, 0), (87, .aload_n 0, 88, 0, 0), (88, .aload_n 0, 89, 0, 0), (89, .getfield 89, 92, 47, 0), (92, .invokevirtual 98, 95, 137, 0), (95, .goto 77, 172, 0, 0), (98, .iload_n 2, 99, 0, 0), (99, .bipush 41, 101, 0, nI 41), (101, .if_icmp .ne 67, 104, 168, 0), (104, .aload_n 0, 105, 0, 0), (105, .invokevirtual 129, 108, 136, 0), (108, .ifCond .eq 19, 111, 127, 0), (111, .aload_n 0, 112, 0, 0), (112, .getfield 41, 115, 43, 0), (115, .aload_n 0, 116, 0, 0), (116, .getfield 92, 119, 51, 0), (119, .iconst 1, 120, 0, nI 1), (120, .isub, 121, 0, 0), (121, .iaload, 122, 0, 0), (122, .bipush (-2), 124, 0, (-2)), (124, .if_icmp .ne 11, 127, 135, 0), (127, .aload_n 0, 128, 0, 0), (128, .aload_n 0, 129, 0, 0), (129, .getfield 86, 132, 54, 0), (132, .invokevirtual 98, 135, 137, 0), (135, .aload_n 0, 136, 0, 0), (136, .dup, 137, 0, 0), (137, .getfield 86, 140, 54, 0), (140, .iconst 1, 141, 0, nI 1), (141, .iadd, 142, 0, 0), (142, .putfield 86, 145, 54, 0), (145, .aload_n 0, 146, 0, 0), (146, .dup, 147, 0, 0), (147, .getfield 92, 150, 51, 0), (150, .iconst 1, 151, 0, nI 1), (151, .isub, 152, 0, 0), (152, .putfield 92, 155, 51, 0), (155, .aload_n 0, 156, 0, 0), (156, .dup, 157, 0, 0), (157, .getfield 111, 160, 53, 0), (160, .iconst 1, 161, 0, nI 1), (161, .isub, 162, 0, 0), (162, .putfield 111, 165, 53, 0), (165, .goto 7, 172, 0, 0), (168, .aload_n 0, 169, 0, 0), (169, .invokevirtual 133, 172, 138, 0), (172, .goto (-130), 42, 0, 0), (175, .return_, 176, 0, 0)])
theorem k_Mo_text : mm_okY Y_Mo_text := ⟨by decide +kernel, by decide +kernel, rfl, by decide⟩
theorem w_Mo_text : mm_cw Y_Mo_text ∈ mm_tbl := mm_in (mm_r4 _ (List.mem_of_getElem? (i := 51) rfl)) rfl
def Y_Mo_begin : mm_Y := ((⟨"LambdaBenchModel", "begin", "()V"⟩, 8), prog_10_method_10_code, 1, none, [], { frames := 0, cells := 0, slots := 0, locals := 0 }, [(0, .aload_n 0, 1, 0, 0), (1, .iconst 0, 2, 0, nI 0), (2, .putfield 68, 5, 55, 0), (5, .aload_n 0, 6, 0, 0), (6, .iconst 0, 7, 0, nI 0), (7, .putfield 64, 10, 49, 0), (10, .return_, 11, 0, 0)])
theorem k_Mo_begin : mm_okY Y_Mo_begin := ⟨by decide +kernel, by decide +kernel, rfl, by decide⟩
theorem w_Mo_begin : mm_cw Y_Mo_begin ∈ mm_tbl := mm_in (mm_r4 _ (List.mem_of_getElem? (i := 55) rfl)) rfl
def Y_Mo_openTerm : mm_Y := ((⟨"LambdaBenchModel", "openTerm", "(I)V"⟩, 8), prog_10_method_19_code, 2, none, [], { frames := 0, cells := 0, slots := 0, locals := 0 }, [(0, .aload_n 0, 1, 0, 0), (1, .getfield 35, 4, 41, 0), (4, .aload_n 0, 5, 0, 0), (5, .getfield 92, 8, 51, 0), (8, .aload_n 0, 9, 0, 0), (9, .getfield 68, 12, 55, 0), (12, .iastore, 13, 0, 0), (13, .aload_n 0, 14, 0, 0), (14, .getfield 38, 17, 42, 0), (17, .aload_n 0, 18, 0, 0), (18, .getfield 92, 21, 51, 0), (21, .iconst 0, 22, 0, nI 0), (22, .iastore, 23, 0, 0), (23, .aload_n 0, 24, 0, 0), (24, .getfield 41, 27, 43, 0), (27, .aload_n 0, 28, 0, 0), (28, .getfield 92, 31, 51, 0), (31, .iload_n 1, 32, 0, 0), (32, .iastore, 33, 0, 0), (33, .aload_n 0, 34, 0, 0), (34, .dup, 35, 0, 0), (35, .getfield 92, 38, 51, 0), (38, .iconst 1, 39, 0, nI 1), (39, .iadd, 40, 0, 0), (40, .putfield 92, 43, 51, 0), (43, .return_, 44, 0, 0)])
theorem k_Mo_openTerm : mm_okY Y_Mo_openTerm := ⟨by decide +kernel, by decide +kernel, rfl, by decide⟩
theorem w_Mo_openTerm : mm_cw Y_Mo_openTerm ∈ mm_tbl := mm_in (mm_r4 _ (List.mem_of_getElem? (i := 59) rfl)) rfl
def Y_Mo_see : mm_Y := ((⟨"LambdaBenchModel", "see", "()I"⟩, 8), prog_10_method_17_code, 1, (some .int), [], { frames := 0, cells := 0, slots := 0, locals := 0 }, [(0, .aload_n 0, 1, 0, 0), (1, .getfield 86, 4, 54, 0), (4, .aload_n 0, 5, 0, 0), (5, .getfield 89, 8, 47, 0), (8, .if_icmp .ge 30, 11, 38, 0), (11, .aload_n 0, 12, 0, 0), (12, .getfield 7, 15, 33, 0), (15, .aload_n 0, 16, 0, 0), (16, .getfield 86, 19, 54, 0), (19, .iaload, 20, 0, 0), (20, .bipush 32, 22, 0, nI 32), (22, .if_icmp .ne 16, 25, 38, 0), (25, .aload_n 0, 26, 0, 0), (26, .dup, 27, 0, 0), (27, .getfield 86, 30, 54, 0), (30, .iconst 1, 31, 0, nI 1), (31, .iadd, 32, 0, 0), (32, .putfield 86, 35, 54, 0), (35, .goto (-35), 0, 0, 0), (38, .aload_n 0, 39, 0, 0), (39, .getfield 86, 42, 54, 0), (42, .aload_n 0, 43, 0, 0), (43, .getfield 89, 46, 47, 0), (46, .if_icmp .ge 15, 49, 61, 0), (49, .aload_n 0, 50, 0, 0), (50, .getfield 7, 53, 33, 0), (53, .aload_n 0, 54, 0, 0), (54, .getfield 86, 57, 54, 0), (57, .iaload, 58, 0, 0), (58, .goto 4, 62, 0, 0), (61, .iconst (-1), 62, 0, (-1)), (62, .ireturn, 63, 0, 0)])
theorem k_Mo_see : mm_okY Y_Mo_see := ⟨by decide +kernel, by decide +kernel, rfl, by decide⟩
theorem w_Mo_see : mm_cw Y_Mo_see ∈ mm_tbl := mm_in (mm_r4 _ (List.mem_of_getElem? (i := 63) rfl)) rfl
def Y_Mo_closeAbstractions : mm_Y := ((⟨"LambdaBenchModel", "closeAbstractions", "()Z"⟩, 8), prog_10_method_24_code, 1, (some .boolean), [], { frames := 0, cells := 0, slots := 0, locals := 0 }, [(0, .aload_n 0, 1, 0, 0), (1, .getfield 41, 4, 43, 0), (4, .aload_n 0, 5, 0, 0), (5, .getfield 92, 8, 51, 0), (8, .iconst 1, 9, 0, nI 1), (9, .isub, 10, 0, 0), (10, .iaload, 11, 0, 0), (11, .ifCond .le 52, 14, 63, 0), (14, .aload_n 0, 15, 0, 0), (15, .getfield 38, 18, 42, 0), (18, .aload_n 0, 19, 0, 0), (19, .getfield 92, 22, 51, 0), (22, .iconst 1, 23, 0, nI 1), (23, .isub, 24, 0, 0), (24, .iaload, 25, 0, 0), (25, .ifCond .ne 5, 28, 30, 0), (28, .iconst 0, 29, 0, nI 0), (29, .ireturn, 30, 0, 0), (30, .aload_n 0, 31, 0, 0), (31, .dup, 32, 0, 0), (32, .getfield 95, 35, 52, 0), (35, .aload_n 0, 36, 0, 0), (36, .getfield 41, 39, 43, 0), (39, .aload_n 0, 40, 0, 0), (40, .getfield 92, 43, 51, 0), (43, .iconst 1, 44, 0, nI 1), (44, .isub, 45, 0, 0), (45, .iaload, 46, 0, 0), (46, .isub, 47, 0, 0), (47, .putfield 95, 50, 52, 0), (50, .aload_n 0, 51, 0, 0), (51, .dup, 52, 0, 0), (52, .getfield 92, 55, 51, 0), (55, .iconst 1, 56, 0, nI 1), (56, .isub, 57, 0, 0), (57, .putfield 92, 60, 51, 0), (60, .goto (-60), 0, 0, 0), (63, .aload_n 0, 64, 0, 0), (64, .getfield 38, 67, 42, 0), (67, .aload_n 0, 68, 0, 0), (68, .getfield 92, 71, 51, 0), (71, .iconst 1, 72, 0, nI 1), (72, .isub, 73, 0, 0), (73, .iaload, 74, 0, 0), (74, .ifCond .le 7, 77, 81, 0), (77, .iconst 1, 78, 0, nI 1), (78, .goto 4, 82, 0, 0), (81, .iconst 0, 82, 0, nI 0), (82, .ireturn, 83, 0, 0)])
theorem k_Mo_closeAbstractions : mm_okY Y_Mo_closeAbstractions := ⟨by decide +kernel, by decide +kernel, rfl, by decide⟩
theorem w_Mo_closeAbstractions : mm_cw Y_Mo_closeAbstractions ∈ mm_tbl := mm_in (mm_r4 _ (List.mem_of_getElem? (i := 67) rfl)) rfl
def Y_Mo_fail : mm_Y := ((⟨"LambdaBenchModel", "fail", "(I)V"⟩, 8), prog_10_method_16_code, 2, none, [], { frames := 0, cells := 0, slots := 0, locals := 0 }, [(0, .aload_n 0, 1, 0, 0), (1, .getfield 83, 4, 48, 0), (4, .ifCond .eq 4, 7, 8, 0), (7, .return_, 8, 0, 0), (8, .aload_n 0, 9, 0, 0), (9, .iconst 1, 10, 0, nI 1), (10, .putfield 83, 13, 48, 0), (13, .aload_n 0, 14, 0, 0), (14, .iload_n 1, 15, 0, 0), (15, .putfield 13, 18, 34, 0), (18, .return_, 19, 0, 0)])
theorem k_Mo_fail : mm_okY Y_Mo_fail := ⟨by decide +kernel, by decide +kernel, rfl, by decide⟩
theorem w_Mo_fail : mm_cw Y_Mo_fail ∈ mm_tbl := mm_in (mm_r4 _ (List.mem_of_getElem? (i := 71) rfl)) rfl
def Y_Mo_atom : mm_Y := ((⟨"LambdaBenchModel", "atom", "()V"⟩, 8), prog_10_method_25_code, 3, none, [], { frames := 3, cells := 0, slots := 0, locals := 63 }, [(0, .aload_n 0, 1, 0, 0), (1, .invokevirtual 101, 4, 135, 0), (4, .istore_n 1, 5, 0, 0), (5, .iload_n 1, 6, 0, 0), (6, .invokestatic 105, 9, 139, 0), (9, .ifCond .ne 48, 12, 57, 0), (12, .iload_n 1, 13, 0, 0), (13, .bipush 83, 15, 0, nI 83), (15, .if_icmp .eq 42, 18, 57, 0), (18, .iload_n 1, 19, 0, 0), (19, .bipush 75, 21, 0, nI 75), (21, .if_icmp .eq 36, 24, 57, 0), (24, .iload_n 1, 25, 0, 0), (25, .bipush 73, 27, 0, nI 73), (27, .if_icmp .eq 30, 30, 57, 0), (30, .iload_n 1, 31, 0, 0), (31, .bipush 35, 33, 0, nI 35), (33, .if_icmp .eq 24, 36, 57, 0), (36, .iload_n 1, 37, 0, 0), (37, .bipush 40, 39, 0, nI 40), (39, .if_icmp .ne 12, 42, 51, 0), (42, .aload_n 0, 43, 0, 0), (43, .getfield 111, 46, 53, 0), (46, .bipush 20, 48, 0, nI 20), (48, .if_icmp .lt 9, 51, 57, 0), (51, .iload_n 1, 52, 0, 0), (52, .bipush 92, 54, 0, nI 92), (54, .if_icmp .ne 7, 57, 61, 0), (57, .iconst 1, 58, 0, nI 1), (58, .goto 4, 62, 0, 0), (61, .iconst 0, 62, 0, nI 0), (62, .istore_n 2, 63, 0, 0), (63, .iload_n 2, 64, 0, 0), (64, .ifCond .ne 12, 67, 76, 0), (67, .aload_n 0, 68, 0, 0), (68, .aload_n 0, 69, 0, 0), (69, .getfield 86, 72, 54, 0), (72, .invokevirtual 98, 75, 137, 0), (75, .return_, 76, 0, 0), (76, .aload_n 0, 77, 0, 0), (77, .invokevirtual 114, 80, 140, 0), (80, .iload_n 1, 81, 0, 0), (81, .bipush 35, 83, 0, nI 35), (83, .if_icmp .ne 10, 86, 93, 0), (86, .aload_n 0, 87, 0, 0), (87, .invokevirtual 117, 90, 141, 0), (90, .goto 106, 196, 0, 0), (93, .iload_n 1, 94, 0, 0), (94, .bipush 92, 96, 0, nI 92), (96, .if_icmp .ne 10, 99, 106, 0), (99, .aload_n 0, 100, 0, 0), (100, .invokevirtual 120, 103, 142, 0), (103, .goto 93, 196, 0, 0), (106, .iload_n 1, 107, 0, 0), (107, .bipush 40, 109, 0, nI 40), (109, .if_icmp .ne 31, 112, 140, 0), (112, .aload_n 0, 113, 0, 0), (113, .dup, 114, 0, 0), (114, .getfield 86, 117, 54, 0), (117, .iconst 1, 118, 0, nI 1), (118, .iadd, 119, 0, 0), (119, .putfield 86, 122, 54, 0), (122, .aload_n 0, 123, 0, 0), (123, .dup, 124, 0, 0), (124, .getfield 111, 127, 53, 0), (127, .iconst 1, 128, 0, nI 1), (128, .iadd, 129, 0, 0), (129, .putfield 111, 132, 53, 0), (132, .aload_n 0, 133, 0, 0), (133, .iconst (-1), 134, 0, (-1)), (134, .invokevirtual 108, 137, 134, 0), (137, .goto 59, 196, 0, 0), (140, .aload_n 0, 141, 0, 0), (141, .dup, 142, 0, 0), (142, .getfield 86, 145, 54, 0), (145, .iconst 1, 146, 0, nI 1), (146, .iadd, 147, 0, 0), (147, .putfield 86, 150, 54, 0), (150, .iload_n 1, 151, 0, 0), (151, .invokestatic 105, 154, 139, 0), (154, .ifCond .eq 11, 157, 165, 0), (157, .aload_n 0, 158, 0, 0), (158, .iload_n 1, 159, 0, 0), (159, .invokevirtual 123, 162, 143, 0), (162, .goto 34, 196, 0, 0), (165, .aload_n 0, 166, 0, 0), (166, .iload_n 1, 167, 0, 0), (167, .bipush 83, 169, 0, nI 83), (169, .if_icmp .ne 9, 172, 178, 0), (172, .sipush 20001, 175, 0, nI 20001), (175, .goto 18, 193, 0, 0), (178, .iload_n 1, 179, 0, 0), (179, .bipush 75, 181, 0, nI 75), (181, .if_icmp .ne 9, 184, 190, 0), (184, .sipush 20002, 187, 0, nI 20002), (187, .goto 6, 193, 0, 0), (190, .sipush 20003, 193, 0, nI 20003), (193, .invokevirtual 79, 196, 144, 0), (196, .return_, 197, 0, 0)])
theorem k_Mo_atom : mm_okY Y_Mo_atom := ⟨by decide +kernel, by decide +kernel, rfl, by decide⟩
theorem w_Mo_atom : mm_cw Y_Mo_atom ∈ mm_tbl := mm_in (mm_r4 _ (List.mem_of_getElem? (i := 75) rfl)) rfl
def Y_Mo_isLetter : mm_Y := ((⟨"LambdaBenchModel", "isLetter", "(I)Z"⟩, 8), prog_10_method_18_code, 1, (some .boolean), [], { frames := 1, cells := 0, slots := 0, locals := 22 }, [(0, .iload_n 0, 1, 0, 0), (1, .bipush 97, 3, 0, nI 97), (3, .bipush 122, 5, 0, nI 122), (5, .invokestatic 50, 8, 127, 0), (8, .ireturn, 9, 0, 0)])
theorem k_Mo_isLetter : mm_okY Y_Mo_isLetter := ⟨by decide +kernel, by decide +kernel, rfl, by decide⟩
theorem w_Mo_isLetter : mm_cw Y_Mo_isLetter ∈ mm_tbl := mm_in (mm_r4 _ (List.mem_of_getElem? (i := 78) rfl)) rfl
def Y_Mo_beginAtom : mm_Y := ((⟨"LambdaBenchModel", "beginAtom", "()V"⟩, 8), prog_10_method_20_code, 3, none, [], { frames := 1, cells := 0, slots := 0, locals := 21 }, [(0, .aload_n 0, 1, 0, 0), (1, .getfield 92, 4, 51, 0), (4, .iconst 1, 5, 0, nI 1), (5, .isub, 6, 0, 0), (6, .istore_n 1, 7, 0, 0), (7, .aload_n 0, 8, 0, 0), (8, .getfield 38, 11, 42, 0), (11, .iload_n 1, 12, 0, 0), (12, .dup2, 13, 0, 0), (13, .iaload, 14, 0, 0), (14, .iconst 1, 15, 0, nI 1), (15, .iadd, 16, 0, 0), (16, .iastore, 17, 0, 0), (17, .aload_n 0, 18, 0, 0), (18, .getfield 38, 21, 42, 0), (21, .iload_n 1, 22, 0, 0), (22, .iaload, 23, 0, 0), (23, .iconst 1, 24, 0, nI 1), (24, .if_icmp .ne 4, 27, 28, 0), (27, .return_, 28, 0, 0), (28, .aload_n 0, 29, 0, 0), (29, .iconst 0, 30, 0, nI 0), (30, .invokevirtual 79, 33, 144, 0), (33, .aload_n 0, 34, 0, 0), (34, .getfield 64, 37, 49, 0), (37, .ifCond .eq 4, 40, 41, 0), (40, .return_, 41, 0, 0), (41, .aload_n 0, 42, 0, 0), (42, .getfield 68, 45, 55, 0), (45, .iconst 1, 46, 0, nI 1), (46, .isub, 47, 0, 0), (47, .istore_n 2, 48, 0, 0), (48, .iload_n 2, 49, 0, 0), (49, .aload_n 0, 50, 0, 0), (50, .getfield 35, 53, 41, 0), (53, .iload_n 1, 54, 0, 0), (54, .iaload, 55, 0, 0), (55, .if_icmp .le 23, 58, 78, 0), (58, .aload_n 0, 59, 0, 0), (59, .getfield 26, 62, 38, 0), (62, .iload_n 2, 63, 0, 0), (63, .aload_n 0, 64, 0, 0), (64, .getfield 26, 67, 38, 0), (67, .iload_n 2, 68, 0, 0), (68, .iconst 1, 69, 0, nI 1), (69, .isub, 70, 0, 0), (70, .iaload, 71, 0, 0), (71, .iastore, 72, 0, 0), (72, .iinc 2 (-1), 75, 0, (-1)), (75, .goto (-27), 48, 0, 0), (78, .aload_n 0, 79, 0, 0), (79, .getfield 26, 82, 38, 0), (82, .aload_n 0, 83, 0, 0), (83, .getfield 35, 86, 41, 0), (86, .iload_n 1, 87, 0, 0), (87, .iaload, 88, 0, 0), (88, .iconst (-1), 89, 0, (-1)), (89, .iastore, 90, 0, 0), (90, .return_, 91, 0, 0)])
theorem k_Mo_beginAtom : mm_okY Y_Mo_beginAtom := ⟨by decide +kernel, by decide +kernel, rfl, by decide⟩
theorem w_Mo_beginAtom : mm_cw Y_Mo_beginAtom ∈ mm_tbl := mm_in (mm_r4 _ (List.mem_of_getElem? (i := 82) rfl)) rfl
def Y_Mo_put : mm_Y := ((⟨"LambdaBenchModel", "put", "(I)V"⟩, 8), prog_10_method_9_code, 2, none, [], { frames := 0, cells := 0, slots := 0, locals := 0 }, [(0, .aload_n 0, 1, 0, 0), (1, .aload_n 0, 2, 0, 0), (2, .getfield 64, 5, 49, 0), (5, .ifCond .ne 13, 8, 18, 0), (8, .aload_n 0, 9, 0, 0), (9, .getfield 68, 12, 55, 0), (12, .sipush 2000, 15, 0, nI 2000), (15, .if_icmp .ne 7, 18, 22, 0), (18, .iconst 1, 19, 0, nI 1), (19, .goto 4, 23, 0, 0), (22, .iconst 0, 23, 0, nI 0), (23, .putfield 64, 26, 49, 0), (26, .aload_n 0, 27, 0, 0), (27, .getfield 64, 30, 49, 0), (30, .ifCond .eq 4, 33, 34, 0), (33, .return_, 34, 0, 0), (34, .aload_n 0, 35, 0, 0), (35, .getfield 26, 38, 38, 0), (38, .aload_n 0, 39, 0, 0), (39, .getfield 68, 42, 55, 0), (42, .iload_n 1, 43, 0, 0), (43, .iastore, 44, 0, 0), (44, .aload_n 0, 45, 0, 0), (45, .dup, 46, 0, 0), (46, .getfield 68, 49, 55, 0), (49, .iconst 1, 50, 0, nI 1), (50, .iadd, 51, 0, 0), (51, .putfield 68, 54, 55, 0), (54, .return_, 55, 0, 0)])
theorem k_Mo_put : mm_okY Y_Mo_put := ⟨by decide +kernel, by decide +kernel, rfl, by decide⟩
theorem w_Mo_put : mm_cw Y_Mo_put ∈ mm_tbl := mm_in (mm_r4 _ (List.mem_of_getElem? (i := 86) rfl)) rfl
def Y_Mo_numeral : mm_Y := ((⟨"LambdaBenchModel", "numeral", "()V"⟩, 8), prog_10_method_22_code, 4, none, [], { frames := 1, cells := 0, slots := 0, locals := 22 }, [(0, .aload_n 0, 1, 0, 0), (1, .dup, 2, 0, 0), (2, .getfield 86, 5, 54, 0), (5, .iconst 1, 6, 0, nI 1), (6, .iadd, 7, 0, 0), (7, .putfield 86, 10, 54, 0), (10, .iconst 0, 11, 0, nI 0), (11, .istore_n 1, 12, 0, 0), (12, .iconst 0, 13, 0, nI 0), (13, .istore_n 2, 14, 0, 0), (14, .iload_n 2, 15, 0, 0), (15, .iconst 2, 16, 0, nI 2), (16, .if_icmp .ge 67, 19, 83, 0), (19, .aload_n 0, 20, 0, 0), (20, .getfield 86, 23, 54, 0), (23, .aload_n 0, 24, 0, 0), (24, .getfield 89, 27, 47, 0), (27, .if_icmp .ge 56, 30, 83, 0), (30, .aload_n 0, 31, 0, 0), (31, .getfield 7, 34, 33, 0), (34, .aload_n 0, 35, 0, 0), (35, .getfield 86, 38, 54, 0), (38, .iaload, 39, 0, 0), (39, .bipush 48, 41, 0, nI 48), (41, .bipush 57, 43, 0, nI 57), (43, .invokestatic 50, 46, 127, 0), (46, .ifCond .eq 37, 49, 83, 0), (49, .bipush 10, 51, 0, nI 10), (51, .iload_n 1, 52, 0, 0), (52, .imul, 53, 0, 0), (53, .aload_n 0, 54, 0, 0), (54, .getfield 7, 57, 33, 0), (57, .aload_n 0, 58, 0, 0), (58, .getfield 86, 61, 54, 0), (61, .iaload, 62, 0, 0), (62, .iadd, 63, 0, 0), (63, .bipush 48, 65, 0, nI 48), (65, .isub, 66, 0, 0), (66, .istore_n 1, 67, 0, 0), (67, .iinc 2 1, 70, 0, nI 1), (70, .aload_n 0, 71, 0, 0), (71, .dup, 72, 0, 0), (72, .getfield 86, 75, 54, 0), (75, .iconst 1, 76, 0, nI 1), (76, .iadd, 77, 0, 0), (77, .putfield 86, 80, 54, 0), (80, .goto (-66), 14, 0, 0), (83, .iload_n 2, 84, 0, 0), (84, .ifCond .ne 12, 87, 96, 0), (87, .aload_n 0, 88, 0, 0), (88, .aload_n 0, 89, 0, 0), (89, .getfield 86, 92, 54, 0), (92, .invokevirtual 98, 95, 137, 0), (95, .return_, 96, 0, 0), (96, .aload_n 0, 97, 0, 0), (97, .bipush (-2), 99, 0, (-2)), (99, .invokevirtual 79, 102, 144, 0), (102, .aload_n 0, 103, 0, 0), (103, .bipush (-2), 105, 0, (-2)), (105, .invokevirtual 79, 108, 144, 0), (108, .iconst 0, 109, 0, nI 0), (109, .istore_n 3, 110, 0, 0), (110, .iload_n 3, 111, 0, 0), (111, .iload_n 1, 112, 0, 0), (112, .if_icmp .ge 19, 115, 131, 0), (115, .aload_n 0, 116, 0, 0), (116, .iconst (-1), 117, 0, (-1)), (117, .invokevirtual 79, 120, 144, 0), (120, .aload_n 0, 121, 0, 0), (121, .iconst 1, 122, 0, nI 1), (122, .invokevirtual 79, 125, 144, 0), (125, .iinc 3 1, 128, 0, nI 1), (128, .goto (-18), 110, 0, 0), (131, .aload_n 0, 132, 0, 0), (132, .iconst 0, 133, 0, nI 0), (133, .invokevirtual 79, 136, 144, 0), (136, .return_, 137, 0, 0)])
theorem k_Mo_numeral : mm_okY Y_Mo_numeral := ⟨by decide +kernel, by decide +kernel, rfl, by decide⟩
theorem w_Mo_numeral : mm_cw Y_Mo_numeral ∈ mm_tbl := mm_in (mm_r4 _ (List.mem_of_getElem? (i := 90) rfl)) rfl
def Y_Mo_abstraction : mm_Y := ((⟨"LambdaBenchModel", "abstraction", "()V"⟩, 8), prog_10_method_23_code, 2, none, [], { frames := 2, cells := 0, slots := 0, locals := 42 }, [(0, .aload_n 0, 1, 0, 0), (1, .dup, 2, 0, 0), (2, .getfield 86, 5, 54, 0), (5, .iconst 1, 6, 0, nI 1), (6, .iadd, 7, 0, 0), (7, .putfield 86, 10, 54, 0), (10, .iconst 0, 11, 0, nI 0), (11, .istore_n 1, 12, 0, 0), (12, .aload_n 0, 13, 0, 0), (13, .getfield 83, 16, 48, 0), (16, .ifCond .ne 82, 19, 98, 0), (19, .iload_n 1, 20, 0, 0), (20, .ifCond .eq 12, 23, 32, 0), (23, .aload_n 0, 24, 0, 0), (24, .invokevirtual 101, 27, 135, 0), (27, .bipush 46, 29, 0, nI 46), (29, .if_icmp .eq 69, 32, 98, 0), (32, .aload_n 0, 33, 0, 0), (33, .invokevirtual 101, 36, 135, 0), (36, .invokestatic 105, 39, 139, 0), (39, .ifCond .ne 14, 42, 53, 0), (42, .aload_n 0, 43, 0, 0), (43, .aload_n 0, 44, 0, 0), (44, .getfield 86, 47, 54, 0), (47, .invokevirtual 98, 50, 137, 0), (50, .goto (-38), 12, 0, 0), (53, .aload_n 0, 54, 0, 0), (54, .getfield 44, 57, 44, 0), (57, .aload_n 0, 58, 0, 0), (58, .getfield 95, 61, 52, 0), (61, .aload_n 0, 62, 0, 0), (62, .invokevirtual 101, 65, 135, 0), (65, .iastore, 66, 0, 0), (66, .aload_n 0, 67, 0, 0), (67, .dup, 68, 0, 0), (68, .getfield 95, 71, 52, 0), (71, .iconst 1, 72, 0, nI 1), (72, .iadd, 73, 0, 0), (73, .putfield 95, 76, 52, 0), (76, .iinc 1 1, 79, 0, nI 1), (79, .aload_n 0, 80, 0, 0), (80, .dup, 81, 0, 0), (81, .getfield 86, 84, 54, 0), (84, .iconst 1, 85, 0, nI 1), (85, .iadd, 86, 0, 0), (86, .putfield 86, 89, 54, 0), (89, .aload_n 0, 90, 0, 0), (90, .bipush (-2), 92, 0, (-2)), (92, .invokevirtual 79, 95, 144, 0), (95, .goto (-83), 12, 0, 0), (98, .aload_n 0, 99, 0, 0), (99, .dup, 100, 0, 0), (100, .getfield 86, 103, 54, 0), (103, .iconst 1, 104, 0, nI 1), (104, .iadd, 105, 0, 0), (105, .putfield 86, 108, 54, 0), (108, .aload_n 0, 109, 0, 0), (109, .iload_n 1, 110, 0, 0), (110, .invokevirtual 108, 113, 134, 0), (113, .return_, 114, 0, 0)])
theorem k_Mo_abstraction : mm_okY Y_Mo_abstraction := ⟨by decide +kernel, by decide +kernel, rfl, by decide⟩
theorem w_Mo_abstraction : mm_cw Y_Mo_abstraction ∈ mm_tbl := mm_in (mm_r4 _ (List.mem_of_getElem? (i := 94) rfl)) rfl
def Y_Mo_variable : mm_Y := ((⟨"LambdaBenchModel", "variable", "(I)V"⟩, 8), prog_10_method_21_code, 3, none, [], { frames := 1, cells := 0, slots := 0, locals := 21 }, [(0, .aload_n 0, 1, 0, 0), (1, .getfield 95, 4, 52, 0), (4, .iconst 1, 5, 0, nI 1), (5, .isub, 6, 0, 0), (6, .istore_n 2, 7, 0, 0), (7, .iload_n 2, 8, 0, 0), (8, .ifCond .lt 19, 11, 27, 0), (11, .aload_n 0, 12, 0, 0), (12, .getfield 44, 15, 44, 0), (15, .iload_n 2, 16, 0, 0), (16, .iaload, 17, 0, 0), (17, .iload_n 1, 18, 0, 0), (18, .if_icmp .eq 9, 21, 27, 0), (21, .iinc 2 (-1), 24, 0, (-1)), (24, .goto (-17), 7, 0, 0), (27, .aload_n 0, 28, 0, 0), (28, .iload_n 2, 29, 0, 0), (29, .ifCond .lt 14, 32, 43, 0), (32, .aload_n 0, 33, 0, 0), (33, .getfield 95, 36, 52, 0), (36, .iconst 1, 37, 0, nI 1), (37, .isub, 38, 0, 0), (38, .iload_n 2, 39, 0, 0), (39, .isub, 40, 0, 0), (40, .goto 8, 48, 0, 0), (43, .sipush 10000, 46, 0, nI 10000), (46, .iload_n 1, 47, 0, 0), (47, .iadd, 48, 0, 0), (48, .invokevirtual 79, 51, 144, 0), (51, .return_, 52, 0, 0)])
theorem k_Mo_variable : mm_okY Y_Mo_variable := ⟨by decide +kernel, by decide +kernel, rfl, by decide⟩
theorem w_Mo_variable : mm_cw Y_Mo_variable ∈ mm_tbl := mm_in (mm_r4 _ (List.mem_of_getElem? (i := 98) rfl)) rfl
def Y_Mo_settle : mm_Y := ((⟨"LambdaBenchModel", "settle", "()V"⟩, 8), prog_10_method_11_code, 2, none, [], { frames := 0, cells := 0, slots := 0, locals := 0 }, [(0, .aload_n 0, 1, 0, 0), (1, .aload_n 0, 2, 0, 0), (2, .getfield 68, 5, 55, 0), (5, .putfield 61, 8, 50, 0), (8, .iconst 0, 9, 0, nI 0), (9, .istore_n 1, 10, 0, 0), (10, .iload_n 1, 11, 0, 0), (11, .aload_n 0, 12, 0, 0), (12, .getfield 61, 15, 50, 0), (15, .if_icmp .ge 21, 18, 36, 0), (18, .aload_n 0, 19, 0, 0), (19, .getfield 23, 22, 37, 0), (22, .iload_n 1, 23, 0, 0), (23, .aload_n 0, 24, 0, 0), (24, .getfield 26, 27, 38, 0), (27, .iload_n 1, 28, 0, 0), (28, .iaload, 29, 0, 0), (29, .iastore, 30, 0, 0), (30, .iinc 1 1, 33, 0, nI 1), (33, .goto (-23), 10, 0, 0), (36, .return_, 37, 0, 0)])
theorem k_Mo_settle : mm_okY Y_Mo_settle := ⟨by decide +kernel, by decide +kernel, rfl, by decide⟩
theorem w_Mo_settle : mm_cw Y_Mo_settle ∈ mm_tbl := mm_in (mm_r4 _ (List.mem_of_getElem? (i := 102) rfl)) rfl
def Y_Mo_store : mm_Y := ((⟨"LambdaBenchModel", "store", "(I)V"⟩, 8), prog_10_method_8_code, 3, none, [], { frames := 0, cells := 0, slots := 0, locals := 0 }, [(0, .aload_n 0, 1, 0, 0), (1, .getfield 20, 4, 36, 0), (4, .iload_n 1, 5, 0, 0), (5, .aload_n 0, 6, 0, 0), (6, .getfield 61, 9, 50, 0), (9, .iastore, 10, 0, 0), (10, .iconst 0, 11, 0, nI 0), (11, .istore_n 2, 12, 0, 0), (12, .iload_n 2, 13, 0, 0), (13, .aload_n 0, 14, 0, 0), (14, .getfield 61, 17, 50, 0), (17, .if_icmp .ge 27, 20, 44, 0), (20, .aload_n 0, 21, 0, 0), (21, .getfield 17, 24, 35, 0), (24, .sipush 2000, 27, 0, nI 2000), (27, .iload_n 1, 28, 0, 0), (28, .imul, 29, 0, 0), (29, .iload_n 2, 30, 0, 0), (30, .iadd, 31, 0, 0), (31, .aload_n 0, 32, 0, 0), (32, .getfield 23, 35, 37, 0), (35, .iload_n 2, 36, 0, 0), (36, .iaload, 37, 0, 0), (37, .iastore, 38, 0, 0), (38, .iinc 2 1, 41, 0, nI 1), (41, .goto (-29), 12, 0, 0), (44, .return_, 45, 0, 0)])
theorem k_Mo_store : mm_okY Y_Mo_store := ⟨by decide +kernel, by decide +kernel, rfl, by decide⟩
theorem w_Mo_store : mm_cw Y_Mo_store ∈ mm_tbl := mm_in (mm_r4 _ (List.mem_of_getElem? (i := 106) rfl)) rfl
def Y_Mo_place : mm_Y := ((⟨"LambdaBenchModel", "place", "()I"⟩, 8), prog_10_method_28_code, 1, (some .int), [], { frames := 0, cells := 0, slots := 0, locals := 0 }, [(0, .aload_n 0, 1, 0, 0), (1, .iconst 0, 2, 0, nI 0), (2, .putfield 47, 5, 45, 0), (5, .aload_n 0, 6, 0, 0), (6, .getfield 13, 9, 34, 0), (9, .ireturn, 10, 0, 0)])
theorem k_Mo_place : mm_okY Y_Mo_place := ⟨by decide +kernel, by decide +kernel, rfl, by decide⟩
theorem w_Mo_place : mm_cw Y_Mo_place ∈ mm_tbl := mm_in (mm_r4 _ (List.mem_of_getElem? (i := 110) rfl)) rfl
def Y_Mo_redexes : mm_Y := ((⟨"LambdaBenchModel", "redexes", "(I)I"⟩, 8), prog_10_method_36_code, 5, (some .int), [], { frames := 2, cells := 0, slots := 0, locals := 42 }, [(0, .iload_n 1, 1, 0, 0), (1, .invokestatic 136, 4, 129, 0), (4, .ifCond .ne 7, 7, 11, 0), (7, .iconst 1, 8, 0, nI 1), (8, .goto 4, 12, 0, 0), (11, .iconst 0, 12, 0, nI 0), (12, .istore_n 2, 13, 0, 0), (13, .aload_n 0, 14, 0, 0), (14, .iload_n 2, 15, 0, 0), (15, .iload_n 2, 16, 0, 0), (16, .ifCond .ne 16, 19, 32, 0), (19, .aload_n 0, 20, 0, 0), (20, .getfield 20, 23, 36, 0), (23, .iload_n 1, 24, 0, 0), (24, .iaload, 25, 0, 0), (25, .ifCond .ne 7, 28, 32, 0), (28, .iconst 1, 29, 0, nI 1), (29, .goto 4, 33, 0, 0), (32, .iconst 0, 33, 0, nI 0), (33, .invokevirtual 57, 36, 128, 0), (36, .ifCond .eq 5, 39, 41, 0), (39, .iconst 0, 40, 0, nI 0), (40, .ireturn, 41, 0, 0), (41, .aload_n 0, 42, 0, 0), (42, .iload_n 1, 43, 0, 0), (43, .invokevirtual 176, 46, 145, 0), (46, .iconst 0, 47, 0, nI 0), (47, .istore_n 3, 48, 0, 0), (48, .iconst 0, 49, 0, nI 0), (49, .istore 4, 51, 0, 0), (51, .iload 4, 53, 0, 0), (53, .aload_n 0, 54, 0, 0), (54, .getfield 61, 57, 50, 0), (57, .if_icmp .ge 26, 60, 83, 0), (60, .iload_n 3, 61, 0, 0), (61, .aload_n 0, 62, 0, 0), (62, .iload 4, 64, 0, 0), (64, .invokevirtual 155, 67, 146, 0), (67, .ifCond .le 7, 70, 74, 0), (70, .iconst 1, 71, 0, nI 1), (71, .goto 4, 75, 0, 0), (74, .iconst 0, 75, 0, nI 0), (75, .iadd, 76, 0, 0), (76, .istore_n 3, 77, 0, 0), (77, .iinc 4 1, 80, 0, nI 1), (80, .goto (-29), 51, 0, 0), (83, .iload_n 3, 84, 0, 0), (84, .ireturn, 85, 0, 0)])
theorem k_Mo_redexes : mm_okY Y_Mo_redexes := ⟨by decide +kernel, by decide +kernel, rfl, by decide⟩
theorem w_Mo_redexes : mm_cw Y_Mo_redexes ∈ mm_tbl := mm_in (mm_r4 _ (List.mem_of_getElem? (i := 114) rfl)) rfl
def Y_Mo_load : mm_Y := ((⟨"LambdaBenchModel", "load", "(I)V"⟩, 8), prog_10_method_7_code, 3, none, [], { frames := 0, cells := 0, slots := 0, locals := 0 }, [(0, .aload_n 0, 1, 0, 0), (1, .aload_n 0, 2, 0, 0), (2, .getfield 20, 5, 36, 0), (5, .iload_n 1, 6, 0, 0), (6, .iaload, 7, 0, 0), (7, .putfield 61, 10, 50, 0), (10, .iconst 0, 11, 0, nI 0), (11, .istore_n 2, 12, 0, 0), (12, .iload_n 2, 13, 0, 0), (13, .aload_n 0, 14, 0, 0), (14, .getfield 61, 17, 50, 0), (17, .if_icmp .ge 27, 20, 44, 0), (20, .aload_n 0, 21, 0, 0), (21, .getfield 23, 24, 37, 0), (24, .iload_n 2, 25, 0, 0), (25, .aload_n 0, 26, 0, 0), (26, .getfield 17, 29, 35, 0), (29, .sipush 2000, 32, 0, nI 2000), (32, .iload_n 1, 33, 0, 0), (33, .imul, 34, 0, 0), (34, .iload_n 2, 35, 0, 0), (35, .iadd, 36, 0, 0), (36, .iaload, 37, 0, 0), (37, .iastore, 38, 0, 0), (38, .iinc 2 1, 41, 0, nI 1), (41, .goto (-29), 12, 0, 0), (44, .return_, 45, 0, 0)])
theorem k_Mo_load : mm_okY Y_Mo_load := ⟨by decide +kernel, by decide +kernel, rfl, by decide⟩
theorem w_Mo_load : mm_cw Y_Mo_load ∈ mm_tbl := mm_in (mm_r4 _ (List.mem_of_getElem? (i := 118) rfl)) rfl
def Y_Mo_redex : mm_Y := ((⟨"LambdaBenchModel", "redex", "(I)I"⟩, 8), prog_10_method_29_code, 2, (some .int), [], { frames := 0, cells := 0, slots := 0, locals := 0 }, [(0, .aload_n 0, 1, 0, 0), (1, .getfield 23, 4, 37, 0), (4, .iload_n 1, 5, 0, 0), (5, .iaload, 6, 0, 0), (6, .iconst (-1), 7, 0, (-1)), (7, .if_icmp .eq 5, 10, 12, 0), (10, .iconst 0, 11, 0, nI 0), (11, .ireturn, 12, 0, 0), (12, .aload_n 0, 13, 0, 0), (13, .getfield 23, 16, 37, 0), (16, .iload_n 1, 17, 0, 0), (17, .iconst 1, 18, 0, nI 1), (18, .iadd, 19, 0, 0), (19, .iaload, 20, 0, 0), (20, .bipush (-2), 22, 0, (-2)), (22, .if_icmp .ne 5, 25, 27, 0), (25, .iconst 1, 26, 0, nI 1), (26, .ireturn, 27, 0, 0), (27, .aload_n 0, 28, 0, 0), (28, .getfield 23, 31, 37, 0), (31, .iload_n 1, 32, 0, 0), (32, .iconst 1, 33, 0, nI 1), (33, .iadd, 34, 0, 0), (34, .iaload, 35, 0, 0), (35, .sipush 20003, 38, 0, nI 20003), (38, .if_icmp .ne 5, 41, 43, 0), (41, .iconst 2, 42, 0, nI 2), (42, .ireturn, 43, 0, 0), (43, .aload_n 0, 44, 0, 0), (44, .getfield 23, 47, 37, 0), (47, .iload_n 1, 48, 0, 0), (48, .iconst 1, 49, 0, nI 1), (49, .iadd, 50, 0, 0), (50, .iaload, 51, 0, 0), (51, .iconst (-1), 52, 0, (-1)), (52, .if_icmp .eq 5, 55, 57, 0), (55, .iconst 0, 56, 0, nI 0), (56, .ireturn, 57, 0, 0), (57, .aload_n 0, 58, 0, 0), (58, .getfield 23, 61, 37, 0), (61, .iload_n 1, 62, 0, 0), (62, .iconst 2, 63, 0, nI 2), (63, .iadd, 64, 0, 0), (64, .iaload, 65, 0, 0), (65, .sipush 20002, 68, 0, nI 20002), (68, .if_icmp .ne 5, 71, 73, 0), (71, .iconst 3, 72, 0, nI 3), (72, .ireturn, 73, 0, 0), (73, .aload_n 0, 74, 0, 0), (74, .getfield 23, 77, 37, 0), (77, .iload_n 1, 78, 0, 0), (78, .iconst 2, 79, 0, nI 2), (79, .iadd, 80, 0, 0), (80, .iaload, 81, 0, 0), (81, .iconst (-1), 82, 0, (-1)), (82, .if_icmp .ne 21, 85, 103, 0), (85, .aload_n 0, 86, 0, 0), (86, .getfield 23, 89, 37, 0), (89, .iload_n 1, 90, 0, 0), (90, .iconst 3, 91, 0, nI 3), (91, .iadd, 92, 0, 0), (92, .iaload, 93, 0, 0), (93, .sipush 20001, 96, 0, nI 20001), (96, .if_icmp .ne 7, 99, 103, 0), (99, .iconst 4, 100, 0, nI 4), (100, .goto 4, 104, 0, 0), (103, .iconst 0, 104, 0, nI 0), (104, .ireturn, 105, 0, 0)])
theorem k_Mo_redex : mm_okY Y_Mo_redex := ⟨by decide +kernel, by decide +kernel, rfl, by decide⟩
theorem w_Mo_redex : mm_cw Y_Mo_redex ∈ mm_tbl := mm_in (mm_r4 _ (List.mem_of_getElem? (i := 122) rfl)) rfl
def Y_Mo_reduce : mm_Y := ((⟨"LambdaBenchModel", "reduce", "(II)I"⟩, 8), prog_10_method_37_code, 5, (some .int), [], { frames := 6, cells := 0, slots := 0, locals := 142 }, [(0, .iload_n 1, 1, 0, 0), (1, .invokestatic 136, 4, 129, 0), (4, .ifCond .eq 14, 7, 18, 0), (7, .iload_n 2, 8, 0, 0), (8, .iconst 1, 9, 0, nI 1), (9, .sipush 400, 12, 0, nI 400), (12, .invokestatic 50, 15, 127, 0), (15, .ifCond .ne 7, 18, 22, 0), (18, .iconst 1, 19, 0, nI 1), (19, .goto 4, 23, 0, 0), (22, .iconst 0, 23, 0, nI 0), (23, .istore_n 3, 24, 0, 0), (24, .aload_n 0, 25, 0, 0), (25, .iload_n 3, 26, 0, 0), (26, .iload_n 3, 27, 0, 0), (27, .ifCond .ne 16, 30, 43, 0), (30, .aload_n 0, 31, 0, 0), (31, .getfield 20, 34, 36, 0), (34, .iload_n 1, 35, 0, 0), (35, .iaload, 36, 0, 0), (36, .ifCond .ne 7, 39, 43, 0), (39, .iconst 1, 40, 0, nI 1), (40, .goto 4, 44, 0, 0), (43, .iconst 0, 44, 0, nI 0), (44, .invokevirtual 57, 47, 128, 0), (47, .ifCond .eq 5, 50, 52, 0), (50, .iconst 0, 51, 0, nI 0), (51, .ireturn, 52, 0, 0), (52, .aload_n 0, 53, 0, 0), (53, .iload_n 1, 54, 0, 0), (54, .invokevirtual 176, 57, 145, 0), (57, .aload_n 0, 58, 0, 0), (58, .iload_n 2, 59, 0, 0), (59, .invokevirtual 179, 62, 147, 0), (62, .istore 4, 64, 0, 0), (64, .aload_n 0, 65, 0, 0), (65, .iload_n 1, 66, 0, 0), (66, .invokevirtual 145, 69, 132, 0), (69, .iload 4, 71, 0, 0), (71, .ireturn, 72, 0, 0)])
theorem k_Mo_reduce : mm_okY Y_Mo_reduce := ⟨by decide +kernel, by decide +kernel, rfl, by decide⟩
theorem w_Mo_reduce : mm_cw Y_Mo_reduce ∈ mm_tbl := mm_in (mm_r4 _ (List.mem_of_getElem? (i := 126) rfl)) rfl
def Y_Mo_steps : mm_Y := ((⟨"LambdaBenchModel", "steps", "(I)I"⟩, 8), prog_10_method_35_code, 3, (some .int), [], { frames := 5, cells := 0, slots := 0, locals := 120 }, [(0, .iconst 0, 1, 0, nI 0), (1, .istore_n 2, 2, 0, 0), (2, .aload_n 0, 3, 0, 0), (3, .iconst 0, 4, 0, nI 0), (4, .putfield 170, 7, 56, 0), (7, .aload_n 0, 8, 0, 0), (8, .getfield 170, 11, 56, 0), (11, .ifCond .ne 34, 14, 45, 0), (14, .iload_n 2, 15, 0, 0), (15, .iload_n 1, 16, 0, 0), (16, .if_icmp .ge 29, 19, 45, 0), (19, .aload_n 0, 20, 0, 0), (20, .aload_n 0, 21, 0, 0), (21, .invokevirtual 173, 24, 148, 0), (24, .putfield 170, 27, 56, 0), (27, .iload_n 2, 28, 0, 0), (28, .aload_n 0, 29, 0, 0), (29, .getfield 170, 32, 56, 0), (32, .ifCond .ne 7, 35, 39, 0), (35, .iconst 1, 36, 0, nI 1), (36, .goto 4, 40, 0, 0), (39, .iconst 0, 40, 0, nI 0), (40, .iadd, 41, 0, 0), (41, .istore_n 2, 42, 0, 0), (42, .goto (-35), 7, 0, 0), (45, .aload_n 0, 46, 0, 0), (46, .aload_n 0, 47, 0, 0), (47, .getfield 170, 50, 56, 0), (50, .ifCond .le 10, 53, 60, 0), (53, .aload_n 0, 54, 0, 0), (54, .getfield 170, 57, 56, 0), (57, .goto 15, 72, 0, 0), (60, .aload_n 0, 61, 0, 0), (61, .invokevirtual 158, 64, 149, 0), (64, .ifCond .ge 7, 67, 71, 0), (67, .iconst 1, 68, 0, nI 1), (68, .goto 4, 72, 0, 0), (71, .iconst 2, 72, 0, nI 2), (72, .putfield 170, 75, 56, 0), (75, .iload_n 2, 76, 0, 0), (76, .ireturn, 77, 0, 0)])
theorem k_Mo_steps : mm_okY Y_Mo_steps := ⟨by decide +kernel, by decide +kernel, rfl, by decide⟩
theorem w_Mo_steps : mm_cw Y_Mo_steps ∈ mm_tbl := mm_in (mm_r4 _ (List.mem_of_getElem? (i := 130) rfl)) rfl
def Y_Mo_step : mm_Y := ((⟨"LambdaBenchModel", "step", "()I"⟩, 8), prog_10_method_33_code, 4, (some .int), [], { frames := 4, cells := 0, slots := 0, locals := 97 }, [(0, .aload_n 0, 1, 0, 0), (1, .invokevirtual 158, 4, 149, 0), (4, .istore_n 1, 5, 0, 0), (5, .iload_n 1, 6, 0, 0), (6, .ifCond .ge 5, 9, 11, 0), (9, .iconst 1, 10, 0, nI 1), (10, .ireturn, 11, 0, 0), (11, .aload_n 0, 12, 0, 0), (12, .iload_n 1, 13, 0, 0), (13, .invokevirtual 155, 16, 146, 0), (16, .istore_n 2, 17, 0, 0), (17, .aload_n 0, 18, 0, 0), (18, .invokevirtual 126, 21, 133, 0), (21, .iconst 0, 22, 0, nI 0), (22, .istore_n 3, 23, 0, 0), (23, .iload_n 3, 24, 0, 0), (24, .iload_n 1, 25, 0, 0), (25, .if_icmp .ge 19, 28, 44, 0), (28, .aload_n 0, 29, 0, 0), (29, .aload_n 0, 30, 0, 0), (30, .getfield 23, 33, 37, 0), (33, .iload_n 3, 34, 0, 0), (34, .iaload, 35, 0, 0), (35, .invokevirtual 79, 38, 144, 0), (38, .iinc 3 1, 41, 0, nI 1), (41, .goto (-18), 23, 0, 0), (44, .iload_n 2, 45, 0, 0), (45, .iconst 1, 46, 0, nI 1), (46, .if_icmp .ne 20, 49, 66, 0), (49, .aload_n 0, 50, 0, 0), (50, .iload_n 1, 51, 0, 0), (51, .iconst 2, 52, 0, nI 2), (52, .iadd, 53, 0, 0), (53, .aload_n 0, 54, 0, 0), (54, .iload_n 1, 55, 0, 0), (55, .iconst 1, 56, 0, nI 1), (56, .iadd, 57, 0, 0), (57, .invokevirtual 75, 60, 150, 0), (60, .invokevirtual 161, 63, 151, 0), (63, .goto 38, 101, 0, 0), (66, .iload_n 2, 67, 0, 0), (67, .iconst 2, 68, 0, nI 2), (68, .if_icmp .ne 13, 71, 81, 0), (71, .aload_n 0, 72, 0, 0), (72, .iload_n 1, 73, 0, 0), (73, .iconst 2, 74, 0, nI 2), (74, .iadd, 75, 0, 0), (75, .invokevirtual 164, 78, 152, 0), (78, .goto 23, 101, 0, 0), (81, .iload_n 2, 82, 0, 0), (82, .iconst 3, 83, 0, nI 3), (83, .if_icmp .ne 13, 86, 96, 0), (86, .aload_n 0, 87, 0, 0), (87, .iload_n 1, 88, 0, 0), (88, .iconst 3, 89, 0, nI 3), (89, .iadd, 90, 0, 0), (90, .invokevirtual 164, 93, 152, 0), (93, .goto 8, 101, 0, 0), (96, .aload_n 0, 97, 0, 0), (97, .iload_n 1, 98, 0, 0), (98, .invokevirtual 167, 101, 153, 0), (101, .aload_n 0, 102, 0, 0), (102, .iload_n 1, 103, 0, 0), (103, .invokevirtual 75, 106, 150, 0), (106, .istore_n 3, 107, 0, 0), (107, .iload_n 3, 108, 0, 0), (108, .aload_n 0, 109, 0, 0), (109, .getfield 61, 112, 50, 0), (112, .if_icmp .ge 19, 115, 131, 0), (115, .aload_n 0, 116, 0, 0), (116, .aload_n 0, 117, 0, 0), (117, .getfield 23, 120, 37, 0), (120, .iload_n 3, 121, 0, 0), (121, .iaload, 122, 0, 0), (122, .invokevirtual 79, 125, 144, 0), (125, .iinc 3 1, 128, 0, nI 1), (128, .goto (-21), 107, 0, 0), (131, .aload_n 0, 132, 0, 0), (132, .getfield 64, 135, 49, 0), (135, .ifCond .eq 5, 138, 140, 0), (138, .iconst 3, 139, 0, nI 3), (139, .ireturn, 140, 0, 0), (140, .aload_n 0, 141, 0, 0), (141, .invokevirtual 142, 144, 131, 0), (144, .iconst 0, 145, 0, nI 0), (145, .ireturn, 146, 0, 0)])
theorem k_Mo_step : mm_okY Y_Mo_step := ⟨by decide +kernel, by decide +kernel, rfl, by decide⟩
theorem w_Mo_step : mm_cw Y_Mo_step ∈ mm_tbl := mm_in (mm_r4 _ (List.mem_of_getElem? (i := 134) rfl)) rfl
def Y_Mo_find : mm_Y := ((⟨"LambdaBenchModel", "find", "()I"⟩, 8), prog_10_method_32_code, 2, (some .int), [], { frames := 1, cells := 0, slots := 0, locals := 21 }, [(0, .iconst 0, 1, 0, nI 0), (1, .istore_n 1, 2, 0, 0), (2, .iload_n 1, 3, 0, 0), (3, .aload_n 0, 4, 0, 0), (4, .getfield 61, 7, 50, 0), (7, .if_icmp .ge 19, 10, 26, 0), (10, .aload_n 0, 11, 0, 0), (11, .iload_n 1, 12, 0, 0), (12, .invokevirtual 155, 15, 146, 0), (15, .ifCond .le 5, 18, 20, 0), (18, .iload_n 1, 19, 0, 0), (19, .ireturn, 20, 0, 0), (20, .iinc 1 1, 23, 0, nI 1), (23, .goto (-21), 2, 0, 0), (26, .iconst (-1), 27, 0, (-1)), (27, .ireturn, 28, 0, 0)])
theorem k_Mo_find : mm_okY Y_Mo_find := ⟨by decide +kernel, by decide +kernel, rfl, by decide⟩
theorem w_Mo_find : mm_cw Y_Mo_find ∈ mm_tbl := mm_in (mm_r4 _ (List.mem_of_getElem? (i := 138) rfl)) rfl
def Y_Mo_behind : mm_Y := ((⟨"LambdaBenchModel", "behind", "(I)I"⟩, 8), prog_10_method_14_code, 4, (some .int), [], { frames := 1, cells := 0, slots := 0, locals := 20 }, [(0, .iconst 1, 1, 0, nI 1), (1, .istore_n 2, 2, 0, 0), (2, .iload_n 1, 3, 0, 0), (3, .istore_n 3, 4, 0, 0), (4, .iload_n 2, 5, 0, 0), (5, .ifCond .le 43, 8, 48, 0), (8, .iload_n 2, 9, 0, 0), (9, .aload_n 0, 10, 0, 0), (10, .getfield 23, 13, 37, 0), (13, .iload_n 3, 14, 0, 0), (14, .iaload, 15, 0, 0), (15, .iconst (-1), 16, 0, (-1)), (16, .if_icmp .ne 7, 19, 23, 0), (19, .iconst 1, 20, 0, nI 1), (20, .goto 20, 40, 0, 0), (23, .aload_n 0, 24, 0, 0), (24, .getfield 23, 27, 37, 0), (27, .iload_n 3, 28, 0, 0), (28, .iaload, 29, 0, 0), (29, .invokestatic 71, 32, 154, 0), (32, .ifCond .eq 7, 35, 39, 0), (35, .iconst (-1), 36, 0, (-1)), (36, .goto 4, 40, 0, 0), (39, .iconst 0, 40, 0, nI 0), (40, .iadd, 41, 0, 0), (41, .istore_n 2, 42, 0, 0), (42, .iinc 3 1, 45, 0, nI 1), (45, .goto (-41), 4, 0, 0), (48, .iload_n 3, 49, 0, 0), (49, .ireturn, 50, 0, 0)])
theorem k_Mo_behind : mm_okY Y_Mo_behind := ⟨by decide +kernel, by decide +kernel, rfl, by decide⟩
theorem w_Mo_behind : mm_cw Y_Mo_behind ∈ mm_tbl := mm_in (mm_r4 _ (List.mem_of_getElem? (i := 142) rfl)) rfl
def Y_Mo_isLeaf : mm_Y := ((⟨"LambdaBenchModel", "isLeaf", "(I)Z"⟩, 8), prog_10_method_12_code, 1, (some .boolean), [], { frames := 0, cells := 0, slots := 0, locals := 0 }, [(0, .iload_n 0, 1, 0, 0), (1, .iconst (-1), 2, 0, (-1)), (2, .if_icmp .eq 13, 5, 15, 0), (5, .iload_n 0, 6, 0, 0), (6, .bipush (-2), 8, 0, (-2)), (8, .if_icmp .eq 7, 11, 15, 0), (11, .iconst 1, 12, 0, nI 1), (12, .goto 4, 16, 0, 0), (15, .iconst 0, 16, 0, nI 0), (16, .ireturn, 17, 0, 0)])
theorem k_Mo_isLeaf : mm_okY Y_Mo_isLeaf := ⟨by decide +kernel, by decide +kernel, rfl, by decide⟩
theorem w_Mo_isLeaf : mm_cw Y_Mo_isLeaf ∈ mm_tbl := mm_in (mm_r4 _ (List.mem_of_getElem? (i := 145) rfl)) rfl
def Y_Mo_putBody : mm_Y := ((⟨"LambdaBenchModel", "putBody", "(II)V"⟩, 8), prog_10_method_31_code, 8, none, [], { frames := 3, cells := 0, slots := 0, locals := 70 }, [(0, .aload_n 0, 1, 0, 0), (1, .iload_n 1, 2, 0, 0), (2, .invokevirtual 75, 5, 150, 0), (5, .istore_n 3, 6, 0, 0), (6, .iconst 1, 7, 0, nI 1), (7, .istore 4, 9, 0, 0), (9, .aload_n 0, 10, 0, 0), (10, .getfield 29, 13, 39, 0), (13, .iconst 0, 14, 0, nI 0), (14, .iconst 0, 15, 0, nI 0), (15, .iastore, 16, 0, 0), (16, .iload_n 1, 17, 0, 0), (17, .istore 5, 19, 0, 0), (19, .iload 5, 21, 0, 0), (21, .iload_n 3, 22, 0, 0), (22, .if_icmp .ge 136, 25, 158, 0), (25, .iinc 4 (-1), 28, 0, (-1)), (28, .aload_n 0, 29, 0, 0), (29, .getfield 29, 32, 39, 0), (32, .iload 4, 34, 0, 0), (34, .iaload, 35, 0, 0), (35, .istore 6, 37, 0, 0), (37, .aload_n 0, 38, 0, 0), (38, .getfield 23, 41, 37, 0), (41, .iload 5, 43, 0, 0), (43, .iaload, 44, 0, 0), (44, .istore 7, 46, 0, 0), (46, .iload 7, 48, 0, 0), (48, .iconst (-1), 49, 0, (-1)), (49, .if_icmp .ne 29, 52, 78, 0), (52, .aload_n 0, 53, 0, 0), (53, .getfield 29, 56, 39, 0), (56, .iload 4, 58, 0, 0), (58, .iload 6, 60, 0, 0), (60, .iastore, 61, 0, 0), (61, .aload_n 0, 62, 0, 0), (62, .getfield 29, 65, 39, 0), (65, .iload 4, 67, 0, 0), (67, .iconst 1, 68, 0, nI 1), (68, .iadd, 69, 0, 0), (69, .iload 6, 71, 0, 0), (71, .iastore, 72, 0, 0), (72, .iinc 4 2, 75, 0, nI 2), (75, .goto 24, 99, 0, 0), (78, .iload 7, 80, 0, 0), (80, .bipush (-2), 82, 0, (-2)), (82, .if_icmp .ne 17, 85, 99, 0), (85, .aload_n 0, 86, 0, 0), (86, .getfield 29, 89, 39, 0), (89, .iload 4, 91, 0, 0), (91, .iload 6, 93, 0, 0), (93, .iconst 1, 94, 0, nI 1), (94, .iadd, 95, 0, 0), (95, .iastore, 96, 0, 0), (96, .iinc 4 1, 99, 0, nI 1), (99, .iload 7, 101, 0, 0), (101, .invokestatic 148, 104, 155, 0), (104, .ifCond .eq 20, 107, 124, 0), (107, .iload 7, 109, 0, 0), (109, .iload 6, 111, 0, 0), (111, .if_icmp .ne 13, 114, 124, 0), (114, .aload_n 0, 115, 0, 0), (115, .iload_n 2, 116, 0, 0), (116, .iload 6, 118, 0, 0), (118, .invokevirtual 151, 121, 156, 0), (121, .goto 31, 152, 0, 0), (124, .aload_n 0, 125, 0, 0), (125, .iload 7, 127, 0, 0), (127, .invokestatic 148, 130, 155, 0), (130, .ifCond .eq 17, 133, 147, 0), (133, .iload 7, 135, 0, 0), (135, .iload 6, 137, 0, 0), (137, .if_icmp .le 10, 140, 147, 0), (140, .iload 7, 142, 0, 0), (142, .iconst 1, 143, 0, nI 1), (143, .isub, 144, 0, 0), (144, .goto 5, 149, 0, 0), (147, .iload 7, 149, 0, 0), (149, .invokevirtual 79, 152, 144, 0), (152, .iinc 5 1, 155, 0, nI 1), (155, .goto (-136), 19, 0, 0), (158, .return_, 159, 0, 0)])
theorem k_Mo_putBody : mm_okY Y_Mo_putBody := ⟨by decide +kernel, by decide +kernel, rfl, by decide⟩
theorem w_Mo_putBody : mm_cw Y_Mo_putBody ∈ mm_tbl := mm_in (mm_r4 _ (List.mem_of_getElem? (i := 149) rfl)) rfl
def Y_Mo_isIndex : mm_Y := ((⟨"LambdaBenchModel", "isIndex", "(I)Z"⟩, 8), prog_10_method_13_code, 1, (some .boolean), [], { frames := 1, cells := 0, slots := 0, locals := 22 }, [(0, .iload_n 0, 1, 0, 0), (1, .iconst 0, 2, 0, nI 0), (2, .sipush 9999, 5, 0, nI 9999), (5, .invokestatic 50, 8, 127, 0), (8, .ireturn, 9, 0, 0)])
theorem k_Mo_isIndex : mm_okY Y_Mo_isIndex := ⟨by decide +kernel, by decide +kernel, rfl, by decide⟩
theorem w_Mo_isIndex : mm_cw Y_Mo_isIndex ∈ mm_tbl := mm_in (mm_r4 _ (List.mem_of_getElem? (i := 152) rfl)) rfl
def Y_Mo_putShifted : mm_Y := ((⟨"LambdaBenchModel", "putShifted", "(II)V"⟩, 8), prog_10_method_30_code, 8, none, [], { frames := 2, cells := 0, slots := 0, locals := 43 }, [(0, .aload_n 0, 1, 0, 0), (1, .iload_n 1, 2, 0, 0), (2, .invokevirtual 75, 5, 150, 0), (5, .istore_n 3, 6, 0, 0), (6, .iconst 1, 7, 0, nI 1), (7, .istore 4, 9, 0, 0), (9, .aload_n 0, 10, 0, 0), (10, .getfield 32, 13, 40, 0), (13, .iconst 0, 14, 0, nI 0), (14, .iconst 0, 15, 0, nI 0), (15, .iastore, 16, 0, 0), (16, .iload_n 1, 17, 0, 0), (17, .istore 5, 19, 0, 0), (19, .iload 5, 21, 0, 0), (21, .iload_n 3, 22, 0, 0), (22, .if_icmp .ge 111, 25, 133, 0), (25, .iinc 4 (-1), 28, 0, (-1)), (28, .aload_n 0, 29, 0, 0), (29, .getfield 32, 32, 40, 0), (32, .iload 4, 34, 0, 0), (34, .iaload, 35, 0, 0), (35, .istore 6, 37, 0, 0), (37, .aload_n 0, 38, 0, 0), (38, .getfield 23, 41, 37, 0), (41, .iload 5, 43, 0, 0), (43, .iaload, 44, 0, 0), (44, .istore 7, 46, 0, 0), (46, .iload 7, 48, 0, 0), (48, .iconst (-1), 49, 0, (-1)), (49, .if_icmp .ne 29, 52, 78, 0), (52, .aload_n 0, 53, 0, 0), (53, .getfield 32, 56, 40, 0), (56, .iload 4, 58, 0, 0), (58, .iload 6, 60, 0, 0), (60, .iastore, 61, 0, 0), (61, .aload_n 0, 62, 0, 0), (62, .getfield 32, 65, 40, 0), (65, .iload 4, 67, 0, 0), (67, .iconst 1, 68, 0, nI 1), (68, .iadd, 69, 0, 0), (69, .iload 6, 71, 0, 0), (71, .iastore, 72, 0, 0), (72, .iinc 4 2, 75, 0, nI 2), (75, .goto 24, 99, 0, 0), (78, .iload 7, 80, 0, 0), (80, .bipush (-2), 82, 0, (-2)), (82, .if_icmp .ne 17, 85, 99, 0), (85, .aload_n 0, 86, 0, 0), (86, .getfield 32, 89, 40, 0), (89, .iload 4, 91, 0, 0), (91, .iload 6, 93, 0, 0), (93, .iconst 1, 94, 0, nI 1), (94, .iadd, 95, 0, 0), (95, .iastore, 96, 0, 0), (96, .iinc 4 1, 99, 0, nI 1), (99, .aload_n 0, 100, 0, 0), (100, .iload 7, 102, 0, 0), (102, .invokestatic 148, 105, 155, 0), (105, .ifCond .eq 17, 108, 122, 0), (108, .iload 7, 110, 0, 0), (110, .iload 6, 112, 0, 0), (112, .if_icmp .lt 10, 115, 122, 0), (115, .iload 7, 117, 0, 0), (117, .iload_n 2, 118, 0, 0), (118, .iadd, 119, 0, 0), (119, .goto 5, 124, 0, 0), (122, .iload 7, 124, 0, 0), (124, .invokevirtual 79, 127, 144, 0), (127, .iinc 5 1, 130, 0, nI 1), (130, .goto (-111), 19, 0, 0), (133, .return_, 134, 0, 0)])
theorem k_Mo_putShifted : mm_okY Y_Mo_putShifted := ⟨by decide +kernel, by decide +kernel, rfl, by decide⟩
theorem w_Mo_putShifted : mm_cw Y_Mo_putShifted ∈ mm_tbl := mm_in (mm_r4 _ (List.mem_of_getElem? (i := 156) rfl)) rfl
def Y_Mo_putPart : mm_Y := ((⟨"LambdaBenchModel", "putPart", "(I)V"⟩, 8), prog_10_method_15_code, 4, none, [], { frames := 2, cells := 0, slots := 0, locals := 43 }, [(0, .aload_n 0, 1, 0, 0), (1, .iload_n 1, 2, 0, 0), (2, .invokevirtual 75, 5, 150, 0), (5, .istore_n 2, 6, 0, 0), (6, .iload_n 1, 7, 0, 0), (7, .istore_n 3, 8, 0, 0), (8, .iload_n 3, 9, 0, 0), (9, .iload_n 2, 10, 0, 0), (10, .if_icmp .ge 19, 13, 29, 0), (13, .aload_n 0, 14, 0, 0), (14, .aload_n 0, 15, 0, 0), (15, .getfield 23, 18, 37, 0), (18, .iload_n 3, 19, 0, 0), (19, .iaload, 20, 0, 0), (20, .invokevirtual 79, 23, 144, 0), (23, .iinc 3 1, 26, 0, nI 1), (26, .goto (-18), 8, 0, 0), (29, .return_, 30, 0, 0)])
theorem k_Mo_putPart : mm_okY Y_Mo_putPart := ⟨by decide +kernel, by decide +kernel, rfl, by decide⟩
theorem w_Mo_putPart : mm_cw Y_Mo_putPart ∈ mm_tbl := mm_in (mm_r4 _ (List.mem_of_getElem? (i := 160) rfl)) rfl
def Y_Mo_spread : mm_Y := ((⟨"LambdaBenchModel", "spread", "(I)V"⟩, 8), prog_10_method_34_code, 5, none, [], { frames := 3, cells := 0, slots := 0, locals := 66 }, [(0, .iload_n 1, 1, 0, 0), (1, .iconst 4, 2, 0, nI 4), (2, .iadd, 3, 0, 0), (3, .istore_n 2, 4, 0, 0), (4, .aload_n 0, 5, 0, 0), (5, .iload_n 2, 6, 0, 0), (6, .invokevirtual 75, 9, 150, 0), (9, .istore_n 3, 10, 0, 0), (10, .aload_n 0, 11, 0, 0), (11, .iload_n 3, 12, 0, 0), (12, .invokevirtual 75, 15, 150, 0), (15, .istore 4, 17, 0, 0), (17, .aload_n 0, 18, 0, 0), (18, .iconst (-1), 19, 0, (-1)), (19, .invokevirtual 79, 22, 144, 0), (22, .aload_n 0, 23, 0, 0), (23, .iconst (-1), 24, 0, (-1)), (24, .invokevirtual 79, 27, 144, 0), (27, .aload_n 0, 28, 0, 0), (28, .iload_n 2, 29, 0, 0), (29, .invokevirtual 164, 32, 152, 0), (32, .aload_n 0, 33, 0, 0), (33, .iload 4, 35, 0, 0), (35, .invokevirtual 164, 38, 152, 0), (38, .aload_n 0, 39, 0, 0), (39, .iconst (-1), 40, 0, (-1)), (40, .invokevirtual 79, 43, 144, 0), (43, .aload_n 0, 44, 0, 0), (44, .iload_n 3, 45, 0, 0), (45, .invokevirtual 164, 48, 152, 0), (48, .aload_n 0, 49, 0, 0), (49, .iload 4, 51, 0, 0), (51, .invokevirtual 164, 54, 152, 0), (54, .return_, 55, 0, 0)])
theorem k_Mo_spread : mm_okY Y_Mo_spread := ⟨by decide +kernel, by decide +kernel, rfl, by decide⟩
theorem w_Mo_spread : mm_cw Y_Mo_spread ∈ mm_tbl := mm_in (mm_r4 _ (List.mem_of_getElem? (i := 164) rfl)) rfl
def Y_Mo_how : mm_Y := ((⟨"LambdaBenchModel", "how", "()I"⟩, 8), prog_10_method_38_code, 1, (some .int), [], { frames := 0, cells := 0, slots := 0, locals := 0 }, [(0, .aload_n 0, 1, 0, 0), (1, .iconst 0, 2, 0, nI 0), (2, .putfield 47, 5, 45, 0), (5, .aload_n 0, 6, 0, 0), (6, .getfield 170, 9, 56, 0), (9, .ireturn, 10, 0, 0)])
theorem k_Mo_how : mm_okY Y_Mo_how := ⟨by decide +kernel, by decide +kernel, rfl, by decide⟩
theorem w_Mo_how : mm_cw Y_Mo_how ∈ mm_tbl := mm_in (mm_r4 _ (List.mem_of_getElem? (i := 168) rfl)) rfl
def Y_Mo_numeral2 : mm_Y := ((⟨"LambdaBenchModel", "numeral", "(II)I"⟩, 8), prog_10_method_39_code, 5, (some .int), [], { frames := 6, cells := 0, slots := 0, locals := 142 }, [(0, .iload_n 1, 1, 0, 0), (1, .invokestatic 136, 4, 129, 0), (4, .ifCond .eq 14, 7, 18, 0), (7, .iload_n 2, 8, 0, 0), (8, .iconst 1, 9, 0, nI 1), (9, .sipush 400, 12, 0, nI 400), (12, .invokestatic 50, 15, 127, 0), (15, .ifCond .ne 7, 18, 22, 0), (18, .iconst 1, 19, 0, nI 1), (19, .goto 4, 23, 0, 0), (22, .iconst 0, 23, 0, nI 0), (23, .istore_n 3, 24, 0, 0), (24, .aload_n 0, 25, 0, 0), (25, .iload_n 3, 26, 0, 0), (26, .iload_n 3, 27, 0, 0), (27, .ifCond .ne 30, 30, 57, 0), (30, .aload_n 0, 31, 0, 0), (31, .getfield 20, 34, 36, 0), (34, .iload_n 1, 35, 0, 0), (35, .iaload, 36, 0, 0), (36, .ifCond .eq 17, 39, 53, 0), (39, .aload_n 0, 40, 0, 0), (40, .getfield 20, 43, 36, 0), (43, .iload_n 1, 44, 0, 0), (44, .iaload, 45, 0, 0), (45, .iconst 4, 46, 0, nI 4), (46, .iadd, 47, 0, 0), (47, .sipush 2000, 50, 0, nI 2000), (50, .if_icmp .le 7, 53, 57, 0), (53, .iconst 1, 54, 0, nI 1), (54, .goto 4, 58, 0, 0), (57, .iconst 0, 58, 0, nI 0), (58, .invokevirtual 57, 61, 128, 0), (61, .ifCond .eq 5, 64, 66, 0), (64, .iconst 0, 65, 0, nI 0), (65, .ireturn, 66, 0, 0), (66, .aload_n 0, 67, 0, 0), (67, .iload_n 1, 68, 0, 0), (68, .invokevirtual 176, 71, 145, 0), (71, .aload_n 0, 72, 0, 0), (72, .invokevirtual 126, 75, 133, 0), (75, .aload_n 0, 76, 0, 0), (76, .iconst (-1), 77, 0, (-1)), (77, .invokevirtual 79, 80, 144, 0), (80, .aload_n 0, 81, 0, 0), (81, .iconst (-1), 82, 0, (-1)), (82, .invokevirtual 79, 85, 144, 0), (85, .iconst 0, 86, 0, nI 0), (86, .istore 4, 88, 0, 0), (88, .iload 4, 90, 0, 0), (90, .aload_n 0, 91, 0, 0), (91, .getfield 61, 94, 50, 0), (94, .if_icmp .ge 20, 97, 114, 0), (97, .aload_n 0, 98, 0, 0), (98, .aload_n 0, 99, 0, 0), (99, .getfield 23, 102, 37, 0), (102, .iload 4, 104, 0, 0), (104, .iaload, 105, 0, 0), (105, .invokevirtual 79, 108, 144, 0), (108, .iinc 4 1, 111, 0, nI 1), (111, .goto (-23), 88, 0, 0), (114, .aload_n 0, 115, 0, 0), (115, .sipush 10000, 118, 0, nI 10000), (118, .invokevirtual 79, 121, 144, 0), (121, .aload_n 0, 122, 0, 0), (122, .sipush 10001, 125, 0, nI 10001), (125, .invokevirtual 79, 128, 144, 0), (128, .aload_n 0, 129, 0, 0), (129, .invokevirtual 142, 132, 131, 0), (132, .aload_n 0, 133, 0, 0), (133, .iload_n 2, 134, 0, 0), (134, .invokevirtual 179, 137, 147, 0), (137, .pop, 138, 0, 0), (138, .aload_n 0, 139, 0, 0), (139, .getfield 170, 142, 56, 0), (142, .iconst 1, 143, 0, nI 1), (143, .if_icmp .eq 6, 146, 149, 0), (146, .bipush (-2), 148, 0, (-2)), (148, .ireturn, 149, 0, 0), (149, .iconst 0, 150, 0, nI 0), (150, .istore 4, 152, 0, 0), (152, .aload_n 0, 153, 0, 0), (153, .getfield 23, 156, 37, 0), (156, .iload 4, 158, 0, 0), (158, .iaload, 159, 0, 0), (159, .iconst (-1), 160, 0, (-1)), (160, .if_icmp .ne 24, 163, 184, 0), (163, .aload_n 0, 164, 0, 0), (164, .getfield 23, 167, 37, 0), (167, .iload 4, 169, 0, 0), (169, .iconst 1, 170, 0, nI 1), (170, .iadd, 171, 0, 0), (171, .iaload, 172, 0, 0), (172, .sipush 10000, 175, 0, nI 10000), (175, .if_icmp .ne 9, 178, 184, 0), (178, .iinc 4 2, 181, 0, nI 2), (181, .goto (-29), 152, 0, 0), (184, .aload_n 0, 185, 0, 0), (185, .getfield 23, 188, 37, 0), (188, .iload 4, 190, 0, 0), (190, .iaload, 191, 0, 0), (191, .sipush 10001, 194, 0, nI 10001), (194, .if_icmp .ne 10, 197, 204, 0), (197, .iload 4, 199, 0, 0), (199, .iconst 2, 200, 0, nI 2), (200, .idiv, 201, 0, 0), (201, .goto 4, 205, 0, 0), (204, .iconst (-1), 205, 0, (-1)), (205, .ireturn, 206, 0, 0)])
theorem k_Mo_numeral2 : mm_okY Y_Mo_numeral2 := ⟨by decide +kernel, by decide +kernel, rfl, by decide⟩
theorem w_Mo_numeral2 : mm_cw Y_Mo_numeral2 ∈ mm_tbl := mm_in (mm_r4 _ (List.mem_of_getElem? (i := 172) rfl)) rfl
def Y_Mo_abstracted : mm_Y := ((⟨"LambdaBenchModel", "abstracted", "(I)I"⟩, 8), prog_10_method_43_code, 4, (some .int), [], { frames := 4, cells := 0, slots := 0, locals := 92 }, [(0, .iload_n 1, 1, 0, 0), (1, .invokestatic 136, 4, 129, 0), (4, .ifCond .ne 7, 7, 11, 0), (7, .iconst 1, 8, 0, nI 1), (8, .goto 4, 12, 0, 0), (11, .iconst 0, 12, 0, nI 0), (12, .istore_n 2, 13, 0, 0), (13, .aload_n 0, 14, 0, 0), (14, .iload_n 2, 15, 0, 0), (15, .iload_n 2, 16, 0, 0), (16, .ifCond .ne 16, 19, 32, 0), (19, .aload_n 0, 20, 0, 0), (20, .getfield 20, 23, 36, 0), (23, .iload_n 1, 24, 0, 0), (24, .iaload, 25, 0, 0), (25, .ifCond .ne 7, 28, 32, 0), (28, .iconst 1, 29, 0, nI 1), (29, .goto 4, 33, 0, 0), (32, .iconst 0, 33, 0, nI 0), (33, .invokevirtual 57, 36, 128, 0), (36, .ifCond .eq 5, 39, 41, 0), (39, .iconst 0, 40, 0, nI 0), (40, .ireturn, 41, 0, 0), (41, .aload_n 0, 42, 0, 0), (42, .iload_n 1, 43, 0, 0), (43, .invokevirtual 176, 46, 145, 0), (46, .aload_n 0, 47, 0, 0), (47, .iconst 0, 48, 0, nI 0), (48, .putfield 64, 51, 49, 0), (51, .iconst 1, 52, 0, nI 1), (52, .istore_n 3, 53, 0, 0), (53, .iload_n 3, 54, 0, 0), (54, .ifCond .eq 11, 57, 65, 0), (57, .aload_n 0, 58, 0, 0), (58, .invokevirtual 188, 61, 157, 0), (61, .istore_n 3, 62, 0, 0), (62, .goto (-9), 53, 0, 0), (65, .aload_n 0, 66, 0, 0), (66, .iconst 0, 67, 0, nI 0), (67, .aload_n 0, 68, 0, 0), (68, .getfield 64, 71, 49, 0), (71, .invokevirtual 57, 74, 128, 0), (74, .ifCond .eq 5, 77, 79, 0), (77, .iconst 0, 78, 0, nI 0), (78, .ireturn, 79, 0, 0), (79, .aload_n 0, 80, 0, 0), (80, .iload_n 1, 81, 0, 0), (81, .invokevirtual 145, 84, 132, 0), (84, .aload_n 0, 85, 0, 0), (85, .getfield 61, 88, 50, 0), (88, .ireturn, 89, 0, 0)])
theorem k_Mo_abstracted : mm_okY Y_Mo_abstracted := ⟨by decide +kernel, by decide +kernel, rfl, by decide⟩
theorem w_Mo_abstracted : mm_cw Y_Mo_abstracted ∈ mm_tbl := mm_in (mm_r4 _ (List.mem_of_getElem? (i := 176) rfl)) rfl
def Y_Mo_abstractOne : mm_Y := ((⟨"LambdaBenchModel", "abstractOne", "()Z"⟩, 8), prog_10_method_42_code, 6, (some .boolean), [], { frames := 3, cells := 0, slots := 0, locals := 67 }, [(0, .aload_n 0, 1, 0, 0), (1, .getfield 61, 4, 50, 0), (4, .iconst 1, 5, 0, nI 1), (5, .isub, 6, 0, 0), (6, .istore_n 1, 7, 0, 0), (7, .iload_n 1, 8, 0, 0), (8, .ifCond .lt 20, 11, 28, 0), (11, .aload_n 0, 12, 0, 0), (12, .getfield 23, 15, 37, 0), (15, .iload_n 1, 16, 0, 0), (16, .iaload, 17, 0, 0), (17, .bipush (-2), 19, 0, (-2)), (19, .if_icmp .eq 9, 22, 28, 0), (22, .iinc 1 (-1), 25, 0, (-1)), (25, .goto (-18), 7, 0, 0), (28, .iload_n 1, 29, 0, 0), (29, .ifCond .ge 5, 32, 34, 0), (32, .iconst 0, 33, 0, nI 0), (33, .ireturn, 34, 0, 0), (34, .aload_n 0, 35, 0, 0), (35, .invokevirtual 126, 38, 133, 0), (38, .iconst 0, 39, 0, nI 0), (39, .istore_n 2, 40, 0, 0), (40, .iload_n 2, 41, 0, 0), (41, .iload_n 1, 42, 0, 0), (42, .if_icmp .ge 19, 45, 61, 0), (45, .aload_n 0, 46, 0, 0), (46, .aload_n 0, 47, 0, 0), (47, .getfield 23, 50, 37, 0), (50, .iload_n 2, 51, 0, 0), (51, .iaload, 52, 0, 0), (52, .invokevirtual 79, 55, 144, 0), (55, .iinc 2 1, 58, 0, nI 1), (58, .goto (-18), 40, 0, 0), (61, .iconst 1, 62, 0, nI 1), (62, .istore_n 2, 63, 0, 0), (63, .aload_n 0, 64, 0, 0), (64, .getfield 32, 67, 40, 0), (67, .iconst 0, 68, 0, nI 0), (68, .iload_n 1, 69, 0, 0), (69, .iconst 1, 70, 0, nI 1), (70, .iadd, 71, 0, 0), (71, .iastore, 72, 0, 0), (72, .iload_n 2, 73, 0, 0), (73, .ifCond .le 142, 76, 215, 0), (76, .iinc 2 (-1), 79, 0, (-1)), (79, .aload_n 0, 80, 0, 0), (80, .getfield 32, 83, 40, 0), (83, .iload_n 2, 84, 0, 0), (84, .iaload, 85, 0, 0), (85, .istore_n 3, 86, 0, 0), (86, .aload_n 0, 87, 0, 0), (87, .getfield 23, 90, 37, 0), (90, .iload_n 3, 91, 0, 0), (91, .iaload, 92, 0, 0), (92, .ifCond .ne 13, 95, 105, 0), (95, .aload_n 0, 96, 0, 0), (96, .sipush 20003, 99, 0, nI 20003), (99, .invokevirtual 79, 102, 144, 0), (102, .goto 110, 212, 0, 0), (105, .aload_n 0, 106, 0, 0), (106, .iload_n 3, 107, 0, 0), (107, .invokevirtual 182, 110, 158, 0), (110, .ifCond .ne 23, 113, 133, 0), (113, .aload_n 0, 114, 0, 0), (114, .iconst (-1), 115, 0, (-1)), (115, .invokevirtual 79, 118, 144, 0), (118, .aload_n 0, 119, 0, 0), (119, .sipush 20002, 122, 0, nI 20002), (122, .invokevirtual 79, 125, 144, 0), (125, .aload_n 0, 126, 0, 0), (126, .iload_n 3, 127, 0, 0), (127, .invokevirtual 185, 130, 159, 0), (130, .goto 82, 212, 0, 0), (133, .iload_n 3, 134, 0, 0), (134, .iconst 1, 135, 0, nI 1), (135, .iadd, 136, 0, 0), (136, .istore 4, 138, 0, 0), (138, .aload_n 0, 139, 0, 0), (139, .iload 4, 141, 0, 0), (141, .invokevirtual 75, 144, 150, 0), (144, .istore 5, 146, 0, 0), (146, .aload_n 0, 147, 0, 0), (147, .getfield 23, 150, 37, 0), (150, .iload 5, 152, 0, 0), (152, .iaload, 153, 0, 0), (153, .ifCond .ne 21, 156, 174, 0), (156, .aload_n 0, 157, 0, 0), (157, .iload 4, 159, 0, 0), (159, .invokevirtual 182, 162, 158, 0), (162, .ifCond .ne 12, 165, 174, 0), (165, .aload_n 0, 166, 0, 0), (166, .iload 4, 168, 0, 0), (168, .invokevirtual 185, 171, 159, 0), (171, .goto 41, 212, 0, 0), (174, .aload_n 0, 175, 0, 0), (175, .iconst (-1), 176, 0, (-1)), (176, .invokevirtual 79, 179, 144, 0), (179, .aload_n 0, 180, 0, 0), (180, .iconst (-1), 181, 0, (-1)), (181, .invokevirtual 79, 184, 144, 0), (184, .aload_n 0, 185, 0, 0), (185, .sipush 20001, 188, 0, nI 20001), (188, .invokevirtual 79, 191, 144, 0), (191, .aload_n 0, 192, 0, 0), (192, .getfield 32, 195, 40, 0), (195, .iload_n 2, 196, 0, 0), (196, .iload 5, 198, 0, 0), (198, .iastore, 199, 0, 0), (199, .aload_n 0, 200, 0, 0), (200, .getfield 32, 203, 40, 0), (203, .iload_n 2, 204, 0, 0), (204, .iconst 1, 205, 0, nI 1), (205, .iadd, 206, 0, 0), (206, .iload 4, 208, 0, 0), (208, .iastore, 209, 0, 0), (209, .iinc 2 2, 212, 0, nI 2), (212, .goto (-140), 72, 0, 0), (215, .aload_n 0, 216, 0, 0), (216, .iload_n 1, 217, 0, 0), (217, .invokevirtual 75, 220, 150, 0), (220, .istore_n 3, 221, 0, 0), (221, .iload_n 3, 222, 0, 0), (222, .aload_n 0, 223, 0, 0), (223, .getfield 61, 226, 50, 0), (226, .if_icmp .ge 19, 229, 245, 0), (229, .aload_n 0, 230, 0, 0), (230, .aload_n 0, 231, 0, 0), (231, .getfield 23, 234, 37, 0), (234, .iload_n 3, 235, 0, 0), (235, .iaload, 236, 0, 0), (236, .invokevirtual 79, 239, 144, 0), (239, .iinc 3 1, 242, 0, nI 1), (242, .goto (-21), 221, 0, 0), (245, .aload_n 0, 246, 0, 0), (246, .getfield 64, 249, 49, 0), (249, .ifCond .ne 7, 252, 256, 0), (252, .aload_n 0, 253, 0, 0), (253, .invokevirtual 142, 256, 131, 0), (256, .aload_n 0, 257, 0, 0), (257, .getfield 64, 260, 49, 0), (260, .ifCond .ne 7, 263, 267, 0), (263, .iconst 1, 264, 0, nI 1), (264, .goto 4, 268, 0, 0), (267, .iconst 0, 268, 0, nI 0), (268, .ireturn, 269, 0, 0)])
theorem k_Mo_abstractOne : mm_okY Y_Mo_abstractOne := ⟨by decide +kernel, by decide +kernel, rfl, by decide⟩
theorem w_Mo_abstractOne : mm_cw Y_Mo_abstractOne ∈ mm_tbl := mm_in (mm_r4 _ (List.mem_of_getElem? (i := 180) rfl)) rfl
def Y_Mo_isIn : mm_Y := ((⟨"LambdaBenchModel", "isIn", "(I)Z"⟩, 8), prog_10_method_40_code, 5, (some .boolean), [], { frames := 2, cells := 0, slots := 0, locals := 43 }, [(0, .aload_n 0, 1, 0, 0), (1, .iload_n 1, 2, 0, 0), (2, .invokevirtual 75, 5, 150, 0), (5, .istore_n 2, 6, 0, 0), (6, .iconst 0, 7, 0, nI 0), (7, .istore_n 3, 8, 0, 0), (8, .iload_n 1, 9, 0, 0), (9, .istore 4, 11, 0, 0), (11, .iload 4, 13, 0, 0), (13, .iload_n 2, 14, 0, 0), (14, .if_icmp .ge 29, 17, 43, 0), (17, .iload_n 3, 18, 0, 0), (18, .ifCond .ne 13, 21, 31, 0), (21, .aload_n 0, 22, 0, 0), (22, .getfield 23, 25, 37, 0), (25, .iload 4, 27, 0, 0), (27, .iaload, 28, 0, 0), (28, .ifCond .ne 7, 31, 35, 0), (31, .iconst 1, 32, 0, nI 1), (32, .goto 4, 36, 0, 0), (35, .iconst 0, 36, 0, nI 0), (36, .istore_n 3, 37, 0, 0), (37, .iinc 4 1, 40, 0, nI 1), (40, .goto (-29), 11, 0, 0), (43, .iload_n 3, 44, 0, 0), (44, .ireturn, 45, 0, 0)])
theorem k_Mo_isIn : mm_okY Y_Mo_isIn := ⟨by decide +kernel, by decide +kernel, rfl, by decide⟩
theorem w_Mo_isIn : mm_cw Y_Mo_isIn ∈ mm_tbl := mm_in (mm_r4 _ (List.mem_of_getElem? (i := 184) rfl)) rfl
def Y_Mo_putLess : mm_Y := ((⟨"LambdaBenchModel", "putLess", "(I)V"⟩, 8), prog_10_method_41_code, 4, none, [], { frames := 2, cells := 0, slots := 0, locals := 43 }, [(0, .aload_n 0, 1, 0, 0), (1, .iload_n 1, 2, 0, 0), (2, .invokevirtual 75, 5, 150, 0), (5, .istore_n 2, 6, 0, 0), (6, .iload_n 1, 7, 0, 0), (7, .istore_n 3, 8, 0, 0), (8, .iload_n 3, 9, 0, 0), (9, .iload_n 2, 10, 0, 0), (10, .if_icmp .ge 42, 13, 52, 0), (13, .aload_n 0, 14, 0, 0), (14, .aload_n 0, 15, 0, 0), (15, .getfield 23, 18, 37, 0), (18, .iload_n 3, 19, 0, 0), (19, .iaload, 20, 0, 0), (20, .invokestatic 148, 23, 155, 0), (23, .ifCond .eq 14, 26, 37, 0), (26, .aload_n 0, 27, 0, 0), (27, .getfield 23, 30, 37, 0), (30, .iload_n 3, 31, 0, 0), (31, .iaload, 32, 0, 0), (32, .iconst 1, 33, 0, nI 1), (33, .isub, 34, 0, 0), (34, .goto 9, 43, 0, 0), (37, .aload_n 0, 38, 0, 0), (38, .getfield 23, 41, 37, 0), (41, .iload_n 3, 42, 0, 0), (42, .iaload, 43, 0, 0), (43, .invokevirtual 79, 46, 144, 0), (46, .iinc 3 1, 49, 0, nI 1), (49, .goto (-41), 8, 0, 0), (52, .return_, 53, 0, 0)])
theorem k_Mo_putLess : mm_okY Y_Mo_putLess := ⟨by decide +kernel, by decide +kernel, rfl, by decide⟩
theorem w_Mo_putLess : mm_cw Y_Mo_putLess ∈ mm_tbl := mm_in (mm_r4 _ (List.mem_of_getElem? (i := 188) rfl)) rfl
def Y_Mo_size : mm_Y := ((⟨"LambdaBenchModel", "size", "(I)I"⟩, 8), prog_10_method_44_code, 2, (some .int), [], { frames := 2, cells := 0, slots := 0, locals := 42 }, [(0, .aload_n 0, 1, 0, 0), (1, .iload_n 1, 2, 0, 0), (2, .invokestatic 136, 5, 129, 0), (5, .ifCond .ne 7, 8, 12, 0), (8, .iconst 1, 9, 0, nI 1), (9, .goto 4, 13, 0, 0), (12, .iconst 0, 13, 0, nI 0), (13, .iconst 0, 14, 0, nI 0), (14, .invokevirtual 57, 17, 128, 0), (17, .ifCond .eq 5, 20, 22, 0), (20, .iconst 0, 21, 0, nI 0), (21, .ireturn, 22, 0, 0), (22, .aload_n 0, 23, 0, 0), (23, .getfield 20, 26, 36, 0), (26, .iload_n 1, 27, 0, 0), (27, .iaload, 28, 0, 0), (28, .ireturn, 29, 0, 0)])
theorem k_Mo_size : mm_okY Y_Mo_size := ⟨by decide +kernel, by decide +kernel, rfl, by decide⟩
theorem w_Mo_size : mm_cw Y_Mo_size ∈ mm_tbl := mm_in (mm_r4 _ (List.mem_of_getElem? (i := 192) rfl)) rfl
def Y_Mo_print : mm_Y := ((⟨"LambdaBenchModel", "print", "(II)I"⟩, 8), prog_10_method_45_code, 5, (some .int), [], { frames := 2, cells := 0, slots := 0, locals := 42 }, [(0, .iload_n 1, 1, 0, 0), (1, .invokestatic 136, 4, 129, 0), (4, .ifCond .ne 7, 7, 11, 0), (7, .iconst 1, 8, 0, nI 1), (8, .goto 4, 12, 0, 0), (11, .iconst 0, 12, 0, nI 0), (12, .istore_n 3, 13, 0, 0), (13, .aload_n 0, 14, 0, 0), (14, .iload_n 3, 15, 0, 0), (15, .iload_n 3, 16, 0, 0), (16, .ifCond .ne 23, 19, 39, 0), (19, .iload_n 2, 20, 0, 0), (20, .iconst 0, 21, 0, nI 0), (21, .aload_n 0, 22, 0, 0), (22, .getfield 20, 25, 36, 0), (25, .iload_n 1, 26, 0, 0), (26, .iaload, 27, 0, 0), (27, .iconst 1, 28, 0, nI 1), (28, .isub, 29, 0, 0), (29, .invokestatic 50, 32, 127, 0), (32, .ifCond .ne 7, 35, 39, 0), (35, .iconst 1, 36, 0, nI 1), (36, .goto 4, 40, 0, 0), (39, .iconst 0, 40, 0, nI 0), (40, .invokevirtual 57, 43, 128, 0), (43, .ifCond .eq 5, 46, 48, 0), (46, .iconst 0, 47, 0, nI 0), (47, .ireturn, 48, 0, 0), (48, .aload_n 0, 49, 0, 0), (49, .getfield 17, 52, 35, 0), (52, .sipush 2000, 55, 0, nI 2000), (55, .iload_n 1, 56, 0, 0), (56, .imul, 57, 0, 0), (57, .iload_n 2, 58, 0, 0), (58, .iadd, 59, 0, 0), (59, .iaload, 60, 0, 0), (60, .istore 4, 62, 0, 0), (62, .iload 4, 64, 0, 0), (64, .iconst (-1), 65, 0, (-1)), (65, .if_icmp .ne 6, 68, 71, 0), (68, .bipush 64, 70, 0, nI 64), (70, .ireturn, 71, 0, 0), (71, .iload 4, 73, 0, 0), (73, .bipush (-2), 75, 0, (-2)), (75, .if_icmp .ne 6, 78, 81, 0), (78, .bipush 92, 80, 0, nI 92), (80, .ireturn, 81, 0, 0), (81, .iload 4, 83, 0, 0), (83, .sipush 20001, 86, 0, nI 20001), (86, .if_icmp .lt 32, 89, 118, 0), (89, .iload 4, 91, 0, 0), (91, .sipush 20001, 94, 0, nI 20001), (94, .if_icmp .ne 8, 97, 102, 0), (97, .bipush 83, 99, 0, nI 83), (99, .goto 18, 117, 0, 0), (102, .iload 4, 104, 0, 0), (104, .sipush 20002, 107, 0, nI 20002), (107, .if_icmp .ne 8, 110, 115, 0), (110, .bipush 75, 112, 0, nI 75), (112, .goto 5, 117, 0, 0), (115, .bipush 73, 117, 0, nI 73), (117, .ireturn, 118, 0, 0), (118, .iload 4, 120, 0, 0), (120, .sipush 10000, 123, 0, nI 10000), (123, .if_icmp .lt 12, 126, 135, 0), (126, .iload 4, 128, 0, 0), (128, .sipush 10000, 131, 0, nI 10000), (131, .isub, 132, 0, 0), (132, .goto 20, 152, 0, 0), (135, .bipush 48, 137, 0, nI 48), (137, .iload 4, 139, 0, 0), (139, .bipush 99, 141, 0, nI 99), (141, .if_icmp .ge 8, 144, 149, 0), (144, .iload 4, 146, 0, 0), (146, .goto 5, 151, 0, 0), (149, .bipush 99, 151, 0, nI 99), (151, .iadd, 152, 0, 0), (152, .ireturn, 153, 0, 0)])
theorem k_Mo_print : mm_okY Y_Mo_print := ⟨by decide +kernel, by decide +kernel, rfl, by decide⟩
theorem w_Mo_print : mm_cw Y_Mo_print ∈ mm_tbl := mm_in (mm_r4 _ (List.mem_of_getElem? (i := 196) rfl)) rfl
def Y_Mo_copy : mm_Y := ((⟨"LambdaBenchModel", "copy", "(II)V"⟩, 8), prog_10_method_46_code, 3, none, [], { frames := 2, cells := 0, slots := 0, locals := 42 }, [(0, .aload_n 0, 1, 0, 0), (1, .iload_n 1, 2, 0, 0), (2, .invokestatic 136, 5, 129, 0), (5, .ifCond .eq 10, 8, 15, 0), (8, .iload_n 2, 9, 0, 0), (9, .invokestatic 136, 12, 129, 0), (12, .ifCond .ne 7, 15, 19, 0), (15, .iconst 1, 16, 0, nI 1), (16, .goto 4, 20, 0, 0), (19, .iconst 0, 20, 0, nI 0), (20, .iconst 0, 21, 0, nI 0), (21, .invokevirtual 57, 24, 128, 0), (24, .ifCond .eq 4, 27, 28, 0), (27, .return_, 28, 0, 0), (28, .aload_n 0, 29, 0, 0), (29, .iload_n 1, 30, 0, 0), (30, .invokevirtual 176, 33, 145, 0), (33, .aload_n 0, 34, 0, 0), (34, .iload_n 2, 35, 0, 0), (35, .invokevirtual 145, 38, 132, 0), (38, .return_, 39, 0, 0)])
theorem k_Mo_copy : mm_okY Y_Mo_copy := ⟨by decide +kernel, by decide +kernel, rfl, by decide⟩
theorem w_Mo_copy : mm_cw Y_Mo_copy ∈ mm_tbl := mm_in (mm_r4 _ (List.mem_of_getElem? (i := 200) rfl)) rfl
def Y_Mo_apply : mm_Y := ((⟨"LambdaBenchModel", "apply", "(III)I"⟩, 8), prog_10_method_47_code, 6, (some .int), [], { frames := 2, cells := 0, slots := 0, locals := 42 }, [(0, .iload_n 1, 1, 0, 0), (1, .invokestatic 136, 4, 129, 0), (4, .ifCond .eq 17, 7, 21, 0), (7, .iload_n 2, 8, 0, 0), (8, .invokestatic 136, 11, 129, 0), (11, .ifCond .eq 10, 14, 21, 0), (14, .iload_n 3, 15, 0, 0), (15, .invokestatic 136, 18, 129, 0), (18, .ifCond .ne 7, 21, 25, 0), (21, .iconst 1, 22, 0, nI 1), (22, .goto 4, 26, 0, 0), (25, .iconst 0, 26, 0, nI 0), (26, .istore 4, 28, 0, 0), (28, .aload_n 0, 29, 0, 0), (29, .iload 4, 31, 0, 0), (31, .iload 4, 33, 0, 0), (33, .ifCond .ne 46, 36, 79, 0), (36, .aload_n 0, 37, 0, 0), (37, .getfield 20, 40, 36, 0), (40, .iload_n 1, 41, 0, 0), (41, .iaload, 42, 0, 0), (42, .ifCond .eq 33, 45, 75, 0), (45, .aload_n 0, 46, 0, 0), (46, .getfield 20, 49, 36, 0), (49, .iload_n 2, 50, 0, 0), (50, .iaload, 51, 0, 0), (51, .ifCond .eq 24, 54, 75, 0), (54, .iconst 1, 55, 0, nI 1), (55, .aload_n 0, 56, 0, 0), (56, .getfield 20, 59, 36, 0), (59, .iload_n 1, 60, 0, 0), (60, .iaload, 61, 0, 0), (61, .iadd, 62, 0, 0), (62, .aload_n 0, 63, 0, 0), (63, .getfield 20, 66, 36, 0), (66, .iload_n 2, 67, 0, 0), (67, .iaload, 68, 0, 0), (68, .iadd, 69, 0, 0), (69, .sipush 2000, 72, 0, nI 2000), (72, .if_icmp .le 7, 75, 79, 0), (75, .iconst 1, 76, 0, nI 1), (76, .goto 4, 80, 0, 0), (79, .iconst 0, 80, 0, nI 0), (80, .invokevirtual 57, 83, 128, 0), (83, .ifCond .eq 5, 86, 88, 0), (86, .iconst 0, 87, 0, nI 0), (87, .ireturn, 88, 0, 0), (88, .aload_n 0, 89, 0, 0), (89, .invokevirtual 126, 92, 133, 0), (92, .aload_n 0, 93, 0, 0), (93, .iconst (-1), 94, 0, (-1)), (94, .invokevirtual 79, 97, 144, 0), (97, .iconst 0, 98, 0, nI 0), (98, .istore 5, 100, 0, 0), (100, .iload 5, 102, 0, 0), (102, .aload_n 0, 103, 0, 0), (103, .getfield 20, 106, 36, 0), (106, .iload_n 1, 107, 0, 0), (107, .iaload, 108, 0, 0), (108, .if_icmp .ge 26, 111, 134, 0), (111, .aload_n 0, 112, 0, 0), (112, .aload_n 0, 113, 0, 0), (113, .getfield 17, 116, 35, 0), (116, .sipush 2000, 119, 0, nI 2000), (119, .iload_n 1, 120, 0, 0), (120, .imul, 121, 0, 0), (121, .iload 5, 123, 0, 0), (123, .iadd, 124, 0, 0), (124, .iaload, 125, 0, 0), (125, .invokevirtual 79, 128, 144, 0), (128, .iinc 5 1, 131, 0, nI 1), (131, .goto (-31), 100, 0, 0), (134, .iconst 0, 135, 0, nI 0), (135, .istore 5, 137, 0, 0), (137, .iload 5, 139, 0, 0), (139, .aload_n 0, 140, 0, 0), (140, .getfield 20, 143, 36, 0), (143, .iload_n 2, 144, 0, 0), (144, .iaload, 145, 0, 0), (145, .if_icmp .ge 26, 148, 171, 0), (148, .aload_n 0, 149, 0, 0), (149, .aload_n 0, 150, 0, 0), (150, .getfield 17, 153, 35, 0), (153, .sipush 2000, 156, 0, nI 2000), (156, .iload_n 2, 157, 0, 0), (157, .imul, 158, 0, 0), (158, .iload 5, 160, 0, 0), (160, .iadd, 161, 0, 0), (161, .iaload, 162, 0, 0), (162, .invokevirtual 79, 165, 144, 0), (165, .iinc 5 1, 168, 0, nI 1), (168, .goto (-31), 137, 0, 0), (171, .aload_n 0, 172, 0, 0), (172, .invokevirtual 142, 175, 131, 0), (175, .aload_n 0, 176, 0, 0), (176, .iload_n 3, 177, 0, 0), (177, .invokevirtual 145, 180, 132, 0), (180, .aload_n 0, 181, 0, 0), (181, .getfield 61, 184, 50, 0), (184, .ireturn, 185, 0, 0)])
theorem k_Mo_apply : mm_okY Y_Mo_apply := ⟨by decide +kernel, by decide +kernel, rfl, by decide⟩
theorem w_Mo_apply : mm_cw Y_Mo_apply ∈ mm_tbl := mm_in (mm_r4 _ (List.mem_of_getElem? (i := 204) rfl)) rfl
def Y_Mo_bind : mm_Y := ((⟨"LambdaBenchModel", "bind", "(II)I"⟩, 8), prog_10_method_48_code, 8, (some .int), [], { frames := 2, cells := 0, slots := 0, locals := 42 }, [(0, .iload_n 1, 1, 0, 0), (1, .invokestatic 136, 4, 129, 0), (4, .ifCond .eq 10, 7, 14, 0), (7, .iload_n 2, 8, 0, 0), (8, .invokestatic 105, 11, 139, 0), (11, .ifCond .ne 7, 14, 18, 0), (14, .iconst 1, 15, 0, nI 1), (15, .goto 4, 19, 0, 0), (18, .iconst 0, 19, 0, nI 0), (19, .istore_n 3, 20, 0, 0), (20, .aload_n 0, 21, 0, 0), (21, .iload_n 3, 22, 0, 0), (22, .iload_n 3, 23, 0, 0), (23, .ifCond .ne 28, 26, 51, 0), (26, .aload_n 0, 27, 0, 0), (27, .getfield 20, 30, 36, 0), (30, .iload_n 1, 31, 0, 0), (31, .iaload, 32, 0, 0), (32, .ifCond .eq 15, 35, 47, 0), (35, .aload_n 0, 36, 0, 0), (36, .getfield 20, 39, 36, 0), (39, .iload_n 1, 40, 0, 0), (40, .iaload, 41, 0, 0), (41, .sipush 2000, 44, 0, nI 2000), (44, .if_icmp .ne 7, 47, 51, 0), (47, .iconst 1, 48, 0, nI 1), (48, .goto 4, 52, 0, 0), (51, .iconst 0, 52, 0, nI 0), (52, .invokevirtual 57, 55, 128, 0), (55, .ifCond .eq 5, 58, 60, 0), (58, .iconst 0, 59, 0, nI 0), (59, .ireturn, 60, 0, 0), (60, .aload_n 0, 61, 0, 0), (61, .iload_n 1, 62, 0, 0), (62, .invokevirtual 176, 65, 145, 0), (65, .aload_n 0, 66, 0, 0), (66, .invokevirtual 126, 69, 133, 0), (69, .aload_n 0, 70, 0, 0), (70, .bipush (-2), 72, 0, (-2)), (72, .invokevirtual 79, 75, 144, 0), (75, .iconst 1, 76, 0, nI 1), (76, .istore 4, 78, 0, 0), (78, .aload_n 0, 79, 0, 0), (79, .getfield 29, 82, 39, 0), (82, .iconst 0, 83, 0, nI 0), (83, .iconst 0, 84, 0, nI 0), (84, .iastore, 85, 0, 0), (85, .iconst 0, 86, 0, nI 0), (86, .istore 5, 88, 0, 0), (88, .iload 5, 90, 0, 0), (90, .aload_n 0, 91, 0, 0), (91, .getfield 61, 94, 50, 0), (94, .if_icmp .ge 104, 97, 198, 0), (97, .iinc 4 (-1), 100, 0, (-1)), (100, .aload_n 0, 101, 0, 0), (101, .getfield 29, 104, 39, 0), (104, .iload 4, 106, 0, 0), (106, .iaload, 107, 0, 0), (107, .istore 6, 109, 0, 0), (109, .aload_n 0, 110, 0, 0), (110, .getfield 23, 113, 37, 0), (113, .iload 5, 115, 0, 0), (115, .iaload, 116, 0, 0), (116, .istore 7, 118, 0, 0), (118, .iload 7, 120, 0, 0), (120, .iconst (-1), 121, 0, (-1)), (121, .if_icmp .ne 29, 124, 150, 0), (124, .aload_n 0, 125, 0, 0), (125, .getfield 29, 128, 39, 0), (128, .iload 4, 130, 0, 0), (130, .iload 6, 132, 0, 0), (132, .iastore, 133, 0, 0), (133, .aload_n 0, 134, 0, 0), (134, .getfield 29, 137, 39, 0), (137, .iload 4, 139, 0, 0), (139, .iconst 1, 140, 0, nI 1), (140, .iadd, 141, 0, 0), (141, .iload 6, 143, 0, 0), (143, .iastore, 144, 0, 0), (144, .iinc 4 2, 147, 0, nI 2), (147, .goto 24, 171, 0, 0), (150, .iload 7, 152, 0, 0), (152, .bipush (-2), 154, 0, (-2)), (154, .if_icmp .ne 17, 157, 171, 0), (157, .aload_n 0, 158, 0, 0), (158, .getfield 29, 161, 39, 0), (161, .iload 4, 163, 0, 0), (163, .iload 6, 165, 0, 0), (165, .iconst 1, 166, 0, nI 1), (166, .iadd, 167, 0, 0), (167, .iastore, 168, 0, 0), (168, .iinc 4 1, 171, 0, nI 1), (171, .aload_n 0, 172, 0, 0), (172, .iload 7, 174, 0, 0), (174, .sipush 10000, 177, 0, nI 10000), (177, .iload_n 2, 178, 0, 0), (178, .iadd, 179, 0, 0), (179, .if_icmp .ne 8, 182, 187, 0), (182, .iload 6, 184, 0, 0), (184, .goto 5, 189, 0, 0), (187, .iload 7, 189, 0, 0), (189, .invokevirtual 79, 192, 144, 0), (192, .iinc 5 1, 195, 0, nI 1), (195, .goto (-107), 88, 0, 0), (198, .aload_n 0, 199, 0, 0), (199, .invokevirtual 142, 202, 131, 0), (202, .aload_n 0, 203, 0, 0), (203, .iload_n 1, 204, 0, 0), (204, .invokevirtual 145, 207, 132, 0), (207, .aload_n 0, 208, 0, 0), (208, .getfield 61, 211, 50, 0), (211, .ireturn, 212, 0, 0)])
theorem k_Mo_bind : mm_okY Y_Mo_bind := ⟨by decide +kernel, by decide +kernel, rfl, by decide⟩
theorem w_Mo_bind : mm_cw Y_Mo_bind ∈ mm_tbl := mm_in (mm_r4 _ (List.mem_of_getElem? (i := 208) rfl)) rfl
def Y_Mo_same : mm_Y := ((⟨"LambdaBenchModel", "same", "(II)Z"⟩, 8), prog_10_method_49_code, 5, (some .boolean), [], { frames := 2, cells := 0, slots := 0, locals := 42 }, [(0, .aload_n 0, 1, 0, 0), (1, .iload_n 1, 2, 0, 0), (2, .invokestatic 136, 5, 129, 0), (5, .ifCond .eq 10, 8, 15, 0), (8, .iload_n 2, 9, 0, 0), (9, .invokestatic 136, 12, 129, 0), (12, .ifCond .ne 7, 15, 19, 0), (15, .iconst 1, 16, 0, nI 1), (16, .goto 4, 20, 0, 0), (19, .iconst 0, 20, 0, nI 0), (20, .iconst 0, 21, 0, nI 0), (21, .invokevirtual 57, 24, 128, 0), (24, .ifCond .eq 5, 27, 29, 0), (27, .iconst 0, 28, 0, nI 0), (28, .ireturn, 29, 0, 0), (29, .aload_n 0, 30, 0, 0), (30, .getfield 20, 33, 36, 0), (33, .iload_n 1, 34, 0, 0), (34, .iaload, 35, 0, 0), (35, .aload_n 0, 36, 0, 0), (36, .getfield 20, 39, 36, 0), (39, .iload_n 2, 40, 0, 0), (40, .iaload, 41, 0, 0), (41, .if_icmp .ne 7, 44, 48, 0), (44, .iconst 1, 45, 0, nI 1), (45, .goto 4, 49, 0, 0), (48, .iconst 0, 49, 0, nI 0), (49, .istore_n 3, 50, 0, 0), (50, .iconst 0, 51, 0, nI 0), (51, .istore 4, 53, 0, 0), (53, .iload 4, 55, 0, 0), (55, .aload_n 0, 56, 0, 0), (56, .getfield 20, 59, 36, 0), (59, .iload_n 1, 60, 0, 0), (60, .iaload, 61, 0, 0), (61, .if_icmp .ge 48, 64, 109, 0), (64, .iload_n 3, 65, 0, 0), (65, .ifCond .eq 44, 68, 109, 0), (68, .aload_n 0, 69, 0, 0), (69, .getfield 17, 72, 35, 0), (72, .sipush 2000, 75, 0, nI 2000), (75, .iload_n 1, 76, 0, 0), (76, .imul, 77, 0, 0), (77, .iload 4, 79, 0, 0), (79, .iadd, 80, 0, 0), (80, .iaload, 81, 0, 0), (81, .aload_n 0, 82, 0, 0), (82, .getfield 17, 85, 35, 0), (85, .sipush 2000, 88, 0, nI 2000), (88, .iload_n 2, 89, 0, 0), (89, .imul, 90, 0, 0), (90, .iload 4, 92, 0, 0), (92, .iadd, 93, 0, 0), (93, .iaload, 94, 0, 0), (94, .if_icmp .ne 7, 97, 101, 0), (97, .iconst 1, 98, 0, nI 1), (98, .goto 4, 102, 0, 0), (101, .iconst 0, 102, 0, nI 0), (102, .istore_n 3, 103, 0, 0), (103, .iinc 4 1, 106, 0, nI 1), (106, .goto (-53), 53, 0, 0), (109, .iload_n 3, 110, 0, 0), (110, .ireturn, 111, 0, 0)])
theorem k_Mo_same : mm_okY Y_Mo_same := ⟨by decide +kernel, by decide +kernel, rfl, by decide⟩
theorem w_Mo_same : mm_cw Y_Mo_same ∈ mm_tbl := mm_in (mm_r4 _ (List.mem_of_getElem? (i := 212) rfl)) rfl
def Y_Mo_has : mm_Y := ((⟨"LambdaBenchModel", "has", "(II)Z"⟩, 8), prog_10_method_50_code, 5, (some .boolean), [], { frames := 2, cells := 0, slots := 0, locals := 42 }, [(0, .aload_n 0, 1, 0, 0), (1, .iload_n 1, 2, 0, 0), (2, .invokestatic 136, 5, 129, 0), (5, .ifCond .eq 10, 8, 15, 0), (8, .iload_n 2, 9, 0, 0), (9, .invokestatic 105, 12, 139, 0), (12, .ifCond .ne 7, 15, 19, 0), (15, .iconst 1, 16, 0, nI 1), (16, .goto 4, 20, 0, 0), (19, .iconst 0, 20, 0, nI 0), (20, .iconst 0, 21, 0, nI 0), (21, .invokevirtual 57, 24, 128, 0), (24, .ifCond .eq 5, 27, 29, 0), (27, .iconst 0, 28, 0, nI 0), (28, .ireturn, 29, 0, 0), (29, .iconst 0, 30, 0, nI 0), (30, .istore_n 3, 31, 0, 0), (31, .iconst 0, 32, 0, nI 0), (32, .istore 4, 34, 0, 0), (34, .iload 4, 36, 0, 0), (36, .aload_n 0, 37, 0, 0), (37, .getfield 20, 40, 36, 0), (40, .iload_n 1, 41, 0, 0), (41, .iaload, 42, 0, 0), (42, .if_icmp .ge 40, 45, 82, 0), (45, .iload_n 3, 46, 0, 0), (46, .ifCond .ne 24, 49, 70, 0), (49, .aload_n 0, 50, 0, 0), (50, .getfield 17, 53, 35, 0), (53, .sipush 2000, 56, 0, nI 2000), (56, .iload_n 1, 57, 0, 0), (57, .imul, 58, 0, 0), (58, .iload 4, 60, 0, 0), (60, .iadd, 61, 0, 0), (61, .iaload, 62, 0, 0), (62, .sipush 10000, 65, 0, nI 10000), (65, .iload_n 2, 66, 0, 0), (66, .iadd, 67, 0, 0), (67, .if_icmp .ne 7, 70, 74, 0), (70, .iconst 1, 71, 0, nI 1), (71, .goto 4, 75, 0, 0), (74, .iconst 0, 75, 0, nI 0), (75, .istore_n 3, 76, 0, 0), (76, .iinc 4 1, 79, 0, nI 1), (79, .goto (-45), 34, 0, 0), (82, .iload_n 3, 83, 0, 0), (83, .ireturn, 84, 0, 0)])
theorem k_Mo_has : mm_okY Y_Mo_has := ⟨by decide +kernel, by decide +kernel, rfl, by decide⟩
theorem w_Mo_has : mm_cw Y_Mo_has ∈ mm_tbl := mm_in (mm_r4 _ (List.mem_of_getElem? (i := 216) rfl)) rfl
end
section
/-! Branches over natural numbers, a rule a condition. -/
section
variable {l : Launch} {sc : Nat × (Nat → Int32)} {Y : mm_Y} {k n : Nat} {M : mm_M} {L : mm_L} {S : List Value} {pc : Nat} {Q : mm_O → mm_M → Prop} {off : Int} {nx tg a b : Nat} {v : Int32}
theorem mg_eq (hq : mm_at (mm_tab Y) pc = some (.if_icmp .eq off, nx, tg, v)) (ha : a < 2 ^ 31) (hb : b < 2 ^ 31) (kt : a = b → mm_Go l sc Y k n M L S tg Q) (kf : ¬ a = b → mm_Go l sc Y k n M L S nx Q) : mm_Go l sc Y k n M L (.int (nI b) :: .int (nI a) :: S) pc Q := mg_icmpN hq ha hb kt kf
theorem mg_ne (hq : mm_at (mm_tab Y) pc = some (.if_icmp .ne off, nx, tg, v)) (ha : a < 2 ^ 31) (hb : b < 2 ^ 31) (kt : ¬ a = b → mm_Go l sc Y k n M L S tg Q) (kf : a = b → mm_Go l sc Y k n M L S nx Q) : mm_Go l sc Y k n M L (.int (nI b) :: .int (nI a) :: S) pc Q := mg_icmpN hq ha hb kt (fun h => kf (Decidable.not_not.mp h))
theorem mg_lt (hq : mm_at (mm_tab Y) pc = some (.if_icmp .lt off, nx, tg, v)) (ha : a < 2 ^ 31) (hb : b < 2 ^ 31) (kt : a < b → mm_Go l sc Y k n M L S tg Q) (kf : b ≤ a → mm_Go l sc Y k n M L S nx Q) : mm_Go l sc Y k n M L (.int (nI b) :: .int (nI a) :: S) pc Q := mg_icmpN hq ha hb kt (fun h => kf (Nat.le_of_not_lt h))
theorem mg_ge (hq : mm_at (mm_tab Y) pc = some (.if_icmp .ge off, nx, tg, v)) (ha : a < 2 ^ 31) (hb : b < 2 ^ 31) (kt : b ≤ a → mm_Go l sc Y k n M L S tg Q) (kf : a < b → mm_Go l sc Y k n M L S nx Q) : mm_Go l sc Y k n M L (.int (nI b) :: .int (nI a) :: S) pc Q := mg_icmpN hq ha hb kt (fun h => kf (Nat.lt_of_not_le h))
theorem mg_gt (hq : mm_at (mm_tab Y) pc = some (.if_icmp .gt off, nx, tg, v)) (ha : a < 2 ^ 31) (hb : b < 2 ^ 31) (kt : b < a → mm_Go l sc Y k n M L S tg Q) (kf : a ≤ b → mm_Go l sc Y k n M L S nx Q) : mm_Go l sc Y k n M L (.int (nI b) :: .int (nI a) :: S) pc Q := mg_icmpN hq ha hb kt (fun h => kf (Nat.le_of_not_lt h))
theorem mg_le (hq : mm_at (mm_tab Y) pc = some (.if_icmp .le off, nx, tg, v)) (ha : a < 2 ^ 31) (hb : b < 2 ^ 31) (kt : a ≤ b → mm_Go l sc Y k n M L S tg Q) (kf : b < a → mm_Go l sc Y k n M L S nx Q) : mm_Go l sc Y k n M L (.int (nI b) :: .int (nI a) :: S) pc Q := mg_icmpN hq ha hb kt (fun h => kf (Nat.lt_of_not_le h))
theorem mg_zeq (hq : mm_at (mm_tab Y) pc = some (.ifCond .eq off, nx, tg, v)) (ha : a < 2 ^ 31) (kt : a = 0 → mm_Go l sc Y k n M L S tg Q) (kf : 0 < a → mm_Go l sc Y k n M L S nx Q) : mm_Go l sc Y k n M L (.int (nI a) :: S) pc Q := mg_ifN hq ha kt (fun h => kf (Nat.pos_of_ne_zero h))
theorem mg_zne (hq : mm_at (mm_tab Y) pc = some (.ifCond .ne off, nx, tg, v)) (ha : a < 2 ^ 31) (kt : 0 < a → mm_Go l sc Y k n M L S tg Q) (kf : a = 0 → mm_Go l sc Y k n M L S nx Q) : mm_Go l sc Y k n M L (.int (nI a) :: S) pc Q := mg_ifN hq ha (fun h => kt (Nat.pos_of_ne_zero h)) (fun h => kf (Decidable.not_not.mp h))
theorem mg_zlt (hq : mm_at (mm_tab Y) pc = some (.ifCond .lt off, nx, tg, v)) (ha : a < 2 ^ 31) (kf : mm_Go l sc Y k n M L S nx Q) : mm_Go l sc Y k n M L (.int (nI a) :: S) pc Q := mg_ifN hq ha (fun h => absurd h (Nat.not_lt_zero a)) (fun _ => kf)
theorem mg_zge (hq : mm_at (mm_tab Y) pc = some (.ifCond .ge off, nx, tg, v)) (ha : a < 2 ^ 31) (kt : mm_Go l sc Y k n M L S tg Q) : mm_Go l sc Y k n M L (.int (nI a) :: S) pc Q := mg_ifN hq ha (fun _ => kt) (fun h => absurd (Nat.zero_le a) h)
theorem mg_zgt (hq : mm_at (mm_tab Y) pc = some (.ifCond .gt off, nx, tg, v)) (ha : a < 2 ^ 31) (kt : 0 < a → mm_Go l sc Y k n M L S tg Q) (kf : a = 0 → mm_Go l sc Y k n M L S nx Q) : mm_Go l sc Y k n M L (.int (nI a) :: S) pc Q := mg_ifN hq ha kt (fun h => kf (Nat.eq_zero_of_not_pos h))
theorem mg_zle (hq : mm_at (mm_tab Y) pc = some (.ifCond .le off, nx, tg, v)) (ha : a < 2 ^ 31) (kt : a = 0 → mm_Go l sc Y k n M L S tg Q) (kf : 0 < a → mm_Go l sc Y k n M L S nx Q) : mm_Go l sc Y k n M L (.int (nI a) :: S) pc Q := mg_ifN hq ha (fun h => kt (Nat.le_zero.mp h)) (fun h => kf (Nat.lt_of_not_le h))
/-- a number below nothing: the loop that counts down has ended -/
theorem mg_zgeM {v9 : Int32} (hq : mm_at (mm_tab Y) pc = some (.ifCond .ge off, nx, tg, v9)) (kf : mm_Go l sc Y k n M L S nx Q) : mm_Go l sc Y k n M L (.int (-1) :: S) pc Q := mg_if hq (fun h => absurd (show (0 : Int32) ≤ -1 from h) (by decide)) (fun _ => kf)
theorem mg_zltM {v9 : Int32} (hq : mm_at (mm_tab Y) pc = some (.ifCond .lt off, nx, tg, v9)) (kt : mm_Go l sc Y k n M L S tg Q) : mm_Go l sc Y k n M L (.int (-1) :: S) pc Q := mg_if hq (fun _ => kt) (fun h => absurd (show (-1 : Int32) < 0 by decide) h)
end
/-! ends and beginnings, their numbers looked at by rfl -/
section
variable {l : Launch} {sc : Nat × (Nat → Int32)} {Y : mm_Y} {k n : Nat} {M : mm_M} {L : mm_L} {pc : Nat} {Q : mm_O → mm_M → Prop} {nx aux i : Nat} {v x : Int32} {nm : String}
theorem mg_ir (hq : mm_at (mm_tab Y) pc = some (.ireturn, nx, aux, v)) (hr : mm_ret Y = some .int) (hk : Nat.ble k (mm_rm Y).cells = true) (hn : Nat.ble n (mm_rm Y).slots = true) (hQ : Q (.inl (some (.int x))) M) : mm_Go l sc Y k n M L [.int x] pc Q := mg_iret hq hr (Nat.le_of_ble_eq_true hk) (Nat.le_of_ble_eq_true hn) hQ
theorem mg_zr (hq : mm_at (mm_tab Y) pc = some (.ireturn, nx, aux, v)) (hr : mm_ret Y = some .boolean) (hx : x = nI 0 ∨ x = nI 1) (hk : Nat.ble k (mm_rm Y).cells = true) (hn : Nat.ble n (mm_rm Y).slots = true) (hQ : Q (.inl (some (.int x))) M) : mm_Go l sc Y k n M L [.int x] pc Q := mg_zret hq hr hx (Nat.le_of_ble_eq_true hk) (Nat.le_of_ble_eq_true hn) hQ
theorem mg_vr (hq : mm_at (mm_tab Y) pc = some (.return_, nx, aux, v)) (hr : mm_ret Y = none) (hk : Nat.ble k (mm_rm Y).cells = true) (hn : Nat.ble n (mm_rm Y).slots = true) (hQ : Q (.inl none) M) : mm_Go l sc Y k n M L [] pc Q := mg_vret hq hr (Nat.le_of_ble_eq_true hk) (Nat.le_of_ble_eq_true hn) hQ
theorem mg_ar (hq : mm_at (mm_tab Y) pc = some (.areturn, nx, aux, v)) (hr : mm_ret Y = some (.object nm)) (hk : Nat.ble k (mm_rm Y).cells = true) (hn : Nat.ble n (mm_rm Y).slots = true) (hQ : Q (.inl (some (.ref i))) M) : mm_Go l sc Y k n M L [.ref i] pc Q := mg_aret hq hr (Nat.le_of_ble_eq_true hk) (Nat.le_of_ble_eq_true hn) hQ
theorem mm_by (hY : mm_okY Y) (hcw : mm_cw Y ∈ mm_tbl) (hh : mm_hh Y = []) {vs : List Value} (hn : Nat.ble (mm_args vs).length (mm_nL Y) = true) (kk : mm_Go l sc Y 0 0 M (mm_ent (mm_nL Y) vs) [] 0 Q) : mm_Ct l sc Y M vs Q := mm_of hY hcw hh (Nat.le_of_ble_eq_true hn) kk
end
/-! numbers of any sign -/
theorem i32_lt (x : Int32) {n : Nat} (hn : n < 2 ^ 31) : x < nI n ↔ x.toInt < (n : Int) := by rw [Int32.lt_iff_toInt_lt, nI_toInt hn]
theorem i32_gt (x : Int32) {n : Nat} (hn : n < 2 ^ 31) : nI n < x ↔ (n : Int) < x.toInt := by rw [Int32.lt_iff_toInt_lt, nI_toInt hn]
theorem i32_le (x : Int32) {n : Nat} (hn : n < 2 ^ 31) : x ≤ nI n ↔ x.toInt ≤ (n : Int) := by rw [Int32.le_iff_toInt_le, nI_toInt hn]
theorem i32_ge (x : Int32) {n : Nat} (hn : n < 2 ^ 31) : nI n ≤ x ↔ (n : Int) ≤ x.toInt := by rw [Int32.le_iff_toInt_le, nI_toInt hn]
theorem i32_neg (x : Int32) : x < 0 ↔ x.toInt < 0 := by rw [Int32.lt_iff_toInt_lt]; rfl
/-- a number between two naturals is a natural -/
theorem i32_nat {x : Int32} (h : 0 ≤ x.toInt) : ∃ j : Nat, j < 2 ^ 31 ∧ x = nI j ∧ (j : Int) = x.toInt := by
  obtain ⟨j, h1, h2⟩ := nI_of (x := x) (fun h9 => by rw [i32_neg] at h9; omega)
  exact ⟨j, h1, h2, by rw [h2, nI_toInt h1]⟩
end
section
/-! The class's Terms: contracts of their methods. -/
section
variable {l : Launch} {sc : Nat × (Nat → Int32)} {M : mm_M} {Q : mm_O → mm_M → Prop} {t g : Nat} {r : List Nat}
theorem c_Te_length (h : te_is M t r g) (hQ : Q (.inl (some (.int (nI r.length)))) M) : mm_Ct l sc Y_Te_length M [.ref t] Q := by
  obtain ⟨f, a1, a2, a3, a4, a5⟩ := h
  refine mm_of k_Te_length w_Te_length rfl (Nat.le_of_ble_eq_true rfl) ?_
  refine mg_run 1 rfl ?_
  refine mg_get rfl rfl a1 rfl ?_
  exact mg_iret rfl rfl (Nat.le_of_ble_eq_true rfl) (Nat.le_of_ble_eq_true rfl) hQ
theorem te_g1 {g : Nat} (h : g ≤ 1) : nI g = nI 0 ∨ nI g = nI 1 := by
  have h9 : g = 0 ∨ g = 1 := by omega
  rcases h9 with rfl | rfl
  · exact Or.inl rfl
  · exact Or.inr rfl
theorem c_Te_isTooGreat (h : te_is M t r g) (hQ : Q (.inl (some (.int (nI g)))) M) : mm_Ct l sc Y_Te_isTooGreat M [.ref t] Q := by
  obtain ⟨f, a1, a2, a3, a4, a5⟩ := h
  refine mm_of k_Te_isTooGreat w_Te_isTooGreat rfl (Nat.le_of_ble_eq_true rfl) ?_
  refine mg_run 1 rfl ?_
  refine mg_get rfl rfl a1 rfl ?_
  exact mg_zret rfl rfl (te_g1 a5) (Nat.le_of_ble_eq_true rfl) (Nat.le_of_ble_eq_true rfl) hQ
theorem te_getD {r : List Nat} {i : Nat} (h : r.length ≤ i) : r.getD i 0 = 0 := by
  simp [List.getD, List.getElem?_eq_none h]
theorem c_Te_at (h : te_is M t r g) {i : Nat} (hi : i < 2 ^ 31) (hQ : Q (.inl (some (.int (nI (r.getD i 0))))) M) : mm_Ct l sc Y_Te_at M [.ref t, .int (nI i)] Q := by
  obtain ⟨f, a1, a2, a3, a4, a5⟩ := h
  refine mm_of k_Te_at w_Te_at rfl (Nat.le_of_ble_eq_true rfl) ?_
  refine mg_run 1 rfl ?_
  refine mg_zlt rfl hi ?_
  refine mg_run 2 rfl ?_
  refine mg_get rfl rfl a1 rfl ?_
  refine mg_ge rfl hi (by omega) (fun h => ?_) (fun h => ?_)
  · refine mg_run 1 rfl ?_
    refine mg_iret rfl rfl (Nat.le_of_ble_eq_true rfl) (Nat.le_of_ble_eq_true rfl) ?_
    rw [te_getD h] at hQ
    exact hQ
  · refine mg_run 1 rfl ?_
    refine mg_get rfl rfl a1 rfl ?_
    refine mg_run 1 rfl ?_
    refine mg_ildN rfl a2 (by decide) (by omega) ?_
    refine mg_run 1 rfl ?_
    refine mg_iret rfl rfl (Nat.le_of_ble_eq_true rfl) (Nat.le_of_ble_eq_true rfl) ?_
    rw [a3 i h]
    exact hQ
theorem c_Te_clear (h : te_is M t r g) (hQ : ∀ M', te_is M' t [] 0 → mm_on (te_P t) M M' → Q (.inl none) M') : mm_Ct l sc Y_Te_clear M [.ref t] Q := by
  obtain ⟨f, a1, a2, a3, a4, a5⟩ := h
  refine mm_of k_Te_clear w_Te_clear rfl (Nat.le_of_ble_eq_true rfl) ?_
  refine mg_run 2 rfl ?_
  refine mg_put rfl rfl a1 rfl rfl ?_
  have b1 := mm_at_set (.inr (6, [.ref (t + 1), .int (nI 0), .int (nI g)])) a1
  refine mg_run 2 rfl ?_
  refine mg_put rfl rfl b1 rfl rfl ?_
  have c1 := mm_at_set (.inr (6, [.ref (t + 1), .int (nI 0), .int (nI 0)])) b1
  refine mg_vret rfl rfl (Nat.le_of_ble_eq_true rfl) (Nat.le_of_ble_eq_true rfl) ?_
  refine hQ _ ⟨f, c1, mm_at_ne (by omega) (mm_at_ne (by omega) a2), fun i hi => absurd hi (Nat.not_lt_zero i), Nat.zero_le _, Nat.zero_le _⟩ ?_
  exact (mm_on.set M _ (Or.inl rfl)).tr (mm_on.set _ _ (Or.inl rfl))
theorem te_upd {f : Nat → Int32} {r : List Nat} {v : Nat} (h : ∀ i, i < r.length → f i = nI (r.getD i 0)) : ∀ i, i < (r ++ [v]).length → upd f r.length (nI v) i = nI ((r ++ [v]).getD i 0) := by
  intro i hi
  rw [List.length_append] at hi
  have hi' : i < r.length + 1 := hi
  by_cases hir : i = r.length
  · subst hir
    rw [pk_us]
    simp [List.getD]
  · rw [pk_un hir, h i (by omega)]
    simp [List.getD, List.getElem?_append_left (show i < r.length by omega)]
theorem c_Te_add (h : te_is M t r g) {v : Nat} (hQ : ∀ M', te_is M' t (te_add (r, g) v).1 (te_add (r, g) v).2 → mm_on (te_P t) M M' → Q (.inl none) M') : mm_Ct l sc Y_Te_add M [.ref t, .int (nI v)] Q := by
  obtain ⟨f, a1, a2, a3, a4, a5⟩ := h
  refine mm_of k_Te_add w_Te_add rfl (Nat.le_of_ble_eq_true rfl) ?_
  refine mg_run 1 rfl ?_
  refine mg_get rfl rfl a1 rfl ?_
  refine mg_run 1 rfl ?_
  refine mg_lt rfl (by omega) (by omega) (fun h => ?_) (fun h => ?_)
  · refine mg_run 1 rfl ?_
    refine mg_get rfl rfl a1 rfl ?_
    refine mg_run 1 rfl ?_
    refine mg_get rfl rfl a1 rfl ?_
    refine mg_run 1 rfl ?_
    refine mg_istN rfl a2 (by decide) h ?_
    have b2 := mm_at_set (.inl (0, 2000, .inl (upd f r.length (nI v)))) a2
    have b1 : (M.set (t + 1) (.inl (0, 2000, .inl (upd f r.length (nI v)))))[t]? = some (.inr (6, [.ref (t + 1), .int (nI r.length), .int (nI g)])) := mm_at_ne (by omega) a1
    refine mg_run 2 rfl ?_
    refine mg_get rfl rfl b1 rfl ?_
    refine mg_run 1 rfl ?_
    refine mg_addN rfl ?_
    refine mg_put rfl rfl b1 rfl rfl ?_
    have c1 := mm_at_set (.inr (6, [.ref (t + 1), .int (nI (r.length + 1)), .int (nI g)])) b1
    refine mg_vret rfl rfl (Nat.le_of_ble_eq_true rfl) (Nat.le_of_ble_eq_true rfl) ?_
    have e : te_add (r, g) v = (r ++ [v], g) := if_pos h
    rw [e] at hQ
    refine hQ _ ⟨upd f r.length (nI v), ?_, mm_at_ne (by omega) b2, te_upd a3, by simp; omega, a5⟩ ?_
    · rw [List.length_append]; exact c1
    · exact (mm_on.set M _ (Or.inr rfl)).tr (mm_on.set _ _ (Or.inl rfl))
  · refine mg_run 2 rfl ?_
    refine mg_put rfl rfl a1 rfl rfl ?_
    have c1 := mm_at_set (.inr (6, [.ref (t + 1), .int (nI r.length), .int (nI 1)])) a1
    refine mg_vret rfl rfl (Nat.le_of_ble_eq_true rfl) (Nat.le_of_ble_eq_true rfl) ?_
    have e : te_add (r, g) v = (r, 1) := if_neg (Nat.not_lt.mpr h)
    rw [e] at hQ
    exact hQ _ ⟨f, c1, mm_at_ne (by omega) a2, a3, a4, Nat.le_refl _⟩ (mm_on.set M _ (Or.inl rfl))
end
end
section
/-! Terms: parts of one row into another. -/
section
variable {l : Launch} {sc : Nat × (Nat → Int32)} {Y : mm_Y} {k n : Nat} {M : mm_M} {L : mm_L} {S : List Value} {pc : Nat} {Q : mm_O → mm_M → Prop}
theorem mg_copyN {ix nx j a0 a1 n0 n1 sp dp z : Nat} {v : Int32} {f g : Nat → Int32} (hq : mm_at (mm_tab Y) pc = some (.invokestatic ix, nx, j, v)) (hu : mm_mu[j]? = some (mm_cn Y, ix, 7, arraycopyName, 5)) (hM0 : M[a0]? = some (.inl (0, n0, .inl f))) (hM1 : M[a1]? = some (.inl (0, n1, .inl g))) (h0 : n0 < 2 ^ 31) (h1 : n1 < 2 ^ 31) (h4 : sp + z ≤ n0) (h5 : dp + z ≤ n1)
    (hst : (Nat.ble 1 (mm_rm Y).frames && Nat.ble ((S.map fun v => v.category).sum + (nativeFrameWords "java/lang/System" "arraycopy" 5 + 11)) (mm_rm Y).locals) = true) (kk : mm_Go l sc Y k n (M.set a1 (.inl (0, n1, .inl (va_cpy f g sp dp z)))) L S nx Q) : mm_Go l sc Y k n M L (.int (nI z) :: .int (nI dp) :: .ref a1 :: .int (nI sp) :: .ref a0 :: S) pc Q := by
  have e1 : (nI sp).toNatClampNeg = sp := nI_clamp (by omega)
  have e2 : (nI dp).toNatClampNeg = dp := nI_clamp (by omega)
  have e3 : (nI z).toNatClampNeg = z := nI_clamp (by omega)
  refine mg_copy hq hu hM0 hM1 (nI_pos (by omega)) (nI_pos (by omega)) (nI_pos (by omega)) (by rw [e1, e3]; exact h4) (by rw [e2, e3]; exact h5) hst ?_
  rw [e1, e2, e3]
  exact kk
end
theorem te_cpy {f f2 : Nat → Int32} {r r2 : List Nat} {st en : Nat} (hf : ∀ i, i < r.length → f i = nI (r.getD i 0)) (hf2 : ∀ i, i < r2.length → f2 i = nI (r2.getD i 0)) (h1 : st ≤ en) (h2 : en ≤ r2.length) : ∀ i, i < (r ++ (r2.drop st).take (en - st)).length → va_cpy f2 f st r.length (en - st) i = nI ((r ++ (r2.drop st).take (en - st)).getD i 0) := by
  intro i hi
  have hl : ((r2.drop st).take (en - st)).length = en - st := by rw [List.length_take, List.length_drop]; omega
  rw [List.length_append, hl] at hi
  by_cases hir : i < r.length
  · rw [pk_cpy_out (Or.inl hir), hf i hir]
    simp only [List.getD, List.getElem?_append_left hir]
  · rw [pk_cpy_in (Nat.le_of_not_lt hir) hi, hf2 _ (by omega)]
    simp only [List.getD, List.getElem?_append_right (Nat.le_of_not_lt hir)]
    rw [List.getElem?_take_of_lt (by omega), List.getElem?_drop]
section
variable {l : Launch} {sc : Nat × (Nat → Int32)} {M : mm_M} {Q : mm_O → mm_M → Prop} {t g t2 g2 : Nat} {r r2 : List Nat}
/-- two Terms apart -/
def te_ap (t t2 : Nat) : Prop := ¬ te_P t t2 ∧ ¬ te_P t (t2 + 1)
theorem c_Te_addPart (h : te_is M t r g) (h2 : te_is M t2 r2 g2) (hap : te_ap t t2) {st en : Nat} (h3 : st ≤ en) (h4 : en ≤ r2.length) (hQ : ∀ M', te_is M' t (te_adds (r, g) ((r2.drop st).take (en - st))).1 (te_adds (r, g) ((r2.drop st).take (en - st))).2 → mm_on (te_P t) M M' → Q (.inl none) M') : mm_Ct l sc Y_Te_addPart M [.ref t, .ref t2, .int (nI st), .int (nI en)] Q := by
  obtain ⟨f, a1, a2, a3, a4, a5⟩ := h
  obtain ⟨f2, b1, b2, b3, b4, b5⟩ := h2
  have hap1 : ¬ t2 + 1 = t + 1 := fun h9 => hap.2 (Or.inr h9)
  have hap2 : ¬ t = t2 := fun h9 => hap.1 (Or.inl h9.symm)
  have hl : ((r2.drop st).take (en - st)).length = en - st := by rw [List.length_take, List.length_drop]; omega
  refine mm_of k_Te_addPart w_Te_addPart rfl (Nat.le_of_ble_eq_true rfl) ?_
  refine mg_run 2 rfl ?_
  refine mg_subN rfl h3 ?_
  refine mg_run 2 rfl ?_
  refine mg_zlt rfl (by omega) ?_
  refine mg_run 1 rfl ?_
  refine mg_zlt rfl (by omega) ?_
  refine mg_run 2 rfl ?_
  refine mg_get rfl rfl b1 rfl ?_
  refine mg_le rfl (by omega) (by omega) (fun h => ?_) (fun h => absurd h (by omega))
  refine mg_run 1 rfl ?_
  refine mg_get rfl rfl a1 rfl ?_
  refine mg_run 1 rfl ?_
  refine mg_addN rfl ?_
  refine mg_run 1 rfl ?_
  refine mg_le rfl (by omega) (by omega) (fun h => ?_) (fun h => ?_)
  · refine mg_run 1 rfl ?_
    refine mg_get rfl rfl b1 rfl ?_
    refine mg_run 2 rfl ?_
    refine mg_get rfl rfl a1 rfl ?_
    refine mg_run 1 rfl ?_
    refine mg_get rfl rfl a1 rfl ?_
    refine mg_run 1 rfl ?_
    refine mg_copyN rfl rfl b2 a2 (by decide) (by decide) (by omega) (by omega) rfl ?_
    have c2 := mm_at_set (.inl (0, 2000, .inl (va_cpy f2 f st r.length (en - st)))) a2
    have c1 : (M.set (t + 1) (.inl (0, 2000, .inl (va_cpy f2 f st r.length (en - st)))))[t]? = some (.inr (6, [.ref (t + 1), .int (nI r.length), .int (nI g)])) := mm_at_ne (by omega) a1
    refine mg_run 2 rfl ?_
    refine mg_get rfl rfl c1 rfl ?_
    refine mg_run 1 rfl ?_
    refine mg_addN rfl ?_
    refine mg_put rfl rfl c1 rfl rfl ?_
    have d1 := mm_at_set (.inr (6, [.ref (t + 1), .int (nI (r.length + (en - st))), .int (nI g)])) c1
    refine mg_vret rfl rfl (Nat.le_of_ble_eq_true rfl) (Nat.le_of_ble_eq_true rfl) ?_
    have e : te_adds (r, g) ((r2.drop st).take (en - st)) = (r ++ (r2.drop st).take (en - st), g) := if_pos (by rw [hl]; exact h)
    rw [e] at hQ
    refine hQ _ ⟨va_cpy f2 f st r.length (en - st), ?_, mm_at_ne (by omega) c2, te_cpy a3 b3 h3 h4, by rw [List.length_append, hl]; exact h, a5⟩ ?_
    · rw [List.length_append, hl]; exact d1
    · exact (mm_on.set M _ (Or.inr rfl)).tr (mm_on.set _ _ (Or.inl rfl))
  · refine mg_run 2 rfl ?_
    refine mg_put rfl rfl a1 rfl rfl ?_
    have c1 := mm_at_set (.inr (6, [.ref (t + 1), .int (nI r.length), .int (nI 1)])) a1
    refine mg_vret rfl rfl (Nat.le_of_ble_eq_true rfl) (Nat.le_of_ble_eq_true rfl) ?_
    have e : te_adds (r, g) ((r2.drop st).take (en - st)) = (r, 1) := if_neg (by rw [hl]; exact Nat.not_le.mpr h)
    rw [e] at hQ
    exact hQ _ ⟨f, c1, mm_at_ne (by omega) a2, a3, a4, Nat.le_refl _⟩ (mm_on.set M _ (Or.inl rfl))
theorem c_Te_addAll (h : te_is M t r g) (h2 : te_is M t2 r2 g2) (hap : te_ap t t2) (hQ : ∀ M', te_is M' t (te_adds (r, g) r2).1 (te_adds (r, g) r2).2 → mm_on (te_P t) M M' → Q (.inl none) M') : mm_Ct l sc Y_Te_addAll M [.ref t, .ref t2] Q := by
  obtain ⟨f2, b1, b2, b3, b4, b5⟩ := id h2
  obtain ⟨f, a1, a2, a3, a4, a5⟩ := id h
  refine mm_of k_Te_addAll w_Te_addAll rfl (Nat.le_of_ble_eq_true rfl) ?_
  refine mg_run 4 rfl ?_
  refine mg_get rfl rfl b1 rfl ?_
  refine mg_callV [.ref t2, .int (nI 0), .int (nI r2.length)] rfl rfl rfl a1 rfl rfl rfl rfl (c_Te_addPart h h2 hap (Nat.zero_le _) (Nat.le_refl _) (fun M' p1 p2 => ?_))
  refine mg_vret rfl rfl (Nat.le_of_ble_eq_true rfl) (Nat.le_of_ble_eq_true rfl) ?_
  rw [Nat.sub_zero, List.drop_zero, List.take_length] at p1
  exact hQ M' p1 p2
/-- one row becomes another's -/
theorem c_Te_become (h : te_is M t r g) (h2 : te_is M t2 r2 g2) (hap : te_ap t t2) (hQ : ∀ M', te_is M' t r2 0 → mm_on (te_P t) M M' → Q (.inl none) M') : mm_Ct l sc Y_Te_become M [.ref t, .ref t2] Q := by
  obtain ⟨f, a1, a2, a3, a4, a5⟩ := id h
  refine mm_of k_Te_become w_Te_become rfl (Nat.le_of_ble_eq_true rfl) ?_
  refine mg_run 2 rfl ?_
  refine mg_acmp rfl (fun h9 => absurd (show te_P t t2 from Or.inl h9) hap.1) (fun h9 => ?_)
  refine mg_run 1 rfl ?_
  refine mg_callV [] rfl rfl rfl a1 rfl rfl rfl rfl (c_Te_clear h (fun M1 p1 p2 => ?_))
  have h3 := h2.keep p2 hap.1 hap.2
  obtain ⟨f1, d1, d2, d3, d4, d5⟩ := id p1
  refine mg_run 2 rfl ?_
  refine mg_callV [.ref t2] rfl rfl rfl d1 rfl rfl rfl rfl (c_Te_addAll p1 h3 hap (fun M2 q1 q2 => ?_))
  refine mg_vret rfl rfl (Nat.le_of_ble_eq_true rfl) (Nat.le_of_ble_eq_true rfl) ?_
  have e : te_adds ([], 0) r2 = (r2, 0) := by
    unfold te_adds
    rw [if_pos (by simp; exact h2.len)]
    rfl
  rw [e] at q1
  exact hQ M2 q1 (p2.tr q2)
/-- .. or is it itself -/
theorem c_Te_becomeSelf (h : te_is M t r g) (hQ : Q (.inl none) M) : mm_Ct l sc Y_Te_become M [.ref t, .ref t] Q := by
  refine mm_of k_Te_become w_Te_become rfl (Nat.le_of_ble_eq_true rfl) ?_
  refine mg_run 2 rfl ?_
  refine mg_acmp rfl (fun h9 => ?_) (fun h9 => absurd rfl h9)
  exact mg_vret rfl rfl (Nat.le_of_ble_eq_true rfl) (Nat.le_of_ble_eq_true rfl) hQ
end
end
section
/-! Terms: comparing, searching, ends of parts, redexes. -/
theorem te_drop {r : List Nat} {i : Nat} (h : i < r.length) : r.drop i = r.getD i 0 :: r.drop (i + 1) := by
  rw [List.drop_eq_getElem_cons h]
  simp [List.getD, List.getElem?_eq_getElem h]
theorem te_ext {r r2 : List Nat} (h : r.length = r2.length) (h2 : ∀ i, i < r.length → r.getD i 0 = r2.getD i 0) : r = r2 := by
  refine List.ext_getElem h (fun i p1 p2 => ?_)
  have h9 := h2 i p1
  simpa [List.getD, List.getElem?_eq_getElem p1, List.getElem?_eq_getElem p2] using h9
/-- how far the part that begins here goes, o parts wanted -/
def te_sc : List Nat → Nat → Nat
  | [], _ => 0
  | _ :: _, 0 => 0
  | c :: l, o + 1 => te_sc l (if c = 64 then o + 2 else if c = 92 then o + 1 else o) + 1
theorem te_sc0 (l : List Nat) : te_sc l 0 = 0 := by cases l <;> rfl
/-- the head of the redex at i; 0: none -/
def te_rh (r : List Nat) (i : Nat) : Nat :=
  if r.getD i 0 = 64 then
    if r.getD (i + 1) 0 = 92 then 92 else if r.getD (i + 1) 0 = 73 then 73 else
    if r.getD (i + 1) 0 = 64 then
      if r.getD (i + 2) 0 = 75 then 75 else if r.getD (i + 2) 0 = 64 then (if r.getD (i + 3) 0 = 83 then 83 else 0) else 0
    else 0
  else 0
/-- the first redex from i on, m places looked at -/
def te_fr (r : List Nat) : Nat → Nat → Option Nat
  | 0, _ => none
  | m + 1, i => if te_rh r i = 0 then te_fr r m (i + 1) else some i
def te_fv : Option Nat → Int32
  | none => -1
  | some i => nI i
section
variable {l : Launch} {sc : Nat × (Nat → Int32)} {M : mm_M} {Q : mm_O → mm_M → Prop} {t g t2 g2 : Nat} {r r2 : List Nat}
theorem lp_Te_isLike (h : te_is M t r g) (h2 : te_is M t2 r2 g2) (hb : ∀ i, r.getD i 0 < 2 ^ 31) (hb2 : ∀ i, r2.getD i 0 < 2 ^ 31) (hl : r.length = r2.length) (hQ : Q (.inl (some (.int (nI (if r = r2 then 1 else 0))))) M) : ∀ m i, r.length - i = m → i ≤ r.length → (∀ j, j < i → r.getD j 0 = r2.getD j 0) → mm_Go l sc Y_Te_isLike 0 0 M [some (.ref t), some (.ref t2), some (.int (nI i))] [] 15 Q := by
  obtain ⟨f, a1, a2, a3, a4, a5⟩ := h
  obtain ⟨f2, b1, b2, b3, b4, b5⟩ := h2
  intro m
  induction m with
  | zero =>
    intro i hm hi hj
    have e : i = r.length := by omega
    subst e
    refine mg_run 2 rfl ?_
    refine mg_get rfl rfl a1 rfl ?_
    refine mg_ge rfl (by omega) (by omega) (fun h => ?_) (fun h => absurd h (by omega))
    refine mg_run 1 rfl ?_
    refine mg_zret rfl rfl (Or.inr rfl) (Nat.le_of_ble_eq_true rfl) (Nat.le_of_ble_eq_true rfl) ?_
    rw [if_pos (te_ext hl hj)] at hQ
    exact hQ
  | succ m ih =>
    intro i hm hi hj
    refine mg_run 2 rfl ?_
    refine mg_get rfl rfl a1 rfl ?_
    refine mg_ge rfl (by omega) (by omega) (fun h => absurd h (by omega)) (fun h => ?_)
    refine mg_run 1 rfl ?_
    refine mg_get rfl rfl a1 rfl ?_
    refine mg_run 1 rfl ?_
    refine mg_ildN rfl a2 (by decide) (by omega) ?_
    rw [a3 i h]
    refine mg_run 1 rfl ?_
    refine mg_get rfl rfl b1 rfl ?_
    refine mg_run 1 rfl ?_
    refine mg_ildN rfl b2 (by decide) (by omega) ?_
    rw [b3 i (by omega)]
    refine mg_eq rfl (hb i) (hb2 i) (fun h9 => ?_) (fun h9 => ?_)
    · refine mg_incN rfl rfl rfl ?_
      refine mg_run 1 rfl ?_
      exact ih (i + 1) (by omega) (by omega) (fun j hj9 => by
        by_cases e : j = i
        · rw [e]; exact h9
        · exact hj j (by omega))
    · refine mg_run 1 rfl ?_
      refine mg_zret rfl rfl (Or.inl rfl) (Nat.le_of_ble_eq_true rfl) (Nat.le_of_ble_eq_true rfl) ?_
      rw [if_neg (fun e => h9 (by rw [e]))] at hQ
      exact hQ
theorem c_Te_isLike (h : te_is M t r g) (h2 : te_is M t2 r2 g2) (hb : ∀ i, r.getD i 0 < 2 ^ 31) (hb2 : ∀ i, r2.getD i 0 < 2 ^ 31) (hQ : Q (.inl (some (.int (nI (if r = r2 then 1 else 0))))) M) : mm_Ct l sc Y_Te_isLike M [.ref t, .ref t2] Q := by
  have g1 := h.len
  have g2 := h2.len
  obtain ⟨f, a1, a2, a3, a4, a5⟩ := id h
  obtain ⟨f2, b1, b2, b3, b4, b5⟩ := id h2
  refine mm_of k_Te_isLike w_Te_isLike rfl (Nat.le_of_ble_eq_true rfl) ?_
  refine mg_run 1 rfl ?_
  refine mg_get rfl rfl a1 rfl ?_
  refine mg_run 1 rfl ?_
  refine mg_get rfl rfl b1 rfl ?_
  refine mg_eq rfl (by omega) (by omega) (fun h9 => ?_) (fun h9 => ?_)
  · refine mg_run 2 rfl ?_
    exact lp_Te_isLike h h2 hb hb2 h9 hQ _ 0 rfl (Nat.zero_le _) (fun j hj => absurd hj (Nat.not_lt_zero j))
  · refine mg_run 1 rfl ?_
    refine mg_zret rfl rfl (Or.inl rfl) (Nat.le_of_ble_eq_true rfl) (Nat.le_of_ble_eq_true rfl) ?_
    rw [if_neg (fun e => h9 (by rw [e]))] at hQ
    exact hQ
theorem lp_Te_contains (h : te_is M t r g) (hb : ∀ i, r.getD i 0 < 2 ^ 31) {v : Nat} (hv : v < 2 ^ 31) (hQ : Q (.inl (some (.int (nI (if v ∈ r then 1 else 0))))) M) : ∀ m i, r.length - i = m → i ≤ r.length → v ∉ r.take i → mm_Go l sc Y_Te_contains 0 0 M [some (.ref t), some (.int (nI v)), some (.int (nI i))] [] 2 Q := by
  obtain ⟨f, a1, a2, a3, a4, a5⟩ := h
  intro m
  induction m with
  | zero =>
    intro i hm hi hj
    have e : i = r.length := by omega
    subst e
    refine mg_run 2 rfl ?_
    refine mg_get rfl rfl a1 rfl ?_
    refine mg_ge rfl (by omega) (by omega) (fun h => ?_) (fun h => absurd h (by omega))
    refine mg_run 1 rfl ?_
    refine mg_zret rfl rfl (Or.inl rfl) (Nat.le_of_ble_eq_true rfl) (Nat.le_of_ble_eq_true rfl) ?_
    rw [List.take_length] at hj
    rw [if_neg hj] at hQ
    exact hQ
  | succ m ih =>
    intro i hm hi hj
    refine mg_run 2 rfl ?_
    refine mg_get rfl rfl a1 rfl ?_
    refine mg_ge rfl (by omega) (by omega) (fun h => absurd h (by omega)) (fun h => ?_)
    refine mg_run 1 rfl ?_
    refine mg_get rfl rfl a1 rfl ?_
    refine mg_run 1 rfl ?_
    refine mg_ildN rfl a2 (by decide) (by omega) ?_
    rw [a3 i h]
    refine mg_run 1 rfl ?_
    have hg : r.getD i 0 = r[i] := by simp [List.getD, List.getElem?_eq_getElem h]
    refine mg_ne rfl (hb i) hv (fun h9 => ?_) (fun h9 => ?_)
    · refine mg_incN rfl rfl rfl ?_
      refine mg_run 1 rfl ?_
      refine ih (i + 1) (by omega) (by omega) ?_
      rw [List.take_succ_eq_append_getElem h, List.mem_append]
      rintro (h7 | h7)
      · exact hj h7
      · rw [List.mem_singleton] at h7
        exact h9 (by rw [hg, h7])
    · refine mg_run 1 rfl ?_
      refine mg_zret rfl rfl (Or.inr rfl) (Nat.le_of_ble_eq_true rfl) (Nat.le_of_ble_eq_true rfl) ?_
      rw [if_pos (by rw [← h9, hg]; exact List.getElem_mem h)] at hQ
      exact hQ
theorem c_Te_contains (h : te_is M t r g) (hb : ∀ i, r.getD i 0 < 2 ^ 31) {v : Nat} (hv : v < 2 ^ 31) (hQ : Q (.inl (some (.int (nI (if v ∈ r then 1 else 0))))) M) : mm_Ct l sc Y_Te_contains M [.ref t, .int (nI v)] Q := by
  refine mm_of k_Te_contains w_Te_contains rfl (Nat.le_of_ble_eq_true rfl) ?_
  refine mg_run 2 rfl ?_
  exact lp_Te_contains h hb hv hQ _ 0 rfl (Nat.zero_le _) (by simp)
theorem lp_Te_endOf (h : te_is M t r g) (hb : ∀ i, r.getD i 0 < 2 ^ 31) {x1 : Int32} : ∀ m i o (x4 : Option Value), r.length - i = m → i ≤ r.length → o + (r.length - i) ≤ 10000 → Q (.inl (some (.int (nI (i + te_sc (r.drop i) o))))) M → mm_Go l sc Y_Te_endOf 0 0 M [some (.ref t), some (.int x1), some (.int (nI o)), some (.int (nI i)), x4] [] 4 Q := by
  have h4 := h.len
  obtain ⟨f, a1, a2, a3, a4, a5⟩ := id h
  intro m
  induction m with
  | zero =>
    intro i o x4 hm hi ho hQ
    have e : i = r.length := by omega
    subst e
    refine mg_run 2 rfl ?_
    refine mg_get rfl rfl a1 rfl ?_
    refine mg_ge rfl (by omega) (by omega) (fun h => ?_) (fun h => absurd h (by omega))
    refine mg_run 1 rfl ?_
    refine mg_iret rfl rfl (Nat.le_of_ble_eq_true rfl) (Nat.le_of_ble_eq_true rfl) ?_
    rw [List.drop_length] at hQ
    exact hQ
  | succ m ih =>
    intro i o x4 hm hi ho hQ
    refine mg_run 2 rfl ?_
    refine mg_get rfl rfl a1 rfl ?_
    refine mg_ge rfl (by omega) (by omega) (fun h => absurd h (by omega)) (fun h9 => ?_)
    refine mg_run 1 rfl ?_
    refine mg_zle rfl (by omega) (fun h0 => ?_) (fun h0 => ?_)
    · subst h0
      refine mg_run 1 rfl ?_
      refine mg_iret rfl rfl (Nat.le_of_ble_eq_true rfl) (Nat.le_of_ble_eq_true rfl) ?_
      rw [te_sc0] at hQ
      exact hQ
    · obtain ⟨o', rfl⟩ : ∃ o', o = o' + 1 := ⟨o - 1, by omega⟩
      rw [te_drop h9] at hQ
      refine mg_run 2 rfl ?_
      refine mg_callV [.int (nI i)] rfl rfl rfl a1 rfl rfl rfl rfl (c_Te_at h (by omega) ?_)
      refine mg_run 3 rfl ?_
      refine mg_ne rfl (hb i) (by decide) (fun h7 => ?_) (fun h7 => ?_)
      · refine mg_run 2 rfl ?_
        refine mg_eq rfl (hb i) (by decide) (fun h6 => ?_) (fun h6 => ?_)
        · refine mg_incN rfl rfl rfl ?_
          refine mg_run 1 rfl ?_
          refine ih (i + 1) (o' + 1) _ (by omega) (by omega) (by omega) ?_
          rw [te_sc, if_neg h7, if_pos h6] at hQ
          rw [show i + 1 + te_sc (r.drop (i + 1)) (o' + 1) = i + (te_sc (r.drop (i + 1)) (o' + 1) + 1) by omega]
          exact hQ
        · refine mg_decN rfl rfl rfl ?_
          refine mg_incN rfl rfl rfl ?_
          refine mg_run 1 rfl ?_
          refine ih (i + 1) o' _ (by omega) (by omega) (by omega) ?_
          rw [te_sc, if_neg h7, if_neg h6] at hQ
          rw [show i + 1 + te_sc (r.drop (i + 1)) o' = i + (te_sc (r.drop (i + 1)) o' + 1) by omega]
          exact hQ
      · refine mg_incN rfl rfl rfl ?_
        refine mg_run 1 rfl ?_
        refine mg_incN rfl rfl rfl ?_
        refine mg_run 1 rfl ?_
        refine ih (i + 1) (o' + 1 + 1) _ (by omega) (by omega) (by omega) ?_
        rw [te_sc, if_pos h7] at hQ
        have e9 : o' + 2 = o' + 1 + 1 := rfl
        rw [e9] at hQ
        rw [show i + 1 + te_sc (r.drop (i + 1)) (o' + 1 + 1) = i + (te_sc (r.drop (i + 1)) (o' + 1 + 1) + 1) by omega]
        exact hQ
theorem c_Te_endOf (h : te_is M t r g) (hb : ∀ i, r.getD i 0 < 2 ^ 31) {i : Nat} (hi : i ≤ r.length) (hQ : Q (.inl (some (.int (nI (i + te_sc (r.drop i) 1))))) M) : mm_Ct l sc Y_Te_endOf M [.ref t, .int (nI i)] Q := by
  have h4 := h.len
  refine mm_of k_Te_endOf w_Te_endOf rfl (Nat.le_of_ble_eq_true rfl) ?_
  refine mg_run 4 rfl ?_
  exact lp_Te_endOf h hb _ i 1 none rfl hi (by omega) hQ
theorem c_Te_redexHead (h : te_is M t r g) (hb : ∀ i, r.getD i 0 < 2 ^ 31) {i : Nat} (hi : i < 1000000) (hQ : Q (.inl (some (.int (nI (te_rh r i))))) M) : mm_Ct l sc Y_Te_redexHead M [.ref t, .int (nI i)] Q := by
  obtain ⟨f, a1, a2, a3, a4, a5⟩ := id h
  refine mm_of k_Te_redexHead w_Te_redexHead rfl (Nat.le_of_ble_eq_true rfl) ?_
  refine mg_run 2 rfl ?_
  refine mg_callV [.int (nI i)] rfl rfl rfl a1 rfl rfl rfl rfl (c_Te_at h (by omega) ?_)
  refine mg_run 1 rfl ?_
  refine mg_eq rfl (hb _) (by decide) (fun p0 => ?_) (fun p0 => ?_)
  · refine mg_run 3 rfl ?_
    refine mg_addN rfl ?_
    refine mg_callV [.int (nI (i + 1))] rfl rfl rfl a1 rfl rfl rfl rfl (c_Te_at h (by omega) ?_)
    refine mg_run 3 rfl ?_
    refine mg_eq rfl (hb _) (by decide) (fun p1 => ?_) (fun p1 => ?_)
    · refine mg_run 1 rfl ?_
      refine mg_iret rfl rfl (Nat.le_of_ble_eq_true rfl) (Nat.le_of_ble_eq_true rfl) ?_
      rw [te_rh, if_pos p0, if_pos p1] at hQ
      rw [p1]; exact hQ
    · refine mg_run 2 rfl ?_
      refine mg_ne rfl (hb _) (by decide) (fun p2 => ?_) (fun p2 => ?_)
      · refine mg_run 2 rfl ?_
        refine mg_eq rfl (hb _) (by decide) (fun p3 => ?_) (fun p3 => ?_)
        · refine mg_run 3 rfl ?_
          refine mg_addN rfl ?_
          refine mg_callV [.int (nI (i + 2))] rfl rfl rfl a1 rfl rfl rfl rfl (c_Te_at h (by omega) ?_)
          refine mg_run 3 rfl ?_
          refine mg_ne rfl (hb _) (by decide) (fun p4 => ?_) (fun p4 => ?_)
          · refine mg_run 2 rfl ?_
            refine mg_ne rfl (hb _) (by decide) (fun p5 => ?_) (fun p5 => ?_)
            · refine mg_run 1 rfl ?_
              refine mg_iret rfl rfl (Nat.le_of_ble_eq_true rfl) (Nat.le_of_ble_eq_true rfl) ?_
              rw [te_rh, if_pos p0, if_neg p1, if_neg p2, if_pos p3, if_neg p4, if_neg p5] at hQ
              exact hQ
            · refine mg_run 3 rfl ?_
              refine mg_addN rfl ?_
              refine mg_callV [.int (nI (i + 3))] rfl rfl rfl a1 rfl rfl rfl rfl (c_Te_at h (by omega) ?_)
              refine mg_run 1 rfl ?_
              refine mg_ne rfl (hb _) (by decide) (fun p6 => ?_) (fun p6 => ?_)
              · refine mg_run 1 rfl ?_
                refine mg_iret rfl rfl (Nat.le_of_ble_eq_true rfl) (Nat.le_of_ble_eq_true rfl) ?_
                rw [te_rh, if_pos p0, if_neg p1, if_neg p2, if_pos p3, if_neg p4, if_pos p5, if_neg p6] at hQ
                exact hQ
              · refine mg_run 2 rfl ?_
                refine mg_iret rfl rfl (Nat.le_of_ble_eq_true rfl) (Nat.le_of_ble_eq_true rfl) ?_
                rw [te_rh, if_pos p0, if_neg p1, if_neg p2, if_pos p3, if_neg p4, if_pos p5, if_pos p6] at hQ
                exact hQ
          · refine mg_run 1 rfl ?_
            refine mg_iret rfl rfl (Nat.le_of_ble_eq_true rfl) (Nat.le_of_ble_eq_true rfl) ?_
            rw [te_rh, if_pos p0, if_neg p1, if_neg p2, if_pos p3, if_pos p4] at hQ
            exact hQ
        · refine mg_run 1 rfl ?_
          refine mg_iret rfl rfl (Nat.le_of_ble_eq_true rfl) (Nat.le_of_ble_eq_true rfl) ?_
          rw [te_rh, if_pos p0, if_neg p1, if_neg p2, if_neg p3] at hQ
          exact hQ
      · refine mg_run 1 rfl ?_
        refine mg_iret rfl rfl (Nat.le_of_ble_eq_true rfl) (Nat.le_of_ble_eq_true rfl) ?_
        rw [te_rh, if_pos p0, if_neg p1, if_pos p2] at hQ
        rw [p2]; exact hQ
  · refine mg_run 1 rfl ?_
    refine mg_iret rfl rfl (Nat.le_of_ble_eq_true rfl) (Nat.le_of_ble_eq_true rfl) ?_
    rw [te_rh, if_neg p0] at hQ
    exact hQ
theorem te_rh_lt (r : List Nat) (i : Nat) : te_rh r i < 2 ^ 31 := by
  unfold te_rh
  repeat' split
  all_goals decide
theorem lp_Te_firstRedex (h : te_is M t r g) (hb : ∀ i, r.getD i 0 < 2 ^ 31) : ∀ m i, r.length - i = m → i ≤ r.length → Q (.inl (some (.int (te_fv (te_fr r m i))))) M → mm_Go l sc Y_Te_firstRedex 0 0 M [some (.ref t), some (.int (nI i))] [] 2 Q := by
  have h4 := h.len
  obtain ⟨f, a1, a2, a3, a4, a5⟩ := id h
  intro m
  induction m with
  | zero =>
    intro i hm hi hQ
    have e : i = r.length := by omega
    subst e
    refine mg_run 2 rfl ?_
    refine mg_get rfl rfl a1 rfl ?_
    refine mg_ge rfl (by omega) (by omega) (fun h => ?_) (fun h => absurd h (by omega))
    refine mg_run 1 rfl ?_
    exact mg_iret rfl rfl (Nat.le_of_ble_eq_true rfl) (Nat.le_of_ble_eq_true rfl) hQ
  | succ m ih =>
    intro i hm hi hQ
    refine mg_run 2 rfl ?_
    refine mg_get rfl rfl a1 rfl ?_
    refine mg_ge rfl (by omega) (by omega) (fun h => absurd h (by omega)) (fun h9 => ?_)
    refine mg_run 2 rfl ?_
    refine mg_callV [.int (nI i)] rfl rfl rfl a1 rfl rfl rfl rfl (c_Te_redexHead h hb (by omega) ?_)
    refine mg_zeq rfl (te_rh_lt r i) (fun h7 => ?_) (fun h7 => ?_)
    · refine mg_incN rfl rfl rfl ?_
      refine mg_run 1 rfl ?_
      refine ih (i + 1) (by omega) (by omega) ?_
      rw [te_fr, if_pos h7] at hQ
      exact hQ
    · refine mg_run 1 rfl ?_
      refine mg_iret rfl rfl (Nat.le_of_ble_eq_true rfl) (Nat.le_of_ble_eq_true rfl) ?_
      rw [te_fr, if_neg (by omega)] at hQ
      exact hQ
theorem c_Te_firstRedex (h : te_is M t r g) (hb : ∀ i, r.getD i 0 < 2 ^ 31) (hQ : Q (.inl (some (.int (te_fv (te_fr r r.length 0))))) M) : mm_Ct l sc Y_Te_firstRedex M [.ref t] Q := by
  refine mm_of k_Te_firstRedex w_Te_firstRedex rfl (Nat.le_of_ble_eq_true rfl) ?_
  refine mg_run 2 rfl ?_
  exact lp_Te_firstRedex h hb _ 0 rfl (Nat.zero_le _) hQ
end
end
section
/-! The tape; letters, digits, combinators; stacks in arrays; depths. -/
def ta_is (M : mm_M) (t : Nat) (b : List Nat) : Prop := ∃ f : Nat → Int32, M[t]? = some (.inr (5, [.ref (t + 1), .int (nI b.length)])) ∧ M[t + 1]? = some (.inl (0, 400, .inl f)) ∧ (∀ i, i < b.length → f i = nI (b.getD i 0)) ∧ b.length ≤ 400
theorem ta_is.keep {P : Nat → Prop} {M M' : mm_M} {t : Nat} {b : List Nat} (h : ta_is M t b) (hon : mm_on P M M') (h1 : ¬ P t) (h2 : ¬ P (t + 1)) : ta_is M' t b := by
  obtain ⟨f, a1, a2, a3, a4⟩ := h
  exact ⟨f, by rw [hon t h1]; exact a1, by rw [hon (t + 1) h2]; exact a2, a3, a4⟩
def is_let (x : Int32) : Prop := 97 ≤ x.toInt ∧ x.toInt ≤ 122
def is_dig (v : Nat) : Prop := 48 ≤ v ∧ v ≤ 57
def is_com (v : Nat) : Prop := v = 83 ∨ v = 75 ∨ v = 73
section
variable {l : Launch} {sc : Nat × (Nat → Int32)} {M : mm_M} {Q : mm_O → mm_M → Prop} {t : Nat} {b : List Nat}
theorem c_LB_isLetter {x : Int32} (hY : is_let x → Q (.inl (some (.int (nI 1)))) M) (hN : ¬ is_let x → Q (.inl (some (.int (nI 0)))) M) : mm_Ct l sc Y_LB_isLetter M [.int x] Q := by
  refine mm_by k_LB_isLetter w_LB_isLetter rfl rfl ?_
  refine mg_run 2 rfl ?_
  refine mg_icmp rfl (fun h => ?_) (fun h => ?_)
  · refine mg_run 1 rfl ?_
    refine mg_zr rfl rfl (Or.inl rfl) rfl rfl (hN (fun h9 => ?_))
    have h8 := (i32_lt x (n := 97) (by decide)).mp h
    have h7 := h9.1
    omega
  · have h8 : ¬ x.toInt < 97 := fun h9 => h ((i32_lt x (n := 97) (by decide)).mpr h9)
    refine mg_run 2 rfl ?_
    refine mg_icmp rfl (fun h2 => ?_) (fun h2 => ?_)
    · refine mg_run 1 rfl ?_
      refine mg_zr rfl rfl (Or.inl rfl) rfl rfl (hN (fun h9 => ?_))
      have h6 := (i32_gt x (n := 122) (by decide)).mp h2
      have h7 := h9.2
      omega
    · have h6 : ¬ 122 < x.toInt := fun h9 => h2 ((i32_gt x (n := 122) (by decide)).mpr h9)
      refine mg_run 2 rfl ?_
      exact mg_zr rfl rfl (Or.inr rfl) rfl rfl (hY ⟨by omega, by omega⟩)
theorem c_LB_isDigit {v : Nat} (hv : v < 2 ^ 31) (hY : is_dig v → Q (.inl (some (.int (nI 1)))) M) (hN : ¬ is_dig v → Q (.inl (some (.int (nI 0)))) M) : mm_Ct l sc Y_LB_isDigit M [.int (nI v)] Q := by
  refine mm_by k_LB_isDigit w_LB_isDigit rfl rfl ?_
  refine mg_run 2 rfl ?_
  refine mg_lt rfl hv (by decide) (fun h => ?_) (fun h => ?_)
  · refine mg_run 1 rfl ?_
    exact mg_zr rfl rfl (Or.inl rfl) rfl rfl (hN (fun h9 => absurd h9.1 (by omega)))
  · refine mg_run 2 rfl ?_
    refine mg_gt rfl hv (by decide) (fun h2 => ?_) (fun h2 => ?_)
    · refine mg_run 1 rfl ?_
      exact mg_zr rfl rfl (Or.inl rfl) rfl rfl (hN (fun h9 => absurd h9.2 (by omega)))
    · refine mg_run 2 rfl ?_
      exact mg_zr rfl rfl (Or.inr rfl) rfl rfl (hY ⟨h, h2⟩)
theorem c_LB_isCombinator {v : Nat} (hv : v < 2 ^ 31) (hY : is_com v → Q (.inl (some (.int (nI 1)))) M) (hN : ¬ is_com v → Q (.inl (some (.int (nI 0)))) M) : mm_Ct l sc Y_LB_isCombinator M [.int (nI v)] Q := by
  refine mm_by k_LB_isCombinator w_LB_isCombinator rfl rfl ?_
  refine mg_run 2 rfl ?_
  refine mg_eq rfl hv (by decide) (fun h => ?_) (fun h => ?_)
  · refine mg_run 2 rfl ?_
    exact mg_zr rfl rfl (Or.inr rfl) rfl rfl (hY (Or.inl h))
  · refine mg_run 2 rfl ?_
    refine mg_eq rfl hv (by decide) (fun h2 => ?_) (fun h2 => ?_)
    · refine mg_run 2 rfl ?_
      exact mg_zr rfl rfl (Or.inr rfl) rfl rfl (hY (Or.inr (Or.inl h2)))
    · refine mg_run 2 rfl ?_
      refine mg_ne rfl hv (by decide) (fun h3 => ?_) (fun h3 => ?_)
      · refine mg_run 1 rfl ?_
        refine mg_zr rfl rfl (Or.inl rfl) rfl rfl (hN ?_)
        rintro (h9 | h9 | h9)
        · exact h h9
        · exact h2 h9
        · exact h3 h9
      · refine mg_run 2 rfl ?_
        exact mg_zr rfl rfl (Or.inr rfl) rfl rfl (hY (Or.inr (Or.inr h3)))
theorem c_Ta_length (h : ta_is M t b) (hQ : Q (.inl (some (.int (nI b.length)))) M) : mm_Ct l sc Y_Ta_length M [.ref t] Q := by
  obtain ⟨f, a1, a2, a3, a4⟩ := h
  refine mm_by k_Ta_length w_Ta_length rfl rfl ?_
  refine mg_run 1 rfl ?_
  refine mg_get rfl rfl a1 rfl ?_
  exact mg_ir rfl rfl rfl rfl hQ
theorem c_Ta_at (h : ta_is M t b) {i : Nat} (hi : i < 2 ^ 31) (hQ : Q (.inl (some (.int (nI (b.getD i 0))))) M) : mm_Ct l sc Y_Ta_at M [.ref t, .int (nI i)] Q := by
  obtain ⟨f, a1, a2, a3, a4⟩ := h
  refine mm_by k_Ta_at w_Ta_at rfl rfl ?_
  refine mg_run 1 rfl ?_
  refine mg_zlt rfl hi ?_
  refine mg_run 2 rfl ?_
  refine mg_get rfl rfl a1 rfl ?_
  refine mg_ge rfl hi (by omega) (fun h => ?_) (fun h => ?_)
  · refine mg_run 1 rfl ?_
    rw [te_getD h] at hQ
    exact mg_ir rfl rfl rfl rfl hQ
  · refine mg_run 1 rfl ?_
    refine mg_get rfl rfl a1 rfl ?_
    refine mg_run 1 rfl ?_
    refine mg_ildN rfl a2 (by decide) (by omega) ?_
    refine mg_run 1 rfl ?_
    rw [a3 i h]
    exact mg_ir rfl rfl rfl rfl hQ
theorem c_Ta_clear (h : ta_is M t b) (hQ : ∀ M', ta_is M' t [] → mm_on (te_P t) M M' → Q (.inl none) M') : mm_Ct l sc Y_Ta_clear M [.ref t] Q := by
  obtain ⟨f, a1, a2, a3, a4⟩ := h
  refine mm_by k_Ta_clear w_Ta_clear rfl rfl ?_
  refine mg_run 2 rfl ?_
  refine mg_put rfl rfl a1 rfl rfl ?_
  have b1 := mm_at_set (.inr (5, [.ref (t + 1), .int (nI 0)])) a1
  refine mg_vr rfl rfl rfl rfl ?_
  exact hQ _ ⟨f, b1, mm_at_ne (by omega) a2, fun i hi => absurd hi (Nat.not_lt_zero i), Nat.zero_le _⟩ (mm_on.set M _ (Or.inl rfl))
theorem c_Ta_add (h : ta_is M t b) (hl : b.length < 400) {v : Nat} (hQ : ∀ M', ta_is M' t (b ++ [v]) → mm_on (te_P t) M M' → Q (.inl none) M') : mm_Ct l sc Y_Ta_add M [.ref t, .int (nI v)] Q := by
  obtain ⟨f, a1, a2, a3, a4⟩ := h
  refine mm_by k_Ta_add w_Ta_add rfl rfl ?_
  refine mg_run 1 rfl ?_
  refine mg_get rfl rfl a1 rfl ?_
  refine mg_run 1 rfl ?_
  refine mg_ge rfl (by omega) (by omega) (fun h => absurd h (by omega)) (fun h => ?_)
  refine mg_run 1 rfl ?_
  refine mg_get rfl rfl a1 rfl ?_
  refine mg_run 1 rfl ?_
  refine mg_get rfl rfl a1 rfl ?_
  refine mg_run 1 rfl ?_
  refine mg_istN rfl a2 (by decide) h ?_
  have b2 := mm_at_set (.inl (0, 400, .inl (upd f b.length (nI v)))) a2
  have b1 : (M.set (t + 1) (.inl (0, 400, .inl (upd f b.length (nI v)))))[t]? = some (.inr (5, [.ref (t + 1), .int (nI b.length)])) := mm_at_ne (by omega) a1
  refine mg_run 2 rfl ?_
  refine mg_get rfl rfl b1 rfl ?_
  refine mg_run 1 rfl ?_
  refine mg_addN rfl ?_
  refine mg_put rfl rfl b1 rfl rfl ?_
  have c1 := mm_at_set (.inr (5, [.ref (t + 1), .int (nI (b.length + 1))])) b1
  refine mg_vr rfl rfl rfl rfl ?_
  refine hQ _ ⟨upd f b.length (nI v), ?_, mm_at_ne (by omega) b2, te_upd a3, by simp; omega⟩ ?_
  · rw [List.length_append]; exact c1
  · exact (mm_on.set M _ (Or.inr rfl)).tr (mm_on.set _ _ (Or.inl rfl))
/-- the number behind the # at i: one digit or two -/
def ta_num (b : List Nat) (i : Nat) : Nat := if 48 ≤ b.getD (i + 2) 0 ∧ b.getD (i + 2) 0 ≤ 57 then 10 * (b.getD (i + 1) 0 - 48) + (b.getD (i + 2) 0 - 48) else b.getD (i + 1) 0 - 48
theorem c_Ta_numberBehind (h : ta_is M t b) {i : Nat} (hi : i < 100000) (hb : ∀ j, b.getD j 0 < 256) (h1 : 48 ≤ b.getD (i + 1) 0) (hQ : Q (.inl (some (.int (nI (ta_num b i))))) M) : mm_Ct l sc Y_Ta_numberBehind M [.ref t, .int (nI i)] Q := by
  obtain ⟨f, a1, a2, a3, a4⟩ := id h
  have hb1 := hb (i + 1)
  have hb2 := hb (i + 2)
  refine mm_by k_Ta_numberBehind w_Ta_numberBehind rfl rfl ?_
  refine mg_run 3 rfl ?_
  refine mg_addN rfl ?_
  refine mg_callV [.int (nI (i + 1))] rfl rfl rfl a1 rfl rfl rfl rfl (c_Ta_at h (by omega) ?_)
  refine mg_run 1 rfl ?_
  refine mg_subN rfl h1 ?_
  refine mg_run 4 rfl ?_
  refine mg_addN rfl ?_
  refine mg_callV [.int (nI (i + 2))] rfl rfl rfl a1 rfl rfl rfl rfl (c_Ta_at h (by omega) ?_)
  refine mg_run 2 rfl ?_
  refine mg_callN [.int (nI (b.getD (i + 2) 0))] rfl rfl rfl rfl rfl (c_LB_isDigit (by omega) (fun hd => ?_) (fun hd => ?_))
  · refine mg_zeq rfl (by decide) (fun h9 => absurd h9 (by decide)) (fun h9 => ?_)
    refine mg_run 2 rfl ?_
    refine mg_mulN rfl ?_
    refine mg_run 1 rfl ?_
    refine mg_addN rfl ?_
    refine mg_run 1 rfl ?_
    refine mg_subN rfl (by have := hd.1; omega) ?_
    refine mg_run 1 rfl ?_
    refine mg_ir rfl rfl rfl rfl ?_
    have hd' : 48 ≤ b.getD (i + 2) 0 ∧ b.getD (i + 2) 0 ≤ 57 := hd
    rw [ta_num, if_pos hd'] at hQ
    have e : 10 * (b.getD (i + 1) 0 - 48) + b.getD (i + 2) 0 - 48 = 10 * (b.getD (i + 1) 0 - 48) + (b.getD (i + 2) 0 - 48) := by have := hd.1; omega
    rw [e]
    exact hQ
  · refine mg_zeq rfl (by decide) (fun h9 => ?_) (fun h9 => absurd h9 (by decide))
    refine mg_run 1 rfl ?_
    refine mg_ir rfl rfl rfl rfl ?_
    have hd' : ¬ (48 ≤ b.getD (i + 2) 0 ∧ b.getD (i + 2) 0 ≤ 57) := hd
    rw [ta_num, if_neg hd'] at hQ
    exact hQ
end
/-! stacks that lie in arrays -/
def sk_in (w : Nat → Int32) (st : List Nat) : Prop := ∀ j, j < st.length → w j = nI (st.reverse.getD j 0)
theorem sk_top {w : Nat → Int32} {d : Nat} {st : List Nat} (h : sk_in w (d :: st)) : w st.length = nI d := by
  have h9 := h st.length (by simp)
  rw [h9]
  simp [List.getD, List.getElem?_append_right]
theorem sk_pop {w : Nat → Int32} {d : Nat} {st : List Nat} (h : sk_in w (d :: st)) : sk_in w st := by
  intro j hj
  rw [h j (by simp; omega)]
  simp [List.getD, List.getElem?_append_left (show j < st.reverse.length by simpa using hj)]
theorem sk_push {w : Nat → Int32} {d : Nat} {st : List Nat} (h : sk_in w st) : sk_in (upd w st.length (nI d)) (d :: st) := by
  intro j hj
  have hj' : j < st.length + 1 := by simpa using hj
  by_cases e : j = st.length
  · subst e
    rw [pk_us]
    simp [List.getD, List.getElem?_append_right]
  · rw [pk_un e, h j (by omega)]
    simp [List.getD, List.getElem?_append_left (show j < st.reverse.length by simp; omega)]
/-- the depths of a part, by the stack of depths that are still to come -/
def te_ms : List Nat → List Nat → List Nat
  | [], _ => []
  | _ :: _, [] => []
  | c :: l, d :: st => d :: te_ms l (if c = 64 then d :: d :: st else if c = 92 then (d + 1) :: st else st)
theorem te_ms_len : ∀ (l st : List Nat), (te_ms l st).length = te_sc l st.length := by
  intro l
  induction l with
  | nil => intro st; rfl
  | cons c l ih =>
    intro st
    cases st with
    | nil => rfl
    | cons d st =>
      show (te_ms l _).length + 1 = te_sc l _ + 1
      rw [ih]
      congr 2
      split
      · rfl
      · split
        · rfl
        · rfl
def de_is (M : mm_M) (d : Nat) (dep : Nat → Int32) : Prop := ∃ w : Nat → Int32, M[d]? = some (.inr (2, [.ref (d + 1), .ref (d + 2)])) ∧ M[d + 1]? = some (.inl (0, 2000, .inl dep)) ∧ M[d + 2]? = some (.inl (0, 2002, .inl w))
def de_P (d i : Nat) : Prop := i = d + 1 ∨ i = d + 2
theorem de_is.keep {P : Nat → Prop} {M M' : mm_M} {d : Nat} {dep : Nat → Int32} (h : de_is M d dep) (hon : mm_on P M M') (h0 : ¬ P d) (h1 : ¬ P (d + 1)) (h2 : ¬ P (d + 2)) : de_is M' d dep := by
  obtain ⟨w, a1, a2, a3⟩ := h
  exact ⟨w, by rw [hon d h0]; exact a1, by rw [hon (d + 1) h1]; exact a2, by rw [hon (d + 2) h2]; exact a3⟩
end
section
/-! Depths: measure and at. -/
section
variable {l : Launch} {sc : Nat × (Nat → Int32)} {M : mm_M} {Q : mm_O → mm_M → Prop} {t g d : Nat} {r : List Nat}
theorem c_De_at {dep : Nat → Int32} (h : de_is M d dep) {i : Nat} (hi : i < 2000) (hQ : Q (.inl (some (.int (dep i)))) M) : mm_Ct l sc Y_De_at M [.ref d, .int (nI i)] Q := by
  obtain ⟨w, a1, a2, a3⟩ := h
  refine mm_by k_De_at w_De_at rfl rfl ?_
  refine mg_run 1 rfl ?_
  refine mg_zlt rfl (by omega) ?_
  refine mg_run 2 rfl ?_
  refine mg_ge rfl (by omega) (by decide) (fun h => absurd h (by omega)) (fun h => ?_)
  refine mg_run 1 rfl ?_
  refine mg_get rfl rfl a1 rfl ?_
  refine mg_run 1 rfl ?_
  refine mg_ildN rfl a2 (by decide) (by omega) ?_
  refine mg_run 1 rfl ?_
  exact mg_ir rfl rfl rfl rfl hQ
theorem te_de (d1 : ¬ te_P t (d + 1)) (d2 : ¬ te_P t (d + 2)) : ¬ de_P d t ∧ ¬ de_P d (t + 1) := by
  unfold te_P at d1 d2
  unfold de_P
  omega
/-- what measure leaves: depths of the part, all else as it was -/
def de_post (dep dep' : Nat → Int32) (i : Nat) (ds : List Nat) : Prop := (∀ j, j < ds.length → dep' (i + j) = nI (ds.getD j 0)) ∧ ∀ j, (j < i ∨ i + ds.length ≤ j) → dep' j = dep j
theorem de_post_cons {dep dep' : Nat → Int32} {i x : Nat} {ds : List Nat} (h : de_post (upd dep i (nI x)) dep' (i + 1) ds) : de_post dep dep' i (x :: ds) := by
  refine ⟨fun j hj => ?_, fun j hj => ?_⟩
  · cases j with
    | zero => rw [h.2 (i + 0) (Or.inl (by omega)), Nat.add_zero, pk_us]; rfl
    | succ j =>
      have h9 := h.1 j (by simpa using hj)
      rw [show i + (j + 1) = i + 1 + j by omega, h9]; rfl
  · have hl : (x :: ds).length = ds.length + 1 := rfl
    rw [hl] at hj
    rw [h.2 j (by omega), pk_un (by omega)]
theorem lp_De_measure (hb : ∀ i, r.getD i 0 < 2 ^ 31) {x2 : Int32} : ∀ m i (st : List Nat) (x5 x6 : Option Value) (M : mm_M) (dep w : Nat → Int32), mm_c2 (some x5) = false → te_is M t r g → ¬ te_P t d → ¬ te_P t (d + 1) → ¬ te_P t (d + 2) → M[d]? = some (.inr (2, [.ref (d + 1), .ref (d + 2)])) → M[d + 1]? = some (.inl (0, 2000, .inl dep)) → M[d + 2]? = some (.inl (0, 2002, .inl w)) → sk_in w st → (∀ y ∈ st, y + (r.length - i) ≤ 10000) → r.length - i = m → i ≤ r.length → st.length + (r.length - i) ≤ 2001 →
    (∀ M' dep', de_is M' d dep' → de_post dep dep' i (te_ms (r.drop i) st) → mm_on (de_P d) M M' → Q (.inl (some (.int (nI (i + te_sc (r.drop i) st.length))))) M') →
    mm_Go l sc Y_De_measure 0 0 M [some (.ref d), some (.ref t), some (.int x2), some (.int (nI st.length)), some (.int (nI i)), x5, x6] [] 12 Q := by
  intro m
  induction m with
  | zero =>
    intro i st x5 x6 M dep w hx5 ht d0 d1 d2 a1 a2 a3 hsk hy hm hi hsz hQ
    have h4 := ht.len
    obtain ⟨f, b1, b2, b3, b4, b5⟩ := id ht
    have e : i = r.length := by omega
    subst e
    refine mg_run 2 rfl ?_
    refine mg_callV [] rfl rfl rfl b1 rfl rfl rfl rfl (c_Te_length ht ?_)
    refine mg_ge rfl (by omega) (by omega) (fun h => ?_) (fun h => absurd h (by omega))
    refine mg_run 1 rfl ?_
    refine mg_ir rfl rfl rfl rfl ?_
    rw [List.drop_length] at hQ
    exact hQ M dep ⟨w, a1, a2, a3⟩ ⟨fun j hj => absurd hj (Nat.not_lt_zero j), fun _ _ => rfl⟩ (mm_on.rf _ M)
  | succ m ih =>
    intro i st x5 x6 M dep w hx5 ht d0 d1 d2 a1 a2 a3 hsk hy hm hi hsz hQ
    have h4 := ht.len
    obtain ⟨f, b1, b2, b3, b4, b5⟩ := id ht
    refine mg_run 2 rfl ?_
    refine mg_callV [] rfl rfl rfl b1 rfl rfl rfl rfl (c_Te_length ht ?_)
    refine mg_ge rfl (by omega) (by omega) (fun h => absurd h (by omega)) (fun h9 => ?_)
    refine mg_run 1 rfl ?_
    refine mg_zle rfl (by omega) (fun h0 => ?_) (fun h0 => ?_)
    · have e : st = [] := List.length_eq_zero_iff.mp h0
      subst e
      refine mg_run 1 rfl ?_
      refine mg_ir rfl rfl rfl rfl ?_
      have e2 : te_sc (r.drop i) ([] : List Nat).length = 0 := te_sc0 _
      have e3 : te_ms (r.drop i) [] = [] := by rw [te_drop h9]; rfl
      rw [e2, e3] at hQ
      exact hQ M dep ⟨w, a1, a2, a3⟩ ⟨fun j hj => absurd hj (Nat.not_lt_zero j), fun _ _ => rfl⟩ (mm_on.rf _ M)
    · cases st with
      | nil => exact absurd h0 (by simp)
      | cons x st =>
        have hyx := hy x List.mem_cons_self
        have hsz' : st.length + 1 + (r.length - i) ≤ 2001 := hsz
        rw [te_drop h9] at hQ
        refine mg_decN (a := st.length) rfl rfl rfl ?_
        refine mg_run 1 rfl ?_
        refine mg_get rfl rfl a1 rfl ?_
        refine mg_run 1 rfl ?_
        refine mg_ildN rfl a3 (by decide) (by omega) ?_
        rw [sk_top hsk]
        refine mg_run 2 rfl ?_
        refine mg_get rfl rfl a1 rfl ?_
        refine mg_run 2 rfl ?_
        refine mg_istN rfl a2 (by decide) (by omega) ?_
        have c2 := mm_at_set (.inl (0, 2000, .inl (upd dep i (nI x)))) a2
        have c1 : (M.set (d + 1) (.inl (0, 2000, .inl (upd dep i (nI x)))))[d]? = _ := mm_at_ne (by omega) a1
        have c3 : (M.set (d + 1) (.inl (0, 2000, .inl (upd dep i (nI x)))))[d + 2]? = _ := mm_at_ne (by omega) a3
        have hon1 : mm_on (de_P d) M (M.set (d + 1) (.inl (0, 2000, .inl (upd dep i (nI x))))) := mm_on.set M _ (Or.inl rfl)
        have ht1 : te_is (M.set (d + 1) (.inl (0, 2000, .inl (upd dep i (nI x))))) t r g := ht.keep hon1 (te_de d1 d2).1 (te_de d1 d2).2
        generalize hM1 : M.set (d + 1) (.inl (0, 2000, .inl (upd dep i (nI x)))) = M1 at c1 c2 c3 hon1 ht1 ⊢
        obtain ⟨f', e1, -⟩ := id ht1
        refine mg_run 2 rfl ?_
        refine mg_callV [.int (nI i)] rfl rfl rfl e1 rfl rfl rfl rfl (c_Te_at ht1 (by omega) ?_)
        refine mg_run 3 rfl ?_
        refine mg_ne rfl (hb i) (by decide) (fun h7 => ?_) (fun h7 => ?_)
        · refine mg_run 2 rfl ?_
          refine mg_ne rfl (hb i) (by decide) (fun h6 => ?_) (fun h6 => ?_)
          · refine mg_incN rfl rfl rfl ?_
            refine mg_run 1 rfl ?_
            refine ih (i + 1) st _ _ M1 _ w rfl ht1 d0 d1 d2 c1 c2 c3 (sk_pop hsk) (fun y hy9 => by have := hy y (List.mem_cons_of_mem _ hy9); omega) (by omega) (by omega) (by omega) (fun M' dep' p1 p2 p3 => ?_)
            have q := hQ M' dep' p1 (by rw [te_ms, if_neg h7, if_neg h6]; exact de_post_cons p2) (hon1.tr p3)
            rw [List.length_cons, te_sc, if_neg h7, if_neg h6] at q
            rw [show i + 1 + te_sc (r.drop (i + 1)) st.length = i + (te_sc (r.drop (i + 1)) st.length + 1) by omega]
            exact q
          · refine mg_run 1 rfl ?_
            refine mg_get rfl rfl c1 rfl ?_
            refine mg_run 3 rfl ?_
            refine mg_addN rfl ?_
            refine mg_istN rfl c3 (by decide) (by omega) ?_
            have f3 := mm_at_set (.inl (0, 2002, .inl (upd w st.length (nI (x + 1))))) c3
            have f1 : (M1.set (d + 2) (.inl (0, 2002, .inl (upd w st.length (nI (x + 1))))))[d]? = _ := mm_at_ne (by omega) c1
            have f2 : (M1.set (d + 2) (.inl (0, 2002, .inl (upd w st.length (nI (x + 1))))))[d + 1]? = _ := mm_at_ne (by omega) c2
            have hon2 : mm_on (de_P d) M1 (M1.set (d + 2) (.inl (0, 2002, .inl (upd w st.length (nI (x + 1)))))) := mm_on.set M1 _ (Or.inr rfl)
            have ht2 := ht1.keep hon2 (te_de d1 d2).1 (te_de d1 d2).2
            refine mg_incN rfl rfl rfl ?_
            refine mg_incN rfl rfl rfl ?_
            refine mg_run 1 rfl ?_
            refine ih (i + 1) ((x + 1) :: st) _ _ _ _ _ rfl ht2 d0 d1 d2 f1 f2 f3 (sk_push (sk_pop hsk)) (fun y hy9 => by
              rcases List.mem_cons.mp hy9 with rfl | h8
              · omega
              · have := hy y (List.mem_cons_of_mem _ h8); omega) (by omega) (by omega) (by simp; omega) (fun M' dep' p1 p2 p3 => ?_)
            have q := hQ M' dep' p1 (by rw [te_ms, if_neg h7, if_pos h6]; exact de_post_cons p2) ((hon1.tr hon2).tr p3)
            rw [List.length_cons, te_sc, if_neg h7, if_pos h6] at q
            rw [List.length_cons, show i + 1 + te_sc (r.drop (i + 1)) (st.length + 1) = i + (te_sc (r.drop (i + 1)) (st.length + 1) + 1) by omega]
            exact q
        · refine mg_run 1 rfl ?_
          refine mg_get rfl rfl c1 rfl ?_
          refine mg_run 2 rfl ?_
          refine mg_istN rfl c3 (by decide) (by omega) ?_
          have f3 := mm_at_set (.inl (0, 2002, .inl (upd w st.length (nI x)))) c3
          have f1 : (M1.set (d + 2) (.inl (0, 2002, .inl (upd w st.length (nI x)))))[d]? = _ := mm_at_ne (by omega) c1
          have f2 : (M1.set (d + 2) (.inl (0, 2002, .inl (upd w st.length (nI x)))))[d + 1]? = _ := mm_at_ne (by omega) c2
          have hon2 : mm_on (de_P d) M1 (M1.set (d + 2) (.inl (0, 2002, .inl (upd w st.length (nI x))))) := mm_on.set M1 _ (Or.inr rfl)
          have ht2 := ht1.keep hon2 (te_de d1 d2).1 (te_de d1 d2).2
          generalize hM2 : M1.set (d + 2) (.inl (0, 2002, .inl (upd w st.length (nI x)))) = M2 at f1 f2 f3 hon2 ht2 ⊢
          refine mg_run 1 rfl ?_
          refine mg_get rfl rfl f1 rfl ?_
          refine mg_run 2 rfl ?_
          refine mg_addN rfl ?_
          refine mg_run 1 rfl ?_
          refine mg_istN rfl f3 (by decide) (by omega) ?_
          have k3 := mm_at_set (.inl (0, 2002, .inl (upd (upd w st.length (nI x)) (st.length + 1) (nI x)))) f3
          have k1 : (M2.set (d + 2) (.inl (0, 2002, .inl (upd (upd w st.length (nI x)) (st.length + 1) (nI x)))))[d]? = _ := mm_at_ne (by omega) f1
          have k2 : (M2.set (d + 2) (.inl (0, 2002, .inl (upd (upd w st.length (nI x)) (st.length + 1) (nI x)))))[d + 1]? = _ := mm_at_ne (by omega) f2
          have hon3 : mm_on (de_P d) M2 (M2.set (d + 2) (.inl (0, 2002, .inl (upd (upd w st.length (nI x)) (st.length + 1) (nI x))))) := mm_on.set M2 _ (Or.inr rfl)
          have ht3 := ht2.keep hon3 (te_de d1 d2).1 (te_de d1 d2).2
          refine mg_incN rfl rfl rfl ?_
          refine mg_run 1 rfl ?_
          refine mg_incN rfl rfl rfl ?_
          refine mg_run 1 rfl ?_
          refine ih (i + 1) (x :: x :: st) _ _ _ _ _ rfl ht3 d0 d1 d2 k1 k2 k3 (sk_push (st := x :: st) (sk_push (sk_pop hsk))) (fun y hy9 => by
            rcases List.mem_cons.mp hy9 with rfl | h8
            · omega
            · have := hy y h8; omega) (by omega) (by omega) (by simp; omega) (fun M' dep' p1 p2 p3 => ?_)
          have q := hQ M' dep' p1 (by rw [te_ms, if_pos h7]; exact de_post_cons p2) (((hon1.tr hon2).tr hon3).tr p3)
          rw [List.length_cons, te_sc, if_pos h7] at q
          rw [List.length_cons, List.length_cons, show i + 1 + te_sc (r.drop (i + 1)) (st.length + 1 + 1) = i + (te_sc (r.drop (i + 1)) (st.length + 1 + 1) + 1) by omega]
          exact q
theorem c_De_measure {dep : Nat → Int32} (h : de_is M d dep) (ht : te_is M t r g) (d0 : ¬ te_P t d) (d1 : ¬ te_P t (d + 1)) (d2 : ¬ te_P t (d + 2)) (hb : ∀ i, r.getD i 0 < 2 ^ 31) {i : Nat} (hi : i ≤ r.length) (hQ : ∀ M' dep', de_is M' d dep' → de_post dep dep' i (te_ms (r.drop i) [0]) → mm_on (de_P d) M M' → Q (.inl (some (.int (nI (i + te_sc (r.drop i) 1))))) M') : mm_Ct l sc Y_De_measure M [.ref d, .ref t, .int (nI i)] Q := by
  obtain ⟨w, a1, a2, a3⟩ := h
  have h4 := ht.len
  refine mm_by k_De_measure w_De_measure rfl rfl ?_
  refine mg_run 3 rfl ?_
  refine mg_get rfl rfl a1 rfl ?_
  refine mg_run 2 rfl ?_
  refine mg_istN rfl a3 (by decide) (by decide) ?_
  have c3 := mm_at_set (.inl (0, 2002, .inl (upd w 0 (nI 0)))) a3
  have c1 : (M.set (d + 2) (.inl (0, 2002, .inl (upd w 0 (nI 0)))))[d]? = _ := mm_at_ne (by omega) a1
  have c2 : (M.set (d + 2) (.inl (0, 2002, .inl (upd w 0 (nI 0)))))[d + 1]? = _ := mm_at_ne (by omega) a2
  have hon : mm_on (de_P d) M (M.set (d + 2) (.inl (0, 2002, .inl (upd w 0 (nI 0))))) := mm_on.set M _ (Or.inr rfl)
  have ht1 := ht.keep hon (te_de d1 d2).1 (te_de d1 d2).2
  refine mg_run 2 rfl ?_
  exact lp_De_measure hb _ i [0] none none _ _ _ rfl ht1 d0 d1 d2 c1 c2 c3 (sk_push (st := []) (fun j hj => absurd hj (Nat.not_lt_zero j))) (fun y hy => by rw [List.mem_singleton] at hy; subst hy; omega) rfl hi (by simp; omega) (fun M' dep' p1 p2 p3 => hQ M' dep' p1 p2 (hon.tr p3))
end
end
section
/-! A writer that stops being right when too much has been written; pieces one behind another. -/
def wr (b : List Nat × Nat) (out : List Nat) : Prop := (out.length ≤ 2000 ∧ b = (out, 0)) ∨ (2000 < out.length ∧ b.2 = 1)
theorem wr0 : wr ([], 0) [] := Or.inl ⟨Nat.zero_le _, rfl⟩
theorem wr.add {b : List Nat × Nat} {out : List Nat} (h : wr b out) (v : Nat) : wr (te_add b v) (out ++ [v]) := by
  have hl : (out ++ [v]).length = out.length + 1 := by simp
  rcases h with ⟨h1, rfl⟩ | ⟨h1, h2⟩
  · by_cases hc : out.length < 2000
    · exact Or.inl ⟨by omega, if_pos hc⟩
    · refine Or.inr ⟨by omega, ?_⟩
      have e : te_add (out, 0) v = (out, 1) := if_neg hc
      rw [e]
  · refine Or.inr ⟨by omega, ?_⟩
    unfold te_add
    split
    · exact h2
    · rfl
theorem wr.adds {b : List Nat × Nat} {out : List Nat} (h : wr b out) (p : List Nat) : wr (te_adds b p) (out ++ p) := by
  have hl : (out ++ p).length = out.length + p.length := by simp
  rcases h with ⟨h1, rfl⟩ | ⟨h1, h2⟩
  · by_cases hc : out.length + p.length ≤ 2000
    · exact Or.inl ⟨by omega, if_pos hc⟩
    · refine Or.inr ⟨by omega, ?_⟩
      have e : te_adds (out, 0) p = (out, 1) := if_neg hc
      rw [e]
  · refine Or.inr ⟨by omega, ?_⟩
    unfold te_adds
    split
    · exact h2
    · rfl
/-- once too great, always -/
theorem wr.more {b : List Nat × Nat} {out : List Nat} (h : wr b out) (h1 : 0 < b.2) (p : List Nat) : wr b (out ++ p) := by
  rcases h with ⟨h2, rfl⟩ | ⟨h2, h3⟩
  · exact absurd h1 (by simp)
  · exact Or.inr ⟨by rw [List.length_append]; omega, h3⟩
theorem wr.ok {b : List Nat × Nat} {out : List Nat} (h : wr b out) (h1 : b.2 = 0) : out.length ≤ 2000 ∧ b = (out, 0) := by
  rcases h with h2 | ⟨h2, h3⟩
  · exact h2
  · omega
theorem wr.not {b : List Nat × Nat} {out : List Nat} (h : wr b out) (h1 : 0 < b.2) : 2000 < out.length := by
  rcases h with ⟨h2, rfl⟩ | ⟨h2, h3⟩
  · exact absurd h1 (by simp)
  · exact h2
/-- the pieces of n places from s on -/
def te_pc (f : Nat → List Nat) : Nat → Nat → List Nat
  | _, 0 => []
  | s, n + 1 => f s ++ te_pc f (s + 1) n
/-! the reducer's cells -/
def re_is (M : mm_M) (a b o : Nat) (dep : Nat → Int32) : Prop := M[39]? = some (.inr (4, [.ref 40, .ref a, .ref b, .int (nI o)])) ∧ de_is M 40 dep ∧ ((a = 43 ∧ b = 45) ∨ (a = 45 ∧ b = 43))
theorem re_sep {a b : Nat} (h : (a = 43 ∧ b = 45) ∨ (a = 45 ∧ b = 43)) : (¬ te_P b 39 ∧ ¬ te_P b 40 ∧ ¬ te_P b (40 + 1) ∧ ¬ te_P b (40 + 2)) ∧ te_ap b a ∧ te_ap a b ∧ (¬ te_P a 40 ∧ ¬ te_P a (40 + 1) ∧ ¬ te_P a (40 + 2)) ∧ (¬ de_P 40 39 ∧ ¬ de_P 40 a ∧ ¬ de_P 40 (a + 1) ∧ ¬ de_P 40 b ∧ ¬ de_P 40 (b + 1)) ∧ ¬ te_P a 39 := by
  unfold te_ap te_P de_P
  rcases h with ⟨rfl, rfl⟩ | ⟨rfl, rfl⟩ <;> decide
theorem re_is.keep {M M' : mm_M} {a b o : Nat} {dep : Nat → Int32} (h : re_is M a b o dep) (hon : mm_on (te_P b) M M') : re_is M' a b o dep := by
  obtain ⟨h1, h2, h3⟩ := h
  obtain ⟨⟨s1, s2, s3, s4⟩, -⟩ := re_sep h3
  exact ⟨by rw [hon 39 s1]; exact h1, h2.keep hon s2 s3 s4, h3⟩
end
section
/-! The reducer: what it writes. -/
section
variable {l : Launch} {sc : Nat × (Nat → Int32)} {Q : mm_O → mm_M → Prop} {a b o ga : Nat} {r : List Nat} {dep : Nat → Int32}
/-- a place of the argument, under mo abstractions more -/
def te_sf (r : List Nat) (D : Nat → Nat) (mo i : Nat) : List Nat := [if r.getD i 0 < 1000 + D i then r.getD i 0 else r.getD i 0 + mo]
theorem lp_Re_writeArgument (hb : ∀ i, r.getD i 0 < 10000) {D : Nat → Nat} {en mo : Nat} {x1 : Int32} (h2 : en ≤ r.length) (hmo : mo < 10000) : ∀ m i (x5 : Option Value) (M : mm_M) (bf : List Nat × Nat) (out : List Nat), re_is M a b o dep → te_is M a r ga → te_is M b bf.1 bf.2 → wr bf out → (∀ j, i ≤ j → j < en → dep j = nI (D j) ∧ D j < 10000) → en - i = m → i ≤ en →
    (∀ M' bf', te_is M' b bf'.1 bf'.2 → wr bf' (out ++ te_pc (te_sf r D mo) i m) → mm_on (te_P b) M M' → Q (.inl none) M') →
    mm_Go l sc Y_Re_writeArgument 0 0 M [some (.ref 39), some (.int x1), some (.int (nI en)), some (.int (nI mo)), some (.int (nI i)), x5] [] 3 Q := by
  intro m
  induction m with
  | zero =>
    intro i x5 M bf out hR hA hB hw hD hm hi hQ
    have h4 := hA.len
    refine mg_run 2 rfl ?_
    refine mg_ge rfl (by omega) (by omega) (fun h => ?_) (fun h => absurd h (by omega))
    refine mg_vr rfl rfl rfl rfl ?_
    exact hQ M bf hB (by rw [te_pc, List.append_nil]; exact hw) (mm_on.rf _ M)
  | succ m ih =>
    intro i x5 M bf out hR hA hB hw hD hm hi hQ
    have h4 := hA.len
    obtain ⟨r1, r2, r3⟩ := id hR
    obtain ⟨⟨s1, s2, s3, s4⟩, s5, s6, s7, s8, s9⟩ := re_sep r3
    obtain ⟨fa, a1, a2, a3, a4, a5⟩ := id hA
    obtain ⟨fb, b1, b2, b3, b4, b5⟩ := id hB
    obtain ⟨w, d1, d2, d3⟩ := id r2
    obtain ⟨hd1, hd2⟩ := hD i (Nat.le_refl _) (by omega)
    have hbi := hb i
    refine mg_run 2 rfl ?_
    refine mg_ge rfl (by omega) (by omega) (fun h => absurd h (by omega)) (fun h => ?_)
    refine mg_run 1 rfl ?_
    refine mg_get rfl rfl r1 rfl ?_
    refine mg_callV [] rfl rfl rfl b1 rfl rfl rfl rfl (c_Te_isTooGreat hB ?_)
    refine mg_zne rfl (by omega) (fun h9 => ?_) (fun h9 => ?_)
    · refine mg_vr rfl rfl rfl rfl ?_
      exact hQ M bf hB (hw.more h9 _) (mm_on.rf _ M)
    · refine mg_run 1 rfl ?_
      refine mg_get rfl rfl r1 rfl ?_
      refine mg_run 1 rfl ?_
      refine mg_callV [.int (nI i)] rfl rfl rfl a1 rfl rfl rfl rfl (c_Te_at hA (by omega) ?_)
      refine mg_run 2 rfl ?_
      refine mg_get rfl rfl r1 rfl ?_
      refine mg_run 3 rfl ?_
      refine mg_get rfl rfl r1 rfl ?_
      refine mg_run 1 rfl ?_
      refine mg_callV [.int (nI i)] rfl rfl rfl d1 rfl rfl rfl rfl (c_De_at r2 (by omega) ?_)
      rw [hd1]
      refine mg_addN rfl ?_
      refine mg_lt rfl (by omega) (by omega) (fun h7 => ?_) (fun h7 => ?_)
      · refine mg_run 1 rfl ?_
        refine mg_callV [.int (nI (r.getD i 0))] rfl rfl rfl b1 rfl rfl rfl rfl (c_Te_add hB (fun M1 p1 p2 => ?_))
        refine mg_incN rfl rfl rfl ?_
        refine mg_run 1 rfl ?_
        refine ih (i + 1) _ M1 _ (out ++ [r.getD i 0]) (hR.keep p2) (hA.keep p2 s5.1 s5.2) p1 (hw.add _) (fun j q1 q2 => hD j (by omega) q2) (by omega) (by omega) (fun M' bf' q1 q2 q3 => hQ M' bf' q1 ?_ (p2.tr q3))
        rw [te_pc, te_sf, if_pos h7, ← List.append_assoc]
        exact q2
      · refine mg_run 2 rfl ?_
        refine mg_addN rfl ?_
        refine mg_run 1 rfl ?_
        refine mg_callV [.int (nI (r.getD i 0 + mo))] rfl rfl rfl b1 rfl rfl rfl rfl (c_Te_add hB (fun M1 p1 p2 => ?_))
        refine mg_incN rfl rfl rfl ?_
        refine mg_run 1 rfl ?_
        refine ih (i + 1) _ M1 _ (out ++ [r.getD i 0 + mo]) (hR.keep p2) (hA.keep p2 s5.1 s5.2) p1 (hw.add _) (fun j q1 q2 => hD j (by omega) q2) (by omega) (by omega) (fun M' bf' q1 q2 q3 => hQ M' bf' q1 ?_ (p2.tr q3))
        rw [te_pc, te_sf, if_neg (by omega), ← List.append_assoc]
        exact q2
theorem c_Re_writeArgument {M : mm_M} {bf : List Nat × Nat} {out : List Nat} (hb : ∀ i, r.getD i 0 < 10000) {D : Nat → Nat} {ar en mo : Nat} (h1 : ar ≤ en) (h2 : en ≤ r.length) (hmo : mo < 10000) (hR : re_is M a b o dep) (hA : te_is M a r ga) (hB : te_is M b bf.1 bf.2) (hw : wr bf out) (hD : ∀ j, ar ≤ j → j < en → dep j = nI (D j) ∧ D j < 10000)
    (hQ : ∀ M' bf', te_is M' b bf'.1 bf'.2 → wr bf' (out ++ te_pc (te_sf r D mo) ar (en - ar)) → mm_on (te_P b) M M' → Q (.inl none) M') : mm_Ct l sc Y_Re_writeArgument M [.ref 39, .int (nI ar), .int (nI en), .int (nI mo)] Q := by
  refine mm_by k_Re_writeArgument w_Re_writeArgument rfl rfl ?_
  refine mg_run 2 rfl ?_
  exact lp_Re_writeArgument hb h2 hmo _ ar none M bf out hR hA hB hw hD rfl h1 hQ
/-- a place of the body: the argument, or the code, one index less where it reaches out -/
def te_sb (r : List Nat) (D : Nat → Nat) (ar n i : Nat) : List Nat := if r.getD i 0 = 1000 + D i then te_pc (te_sf r D (D i)) ar n else [if r.getD i 0 ≤ 1000 + D i then r.getD i 0 else r.getD i 0 - 1]
theorem lp_Re_writeBody (hb : ∀ i, r.getD i 0 < 10000) {D : Nat → Nat} {ar en : Nat} {x1 : Int32} (h1 : ar ≤ en) (h2 : en ≤ r.length) : ∀ m i (x5 x6 : Option Value) (M : mm_M) (bf : List Nat × Nat) (out : List Nat), mm_c2 (some x5) = false → re_is M a b o dep → te_is M a r ga → te_is M b bf.1 bf.2 → wr bf out → (∀ j, i ≤ j → j < en → dep j = nI (D j) ∧ D j < 10000) → ar - i = m → i ≤ ar →
    (∀ M' bf', te_is M' b bf'.1 bf'.2 → wr bf' (out ++ te_pc (te_sb r D ar (en - ar)) i m) → mm_on (te_P b) M M' → Q (.inl (some (.int (nI en)))) M') →
    mm_Go l sc Y_Re_writeBody 0 0 M [some (.ref 39), some (.int x1), some (.int (nI ar)), some (.int (nI en)), some (.int (nI i)), x5, x6] [] 29 Q := by
  intro m
  induction m with
  | zero =>
    intro i x5 x6 M bf out hx5 hR hA hB hw hD hm hi hQ
    have h4 := hA.len
    refine mg_run 2 rfl ?_
    refine mg_ge rfl (by omega) (by omega) (fun h => ?_) (fun h => absurd h (by omega))
    refine mg_run 1 rfl ?_
    refine mg_ir rfl rfl rfl rfl ?_
    exact hQ M bf hB (by rw [te_pc, List.append_nil]; exact hw) (mm_on.rf _ M)
  | succ m ih =>
    intro i x5 x6 M bf out hx5 hR hA hB hw hD hm hi hQ
    have h4 := hA.len
    obtain ⟨r1, r2, r3⟩ := id hR
    obtain ⟨⟨s1, s2, s3, s4⟩, s5, s6, s7, s8, s9⟩ := re_sep r3
    obtain ⟨fa, a1, a2, a3, a4, a5⟩ := id hA
    obtain ⟨fb, b1, b2, b3, b4, b5⟩ := id hB
    obtain ⟨w, d1, d2, d3⟩ := id r2
    obtain ⟨hd1, hd2⟩ := hD i (Nat.le_refl _) (by omega)
    have hbi := hb i
    refine mg_run 2 rfl ?_
    refine mg_ge rfl (by omega) (by omega) (fun h => absurd h (by omega)) (fun h => ?_)
    refine mg_run 1 rfl ?_
    refine mg_get rfl rfl r1 rfl ?_
    refine mg_callV [] rfl rfl rfl b1 rfl rfl rfl rfl (c_Te_isTooGreat hB ?_)
    refine mg_zne rfl (by omega) (fun h9 => ?_) (fun h9 => ?_)
    · refine mg_run 1 rfl ?_
      refine mg_ir rfl rfl rfl rfl ?_
      exact hQ M bf hB (hw.more h9 _) (mm_on.rf _ M)
    · refine mg_run 1 rfl ?_
      refine mg_get rfl rfl r1 rfl ?_
      refine mg_run 1 rfl ?_
      refine mg_callV [.int (nI i)] rfl rfl rfl a1 rfl rfl rfl rfl (c_Te_at hA (by omega) ?_)
      refine mg_run 3 rfl ?_
      refine mg_get rfl rfl r1 rfl ?_
      refine mg_run 1 rfl ?_
      refine mg_callV [.int (nI i)] rfl rfl rfl d1 rfl rfl rfl rfl (c_De_at r2 (by omega) ?_)
      rw [hd1]
      refine mg_addN rfl ?_
      refine mg_run 3 rfl ?_
      refine mg_ne rfl (by omega) (by omega) (fun h7 => ?_) (fun h7 => ?_)
      · refine mg_run 1 rfl ?_
        refine mg_get rfl rfl r1 rfl ?_
        refine mg_run 2 rfl ?_
        refine mg_le rfl (by omega) (by omega) (fun h6 => ?_) (fun h6 => ?_)
        · refine mg_run 1 rfl ?_
          refine mg_callV [.int (nI (r.getD i 0))] rfl rfl rfl b1 rfl rfl rfl rfl (c_Te_add hB (fun M1 p1 p2 => ?_))
          refine mg_incN rfl rfl rfl ?_
          refine mg_run 1 rfl ?_
          refine ih (i + 1) _ _ M1 _ (out ++ [r.getD i 0]) rfl (hR.keep p2) (hA.keep p2 s5.1 s5.2) p1 (hw.add _) (fun j q1 q2 => hD j (by omega) q2) (by omega) (by omega) (fun M' bf' q1 q2 q3 => hQ M' bf' q1 ?_ (p2.tr q3))
          rw [te_pc, te_sb, if_neg h7, if_pos h6, ← List.append_assoc]
          exact q2
        · refine mg_run 2 rfl ?_
          refine mg_subN rfl (by omega) ?_
          refine mg_run 1 rfl ?_
          refine mg_callV [.int (nI (r.getD i 0 - 1))] rfl rfl rfl b1 rfl rfl rfl rfl (c_Te_add hB (fun M1 p1 p2 => ?_))
          refine mg_incN rfl rfl rfl ?_
          refine mg_run 1 rfl ?_
          refine ih (i + 1) _ _ M1 _ (out ++ [r.getD i 0 - 1]) rfl (hR.keep p2) (hA.keep p2 s5.1 s5.2) p1 (hw.add _) (fun j q1 q2 => hD j (by omega) q2) (by omega) (by omega) (fun M' bf' q1 q2 q3 => hQ M' bf' q1 ?_ (p2.tr q3))
          rw [te_pc, te_sb, if_neg h7, if_neg (by omega), ← List.append_assoc]
          exact q2
      · refine mg_run 4 rfl ?_
        refine mg_get rfl rfl r1 rfl ?_
        refine mg_run 1 rfl ?_
        refine mg_callV [.int (nI i)] rfl rfl rfl d1 rfl rfl rfl rfl (c_De_at r2 (by omega) ?_)
        rw [hd1]
        refine mg_callV [.int (nI ar), .int (nI en), .int (nI (D i))] rfl rfl rfl r1 rfl rfl rfl rfl (c_Re_writeArgument hb h1 h2 hd2 hR hA hB hw (fun j q1 q2 => hD j (by omega) q2) (fun M1 bf1 p1 p0 p2 => ?_))
        refine mg_run 1 rfl ?_
        refine mg_incN rfl rfl rfl ?_
        refine mg_run 1 rfl ?_
        refine ih (i + 1) _ _ M1 bf1 _ rfl (hR.keep p2) (hA.keep p2 s5.1 s5.2) p1 p0 (fun j q1 q2 => hD j (by omega) q2) (by omega) (by omega) (fun M' bf' q1 q2 q3 => hQ M' bf' q1 ?_ (p2.tr q3))
        rw [te_pc, te_sb, if_pos h7, ← List.append_assoc]
        exact q2
end
end
section
/-! The reducer: a step, and its runs. -/
theorem te_sc_le : ∀ (l : List Nat) (o : Nat), te_sc l o ≤ l.length := by
  intro l
  induction l with
  | nil => intro o; exact Nat.le_refl _
  | cons c l ih =>
    intro o
    cases o with
    | zero => exact Nat.zero_le _
    | succ o => exact Nat.succ_le_succ (ih _)
theorem te_ms_le : ∀ (l st : List Nat) (B : Nat), (∀ y ∈ st, y + l.length ≤ B) → ∀ x ∈ te_ms l st, x ≤ B := by
  intro l
  induction l with
  | nil => intro st B _ x hx; cases hx
  | cons c l ih =>
    intro st B h x hx
    cases st with
    | nil => cases hx
    | cons d st =>
      have hd := h d List.mem_cons_self
      rw [List.length_cons] at hd
      have hst : ∀ y ∈ st, y + l.length ≤ B := fun y hy => by
        have := h y (List.mem_cons_of_mem _ hy)
        rw [List.length_cons] at this
        omega
      rw [te_ms] at hx
      rcases List.mem_cons.mp hx with rfl | hx
      · omega
      · refine ih _ B (fun y hy => ?_) x hx
        split at hy
        · rcases List.mem_cons.mp hy with rfl | hy
          · omega
          · rcases List.mem_cons.mp hy with rfl | hy
            · omega
            · exact hst y hy
        · split at hy
          · rcases List.mem_cons.mp hy with rfl | hy
            · omega
            · exact hst y hy
          · exact hst y hy
/-- where the part that begins at s has ended; the part from s to e -/
def te_en (r : List Nat) (s : Nat) : Nat := s + te_sc (r.drop s) 1
def te_pt (r : List Nat) (s e : Nat) : List Nat := (r.drop s).take (e - s)
theorem te_en_le {r : List Nat} {s : Nat} (h : s ≤ r.length) : te_en r s ≤ r.length := by
  have := te_sc_le (r.drop s) 1
  rw [List.length_drop] at this
  unfold te_en
  omega
theorem te_en_ge (r : List Nat) (s : Nat) : s ≤ te_en r s := Nat.le_add_right _ _
/-- the depths in the part that begins at s -/
def te_D (r : List Nat) (s i : Nat) : Nat := (te_ms (r.drop s) [0]).getD (i - s) 0
theorem te_D_lt {r : List Nat} (h : r.length ≤ 2000) (s i : Nat) : te_D r s i < 10000 := by
  unfold te_D
  by_cases hi : i - s < (te_ms (r.drop s) [0]).length
  · have hx : (te_ms (r.drop s) [0]).getD (i - s) 0 ∈ te_ms (r.drop s) [0] := by
      simp only [List.getD, List.getElem?_eq_getElem hi, Option.getD_some]
      exact List.getElem_mem hi
    have := te_ms_le (r.drop s) [0] 2000 (fun y hy => by rw [List.mem_singleton] at hy; subst hy; rw [List.length_drop]; omega) _ hx
    omega
  · rw [te_getD (Nat.le_of_not_lt hi)]; omega
/-- .. of the body and of the argument behind it -/
def te_DD (r : List Nat) (s i : Nat) : Nat := if i < te_en r s then te_D r s i else te_D r (te_en r s) i
/-- what comes in place of the redex at i, and where the redex has ended -/
def te_out (r : List Nat) (i : Nat) : List Nat :=
  if te_rh r i = 92 then te_pc (te_sb r (te_DD r (i + 2)) (te_en r (i + 2)) (te_en r (te_en r (i + 2)) - te_en r (i + 2))) (i + 2) (te_en r (i + 2) - (i + 2))
  else if te_rh r i = 83 then [64] ++ [64] ++ te_pt r (i + 4) (te_en r (i + 4)) ++ te_pt r (te_en r (te_en r (i + 4))) (te_en r (te_en r (te_en r (i + 4)))) ++ [64] ++ te_pt r (te_en r (i + 4)) (te_en r (te_en r (te_en r (i + 4))))
  else if te_rh r i = 75 then te_pt r (i + 3) (te_en r (i + 3)) else te_pt r (i + 2) (te_en r (i + 2))
def te_end (r : List Nat) (i : Nat) : Nat :=
  if te_rh r i = 92 then te_en r (te_en r (i + 2)) else if te_rh r i = 83 then te_en r (te_en r (te_en r (i + 4))) else if te_rh r i = 75 then te_en r (te_en r (i + 3)) else te_en r (i + 2)
def te_step (r : List Nat) (i : Nat) : List Nat := r.take i ++ te_out r i ++ r.drop (te_end r i)
def re_P (b i : Nat) : Prop := te_P b i ∨ de_P 40 i
theorem te_rh_len {r : List Nat} {i : Nat} (h : ¬ te_rh r i = 0) : i < r.length ∧ i + 1 < r.length ∧ (te_rh r i = 75 → i + 2 < r.length) ∧ (te_rh r i = 83 → i + 3 < r.length) := by
  have key : ∀ j, ¬ r.getD j 0 = 0 → j < r.length := fun j hj => by
    by_cases h9 : j < r.length
    · exact h9
    · exact absurd (te_getD (Nat.le_of_not_lt h9)) hj
  unfold te_rh at h ⊢
  by_cases p0 : r.getD i 0 = 64
  · rw [if_pos p0] at h ⊢
    have k0 := key i (by omega)
    by_cases p1 : r.getD (i + 1) 0 = 92
    · rw [if_pos p1]; exact ⟨k0, key _ (by omega), fun h => absurd h (by decide), fun h => absurd h (by decide)⟩
    · rw [if_neg p1] at h ⊢
      by_cases p2 : r.getD (i + 1) 0 = 73
      · rw [if_pos p2]; exact ⟨k0, key _ (by omega), fun h => absurd h (by decide), fun h => absurd h (by decide)⟩
      · rw [if_neg p2] at h ⊢
        by_cases p3 : r.getD (i + 1) 0 = 64
        · rw [if_pos p3] at h ⊢
          have k1 := key (i + 1) (by omega)
          by_cases p4 : r.getD (i + 2) 0 = 75
          · rw [if_pos p4]; exact ⟨k0, k1, fun _ => key _ (by omega), fun h => absurd h (by decide)⟩
          · rw [if_neg p4] at h ⊢
            by_cases p5 : r.getD (i + 2) 0 = 64
            · rw [if_pos p5] at h ⊢
              by_cases p6 : r.getD (i + 3) 0 = 83
              · rw [if_pos p6]; exact ⟨k0, k1, fun h => absurd h (by decide), fun _ => key _ (by omega)⟩
              · rw [if_neg p6] at h; exact absurd rfl h
            · rw [if_neg p5] at h; exact absurd rfl h
        · rw [if_neg p3] at h; exact absurd rfl h
  · rw [if_neg p0] at h; exact absurd rfl h
section
variable {l : Launch} {sc : Nat × (Nat → Int32)} {Q : mm_O → mm_M → Prop} {a b o ga : Nat} {r : List Nat} {dep : Nat → Int32} {M : mm_M} {bf : List Nat × Nat} {out : List Nat}
theorem c_Re_writeBody (hb : ∀ i, r.getD i 0 < 10000) {s : Nat} (hs : s ≤ r.length) (hR : re_is M a b o dep) (hA : te_is M a r ga) (hB : te_is M b bf.1 bf.2) (hw : wr bf out)
    (hQ : ∀ M' bf' dep', re_is M' a b o dep' → te_is M' b bf'.1 bf'.2 → wr bf' (out ++ te_pc (te_sb r (te_DD r s) (te_en r s) (te_en r (te_en r s) - te_en r s)) s (te_en r s - s)) → mm_on (re_P b) M M' → Q (.inl (some (.int (nI (te_en r (te_en r s)))))) M') : mm_Ct l sc Y_Re_writeBody M [.ref 39, .int (nI s)] Q := by
  have h4 := hA.len
  obtain ⟨r1, r2, r3⟩ := id hR
  obtain ⟨⟨s1, s2, s3, s4⟩, s5, s6, s7, s8, s9⟩ := re_sep r3
  obtain ⟨fa, a1, a2, a3, a4, a5⟩ := id hA
  obtain ⟨w, d1, d2, d3⟩ := id r2
  have hb31 : ∀ i, r.getD i 0 < 2 ^ 31 := fun i => Nat.lt_trans (hb i) (by decide)
  refine mm_by k_Re_writeBody w_Re_writeBody rfl rfl ?_
  refine mg_run 1 rfl ?_
  refine mg_get rfl rfl r1 rfl ?_
  refine mg_run 1 rfl ?_
  refine mg_get rfl rfl r1 rfl ?_
  refine mg_run 1 rfl ?_
  refine mg_callV [.ref a, .int (nI s)] rfl rfl rfl d1 rfl rfl rfl rfl (c_De_measure r2 hA s7.1 s7.2.1 s7.2.2 hb31 hs (fun M1 dep1 p1 p2 p3 => ?_))
  have r1' : M1[39]? = _ := (p3 39 s8.1).trans r1
  have hA1 := hA.keep p3 s8.2.1 s8.2.2.1
  have hB1 := hB.keep p3 s8.2.2.2.1 s8.2.2.2.2
  obtain ⟨w1, e1, -⟩ := id p1
  refine mg_run 2 rfl ?_
  refine mg_get rfl rfl r1' rfl ?_
  refine mg_run 1 rfl ?_
  refine mg_get rfl rfl r1' rfl ?_
  refine mg_run 1 rfl ?_
  refine mg_callV [.ref a, .int (nI (te_en r s))] rfl rfl rfl e1 rfl rfl rfl rfl (c_De_measure p1 hA1 s7.1 s7.2.1 s7.2.2 hb31 (te_en_le hs) (fun M2 dep2 q1 q2 q3 => ?_))
  have r1'' : M2[39]? = _ := (q3 39 s8.1).trans r1'
  have hA2 := hA1.keep q3 s8.2.1 s8.2.2.1
  have hB2 := hB1.keep q3 s8.2.2.2.1 s8.2.2.2.2
  have hR2 : re_is M2 a b o dep2 := ⟨r1'', q1, r3⟩
  have hl1 : (te_ms (r.drop s) [0]).length = te_sc (r.drop s) 1 := te_ms_len _ _
  have hl2 : (te_ms (r.drop (te_en r s)) [0]).length = te_sc (r.drop (te_en r s)) 1 := te_ms_len _ _
  refine mg_run 3 rfl ?_
  refine lp_Re_writeBody (D := te_DD r s) hb (te_en_ge r _) (te_en_le (te_en_le hs)) _ s none none M2 bf out rfl hR2 hA2 hB2 hw (fun j h1 h2 => ?_) rfl (te_en_ge r s) (fun M' bf' k1 k2 k3 => ?_)
  · unfold te_DD
    by_cases hj : j < te_en r s
    · rw [if_pos hj]
      refine ⟨?_, te_D_lt h4 _ _⟩
      rw [q2.2 j (Or.inl hj)]
      have h9 := p2.1 (j - s) (by rw [hl1]; unfold te_en at hj; omega)
      rw [show s + (j - s) = j by omega] at h9
      exact h9
    · rw [if_neg hj]
      refine ⟨?_, te_D_lt h4 _ _⟩
      have h9 := q2.1 (j - te_en r s) (by rw [hl2]; have h8 : j < te_en r (te_en r s) := h2; unfold te_en at h8 hj ⊢; omega)
      rw [show te_en r s + (j - te_en r s) = j by omega] at h9
      exact h9
  · exact hQ M' bf' dep2 (hR2.keep k3) k1 k2 (((p3.wk (fun i h => Or.inr h)).tr (q3.wk (fun i h => Or.inr h))).tr (k3.wk (fun i h => Or.inl h)))
theorem c_Re_writeShared (hb : ∀ i, r.getD i 0 < 10000) {s : Nat} (hs : s ≤ r.length) (hR : re_is M a b o dep) (hA : te_is M a r ga) (hB : te_is M b bf.1 bf.2) (hw : wr bf out)
    (hQ : ∀ M' bf', re_is M' a b o dep → te_is M' b bf'.1 bf'.2 → wr bf' (out ++ ([64] ++ [64] ++ te_pt r s (te_en r s) ++ te_pt r (te_en r (te_en r s)) (te_en r (te_en r (te_en r s))) ++ [64] ++ te_pt r (te_en r s) (te_en r (te_en r (te_en r s))))) → mm_on (te_P b) M M' → Q (.inl (some (.int (nI (te_en r (te_en r (te_en r s))))))) M') : mm_Ct l sc Y_Re_writeShared M [.ref 39, .int (nI s)] Q := by
  have h4 := hA.len
  obtain ⟨r1, r2, r3⟩ := id hR
  obtain ⟨⟨s1, s2, s3, s4⟩, s5, s6, s7, s8, s9⟩ := re_sep r3
  obtain ⟨fa, a1, a2, a3, a4, a5⟩ := id hA
  have hb31 : ∀ i, r.getD i 0 < 2 ^ 31 := fun i => Nat.lt_trans (hb i) (by decide)
  have e1 := te_en_le hs
  have e2 := te_en_le e1
  have e3 := te_en_le e2
  have g1 := te_en_ge r s
  have g2 := te_en_ge r (te_en r s)
  have g3 := te_en_ge r (te_en r (te_en r s))
  refine mm_by k_Re_writeShared w_Re_writeShared rfl rfl ?_
  refine mg_run 1 rfl ?_
  refine mg_get rfl rfl r1 rfl ?_
  refine mg_run 1 rfl ?_
  refine mg_callV [.int (nI s)] rfl rfl rfl a1 rfl rfl rfl rfl (c_Te_endOf hA hb31 hs ?_)
  refine mg_run 2 rfl ?_
  refine mg_get rfl rfl r1 rfl ?_
  refine mg_run 1 rfl ?_
  refine mg_callV [.int (nI (te_en r s))] rfl rfl rfl a1 rfl rfl rfl rfl (c_Te_endOf hA hb31 e1 ?_)
  refine mg_run 2 rfl ?_
  refine mg_get rfl rfl r1 rfl ?_
  refine mg_run 1 rfl ?_
  refine mg_callV [.int (nI (te_en r (te_en r s)))] rfl rfl rfl a1 rfl rfl rfl rfl (c_Te_endOf hA hb31 e2 ?_)
  refine mg_run 2 rfl ?_
  refine mg_get rfl rfl r1 rfl ?_
  refine mg_run 1 rfl ?_
  obtain ⟨fb, b1, -⟩ := id hB
  refine mg_callV [.int (nI 64)] rfl rfl rfl b1 rfl rfl rfl rfl (c_Te_add hB (fun M1 p1 p2 => ?_))
  have w1 := hw.add 64
  have R1 := hR.keep p2
  have A1 := hA.keep p2 s5.1 s5.2
  refine mg_run 1 rfl ?_
  refine mg_get rfl rfl R1.1 rfl ?_
  refine mg_run 1 rfl ?_
  obtain ⟨fb1, b2, -⟩ := id p1
  refine mg_callV [.int (nI 64)] rfl rfl rfl b2 rfl rfl rfl rfl (c_Te_add p1 (fun M2 q1 q2 => ?_))
  have w2 := w1.add 64
  have R2 := R1.keep q2
  have A2 := A1.keep q2 s5.1 s5.2
  refine mg_run 1 rfl ?_
  refine mg_get rfl rfl R2.1 rfl ?_
  refine mg_run 1 rfl ?_
  refine mg_get rfl rfl R2.1 rfl ?_
  refine mg_run 2 rfl ?_
  obtain ⟨fb2, b3, -⟩ := id q1
  refine mg_callV [.ref a, .int (nI s), .int (nI (te_en r s))] rfl rfl rfl b3 rfl rfl rfl rfl (c_Te_addPart q1 A2 s5 g1 e1 (fun M3 u1 u2 => ?_))
  have w3 := w2.adds (te_pt r s (te_en r s))
  have R3 := R2.keep u2
  have A3 := A2.keep u2 s5.1 s5.2
  refine mg_run 1 rfl ?_
  refine mg_get rfl rfl R3.1 rfl ?_
  refine mg_run 1 rfl ?_
  refine mg_get rfl rfl R3.1 rfl ?_
  refine mg_run 2 rfl ?_
  obtain ⟨fb3, b4, -⟩ := id u1
  refine mg_callV [.ref a, .int (nI (te_en r (te_en r s))), .int (nI (te_en r (te_en r (te_en r s))))] rfl rfl rfl b4 rfl rfl rfl rfl (c_Te_addPart u1 A3 s5 g3 e3 (fun M4 v1 v2 => ?_))
  have w4 := w3.adds (te_pt r (te_en r (te_en r s)) (te_en r (te_en r (te_en r s))))
  have R4 := R3.keep v2
  have A4 := A3.keep v2 s5.1 s5.2
  refine mg_run 1 rfl ?_
  refine mg_get rfl rfl R4.1 rfl ?_
  refine mg_run 1 rfl ?_
  obtain ⟨fb4, b5, -⟩ := id v1
  refine mg_callV [.int (nI 64)] rfl rfl rfl b5 rfl rfl rfl rfl (c_Te_add v1 (fun M5 x1 x2 => ?_))
  have w5 := w4.add 64
  have R5 := R4.keep x2
  have A5 := A4.keep x2 s5.1 s5.2
  refine mg_run 1 rfl ?_
  refine mg_get rfl rfl R5.1 rfl ?_
  refine mg_run 1 rfl ?_
  refine mg_get rfl rfl R5.1 rfl ?_
  refine mg_run 2 rfl ?_
  obtain ⟨fb5, b6, -⟩ := id x1
  refine mg_callV [.ref a, .int (nI (te_en r s)), .int (nI (te_en r (te_en r (te_en r s))))] rfl rfl rfl b6 rfl rfl rfl rfl (c_Te_addPart x1 A5 s5 (Nat.le_trans g2 g3) e3 (fun M6 y1 y2 => ?_))
  have w6 := w5.adds (te_pt r (te_en r s) (te_en r (te_en r (te_en r s))))
  refine mg_run 1 rfl ?_
  refine mg_ir rfl rfl rfl rfl ?_
  refine hQ M6 _ (R5.keep y2) y1 ?_ (((((p2.tr q2).tr u2).tr v2).tr x2).tr y2)
  simp only [List.append_assoc] at w6 ⊢
  exact w6
theorem c_Re_writeReplacement (hb : ∀ i, r.getD i 0 < 10000) {i : Nat} (hi : ¬ te_rh r i = 0) (hR : re_is M a b o dep) (hA : te_is M a r ga) (hB : te_is M b bf.1 bf.2) (hw : wr bf out)
    (hQ : ∀ M' bf' dep', re_is M' a b o dep' → te_is M' b bf'.1 bf'.2 → wr bf' (out ++ te_out r i) → mm_on (re_P b) M M' → Q (.inl (some (.int (nI (te_end r i))))) M') : mm_Ct l sc Y_Re_writeReplacement M [.ref 39, .int (nI i)] Q := by
  have h4 := hA.len
  obtain ⟨k0, k1, k2, k3⟩ := te_rh_len hi
  have hrl := te_rh_lt r i
  obtain ⟨r1, r2, r3⟩ := id hR
  obtain ⟨⟨s1, s2, s3, s4⟩, s5, s6, s7, s8, s9⟩ := re_sep r3
  obtain ⟨fa, a1, a2, a3, a4, a5⟩ := id hA
  obtain ⟨fb, b1, -⟩ := id hB
  have hb31 : ∀ i, r.getD i 0 < 2 ^ 31 := fun i => Nat.lt_trans (hb i) (by decide)
  refine mm_by k_Re_writeReplacement w_Re_writeReplacement rfl rfl ?_
  refine mg_run 1 rfl ?_
  refine mg_get rfl rfl r1 rfl ?_
  refine mg_run 1 rfl ?_
  refine mg_callV [.int (nI i)] rfl rfl rfl a1 rfl rfl rfl rfl (c_Te_redexHead hA hb31 (by omega) ?_)
  refine mg_run 3 rfl ?_
  refine mg_ne rfl hrl (by decide) (fun h1 => ?_) (fun h1 => ?_)
  · refine mg_run 2 rfl ?_
    refine mg_ne rfl hrl (by decide) (fun h2 => ?_) (fun h2 => ?_)
    · refine mg_run 2 rfl ?_
      refine mg_ne rfl hrl (by decide) (fun h3 => ?_) (fun h3 => ?_)
      · have e1 := te_en_le (r := r) (s := i + 2) (by omega)
        refine mg_run 2 rfl ?_
        refine mg_addN rfl ?_
        refine mg_run 2 rfl ?_
        refine mg_get rfl rfl r1 rfl ?_
        refine mg_run 1 rfl ?_
        refine mg_callV [.int (nI (i + 2))] rfl rfl rfl a1 rfl rfl rfl rfl (c_Te_endOf hA hb31 (by omega) ?_)
        refine mg_run 2 rfl ?_
        refine mg_get rfl rfl r1 rfl ?_
        refine mg_run 1 rfl ?_
        refine mg_get rfl rfl r1 rfl ?_
        refine mg_run 2 rfl ?_
        refine mg_callV [.ref a, .int (nI (i + 2)), .int (nI (te_en r (i + 2)))] rfl rfl rfl b1 rfl rfl rfl rfl (c_Te_addPart hB hA s5 (te_en_ge r _) e1 (fun M1 p1 p2 => ?_))
        refine mg_run 2 rfl ?_
        refine mg_ne rfl hrl (by decide) (fun h9 => ?_) (fun h9 => absurd h9 h3)
        refine mg_run 1 rfl ?_
        refine mg_ir rfl rfl rfl rfl ?_
        have q := hQ M1 _ dep (hR.keep p2) p1 (by unfold te_out; rw [if_neg h1, if_neg h2, if_neg h3]; exact hw.adds _) (p2.wk (fun i h => Or.inl h))
        unfold te_end at q
        rw [if_neg h1, if_neg h2, if_neg h3] at q
        exact q
      · have e1 := te_en_le (r := r) (s := i + 3) (by have := k2 h3; omega)
        refine mg_run 2 rfl ?_
        refine mg_addN rfl ?_
        refine mg_run 3 rfl ?_
        refine mg_get rfl rfl r1 rfl ?_
        refine mg_run 1 rfl ?_
        refine mg_callV [.int (nI (i + 3))] rfl rfl rfl a1 rfl rfl rfl rfl (c_Te_endOf hA hb31 (by have := k2 h3; omega) ?_)
        refine mg_run 2 rfl ?_
        refine mg_get rfl rfl r1 rfl ?_
        refine mg_run 1 rfl ?_
        refine mg_get rfl rfl r1 rfl ?_
        refine mg_run 2 rfl ?_
        refine mg_callV [.ref a, .int (nI (i + 3)), .int (nI (te_en r (i + 3)))] rfl rfl rfl b1 rfl rfl rfl rfl (c_Te_addPart hB hA s5 (te_en_ge r _) e1 (fun M1 p1 p2 => ?_))
        have R1 := hR.keep p2
        have A1 := hA.keep p2 s5.1 s5.2
        obtain ⟨fa1, c1, -⟩ := id A1
        refine mg_run 2 rfl ?_
        refine mg_ne rfl hrl (by decide) (fun h9 => absurd h3 h9) (fun h9 => ?_)
        refine mg_run 1 rfl ?_
        refine mg_get rfl rfl R1.1 rfl ?_
        refine mg_run 1 rfl ?_
        refine mg_callV [.int (nI (te_en r (i + 3)))] rfl rfl rfl c1 rfl rfl rfl rfl (c_Te_endOf A1 hb31 e1 ?_)
        refine mg_run 1 rfl ?_
        refine mg_ir rfl rfl rfl rfl ?_
        have q := hQ M1 _ dep R1 p1 (by unfold te_out; rw [if_neg h1, if_neg h2, if_pos h3]; exact hw.adds _) (p2.wk (fun i h => Or.inl h))
        unfold te_end at q
        rw [if_neg h1, if_neg h2, if_pos h3] at q
        exact q
    · refine mg_run 3 rfl ?_
      refine mg_addN rfl ?_
      refine mg_callV [.int (nI (i + 4))] rfl rfl rfl r1 rfl rfl rfl rfl (c_Re_writeShared hb (by have := k3 h2; omega) hR hA hB hw (fun M1 bf1 p1 p2 p3 p4 => ?_))
      refine mg_ir rfl rfl rfl rfl ?_
      have q := hQ M1 bf1 dep p1 p2 (by unfold te_out; rw [if_neg h1, if_pos h2]; exact p3) (p4.wk (fun i h => Or.inl h))
      unfold te_end at q
      rw [if_neg h1, if_pos h2] at q
      exact q
  · refine mg_run 3 rfl ?_
    refine mg_addN rfl ?_
    refine mg_callV [.int (nI (i + 2))] rfl rfl rfl r1 rfl rfl rfl rfl (c_Re_writeBody hb (by omega) hR hA hB hw (fun M1 bf1 dep1 p1 p2 p3 p4 => ?_))
    refine mg_ir rfl rfl rfl rfl ?_
    have q := hQ M1 bf1 dep1 p1 p2 (by unfold te_out; rw [if_pos h1]; exact p3) p4
    unfold te_end at q
    rw [if_pos h1] at q
    exact q
end
end
section
/-! The reducer: whole steps and runs. -/
section
variable {l : Launch} {sc : Nat × (Nat → Int32)} {Q : mm_O → mm_M → Prop} {a b o ga : Nat} {r : List Nat} {dep : Nat → Int32} {M : mm_M} {bf : List Nat × Nat}
theorem te_end_le {r : List Nat} {i : Nat} (hi : ¬ te_rh r i = 0) : te_end r i ≤ r.length := by
  obtain ⟨k0, k1, k2, k3⟩ := te_rh_len hi
  unfold te_end
  split
  · exact te_en_le (te_en_le (by omega))
  · split
    · next h => exact te_en_le (te_en_le (te_en_le (by have := k3 h; omega)))
    · split
      · next h => exact te_en_le (te_en_le (by have := k2 h; omega))
      · exact te_en_le (by omega)
theorem c_Re_writeStep (hb : ∀ i, r.getD i 0 < 10000) {i : Nat} (hi : ¬ te_rh r i = 0) (hR : re_is M a b o dep) (hA : te_is M a r ga) (hB : te_is M b bf.1 bf.2)
    (hQ : ∀ M' bf' dep', re_is M' a b o dep' → te_is M' a r ga → te_is M' b bf'.1 bf'.2 → wr bf' (te_step r i) → mm_on (re_P b) M M' → Q (.inl none) M') : mm_Ct l sc Y_Re_writeStep M [.ref 39, .int (nI i)] Q := by
  have h4 := hA.len
  obtain ⟨k0, k1, k2, k3⟩ := te_rh_len hi
  have hen := te_end_le hi
  obtain ⟨r1, r2, r3⟩ := id hR
  obtain ⟨⟨s1, s2, s3, s4⟩, s5, s6, s7, s8, s9⟩ := re_sep r3
  obtain ⟨fb, b1, -⟩ := id hB
  refine mm_by k_Re_writeStep w_Re_writeStep rfl rfl ?_
  refine mg_run 1 rfl ?_
  refine mg_get rfl rfl r1 rfl ?_
  refine mg_callV [] rfl rfl rfl b1 rfl rfl rfl rfl (c_Te_clear hB (fun M1 p1 p2 => ?_))
  have R1 := hR.keep p2
  have A1 := hA.keep p2 s5.1 s5.2
  obtain ⟨fb1, c1, -⟩ := id p1
  refine mg_run 1 rfl ?_
  refine mg_get rfl rfl R1.1 rfl ?_
  refine mg_run 1 rfl ?_
  refine mg_get rfl rfl R1.1 rfl ?_
  refine mg_run 2 rfl ?_
  refine mg_callV [.ref a, .int (nI 0), .int (nI i)] rfl rfl rfl c1 rfl rfl rfl rfl (c_Te_addPart p1 A1 s5 (Nat.zero_le _) (by omega) (fun M2 q1 q2 => ?_))
  have w2 := wr0.adds ((r.drop 0).take (i - 0))
  have R2 := R1.keep q2
  have A2 := A1.keep q2 s5.1 s5.2
  refine mg_run 2 rfl ?_
  refine mg_callV [.int (nI i)] rfl rfl rfl R2.1 rfl rfl rfl rfl (c_Re_writeReplacement hb hi R2 A2 q1 w2 (fun M3 bf3 dep3 u1 u2 u3 u4 => ?_))
  have A3 := A2.keep u4 (fun h => by rcases h with h | h; exact s5.1 h; exact s8.2.1 h) (fun h => by rcases h with h | h; exact s5.2 h; exact s8.2.2.1 h)
  obtain ⟨fa3, d1, -⟩ := id A3
  obtain ⟨fb3, d2, -⟩ := id u2
  refine mg_run 2 rfl ?_
  refine mg_get rfl rfl u1.1 rfl ?_
  refine mg_run 1 rfl ?_
  refine mg_get rfl rfl u1.1 rfl ?_
  refine mg_run 2 rfl ?_
  refine mg_get rfl rfl u1.1 rfl ?_
  refine mg_callV [] rfl rfl rfl d1 rfl rfl rfl rfl (c_Te_length A3 ?_)
  refine mg_callV [.ref a, .int (nI (te_end r i)), .int (nI r.length)] rfl rfl rfl d2 rfl rfl rfl rfl (c_Te_addPart u2 A3 s5 hen (Nat.le_refl _) (fun M4 v1 v2 => ?_))
  have w4 := u3.adds ((r.drop (te_end r i)).take (r.length - te_end r i))
  refine mg_vr rfl rfl rfl rfl ?_
  refine hQ M4 _ dep3 (u1.keep v2) (A3.keep v2 s5.1 s5.2) v1 ?_ ((((p2.wk (fun i h => Or.inl h)).tr (q2.wk (fun i h => Or.inl h))).tr u4).tr (v2.wk (fun i h => Or.inl h)))
  have e9 : te_step r i = [] ++ (r.drop 0).take (i - 0) ++ te_out r i ++ (r.drop (te_end r i)).take (r.length - te_end r i) := by
    unfold te_step
    rw [List.drop_zero, Nat.sub_zero, List.nil_append, List.take_of_length_le (l := r.drop (te_end r i)) (by rw [List.length_drop]; omega)]
  rw [e9]
  exact w4
/-- n steps at most: the row, the steps done, how it ended -/
def te_rn : Nat → List Nat → List Nat × Nat × Nat
  | 0, r => (r, 0, if te_fr r r.length 0 = none then 1 else 2)
  | n + 1, r => match te_fr r r.length 0 with
    | none => (r, 0, 1)
    | some i => if (te_step r i).length ≤ 2000 then ((te_rn n (te_step r i)).1, (te_rn n (te_step r i)).2.1 + 1, (te_rn n (te_step r i)).2.2) else (r, 0, 3)
theorem te_fr_some {r : List Nat} : ∀ m i j, te_fr r m i = some j → ¬ te_rh r j = 0 ∧ i ≤ j ∧ j < i + m := by
  intro m
  induction m with
  | zero => intro i j h; cases h
  | succ m ih =>
    intro i j h
    unfold te_fr at h
    split at h
    · obtain ⟨h1, h2, h3⟩ := ih (i + 1) j h
      exact ⟨h1, by omega, by omega⟩
    · next h9 => cases h; exact ⟨h9, Nat.le_refl _, by omega⟩
theorem mg_neM {Y : mm_Y} {k n : Nat} {L : mm_L} {S : List Value} {pc : Nat} {off : Int} {nx tg : Nat} {v : Int32} {x : Option Nat} (hq : mm_at (mm_tab Y) pc = some (.if_icmp .ne off, nx, tg, v)) (hx : ∀ i, x = some i → i < 2 ^ 31) (kt : (∃ i, x = some i) → mm_Go l sc Y k n M L S tg Q) (kf : x = none → mm_Go l sc Y k n M L S nx Q) : mm_Go l sc Y k n M L (.int (-1) :: .int (te_fv x) :: S) pc Q := by
  refine mg_icmp hq (fun h => ?_) (fun h => ?_)
  · cases x with
    | none => exact absurd rfl h
    | some i => exact kt ⟨i, rfl⟩
  · cases x with
    | none => exact kf rfl
    | some i =>
      exfalso
      refine h (fun h9 => ?_)
      have h8 : (nI i).toInt = (-1 : Int32).toInt := by rw [show nI i = -1 from h9]
      rw [nI_toInt (hx i rfl)] at h8
      have h7 : (-1 : Int32).toInt = -1 := by decide
      omega
def rr_P (i : Nat) : Prop := 39 ≤ i ∧ i ≤ 46
theorem re_rr {b : Nat} (h : b = 43 ∨ b = 45) {i : Nat} (h2 : re_P b i) : rr_P i := by
  unfold re_P te_P de_P at h2
  unfold rr_P
  omega
theorem lp_Re_run (P : List Nat → Prop) (hP1 : ∀ r, P r → ∀ i, r.getD i 0 < 10000) (hP2 : ∀ r i, P r → te_fr r r.length 0 = some i → (te_step r i).length ≤ 2000 → P (te_step r i)) {x1 : Nat} {N : Nat} (hN : N ≤ 100000) : ∀ m d a b (r : List Nat) (ga : Nat) (x4 x5 : Option Value) (M : mm_M) (bf : List Nat × Nat) (dep : Nat → Int32), mm_c2 (some x4) = false → P r → re_is M a b o dep → te_is M a r ga → te_is M b bf.1 bf.2 → N - d = m → d ≤ N →
    (∀ (M' : mm_M) (a' b' : Nat) (dep' : Nat → Int32) (ga' : Nat) (bf' : List Nat × Nat), re_is M' a' b' (te_rn m r).2.2 dep' → te_is M' a' (te_rn m r).1 ga' → te_is M' b' bf'.1 bf'.2 → mm_on rr_P M M' → Q (.inl (some (.int (nI (d + (te_rn m r).2.1))))) M') →
    mm_Go l sc Y_Re_run 0 0 M [some (.ref 39), some (.ref x1), some (.int (nI N)), some (.int (nI d)), x4, x5] [] 10 Q := by
  intro m
  induction m with
  | zero =>
    intro d a b r ga x4 x5 M bf dep hx4 hPr hR hA hB hm hd hQ
    have h4 := hA.len
    have hb31 : ∀ i, r.getD i 0 < 2 ^ 31 := fun i => Nat.lt_trans (hP1 r hPr i) (by decide)
    have hfl : ∀ i, te_fr r r.length 0 = some i → i < 2 ^ 31 := fun i h => by have := (te_fr_some _ _ _ h).2.2; omega
    obtain ⟨r1, r2, r3⟩ := id hR
    obtain ⟨⟨s1, s2, s3, s4⟩, s5, s6, s7, s8, s9⟩ := re_sep r3
    obtain ⟨fa, a1, -⟩ := id hA
    refine mg_run 2 rfl ?_
    refine mg_ge rfl (by omega) (by omega) (fun h => ?_) (fun h => absurd h (by omega))
    have e : d = N := by omega
    subst e
    refine mg_run 2 rfl ?_
    refine mg_get rfl rfl r1 rfl ?_
    refine mg_callV [] rfl rfl rfl a1 rfl rfl rfl rfl (c_Te_firstRedex hA hb31 ?_)
    refine mg_run 1 rfl ?_
    have hon : ∀ v, mm_on rr_P M (M.set 39 (.inr (4, [.ref 40, .ref a, .ref b, .int v]))) := fun v => mm_on.set M _ (show rr_P 39 by unfold rr_P; omega)
    refine mg_neM rfl hfl (fun hs => ?_) (fun hs => ?_)
    · refine mg_run 1 rfl ?_
      refine mg_put rfl rfl r1 rfl rfl ?_
      refine mg_run 1 rfl ?_
      refine mg_ir rfl rfl rfl rfl ?_
      obtain ⟨j, hj⟩ := hs
      have e2 : te_rn 0 r = (r, 0, 2) := by unfold te_rn; rw [if_neg (by rw [hj]; simp)]
      rw [e2] at hQ
      have hon1 : mm_on (fun i => i = 39) M (M.set 39 (.inr (4, [.ref 40, .ref a, .ref b, .int (nI 2)]))) := mm_on.set M _ rfl
      exact hQ _ a b dep ga bf ⟨mm_at_set _ r1, r2.keep hon1 (by decide) (by decide) (by decide), r3⟩ (hA.keep hon1 (by rcases r3 with ⟨rfl, rfl⟩ | ⟨rfl, rfl⟩ <;> decide) (by rcases r3 with ⟨rfl, rfl⟩ | ⟨rfl, rfl⟩ <;> decide)) (hB.keep hon1 (by rcases r3 with ⟨rfl, rfl⟩ | ⟨rfl, rfl⟩ <;> decide) (by rcases r3 with ⟨rfl, rfl⟩ | ⟨rfl, rfl⟩ <;> decide)) (hon _)
    · refine mg_run 2 rfl ?_
      refine mg_put rfl rfl r1 rfl rfl ?_
      refine mg_run 1 rfl ?_
      refine mg_ir rfl rfl rfl rfl ?_
      have e2 : te_rn 0 r = (r, 0, 1) := by unfold te_rn; rw [if_pos hs]
      rw [e2] at hQ
      have hon1 : mm_on (fun i => i = 39) M (M.set 39 (.inr (4, [.ref 40, .ref a, .ref b, .int (nI 1)]))) := mm_on.set M _ rfl
      exact hQ _ a b dep ga bf ⟨mm_at_set _ r1, r2.keep hon1 (by decide) (by decide) (by decide), r3⟩ (hA.keep hon1 (by rcases r3 with ⟨rfl, rfl⟩ | ⟨rfl, rfl⟩ <;> decide) (by rcases r3 with ⟨rfl, rfl⟩ | ⟨rfl, rfl⟩ <;> decide)) (hB.keep hon1 (by rcases r3 with ⟨rfl, rfl⟩ | ⟨rfl, rfl⟩ <;> decide) (by rcases r3 with ⟨rfl, rfl⟩ | ⟨rfl, rfl⟩ <;> decide)) (hon _)
  | succ m ih =>
    intro d a b r ga x4 x5 M bf dep hx4 hPr hR hA hB hm hd hQ
    have h4 := hA.len
    have hb31 : ∀ i, r.getD i 0 < 2 ^ 31 := fun i => Nat.lt_trans (hP1 r hPr i) (by decide)
    have hfl : ∀ i, te_fr r r.length 0 = some i → i < 2 ^ 31 := fun i h => by have := (te_fr_some _ _ _ h).2.2; omega
    obtain ⟨r1, r2, r3⟩ := id hR
    obtain ⟨⟨s1, s2, s3, s4⟩, s5, s6, s7, s8, s9⟩ := re_sep r3
    obtain ⟨fa, a1, -⟩ := id hA
    refine mg_run 2 rfl ?_
    refine mg_ge rfl (by omega) (by omega) (fun h => absurd h (by omega)) (fun h => ?_)
    refine mg_run 1 rfl ?_
    refine mg_get rfl rfl r1 rfl ?_
    refine mg_callV [] rfl rfl rfl a1 rfl rfl rfl rfl (c_Te_firstRedex hA hb31 ?_)
    refine mg_run 3 rfl ?_
    refine mg_neM rfl hfl (fun hs => ?_) (fun hs => ?_)
    · obtain ⟨j, hj⟩ := hs
      obtain ⟨j1, j2, j3⟩ := te_fr_some _ _ _ hj
      rw [hj]
      refine mg_run 2 rfl ?_
      refine mg_callV [.int (nI j)] rfl rfl rfl r1 rfl rfl rfl rfl (c_Re_writeStep (hP1 r hPr) j1 hR hA hB (fun M1 bf1 dep1 p1 p2 p3 p4 p5 => ?_))
      obtain ⟨fb1, c1, c2, c3, c4, c5⟩ := id p3
      have hon : mm_on rr_P M M1 := p5.wk (fun i h => re_rr (by rcases r3 with ⟨-, rfl⟩ | ⟨-, rfl⟩ <;> omega) h)
      refine mg_run 1 rfl ?_
      refine mg_get rfl rfl p1.1 rfl ?_
      refine mg_callV [] rfl rfl rfl c1 rfl rfl rfl rfl (c_Te_isTooGreat p3 ?_)
      refine mg_zeq rfl (by omega) (fun h0 => ?_) (fun h0 => ?_)
      · obtain ⟨g1, g2⟩ := p4.ok h0
        rw [g2] at p3
        refine mg_run 1 rfl ?_
        refine mg_get rfl rfl p1.1 rfl ?_
        refine mg_run 3 rfl ?_
        refine mg_get rfl rfl p1.1 rfl ?_
        refine mg_put rfl rfl p1.1 rfl rfl ?_
        have f1 := mm_at_set (.inr (4, [.ref 40, .ref b, .ref b, .int (nI o)])) p1.1
        refine mg_run 2 rfl ?_
        refine mg_put rfl rfl f1 rfl rfl ?_
        have f2 := mm_at_set (.inr (4, [.ref 40, .ref b, .ref a, .int (nI o)])) f1
        have hon1 : mm_on (fun i => i = 39) M1 ((M1.set 39 (.inr (4, [.ref 40, .ref b, .ref b, .int (nI o)]))).set 39 (.inr (4, [.ref 40, .ref b, .ref a, .int (nI o)]))) := mm_on.tr (P := fun i => i = 39) (mm_on.set M1 _ rfl) (mm_on.set _ _ rfl)
        refine mg_incN rfl rfl rfl ?_
        refine mg_run 1 rfl ?_
        refine ih (d + 1) b a (te_step r j) 0 _ _ _ (r, ga) dep1 rfl (hP2 r j hPr hj g1) ⟨f2, p1.2.1.keep hon1 (by decide) (by decide) (by decide), by rcases r3 with ⟨h1, h2⟩ | ⟨h1, h2⟩ <;> omega⟩ (p3.keep hon1 (by rcases r3 with ⟨rfl, rfl⟩ | ⟨rfl, rfl⟩ <;> decide) (by rcases r3 with ⟨rfl, rfl⟩ | ⟨rfl, rfl⟩ <;> decide)) (p2.keep hon1 (by rcases r3 with ⟨rfl, rfl⟩ | ⟨rfl, rfl⟩ <;> decide) (by rcases r3 with ⟨rfl, rfl⟩ | ⟨rfl, rfl⟩ <;> decide)) (by omega) (by omega) (fun M' a' b' dep' ga' bf' q1 q2 q3 q4 => ?_)
        have e2 : te_rn (m + 1) r = ((te_rn m (te_step r j)).1, (te_rn m (te_step r j)).2.1 + 1, (te_rn m (te_step r j)).2.2) := by
          rw [te_rn, hj]
          exact if_pos g1
        rw [e2] at hQ
        have q := hQ M' a' b' dep' ga' bf' q1 q2 q3 ((hon.tr (hon1.wk (fun i h => by subst h; unfold rr_P; omega))).tr q4)
        rw [show d + 1 + (te_rn m (te_step r j)).2.1 = d + ((te_rn m (te_step r j)).2.1 + 1) by omega]
        exact q
      · have g1 := p4.not h0
        refine mg_run 2 rfl ?_
        refine mg_put rfl rfl p1.1 rfl rfl ?_
        refine mg_run 1 rfl ?_
        refine mg_ir rfl rfl rfl rfl ?_
        have e2 : te_rn (m + 1) r = (r, 0, 3) := by
          rw [te_rn, hj]
          exact if_neg (by omega)
        rw [e2] at hQ
        have hon1 : mm_on (fun i => i = 39) M1 (M1.set 39 (.inr (4, [.ref 40, .ref a, .ref b, .int (nI 3)]))) := mm_on.set M1 _ rfl
        exact hQ _ a b dep1 ga bf1 ⟨mm_at_set _ p1.1, p1.2.1.keep hon1 (by decide) (by decide) (by decide), r3⟩ (p2.keep hon1 (by rcases r3 with ⟨rfl, rfl⟩ | ⟨rfl, rfl⟩ <;> decide) (by rcases r3 with ⟨rfl, rfl⟩ | ⟨rfl, rfl⟩ <;> decide)) (p3.keep hon1 (by rcases r3 with ⟨rfl, rfl⟩ | ⟨rfl, rfl⟩ <;> decide) (by rcases r3 with ⟨rfl, rfl⟩ | ⟨rfl, rfl⟩ <;> decide)) (hon.tr (hon1.wk (fun i h => by subst h; unfold rr_P; omega)))
    · refine mg_run 2 rfl ?_
      refine mg_put rfl rfl r1 rfl rfl ?_
      refine mg_run 1 rfl ?_
      refine mg_ir rfl rfl rfl rfl ?_
      have e2 : te_rn (m + 1) r = (r, 0, 1) := by rw [te_rn, hs]
      rw [e2] at hQ
      have hon1 : mm_on (fun i => i = 39) M (M.set 39 (.inr (4, [.ref 40, .ref a, .ref b, .int (nI 1)]))) := mm_on.set M _ rfl
      exact hQ _ a b dep ga bf ⟨mm_at_set _ r1, r2.keep hon1 (by decide) (by decide) (by decide), r3⟩ (hA.keep hon1 (by rcases r3 with ⟨rfl, rfl⟩ | ⟨rfl, rfl⟩ <;> decide) (by rcases r3 with ⟨rfl, rfl⟩ | ⟨rfl, rfl⟩ <;> decide)) (hB.keep hon1 (by rcases r3 with ⟨rfl, rfl⟩ | ⟨rfl, rfl⟩ <;> decide) (by rcases r3 with ⟨rfl, rfl⟩ | ⟨rfl, rfl⟩ <;> decide)) (hon1.wk (fun i h => by subst h; unfold rr_P; omega))
theorem c_Re_run (P : List Nat → Prop) (hP1 : ∀ r, P r → ∀ i, r.getD i 0 < 10000) (hP2 : ∀ r i, P r → te_fr r r.length 0 = some i → (te_step r i).length ≤ 2000 → P (te_step r i)) {t gt N : Nat} {r0 : List Nat} (hN : N ≤ 100000) (hPr : P r) (hR : re_is M a b o dep) (hA : te_is M a r0 ga) (hB : te_is M b bf.1 bf.2) (hT : te_is M t r gt) (hap : te_ap a t)
    (hQ : ∀ (M' : mm_M) (a' b' : Nat) (dep' : Nat → Int32) (ga' : Nat) (bf' : List Nat × Nat), re_is M' a' b' (te_rn N r).2.2 dep' → te_is M' a' (te_rn N r).1 ga' → te_is M' b' bf'.1 bf'.2 → mm_on rr_P M M' → Q (.inl (some (.int (nI (te_rn N r).2.1)))) M') : mm_Ct l sc Y_Re_run M [.ref 39, .ref t, .int (nI N)] Q := by
  obtain ⟨r1, r2, r3⟩ := id hR
  obtain ⟨⟨s1, s2, s3, s4⟩, s5, s6, s7, s8, s9⟩ := re_sep r3
  obtain ⟨fa, a1, -⟩ := id hA
  refine mm_by k_Re_run w_Re_run rfl rfl ?_
  refine mg_run 1 rfl ?_
  refine mg_get rfl rfl r1 rfl ?_
  refine mg_run 1 rfl ?_
  refine mg_callV [.ref t] rfl rfl rfl a1 rfl rfl rfl rfl (c_Te_become hA hT hap (fun M1 p1 p2 => ?_))
  refine mg_run 2 rfl ?_
  refine lp_Re_run P hP1 hP2 hN N 0 a b r 0 none none M1 bf dep rfl hPr ⟨(p2 39 s9).trans r1, r2.keep p2 s7.1 s7.2.1 s7.2.2, r3⟩ p1 (hB.keep p2 s6.1 s6.2) (by omega) (Nat.zero_le _) (fun M' a' b' dep' ga' bf' q1 q2 q3 q4 => ?_)
  have q := hQ M' a' b' dep' ga' bf' q1 q2 q3 ((p2.wk (fun i h => by unfold te_P at h; unfold rr_P; rcases r3 with ⟨h1, h2⟩ | ⟨h1, h2⟩ <;> omega)).tr q4)
  rw [Nat.zero_add]
  exact q
theorem c_Re_outcome (hR : re_is M a b o dep) (hQ : Q (.inl (some (.int (nI o)))) M) : mm_Ct l sc Y_Re_outcome M [.ref 39] Q := by
  refine mm_by k_Re_outcome w_Re_outcome rfl rfl ?_
  refine mg_run 1 rfl ?_
  refine mg_get rfl rfl hR.1 rfl ?_
  exact mg_ir rfl rfl rfl rfl hQ
theorem c_Re_result (hR : re_is M a b o dep) (hQ : Q (.inl (some (.ref a))) M) : mm_Ct l sc Y_Re_result M [.ref 39] Q := by
  refine mm_by k_Re_result w_Re_result rfl rfl ?_
  refine mg_run 1 rfl ?_
  refine mg_get rfl rfl hR.1 rfl ?_
  exact mg_ar rfl rfl rfl rfl hQ
end
end
section
/-! The abstractor: ends and uses, parts without the variable. -/
theorem te_sc_add : ∀ (l : List Nat) (p q : Nat), te_sc l (p + q) = te_sc l p + te_sc (l.drop (te_sc l p)) q := by
  intro l
  induction l with
  | nil => intro p q; rfl
  | cons c l ih =>
    intro p q
    cases p with
    | zero => rw [Nat.zero_add, te_sc0, List.drop_zero, Nat.zero_add]
    | succ p =>
      have e : p + 1 + q = (p + q) + 1 := by omega
      rw [e]
      show te_sc l (if c = 64 then p + q + 2 else if c = 92 then p + q + 1 else p + q) + 1 = te_sc l (if c = 64 then p + 2 else if c = 92 then p + 1 else p) + 1 + te_sc (l.drop (te_sc l (if c = 64 then p + 2 else if c = 92 then p + 1 else p))) q
      have e2 : (if c = 64 then p + q + 2 else if c = 92 then p + q + 1 else p + q) = (if c = 64 then p + 2 else if c = 92 then p + 1 else p) + q := by
        split
        · omega
        · split <;> omega
      rw [e2, ih]
      omega
theorem te_en_app {r : List Nat} {i : Nat} (hi : i < r.length) (hc : r.getD i 0 = 64) : te_en r i = te_en r (te_en r (i + 1)) := by
  unfold te_en
  rw [te_drop hi, te_sc, if_pos hc]
  show i + (te_sc (r.drop (i + 1)) (1 + 1) + 1) = _
  rw [te_sc_add, List.drop_drop]
  omega
theorem te_en_leaf {r : List Nat} {i : Nat} (hi : i < r.length) (hc : ¬ r.getD i 0 = 64) (hc2 : ¬ r.getD i 0 = 92) : te_en r i = i + 1 := by
  unfold te_en
  rw [te_drop hi, te_sc, if_neg hc, if_neg hc2, te_sc0]
def ab_is (M : mm_M) (a b : Nat) (en us : Nat → Int32) : Prop := M[47]? = some (.inr (0, [.ref 48, .ref 49, .ref a, .ref b])) ∧ M[48]? = some (.inl (0, 2001, .inl en)) ∧ M[49]? = some (.inl (0, 2001, .inl us)) ∧ ((a = 50 ∧ b = 52) ∨ (a = 52 ∧ b = 50))
def ab_P (i : Nat) : Prop := i = 48 ∨ i = 49
theorem ab_sep {a b : Nat} (h : (a = 50 ∧ b = 52) ∨ (a = 52 ∧ b = 50)) : (¬ te_P b 47 ∧ ¬ te_P b 48 ∧ ¬ te_P b 49) ∧ te_ap b a ∧ te_ap a b ∧ (¬ te_P a 47 ∧ ¬ te_P a 48 ∧ ¬ te_P a 49) ∧ (¬ ab_P a ∧ ¬ ab_P (a + 1) ∧ ¬ ab_P b ∧ ¬ ab_P (b + 1)) := by
  unfold te_ap te_P ab_P
  rcases h with ⟨rfl, rfl⟩ | ⟨rfl, rfl⟩ <;> decide
theorem ab_is.keep {M M' : mm_M} {a b : Nat} {en us : Nat → Int32} (h : ab_is M a b en us) (hon : mm_on (te_P b) M M') : ab_is M' a b en us := by
  obtain ⟨h1, h2, h3, h4⟩ := h
  obtain ⟨⟨s1, s2, s3⟩, -⟩ := ab_sep h4
  exact ⟨by rw [hon 47 s1]; exact h1, by rw [hon 48 s2]; exact h2, by rw [hon 49 s3]; exact h3, h4⟩
/-- where a place's part ends, within the body that ends at e -/
def ab_E (r : List Nat) (e i : Nat) : Nat := if i < e then te_en r i else e
/-- how often the variable stands from s on before i -/
def ab_U (r : List Nat) (s : Nat) : Nat → Nat
  | 0 => 0
  | n + 1 => ab_U r s n + if r.getD (s + n) 0 = 1000 then 1 else 0
theorem ab_U_le (r : List Nat) (s : Nat) : ∀ n, ab_U r s n ≤ n := by
  intro n
  induction n with
  | zero => exact Nat.le_refl _
  | succ n ih => unfold ab_U; split <;> omega
section
variable {l : Launch} {sc : Nat × (Nat → Int32)} {Q : mm_O → mm_M → Prop} {a b ga : Nat} {r : List Nat}
theorem lp_Ab_ends {s e : Nat} (hb : ∀ i, r.getD i 0 < 2 ^ 31) (hs : s ≤ e) (he : e ≤ r.length) (hE : ∀ i, s ≤ i → i < e → te_en r i ≤ e ∧ ¬ r.getD i 0 = 92) : ∀ m (M : mm_M) (en us : Nat → Int32), ab_is M a b en us → te_is M a r ga → m + s ≤ e → (∀ i, m + s ≤ i → i ≤ e → en i = nI (ab_E r e i)) →
    (∀ M' en', ab_is M' a b en' us → te_is M' a r ga → (∀ i, s ≤ i → i ≤ e → en' i = nI (ab_E r e i)) → mm_on (fun i => i = 48) M M' → mm_Go l sc Y_Ab_measure 0 0 M' [some (.ref 47), some (.int (nI s)), some (.int (nI e)), some (.int (nI s - 1))] [] 60 Q) →
    mm_Go l sc Y_Ab_measure 0 0 M [some (.ref 47), some (.int (nI s)), some (.int (nI e)), some (.int (nI (m + s) - 1))] [] 11 Q := by
  intro m
  induction m with
  | zero =>
    intro M en us hA hT hm hen hK
    have h4 := hT.len
    rw [Nat.zero_add] at hen ⊢
    refine mg_run 2 rfl ?_
    refine mg_icmp rfl (fun h => ?_) (fun h => ?_)
    · exact hK M en hA hT hen (mm_on.rf _ M)
    · exfalso
      refine h (show nI s - 1 < nI s from ?_)
      rw [Int32.lt_iff_toInt_lt]
      have h8 : (nI s - nI 1).toInt = (s : Int) - 1 := pk_sub_toInt (by omega) (by decide)
      have h7 : nI s - 1 = nI s - nI 1 := rfl
      rw [h7, h8, nI_toInt (by omega)]
      omega
  | succ m ih =>
    intro M en us hA hT hm hen hK
    have h4 := hT.len
    obtain ⟨a1, a2, a3, a4⟩ := id hA
    obtain ⟨s1, s2, s3, s4, s5⟩ := ab_sep a4
    obtain ⟨f, t1, -⟩ := id hT
    have e0 : nI (m + 1 + s) - 1 = nI (m + s) := by rw [show m + 1 + s = (m + s) + 1 by omega]; exact nI_pred _
    rw [e0]
    obtain ⟨q1, q2⟩ := hE (m + s) (by omega) (by omega)
    have hlt : m + s < r.length := by omega
    refine mg_run 2 rfl ?_
    refine mg_lt rfl (by omega) (by omega) (fun h => absurd h (by omega)) (fun h => ?_)
    refine mg_run 1 rfl ?_
    refine mg_get rfl rfl a1 rfl ?_
    refine mg_run 2 rfl ?_
    refine mg_get rfl rfl a1 rfl ?_
    refine mg_run 1 rfl ?_
    refine mg_callV [.int (nI (m + s))] rfl rfl rfl t1 rfl rfl rfl rfl (c_Te_at hT (by omega) ?_)
    refine mg_run 1 rfl ?_
    have hst : ∀ z, z = ab_E r e (m + s) → mm_Go l sc Y_Ab_measure 0 0 (M.set 48 (.inl (0, 2001, .inl (upd en (m + s) (nI z))))) [some (.ref 47), some (.int (nI s)), some (.int (nI e)), some (.int (nI (m + s)))] [] 54 Q := by
      intro z hz
      have c2 := mm_at_set (.inl (0, 2001, .inl (upd en (m + s) (nI z)))) a2
      have hon : mm_on (fun i => i = 48) M (M.set 48 (.inl (0, 2001, .inl (upd en (m + s) (nI z))))) := mm_on.set M _ rfl
      have hA' : ab_is (M.set 48 (.inl (0, 2001, .inl (upd en (m + s) (nI z))))) a b (upd en (m + s) (nI z)) us := ⟨mm_at_ne (by decide) a1, c2, mm_at_ne (by decide) a3, a4⟩
      have hT' := hT.keep hon (fun h => s5.1 (Or.inl h)) (fun h => s5.2.1 (Or.inl h))
      refine mg_x (M' := M.set 48 (.inl (0, 2001, .inl (upd en (m + s) (nI z))))) (L' := [some (.ref 47), some (.int (nI s)), some (.int (nI e)), some (.int (nI (m + s) + -1))]) (S' := []) rfl rfl ?_
      refine mg_run 1 rfl ?_
      have e1 : nI (m + s) + -1 = nI (m + s) - 1 := by rw [Int32.sub_eq_add_neg]
      rw [e1]
      refine ih _ _ us hA' hT' (by omega) (fun i h1 h2 => ?_) (fun M' en' k1 k2 k3 k4 => hK M' en' k1 k2 k3 (hon.tr k4))
      by_cases hi : i = m + s
      · subst hi
        rw [pk_us, hz]
      · rw [pk_un hi]
        exact hen i (by omega) h2
    refine mg_ne rfl (hb _) (by decide) (fun h9 => ?_) (fun h9 => ?_)
    · refine mg_run 2 rfl ?_
      refine mg_addN rfl ?_
      refine mg_istN rfl a2 (by decide) (by omega) ?_
      exact hst _ (by unfold ab_E; rw [if_pos (by omega), te_en_leaf hlt h9 q2])
    · have hap := te_en_app hlt h9
      have hg1 := te_en_ge r (te_en r (m + s + 1))
      have hg2 := te_en_ge r (m + s + 1)
      have hEn1 : ab_E r e (m + s + 1) = te_en r (m + s + 1) := by
        unfold ab_E
        by_cases h8 : m + s + 1 < e
        · rw [if_pos h8]
        · rw [if_neg h8]; omega
      have hEn2 : ab_E r e (te_en r (m + s + 1)) = te_en r (te_en r (m + s + 1)) := by
        unfold ab_E
        by_cases h8 : te_en r (m + s + 1) < e
        · rw [if_pos h8]
        · rw [if_neg h8]; omega
      refine mg_run 1 rfl ?_
      refine mg_get rfl rfl a1 rfl ?_
      refine mg_run 1 rfl ?_
      refine mg_get rfl rfl a1 rfl ?_
      refine mg_run 2 rfl ?_
      refine mg_addN rfl ?_
      refine mg_ildN rfl a2 (by decide) (by omega) ?_
      rw [hen (m + s + 1) (by omega) (by omega), hEn1]
      refine mg_ildN rfl a2 (by decide) (by omega) ?_
      rw [hen (te_en r (m + s + 1)) (by omega) (by omega), hEn2]
      refine mg_run 1 rfl ?_
      refine mg_istN rfl a2 (by decide) (by omega) ?_
      exact hst _ (by unfold ab_E; rw [if_pos (by omega), hap])
theorem lp_Ab_uses {s e : Nat} (hb : ∀ i, r.getD i 0 < 2 ^ 31) (hs : s ≤ e) (he : e ≤ r.length) : ∀ m k (M : mm_M) (en us : Nat → Int32), ab_is M a b en us → te_is M a r ga → e - (s + k) = m → s + k ≤ e → (∀ j, j ≤ k → us (s + j) = nI (ab_U r s j)) →
    (∀ M' us', ab_is M' a b en us' → te_is M' a r ga → (∀ j, j ≤ e - s → us' (s + j) = nI (ab_U r s j)) → mm_on (fun i => i = 49) M M' → Q (.inl none) M') →
    mm_Go l sc Y_Ab_measure 0 0 M [some (.ref 47), some (.int (nI s)), some (.int (nI e)), some (.int (nI (s + k)))] [] 69 Q := by
  intro m
  induction m with
  | zero =>
    intro k M en us hA hT hm hk hus hQ
    have h4 := hT.len
    refine mg_run 2 rfl ?_
    refine mg_ge rfl (by omega) (by omega) (fun h => ?_) (fun h => absurd h (by omega))
    refine mg_vr rfl rfl rfl rfl ?_
    exact hQ M us hA hT (fun j hj => hus j (by omega)) (mm_on.rf _ M)
  | succ m ih =>
    intro k M en us hA hT hm hk hus hQ
    have h4 := hT.len
    obtain ⟨a1, a2, a3, a4⟩ := id hA
    obtain ⟨s1, s2, s3, s4, s5⟩ := ab_sep a4
    obtain ⟨f, t1, -⟩ := id hT
    have hUk := ab_U_le r s k
    refine mg_run 2 rfl ?_
    refine mg_ge rfl (by omega) (by omega) (fun h => absurd h (by omega)) (fun h => ?_)
    refine mg_run 1 rfl ?_
    refine mg_get rfl rfl a1 rfl ?_
    refine mg_run 2 rfl ?_
    refine mg_addN rfl ?_
    refine mg_run 1 rfl ?_
    refine mg_get rfl rfl a1 rfl ?_
    refine mg_run 1 rfl ?_
    refine mg_ildN rfl a3 (by decide) (by omega) ?_
    rw [hus k (Nat.le_refl _)]
    refine mg_run 1 rfl ?_
    refine mg_get rfl rfl a1 rfl ?_
    refine mg_run 1 rfl ?_
    refine mg_callV [.int (nI (s + k))] rfl rfl rfl t1 rfl rfl rfl rfl (c_Te_at hT (by omega) ?_)
    refine mg_run 1 rfl ?_
    have hst : ∀ z, z = ab_U r s (k + 1) → mm_Go l sc Y_Ab_measure 0 0 (M.set 49 (.inl (0, 2001, .inl (upd us (s + k + 1) (nI z))))) [some (.ref 47), some (.int (nI s)), some (.int (nI e)), some (.int (nI (s + k)))] [] 108 Q := by
      intro z hz
      have c2 := mm_at_set (.inl (0, 2001, .inl (upd us (s + k + 1) (nI z)))) a3
      have hon : mm_on (fun i => i = 49) M (M.set 49 (.inl (0, 2001, .inl (upd us (s + k + 1) (nI z))))) := mm_on.set M _ rfl
      have hA' : ab_is (M.set 49 (.inl (0, 2001, .inl (upd us (s + k + 1) (nI z))))) a b en (upd us (s + k + 1) (nI z)) := ⟨mm_at_ne (by decide) a1, mm_at_ne (by decide) a2, c2, a4⟩
      have hT' := hT.keep hon (fun h => s5.1 (Or.inr h)) (fun h => s5.2.1 (Or.inr h))
      refine mg_incN rfl rfl rfl ?_
      refine mg_run 1 rfl ?_
      refine ih (k + 1) _ en _ hA' hT' (by omega) (by omega) (fun j hj => ?_) (fun M' us' k1 k2 k3 k4 => hQ M' us' k1 k2 k3 (hon.tr k4))
      by_cases hj2 : j = k + 1
      · subst hj2
        rw [show s + (k + 1) = s + k + 1 by omega, pk_us, hz]
      · rw [pk_un (by omega)]
        exact hus j (by omega)
    refine mg_ne rfl (hb _) (by decide) (fun h9 => ?_) (fun h9 => ?_)
    · refine mg_run 1 rfl ?_
      refine mg_addN rfl ?_
      refine mg_istN rfl a3 (by decide) (by omega) ?_
      exact hst _ (by rw [ab_U, if_neg h9])
    · refine mg_run 2 rfl ?_
      refine mg_addN rfl ?_
      refine mg_istN rfl a3 (by decide) (by omega) ?_
      exact hst _ (by rw [ab_U, if_pos h9])
theorem c_Ab_measure {M : mm_M} {en us : Nat → Int32} {s e : Nat} (hb : ∀ i, r.getD i 0 < 2 ^ 31) (hs : s ≤ e) (he : e ≤ r.length) (hE : ∀ i, s ≤ i → i < e → te_en r i ≤ e ∧ ¬ r.getD i 0 = 92) (hA : ab_is M a b en us) (hT : te_is M a r ga)
    (hQ : ∀ M' en' us', ab_is M' a b en' us' → te_is M' a r ga → (∀ i, s ≤ i → i ≤ e → en' i = nI (ab_E r e i)) → (∀ j, j ≤ e - s → us' (s + j) = nI (ab_U r s j)) → mm_on ab_P M M' → Q (.inl none) M') : mm_Ct l sc Y_Ab_measure M [.ref 47, .int (nI s), .int (nI e)] Q := by
  have h4 := hT.len
  obtain ⟨a1, a2, a3, a4⟩ := id hA
  obtain ⟨s1, s2, s3, s4, s5⟩ := ab_sep a4
  refine mm_by k_Ab_measure w_Ab_measure rfl rfl ?_
  refine mg_run 1 rfl ?_
  refine mg_get rfl rfl a1 rfl ?_
  refine mg_run 2 rfl ?_
  refine mg_istN rfl a2 (by decide) (by omega) ?_
  have c2 := mm_at_set (.inl (0, 2001, .inl (upd en e (nI e)))) a2
  have hon : mm_on (fun i => i = 48) M (M.set 48 (.inl (0, 2001, .inl (upd en e (nI e))))) := mm_on.set M _ rfl
  have hA' : ab_is (M.set 48 (.inl (0, 2001, .inl (upd en e (nI e))))) a b (upd en e (nI e)) us := ⟨mm_at_ne (by decide) a1, c2, mm_at_ne (by decide) a3, a4⟩
  have hT' := hT.keep hon (fun h => s5.1 (Or.inl h)) (fun h => s5.2.1 (Or.inl h))
  refine mg_run 2 rfl ?_
  refine mg_x (M' := M.set 48 (.inl (0, 2001, .inl (upd en e (nI e))))) (L' := [some (.ref 47), some (.int (nI s)), some (.int (nI e)), none]) (S' := [.int (nI e - nI 1)]) rfl rfl ?_
  refine mg_run 1 rfl ?_
  have e1 : e = (e - s) + s := by omega
  have hgo := lp_Ab_ends (l := l) (sc := sc) (Q := Q) hb hs he hE (e - s) _ (upd en e (nI e)) us hA' hT' (by omega) (fun i h1 h2 => by
    have hi : i = e := by omega
    subst hi
    rw [pk_us]
    unfold ab_E
    rw [if_neg (Nat.lt_irrefl _)]) (fun M1 en1 k1 k2 k3 k4 => by
      obtain ⟨b1, b2, b3, b4⟩ := id k1
      refine mg_run 1 rfl ?_
      refine mg_get rfl rfl b1 rfl ?_
      refine mg_run 2 rfl ?_
      refine mg_istN rfl b3 (by decide) (by omega) ?_
      have d2 := mm_at_set (.inl (0, 2001, .inl (upd us s (nI 0)))) b3
      have hon2 : mm_on (fun i => i = 49) M1 (M1.set 49 (.inl (0, 2001, .inl (upd us s (nI 0))))) := mm_on.set M1 _ rfl
      have hA2 : ab_is (M1.set 49 (.inl (0, 2001, .inl (upd us s (nI 0))))) a b en1 (upd us s (nI 0)) := ⟨mm_at_ne (by decide) b1, mm_at_ne (by decide) b2, d2, b4⟩
      have hT2 := k2.keep hon2 (fun h => s5.1 (Or.inr h)) (fun h => s5.2.1 (Or.inr h))
      refine mg_run 2 rfl ?_
      refine lp_Ab_uses hb hs he _ 0 _ en1 _ hA2 hT2 rfl hs (fun j hj => ?_) (fun M' us' q1 q2 q3 q4 => ?_)
      · have hj0 : j = 0 := by omega
        subst hj0
        rw [Nat.add_zero, pk_us]; rfl
      · exact hQ M' en1 us' q1 q2 k3 q3 ((((hon.wk (fun i h => Or.inl h)).tr (k4.wk (fun i h => Or.inl h))).tr (hon2.wk (fun i h => Or.inr h))).tr (q4.wk (fun i h => Or.inr h))))
  rw [← e1] at hgo
  exact hgo
end
end
section
/-! The abstractor: what it writes, and its runs. -/
def ab_f (r : List Nat) (j : Nat) : List Nat := [if r.getD j 0 ≤ 1000 then r.getD j 0 else r.getD j 0 - 1]
def ab_o (r : List Nat) (s e : Nat) : List Nat := te_pc (ab_f r) s (e - s)
/-- the part at i, or only its S; how far it is written -/
def ab_w (r : List Nat) (s e i : Nat) : List Nat × Nat :=
  if r.getD i 0 = 1000 then ([73], ab_E r e i)
  else if ab_U r s (ab_E r e i - s) ≤ ab_U r s (i - s) then ([64] ++ [75] ++ ab_o r i (ab_E r e i), ab_E r e i)
  else if r.getD (ab_E r e (i + 1)) 0 = 1000 ∧ ab_U r s (ab_E r e (i + 1) - s) ≤ ab_U r s (i + 1 - s) then (ab_o r (i + 1) (ab_E r e (i + 1)), ab_E r e i)
  else ([64] ++ [64] ++ [83], i + 1)
def ab_wl (r : List Nat) (s e : Nat) : Nat → Nat → Nat → List Nat
  | 0, _, _ => []
  | m + 1, i, w => if i < w then ab_wl r s e m (i + 1) w else (ab_w r s e i).1 ++ ab_wl r s e m (i + 1) (ab_w r s e i).2
def ab_st (r : List Nat) (i : Nat) : List Nat := r.take i ++ ab_wl r (i + 1) (te_en r (i + 1)) (te_en r (i + 1) - (i + 1)) (i + 1) (i + 1) ++ r.drop (te_en r (i + 1))
/-- all abstractions from place i - 1 on down -/
def te_ab : Nat → List Nat → Option (List Nat)
  | 0, r => some r
  | i + 1, r => if r.getD i 0 = 92 then (if (ab_st r i).length ≤ 2000 then te_ab i (ab_st r i) else none) else te_ab i r
section
variable {l : Launch} {sc : Nat × (Nat → Int32)} {Q : mm_O → mm_M → Prop} {a b ga : Nat} {r : List Nat}
theorem c_Ab_isUsed {M : mm_M} {en us : Nat → Int32} (hA : ab_is M a b en us) {x y ux uy : Nat} (hx : x ≤ 2000) (hy : y ≤ 2000) (hux : us x = nI ux) (huy : us y = nI uy) (hu1 : ux ≤ 10000) (hu2 : uy ≤ 10000) (hN : uy ≤ ux → Q (.inl (some (.int (nI 0)))) M) (hY : ux < uy → Q (.inl (some (.int (nI 1)))) M) : mm_Ct l sc Y_Ab_isUsed M [.ref 47, .int (nI x), .int (nI y)] Q := by
  obtain ⟨a1, a2, a3, a4⟩ := id hA
  refine mm_by k_Ab_isUsed w_Ab_isUsed rfl rfl ?_
  refine mg_run 1 rfl ?_
  refine mg_get rfl rfl a1 rfl ?_
  refine mg_run 1 rfl ?_
  refine mg_ildN rfl a3 (by decide) (by omega) ?_
  rw [huy]
  refine mg_run 1 rfl ?_
  refine mg_get rfl rfl a1 rfl ?_
  refine mg_run 1 rfl ?_
  refine mg_ildN rfl a3 (by decide) (by omega) ?_
  rw [hux]
  refine mg_le rfl (by omega) (by omega) (fun h => ?_) (fun h => ?_)
  · refine mg_run 1 rfl ?_
    exact mg_zr rfl rfl (Or.inl rfl) rfl rfl (hN h)
  · refine mg_run 2 rfl ?_
    exact mg_zr rfl rfl (Or.inr rfl) rfl rfl (hY h)
theorem lp_Ab_writeOutside (hb : ∀ i, r.getD i 0 < 10000) {en us : Nat → Int32} {e : Nat} {x1 : Int32} (he : e ≤ r.length) : ∀ m i (x4 : Option Value) (M : mm_M) (bf : List Nat × Nat) (out : List Nat), ab_is M a b en us → te_is M a r ga → te_is M b bf.1 bf.2 → wr bf out → e - i = m →
    (∀ (M' : mm_M) (bf' : List Nat × Nat), te_is M' b bf'.1 bf'.2 → wr bf' (out ++ te_pc (ab_f r) i m) → mm_on (te_P b) M M' → Q (.inl none) M') → i ≤ 2000 →
    mm_Go l sc Y_Ab_writeOutside 0 0 M [some (.ref 47), some (.int x1), some (.int (nI e)), some (.int (nI i)), x4] [] 2 Q := by
  intro m
  induction m with
  | zero =>
    intro i x4 M bf out hA hT hB hw hm hQ hi
    have h4 := hT.len
    refine mg_run 2 rfl ?_
    refine mg_ge rfl (by omega) (by omega) (fun h => ?_) (fun h => absurd h (by omega))
    refine mg_vr rfl rfl rfl rfl ?_
    exact hQ M bf hB (by rw [te_pc, List.append_nil]; exact hw) (mm_on.rf _ M)
  | succ m ih =>
    intro i x4 M bf out hA hT hB hw hm hQ hi
    have h4 := hT.len
    obtain ⟨a1, a2, a3, a4⟩ := id hA
    obtain ⟨s1, s2, s3, s4, s5⟩ := ab_sep a4
    obtain ⟨f, t1, -⟩ := id hT
    obtain ⟨fb, b1, -⟩ := id hB
    have hbi := hb i
    refine mg_run 2 rfl ?_
    refine mg_ge rfl (by omega) (by omega) (fun h => absurd h (by omega)) (fun h => ?_)
    refine mg_run 1 rfl ?_
    refine mg_get rfl rfl a1 rfl ?_
    refine mg_run 1 rfl ?_
    refine mg_callV [.int (nI i)] rfl rfl rfl t1 rfl rfl rfl rfl (c_Te_at hT (by omega) ?_)
    refine mg_run 2 rfl ?_
    refine mg_get rfl rfl a1 rfl ?_
    refine mg_run 2 rfl ?_
    refine mg_le rfl (by omega) (by decide) (fun h9 => ?_) (fun h9 => ?_)
    · refine mg_run 1 rfl ?_
      refine mg_callV [.int (nI (r.getD i 0))] rfl rfl rfl b1 rfl rfl rfl rfl (c_Te_add hB (fun M1 p1 p2 => ?_))
      refine mg_incN rfl rfl rfl ?_
      refine mg_run 1 rfl ?_
      refine ih (i + 1) _ M1 _ (out ++ [r.getD i 0]) (hA.keep p2) (hT.keep p2 s2.1 s2.2) p1 (hw.add _) (by omega) (fun M' bf' q1 q2 q3 => hQ M' bf' q1 ?_ (p2.tr q3)) (by omega)
      rw [te_pc, ab_f, if_pos h9, ← List.append_assoc]
      exact q2
    · refine mg_run 2 rfl ?_
      refine mg_subN rfl (by omega) ?_
      refine mg_run 1 rfl ?_
      refine mg_callV [.int (nI (r.getD i 0 - 1))] rfl rfl rfl b1 rfl rfl rfl rfl (c_Te_add hB (fun M1 p1 p2 => ?_))
      refine mg_incN rfl rfl rfl ?_
      refine mg_run 1 rfl ?_
      refine ih (i + 1) _ M1 _ (out ++ [r.getD i 0 - 1]) (hA.keep p2) (hT.keep p2 s2.1 s2.2) p1 (hw.add _) (by omega) (fun M' bf' q1 q2 q3 => hQ M' bf' q1 ?_ (p2.tr q3)) (by omega)
      rw [te_pc, ab_f, if_neg (by omega), ← List.append_assoc]
      exact q2
theorem c_Ab_writeOutside (hb : ∀ i, r.getD i 0 < 10000) {en us : Nat → Int32} {s e : Nat} (hs : s ≤ 2000) (he : e ≤ r.length) {M : mm_M} {bf : List Nat × Nat} {out : List Nat} (hA : ab_is M a b en us) (hT : te_is M a r ga) (hB : te_is M b bf.1 bf.2) (hw : wr bf out)
    (hQ : ∀ (M' : mm_M) (bf' : List Nat × Nat), te_is M' b bf'.1 bf'.2 → wr bf' (out ++ ab_o r s e) → mm_on (te_P b) M M' → Q (.inl none) M') : mm_Ct l sc Y_Ab_writeOutside M [.ref 47, .int (nI s), .int (nI e)] Q := by
  refine mm_by k_Ab_writeOutside w_Ab_writeOutside rfl rfl ?_
  refine mg_run 2 rfl ?_
  exact lp_Ab_writeOutside hb he _ s none M bf out hA hT hB hw rfl hQ hs
theorem c_Ab_writePart (hb : ∀ i, r.getD i 0 < 10000) {en us : Nat → Int32} {s e i : Nat} (hs : s ≤ i) (hi : i < e) (he : e ≤ r.length) (hE : ∀ i, s ≤ i → i < e → te_en r i ≤ e ∧ ¬ r.getD i 0 = 92) (hen : ∀ i, s ≤ i → i ≤ e → en i = nI (ab_E r e i)) (hus : ∀ j, j ≤ e - s → us (s + j) = nI (ab_U r s j)) {M : mm_M} {bf : List Nat × Nat} {out : List Nat} (hA : ab_is M a b en us) (hT : te_is M a r ga) (hB : te_is M b bf.1 bf.2) (hw : wr bf out)
    (hQ : ∀ (M' : mm_M) (bf' : List Nat × Nat), te_is M' b bf'.1 bf'.2 → wr bf' (out ++ (ab_w r s e i).1) → mm_on (te_P b) M M' → Q (.inl (some (.int (nI (ab_w r s e i).2)))) M') : mm_Ct l sc Y_Ab_writePart M [.ref 47, .int (nI i)] Q := by
  have h4 := hT.len
  obtain ⟨a1, a2, a3, a4⟩ := id hA
  obtain ⟨s1, s2, s3, s4, s5⟩ := ab_sep a4
  obtain ⟨f, t1, -⟩ := id hT
  obtain ⟨fb, b1, -⟩ := id hB
  have hEi : ab_E r e i = te_en r i := by unfold ab_E; rw [if_pos hi]
  have hEle : ab_E r e i ≤ e := by rw [hEi]; exact (hE i hs hi).1
  have hEge : i ≤ ab_E r e i := by rw [hEi]; exact te_en_ge r i
  have hE1 : ab_E r e (i + 1) ≤ e ∧ i + 1 ≤ ab_E r e (i + 1) := by
    unfold ab_E
    by_cases h9 : i + 1 < e
    · rw [if_pos h9]; exact ⟨(hE (i + 1) (by omega) h9).1, te_en_ge r _⟩
    · rw [if_neg h9]; omega
  have hu : ∀ x, s ≤ x → x ≤ e → us x = nI (ab_U r s (x - s)) := fun x h1 h2 => by
    have h9 := hus (x - s) (by omega)
    rw [show s + (x - s) = x by omega] at h9
    exact h9
  have hul : ∀ x, x ≤ e → ab_U r s (x - s) ≤ 10000 := fun x h1 => by have := ab_U_le r s (x - s); omega
  have hbi := hb i
  refine mm_by k_Ab_writePart w_Ab_writePart rfl rfl ?_
  refine mg_run 1 rfl ?_
  refine mg_get rfl rfl a1 rfl ?_
  refine mg_run 1 rfl ?_
  refine mg_ildN rfl a2 (by decide) (by omega) ?_
  rw [hen i hs (by omega)]
  refine mg_run 2 rfl ?_
  refine mg_get rfl rfl a1 rfl ?_
  refine mg_run 1 rfl ?_
  refine mg_callV [.int (nI i)] rfl rfl rfl t1 rfl rfl rfl rfl (c_Te_at hT (by omega) ?_)
  refine mg_run 1 rfl ?_
  refine mg_ne rfl (by omega) (by decide) (fun h1 => ?_) (fun h1 => ?_)
  · refine mg_run 3 rfl ?_
    refine mg_callV [.int (nI i), .int (nI (ab_E r e i))] rfl rfl rfl a1 rfl rfl rfl rfl (c_Ab_isUsed hA (by omega) (by omega) (hu i hs (by omega)) (hu _ (by omega) hEle) (hul i (by omega)) (hul _ hEle) (fun h2 => ?_) (fun h2 => ?_))
    · refine mg_zne rfl (by decide) (fun h => absurd h (by decide)) (fun h => ?_)
      have ew : ab_w r s e i = ([64] ++ [75] ++ ab_o r i (ab_E r e i), ab_E r e i) := by unfold ab_w; rw [if_neg h1, if_pos h2]
      rw [ew] at hQ
      refine mg_run 1 rfl ?_
      refine mg_get rfl rfl a1 rfl ?_
      refine mg_run 1 rfl ?_
      refine mg_callV [.int (nI 64)] rfl rfl rfl b1 rfl rfl rfl rfl (c_Te_add hB (fun M1 p1 p2 => ?_))
      have A1 := hA.keep p2
      have T1 := hT.keep p2 s2.1 s2.2
      have w1 := hw.add 64
      obtain ⟨fb1, b2, -⟩ := id p1
      refine mg_run 1 rfl ?_
      refine mg_get rfl rfl A1.1 rfl ?_
      refine mg_run 1 rfl ?_
      refine mg_callV [.int (nI 75)] rfl rfl rfl b2 rfl rfl rfl rfl (c_Te_add p1 (fun M2 q1 q2 => ?_))
      have A2 := A1.keep q2
      have T2 := T1.keep q2 s2.1 s2.2
      have w2 := w1.add 75
      refine mg_run 3 rfl ?_
      refine mg_callV [.int (nI i), .int (nI (ab_E r e i))] rfl rfl rfl A2.1 rfl rfl rfl rfl (c_Ab_writeOutside hb (by omega) (by omega) A2 T2 q1 w2 (fun M3 bf3 u1 u2 u3 => ?_))
      refine mg_run 1 rfl ?_
      refine mg_ir rfl rfl rfl rfl ?_
      refine hQ M3 bf3 u1 ?_ ((p2.tr q2).tr u3)
      simp only [List.append_assoc] at u2 ⊢
      exact u2
    · refine mg_zne rfl (by decide) (fun h => ?_) (fun h => absurd h (by decide))
      have hbg := hb (ab_E r e (i + 1))
      have hS : ¬ (r.getD (ab_E r e (i + 1)) 0 = 1000 ∧ ab_U r s (ab_E r e (i + 1) - s) ≤ ab_U r s (i + 1 - s)) → mm_Go l sc Y_Ab_writePart 0 0 M [some (.ref 47), some (.int (nI i)), some (.int (nI (ab_E r e i))), some (.int (nI (ab_E r e (i + 1))))] [] 111 Q := fun h3 => by
        have ew : ab_w r s e i = ([64] ++ [64] ++ [83], i + 1) := by unfold ab_w; rw [if_neg h1, if_neg (by omega), if_neg h3]
        rw [ew] at hQ
        refine mg_run 1 rfl ?_
        refine mg_get rfl rfl a1 rfl ?_
        refine mg_run 1 rfl ?_
        refine mg_callV [.int (nI 64)] rfl rfl rfl b1 rfl rfl rfl rfl (c_Te_add hB (fun M1 p1 p2 => ?_))
        have A1 := hA.keep p2
        have w1 := hw.add 64
        obtain ⟨fb1, b2, -⟩ := id p1
        refine mg_run 1 rfl ?_
        refine mg_get rfl rfl A1.1 rfl ?_
        refine mg_run 1 rfl ?_
        refine mg_callV [.int (nI 64)] rfl rfl rfl b2 rfl rfl rfl rfl (c_Te_add p1 (fun M2 q1 q2 => ?_))
        have A2 := A1.keep q2
        have w2 := w1.add 64
        obtain ⟨fb2, b3, -⟩ := id q1
        refine mg_run 1 rfl ?_
        refine mg_get rfl rfl A2.1 rfl ?_
        refine mg_run 1 rfl ?_
        refine mg_callV [.int (nI 83)] rfl rfl rfl b3 rfl rfl rfl rfl (c_Te_add q1 (fun M3 u1 u2 => ?_))
        have w3 := w2.add 83
        refine mg_run 2 rfl ?_
        refine mg_addN rfl ?_
        refine mg_ir rfl rfl rfl rfl ?_
        refine hQ M3 _ u1 ?_ ((p2.tr q2).tr u2)
        simp only [List.append_assoc] at w3 ⊢
        exact w3
      refine mg_run 1 rfl ?_
      refine mg_get rfl rfl a1 rfl ?_
      refine mg_run 2 rfl ?_
      refine mg_addN rfl ?_
      refine mg_ildN rfl a2 (by decide) (by omega) ?_
      rw [hen (i + 1) (by omega) (by omega)]
      refine mg_run 2 rfl ?_
      refine mg_get rfl rfl a1 rfl ?_
      refine mg_run 1 rfl ?_
      refine mg_callV [.int (nI (ab_E r e (i + 1)))] rfl rfl rfl t1 rfl rfl rfl rfl (c_Te_at hT (by omega) ?_)
      refine mg_run 1 rfl ?_
      refine mg_ne rfl (by omega) (by decide) (fun h3 => ?_) (fun h3 => ?_)
      · exact hS (fun h9 => h3 h9.1)
      · refine mg_run 3 rfl ?_
        refine mg_addN rfl ?_
        refine mg_run 1 rfl ?_
        refine mg_callV [.int (nI (i + 1)), .int (nI (ab_E r e (i + 1)))] rfl rfl rfl a1 rfl rfl rfl rfl (c_Ab_isUsed hA (by omega) (by omega) (hu (i + 1) (by omega) (by omega)) (hu _ (by omega) hE1.1) (hul _ (by omega)) (hul _ hE1.1) (fun h5 => ?_) (fun h5 => ?_))
        · refine mg_zne rfl (by decide) (fun h => absurd h (by decide)) (fun h => ?_)
          have ew : ab_w r s e i = (ab_o r (i + 1) (ab_E r e (i + 1)), ab_E r e i) := by unfold ab_w; rw [if_neg h1, if_neg (by omega), if_pos ⟨h3, h5⟩]
          rw [ew] at hQ
          refine mg_run 3 rfl ?_
          refine mg_addN rfl ?_
          refine mg_run 1 rfl ?_
          refine mg_callV [.int (nI (i + 1)), .int (nI (ab_E r e (i + 1)))] rfl rfl rfl a1 rfl rfl rfl rfl (c_Ab_writeOutside hb (by omega) (by omega) hA hT hB hw (fun M3 bf3 u1 u2 u3 => ?_))
          refine mg_run 1 rfl ?_
          refine mg_ir rfl rfl rfl rfl ?_
          exact hQ M3 bf3 u1 u2 u3
        · refine mg_zne rfl (by decide) (fun h => ?_) (fun h => absurd h (by decide))
          exact hS (fun h9 => absurd h9.2 (by omega))
  · have ew : ab_w r s e i = ([73], ab_E r e i) := by unfold ab_w; rw [if_pos h1]
    rw [ew] at hQ
    refine mg_run 1 rfl ?_
    refine mg_get rfl rfl a1 rfl ?_
    refine mg_run 1 rfl ?_
    refine mg_callV [.int (nI 73)] rfl rfl rfl b1 rfl rfl rfl rfl (c_Te_add hB (fun M1 p1 p2 => ?_))
    refine mg_run 1 rfl ?_
    refine mg_ir rfl rfl rfl rfl ?_
    exact hQ M1 _ p1 (hw.add 73) p2
theorem ab_w_le {s e i : Nat} (hs : s ≤ i) (hi : i < e) (hE : ∀ i, s ≤ i → i < e → te_en r i ≤ e ∧ ¬ r.getD i 0 = 92) : (ab_w r s e i).2 ≤ e := by
  have hEle : ab_E r e i ≤ e := by unfold ab_E; rw [if_pos hi]; exact (hE i hs hi).1
  unfold ab_w
  repeat' split
  all_goals first | exact hEle | exact hi
/-- what stands behind the body -/
theorem ab_tail {M : mm_M} {en us : Nat → Int32} {e : Nat} {bf : List Nat × Nat} {out : List Nat} {x1 x2 x4 x5 : Int32} (he : e ≤ r.length) (hA : ab_is M a b en us) (hT : te_is M a r ga) (hB : te_is M b bf.1 bf.2) (hw : wr bf out)
    (hQ : ∀ (M' : mm_M) (bf' : List Nat × Nat), te_is M' b bf'.1 bf'.2 → wr bf' (out ++ r.drop e) → mm_on (te_P b) M M' → Q (.inl none) M') : mm_Go l sc Y_Ab_writeWithout 0 0 M [some (.ref 47), some (.int x1), some (.int x2), some (.int (nI e)), some (.int x4), some (.int x5)] [] 82 Q := by
  have h4 := hT.len
  obtain ⟨a1, a2, a3, a4⟩ := id hA
  obtain ⟨s1, s2, s3, s4, s5⟩ := ab_sep a4
  obtain ⟨f, t1, -⟩ := id hT
  obtain ⟨fb, b1, -⟩ := id hB
  refine mg_run 1 rfl ?_
  refine mg_get rfl rfl a1 rfl ?_
  refine mg_run 1 rfl ?_
  refine mg_get rfl rfl a1 rfl ?_
  refine mg_run 2 rfl ?_
  refine mg_get rfl rfl a1 rfl ?_
  refine mg_callV [] rfl rfl rfl t1 rfl rfl rfl rfl (c_Te_length hT ?_)
  refine mg_callV [.ref a, .int (nI e), .int (nI r.length)] rfl rfl rfl b1 rfl rfl rfl rfl (c_Te_addPart hB hT s2 he (Nat.le_refl _) (fun M1 p1 p2 => ?_))
  refine mg_vr rfl rfl rfl rfl ?_
  rw [List.take_of_length_le (l := r.drop e) (by rw [List.length_drop]; omega)] at p1
  exact hQ M1 _ p1 (hw.adds _) p2
theorem lp_Ab_writeWithout (hb : ∀ i, r.getD i 0 < 10000) {en us : Nat → Int32} {s e : Nat} {x1 : Int32} (he : e ≤ r.length) (hE : ∀ i, s ≤ i → i < e → te_en r i ≤ e ∧ ¬ r.getD i 0 = 92) (hen : ∀ i, s ≤ i → i ≤ e → en i = nI (ab_E r e i)) (hus : ∀ j, j ≤ e - s → us (s + j) = nI (ab_U r s j)) : ∀ m i w (M : mm_M) (bf : List Nat × Nat) (out : List Nat), ab_is M a b en us → te_is M a r ga → te_is M b bf.1 bf.2 → wr bf out → e - i = m → s ≤ i → i ≤ e → w ≤ e →
    (∀ (M' : mm_M) (bf' : List Nat × Nat), te_is M' b bf'.1 bf'.2 → wr bf' (out ++ ab_wl r s e m i w ++ r.drop e) → mm_on (te_P b) M M' → Q (.inl none) M') →
    mm_Go l sc Y_Ab_writeWithout 0 0 M [some (.ref 47), some (.int x1), some (.int (nI s)), some (.int (nI e)), some (.int (nI w)), some (.int (nI i))] [] 45 Q := by
  intro m
  induction m with
  | zero =>
    intro i w M bf out hA hT hB hw hm hs hi hwe hQ
    have h4 := hT.len
    refine mg_run 2 rfl ?_
    refine mg_ge rfl (by omega) (by omega) (fun h => ?_) (fun h => absurd h (by omega))
    exact ab_tail he hA hT hB hw (fun M' bf' p1 p2 p3 => hQ M' bf' p1 (by rw [ab_wl, List.append_nil]; exact p2) p3)
  | succ m ih =>
    intro i w M bf out hA hT hB hw hm hs hi hwe hQ
    have h4 := hT.len
    obtain ⟨a1, a2, a3, a4⟩ := id hA
    obtain ⟨s1, s2, s3, s4, s5⟩ := ab_sep a4
    obtain ⟨fb, b1, b2, b3, b4, b5⟩ := id hB
    refine mg_run 2 rfl ?_
    refine mg_ge rfl (by omega) (by omega) (fun h => absurd h (by omega)) (fun h => ?_)
    refine mg_run 1 rfl ?_
    refine mg_get rfl rfl a1 rfl ?_
    refine mg_callV [] rfl rfl rfl b1 rfl rfl rfl rfl (c_Te_isTooGreat hB ?_)
    refine mg_zne rfl (by omega) (fun h9 => ?_) (fun h9 => ?_)
    · exact ab_tail he hA hT hB (hw.more h9 (ab_wl r s e (m + 1) i w)) hQ
    · refine mg_run 2 rfl ?_
      refine mg_lt rfl (by omega) (by omega) (fun h7 => ?_) (fun h7 => ?_)
      · refine mg_incN rfl rfl rfl ?_
        refine mg_run 1 rfl ?_
        refine ih (i + 1) w M bf out hA hT hB hw (by omega) (by omega) (by omega) hwe (fun M' bf' p1 p2 p3 => hQ M' bf' p1 ?_ p3)
        rw [ab_wl, if_pos h7]
        exact p2
      · refine mg_run 2 rfl ?_
        refine mg_callV [.int (nI i)] rfl rfl rfl a1 rfl rfl rfl rfl (c_Ab_writePart hb hs h he hE hen hus hA hT hB hw (fun M1 bf1 p1 p2 p3 => ?_))
        have hle := ab_w_le (r := r) hs h hE
        refine mg_run 1 rfl ?_
        refine mg_incN rfl rfl rfl ?_
        refine mg_run 1 rfl ?_
        refine ih (i + 1) _ M1 bf1 _ (hA.keep p3) (hT.keep p3 s2.1 s2.2) p1 p2 (by omega) (by omega) (by omega) hle (fun M' bf' q1 q2 q3 => hQ M' bf' q1 ?_ (p3.tr q3))
        rw [ab_wl, if_neg (by omega)]
        simp only [List.append_assoc] at q2 ⊢
        exact q2
theorem c_Ab_writeWithout (hb : ∀ i, r.getD i 0 < 10000) {en us : Nat → Int32} {i : Nat} (hi : i < r.length) (hE : ∀ j, i + 1 ≤ j → j < te_en r (i + 1) → te_en r j ≤ te_en r (i + 1) ∧ ¬ r.getD j 0 = 92) {M : mm_M} {bf : List Nat × Nat} (hA : ab_is M a b en us) (hT : te_is M a r ga) (hB : te_is M b bf.1 bf.2)
    (hQ : ∀ (M' : mm_M) (bf' : List Nat × Nat) (en' us' : Nat → Int32), ab_is M' a b en' us' → te_is M' a r ga → te_is M' b bf'.1 bf'.2 → wr bf' (ab_st r i) → mm_on (fun j => te_P b j ∨ ab_P j) M M' → Q (.inl none) M') : mm_Ct l sc Y_Ab_writeWithout M [.ref 47, .int (nI i)] Q := by
  have h4 := hT.len
  obtain ⟨a1, a2, a3, a4⟩ := id hA
  obtain ⟨s1, s2, s3, s4, s5⟩ := ab_sep a4
  obtain ⟨f, t1, -⟩ := id hT
  have hb31 : ∀ i, r.getD i 0 < 2 ^ 31 := fun i => Nat.lt_trans (hb i) (by decide)
  have he := te_en_le (r := r) (s := i + 1) (by omega)
  have hge := te_en_ge r (i + 1)
  refine mm_by k_Ab_writeWithout w_Ab_writeWithout rfl rfl ?_
  refine mg_run 2 rfl ?_
  refine mg_addN rfl ?_
  refine mg_run 2 rfl ?_
  refine mg_get rfl rfl a1 rfl ?_
  refine mg_run 1 rfl ?_
  refine mg_callV [.int (nI (i + 1))] rfl rfl rfl t1 rfl rfl rfl rfl (c_Te_endOf hT hb31 (by omega) ?_)
  refine mg_run 4 rfl ?_
  refine mg_callV [.int (nI (i + 1)), .int (nI (te_en r (i + 1)))] rfl rfl rfl a1 rfl rfl rfl rfl (c_Ab_measure hb31 hge he hE hA hT (fun M1 en1 us1 p1 p2 p3 p4 p5 => ?_))
  have B1 := hB.keep p5 s5.2.2.1 s5.2.2.2
  obtain ⟨fb1, c1, -⟩ := id B1
  refine mg_run 1 rfl ?_
  refine mg_get rfl rfl p1.1 rfl ?_
  refine mg_callV [] rfl rfl rfl c1 rfl rfl rfl rfl (c_Te_clear B1 (fun M2 q1 q2 => ?_))
  have A2 := p1.keep q2
  have T2 := p2.keep q2 s2.1 s2.2
  obtain ⟨fb2, c2, -⟩ := id q1
  refine mg_run 1 rfl ?_
  refine mg_get rfl rfl A2.1 rfl ?_
  refine mg_run 1 rfl ?_
  refine mg_get rfl rfl A2.1 rfl ?_
  refine mg_run 2 rfl ?_
  refine mg_callV [.ref a, .int (nI 0), .int (nI i)] rfl rfl rfl c2 rfl rfl rfl rfl (c_Te_addPart q1 T2 s2 (Nat.zero_le _) (by omega) (fun M3 u1 u2 => ?_))
  have w3 := wr0.adds ((r.drop 0).take (i - 0))
  have A3 := A2.keep u2
  have T3 := T2.keep u2 s2.1 s2.2
  refine mg_run 4 rfl ?_
  refine lp_Ab_writeWithout hb he hE p3 p4 _ (i + 1) (i + 1) M3 _ _ A3 T3 u1 w3 rfl (Nat.le_refl _) hge hge (fun M' bf' v1 v2 v3 => ?_)
  refine hQ M' bf' en1 us1 (A3.keep v3) (T3.keep v3 s2.1 s2.2) v1 ?_ ((((p5.wk (fun j h => Or.inr h)).tr (q2.wk (fun j h => Or.inl h))).tr (u2.wk (fun j h => Or.inl h))).tr (v3.wk (fun j h => Or.inl h)))
  rw [List.drop_zero, Nat.sub_zero, List.nil_append] at v2
  exact v2
def aa_P (i : Nat) : Prop := 47 ≤ i ∧ i ≤ 53
theorem lp_Ab_run (P : Nat → List Nat → Prop) (hP1 : ∀ m r, P m r → ∀ i, r.getD i 0 < 10000) (hP2 : ∀ i r, P (i + 1) r → r.getD i 0 = 92 → i < r.length ∧ (∀ j, i + 1 ≤ j → j < te_en r (i + 1) → te_en r j ≤ te_en r (i + 1) ∧ ¬ r.getD j 0 = 92) ∧ ((ab_st r i).length ≤ 2000 → P i (ab_st r i))) (hP3 : ∀ i r, P (i + 1) r → ¬ r.getD i 0 = 92 → P i r) {x1 : Nat} : ∀ m a b (r : List Nat) (ga : Nat) (x3 : Option Value) (M : mm_M) (bf : List Nat × Nat) (en us : Nat → Int32), m ≤ 2000 → P m r → ab_is M a b en us → te_is M a r ga → te_is M b bf.1 bf.2 →
    (∀ (M' : mm_M) (a' b' : Nat) (en' us' : Nat → Int32) (ga' : Nat) (ra' : List Nat) (bf' : List Nat × Nat), te_ab m r = some ra' → ab_is M' a' b' en' us' → te_is M' a' ra' ga' → te_is M' b' bf'.1 bf'.2 → mm_on aa_P M M' → Q (.inl (some (.int (nI 1)))) M') →
    (∀ (M' : mm_M) (a' b' : Nat) (en' us' : Nat → Int32) (ga' : Nat) (ra' : List Nat) (bf' : List Nat × Nat), te_ab m r = none → ab_is M' a' b' en' us' → te_is M' a' ra' ga' → te_is M' b' bf'.1 bf'.2 → mm_on aa_P M M' → Q (.inl (some (.int (nI 0)))) M') →
    mm_Go l sc Y_Ab_run 0 0 M [some (.ref 47), some (.ref x1), some (.int (nI m - 1)), x3] [] 15 Q := by
  intro m
  induction m with
  | zero =>
    intro a b r ga x3 M bf en us hm hPr hA hT hB hQ hN
    have e0 : nI 0 - 1 = -1 := by decide
    rw [e0]
    refine mg_run 1 rfl ?_
    refine mg_zltM rfl ?_
    refine mg_run 1 rfl ?_
    refine mg_zr rfl rfl (Or.inr rfl) rfl rfl ?_
    exact hQ M a b en us ga r bf rfl hA hT hB (mm_on.rf _ M)
  | succ m ih =>
    intro a b r ga x3 M bf en us hm hPr hA hT hB hQ hN
    have h4 := hT.len
    have hb := hP1 _ r hPr
    have hb31 : ∀ i, r.getD i 0 < 2 ^ 31 := fun i => Nat.lt_trans (hb i) (by decide)
    obtain ⟨a1, a2, a3, a4⟩ := id hA
    obtain ⟨s1, s2, s3, s4, s5⟩ := ab_sep a4
    obtain ⟨f, t1, -⟩ := id hT
    rw [nI_pred]
    refine mg_run 1 rfl ?_
    refine mg_zlt rfl (by omega) ?_
    refine mg_run 1 rfl ?_
    refine mg_get rfl rfl a1 rfl ?_
    refine mg_run 1 rfl ?_
    refine mg_callV [.int (nI m)] rfl rfl rfl t1 rfl rfl rfl rfl (c_Te_at hT (by omega) ?_)
    refine mg_run 1 rfl ?_
    have e1 : nI m + -1 = nI m - 1 := by rw [Int32.sub_eq_add_neg]
    refine mg_ne rfl (hb31 m) (by decide) (fun h9 => ?_) (fun h9 => ?_)
    · refine mg_x (M' := M) (L' := [some (.ref 47), some (.ref x1), some (.int (nI m + -1)), x3]) (S' := []) rfl rfl ?_
      refine mg_run 1 rfl ?_
      rw [e1]
      have e2 : te_ab (m + 1) r = te_ab m r := by rw [te_ab, if_neg h9]
      rw [e2] at hQ hN
      exact ih a b r ga x3 M bf en us (by omega) (hP3 m r hPr h9) hA hT hB hQ hN
    · obtain ⟨k1, k2, k3⟩ := hP2 m r hPr h9
      refine mg_run 2 rfl ?_
      refine mg_callV [.int (nI m)] rfl rfl rfl a1 rfl rfl rfl rfl (c_Ab_writeWithout hb k1 k2 hA hT hB (fun M1 bf1 en1 us1 p1 p2 p3 p4 p5 => ?_))
      obtain ⟨fb1, c1, c2, c3, c4, c5⟩ := id p3
      have hon : mm_on aa_P M M1 := p5.wk (fun j h => by
        unfold te_P ab_P at h
        unfold aa_P
        rcases a4 with ⟨h1, h2⟩ | ⟨h1, h2⟩ <;> omega)
      refine mg_run 1 rfl ?_
      refine mg_get rfl rfl p1.1 rfl ?_
      refine mg_callV [] rfl rfl rfl c1 rfl rfl rfl rfl (c_Te_isTooGreat p3 ?_)
      refine mg_zeq rfl (by omega) (fun h0 => ?_) (fun h0 => ?_)
      · obtain ⟨g1, g2⟩ := p4.ok h0
        rw [g2] at p3
        refine mg_run 1 rfl ?_
        refine mg_get rfl rfl p1.1 rfl ?_
        refine mg_run 3 rfl ?_
        refine mg_get rfl rfl p1.1 rfl ?_
        refine mg_put rfl rfl p1.1 rfl rfl ?_
        have f1 := mm_at_set (.inr (0, [.ref 48, .ref 49, .ref b, .ref b])) p1.1
        refine mg_run 2 rfl ?_
        refine mg_put rfl rfl f1 rfl rfl ?_
        have f2 := mm_at_set (.inr (0, [.ref 48, .ref 49, .ref b, .ref a])) f1
        have hon1 : mm_on (fun i => i = 47) M1 ((M1.set 47 (.inr (0, [.ref 48, .ref 49, .ref b, .ref b]))).set 47 (.inr (0, [.ref 48, .ref 49, .ref b, .ref a]))) := mm_on.tr (P := fun i => i = 47) (mm_on.set M1 _ rfl) (mm_on.set _ _ rfl)
        refine mg_x (M' := (M1.set 47 (.inr (0, [.ref 48, .ref 49, .ref b, .ref b]))).set 47 (.inr (0, [.ref 48, .ref 49, .ref b, .ref a]))) (L' := [some (.ref 47), some (.ref x1), some (.int (nI m + -1)), some (.ref a)]) (S' := []) rfl rfl ?_
        refine mg_run 1 rfl ?_
        rw [e1]
        refine ih b a (ab_st r m) 0 _ _ (r, ga) en1 us1 (by omega) (k3 g1) ⟨f2, (hon1 48 (by decide)).trans p1.2.1, (hon1 49 (by decide)).trans p1.2.2.1, by rcases a4 with ⟨h1, h2⟩ | ⟨h1, h2⟩ <;> omega⟩ (p3.keep hon1 (by rcases a4 with ⟨rfl, rfl⟩ | ⟨rfl, rfl⟩ <;> decide) (by rcases a4 with ⟨rfl, rfl⟩ | ⟨rfl, rfl⟩ <;> decide)) (p2.keep hon1 (by rcases a4 with ⟨rfl, rfl⟩ | ⟨rfl, rfl⟩ <;> decide) (by rcases a4 with ⟨rfl, rfl⟩ | ⟨rfl, rfl⟩ <;> decide)) (fun M' a' b' en' us' ga' ra' bf' q0 q1 q2 q3 q4 => ?_) (fun M' a' b' en' us' ga' ra' bf' q0 q1 q2 q3 q4 => ?_)
        · exact hQ M' a' b' en' us' ga' ra' bf' (by rw [te_ab, if_pos h9, if_pos g1]; exact q0) q1 q2 q3 ((hon.tr (hon1.wk (fun i h => by subst h; unfold aa_P; omega))).tr q4)
        · exact hN M' a' b' en' us' ga' ra' bf' (by rw [te_ab, if_pos h9, if_pos g1]; exact q0) q1 q2 q3 ((hon.tr (hon1.wk (fun i h => by subst h; unfold aa_P; omega))).tr q4)
      · have g1 := p4.not h0
        refine mg_run 1 rfl ?_
        refine mg_zr rfl rfl (Or.inl rfl) rfl rfl ?_
        have e2 : te_ab (m + 1) r = none := by rw [te_ab, if_pos h9, if_neg (by omega)]
        exact hN M1 a b en1 us1 ga r bf1 e2 p1 p2 p3 hon
theorem c_Ab_run (P : Nat → List Nat → Prop) (hP1 : ∀ m r, P m r → ∀ i, r.getD i 0 < 10000) (hP2 : ∀ i r, P (i + 1) r → r.getD i 0 = 92 → i < r.length ∧ (∀ j, i + 1 ≤ j → j < te_en r (i + 1) → te_en r j ≤ te_en r (i + 1) ∧ ¬ r.getD j 0 = 92) ∧ ((ab_st r i).length ≤ 2000 → P i (ab_st r i))) (hP3 : ∀ i r, P (i + 1) r → ¬ r.getD i 0 = 92 → P i r) {t gt : Nat} {r0 : List Nat} {M : mm_M} {bf : List Nat × Nat} {en us : Nat → Int32} (hPr : P r.length r) (hA : ab_is M a b en us) (hT : te_is M a r0 ga) (hB : te_is M b bf.1 bf.2) (hS : te_is M t r gt) (hap : te_ap a t)
    (hQ : ∀ (M' : mm_M) (a' b' : Nat) (en' us' : Nat → Int32) (ga' : Nat) (ra' : List Nat) (bf' : List Nat × Nat), te_ab r.length r = some ra' → ab_is M' a' b' en' us' → te_is M' a' ra' ga' → te_is M' b' bf'.1 bf'.2 → mm_on aa_P M M' → Q (.inl (some (.int (nI 1)))) M')
    (hN : ∀ (M' : mm_M) (a' b' : Nat) (en' us' : Nat → Int32) (ga' : Nat) (ra' : List Nat) (bf' : List Nat × Nat), te_ab r.length r = none → ab_is M' a' b' en' us' → te_is M' a' ra' ga' → te_is M' b' bf'.1 bf'.2 → mm_on aa_P M M' → Q (.inl (some (.int (nI 0)))) M') : mm_Ct l sc Y_Ab_run M [.ref 47, .ref t] Q := by
  have h4 := hS.len
  obtain ⟨a1, a2, a3, a4⟩ := id hA
  obtain ⟨s1, s2, s3, s4, s5⟩ := ab_sep a4
  obtain ⟨f, t1, -⟩ := id hT
  refine mm_by k_Ab_run w_Ab_run rfl rfl ?_
  refine mg_run 1 rfl ?_
  refine mg_get rfl rfl a1 rfl ?_
  refine mg_run 1 rfl ?_
  refine mg_callV [.ref t] rfl rfl rfl t1 rfl rfl rfl rfl (c_Te_become hT hS hap (fun M1 p1 p2 => ?_))
  have hS1 : ∃ g9, te_is M1 t r g9 := ⟨gt, hS.keep p2 hap.1 hap.2⟩
  obtain ⟨g9, hS1⟩ := hS1
  obtain ⟨fs, u1, -⟩ := id hS1
  have A1 : ab_is M1 a b en us := ⟨(p2 47 s4.1).trans a1, (p2 48 s4.2.1).trans a2, (p2 49 s4.2.2).trans a3, a4⟩
  have B1 := hB.keep p2 s3.1 s3.2
  refine mg_run 1 rfl ?_
  refine mg_callV [] rfl rfl rfl u1 rfl rfl rfl rfl (c_Te_length hS1 ?_)
  refine mg_run 1 rfl ?_
  refine mg_x (M' := M1) (L' := [some (.ref 47), some (.ref t), none, none]) (S' := [.int (nI r.length - nI 1)]) rfl rfl ?_
  refine mg_run 1 rfl ?_
  have hon : mm_on aa_P M M1 := p2.wk (fun j h => by
    unfold te_P at h
    unfold aa_P
    rcases a4 with ⟨h1, h2⟩ | ⟨h1, h2⟩ <;> omega)
  exact lp_Ab_run P hP1 hP2 hP3 r.length a b r 0 none M1 bf en us h4 hPr A1 p1 B1 (fun M' a' b' en' us' ga' ra' bf' q0 q1 q2 q3 q4 => hQ M' a' b' en' us' ga' ra' bf' q0 q1 q2 q3 (hon.tr q4)) (fun M' a' b' en' us' ga' ra' bf' q0 q1 q2 q3 q4 => hN M' a' b' en' us' ga' ra' bf' q0 q1 q2 q3 (hon.tr q4))
theorem c_Ab_result {M : mm_M} {en us : Nat → Int32} (hA : ab_is M a b en us) (hQ : Q (.inl (some (.ref a))) M) : mm_Ct l sc Y_Ab_result M [.ref 47] Q := by
  refine mm_by k_Ab_result w_Ab_result rfl rfl ?_
  refine mg_run 1 rfl ?_
  refine mg_get rfl rfl hA.1 rfl ?_
  exact mg_ar rfl rfl rfl rfl hQ
end
end
section
/-! Constructors. Each leaves the list of cells as a function of the list before. -/
theorem mm_at_app {M : mm_M} {x : List va_E} {t : Nat} {e : va_E} (h : M[t]? = some e) : (M ++ x)[t]? = some e := by
  rw [List.getElem?_append_left (List.getElem?_eq_some_iff.mp h).1]; exact h
def mm_z (n : Nat) : va_E := .inl (0, n, .inl (fun _ => 0))
def te_new (M : mm_M) (t : Nat) : mm_M := (M ++ [mm_z 2000]).set t (.inr (6, [.ref M.length, .int 0, .int 0]))
def ta_new (M : mm_M) (t : Nat) : mm_M := (M ++ [mm_z 400]).set t (.inr (5, [.ref M.length, .int 0]))
def de_new (M : mm_M) (t : Nat) : mm_M := ((((M ++ [mm_z 2000]).set t (.inr (2, [.ref M.length, .null]))) ++ [mm_z 2002]).set t (.inr (2, [.ref M.length, .ref (M.length + 1)])))
def gra_new (M : mm_M) (t : Nat) : mm_M := ((((M ++ [mm_z 401]).set t (.inr (3, [.ref M.length, .null, .int 0, .int 0, .int 0]))) ++ [mm_z 20]).set t (.inr (3, [.ref M.length, .ref (M.length + 1), .int 0, .int 0, .int 0])))
def bu_new (M : mm_M) (t : Nat) : mm_M := ((((M ++ [mm_z 400]).set t (.inr (1, [.ref M.length, .null, .int 0, .int 0]))) ++ [mm_z 20]).set t (.inr (1, [.ref M.length, .ref (M.length + 1), .int 0, .int 0])))
section
variable {l : Launch} {sc : Nat × (Nat → Int32)} {M : mm_M} {Q : mm_O → mm_M → Prop} {t : Nat}
theorem c_Te_init (h : M[t]? = some (.inr (6, mm_df 6))) (hQ : Q (.inl none) (te_new M t)) : mm_Ct l sc Y_Te_init M [.ref t] Q := by
  refine mm_by k_Te_init w_Te_init rfl rfl ?_
  refine mg_run 1 rfl ?_
  refine mg_oinit rfl rfl rfl ?_
  refine mg_run 2 rfl ?_
  refine mg_newi rfl (by decide) rfl rfl ?_
  refine mg_put rfl rfl (mm_at_app h) rfl rfl ?_
  exact mg_vr rfl rfl rfl rfl hQ
theorem c_Ta_init (h : M[t]? = some (.inr (5, mm_df 5))) (hQ : Q (.inl none) (ta_new M t)) : mm_Ct l sc Y_Ta_init M [.ref t] Q := by
  refine mm_by k_Ta_init w_Ta_init rfl rfl ?_
  refine mg_run 1 rfl ?_
  refine mg_oinit rfl rfl rfl ?_
  refine mg_run 2 rfl ?_
  refine mg_newi rfl (by decide) rfl rfl ?_
  refine mg_put rfl rfl (mm_at_app h) rfl rfl ?_
  exact mg_vr rfl rfl rfl rfl hQ
theorem mm_len1 (M : mm_M) (e f : va_E) (t : Nat) : ((M ++ [e]).set t f).length = M.length + 1 := by simp
theorem c_De_init (h : M[t]? = some (.inr (2, mm_df 2))) (hQ : Q (.inl none) (de_new M t)) : mm_Ct l sc Y_De_init M [.ref t] Q := by
  refine mm_by k_De_init w_De_init rfl rfl ?_
  refine mg_run 1 rfl ?_
  refine mg_oinit rfl rfl rfl ?_
  refine mg_run 2 rfl ?_
  refine mg_newi rfl (by decide) rfl rfl ?_
  refine mg_put rfl rfl (mm_at_app h) rfl rfl ?_
  have h1 := mm_at_set (.inr (2, [.ref M.length, .null])) (mm_at_app (x := [mm_z 2000]) h)
  refine mg_run 2 rfl ?_
  refine mg_newi rfl (by decide) rfl rfl ?_
  refine mg_put rfl rfl (mm_at_app h1) rfl rfl ?_
  refine mg_vr rfl rfl rfl rfl ?_
  have e := mm_len1 M (mm_z 2000) (.inr (2, [.ref M.length, .null])) t
  unfold de_new at hQ
  rw [← e] at hQ
  exact hQ
theorem c_Gr_init (h : M[t]? = some (.inr (3, mm_df 3))) (hQ : Q (.inl none) (gra_new M t)) : mm_Ct l sc Y_Gr_init M [.ref t] Q := by
  refine mm_by k_Gr_init w_Gr_init rfl rfl ?_
  refine mg_run 1 rfl ?_
  refine mg_oinit rfl rfl rfl ?_
  refine mg_run 2 rfl ?_
  refine mg_newi rfl (by decide) rfl rfl ?_
  refine mg_put rfl rfl (mm_at_app h) rfl rfl ?_
  have h1 := mm_at_set (.inr (3, [.ref M.length, .null, .int 0, .int 0, .int 0])) (mm_at_app (x := [mm_z 401]) h)
  refine mg_run 2 rfl ?_
  refine mg_newi rfl (by decide) rfl rfl ?_
  refine mg_put rfl rfl (mm_at_app h1) rfl rfl ?_
  refine mg_vr rfl rfl rfl rfl ?_
  have e := mm_len1 M (mm_z 401) (.inr (3, [.ref M.length, .null, .int 0, .int 0, .int 0])) t
  unfold gra_new at hQ
  rw [← e] at hQ
  exact hQ
theorem c_Bu_init (h : M[t]? = some (.inr (1, mm_df 1))) (hQ : Q (.inl none) (bu_new M t)) : mm_Ct l sc Y_Bu_init M [.ref t] Q := by
  refine mm_by k_Bu_init w_Bu_init rfl rfl ?_
  refine mg_run 1 rfl ?_
  refine mg_oinit rfl rfl rfl ?_
  refine mg_run 2 rfl ?_
  refine mg_newi rfl (by decide) rfl rfl ?_
  refine mg_put rfl rfl (mm_at_app h) rfl rfl ?_
  have h1 := mm_at_set (.inr (1, [.ref M.length, .null, .int 0, .int 0])) (mm_at_app (x := [mm_z 400]) h)
  refine mg_run 2 rfl ?_
  refine mg_newi rfl (by decide) rfl rfl ?_
  refine mg_put rfl rfl (mm_at_app h1) rfl rfl ?_
  refine mg_vr rfl rfl rfl rfl ?_
  have e := mm_len1 M (mm_z 400) (.inr (1, [.ref M.length, .null, .int 0, .int 0])) t
  unfold bu_new at hQ
  rw [← e] at hQ
  exact hQ
end
/-! the bench, cell by cell: from here on all lists are closed terms -/
def lb_0 : mm_M := (([.inr (7, mm_df 7)] : mm_M) ++ ([.inl (2, 12, .inr (.inr (.inr (.inr (fun _ => none)))))] : mm_M)).set 0 (.inr (7, [.ref 1, .null, .null, .null, .null, .null, .null, .null, .int 0]))
/-- one Term more in the slots -/
def lb_s (M : mm_M) (i : Nat) (f : Nat → Option Nat) : mm_M := (te_new (M ++ [.inr (6, mm_df 6)]) M.length).set 1 (.inl (2, 12, .inr (.inr (.inr (.inr (va_up f i (some M.length)))))))
def lb_f : Nat → Nat → Option Nat
  | 0 => fun _ => none
  | i + 1 => va_up (lb_f i) i (some (2 + 2 * i))
def lb_i : Nat → mm_M
  | 0 => lb_0
  | i + 1 => lb_s (lb_i i) i (lb_f i)
theorem te_new_len (M : mm_M) (t : Nat) : (te_new M t).length = M.length + 1 := by simp [te_new]
theorem te_new_at {M : mm_M} {t i : Nat} (hi : ¬ t = i) {e : va_E} (h : M[i]? = some e) : (te_new M t)[i]? = some e := mm_at_ne hi (mm_at_app h)
theorem lb_i_ok : ∀ i, (lb_i i).length = 2 + 2 * i ∧ (lb_i i)[0]? = some (.inr (7, [.ref 1, .null, .null, .null, .null, .null, .null, .null, .int 0])) ∧ (lb_i i)[1]? = some (.inl (2, 12, .inr (.inr (.inr (.inr (lb_f i)))))) := by
  intro i
  induction i with
  | zero => exact ⟨rfl, rfl, rfl⟩
  | succ i ih =>
    obtain ⟨h1, h2, h3⟩ := ih
    have e0 : (te_new (lb_i i ++ [.inr (6, mm_df 6)]) (lb_i i).length)[0]? = some (.inr (7, [.ref 1, .null, .null, .null, .null, .null, .null, .null, .int 0])) := te_new_at (by omega) (mm_at_app h2)
    have e1 : (te_new (lb_i i ++ [.inr (6, mm_df 6)]) (lb_i i).length)[1]? = some (.inl (2, 12, .inr (.inr (.inr (.inr (lb_f i)))))) := te_new_at (by omega) (mm_at_app h3)
    refine ⟨?_, mm_at_ne (by decide) e0, ?_⟩
    · show ((te_new (lb_i i ++ [.inr (6, mm_df 6)]) (lb_i i).length).set 1 _).length = _
      rw [List.length_set, te_new_len, List.length_append, h1]
      rfl
    · show ((te_new (lb_i i ++ [.inr (6, mm_df 6)]) (lb_i i).length).set 1 _)[1]? = _
      rw [mm_at_set _ e1, h1]
      rfl
def re_new (M : mm_M) (t : Nat) : mm_M :=
  let M1 := (de_new (M ++ [.inr (2, mm_df 2)]) M.length).set t (.inr (4, [.ref M.length, .null, .null, .int 0]))
  let M2 := (te_new (M1 ++ [.inr (6, mm_df 6)]) M1.length).set t (.inr (4, [.ref M.length, .ref M1.length, .null, .int 0]))
  let M3 := (te_new (M2 ++ [.inr (6, mm_df 6)]) M2.length).set t (.inr (4, [.ref M.length, .ref M1.length, .ref M2.length, .int 0]))
  M3.set t (.inr (4, [.ref M.length, .ref M1.length, .ref M2.length, .int (nI 0)]))
def ab_new (M : mm_M) (t : Nat) : mm_M :=
  let M1 := (M ++ [mm_z 2001]).set t (.inr (0, [.ref M.length, .null, .null, .null]))
  let M2 := (M1 ++ [mm_z 2001]).set t (.inr (0, [.ref M.length, .ref M1.length, .null, .null]))
  let M3 := (te_new (M2 ++ [.inr (6, mm_df 6)]) M2.length).set t (.inr (0, [.ref M.length, .ref M1.length, .ref M2.length, .null]))
  (te_new (M3 ++ [.inr (6, mm_df 6)]) M3.length).set t (.inr (0, [.ref M.length, .ref M1.length, .ref M2.length, .ref M3.length]))
theorem mm_at_new (M : mm_M) (e : va_E) : (M ++ [e])[M.length]? = some e := by
  rw [List.getElem?_append_right (Nat.le_refl _), Nat.sub_self]; rfl
section
variable {l : Launch} {sc : Nat × (Nat → Int32)} {M : mm_M} {Q : mm_O → mm_M → Prop} {t : Nat}
theorem c_Re_init (h : M[t]? = some (.inr (4, mm_df 4))) (hQ : Q (.inl none) (re_new M t)) : mm_Ct l sc Y_Re_init M [.ref t] Q := by
  have hlt : t < M.length := (List.getElem?_eq_some_iff.mp h).1
  refine mm_by k_Re_init w_Re_init rfl rfl ?_
  refine mg_run 1 rfl ?_
  refine mg_oinit rfl rfl rfl ?_
  refine mg_run 1 rfl ?_
  refine mg_new rfl rfl rfl rfl ?_
  refine mg_run 1 rfl ?_
  refine mg_callI [] rfl rfl rfl rfl rfl rfl (c_De_init (mm_at_new M _) ?_)
  have h1 : (de_new (M ++ [.inr (2, mm_df 2)]) M.length)[t]? = some (.inr (4, mm_df 4)) := mm_at_ne (by omega) (mm_at_app (mm_at_ne (by omega) (mm_at_app (mm_at_app h))))
  refine mg_put rfl rfl h1 rfl rfl ?_
  have h2 := mm_at_set (.inr (4, [.ref M.length, .null, .null, .int 0])) h1
  generalize hM1 : (de_new (M ++ [.inr (2, mm_df 2)]) M.length).set t (.inr (4, [.ref M.length, .null, .null, .int 0])) = M1 at h2
  have hlt1 : t < M1.length := (List.getElem?_eq_some_iff.mp h2).1
  have g1 : (de_new (M ++ [.inr (2, mm_df 2)]) M.length).set t (.inr (4, (mm_df 4).set 0 (.ref M.length))) = M1 := hM1
  rw [g1]
  refine mg_run 1 rfl ?_
  refine mg_new rfl rfl rfl rfl ?_
  refine mg_run 1 rfl ?_
  refine mg_callI [] rfl rfl rfl rfl rfl rfl (c_Te_init (mm_at_new M1 _) ?_)
  have h3 : (te_new (M1 ++ [.inr (6, mm_df 6)]) M1.length)[t]? = some (.inr (4, [.ref M.length, .null, .null, .int 0])) := te_new_at (by omega) (mm_at_app h2)
  refine mg_put rfl rfl h3 rfl rfl ?_
  have h4 := mm_at_set (.inr (4, [.ref M.length, .ref M1.length, .null, .int 0])) h3
  generalize hM2 : (te_new (M1 ++ [.inr (6, mm_df 6)]) M1.length).set t (.inr (4, [.ref M.length, .ref M1.length, .null, .int 0])) = M2 at h4
  have hlt2 : t < M2.length := (List.getElem?_eq_some_iff.mp h4).1
  have g2 : (te_new (M1 ++ [.inr (6, mm_df 6)]) M1.length).set t (.inr (4, [.ref M.length, .null, .null, .int 0].set 1 (.ref M1.length))) = M2 := hM2
  rw [g2]
  refine mg_run 1 rfl ?_
  refine mg_new rfl rfl rfl rfl ?_
  refine mg_run 1 rfl ?_
  refine mg_callI [] rfl rfl rfl rfl rfl rfl (c_Te_init (mm_at_new M2 _) ?_)
  have h5 : (te_new (M2 ++ [.inr (6, mm_df 6)]) M2.length)[t]? = some (.inr (4, [.ref M.length, .ref M1.length, .null, .int 0])) := te_new_at (by omega) (mm_at_app h4)
  refine mg_put rfl rfl h5 rfl rfl ?_
  have h6 := mm_at_set (.inr (4, [.ref M.length, .ref M1.length, .ref M2.length, .int 0])) h5
  refine mg_run 2 rfl ?_
  refine mg_put rfl rfl h6 rfl rfl ?_
  refine mg_vr rfl rfl rfl rfl ?_
  subst hM1
  subst hM2
  exact hQ
theorem c_Ab_init (h : M[t]? = some (.inr (0, mm_df 0))) (hQ : Q (.inl none) (ab_new M t)) : mm_Ct l sc Y_Ab_init M [.ref t] Q := by
  have hlt : t < M.length := (List.getElem?_eq_some_iff.mp h).1
  refine mm_by k_Ab_init w_Ab_init rfl rfl ?_
  refine mg_run 1 rfl ?_
  refine mg_oinit rfl rfl rfl ?_
  refine mg_run 2 rfl ?_
  refine mg_newi rfl (by decide) rfl rfl ?_
  refine mg_put rfl rfl (mm_at_app h) rfl rfl ?_
  have h2 := mm_at_set (.inr (0, [.ref M.length, .null, .null, .null])) (mm_at_app (x := [mm_z 2001]) h)
  generalize hM1 : (M ++ [mm_z 2001]).set t (.inr (0, [.ref M.length, .null, .null, .null])) = M1 at h2
  have g1 : (M ++ [mm_z 2001]).set t (.inr (0, (mm_df 0).set 0 (.ref M.length))) = M1 := hM1
  have g1' : (M ++ ([.inl (0, 2001, .inl (fun _ => 0))] : mm_M)).set t (.inr (0, (mm_df 0).set 0 (.ref M.length))) = M1 := hM1
  rw [g1']
  refine mg_run 2 rfl ?_
  refine mg_newi rfl (by decide) rfl rfl ?_
  refine mg_put rfl rfl (mm_at_app h2) rfl rfl ?_
  have h4 := mm_at_set (.inr (0, [.ref M.length, .ref M1.length, .null, .null])) (mm_at_app (x := [mm_z 2001]) h2)
  generalize hM2 : (M1 ++ [mm_z 2001]).set t (.inr (0, [.ref M.length, .ref M1.length, .null, .null])) = M2 at h4
  have hlt2 : t < M2.length := (List.getElem?_eq_some_iff.mp h4).1
  have g2 : (M1 ++ ([.inl (0, 2001, .inl (fun _ => 0))] : mm_M)).set t (.inr (0, [.ref M.length, .null, .null, .null].set 1 (.ref M1.length))) = M2 := hM2
  rw [g2]
  refine mg_run 1 rfl ?_
  refine mg_new rfl rfl rfl rfl ?_
  refine mg_run 1 rfl ?_
  refine mg_callI [] rfl rfl rfl rfl rfl rfl (c_Te_init (mm_at_new M2 _) ?_)
  have h5 : (te_new (M2 ++ [.inr (6, mm_df 6)]) M2.length)[t]? = some (.inr (0, [.ref M.length, .ref M1.length, .null, .null])) := te_new_at (by omega) (mm_at_app h4)
  refine mg_put rfl rfl h5 rfl rfl ?_
  have h6 := mm_at_set (.inr (0, [.ref M.length, .ref M1.length, .ref M2.length, .null])) h5
  generalize hM3 : (te_new (M2 ++ [.inr (6, mm_df 6)]) M2.length).set t (.inr (0, [.ref M.length, .ref M1.length, .ref M2.length, .null])) = M3 at h6
  have hlt3 : t < M3.length := (List.getElem?_eq_some_iff.mp h6).1
  have g3 : (te_new (M2 ++ [.inr (6, mm_df 6)]) M2.length).set t (.inr (0, [.ref M.length, .ref M1.length, .null, .null].set 2 (.ref M2.length))) = M3 := hM3
  rw [g3]
  refine mg_run 1 rfl ?_
  refine mg_new rfl rfl rfl rfl ?_
  refine mg_run 1 rfl ?_
  refine mg_callI [] rfl rfl rfl rfl rfl rfl (c_Te_init (mm_at_new M3 _) ?_)
  have h7 : (te_new (M3 ++ [.inr (6, mm_df 6)]) M3.length)[t]? = some (.inr (0, [.ref M.length, .ref M1.length, .ref M2.length, .null])) := te_new_at (by omega) (mm_at_app h6)
  refine mg_put rfl rfl h7 rfl rfl ?_
  refine mg_vr rfl rfl rfl rfl ?_
  subst hM1
  subst hM2
  subst hM3
  exact hQ
end
/-- the bench behind its constructor -/
def lb_a : mm_M := lb_i 12
def lb_b : mm_M := (te_new (lb_a ++ [.inr (6, mm_df 6)]) 26).set 0 (.inr (7, [.ref 1, .ref 26, .null, .null, .null, .null, .null, .null, .int 0]))
def lb_c : mm_M := (ta_new (lb_b ++ [.inr (5, mm_df 5)]) 28).set 0 (.inr (7, [.ref 1, .ref 26, .ref 28, .null, .null, .null, .null, .null, .int 0]))
def lb_d : mm_M := (gra_new (lb_c ++ [.inr (3, mm_df 3)]) 30).set 0 (.inr (7, [.ref 1, .ref 26, .ref 28, .ref 30, .null, .null, .null, .null, .int 0]))
def lb_e : mm_M := (bu_new (lb_d ++ [.inr (1, mm_df 1)]) 33).set 0 (.inr (7, [.ref 1, .ref 26, .ref 28, .ref 30, .ref 33, .null, .null, .null, .int 0]))
def lb_g : mm_M := (de_new (lb_e ++ [.inr (2, mm_df 2)]) 36).set 0 (.inr (7, [.ref 1, .ref 26, .ref 28, .ref 30, .ref 33, .ref 36, .null, .null, .int 0]))
def lb_h : mm_M := (re_new (lb_g ++ [.inr (4, mm_df 4)]) 39).set 0 (.inr (7, [.ref 1, .ref 26, .ref 28, .ref 30, .ref 33, .ref 36, .ref 39, .null, .int 0]))
def lb_k : mm_M := (ab_new (lb_h ++ [.inr (0, mm_df 0)]) 47).set 0 (.inr (7, [.ref 1, .ref 26, .ref 28, .ref 30, .ref 33, .ref 36, .ref 39, .ref 47, .int 0]))
def lb_M : mm_M := lb_k.set 0 (.inr (7, [.ref 1, .ref 26, .ref 28, .ref 30, .ref 33, .ref 36, .ref 39, .ref 47, .int (-1)]))
theorem lb_len : lb_a.length = 26 ∧ lb_b.length = 28 ∧ lb_c.length = 30 ∧ lb_d.length = 33 ∧ lb_e.length = 36 ∧ lb_g.length = 39 ∧ lb_h.length = 47 ∧ lb_k.length = 54 ∧ lb_M.length = 54 := ⟨rfl, rfl, rfl, rfl, rfl, rfl, rfl, rfl, rfl⟩
theorem lb_at0 : lb_a[0]? = some (.inr (7, [.ref 1, .null, .null, .null, .null, .null, .null, .null, .int 0])) ∧ lb_M[0]? = some (.inr (7, [.ref 1, .ref 26, .ref 28, .ref 30, .ref 33, .ref 36, .ref 39, .ref 47, .int (-1)])) ∧ lb_M[1]? = some (.inl (2, 12, .inr (.inr (.inr (.inr (lb_f 12)))))) := ⟨rfl, rfl, rfl⟩
end
section
/-! The bench's constructor. -/
section
variable {l : Launch} {sc : Nat × (Nat → Int32)} {Y : mm_Y} {k n : Nat} {M : mm_M} {L : mm_L} {S : List Value} {pc : Nat} {Q : mm_O → mm_M → Prop}
theorem mg_aldN {nx aux N a i j : Nat} {v : Int32} {f : Nat → Option Nat} (hq : mm_at (mm_tab Y) pc = some (.aaload, nx, aux, v)) (hM : M[a]? = some (.inl (2, N, .inr (.inr (.inr (.inr f)))))) (hN : N < 2 ^ 31) (hj : j < N) (hf : f j = some i) (kk : mm_Go l sc Y k n M L (.ref i :: S) nx Q) : mm_Go l sc Y k n M L (.int (nI j) :: .ref a :: S) pc Q :=
  mg_aald hq hM (vp_in_nI hj hN) (by rw [nI_clamp (Nat.lt_trans hj hN)]; exact hf) kk
theorem mg_astN {nx aux N a i j : Nat} {v : Int32} {f : Nat → Option Nat} {fs : List Value} (hq : mm_at (mm_tab Y) pc = some (.aastore, nx, aux, v)) (hM : M[a]? = some (.inl (2, N, .inr (.inr (.inr (.inr f)))))) (hN : N < 2 ^ 31) (hi : M[i]? = some (.inr (mm_cT, fs))) (hj : j < N) (kk : mm_Go l sc Y k n (M.set a (.inl (2, N, .inr (.inr (.inr (.inr (va_up f j (some i)))))))) L S nx Q) : mm_Go l sc Y k n M L (.ref i :: .int (nI j) :: .ref a :: S) pc Q :=
  mg_aast hq hM hi (vp_in_nI hj hN) (by rw [nI_clamp (Nat.lt_trans hj hN)]; exact kk)
end
section
variable {l : Launch} {sc : Nat × (Nat → Int32)} {Q : mm_O → mm_M → Prop}
theorem lb_iter {i k n : Nat} (hi : i < 12) (h1 : k + 2 ≤ 75) (h2 : n + 2003 ≤ 69366) (kk : mm_Go l sc Y_LB_init (k + 2) (n + 2003) (lb_i (i + 1)) [some (.ref 0), some (.int (nI (i + 1)))] [] 15 Q) : mm_Go l sc Y_LB_init k n (lb_i i) [some (.ref 0), some (.int (nI i))] [] 15 Q := by
  obtain ⟨e1, e2, e3⟩ := lb_i_ok i
  refine mg_run 2 rfl ?_
  refine mg_ge rfl (by omega) (by decide) (fun h => absurd h (by omega)) (fun h => ?_)
  refine mg_run 1 rfl ?_
  refine mg_get rfl rfl e2 rfl ?_
  refine mg_run 1 rfl ?_
  refine mg_new rfl rfl (Nat.ble_eq.mpr (show k + 1 ≤ 75 by omega)) (Nat.ble_eq.mpr (show n + 3 ≤ 69366 by omega)) ?_
  refine mg_run 1 rfl ?_
  have hst : mm_chk (k + 1) (n + (mm_df 6).length) (mm_rm Y_LB_init) (mm_rm Y_Te_init) (mm_nL Y_Te_init) (([Value.ref (lb_i i).length, .int (nI i), .ref 1].map fun v => v.category).sum) = true := by
    simp only [mm_chk, Bool.and_eq_true, Nat.ble_eq]
    exact ⟨⟨⟨⟨by decide, by decide⟩, show k + 1 + 1 ≤ 75 by omega⟩, show n + 3 + 2000 ≤ 69366 by omega⟩, Nat.le_of_ble_eq_true rfl⟩
  refine mg_callI [] rfl rfl rfl rfl rfl hst (c_Te_init (mm_at_new _ _) ?_)
  have a1 : (te_new (lb_i i ++ [.inr (6, mm_df 6)]) (lb_i i).length)[1]? = some (.inl (2, 12, .inr (.inr (.inr (.inr (lb_f i)))))) := te_new_at (by omega) (mm_at_app e3)
  have a2 : (te_new (lb_i i ++ [.inr (6, mm_df 6)]) (lb_i i).length)[(lb_i i).length]? = some (.inr (6, [.ref (lb_i i ++ ([.inr (6, mm_df 6)] : mm_M)).length, .int 0, .int 0])) := mm_at_set _ (mm_at_app (mm_at_new _ _))
  refine mg_astN rfl a1 (by decide) a2 hi ?_
  refine mg_incN rfl rfl rfl ?_
  refine mg_run 1 rfl ?_
  exact kk
theorem ta_new_at {M : mm_M} {t i : Nat} (hi : ¬ t = i) {e : va_E} (h : M[i]? = some e) : (ta_new M t)[i]? = some e := mm_at_ne hi (mm_at_app h)
theorem de_new_at {M : mm_M} {t i : Nat} (hi : ¬ t = i) {e : va_E} (h : M[i]? = some e) : (de_new M t)[i]? = some e := mm_at_ne hi (mm_at_app (mm_at_ne hi (mm_at_app h)))
theorem gra_new_at {M : mm_M} {t i : Nat} (hi : ¬ t = i) {e : va_E} (h : M[i]? = some e) : (gra_new M t)[i]? = some e := mm_at_ne hi (mm_at_app (mm_at_ne hi (mm_at_app h)))
theorem bu_new_at {M : mm_M} {t i : Nat} (hi : ¬ t = i) {e : va_E} (h : M[i]? = some e) : (bu_new M t)[i]? = some e := mm_at_ne hi (mm_at_app (mm_at_ne hi (mm_at_app h)))
theorem mm_ilt {M : mm_M} {i : Nat} {e : va_E} (h : M[i]? = some e) : ¬ M.length = i := by
  have := (List.getElem?_eq_some_iff.mp h).1
  omega
theorem re_new_at {M : mm_M} {t i : Nat} (hi : ¬ t = i) {e : va_E} (h : M[i]? = some e) : (re_new M t)[i]? = some e := by
  have h1 := mm_at_ne (e := .inr (4, [.ref M.length, .null, .null, .int 0])) hi (de_new_at (mm_ilt h) (mm_at_app (x := [.inr (2, mm_df 2)]) h))
  have h2 := fun f => mm_at_ne (e := f) hi (te_new_at (mm_ilt h1) (mm_at_app (x := [.inr (6, mm_df 6)]) h1))
  exact mm_at_ne hi (mm_at_ne hi (te_new_at (mm_ilt (h2 _)) (mm_at_app (h2 _))))
theorem ab_new_at {M : mm_M} {t i : Nat} (hi : ¬ t = i) {e : va_E} (h : M[i]? = some e) : (ab_new M t)[i]? = some e := by
  have h1 := fun f => mm_at_ne (e := f) hi (mm_at_app (x := [mm_z 2001]) h)
  have h2 := fun f g => mm_at_ne (e := g) hi (mm_at_app (x := [mm_z 2001]) (h1 f))
  have h3 := fun f g k => mm_at_ne (e := k) hi (te_new_at (mm_ilt (h2 f g)) (mm_at_app (x := [.inr (6, mm_df 6)]) (h2 f g)))
  exact mm_at_ne hi (te_new_at (mm_ilt (h3 _ _ _)) (mm_at_app (h3 _ _ _)))
theorem lb_za : lb_a[0]? = some (.inr (7, [.ref 1, .null, .null, .null, .null, .null, .null, .null, .int 0])) := (lb_i_ok 12).2.1
theorem lb_la : lb_a.length = 26 := rfl
theorem lb_nb : (te_new (lb_a ++ [.inr (6, mm_df 6)]) 26)[0]? = some (.inr (7, [.ref 1, .null, .null, .null, .null, .null, .null, .null, .int 0])) := te_new_at (by decide) (mm_at_app lb_za)
theorem lb_zb : lb_b[0]? = some (.inr (7, [.ref 1, .ref 26, .null, .null, .null, .null, .null, .null, .int 0])) := mm_at_set _ lb_nb
theorem lb_tb {L : mm_L} (hL : mm_get L 0 = some (.ref 0)) (kk : mm_Go l sc Y_LB_init 27 26051 lb_b L [] 51 Q) : mm_Go l sc Y_LB_init 25 24048 lb_a L [] 40 Q := by
  refine mg_x (M' := lb_a) (L' := L) (S' := [.ref 0]) rfl (by show mm_s lb_a L (mm_lda L [] 0) = _; unfold mm_lda; rw [hL]; rfl) ?_
  refine mg_new rfl rfl rfl rfl ?_
  refine mg_run 1 rfl ?_
  refine mg_callI [] rfl rfl rfl rfl rfl rfl (c_Te_init (mm_at_new _ _) ?_)
  rw [lb_la]
  refine mg_put rfl rfl lb_nb rfl rfl ?_
  exact kk
theorem lb_lb : lb_b.length = 28 := rfl
theorem lb_nc : (ta_new (lb_b ++ [.inr (5, mm_df 5)]) 28)[0]? = some (.inr (7, [.ref 1, .ref 26, .null, .null, .null, .null, .null, .null, .int 0])) := ta_new_at (by decide) (mm_at_app lb_zb)
theorem lb_zc : lb_c[0]? = some (.inr (7, [.ref 1, .ref 26, .ref 28, .null, .null, .null, .null, .null, .int 0])) := mm_at_set _ lb_nc
theorem lb_tc {L : mm_L} (hL : mm_get L 0 = some (.ref 0)) (kk : mm_Go l sc Y_LB_init 29 26453 lb_c L [] 62 Q) : mm_Go l sc Y_LB_init 27 26051 lb_b L [] 51 Q := by
  refine mg_x (M' := lb_b) (L' := L) (S' := [.ref 0]) rfl (by show mm_s lb_b L (mm_lda L [] 0) = _; unfold mm_lda; rw [hL]; rfl) ?_
  refine mg_new rfl rfl rfl rfl ?_
  refine mg_run 1 rfl ?_
  refine mg_callI [] rfl rfl rfl rfl rfl rfl (c_Ta_init (mm_at_new _ _) ?_)
  rw [lb_lb]
  refine mg_put rfl rfl lb_nc rfl rfl ?_
  exact kk
theorem lb_lc : lb_c.length = 30 := rfl
theorem lb_nd : (gra_new (lb_c ++ [.inr (3, mm_df 3)]) 30)[0]? = some (.inr (7, [.ref 1, .ref 26, .ref 28, .null, .null, .null, .null, .null, .int 0])) := gra_new_at (by decide) (mm_at_app lb_zc)
theorem lb_zd : lb_d[0]? = some (.inr (7, [.ref 1, .ref 26, .ref 28, .ref 30, .null, .null, .null, .null, .int 0])) := mm_at_set _ lb_nd
theorem lb_td {L : mm_L} (hL : mm_get L 0 = some (.ref 0)) (kk : mm_Go l sc Y_LB_init 32 26879 lb_d L [] 73 Q) : mm_Go l sc Y_LB_init 29 26453 lb_c L [] 62 Q := by
  refine mg_x (M' := lb_c) (L' := L) (S' := [.ref 0]) rfl (by show mm_s lb_c L (mm_lda L [] 0) = _; unfold mm_lda; rw [hL]; rfl) ?_
  refine mg_new rfl rfl rfl rfl ?_
  refine mg_run 1 rfl ?_
  refine mg_callI [] rfl rfl rfl rfl rfl rfl (c_Gr_init (mm_at_new _ _) ?_)
  rw [lb_lc]
  refine mg_put rfl rfl lb_nd rfl rfl ?_
  exact kk
theorem lb_ld : lb_d.length = 33 := rfl
theorem lb_ne : (bu_new (lb_d ++ [.inr (1, mm_df 1)]) 33)[0]? = some (.inr (7, [.ref 1, .ref 26, .ref 28, .ref 30, .null, .null, .null, .null, .int 0])) := bu_new_at (by decide) (mm_at_app lb_zd)
theorem lb_ze : lb_e[0]? = some (.inr (7, [.ref 1, .ref 26, .ref 28, .ref 30, .ref 33, .null, .null, .null, .int 0])) := mm_at_set _ lb_ne
theorem lb_te {L : mm_L} (hL : mm_get L 0 = some (.ref 0)) (kk : mm_Go l sc Y_LB_init 35 27303 lb_e L [] 84 Q) : mm_Go l sc Y_LB_init 32 26879 lb_d L [] 73 Q := by
  refine mg_x (M' := lb_d) (L' := L) (S' := [.ref 0]) rfl (by show mm_s lb_d L (mm_lda L [] 0) = _; unfold mm_lda; rw [hL]; rfl) ?_
  refine mg_new rfl rfl rfl rfl ?_
  refine mg_run 1 rfl ?_
  refine mg_callI [] rfl rfl rfl rfl rfl rfl (c_Bu_init (mm_at_new _ _) ?_)
  rw [lb_ld]
  refine mg_put rfl rfl lb_ne rfl rfl ?_
  exact kk
theorem lb_le : lb_e.length = 36 := rfl
theorem lb_ng : (de_new (lb_e ++ [.inr (2, mm_df 2)]) 36)[0]? = some (.inr (7, [.ref 1, .ref 26, .ref 28, .ref 30, .ref 33, .null, .null, .null, .int 0])) := de_new_at (by decide) (mm_at_app lb_ze)
theorem lb_zg : lb_g[0]? = some (.inr (7, [.ref 1, .ref 26, .ref 28, .ref 30, .ref 33, .ref 36, .null, .null, .int 0])) := mm_at_set _ lb_ng
theorem lb_tg {L : mm_L} (hL : mm_get L 0 = some (.ref 0)) (kk : mm_Go l sc Y_LB_init 38 31307 lb_g L [] 95 Q) : mm_Go l sc Y_LB_init 35 27303 lb_e L [] 84 Q := by
  refine mg_x (M' := lb_e) (L' := L) (S' := [.ref 0]) rfl (by show mm_s lb_e L (mm_lda L [] 0) = _; unfold mm_lda; rw [hL]; rfl) ?_
  refine mg_new rfl rfl rfl rfl ?_
  refine mg_run 1 rfl ?_
  refine mg_callI [] rfl rfl rfl rfl rfl rfl (c_De_init (mm_at_new _ _) ?_)
  rw [lb_le]
  refine mg_put rfl rfl lb_ng rfl rfl ?_
  exact kk
theorem lb_lg : lb_g.length = 39 := rfl
theorem lb_nh : (re_new (lb_g ++ [.inr (4, mm_df 4)]) 39)[0]? = some (.inr (7, [.ref 1, .ref 26, .ref 28, .ref 30, .ref 33, .ref 36, .null, .null, .int 0])) := re_new_at (by decide) (mm_at_app lb_zg)
theorem lb_zh : lb_h[0]? = some (.inr (7, [.ref 1, .ref 26, .ref 28, .ref 30, .ref 33, .ref 36, .ref 39, .null, .int 0])) := mm_at_set _ lb_nh
theorem lb_th {L : mm_L} (hL : mm_get L 0 = some (.ref 0)) (kk : mm_Go l sc Y_LB_init 46 39321 lb_h L [] 106 Q) : mm_Go l sc Y_LB_init 38 31307 lb_g L [] 95 Q := by
  refine mg_x (M' := lb_g) (L' := L) (S' := [.ref 0]) rfl (by show mm_s lb_g L (mm_lda L [] 0) = _; unfold mm_lda; rw [hL]; rfl) ?_
  refine mg_new rfl rfl rfl rfl ?_
  refine mg_run 1 rfl ?_
  refine mg_callI [] rfl rfl rfl rfl rfl rfl (c_Re_init (mm_at_new _ _) ?_)
  rw [lb_lg]
  refine mg_put rfl rfl lb_nh rfl rfl ?_
  exact kk
theorem lb_lh : lb_h.length = 47 := lb_len.2.2.2.2.2.2.1
theorem lb_nk : (ab_new (lb_h ++ [.inr (0, mm_df 0)]) 47)[0]? = some (.inr (7, [.ref 1, .ref 26, .ref 28, .ref 30, .ref 33, .ref 36, .ref 39, .null, .int 0])) := ab_new_at (by decide) (mm_at_app lb_zh)
theorem lb_zk : lb_k[0]? = some (.inr (7, [.ref 1, .ref 26, .ref 28, .ref 30, .ref 33, .ref 36, .ref 39, .ref 47, .int 0])) := mm_at_set _ lb_nk
theorem lb_tk {L : mm_L} (hL : mm_get L 0 = some (.ref 0)) (kk : mm_Go l sc Y_LB_init 53 47333 lb_k L [] 117 Q) : mm_Go l sc Y_LB_init 46 39321 lb_h L [] 106 Q := by
  refine mg_x (M' := lb_h) (L' := L) (S' := [.ref 0]) rfl (by show mm_s lb_h L (mm_lda L [] 0) = _; unfold mm_lda; rw [hL]; rfl) ?_
  refine mg_new rfl rfl rfl rfl ?_
  refine mg_run 1 rfl ?_
  refine mg_callI [] rfl rfl rfl rfl rfl rfl (c_Ab_init (mm_at_new _ _) ?_)
  rw [lb_lh]
  refine mg_put rfl rfl lb_nk rfl rfl ?_
  exact kk
theorem c_LB_init (hQ : Q (.inl none) lb_M) : mm_Ct l sc Y_LB_init [.inr (7, mm_df 7)] [.ref 0] Q := by
  refine mm_by k_LB_init w_LB_init rfl rfl ?_
  refine mg_run 1 rfl ?_
  refine mg_oinit rfl rfl rfl ?_
  refine mg_run 2 rfl ?_
  refine mg_newT rfl rfl (by decide) rfl rfl ?_
  refine mg_put rfl rfl rfl rfl rfl ?_
  refine mg_run 2 rfl ?_
  refine lb_iter (i := 0) (by decide) (by decide) (by decide) ?_
  refine lb_iter (i := 1) (by decide) (by decide) (by decide) ?_
  refine lb_iter (i := 2) (by decide) (by decide) (by decide) ?_
  refine lb_iter (i := 3) (by decide) (by decide) (by decide) ?_
  refine lb_iter (i := 4) (by decide) (by decide) (by decide) ?_
  refine lb_iter (i := 5) (by decide) (by decide) (by decide) ?_
  refine lb_iter (i := 6) (by decide) (by decide) (by decide) ?_
  refine lb_iter (i := 7) (by decide) (by decide) (by decide) ?_
  refine lb_iter (i := 8) (by decide) (by decide) (by decide) ?_
  refine lb_iter (i := 9) (by decide) (by decide) (by decide) ?_
  refine lb_iter (i := 10) (by decide) (by decide) (by decide) ?_
  refine lb_iter (i := 11) (by decide) (by decide) (by decide) ?_
  refine mg_run 2 rfl ?_
  refine mg_ge rfl (by decide) (by decide) (fun h => ?_) (fun h => absurd h (by decide))
  refine lb_tb rfl ?_
  refine lb_tc rfl ?_
  refine lb_td rfl ?_
  refine lb_te rfl ?_
  refine lb_tg rfl ?_
  refine lb_th rfl ?_
  refine lb_tk rfl ?_
  refine mg_run 2 rfl ?_
  refine mg_put rfl rfl lb_zk rfl rfl ?_
  exact mg_vr rfl rfl rfl rfl hQ
end
end
section
/-! The bench's state. -/
def gra_is (M : mm_M) (op be st : Int32) (at1 ar : Nat → Int32) : Prop := M[30]? = some (.inr (3, [.ref 31, .ref 32, .int op, .int be, .int st])) ∧ M[31]? = some (.inl (0, 401, .inl at1)) ∧ M[32]? = some (.inl (0, 20, .inl ar))
def bu_is (M : mm_M) (kn op : Int32) (nm ar : Nat → Int32) : Prop := M[33]? = some (.inr (1, [.ref 34, .ref 35, .int kn, .int op])) ∧ M[34]? = some (.inl (0, 400, .inl nm)) ∧ M[35]? = some (.inl (0, 20, .inl ar))
def lb_slots (M : mm_M) (sl : Nat → List Nat) : Prop := ∀ s, s < 12 → ∃ g, te_is M (2 + 2 * s) (sl s) g
def lb_work (M : mm_M) : Prop := ∃ r g, te_is M 26 r g
def lb_gra (M : mm_M) : Prop := ∃ op be st at1 ar, gra_is M op be st at1 ar
def lb_bu (M : mm_M) : Prop := ∃ kn op nm ar, bu_is M kn op nm ar
def lb_dep (M : mm_M) : Prop := ∃ dep, de_is M 36 dep
def lb_red (M : mm_M) (o : Nat) : Prop := ∃ a b dep ra ga rb gb, re_is M a b o dep ∧ te_is M a ra ga ∧ te_is M b rb gb
def lb_abs (M : mm_M) : Prop := ∃ a b en us ra ga rb gb, ab_is M a b en us ∧ te_is M a ra ga ∧ te_is M b rb gb
def lb_top (M : mm_M) (pl : Int32) : Prop := M[0]? = some (.inr (7, [.ref 1, .ref 26, .ref 28, .ref 30, .ref 33, .ref 36, .ref 39, .ref 47, .int pl])) ∧ M[1]? = some (.inl (2, 12, .inr (.inr (.inr (.inr (lb_f 12))))))
/-- slots, tape, place, how -/
def lb_is (M : mm_M) (sl : Nat → List Nat) (tp : List Nat) (pl : Int32) (o : Nat) : Prop := lb_top M pl ∧ lb_slots M sl ∧ lb_work M ∧ ta_is M 28 tp ∧ lb_gra M ∧ lb_bu M ∧ lb_dep M ∧ lb_red M o ∧ lb_abs M
/-- cells from lo to hi alone are written -/
def mm_rg (lo hi : Nat) (i : Nat) : Prop := lo ≤ i ∧ i ≤ hi
theorem mm_rg_n {lo hi i : Nat} (h : i < lo ∨ hi < i) : ¬ mm_rg lo hi i := by unfold mm_rg; omega
section
variable {M M' : mm_M} {lo hi : Nat}
theorem lb_top.keep {pl : Int32} (h : lb_top M pl) (hon : mm_on (mm_rg lo hi) M M') (hd : 1 < lo) : lb_top M' pl := ⟨(hon 0 (mm_rg_n (by omega))).trans h.1, (hon 1 (mm_rg_n (by omega))).trans h.2⟩
theorem lb_slots.keep {sl : Nat → List Nat} (h : lb_slots M sl) (hon : mm_on (mm_rg lo hi) M M') (hd : 25 < lo ∨ hi < 2) : lb_slots M' sl := fun s hs => by
  obtain ⟨g, hg⟩ := h s hs
  exact ⟨g, hg.keep hon (mm_rg_n (by omega)) (mm_rg_n (by omega))⟩
theorem lb_work.keep (h : lb_work M) (hon : mm_on (mm_rg lo hi) M M') (hd : 27 < lo ∨ hi < 26) : lb_work M' := by
  obtain ⟨r, g, hg⟩ := h
  exact ⟨r, g, hg.keep hon (mm_rg_n (by omega)) (mm_rg_n (by omega))⟩
theorem ta_keep {tp : List Nat} (h : ta_is M 28 tp) (hon : mm_on (mm_rg lo hi) M M') (hd : 29 < lo ∨ hi < 28) : ta_is M' 28 tp := h.keep hon (mm_rg_n (by omega)) (mm_rg_n (by omega))
theorem lb_gra.keep (h : lb_gra M) (hon : mm_on (mm_rg lo hi) M M') (hd : 32 < lo ∨ hi < 30) : lb_gra M' := by
  obtain ⟨op, be, st, at1, ar, h1, h2, h3⟩ := h
  exact ⟨op, be, st, at1, ar, (hon 30 (mm_rg_n (by omega))).trans h1, (hon 31 (mm_rg_n (by omega))).trans h2, (hon 32 (mm_rg_n (by omega))).trans h3⟩
theorem lb_bu.keep (h : lb_bu M) (hon : mm_on (mm_rg lo hi) M M') (hd : 35 < lo ∨ hi < 33) : lb_bu M' := by
  obtain ⟨kn, op, nm, ar, h1, h2, h3⟩ := h
  exact ⟨kn, op, nm, ar, (hon 33 (mm_rg_n (by omega))).trans h1, (hon 34 (mm_rg_n (by omega))).trans h2, (hon 35 (mm_rg_n (by omega))).trans h3⟩
theorem lb_dep.keep (h : lb_dep M) (hon : mm_on (mm_rg lo hi) M M') (hd : 38 < lo ∨ hi < 36) : lb_dep M' := by
  obtain ⟨dep, h⟩ := h
  exact ⟨dep, h.keep hon (mm_rg_n (by omega)) (mm_rg_n (by omega)) (mm_rg_n (by omega))⟩
theorem lb_red.keep {o : Nat} (h : lb_red M o) (hon : mm_on (mm_rg lo hi) M M') (hd : 46 < lo ∨ hi < 39) : lb_red M' o := by
  obtain ⟨a, b, dep, ra, ga, rb, gb, ⟨h1, h2, h3⟩, h4, h5⟩ := h
  exact ⟨a, b, dep, ra, ga, rb, gb, ⟨(hon 39 (mm_rg_n (by omega))).trans h1, h2.keep hon (mm_rg_n (by omega)) (mm_rg_n (by omega)) (mm_rg_n (by omega)), h3⟩, h4.keep hon (mm_rg_n (by omega)) (mm_rg_n (by omega)), h5.keep hon (mm_rg_n (by omega)) (mm_rg_n (by omega))⟩
theorem lb_abs.keep (h : lb_abs M) (hon : mm_on (mm_rg lo hi) M M') (hd : 53 < lo ∨ hi < 47) : lb_abs M' := by
  obtain ⟨a, b, en, us, ra, ga, rb, gb, ⟨h1, h2, h3, h6⟩, h4, h5⟩ := h
  exact ⟨a, b, en, us, ra, ga, rb, gb, ⟨(hon 47 (mm_rg_n (by omega))).trans h1, (hon 48 (mm_rg_n (by omega))).trans h2, (hon 49 (mm_rg_n (by omega))).trans h3, h6⟩, h4.keep hon (mm_rg_n (by omega)) (mm_rg_n (by omega)), h5.keep hon (mm_rg_n (by omega)) (mm_rg_n (by omega))⟩
theorem mm_on.te {t : Nat} (h : mm_on (te_P t) M M') : mm_on (mm_rg t (t + 1)) M M' := h.wk (fun i h => by unfold te_P at h; unfold mm_rg; omega)
theorem lb_is.work {sl : Nat → List Nat} {tp : List Nat} {pl : Int32} {o : Nat} (h : lb_is M sl tp pl o) (hN : lb_work M') (hon : mm_on (mm_rg 26 27) M M') : lb_is M' sl tp pl o :=
  ⟨h.1.keep hon (by omega), h.2.1.keep hon (by omega), hN, ta_keep h.2.2.2.1 hon (by omega), h.2.2.2.2.1.keep hon (by omega), h.2.2.2.2.2.1.keep hon (by omega), h.2.2.2.2.2.2.1.keep hon (by omega), h.2.2.2.2.2.2.2.1.keep hon (by omega), h.2.2.2.2.2.2.2.2.keep hon (by omega)⟩
theorem lb_is.tape {sl : Nat → List Nat} {tp : List Nat} {pl : Int32} {o : Nat} (h : lb_is M sl tp pl o) {tp' : List Nat} (hN : ta_is M' 28 tp') (hon : mm_on (mm_rg 28 29) M M') : lb_is M' sl tp' pl o :=
  ⟨h.1.keep hon (by omega), h.2.1.keep hon (by omega), h.2.2.1.keep hon (by omega), hN, h.2.2.2.2.1.keep hon (by omega), h.2.2.2.2.2.1.keep hon (by omega), h.2.2.2.2.2.2.1.keep hon (by omega), h.2.2.2.2.2.2.2.1.keep hon (by omega), h.2.2.2.2.2.2.2.2.keep hon (by omega)⟩
theorem lb_is.gra {sl : Nat → List Nat} {tp : List Nat} {pl : Int32} {o : Nat} (h : lb_is M sl tp pl o) (hN : lb_gra M') (hon : mm_on (mm_rg 30 32) M M') : lb_is M' sl tp pl o :=
  ⟨h.1.keep hon (by omega), h.2.1.keep hon (by omega), h.2.2.1.keep hon (by omega), ta_keep h.2.2.2.1 hon (by omega), hN, h.2.2.2.2.2.1.keep hon (by omega), h.2.2.2.2.2.2.1.keep hon (by omega), h.2.2.2.2.2.2.2.1.keep hon (by omega), h.2.2.2.2.2.2.2.2.keep hon (by omega)⟩
theorem lb_is.bu {sl : Nat → List Nat} {tp : List Nat} {pl : Int32} {o : Nat} (h : lb_is M sl tp pl o) (hN : lb_bu M') (hon : mm_on (mm_rg 33 35) M M') : lb_is M' sl tp pl o :=
  ⟨h.1.keep hon (by omega), h.2.1.keep hon (by omega), h.2.2.1.keep hon (by omega), ta_keep h.2.2.2.1 hon (by omega), h.2.2.2.2.1.keep hon (by omega), hN, h.2.2.2.2.2.2.1.keep hon (by omega), h.2.2.2.2.2.2.2.1.keep hon (by omega), h.2.2.2.2.2.2.2.2.keep hon (by omega)⟩
theorem lb_is.dep {sl : Nat → List Nat} {tp : List Nat} {pl : Int32} {o : Nat} (h : lb_is M sl tp pl o) (hN : lb_dep M') (hon : mm_on (mm_rg 36 38) M M') : lb_is M' sl tp pl o :=
  ⟨h.1.keep hon (by omega), h.2.1.keep hon (by omega), h.2.2.1.keep hon (by omega), ta_keep h.2.2.2.1 hon (by omega), h.2.2.2.2.1.keep hon (by omega), h.2.2.2.2.2.1.keep hon (by omega), hN, h.2.2.2.2.2.2.2.1.keep hon (by omega), h.2.2.2.2.2.2.2.2.keep hon (by omega)⟩
theorem lb_is.red {sl : Nat → List Nat} {tp : List Nat} {pl : Int32} {o : Nat} (h : lb_is M sl tp pl o) {o' : Nat} (hN : lb_red M' o') (hon : mm_on (mm_rg 39 46) M M') : lb_is M' sl tp pl o' :=
  ⟨h.1.keep hon (by omega), h.2.1.keep hon (by omega), h.2.2.1.keep hon (by omega), ta_keep h.2.2.2.1 hon (by omega), h.2.2.2.2.1.keep hon (by omega), h.2.2.2.2.2.1.keep hon (by omega), h.2.2.2.2.2.2.1.keep hon (by omega), hN, h.2.2.2.2.2.2.2.2.keep hon (by omega)⟩
theorem lb_is.abs {sl : Nat → List Nat} {tp : List Nat} {pl : Int32} {o : Nat} (h : lb_is M sl tp pl o) (hN : lb_abs M') (hon : mm_on (mm_rg 47 53) M M') : lb_is M' sl tp pl o :=
  ⟨h.1.keep hon (by omega), h.2.1.keep hon (by omega), h.2.2.1.keep hon (by omega), ta_keep h.2.2.2.1 hon (by omega), h.2.2.2.2.1.keep hon (by omega), h.2.2.2.2.2.1.keep hon (by omega), h.2.2.2.2.2.2.1.keep hon (by omega), h.2.2.2.2.2.2.2.1.keep hon (by omega), hN⟩
/-- one slot's row -/
def sl_up (sl : Nat → List Nat) (s : Nat) (r : List Nat) : Nat → List Nat := fun j => if j = s then r else sl j
theorem lb_is.slot {sl : Nat → List Nat} {tp : List Nat} {pl : Int32} {o : Nat} (h : lb_is M sl tp pl o) {s g : Nat} {r : List Nat} (hs : s < 12) (hN : te_is M' (2 + 2 * s) r g) (hon : mm_on (te_P (2 + 2 * s)) M M') : lb_is M' (sl_up sl s r) tp pl o := by
  have hon2 := hon.te
  refine ⟨h.1.keep hon2 (by omega), fun j hj => ?_, h.2.2.1.keep hon2 (by omega), ta_keep h.2.2.2.1 hon2 (by omega), h.2.2.2.2.1.keep hon2 (by omega), h.2.2.2.2.2.1.keep hon2 (by omega), h.2.2.2.2.2.2.1.keep hon2 (by omega), h.2.2.2.2.2.2.2.1.keep hon2 (by omega), h.2.2.2.2.2.2.2.2.keep hon2 (by omega)⟩
  unfold sl_up
  by_cases hjs : j = s
  · rw [if_pos hjs, hjs]; exact ⟨g, hN⟩
  · rw [if_neg hjs]
    obtain ⟨g', hg⟩ := h.2.1 j hj
    exact ⟨g', hg.keep hon2 (mm_rg_n (by omega)) (mm_rg_n (by omega))⟩
theorem lb_is.place {sl : Nat → List Nat} {tp : List Nat} {pl : Int32} {o : Nat} (h : lb_is M sl tp pl o) (pl' : Int32) : lb_is (M.set 0 (.inr (7, [.ref 1, .ref 26, .ref 28, .ref 30, .ref 33, .ref 36, .ref 39, .ref 47, .int pl']))) sl tp pl' o := by
  have hon : mm_on (mm_rg 0 0) M (M.set 0 (.inr (7, [.ref 1, .ref 26, .ref 28, .ref 30, .ref 33, .ref 36, .ref 39, .ref 47, .int pl']))) := mm_on.set M _ (show mm_rg 0 0 0 by unfold mm_rg; omega)
  exact ⟨⟨mm_at_set _ h.1.1, (hon 1 (mm_rg_n (by omega))).trans h.1.2⟩, h.2.1.keep hon (by omega), h.2.2.1.keep hon (by omega), ta_keep h.2.2.2.1 hon (by omega), h.2.2.2.2.1.keep hon (by omega), h.2.2.2.2.2.1.keep hon (by omega), h.2.2.2.2.2.2.1.keep hon (by omega), h.2.2.2.2.2.2.2.1.keep hon (by omega), h.2.2.2.2.2.2.2.2.keep hon (by omega)⟩
end
theorem lb_f12 {s : Nat} (hs : s < 12) : lb_f 12 s = some (2 + 2 * s) := by
  rcases s with _ | _ | _ | _ | _ | _ | _ | _ | _ | _ | _ | _ | s
  all_goals first | rfl | omega
section
variable {l : Launch} {sc : Nat × (Nat → Int32)} {M : mm_M} {Q : mm_O → mm_M → Prop} {sl : Nat → List Nat} {tp : List Nat} {pl : Int32} {o : Nat}
theorem c_LB_requireSlot {s : Nat} (hs : s < 12) (hQ : Q (.inl none) M) : mm_Ct l sc Y_LB_requireSlot M [.ref 0, .int (nI s)] Q := by
  refine mm_by k_LB_requireSlot w_LB_requireSlot rfl rfl ?_
  refine mg_run 1 rfl ?_
  refine mg_zlt rfl (by omega) ?_
  refine mg_run 2 rfl ?_
  refine mg_lt rfl (by omega) (by decide) (fun h => ?_) (fun h => absurd h (by omega))
  exact mg_vr rfl rfl rfl rfl hQ
/-- no such slot -/
def no_slot (x : Int32) : Prop := x.toInt < 0 ∨ 12 ≤ x.toInt
theorem c_LB_requireSlotX (hl : l.stackTraces = false) {x : Int32} (hx : no_slot x) (hQ : Q (.inr 0) M) : mm_Ct l sc Y_LB_requireSlot M [.ref 0, .int x] Q := by
  refine mm_by k_LB_requireSlot w_LB_requireSlot rfl rfl ?_
  refine mg_run 1 rfl ?_
  refine mg_if rfl (fun h => ?_) (fun h => ?_)
  · exact mg_throw mm_xs4 rfl rfl rfl rfl rfl rfl rfl hl hQ
  · refine mg_run 2 rfl ?_
    refine mg_icmp rfl (fun h2 => ?_) (fun h2 => ?_)
    · exfalso
      have h3 : ¬ x.toInt < 0 := fun h9 => h ((i32_neg x).mpr h9)
      have h4 := (i32_lt x (n := 12) (by decide)).mp h2
      unfold no_slot at hx
      omega
    · exact mg_throw mm_xs4 rfl rfl rfl rfl rfl rfl rfl hl hQ
theorem slot_or (x : Int32) : no_slot x ∨ ∃ s, s < 12 ∧ x = nI s := by
  by_cases h : no_slot x
  · exact Or.inl h
  · unfold no_slot at h
    obtain ⟨j, h1, h2, h3⟩ := i32_nat (x := x) (by omega)
    exact Or.inr ⟨j, by omega, h2⟩
theorem c_LB_requireLetter {x : Int32} (hx : is_let x) (hQ : Q (.inl none) M) : mm_Ct l sc Y_LB_requireLetter M [.ref 0, .int x] Q := by
  refine mm_by k_LB_requireLetter w_LB_requireLetter rfl rfl ?_
  refine mg_run 1 rfl ?_
  refine mg_callS [.int x] rfl rfl rfl rfl rfl rfl (c_LB_isLetter (fun _ => ?_) (fun h => absurd hx h))
  refine mg_zne rfl (by decide) (fun h => ?_) (fun h => absurd h (by decide))
  exact mg_vr rfl rfl rfl rfl hQ
theorem c_LB_requireLetterX (hl : l.stackTraces = false) {x : Int32} (hx : ¬ is_let x) (hQ : Q (.inr 0) M) : mm_Ct l sc Y_LB_requireLetter M [.ref 0, .int x] Q := by
  refine mm_by k_LB_requireLetter w_LB_requireLetter rfl rfl ?_
  refine mg_run 1 rfl ?_
  refine mg_callS [.int x] rfl rfl rfl rfl rfl rfl (c_LB_isLetter (fun h => absurd h hx) (fun _ => ?_))
  refine mg_zne rfl (by decide) (fun h => absurd h (by decide)) (fun h => ?_)
  exact mg_throw mm_xs9 rfl rfl rfl rfl rfl rfl rfl hl hQ
def no_steps (x : Int32) : Prop := x.toInt < 1 ∨ 400 < x.toInt
theorem steps_or (x : Int32) : no_steps x ∨ ∃ s, 1 ≤ s ∧ s ≤ 400 ∧ x = nI s := by
  by_cases h : no_steps x
  · exact Or.inl h
  · unfold no_steps at h
    obtain ⟨j, h1, h2, h3⟩ := i32_nat (x := x) (by omega)
    exact Or.inr ⟨j, by omega, by omega, h2⟩
theorem c_LB_requireSteps {s : Nat} (h1 : 1 ≤ s) (h2 : s ≤ 400) (hQ : Q (.inl none) M) : mm_Ct l sc Y_LB_requireSteps M [.ref 0, .int (nI s)] Q := by
  refine mm_by k_LB_requireSteps w_LB_requireSteps rfl rfl ?_
  refine mg_run 2 rfl ?_
  refine mg_lt rfl (by omega) (by decide) (fun h => absurd h (by omega)) (fun h => ?_)
  refine mg_run 2 rfl ?_
  refine mg_le rfl (by omega) (by decide) (fun h => ?_) (fun h => absurd h (by omega))
  exact mg_vr rfl rfl rfl rfl hQ
theorem c_LB_requireStepsX (hl : l.stackTraces = false) {x : Int32} (hx : no_steps x) (hQ : Q (.inr 0) M) : mm_Ct l sc Y_LB_requireSteps M [.ref 0, .int x] Q := by
  refine mm_by k_LB_requireSteps w_LB_requireSteps rfl rfl ?_
  refine mg_run 2 rfl ?_
  refine mg_icmp rfl (fun h => ?_) (fun h => ?_)
  · exact mg_throw mm_xs10 rfl rfl rfl rfl rfl rfl rfl hl hQ
  · refine mg_run 2 rfl ?_
    refine mg_icmp rfl (fun h2 => ?_) (fun h2 => ?_)
    · exfalso
      have h3 : ¬ x.toInt < 1 := fun h9 => h ((i32_lt x (n := 1) (by decide)).mpr h9)
      have h4 := (i32_le x (n := 400) (by decide)).mp h2
      unfold no_steps at hx
      omega
    · exact mg_throw mm_xs10 rfl rfl rfl rfl rfl rfl rfl hl hQ
theorem c_LB_requireTerm (h : lb_is M sl tp pl o) {s : Nat} (hs : s < 12) (hn : 0 < (sl s).length) (hQ : Q (.inl none) M) : mm_Ct l sc Y_LB_requireTerm M [.ref 0, .int (nI s)] Q := by
  obtain ⟨g, hg⟩ := h.2.1 s hs
  have hlen := hg.len
  obtain ⟨f, t1, -⟩ := id hg
  refine mm_by k_LB_requireTerm w_LB_requireTerm rfl rfl ?_
  refine mg_run 1 rfl ?_
  refine mg_get rfl rfl h.1.1 rfl ?_
  refine mg_run 1 rfl ?_
  refine mg_aldN rfl h.1.2 (by decide) hs (lb_f12 hs) ?_
  refine mg_callV [] rfl rfl rfl t1 rfl rfl rfl rfl (c_Te_length hg ?_)
  refine mg_zne rfl (by omega) (fun h => ?_) (fun h => absurd h (by omega))
  exact mg_vr rfl rfl rfl rfl hQ
theorem c_LB_requireTermX (hl : l.stackTraces = false) (h : lb_is M sl tp pl o) {s : Nat} (hs : s < 12) (hn : (sl s).length = 0) (hQ : Q (.inr 1) M) : mm_Ct l sc Y_LB_requireTerm M [.ref 0, .int (nI s)] Q := by
  obtain ⟨g, hg⟩ := h.2.1 s hs
  have hlen := hg.len
  obtain ⟨f, t1, -⟩ := id hg
  refine mm_by k_LB_requireTerm w_LB_requireTerm rfl rfl ?_
  refine mg_run 1 rfl ?_
  refine mg_get rfl rfl h.1.1 rfl ?_
  refine mg_run 1 rfl ?_
  refine mg_aldN rfl h.1.2 (by decide) hs (lb_f12 hs) ?_
  refine mg_callV [] rfl rfl rfl t1 rfl rfl rfl rfl (c_Te_length hg ?_)
  refine mg_zne rfl (by omega) (fun h => absurd h (by omega)) (fun h => ?_)
  exact mg_throw mm_xs7 rfl rfl rfl rfl rfl rfl rfl hl hQ
theorem c_LB_place (h : lb_is M sl tp pl o) (hQ : Q (.inl (some (.int pl))) M) : mm_Ct l sc Y_LB_place M [.ref 0] Q := by
  refine mm_by k_LB_place w_LB_place rfl rfl ?_
  refine mg_run 1 rfl ?_
  refine mg_get rfl rfl h.1.1 rfl ?_
  exact mg_ir rfl rfl rfl rfl hQ
theorem c_LB_how (h : lb_is M sl tp pl o) (hQ : Q (.inl (some (.int (nI o)))) M) : mm_Ct l sc Y_LB_how M [.ref 0] Q := by
  obtain ⟨a, b, dep, ra, ga, rb, gb, h1, h2, h3⟩ := h.2.2.2.2.2.2.2.1
  refine mm_by k_LB_how w_LB_how rfl rfl ?_
  refine mg_run 1 rfl ?_
  refine mg_get rfl rfl h.1.1 rfl ?_
  refine mg_callV [] rfl rfl rfl h1.1 rfl rfl rfl rfl (c_Re_outcome h1 ?_)
  exact mg_ir rfl rfl rfl rfl hQ
theorem c_LB_size (h : lb_is M sl tp pl o) {s : Nat} (hs : s < 12) (hQ : Q (.inl (some (.int (nI (sl s).length)))) M) : mm_Ct l sc Y_LB_size M [.ref 0, .int (nI s)] Q := by
  obtain ⟨g, hg⟩ := h.2.1 s hs
  obtain ⟨f, t1, -⟩ := id hg
  refine mm_by k_LB_size w_LB_size rfl rfl ?_
  refine mg_run 2 rfl ?_
  refine mg_callV [.int (nI s)] rfl rfl rfl h.1.1 rfl rfl rfl rfl (c_LB_requireSlot hs ?_)
  refine mg_run 1 rfl ?_
  refine mg_get rfl rfl h.1.1 rfl ?_
  refine mg_run 1 rfl ?_
  refine mg_aldN rfl h.1.2 (by decide) hs (lb_f12 hs) ?_
  refine mg_callV [] rfl rfl rfl t1 rfl rfl rfl rfl (c_Te_length hg ?_)
  exact mg_ir rfl rfl rfl rfl hQ
theorem c_LB_sizeX (hl : l.stackTraces = false) (h : lb_is M sl tp pl o) {x : Int32} (hx : no_slot x) (hQ : Q (.inr 0) M) : mm_Ct l sc Y_LB_size M [.ref 0, .int x] Q := by
  refine mm_by k_LB_size w_LB_size rfl rfl ?_
  refine mg_run 2 rfl ?_
  exact mg_callV [.int x] rfl rfl rfl h.1.1 rfl rfl rfl rfl (c_LB_requireSlotX hl hx hQ)
end
end
section
/-! The bench's methods, but read: what they answer and leave. -/
def mm_bn : Nat → Prop := mm_rg 0 53
theorem mm_on.bn {lo hi : Nat} {M M' : mm_M} (h : mm_on (mm_rg lo hi) M M') (hh : hi ≤ 53) : mm_on mm_bn M M' := h.wk (fun i h => by unfold mm_rg at h; unfold mm_bn mm_rg; omega)
theorem sl_ap {s t : Nat} (h : ¬ s = t) : te_ap (2 + 2 * s) (2 + 2 * t) := by unfold te_ap te_P; omega
theorem sl_w {s : Nat} (h : s < 12) : te_ap 26 (2 + 2 * s) ∧ te_ap (2 + 2 * s) 26 := by unfold te_ap te_P; omega
theorem sl_up_same (sl : Nat → List Nat) (s : Nat) : sl_up sl s (sl s) = sl := by
  funext j
  unfold sl_up
  by_cases h : j = s
  · rw [if_pos h, h]
  · rw [if_neg h]
/-- how many redexes from i on, m places -/
def te_rc (r : List Nat) : Nat → Nat → Nat
  | 0, _ => 0
  | m + 1, i => (if te_rh r i = 0 then 0 else 1) + te_rc r m (i + 1)
def te_bd (r : List Nat) (v i : Nat) : List Nat := [if r.getD i 0 = v then 1000 + te_D r 0 i else r.getD i 0]
/-- a text's number, if the row is one -/
def te_ta (r : List Nat) : Nat → Nat → Option Nat
  | 0, i => if r.getD (2 * i) 0 = 2 then some i else none
  | m + 1, i => if r.getD (2 * i) 0 = 64 ∧ r.getD (2 * i + 1) 0 = 1 then te_ta r m (i + 1) else none
section
variable {l : Launch} {sc : Nat × (Nat → Int32)} {M : mm_M} {Q : mm_O → mm_M → Prop} {sl : Nat → List Nat} {tp : List Nat} {pl : Int32} {o : Nat}
theorem c_LB_same (h : lb_is M sl tp pl o) (hb : ∀ s i, (sl s).getD i 0 < 10000) {a b : Nat} (ha : a < 12) (hb2 : b < 12) (hQ : Q (.inl (some (.int (nI (if sl a = sl b then 1 else 0))))) M) : mm_Ct l sc Y_LB_same M [.ref 0, .int (nI a), .int (nI b)] Q := by
  obtain ⟨g, hg⟩ := h.2.1 a ha
  obtain ⟨g2, hg2⟩ := h.2.1 b hb2
  obtain ⟨f, t1, -⟩ := id hg
  have hb31 : ∀ s i, (sl s).getD i 0 < 2 ^ 31 := fun s i => Nat.lt_trans (hb s i) (by decide)
  refine mm_by k_LB_same w_LB_same rfl rfl ?_
  refine mg_run 2 rfl ?_
  refine mg_callV [.int (nI a)] rfl rfl rfl h.1.1 rfl rfl rfl rfl (c_LB_requireSlot ha ?_)
  refine mg_run 2 rfl ?_
  refine mg_callV [.int (nI b)] rfl rfl rfl h.1.1 rfl rfl rfl rfl (c_LB_requireSlot hb2 ?_)
  refine mg_run 1 rfl ?_
  refine mg_get rfl rfl h.1.1 rfl ?_
  refine mg_run 1 rfl ?_
  refine mg_aldN rfl h.1.2 (by decide) ha (lb_f12 ha) ?_
  refine mg_run 1 rfl ?_
  refine mg_get rfl rfl h.1.1 rfl ?_
  refine mg_run 1 rfl ?_
  refine mg_aldN rfl h.1.2 (by decide) hb2 (lb_f12 hb2) ?_
  refine mg_callV [.ref (2 + 2 * b)] rfl rfl rfl t1 rfl rfl rfl rfl (c_Te_isLike hg hg2 (hb31 a) (hb31 b) ?_)
  exact mg_zr rfl rfl (te_g1 (by split <;> omega)) rfl rfl hQ
theorem c_LB_sameX (hl : l.stackTraces = false) (h : lb_is M sl tp pl o) {x y : Int32} (hx : no_slot x ∨ no_slot y) (hQ : Q (.inr 0) M) : mm_Ct l sc Y_LB_same M [.ref 0, .int x, .int y] Q := by
  refine mm_by k_LB_same w_LB_same rfl rfl ?_
  refine mg_run 2 rfl ?_
  rcases slot_or x with h1 | ⟨a, ha, rfl⟩
  · exact mg_callV [.int x] rfl rfl rfl h.1.1 rfl rfl rfl rfl (c_LB_requireSlotX hl h1 hQ)
  · refine mg_callV [.int (nI a)] rfl rfl rfl h.1.1 rfl rfl rfl rfl (c_LB_requireSlot ha ?_)
    refine mg_run 2 rfl ?_
    have h2 : no_slot y := by
      rcases hx with h9 | h9
      · exfalso
        unfold no_slot at h9
        rw [nI_toInt (by omega)] at h9
        omega
      · exact h9
    exact mg_callV [.int y] rfl rfl rfl h.1.1 rfl rfl rfl rfl (c_LB_requireSlotX hl h2 hQ)
theorem c_LB_has (h : lb_is M sl tp pl o) (hb : ∀ s i, (sl s).getD i 0 < 10000) {a v : Nat} (ha : a < 12) (hv : v < 2 ^ 31) (hlet : is_let (nI v)) (hQ : Q (.inl (some (.int (nI (if v ∈ sl a then 1 else 0))))) M) : mm_Ct l sc Y_LB_has M [.ref 0, .int (nI a), .int (nI v)] Q := by
  obtain ⟨g, hg⟩ := h.2.1 a ha
  obtain ⟨f, t1, -⟩ := id hg
  have hb31 : ∀ s i, (sl s).getD i 0 < 2 ^ 31 := fun s i => Nat.lt_trans (hb s i) (by decide)
  refine mm_by k_LB_has w_LB_has rfl rfl ?_
  refine mg_run 2 rfl ?_
  refine mg_callV [.int (nI a)] rfl rfl rfl h.1.1 rfl rfl rfl rfl (c_LB_requireSlot ha ?_)
  refine mg_run 2 rfl ?_
  refine mg_callV [.int (nI v)] rfl rfl rfl h.1.1 rfl rfl rfl rfl (c_LB_requireLetter hlet ?_)
  refine mg_run 1 rfl ?_
  refine mg_get rfl rfl h.1.1 rfl ?_
  refine mg_run 1 rfl ?_
  refine mg_aldN rfl h.1.2 (by decide) ha (lb_f12 ha) ?_
  refine mg_run 1 rfl ?_
  refine mg_callV [.int (nI v)] rfl rfl rfl t1 rfl rfl rfl rfl (c_Te_contains hg (hb31 a) hv ?_)
  exact mg_zr rfl rfl (te_g1 (by split <;> omega)) rfl rfl hQ
theorem c_LB_hasX (hl : l.stackTraces = false) (h : lb_is M sl tp pl o) {x y : Int32} (hx : no_slot x ∨ ¬ is_let y) (hQ : Q (.inr 0) M) : mm_Ct l sc Y_LB_has M [.ref 0, .int x, .int y] Q := by
  refine mm_by k_LB_has w_LB_has rfl rfl ?_
  refine mg_run 2 rfl ?_
  rcases slot_or x with h1 | ⟨a, ha, rfl⟩
  · exact mg_callV [.int x] rfl rfl rfl h.1.1 rfl rfl rfl rfl (c_LB_requireSlotX hl h1 hQ)
  · refine mg_callV [.int (nI a)] rfl rfl rfl h.1.1 rfl rfl rfl rfl (c_LB_requireSlot ha ?_)
    refine mg_run 2 rfl ?_
    have h2 : ¬ is_let y := by
      rcases hx with h9 | h9
      · exfalso
        unfold no_slot at h9
        rw [nI_toInt (by omega)] at h9
        omega
      · exact h9
    exact mg_callV [.int y] rfl rfl rfl h.1.1 rfl rfl rfl rfl (c_LB_requireLetterX hl h2 hQ)
theorem c_LB_copy (h : lb_is M sl tp pl o) {a b : Nat} (ha : a < 12) (hb : b < 12) (hQ : ∀ M', lb_is M' (sl_up sl b (sl a)) tp pl o → mm_on mm_bn M M' → Q (.inl none) M') : mm_Ct l sc Y_LB_copy M [.ref 0, .int (nI a), .int (nI b)] Q := by
  obtain ⟨g, hg⟩ := h.2.1 a ha
  obtain ⟨g2, hg2⟩ := h.2.1 b hb
  obtain ⟨f, t1, -⟩ := id hg2
  refine mm_by k_LB_copy w_LB_copy rfl rfl ?_
  refine mg_run 2 rfl ?_
  refine mg_callV [.int (nI a)] rfl rfl rfl h.1.1 rfl rfl rfl rfl (c_LB_requireSlot ha ?_)
  refine mg_run 2 rfl ?_
  refine mg_callV [.int (nI b)] rfl rfl rfl h.1.1 rfl rfl rfl rfl (c_LB_requireSlot hb ?_)
  refine mg_run 1 rfl ?_
  refine mg_get rfl rfl h.1.1 rfl ?_
  refine mg_run 1 rfl ?_
  refine mg_aldN rfl h.1.2 (by decide) hb (lb_f12 hb) ?_
  refine mg_run 1 rfl ?_
  refine mg_get rfl rfl h.1.1 rfl ?_
  refine mg_run 1 rfl ?_
  refine mg_aldN rfl h.1.2 (by decide) ha (lb_f12 ha) ?_
  by_cases hab : b = a
  · subst hab
    refine mg_callV [.ref (2 + 2 * b)] rfl rfl rfl t1 rfl rfl rfl rfl (c_Te_becomeSelf hg ?_)
    refine mg_vr rfl rfl rfl rfl ?_
    rw [sl_up_same] at hQ
    exact hQ M h (mm_on.rf _ M)
  · refine mg_callV [.ref (2 + 2 * a)] rfl rfl rfl t1 rfl rfl rfl rfl (c_Te_become hg2 hg (sl_ap hab) (fun M1 p1 p2 => ?_))
    refine mg_vr rfl rfl rfl rfl ?_
    exact hQ M1 (h.slot hb p1 p2) (p2.te.bn (by omega))
theorem c_LB_copyX (hl : l.stackTraces = false) (h : lb_is M sl tp pl o) {x y : Int32} (hx : no_slot x ∨ no_slot y) (hQ : Q (.inr 0) M) : mm_Ct l sc Y_LB_copy M [.ref 0, .int x, .int y] Q := by
  refine mm_by k_LB_copy w_LB_copy rfl rfl ?_
  refine mg_run 2 rfl ?_
  rcases slot_or x with h1 | ⟨a, ha, rfl⟩
  · exact mg_callV [.int x] rfl rfl rfl h.1.1 rfl rfl rfl rfl (c_LB_requireSlotX hl h1 hQ)
  · refine mg_callV [.int (nI a)] rfl rfl rfl h.1.1 rfl rfl rfl rfl (c_LB_requireSlot ha ?_)
    refine mg_run 2 rfl ?_
    have h2 : no_slot y := by
      rcases hx with h9 | h9
      · exfalso
        unfold no_slot at h9
        rw [nI_toInt (by omega)] at h9
        omega
      · exact h9
    exact mg_callV [.int y] rfl rfl rfl h.1.1 rfl rfl rfl rfl (c_LB_requireSlotX hl h2 hQ)
theorem lp_LB_redexes {r : List Nat} {t g : Nat} {x1 : Int32} (hb : ∀ i, r.getD i 0 < 2 ^ 31) (hT : te_is M t r g) : ∀ m i n, r.length - i = m → i ≤ r.length → n ≤ i → Q (.inl (some (.int (nI (n + te_rc r m i))))) M → mm_Go l sc Y_LB_redexes 2 12 M [some (.ref 0), some (.int x1), some (.ref t), some (.int (nI n)), some (.int (nI i))] [] 22 Q := by
  have h4 := hT.len
  obtain ⟨f, t1, -⟩ := id hT
  intro m
  induction m with
  | zero =>
    intro i n hm hi hn hQ
    refine mg_run 2 rfl ?_
    refine mg_callV [] rfl rfl rfl t1 rfl rfl rfl rfl (c_Te_length hT ?_)
    refine mg_ge rfl (by omega) (by omega) (fun h => ?_) (fun h => absurd h (by omega))
    refine mg_run 1 rfl ?_
    exact mg_ir rfl rfl rfl rfl hQ
  | succ m ih =>
    intro i n hm hi hn hQ
    refine mg_run 2 rfl ?_
    refine mg_callV [] rfl rfl rfl t1 rfl rfl rfl rfl (c_Te_length hT ?_)
    refine mg_ge rfl (by omega) (by omega) (fun h => absurd h (by omega)) (fun h => ?_)
    refine mg_run 2 rfl ?_
    refine mg_callV [.int (nI i)] rfl rfl rfl t1 rfl rfl rfl rfl (c_Te_redexHead hT hb (by omega) ?_)
    refine mg_zeq rfl (te_rh_lt r i) (fun h9 => ?_) (fun h9 => ?_)
    · refine mg_incN rfl rfl rfl ?_
      refine mg_run 1 rfl ?_
      refine ih (i + 1) n (by omega) (by omega) (by omega) ?_
      rw [te_rc, if_pos h9, Nat.zero_add] at hQ
      exact hQ
    · refine mg_incN rfl rfl rfl ?_
      refine mg_incN rfl rfl rfl ?_
      refine mg_run 1 rfl ?_
      refine ih (i + 1) (n + 1) (by omega) (by omega) (by omega) ?_
      rw [te_rc, if_neg (by omega)] at hQ
      rw [show n + 1 + te_rc r m (i + 1) = n + (1 + te_rc r m (i + 1)) by omega]
      exact hQ
theorem c_LB_redexes (h : lb_is M sl tp pl o) (hb : ∀ s i, (sl s).getD i 0 < 10000) {a : Nat} (ha : a < 12) (hn : 0 < (sl a).length) (hQ : Q (.inl (some (.int (nI (te_rc (sl a) (sl a).length 0))))) M) : mm_Ct l sc Y_LB_redexes M [.ref 0, .int (nI a)] Q := by
  obtain ⟨g, hg⟩ := h.2.1 a ha
  have hb31 : ∀ s i, (sl s).getD i 0 < 2 ^ 31 := fun s i => Nat.lt_trans (hb s i) (by decide)
  refine mm_by k_LB_redexes w_LB_redexes rfl rfl ?_
  refine mg_run 2 rfl ?_
  refine mg_callV [.int (nI a)] rfl rfl rfl h.1.1 rfl rfl rfl rfl (c_LB_requireSlot ha ?_)
  refine mg_run 2 rfl ?_
  refine mg_callV [.int (nI a)] rfl rfl rfl h.1.1 rfl rfl rfl rfl (c_LB_requireTerm h ha hn ?_)
  refine mg_run 1 rfl ?_
  refine mg_get rfl rfl h.1.1 rfl ?_
  refine mg_run 1 rfl ?_
  refine mg_aldN rfl h.1.2 (by decide) ha (lb_f12 ha) ?_
  refine mg_run 5 rfl ?_
  exact lp_LB_redexes (hb31 a) hg _ 0 0 rfl (Nat.zero_le _) (Nat.le_refl _) (by rw [Nat.zero_add]; exact hQ)
theorem c_LB_redexesX (hl : l.stackTraces = false) (h : lb_is M sl tp pl o) {x : Int32} (hx : no_slot x) (hQ : Q (.inr 0) M) : mm_Ct l sc Y_LB_redexes M [.ref 0, .int x] Q := by
  refine mm_by k_LB_redexes w_LB_redexes rfl rfl ?_
  refine mg_run 2 rfl ?_
  exact mg_callV [.int x] rfl rfl rfl h.1.1 rfl rfl rfl rfl (c_LB_requireSlotX hl hx hQ)
theorem c_LB_redexesE (hl : l.stackTraces = false) (h : lb_is M sl tp pl o) {a : Nat} (ha : a < 12) (hn : (sl a).length = 0) (hQ : Q (.inr 1) M) : mm_Ct l sc Y_LB_redexes M [.ref 0, .int (nI a)] Q := by
  refine mm_by k_LB_redexes w_LB_redexes rfl rfl ?_
  refine mg_run 2 rfl ?_
  refine mg_callV [.int (nI a)] rfl rfl rfl h.1.1 rfl rfl rfl rfl (c_LB_requireSlot ha ?_)
  refine mg_run 2 rfl ?_
  exact mg_callV [.int (nI a)] rfl rfl rfl h.1.1 rfl rfl rfl rfl (c_LB_requireTermX hl h ha hn hQ)
/-- how a place is printed -/
def te_pr (c : Nat) : Nat := if c < 1000 then c else 48 + (if c - 1000 < 99 then c - 1000 else 99)
theorem c_LB_print (h : lb_is M sl tp pl o) (hb : ∀ s i, (sl s).getD i 0 < 10000) {a i : Nat} (ha : a < 12) (hi : i < (sl a).length) (hQ : Q (.inl (some (.int (nI (te_pr ((sl a).getD i 0)))))) M) : mm_Ct l sc Y_LB_print M [.ref 0, .int (nI a), .int (nI i)] Q := by
  obtain ⟨g, hg⟩ := h.2.1 a ha
  have h4 := hg.len
  obtain ⟨f, t1, -⟩ := id hg
  have hbi := hb a i
  refine mm_by k_LB_print w_LB_print rfl rfl ?_
  refine mg_run 2 rfl ?_
  refine mg_callV [.int (nI a)] rfl rfl rfl h.1.1 rfl rfl rfl rfl (c_LB_requireSlot ha ?_)
  refine mg_run 1 rfl ?_
  refine mg_get rfl rfl h.1.1 rfl ?_
  refine mg_run 1 rfl ?_
  refine mg_aldN rfl h.1.2 (by decide) ha (lb_f12 ha) ?_
  refine mg_run 2 rfl ?_
  refine mg_zlt rfl (by omega) ?_
  refine mg_run 2 rfl ?_
  refine mg_callV [] rfl rfl rfl t1 rfl rfl rfl rfl (c_Te_length hg ?_)
  refine mg_lt rfl (by omega) (by omega) (fun h => ?_) (fun h => absurd h (by omega))
  refine mg_run 2 rfl ?_
  refine mg_callV [.int (nI i)] rfl rfl rfl t1 rfl rfl rfl rfl (c_Te_at hg (by omega) ?_)
  refine mg_run 3 rfl ?_
  refine mg_ge rfl (by omega) (by decide) (fun h9 => ?_) (fun h9 => ?_)
  · refine mg_run 3 rfl ?_
    refine mg_subN rfl h9 ?_
    refine mg_run 1 rfl ?_
    refine mg_min rfl rfl rfl ?_
    have e : (if nI 99 < nI ((sl a).getD i 0 - 1000) then nI 99 else nI ((sl a).getD i 0 - 1000)) = nI (if (sl a).getD i 0 - 1000 < 99 then (sl a).getD i 0 - 1000 else 99) := by
      by_cases h8 : (sl a).getD i 0 - 1000 < 99
      · rw [if_pos h8, if_neg (fun h7 => by rw [nI_ltI (by decide) (by omega)] at h7; omega)]
      · rw [if_neg h8]
        by_cases h7 : nI 99 < nI ((sl a).getD i 0 - 1000)
        · rw [if_pos h7]
        · rw [if_neg h7]
          rw [nI_ltI (by decide) (by omega)] at h7
          have e9 : (sl a).getD i 0 - 1000 = 99 := by omega
          rw [e9]
    rw [e]
    refine mg_addN rfl ?_
    refine mg_ir rfl rfl rfl rfl ?_
    rw [te_pr, if_neg (by omega)] at hQ
    exact hQ
  · refine mg_run 1 rfl ?_
    refine mg_ir rfl rfl rfl rfl ?_
    rw [te_pr, if_pos h9] at hQ
    exact hQ
theorem c_LB_printX (hl : l.stackTraces = false) (h : lb_is M sl tp pl o) {x y : Int32} (hx : no_slot x) (hQ : Q (.inr 0) M) : mm_Ct l sc Y_LB_print M [.ref 0, .int x, .int y] Q := by
  refine mm_by k_LB_print w_LB_print rfl rfl ?_
  refine mg_run 2 rfl ?_
  exact mg_callV [.int x] rfl rfl rfl h.1.1 rfl rfl rfl rfl (c_LB_requireSlotX hl hx hQ)
theorem c_LB_printE (hl : l.stackTraces = false) (h : lb_is M sl tp pl o) {a : Nat} (ha : a < 12) {y : Int32} (hy : y.toInt < 0 ∨ ((sl a).length : Int) ≤ y.toInt) (hQ : Q (.inr 2) M) : mm_Ct l sc Y_LB_print M [.ref 0, .int (nI a), .int y] Q := by
  obtain ⟨g, hg⟩ := h.2.1 a ha
  have h4 := hg.len
  obtain ⟨f, t1, -⟩ := id hg
  refine mm_by k_LB_print w_LB_print rfl rfl ?_
  refine mg_run 2 rfl ?_
  refine mg_callV [.int (nI a)] rfl rfl rfl h.1.1 rfl rfl rfl rfl (c_LB_requireSlot ha ?_)
  refine mg_run 1 rfl ?_
  refine mg_get rfl rfl h.1.1 rfl ?_
  refine mg_run 1 rfl ?_
  refine mg_aldN rfl h.1.2 (by decide) ha (lb_f12 ha) ?_
  refine mg_run 2 rfl ?_
  refine mg_if rfl (fun h1 => ?_) (fun h1 => ?_)
  · exact mg_throw mm_xs5 rfl rfl rfl rfl rfl rfl rfl hl hQ
  · refine mg_run 2 rfl ?_
    refine mg_callV [] rfl rfl rfl t1 rfl rfl rfl rfl (c_Te_length hg ?_)
    refine mg_icmp rfl (fun h2 => ?_) (fun h2 => ?_)
    · exfalso
      have h3 : ¬ y.toInt < 0 := fun h9 => h1 ((i32_neg y).mpr h9)
      have h5 := (i32_lt y (n := (sl a).length) (by omega)).mp h2
      omega
    · exact mg_throw mm_xs5 rfl rfl rfl rfl rfl rfl rfl hl hQ
end
end
section
/-! The bench: apply, bind, reduce, abstracted. -/
section
variable {l : Launch} {sc : Nat × (Nat → Int32)} {M : mm_M} {Q : mm_O → mm_M → Prop} {sl : Nat → List Nat} {tp : List Nat} {pl : Int32} {o : Nat}
theorem no_nI {s : Nat} (hs : s < 12) : ¬ no_slot (nI s) := by
  unfold no_slot
  rw [nI_toInt (by omega)]
  omega
theorem c_LB_apply (hl : l.stackTraces = false) (h : lb_is M sl tp pl o) {a b c : Nat} (ha : a < 12) (hb : b < 12) (hc : c < 12) (hna : 0 < (sl a).length) (hnb : 0 < (sl b).length)
    (hQ : ([64] ++ sl a ++ sl b).length ≤ 2000 → ∀ M', lb_is M' (sl_up sl c ([64] ++ sl a ++ sl b)) tp pl o → mm_on mm_bn M M' → Q (.inl (some (.int (nI ([64] ++ sl a ++ sl b).length)))) M')
    (hN : 2000 < ([64] ++ sl a ++ sl b).length → ∀ M', lb_is M' sl tp pl o → mm_on mm_bn M M' → Q (.inr 1) M') : mm_Ct l sc Y_LB_apply M [.ref 0, .int (nI a), .int (nI b), .int (nI c)] Q := by
  obtain ⟨ga, hga⟩ := h.2.1 a ha
  obtain ⟨gb, hgb⟩ := h.2.1 b hb
  obtain ⟨gc, hgc⟩ := h.2.1 c hc
  obtain ⟨rw0, gw0, hw0⟩ := h.2.2.1
  obtain ⟨fw, w1, -⟩ := id hw0
  refine mm_by k_LB_apply w_LB_apply rfl rfl ?_
  refine mg_run 2 rfl ?_
  refine mg_callV [.int (nI a)] rfl rfl rfl h.1.1 rfl rfl rfl rfl (c_LB_requireSlot ha ?_)
  refine mg_run 2 rfl ?_
  refine mg_callV [.int (nI b)] rfl rfl rfl h.1.1 rfl rfl rfl rfl (c_LB_requireSlot hb ?_)
  refine mg_run 2 rfl ?_
  refine mg_callV [.int (nI c)] rfl rfl rfl h.1.1 rfl rfl rfl rfl (c_LB_requireSlot hc ?_)
  refine mg_run 2 rfl ?_
  refine mg_callV [.int (nI a)] rfl rfl rfl h.1.1 rfl rfl rfl rfl (c_LB_requireTerm h ha hna ?_)
  refine mg_run 2 rfl ?_
  refine mg_callV [.int (nI b)] rfl rfl rfl h.1.1 rfl rfl rfl rfl (c_LB_requireTerm h hb hnb ?_)
  refine mg_run 1 rfl ?_
  refine mg_get rfl rfl h.1.1 rfl ?_
  refine mg_callV [] rfl rfl rfl w1 rfl rfl rfl rfl (c_Te_clear hw0 (fun M1 p1 p2 => ?_))
  have h1 := h.work ⟨_, _, p1⟩ p2.te
  obtain ⟨fw1, w2, -⟩ := id p1
  refine mg_run 1 rfl ?_
  refine mg_get rfl rfl h1.1.1 rfl ?_
  refine mg_run 1 rfl ?_
  refine mg_callV [.int (nI 64)] rfl rfl rfl w2 rfl rfl rfl rfl (c_Te_add p1 (fun M2 q1 q2 => ?_))
  have h2 := h1.work ⟨_, _, q1⟩ q2.te
  have u2 := wr0.add 64
  obtain ⟨fw2, w3, -⟩ := id q1
  have A2 := (hga.keep p2 (sl_w ha).1.1 (sl_w ha).1.2).keep q2 (sl_w ha).1.1 (sl_w ha).1.2
  have B2 := (hgb.keep p2 (sl_w hb).1.1 (sl_w hb).1.2).keep q2 (sl_w hb).1.1 (sl_w hb).1.2
  refine mg_run 1 rfl ?_
  refine mg_get rfl rfl h2.1.1 rfl ?_
  refine mg_run 1 rfl ?_
  refine mg_get rfl rfl h2.1.1 rfl ?_
  refine mg_run 1 rfl ?_
  refine mg_aldN rfl h2.1.2 (by decide) ha (lb_f12 ha) ?_
  refine mg_callV [.ref (2 + 2 * a)] rfl rfl rfl w3 rfl rfl rfl rfl (c_Te_addAll q1 A2 (sl_w ha).1 (fun M3 v1 v2 => ?_))
  have h3 := h2.work ⟨_, _, v1⟩ v2.te
  have u3 := u2.adds (sl a)
  obtain ⟨fw3, w4, -⟩ := id v1
  have B3 := B2.keep v2 (sl_w hb).1.1 (sl_w hb).1.2
  refine mg_run 1 rfl ?_
  refine mg_get rfl rfl h3.1.1 rfl ?_
  refine mg_run 1 rfl ?_
  refine mg_get rfl rfl h3.1.1 rfl ?_
  refine mg_run 1 rfl ?_
  refine mg_aldN rfl h3.1.2 (by decide) hb (lb_f12 hb) ?_
  refine mg_callV [.ref (2 + 2 * b)] rfl rfl rfl w4 rfl rfl rfl rfl (c_Te_addAll v1 B3 (sl_w hb).1 (fun M4 x1 x2 => ?_))
  have h4 := h3.work ⟨_, _, x1⟩ x2.te
  have u4 : wr _ ([64] ++ sl a ++ sl b) := u3.adds (sl b)
  obtain ⟨fw4, w5, -, -, -, gle⟩ := id x1
  have hon : mm_on mm_bn M M4 := (((p2.te.bn (by decide)).tr (q2.te.bn (by decide))).tr (v2.te.bn (by decide))).tr (x2.te.bn (by decide))
  refine mg_run 1 rfl ?_
  refine mg_get rfl rfl h4.1.1 rfl ?_
  refine mg_callV [] rfl rfl rfl w5 rfl rfl rfl rfl (c_Te_isTooGreat x1 ?_)
  refine mg_zeq rfl (by omega) (fun h0 => ?_) (fun h0 => ?_)
  · obtain ⟨e1, e2⟩ := u4.ok h0
    have x1' : te_is M4 26 ([64] ++ sl a ++ sl b) 0 := by
      have e3 := x1
      rw [show te_adds ((te_adds ((te_add ([], 0) 64).1, (te_add ([], 0) 64).2) (sl a)).1, (te_adds ((te_add ([], 0) 64).1, (te_add ([], 0) 64).2) (sl a)).2) (sl b) = ([64] ++ sl a ++ sl b, 0) from e2] at e3
      exact e3
    obtain ⟨gc4, hgc4⟩ := h4.2.1 c hc
    obtain ⟨fc, c1, -⟩ := id hgc4
    obtain ⟨fw5, w6, -⟩ := id x1'
    refine mg_run 1 rfl ?_
    refine mg_get rfl rfl h4.1.1 rfl ?_
    refine mg_run 1 rfl ?_
    refine mg_aldN rfl h4.1.2 (by decide) hc (lb_f12 hc) ?_
    refine mg_run 1 rfl ?_
    refine mg_get rfl rfl h4.1.1 rfl ?_
    refine mg_callV [.ref 26] rfl rfl rfl c1 rfl rfl rfl rfl (c_Te_become hgc4 x1' (sl_w hc).2 (fun M5 y1 y2 => ?_))
    have h5 := h4.slot hc y1 y2
    have W5 := x1'.keep y2 (sl_w hc).2.1 (sl_w hc).2.2
    obtain ⟨fw6, w7, -⟩ := id W5
    refine mg_run 1 rfl ?_
    refine mg_get rfl rfl h5.1.1 rfl ?_
    refine mg_callV [] rfl rfl rfl w7 rfl rfl rfl rfl (c_Te_length W5 ?_)
    refine mg_ir rfl rfl rfl rfl ?_
    exact hQ e1 M5 h5 (hon.tr (y2.te.bn (by omega)))
  · exact mg_throw mm_xs6 rfl rfl rfl rfl rfl rfl rfl hl (hN (u4.not h0) M4 h4 hon)
theorem c_LB_applyX (hl : l.stackTraces = false) (h : lb_is M sl tp pl o) {x y z : Int32} (hx : no_slot x ∨ no_slot y ∨ no_slot z) (hQ : Q (.inr 0) M) : mm_Ct l sc Y_LB_apply M [.ref 0, .int x, .int y, .int z] Q := by
  refine mm_by k_LB_apply w_LB_apply rfl rfl ?_
  refine mg_run 2 rfl ?_
  rcases slot_or x with h1 | ⟨a, ha, rfl⟩
  · exact mg_callV [.int x] rfl rfl rfl h.1.1 rfl rfl rfl rfl (c_LB_requireSlotX hl h1 hQ)
  · refine mg_callV [.int (nI a)] rfl rfl rfl h.1.1 rfl rfl rfl rfl (c_LB_requireSlot ha ?_)
    refine mg_run 2 rfl ?_
    rcases slot_or y with h2 | ⟨b, hb, rfl⟩
    · exact mg_callV [.int y] rfl rfl rfl h.1.1 rfl rfl rfl rfl (c_LB_requireSlotX hl h2 hQ)
    · refine mg_callV [.int (nI b)] rfl rfl rfl h.1.1 rfl rfl rfl rfl (c_LB_requireSlot hb ?_)
      refine mg_run 2 rfl ?_
      have h3 : no_slot z := by
        rcases hx with h9 | h9 | h9
        · exact absurd h9 (no_nI ha)
        · exact absurd h9 (no_nI hb)
        · exact h9
      exact mg_callV [.int z] rfl rfl rfl h.1.1 rfl rfl rfl rfl (c_LB_requireSlotX hl h3 hQ)
theorem c_LB_applyE (hl : l.stackTraces = false) (h : lb_is M sl tp pl o) {a b c : Nat} (ha : a < 12) (hb : b < 12) (hc : c < 12) (hn : (sl a).length = 0 ∨ (sl b).length = 0) (hQ : Q (.inr 1) M) : mm_Ct l sc Y_LB_apply M [.ref 0, .int (nI a), .int (nI b), .int (nI c)] Q := by
  refine mm_by k_LB_apply w_LB_apply rfl rfl ?_
  refine mg_run 2 rfl ?_
  refine mg_callV [.int (nI a)] rfl rfl rfl h.1.1 rfl rfl rfl rfl (c_LB_requireSlot ha ?_)
  refine mg_run 2 rfl ?_
  refine mg_callV [.int (nI b)] rfl rfl rfl h.1.1 rfl rfl rfl rfl (c_LB_requireSlot hb ?_)
  refine mg_run 2 rfl ?_
  refine mg_callV [.int (nI c)] rfl rfl rfl h.1.1 rfl rfl rfl rfl (c_LB_requireSlot hc ?_)
  refine mg_run 2 rfl ?_
  by_cases h0 : (sl a).length = 0
  · exact mg_callV [.int (nI a)] rfl rfl rfl h.1.1 rfl rfl rfl rfl (c_LB_requireTermX hl h ha h0 hQ)
  · refine mg_callV [.int (nI a)] rfl rfl rfl h.1.1 rfl rfl rfl rfl (c_LB_requireTerm h ha (by omega) ?_)
    refine mg_run 2 rfl ?_
    exact mg_callV [.int (nI b)] rfl rfl rfl h.1.1 rfl rfl rfl rfl (c_LB_requireTermX hl h hb (by omega) hQ)
theorem c_LB_reduce (P : List Nat → Prop) (hP1 : ∀ r, P r → ∀ i, r.getD i 0 < 10000) (hP2 : ∀ r i, P r → te_fr r r.length 0 = some i → (te_step r i).length ≤ 2000 → P (te_step r i)) (h : lb_is M sl tp pl o) {a N : Nat} (ha : a < 12) (hN1 : 1 ≤ N) (hN2 : N ≤ 400) (hn : 0 < (sl a).length) (hPr : P (sl a))
    (hQ : ∀ M', lb_is M' (sl_up sl a (te_rn N (sl a)).1) tp pl (te_rn N (sl a)).2.2 → mm_on mm_bn M M' → Q (.inl (some (.int (nI (te_rn N (sl a)).2.1)))) M') : mm_Ct l sc Y_LB_reduce M [.ref 0, .int (nI a), .int (nI N)] Q := by
  obtain ⟨ga, hga⟩ := h.2.1 a ha
  obtain ⟨ra, rb, dep, r1, g1, r2, g2, hR, hA, hB⟩ := h.2.2.2.2.2.2.2.1
  have hap : te_ap ra (2 + 2 * a) := by
    obtain ⟨-, -, r3⟩ := hR
    unfold te_ap te_P
    rcases r3 with ⟨h1, h2⟩ | ⟨h1, h2⟩ <;> omega
  refine mm_by k_LB_reduce w_LB_reduce rfl rfl ?_
  refine mg_run 2 rfl ?_
  refine mg_callV [.int (nI a)] rfl rfl rfl h.1.1 rfl rfl rfl rfl (c_LB_requireSlot ha ?_)
  refine mg_run 2 rfl ?_
  refine mg_callV [.int (nI N)] rfl rfl rfl h.1.1 rfl rfl rfl rfl (c_LB_requireSteps hN1 hN2 ?_)
  refine mg_run 2 rfl ?_
  refine mg_callV [.int (nI a)] rfl rfl rfl h.1.1 rfl rfl rfl rfl (c_LB_requireTerm h ha hn ?_)
  refine mg_run 1 rfl ?_
  refine mg_get rfl rfl h.1.1 rfl ?_
  refine mg_run 1 rfl ?_
  refine mg_get rfl rfl h.1.1 rfl ?_
  refine mg_run 1 rfl ?_
  refine mg_aldN rfl h.1.2 (by decide) ha (lb_f12 ha) ?_
  refine mg_run 1 rfl ?_
  refine mg_callV [.ref (2 + 2 * a), .int (nI N)] rfl rfl rfl hR.1 rfl rfl rfl rfl (c_Re_run (bf := (r2, g2)) P hP1 hP2 (by omega) hPr hR hA hB hga hap (fun M1 a1 b1 dep1 ga1 bf1 q1 q2 q3 q4 => ?_))
  have hon1 : mm_on (mm_rg 39 46) M M1 := q4
  have h1 := h.red ⟨a1, b1, dep1, _, _, _, _, q1, q2, q3⟩ hon1
  obtain ⟨ga2, hga2⟩ := h1.2.1 a ha
  obtain ⟨fa, t1, -⟩ := id hga2
  have hap1 : te_ap (2 + 2 * a) a1 := by
    obtain ⟨-, -, r3⟩ := q1
    unfold te_ap te_P
    rcases r3 with ⟨h1, h2⟩ | ⟨h1, h2⟩ <;> omega
  refine mg_run 2 rfl ?_
  refine mg_get rfl rfl h1.1.1 rfl ?_
  refine mg_run 1 rfl ?_
  refine mg_aldN rfl h1.1.2 (by decide) ha (lb_f12 ha) ?_
  refine mg_run 1 rfl ?_
  refine mg_get rfl rfl h1.1.1 rfl ?_
  refine mg_callV [] rfl rfl rfl q1.1 rfl rfl rfl rfl (c_Re_result q1 ?_)
  refine mg_callV [.ref a1] rfl rfl rfl t1 rfl rfl rfl rfl (c_Te_become hga2 q2 hap1 (fun M2 p1 p2 => ?_))
  refine mg_run 1 rfl ?_
  refine mg_ir rfl rfl rfl rfl ?_
  exact hQ M2 (h1.slot ha p1 p2) ((hon1.bn (by decide)).tr (p2.te.bn (by omega)))
theorem c_LB_reduceX (hl : l.stackTraces = false) (h : lb_is M sl tp pl o) {x y : Int32} (hx : no_slot x ∨ no_steps y) (hQ : Q (.inr 0) M) : mm_Ct l sc Y_LB_reduce M [.ref 0, .int x, .int y] Q := by
  refine mm_by k_LB_reduce w_LB_reduce rfl rfl ?_
  refine mg_run 2 rfl ?_
  rcases slot_or x with h1 | ⟨a, ha, rfl⟩
  · exact mg_callV [.int x] rfl rfl rfl h.1.1 rfl rfl rfl rfl (c_LB_requireSlotX hl h1 hQ)
  · refine mg_callV [.int (nI a)] rfl rfl rfl h.1.1 rfl rfl rfl rfl (c_LB_requireSlot ha ?_)
    refine mg_run 2 rfl ?_
    have h2 : no_steps y := hx.elim (fun h9 => absurd h9 (no_nI ha)) id
    exact mg_callV [.int y] rfl rfl rfl h.1.1 rfl rfl rfl rfl (c_LB_requireStepsX hl h2 hQ)
theorem c_LB_reduceE (hl : l.stackTraces = false) (h : lb_is M sl tp pl o) {a N : Nat} (ha : a < 12) (hN1 : 1 ≤ N) (hN2 : N ≤ 400) (hn : (sl a).length = 0) (hQ : Q (.inr 1) M) : mm_Ct l sc Y_LB_reduce M [.ref 0, .int (nI a), .int (nI N)] Q := by
  refine mm_by k_LB_reduce w_LB_reduce rfl rfl ?_
  refine mg_run 2 rfl ?_
  refine mg_callV [.int (nI a)] rfl rfl rfl h.1.1 rfl rfl rfl rfl (c_LB_requireSlot ha ?_)
  refine mg_run 2 rfl ?_
  refine mg_callV [.int (nI N)] rfl rfl rfl h.1.1 rfl rfl rfl rfl (c_LB_requireSteps hN1 hN2 ?_)
  refine mg_run 2 rfl ?_
  exact mg_callV [.int (nI a)] rfl rfl rfl h.1.1 rfl rfl rfl rfl (c_LB_requireTermX hl h ha hn hQ)
theorem c_LB_abstracted (hl : l.stackTraces = false) (P : Nat → List Nat → Prop) (hP1 : ∀ m r, P m r → ∀ i, r.getD i 0 < 10000) (hP2 : ∀ i r, P (i + 1) r → r.getD i 0 = 92 → i < r.length ∧ (∀ j, i + 1 ≤ j → j < te_en r (i + 1) → te_en r j ≤ te_en r (i + 1) ∧ ¬ r.getD j 0 = 92) ∧ ((ab_st r i).length ≤ 2000 → P i (ab_st r i))) (hP3 : ∀ i r, P (i + 1) r → ¬ r.getD i 0 = 92 → P i r) (h : lb_is M sl tp pl o) {a : Nat} (ha : a < 12) (hn : 0 < (sl a).length) (hPr : P (sl a).length (sl a))
    (hQ : ∀ r', te_ab (sl a).length (sl a) = some r' → ∀ M', lb_is M' (sl_up sl a r') tp pl o → mm_on mm_bn M M' → Q (.inl (some (.int (nI r'.length)))) M')
    (hN : te_ab (sl a).length (sl a) = none → ∀ M', lb_is M' sl tp pl o → mm_on mm_bn M M' → Q (.inr 1) M') : mm_Ct l sc Y_LB_abstracted M [.ref 0, .int (nI a)] Q := by
  obtain ⟨ga, hga⟩ := h.2.1 a ha
  obtain ⟨ra, rb, en, us, r1, g1, r2, g2, hA, hT, hB⟩ := h.2.2.2.2.2.2.2.2
  have hap : te_ap ra (2 + 2 * a) := by
    obtain ⟨-, -, -, r3⟩ := hA
    unfold te_ap te_P
    rcases r3 with ⟨h1, h2⟩ | ⟨h1, h2⟩ <;> omega
  refine mm_by k_LB_abstracted w_LB_abstracted rfl rfl ?_
  refine mg_run 2 rfl ?_
  refine mg_callV [.int (nI a)] rfl rfl rfl h.1.1 rfl rfl rfl rfl (c_LB_requireSlot ha ?_)
  refine mg_run 2 rfl ?_
  refine mg_callV [.int (nI a)] rfl rfl rfl h.1.1 rfl rfl rfl rfl (c_LB_requireTerm h ha hn ?_)
  refine mg_run 1 rfl ?_
  refine mg_get rfl rfl h.1.1 rfl ?_
  refine mg_run 1 rfl ?_
  refine mg_get rfl rfl h.1.1 rfl ?_
  refine mg_run 1 rfl ?_
  refine mg_aldN rfl h.1.2 (by decide) ha (lb_f12 ha) ?_
  refine mg_callV [.ref (2 + 2 * a)] rfl rfl rfl hA.1 rfl rfl rfl rfl (c_Ab_run (bf := (r2, g2)) P hP1 hP2 hP3 hPr hA hT hB hga hap (fun M1 a1 b1 en1 us1 ga1 ra1 bf1 q0 q1 q2 q3 q4 => ?_) (fun M1 a1 b1 en1 us1 ga1 ra1 bf1 q0 q1 q2 q3 q4 => ?_))
  · have hon1 : mm_on (mm_rg 47 53) M M1 := q4
    have h1 := h.abs ⟨a1, b1, en1, us1, _, _, _, _, q1, q2, q3⟩ hon1
    obtain ⟨ga2, hga2⟩ := h1.2.1 a ha
    obtain ⟨fa, t1, -⟩ := id hga2
    have hap1 : te_ap (2 + 2 * a) a1 := by
      obtain ⟨-, -, -, r3⟩ := q1
      unfold te_ap te_P
      rcases r3 with ⟨h1, h2⟩ | ⟨h1, h2⟩ <;> omega
    refine mg_zne rfl (by decide) (fun _ => ?_) (fun h => absurd h (by decide))
    refine mg_run 1 rfl ?_
    refine mg_get rfl rfl h1.1.1 rfl ?_
    refine mg_run 1 rfl ?_
    refine mg_aldN rfl h1.1.2 (by decide) ha (lb_f12 ha) ?_
    refine mg_run 1 rfl ?_
    refine mg_get rfl rfl h1.1.1 rfl ?_
    refine mg_callV [] rfl rfl rfl q1.1 rfl rfl rfl rfl (c_Ab_result q1 ?_)
    refine mg_callV [.ref a1] rfl rfl rfl t1 rfl rfl rfl rfl (c_Te_become hga2 q2 hap1 (fun M2 p1 p2 => ?_))
    have h2 := h1.slot ha p1 p2
    obtain ⟨fa2, t2, -⟩ := id p1
    refine mg_run 1 rfl ?_
    refine mg_get rfl rfl h2.1.1 rfl ?_
    refine mg_run 1 rfl ?_
    refine mg_aldN rfl h2.1.2 (by decide) ha (lb_f12 ha) ?_
    refine mg_callV [] rfl rfl rfl t2 rfl rfl rfl rfl (c_Te_length p1 ?_)
    refine mg_ir rfl rfl rfl rfl ?_
    exact hQ ra1 q0 M2 h2 ((hon1.bn (by decide)).tr (p2.te.bn (by omega)))
  · have hon1 : mm_on (mm_rg 47 53) M M1 := q4
    refine mg_zne rfl (by decide) (fun h => absurd h (by decide)) (fun _ => ?_)
    exact mg_throw mm_xs11 rfl rfl rfl rfl rfl rfl rfl hl (hN q0 M1 (h.abs ⟨a1, b1, en1, us1, _, _, _, _, q1, q2, q3⟩ hon1) (hon1.bn (by decide)))
theorem c_LB_abstractedX (hl : l.stackTraces = false) (h : lb_is M sl tp pl o) {x : Int32} (hx : no_slot x) (hQ : Q (.inr 0) M) : mm_Ct l sc Y_LB_abstracted M [.ref 0, .int x] Q := by
  refine mm_by k_LB_abstracted w_LB_abstracted rfl rfl ?_
  refine mg_run 2 rfl ?_
  exact mg_callV [.int x] rfl rfl rfl h.1.1 rfl rfl rfl rfl (c_LB_requireSlotX hl hx hQ)
theorem c_LB_abstractedE (hl : l.stackTraces = false) (h : lb_is M sl tp pl o) {a : Nat} (ha : a < 12) (hn : (sl a).length = 0) (hQ : Q (.inr 1) M) : mm_Ct l sc Y_LB_abstracted M [.ref 0, .int (nI a)] Q := by
  refine mm_by k_LB_abstracted w_LB_abstracted rfl rfl ?_
  refine mg_run 2 rfl ?_
  refine mg_callV [.int (nI a)] rfl rfl rfl h.1.1 rfl rfl rfl rfl (c_LB_requireSlot ha ?_)
  refine mg_run 2 rfl ?_
  exact mg_callV [.int (nI a)] rfl rfl rfl h.1.1 rfl rfl rfl rfl (c_LB_requireTermX hl h ha hn hQ)
end
end
section
/-! The bench: numeral, bind, feed. -/
section
variable {l : Launch} {sc : Nat × (Nat → Int32)} {M : mm_M} {Q : mm_O → mm_M → Prop} {sl : Nat → List Nat} {tp : List Nat} {pl : Int32} {o : Nat}
theorem lp_LB_timesApplied {r : List Nat} {t g tm : Nat} (hb : ∀ i, r.getD i 0 < 10000) (hT : te_is M t r g) (htm : tm ≤ 1000) : ∀ m i, tm - i = m → i ≤ tm → Q (.inl (some (.int (te_fv (te_ta r m i))))) M → mm_Go l sc Y_LB_timesApplied 0 0 M [some (.ref t), some (.int (nI tm)), some (.int (nI i))] [] 9 Q := by
  have h4 := hT.len
  obtain ⟨f, t1, -⟩ := id hT
  intro m
  induction m with
  | zero =>
    intro i hm hi hQ
    have e : tm = i := by omega
    subst e
    have hb0 := hb (2 * tm)
    refine mg_run 2 rfl ?_
    refine mg_ge rfl (by omega) (by omega) (fun _ => ?_) (fun h => absurd h (by omega))
    refine mg_run 3 rfl ?_
    refine mg_mulN rfl ?_
    refine mg_callV [.int (nI (2 * tm))] rfl rfl rfl t1 rfl rfl rfl rfl (c_Te_at hT (by omega) ?_)
    refine mg_run 1 rfl ?_
    refine mg_ne rfl (by omega) (by decide) (fun h => ?_) (fun h => ?_)
    · refine mg_run 1 rfl ?_
      refine mg_ir rfl rfl rfl rfl ?_
      rw [te_ta, if_neg h] at hQ
      exact hQ
    · refine mg_run 2 rfl ?_
      refine mg_ir rfl rfl rfl rfl ?_
      rw [te_ta, if_pos h] at hQ
      exact hQ
  | succ m ih =>
    intro i hm hi hQ
    have hb0 := hb (2 * i)
    have hb1 := hb (2 * i + 1)
    refine mg_run 2 rfl ?_
    refine mg_ge rfl (by omega) (by omega) (fun h => absurd h (by omega)) (fun _ => ?_)
    refine mg_run 3 rfl ?_
    refine mg_mulN rfl ?_
    refine mg_callV [.int (nI (2 * i))] rfl rfl rfl t1 rfl rfl rfl rfl (c_Te_at hT (by omega) ?_)
    refine mg_run 1 rfl ?_
    refine mg_ne rfl (by omega) (by decide) (fun h => ?_) (fun h => ?_)
    · refine mg_run 1 rfl ?_
      refine mg_ir rfl rfl rfl rfl ?_
      rw [te_ta, if_neg (fun h9 => h h9.1)] at hQ
      exact hQ
    · refine mg_run 3 rfl ?_
      refine mg_mulN rfl ?_
      refine mg_run 1 rfl ?_
      refine mg_addN rfl ?_
      refine mg_callV [.int (nI (2 * i + 1))] rfl rfl rfl t1 rfl rfl rfl rfl (c_Te_at hT (by omega) ?_)
      refine mg_run 1 rfl ?_
      refine mg_eq rfl (by omega) (by decide) (fun h7 => ?_) (fun h7 => ?_)
      · refine mg_incN rfl rfl rfl ?_
        refine mg_run 1 rfl ?_
        rw [te_ta, if_pos ⟨h, h7⟩] at hQ
        exact ih (i + 1) (by omega) (by omega) hQ
      · refine mg_run 1 rfl ?_
        refine mg_ir rfl rfl rfl rfl ?_
        rw [te_ta, if_neg (fun h9 => h7 h9.2)] at hQ
        exact hQ
/-- what a row counts as -/
def te_nu (r : List Nat) : Int32 := te_fv (te_ta r (r.length / 2) 0)
theorem c_LB_timesApplied {r : List Nat} {t g : Nat} (hb : ∀ i, r.getD i 0 < 10000) (hT : te_is M t r g) (hQ : Q (.inl (some (.int (te_nu r)))) M) : mm_Ct l sc Y_LB_timesApplied M [.ref t] Q := by
  have h4 := hT.len
  obtain ⟨f, t1, -⟩ := id hT
  refine mm_by k_LB_timesApplied w_LB_timesApplied rfl rfl ?_
  refine mg_run 1 rfl ?_
  refine mg_callV [] rfl rfl rfl t1 rfl rfl rfl rfl (c_Te_length hT ?_)
  refine mg_run 1 rfl ?_
  refine mg_idiv rfl (by decide) ?_
  rw [pk_div (by omega) (by decide) (by decide)]
  refine mg_run 3 rfl ?_
  exact lp_LB_timesApplied hb hT (by omega) _ 0 rfl (Nat.zero_le _) hQ
theorem te_is_wr {t : Nat} {b : List Nat × Nat} {r : List Nat} (h : te_is M t b.1 b.2) (e : b = (r, 0)) : te_is M t r 0 := by
  subst e
  exact h
/-- the row of a numeral's question -/
def te_nq (r : List Nat) : List Nat := [64] ++ [64] ++ r ++ [1] ++ [2]
def te_nr (N : Nat) (r : List Nat) : Int32 := if (te_rn N (te_nq r)).2.2 = 1 then te_nu (te_rn N (te_nq r)).1 else -2
theorem te_rn_o : ∀ (N : Nat) (r : List Nat), (te_rn N r).2.2 < 4 := by
  intro N
  induction N with
  | zero =>
    intro r
    rw [te_rn]
    show (if _ then _ else _) < 4
    split <;> omega
  | succ N ih =>
    intro r
    rw [te_rn]
    split
    · show 1 < 4
      omega
    · split
      · exact ih _
      · show 3 < 4
        omega
theorem te_rn_P (P : List Nat → Prop) (hP2 : ∀ r i, P r → te_fr r r.length 0 = some i → (te_step r i).length ≤ 2000 → P (te_step r i)) : ∀ (N : Nat) (r : List Nat), P r → P (te_rn N r).1 := by
  intro N
  induction N with
  | zero => intro r h; exact h
  | succ N ih =>
    intro r h
    rw [te_rn]
    split
    · exact h
    · next i hi =>
      split
      · next hl => exact ih _ (hP2 r i h hi hl)
      · exact h
theorem c_LB_numeral (hl : l.stackTraces = false) (P : List Nat → Prop) (hP1 : ∀ r, P r → ∀ i, r.getD i 0 < 10000) (hP2 : ∀ r i, P r → te_fr r r.length 0 = some i → (te_step r i).length ≤ 2000 → P (te_step r i)) (h : lb_is M sl tp pl o) {a N : Nat} (ha : a < 12) (hN1 : 1 ≤ N) (hN2 : N ≤ 400) (hn : 0 < (sl a).length) (hPr : P (te_nq (sl a)))
    (hQ : (te_nq (sl a)).length ≤ 2000 → ∀ M', lb_is M' sl tp pl (te_rn N (te_nq (sl a))).2.2 → mm_on mm_bn M M' → Q (.inl (some (.int (te_nr N (sl a))))) M')
    (hN : 2000 < (te_nq (sl a)).length → ∀ M', lb_is M' sl tp pl o → mm_on mm_bn M M' → Q (.inr 1) M') : mm_Ct l sc Y_LB_numeral M [.ref 0, .int (nI a), .int (nI N)] Q := by
  obtain ⟨ga, hga⟩ := h.2.1 a ha
  obtain ⟨rw0, gw0, hw0⟩ := h.2.2.1
  obtain ⟨fw, w1, -⟩ := id hw0
  refine mm_by k_LB_numeral w_LB_numeral rfl rfl ?_
  refine mg_run 2 rfl ?_
  refine mg_callV [.int (nI a)] rfl rfl rfl h.1.1 rfl rfl rfl rfl (c_LB_requireSlot ha ?_)
  refine mg_run 2 rfl ?_
  refine mg_callV [.int (nI N)] rfl rfl rfl h.1.1 rfl rfl rfl rfl (c_LB_requireSteps hN1 hN2 ?_)
  refine mg_run 2 rfl ?_
  refine mg_callV [.int (nI a)] rfl rfl rfl h.1.1 rfl rfl rfl rfl (c_LB_requireTerm h ha hn ?_)
  refine mg_run 1 rfl ?_
  refine mg_get rfl rfl h.1.1 rfl ?_
  refine mg_callV [] rfl rfl rfl w1 rfl rfl rfl rfl (c_Te_clear hw0 (fun M1 p1 p2 => ?_))
  have h1 := h.work ⟨_, _, p1⟩ p2.te
  obtain ⟨fw1, w2, -⟩ := id p1
  refine mg_run 1 rfl ?_
  refine mg_get rfl rfl h1.1.1 rfl ?_
  refine mg_run 1 rfl ?_
  refine mg_callV [.int (nI 64)] rfl rfl rfl w2 rfl rfl rfl rfl (c_Te_add p1 (fun M2 q1 q2 => ?_))
  have h2 := h1.work ⟨_, _, q1⟩ q2.te
  obtain ⟨fw2, w3, -⟩ := id q1
  refine mg_run 1 rfl ?_
  refine mg_get rfl rfl h2.1.1 rfl ?_
  refine mg_run 1 rfl ?_
  refine mg_callV [.int (nI 64)] rfl rfl rfl w3 rfl rfl rfl rfl (c_Te_add q1 (fun M3 v1 v2 => ?_))
  have h3 := h2.work ⟨_, _, v1⟩ v2.te
  have u3 : wr (te_add (te_add ([], 0) 64) 64) ([64] ++ [64]) := (wr0.add 64).add 64
  obtain ⟨fw3, w4, -⟩ := id v1
  have A3 := ((hga.keep p2 (sl_w ha).1.1 (sl_w ha).1.2).keep q2 (sl_w ha).1.1 (sl_w ha).1.2).keep v2 (sl_w ha).1.1 (sl_w ha).1.2
  refine mg_run 1 rfl ?_
  refine mg_get rfl rfl h3.1.1 rfl ?_
  refine mg_run 1 rfl ?_
  refine mg_get rfl rfl h3.1.1 rfl ?_
  refine mg_run 1 rfl ?_
  refine mg_aldN rfl h3.1.2 (by decide) ha (lb_f12 ha) ?_
  refine mg_callV [.ref (2 + 2 * a)] rfl rfl rfl w4 rfl rfl rfl rfl (c_Te_addAll v1 A3 (sl_w ha).1 (fun M4 x1 x2 => ?_))
  have h4 := h3.work ⟨_, _, x1⟩ x2.te
  have u4 := u3.adds (sl a)
  obtain ⟨fw4, w5, -⟩ := id x1
  refine mg_run 1 rfl ?_
  refine mg_get rfl rfl h4.1.1 rfl ?_
  refine mg_run 1 rfl ?_
  refine mg_callV [.int (nI 1)] rfl rfl rfl w5 rfl rfl rfl rfl (c_Te_add x1 (fun M5 y1 y2 => ?_))
  have h5 := h4.work ⟨_, _, y1⟩ y2.te
  have u5 := u4.add 1
  obtain ⟨fw5, w6, -⟩ := id y1
  refine mg_run 1 rfl ?_
  refine mg_get rfl rfl h5.1.1 rfl ?_
  refine mg_run 1 rfl ?_
  refine mg_callV [.int (nI 2)] rfl rfl rfl w6 rfl rfl rfl rfl (c_Te_add y1 (fun M6 z1 z2 => ?_))
  have h6 := h5.work ⟨_, _, z1⟩ z2.te
  have u6 : wr _ (te_nq (sl a)) := u5.add 2
  obtain ⟨fw6, w7, -, -, -, gle⟩ := id z1
  have hon : mm_on mm_bn M M6 := (((((p2.te.bn (by decide)).tr (q2.te.bn (by decide))).tr (v2.te.bn (by decide))).tr (x2.te.bn (by decide))).tr (y2.te.bn (by decide))).tr (z2.te.bn (by decide))
  refine mg_run 1 rfl ?_
  refine mg_get rfl rfl h6.1.1 rfl ?_
  refine mg_callV [] rfl rfl rfl w7 rfl rfl rfl rfl (c_Te_isTooGreat z1 ?_)
  refine mg_zeq rfl (by omega) (fun h0 => ?_) (fun h0 => ?_)
  · obtain ⟨e1, e2⟩ := u6.ok h0
    have z1' : te_is M6 26 (te_nq (sl a)) 0 := te_is_wr z1 e2
    obtain ⟨ra, rb, dep, r1, g1, r2, g2, hR, hA, hB⟩ := h6.2.2.2.2.2.2.2.1
    have hap : te_ap ra 26 := by
      obtain ⟨-, -, r3⟩ := hR
      unfold te_ap te_P
      rcases r3 with ⟨h1, h2⟩ | ⟨h1, h2⟩ <;> omega
    refine mg_run 1 rfl ?_
    refine mg_get rfl rfl h6.1.1 rfl ?_
    refine mg_run 1 rfl ?_
    refine mg_get rfl rfl h6.1.1 rfl ?_
    refine mg_run 1 rfl ?_
    refine mg_callV [.ref 26, .int (nI N)] rfl rfl rfl hR.1 rfl rfl rfl rfl (c_Re_run (bf := (r2, g2)) P hP1 hP2 (by omega) hPr hR hA hB z1' hap (fun M7 a1 b1 dep1 ga1 bf1 j1 j2 j3 j4 => ?_))
    have hon1 : mm_on (mm_rg 39 46) M6 M7 := j4
    have h7 := h6.red ⟨a1, b1, dep1, _, _, _, _, j1, j2, j3⟩ hon1
    have hon2 := hon.tr (hon1.bn (by decide))
    have ho := te_rn_o N (te_nq (sl a))
    refine mg_run 2 rfl ?_
    refine mg_get rfl rfl h7.1.1 rfl ?_
    refine mg_callV [] rfl rfl rfl j1.1 rfl rfl rfl rfl (c_Re_outcome j1 ?_)
    refine mg_run 1 rfl ?_
    have hQ := hQ e1 M7 h7 hon2
    refine mg_ne rfl (by omega) (by decide) (fun h9 => ?_) (fun h9 => ?_)
    · refine mg_run 1 rfl ?_
      refine mg_ir rfl rfl rfl rfl ?_
      rw [te_nr, if_neg h9] at hQ
      exact hQ
    · refine mg_run 1 rfl ?_
      refine mg_get rfl rfl h7.1.1 rfl ?_
      refine mg_callV [] rfl rfl rfl j1.1 rfl rfl rfl rfl (c_Re_result j1 ?_)
      rw [te_nr, if_pos h9] at hQ
      refine mg_callS [.ref a1] rfl rfl rfl rfl rfl rfl (c_LB_timesApplied (hP1 _ (te_rn_P P hP2 N _ hPr)) j2 ?_)
      refine mg_run 1 rfl ?_
      exact mg_ir rfl rfl rfl rfl hQ
  · exact mg_throw mm_xs12 rfl rfl rfl rfl rfl rfl rfl hl (hN (u6.not h0) M6 h6 hon)
theorem c_LB_numeralX (hl : l.stackTraces = false) (h : lb_is M sl tp pl o) {x y : Int32} (hx : no_slot x ∨ no_steps y) (hQ : Q (.inr 0) M) : mm_Ct l sc Y_LB_numeral M [.ref 0, .int x, .int y] Q := by
  refine mm_by k_LB_numeral w_LB_numeral rfl rfl ?_
  refine mg_run 2 rfl ?_
  rcases slot_or x with h1 | ⟨a, ha, rfl⟩
  · exact mg_callV [.int x] rfl rfl rfl h.1.1 rfl rfl rfl rfl (c_LB_requireSlotX hl h1 hQ)
  · refine mg_callV [.int (nI a)] rfl rfl rfl h.1.1 rfl rfl rfl rfl (c_LB_requireSlot ha ?_)
    refine mg_run 2 rfl ?_
    have h2 : no_steps y := hx.elim (fun h9 => absurd h9 (no_nI ha)) id
    exact mg_callV [.int y] rfl rfl rfl h.1.1 rfl rfl rfl rfl (c_LB_requireStepsX hl h2 hQ)
theorem c_LB_numeralE (hl : l.stackTraces = false) (h : lb_is M sl tp pl o) {a N : Nat} (ha : a < 12) (hN1 : 1 ≤ N) (hN2 : N ≤ 400) (hn : (sl a).length = 0) (hQ : Q (.inr 1) M) : mm_Ct l sc Y_LB_numeral M [.ref 0, .int (nI a), .int (nI N)] Q := by
  refine mm_by k_LB_numeral w_LB_numeral rfl rfl ?_
  refine mg_run 2 rfl ?_
  refine mg_callV [.int (nI a)] rfl rfl rfl h.1.1 rfl rfl rfl rfl (c_LB_requireSlot ha ?_)
  refine mg_run 2 rfl ?_
  refine mg_callV [.int (nI N)] rfl rfl rfl h.1.1 rfl rfl rfl rfl (c_LB_requireSteps hN1 hN2 ?_)
  refine mg_run 2 rfl ?_
  exact mg_callV [.int (nI a)] rfl rfl rfl h.1.1 rfl rfl rfl rfl (c_LB_requireTermX hl h ha hn hQ)
theorem lb_top.on26 {M' : mm_M} (h : lb_top M pl) (hon : mm_on (te_P 26) M M') : lb_top M' pl := h.keep hon.te (by decide)
theorem lb_top.on28 {M' : mm_M} (h : lb_top M pl) (hon : mm_on (te_P 28) M M') : lb_top M' pl := h.keep hon.te (by decide)
theorem de_is.on26 {M' : mm_M} {dep : Nat → Int32} (h : de_is M 36 dep) (hon : mm_on (te_P 26) M M') : de_is M' 36 dep := h.keep hon.te (mm_rg_n (by omega)) (mm_rg_n (by omega)) (mm_rg_n (by omega))
theorem mg_andN {Y : mm_Y} {k2 n k : Nat} {L : mm_L} {S : List Value} {pc nx aux : Nat} {v x m : Int32} (hq : mm_at (mm_tab Y) pc = some (.iand, nx, aux, v)) (hm : m.toBitVec.toNat = 2 ^ k - 1) (kk : mm_Go l sc Y k2 n M L (.int (nI (x.toBitVec.toNat % 2 ^ k)) :: S) nx Q) : mm_Go l sc Y k2 n M L (.int m :: .int x :: S) pc Q := by
  refine mg_x (M' := M) (L' := L) (S' := .int (x &&& m) :: S) hq rfl ?_
  rw [pk_and x k hm]
  exact kk
theorem lp_LB_bind {r : List Nat} {t g v : Nat} {x1 : Int32} {dep : Nat → Int32} (hb : ∀ i, r.getD i 0 < 10000) (hv : v < 2 ^ 31) (hap : te_ap 26 t) (hD : ∀ j, j < r.length → dep j = nI (te_D r 0 j) ∧ te_D r 0 j < 10000) : ∀ m i (x5 : Option Value) (M : mm_M) (bf : List Nat × Nat) (out : List Nat), lb_top M pl → te_is M t r g → de_is M 36 dep → te_is M 26 bf.1 bf.2 → wr bf out → r.length - i = m → i ≤ r.length →
    (∀ M' bf' i' x5', te_is M' 26 bf'.1 bf'.2 → wr bf' (out ++ te_pc (te_bd r v) i m) → mm_on (te_P 26) M M' → mm_Go l sc Y_LB_bind 3 18 M' [some (.ref 0), some (.int x1), some (.int (nI v)), some (.ref t), some (.int (nI i')), x5'] [] 105 Q) →
    mm_Go l sc Y_LB_bind 3 18 M [some (.ref 0), some (.int x1), some (.int (nI v)), some (.ref t), some (.int (nI i)), x5] [] 51 Q := by
  intro m
  induction m with
  | zero =>
    intro i x5 M bf out hL hT hE hB hw hm hi hQ
    have h4 := hT.len
    obtain ⟨f, t1, -⟩ := id hT
    refine mg_run 2 rfl ?_
    refine mg_callV [] rfl rfl rfl t1 rfl rfl rfl rfl (c_Te_length hT ?_)
    refine mg_ge rfl (by omega) (by omega) (fun h => ?_) (fun h => absurd h (by omega))
    exact hQ M bf i x5 hB (by rw [te_pc, List.append_nil]; exact hw) (mm_on.rf _ M)
  | succ m ih =>
    intro i x5 M bf out hL hT hE hB hw hm hi hQ
    have h4 := hT.len
    obtain ⟨f, t1, -⟩ := id hT
    obtain ⟨fb, b1, -⟩ := id hB
    obtain ⟨w, d1, d2, d3⟩ := id hE
    obtain ⟨hd1, hd2⟩ := hD i (by omega)
    have hbi := hb i
    refine mg_run 2 rfl ?_
    refine mg_callV [] rfl rfl rfl t1 rfl rfl rfl rfl (c_Te_length hT ?_)
    refine mg_ge rfl (by omega) (by omega) (fun h => absurd h (by omega)) (fun h => ?_)
    refine mg_run 2 rfl ?_
    refine mg_callV [.int (nI i)] rfl rfl rfl t1 rfl rfl rfl rfl (c_Te_at hT (by omega) ?_)
    refine mg_run 2 rfl ?_
    refine mg_get rfl rfl hL.1 rfl ?_
    refine mg_run 2 rfl ?_
    refine mg_ne rfl (by omega) (by omega) (fun h7 => ?_) (fun h7 => ?_)
    · refine mg_run 1 rfl ?_
      refine mg_callV [.int (nI (r.getD i 0))] rfl rfl rfl b1 rfl rfl rfl rfl (c_Te_add hB (fun M1 p1 p2 => ?_))
      refine mg_incN rfl rfl rfl ?_
      refine mg_run 1 rfl ?_
      refine ih (i + 1) _ M1 _ (out ++ [r.getD i 0]) (hL.on26 p2) (hT.keep p2 hap.1 hap.2) (hE.on26 p2) p1 (hw.add _) (by omega) (by omega) (fun M' bf' i' x5' q1 q2 q3 => hQ M' bf' i' x5' q1 ?_ (p2.tr q3))
      rw [te_pc, te_bd, if_neg h7, ← List.append_assoc]
      exact q2
    · refine mg_run 2 rfl ?_
      refine mg_get rfl rfl hL.1 rfl ?_
      refine mg_run 1 rfl ?_
      refine mg_callV [.int (nI i)] rfl rfl rfl d1 rfl rfl rfl rfl (c_De_at hE (by omega) ?_)
      rw [hd1]
      refine mg_addN rfl ?_
      refine mg_run 1 rfl ?_
      refine mg_callV [.int (nI (1000 + te_D r 0 i))] rfl rfl rfl b1 rfl rfl rfl rfl (c_Te_add hB (fun M1 p1 p2 => ?_))
      refine mg_incN rfl rfl rfl ?_
      refine mg_run 1 rfl ?_
      refine ih (i + 1) _ M1 _ (out ++ [1000 + te_D r 0 i]) (hL.on26 p2) (hT.keep p2 hap.1 hap.2) (hE.on26 p2) p1 (hw.add _) (by omega) (by omega) (fun M' bf' i' x5' q1 q2 q3 => hQ M' bf' i' x5' q1 ?_ (p2.tr q3))
      rw [te_pc, te_bd, if_pos h7, ← List.append_assoc]
      exact q2
/-- the row of a binding -/
def te_bi (r : List Nat) (v : Nat) : List Nat := [92] ++ te_pc (te_bd r v) 0 r.length
theorem c_LB_bind (hl : l.stackTraces = false) (h : lb_is M sl tp pl o) (hb : ∀ s i, (sl s).getD i 0 < 10000) {a v : Nat} (ha : a < 12) (hv : v < 2 ^ 31) (hlet : is_let (nI v)) (hn : 0 < (sl a).length) (hcl : te_sc (sl a) 1 = (sl a).length)
    (hQ : (te_bi (sl a) v).length ≤ 2000 → ∀ M', lb_is M' (sl_up sl a (te_bi (sl a) v)) tp pl o → mm_on mm_bn M M' → Q (.inl (some (.int (nI (te_bi (sl a) v).length)))) M')
    (hN : 2000 < (te_bi (sl a) v).length → ∀ M', lb_is M' sl tp pl o → mm_on mm_bn M M' → Q (.inr 1) M') : mm_Ct l sc Y_LB_bind M [.ref 0, .int (nI a), .int (nI v)] Q := by
  obtain ⟨ga, hga⟩ := h.2.1 a ha
  have hlen := hga.len
  obtain ⟨dep, hde⟩ := h.2.2.2.2.2.2.1
  obtain ⟨wd, d1, d2, d3⟩ := id hde
  have hb31 : ∀ i, (sl a).getD i 0 < 2 ^ 31 := fun i => Nat.lt_trans (hb a i) (by decide)
  refine mm_by k_LB_bind w_LB_bind rfl rfl ?_
  refine mg_run 2 rfl ?_
  refine mg_callV [.int (nI a)] rfl rfl rfl h.1.1 rfl rfl rfl rfl (c_LB_requireSlot ha ?_)
  refine mg_run 2 rfl ?_
  refine mg_callV [.int (nI v)] rfl rfl rfl h.1.1 rfl rfl rfl rfl (c_LB_requireLetter hlet ?_)
  refine mg_run 2 rfl ?_
  refine mg_callV [.int (nI a)] rfl rfl rfl h.1.1 rfl rfl rfl rfl (c_LB_requireTerm h ha hn ?_)
  refine mg_run 1 rfl ?_
  refine mg_get rfl rfl h.1.1 rfl ?_
  refine mg_run 1 rfl ?_
  refine mg_aldN rfl h.1.2 (by decide) ha (lb_f12 ha) ?_
  refine mg_run 2 rfl ?_
  refine mg_get rfl rfl h.1.1 rfl ?_
  refine mg_run 2 rfl ?_
  refine mg_callV [.ref (2 + 2 * a), .int (nI 0)] rfl rfl rfl d1 rfl rfl rfl rfl (c_De_measure hde hga (by unfold te_P; omega) (by unfold te_P; omega) (by unfold te_P; omega) hb31 (Nat.zero_le _) (fun M1 dep1 p1 p2 p3 => ?_))
  have hon1 : mm_on (mm_rg 36 38) M M1 := p3.wk (fun i hi => by unfold de_P at hi; unfold mm_rg; omega)
  have h1 := h.dep ⟨_, p1⟩ hon1
  have A1 := hga.keep hon1 (mm_rg_n (by omega)) (mm_rg_n (by omega))
  obtain ⟨rw0, gw0, hw0⟩ := h1.2.2.1
  obtain ⟨fw, w1, -⟩ := id hw0
  refine mg_run 2 rfl ?_
  refine mg_get rfl rfl h1.1.1 rfl ?_
  refine mg_callV [] rfl rfl rfl w1 rfl rfl rfl rfl (c_Te_clear hw0 (fun M2 q1 q2 => ?_))
  have h2 := h1.work ⟨_, _, q1⟩ q2.te
  obtain ⟨fw2, w2, -⟩ := id q1
  refine mg_run 1 rfl ?_
  refine mg_get rfl rfl h2.1.1 rfl ?_
  refine mg_run 1 rfl ?_
  refine mg_callV [.int (nI 92)] rfl rfl rfl w2 rfl rfl rfl rfl (c_Te_add q1 (fun M3 v1 v2 => ?_))
  have h3 := h2.work ⟨_, _, v1⟩ v2.te
  have A3 := (A1.keep q2 (sl_w ha).1.1 (sl_w ha).1.2).keep v2 (sl_w ha).1.1 (sl_w ha).1.2
  have hml : (te_ms ((sl a).drop 0) [0]).length = (sl a).length := by rw [te_ms_len]; exact hcl
  refine mg_run 2 rfl ?_
  refine lp_LB_bind (hb a) hv (sl_w ha).1 (fun j hj => ⟨?_, te_D_lt hlen _ _⟩) _ 0 none M3 _ [92] h3.1 A3 ((p1.on26 q2).on26 v2) v1 (wr0.add 92) rfl (Nat.zero_le _) (fun M4 bf i' x5' x1 u4 x2 => ?_)
  · have h9 := p2.1 j (by rw [hml]; exact hj)
    rw [Nat.zero_add] at h9
    exact h9
  have h4 := h3.work ⟨_, _, x1⟩ x2.te
  obtain ⟨fw4, w5, -, -, -, gle⟩ := id x1
  have hon : mm_on mm_bn M M4 := (((hon1.bn (by decide)).tr (q2.te.bn (by decide))).tr (v2.te.bn (by decide))).tr (x2.te.bn (by decide))
  refine mg_run 1 rfl ?_
  refine mg_get rfl rfl h4.1.1 rfl ?_
  refine mg_callV [] rfl rfl rfl w5 rfl rfl rfl rfl (c_Te_isTooGreat x1 ?_)
  refine mg_zeq rfl (by omega) (fun h0 => ?_) (fun h0 => ?_)
  · obtain ⟨e1, e2⟩ := u4.ok h0
    have x1' := te_is_wr x1 e2
    have A4 := A3.keep x2 (sl_w ha).1.1 (sl_w ha).1.2
    obtain ⟨fc, c1, -⟩ := id A4
    obtain ⟨fw5, w6, -⟩ := id x1'
    refine mg_run 2 rfl ?_
    refine mg_get rfl rfl h4.1.1 rfl ?_
    refine mg_callV [.ref 26] rfl rfl rfl c1 rfl rfl rfl rfl (c_Te_become A4 x1' (sl_w ha).2 (fun M5 y1 y2 => ?_))
    have h5 := h4.slot ha y1 y2
    have W5 := x1'.keep y2 (sl_w ha).2.1 (sl_w ha).2.2
    obtain ⟨fw6, w7, -⟩ := id W5
    refine mg_run 1 rfl ?_
    refine mg_get rfl rfl h5.1.1 rfl ?_
    refine mg_callV [] rfl rfl rfl w7 rfl rfl rfl rfl (c_Te_length W5 ?_)
    refine mg_ir rfl rfl rfl rfl ?_
    exact hQ e1 M5 h5 (hon.tr (y2.te.bn (by omega)))
  · exact mg_throw mm_xs8 rfl rfl rfl rfl rfl rfl rfl hl (hN (u4.not h0) M4 h4 hon)
theorem c_LB_bindX (hl : l.stackTraces = false) (h : lb_is M sl tp pl o) {x y : Int32} (hx : no_slot x ∨ ¬ is_let y) (hQ : Q (.inr 0) M) : mm_Ct l sc Y_LB_bind M [.ref 0, .int x, .int y] Q := by
  refine mm_by k_LB_bind w_LB_bind rfl rfl ?_
  refine mg_run 2 rfl ?_
  rcases slot_or x with h1 | ⟨a, ha, rfl⟩
  · exact mg_callV [.int x] rfl rfl rfl h.1.1 rfl rfl rfl rfl (c_LB_requireSlotX hl h1 hQ)
  · refine mg_callV [.int (nI a)] rfl rfl rfl h.1.1 rfl rfl rfl rfl (c_LB_requireSlot ha ?_)
    refine mg_run 2 rfl ?_
    have h2 : ¬ is_let y := hx.elim (fun h9 => absurd h9 (no_nI ha)) id
    exact mg_callV [.int y] rfl rfl rfl h.1.1 rfl rfl rfl rfl (c_LB_requireLetterX hl h2 hQ)
theorem c_LB_bindE (hl : l.stackTraces = false) (h : lb_is M sl tp pl o) {a : Nat} {y : Int32} (ha : a < 12) (hlet : is_let y) (hn : (sl a).length = 0) (hQ : Q (.inr 1) M) : mm_Ct l sc Y_LB_bind M [.ref 0, .int (nI a), .int y] Q := by
  refine mm_by k_LB_bind w_LB_bind rfl rfl ?_
  refine mg_run 2 rfl ?_
  refine mg_callV [.int (nI a)] rfl rfl rfl h.1.1 rfl rfl rfl rfl (c_LB_requireSlot ha ?_)
  refine mg_run 2 rfl ?_
  refine mg_callV [.int y] rfl rfl rfl h.1.1 rfl rfl rfl rfl (c_LB_requireLetter hlet ?_)
  refine mg_run 2 rfl ?_
  exact mg_callV [.int (nI a)] rfl rfl rfl h.1.1 rfl rfl rfl rfl (c_LB_requireTermX hl h ha hn hQ)
/-- one byte of a word, the place counted from the low end -/
def fd_b (w : Int64) (i : Nat) : Nat := ((w.toUInt64 >>> ((nI (8 * i)).toInt64.toUInt64 &&& Int64.toUInt64 63)).toInt64.toInt32).toBitVec.toNat % 2 ^ 8
def fd_bs (w : Int64) : Nat → List Nat
  | 0 => []
  | n + 1 => fd_b w n :: fd_bs w n
theorem fd_len (w : Int64) : ∀ n, (fd_bs w n).length = n := by
  intro n
  induction n with
  | zero => rfl
  | succ n ih => rw [fd_bs, List.length_cons, ih]
theorem lp_LB_feed {w : Int64} {x3 : Int32} : ∀ m (M : mm_M) (tp : List Nat), m ≤ 8 → lb_top M pl → ta_is M 28 tp → tp.length + m ≤ 400 →
    (∀ M', ta_is M' 28 (tp ++ fd_bs w m) → mm_on (te_P 28) M M' → Q (.inl (some (.int (nI (tp ++ fd_bs w m).length)))) M') →
    mm_Go l sc Y_LB_feed 0 0 M [some (.ref 0), some (.long w), none, some (.int x3), some (.int (nI m + -1))] [] 51 Q := by
  intro m
  induction m with
  | zero =>
    intro M tp hm hL hT hlen hQ
    obtain ⟨f, t1, -⟩ := id hT
    have e : nI 0 + -1 = (-1 : Int32) := by decide
    rw [e]
    refine mg_run 1 rfl ?_
    refine mg_zltM rfl ?_
    refine mg_run 1 rfl ?_
    refine mg_get rfl rfl hL.1 rfl ?_
    refine mg_callV [] rfl rfl rfl t1 rfl rfl rfl rfl (c_Ta_length hT ?_)
    refine mg_ir rfl rfl rfl rfl ?_
    have h9 := hQ M (by rw [fd_bs, List.append_nil]; exact hT) (mm_on.rf _ M)
    rw [fd_bs, List.append_nil] at h9
    exact h9
  | succ m ih =>
    intro M tp hm hL hT hlen hQ
    obtain ⟨f, t1, -⟩ := id hT
    rw [pk_m1]
    refine mg_run 1 rfl ?_
    refine mg_zlt rfl (by omega) ?_
    refine mg_run 1 rfl ?_
    refine mg_get rfl rfl hL.1 rfl ?_
    refine mg_run 3 rfl ?_
    refine mg_mulN rfl ?_
    refine mg_run 3 rfl ?_
    refine mg_andN (k := 8) rfl rfl ?_
    refine mg_callV [.int (nI (fd_b w m))] rfl rfl rfl t1 rfl rfl rfl rfl (c_Ta_add hT (by omega) (fun M1 p1 p2 => ?_))
    refine mg_run 2 rfl ?_
    refine ih M1 (tp ++ [fd_b w m]) (by omega) (hL.on28 p2) p1 (by rw [List.length_append]; show tp.length + 1 + m ≤ 400; omega) (fun M' q1 q2 => ?_)
    have e : tp ++ [fd_b w m] ++ fd_bs w m = tp ++ fd_bs w (m + 1) := by rw [List.append_assoc, fd_bs]; rfl
    rw [e] at q1 ⊢
    exact hQ M' q1 (p2.tr q2)
def no_n (x : Int32) : Prop := x.toInt < 1 ∨ 8 < x.toInt
theorem n_or (x : Int32) : no_n x ∨ ∃ s, 1 ≤ s ∧ s ≤ 8 ∧ x = nI s := by
  by_cases h : no_n x
  · exact Or.inl h
  · unfold no_n at h
    obtain ⟨j, h1, h2, h3⟩ := i32_nat (x := x) (by omega)
    exact Or.inr ⟨j, by omega, by omega, h2⟩
theorem c_LB_feed (hl : l.stackTraces = false) (h : lb_is M sl tp pl o) {w : Int64} {N : Nat} (hN1 : 1 ≤ N) (hN2 : N ≤ 8)
    (hQ : tp.length + N ≤ 400 → ∀ M', lb_is M' sl (tp ++ fd_bs w N) pl o → mm_on mm_bn M M' → Q (.inl (some (.int (nI (tp.length + N))))) M')
    (hN : 400 < tp.length + N → Q (.inr 1) M) : mm_Ct l sc Y_LB_feed M [.ref 0, .long w, .int (nI N)] Q := by
  have hT := h.2.2.2.1
  obtain ⟨f, t1, t2, t3, t4⟩ := id hT
  refine mm_by k_LB_feed w_LB_feed rfl rfl ?_
  refine mg_run 2 rfl ?_
  refine mg_lt rfl (by omega) (by decide) (fun h => absurd h (by omega)) (fun _ => ?_)
  refine mg_run 2 rfl ?_
  refine mg_le rfl (by omega) (by decide) (fun _ => ?_) (fun h => absurd h (by omega))
  refine mg_run 1 rfl ?_
  refine mg_get rfl rfl h.1.1 rfl ?_
  refine mg_callV [] rfl rfl rfl t1 rfl rfl rfl rfl (c_Ta_length hT ?_)
  refine mg_run 1 rfl ?_
  refine mg_addN rfl ?_
  refine mg_run 1 rfl ?_
  refine mg_le rfl (by omega) (by decide) (fun h9 => ?_) (fun h9 => ?_)
  · refine mg_run 2 rfl ?_
    refine mg_subN rfl hN1 ?_
    refine mg_run 1 rfl ?_
    have e : nI (N - 1) = nI N + -1 := by
      have e2 := pk_m1 (N - 1)
      rw [show N - 1 + 1 = N by omega] at e2
      exact e2.symm
    rw [e]
    refine lp_LB_feed N M tp hN2 h.1 hT h9 (fun M' q1 q2 => ?_)
    have e3 : (tp ++ fd_bs w N).length = tp.length + N := by rw [List.length_append, fd_len]
    rw [e3]
    exact hQ h9 M' (h.tape q1 q2.te) (q2.te.bn (by decide))
  · exact mg_throw mm_xs1 rfl rfl rfl rfl rfl rfl rfl hl (hN h9)
theorem c_LB_feedX (hl : l.stackTraces = false) {w : Int64} {x : Int32} (hx : no_n x) (hQ : Q (.inr 0) M) : mm_Ct l sc Y_LB_feed M [.ref 0, .long w, .int x] Q := by
  refine mm_by k_LB_feed w_LB_feed rfl rfl ?_
  refine mg_run 2 rfl ?_
  refine mg_icmp rfl (fun h => ?_) (fun h => ?_)
  · exact mg_throw mm_xs0 rfl rfl rfl rfl rfl rfl rfl hl hQ
  · refine mg_run 2 rfl ?_
    refine mg_icmp rfl (fun h2 => ?_) (fun h2 => ?_)
    · exfalso
      have h3 : ¬ x.toInt < 1 := fun h9 => h ((i32_lt x (n := 1) (by decide)).mpr h9)
      have h4 := (i32_le x (n := 8) (by decide)).mp h2
      unfold no_n at hx
      omega
    · exact mg_throw mm_xs0 rfl rfl rfl rfl rfl rfl rfl hl hQ
end
end
section
/-! The grammar: where a text is wrong, and how many atoms each of its terms has. -/
def nup (am : Nat → Nat) (k v : Nat) : Nat → Nat := fun j => if j = k then v else am j
theorem nup_upd {f : Nat → Int32} {am : Nat → Nat} (h : ∀ j, j < 401 → f j = nI (am j)) (k v : Nat) : ∀ j, j < 401 → upd f k (nI v) j = nI (nup am k v j) := by
  intro j hj
  unfold nup
  by_cases e : j = k
  · subst e
    rw [pk_us, if_pos rfl]
  · rw [pk_un e, if_neg e]
    exact h j hj
def gr_is (M : mm_M) (st : Nat) (ar : List Nat) (be : Nat) (am : Nat → Nat) : Prop := ∃ f w : Nat → Int32, gra_is M (nI ar.length) (nI be) (nI st) f w ∧ (∀ j, j < 401 → f j = nI (am j)) ∧ sk_in w ar ∧ ar.length ≤ 20 ∧ be < 401 ∧ (∀ b ∈ ar, b < 401)
abbrev gr_G : Type := Nat × List Nat × Nat × (Nat → Nat)
def gr_iG (M : mm_M) (G : gr_G) : Prop := gr_is M G.1 G.2.1 G.2.2.1 G.2.2.2
theorem gr_is.gra {M : mm_M} {st be : Nat} {ar : List Nat} {am : Nat → Nat} (h : gr_is M st ar be am) : lb_gra M := by
  obtain ⟨f, w, g, -⟩ := h
  exact ⟨_, _, _, _, _, g⟩
theorem gr_is.keep {M M' : mm_M} {lo hi : Nat} {st be : Nat} {ar : List Nat} {am : Nat → Nat} (h : gr_is M st ar be am) (hon : mm_on (mm_rg lo hi) M M') (hd : 32 < lo ∨ hi < 30) : gr_is M' st ar be am := by
  obtain ⟨f, w, ⟨h1, h2, h3⟩, h4⟩ := h
  exact ⟨f, w, ⟨(hon 30 (mm_rg_n (by omega))).trans h1, (hon 31 (mm_rg_n (by omega))).trans h2, (hon 32 (mm_rg_n (by omega))).trans h3⟩, h4⟩
def gr_inc (am : Nat → Nat) (be : Nat) : Nat → Nat := nup am be (am be + 1)
def gr_term (c i : Nat) (ar : List Nat) (be : Nat) (am : Nat → Nat) : Option gr_G :=
  if c = 41 then (match ar with
    | [] => none
    | b :: ar' => if am be = 0 then none else some (0, ar', b, am))
  else if c = 40 then (if ar.length < 20 then some (0, be :: ar, i + 1, nup (gr_inc am be) (i + 1) 0) else none)
  else if c = 92 then some (1, ar, be, gr_inc am be)
  else if c = 35 then some (3, ar, be, gr_inc am be)
  else if 97 ≤ c ∧ c ≤ 122 then some (0, ar, be, gr_inc am be)
  else if c = 83 ∨ c = 75 ∨ c = 73 then some (0, ar, be, gr_inc am be) else none
def gr_names (c i st : Nat) (ar : List Nat) (be : Nat) (am : Nat → Nat) : Option gr_G :=
  if 97 ≤ c ∧ c ≤ 122 then some (2, ar, be, am) else if st = 2 ∧ c = 46 then some (0, ar, i + 1, nup am (i + 1) 0) else none
def gr_rest (c i st : Nat) (ar : List Nat) (be : Nat) (am : Nat → Nat) : Option gr_G :=
  if c = 32 then some (st, ar, be, am) else if st = 0 then gr_term c i ar be am else gr_names c i st ar be am
def gr_step (c i st : Nat) (ar : List Nat) (be : Nat) (am : Nat → Nat) : Option gr_G :=
  if st = 3 then (if 48 ≤ c ∧ c ≤ 57 then some (4, ar, be, am) else none)
  else if st = 4 then (if 48 ≤ c ∧ c ≤ 57 then some (0, ar, be, am) else gr_rest c i 0 ar be am)
  else gr_rest c i st ar be am
theorem let_nI {c : Nat} (hc : c < 2 ^ 31) : is_let (nI c) ↔ (97 ≤ c ∧ c ≤ 122) := by
  unfold is_let
  rw [nI_toInt hc]
  omega
section
variable {l : Launch} {sc : Nat × (Nat → Int32)} {M : mm_M} {Q : mm_O → mm_M → Prop} {st be c i : Nat} {ar : List Nat} {am : Nat → Nat}
theorem on_30 (e : va_E) : mm_on (mm_rg 30 32) M (M.set 30 e) := mm_on.set M _ (by unfold mm_rg; omega)
theorem on_31 (e : va_E) : mm_on (mm_rg 30 32) M (M.set 31 e) := mm_on.set M _ (by unfold mm_rg; omega)
theorem on_32 (e : va_E) : mm_on (mm_rg 30 32) M (M.set 32 e) := mm_on.set M _ (by unfold mm_rg; omega)
theorem c_Gr_beginTerm {op bx sx : Int32} {f w : Nat → Int32} (h : gra_is M op bx sx f w) {p : Nat} (hp : p < 401) (hQ : ∀ M', gra_is M' op (nI p) (nI 0) (upd f p (nI 0)) w → mm_on (mm_rg 30 32) M M' → Q (.inl none) M') : mm_Ct l sc Y_Gr_beginTerm M [.ref 30, .int (nI p)] Q := by
  obtain ⟨g1, g2, g3⟩ := h
  refine mm_by k_Gr_beginTerm w_Gr_beginTerm rfl rfl ?_
  refine mg_run 2 rfl ?_
  refine mg_put rfl rfl g1 rfl rfl ?_
  have a1 := mm_at_set (.inr (3, [.ref 31, .ref 32, .int op, .int bx, .int (nI 0)])) g1
  have a2 : (M.set 30 (.inr (3, [.ref 31, .ref 32, .int op, .int bx, .int (nI 0)])))[31]? = _ := mm_at_ne (by decide) g2
  have a3 : (M.set 30 (.inr (3, [.ref 31, .ref 32, .int op, .int bx, .int (nI 0)])))[32]? = _ := mm_at_ne (by decide) g3
  refine mg_run 2 rfl ?_
  refine mg_put rfl rfl a1 rfl rfl ?_
  have b1 := mm_at_set (.inr (3, [.ref 31, .ref 32, .int op, .int (nI p), .int (nI 0)])) a1
  have b2 : ((M.set 30 (.inr (3, [.ref 31, .ref 32, .int op, .int bx, .int (nI 0)]))).set 30 (.inr (3, [.ref 31, .ref 32, .int op, .int (nI p), .int (nI 0)])))[31]? = _ := mm_at_ne (by decide) a2
  have b3 : ((M.set 30 (.inr (3, [.ref 31, .ref 32, .int op, .int bx, .int (nI 0)]))).set 30 (.inr (3, [.ref 31, .ref 32, .int op, .int (nI p), .int (nI 0)])))[32]? = _ := mm_at_ne (by decide) a3
  refine mg_run 1 rfl ?_
  refine mg_get rfl rfl b1 rfl ?_
  refine mg_run 1 rfl ?_
  refine mg_get rfl rfl b1 rfl ?_
  refine mg_run 1 rfl ?_
  refine mg_istN rfl b2 (by decide) hp ?_
  refine mg_vr rfl rfl rfl rfl ?_
  exact hQ _ ⟨mm_at_ne (by decide) b1, mm_at_set _ b2, mm_at_ne (by decide) b3⟩ (((on_30 _).tr (on_30 _)).tr (on_31 _))
theorem c_Gr_closes (h : gr_is M 0 ar be am) (hab : am be < 2 ^ 31) (hQ : ∀ b ar', ar = b :: ar' → ¬ am be = 0 → ∀ M', gr_is M' 0 ar' b am → mm_on (mm_rg 30 32) M M' → Q (.inl (some (.int (nI 1)))) M') (hN : (ar = [] ∨ am be = 0) → Q (.inl (some (.int (nI 0)))) M) : mm_Ct l sc Y_Gr_closes M [.ref 30] Q := by
  obtain ⟨f, w, ⟨g1, g2, g3⟩, hf, hw, hl, hbe, har⟩ := h
  refine mm_by k_Gr_closes w_Gr_closes rfl rfl ?_
  refine mg_run 1 rfl ?_
  refine mg_get rfl rfl g1 rfl ?_
  refine mg_zeq rfl (by omega) (fun h => ?_) (fun h => ?_)
  · refine mg_run 1 rfl ?_
    exact mg_zr rfl rfl (Or.inl rfl) rfl rfl (hN (Or.inl (List.length_eq_zero_iff.mp h)))
  · refine mg_run 1 rfl ?_
    refine mg_get rfl rfl g1 rfl ?_
    refine mg_run 1 rfl ?_
    refine mg_get rfl rfl g1 rfl ?_
    refine mg_ildN rfl g2 (by decide) hbe ?_
    rw [hf be hbe]
    refine mg_zne rfl hab (fun h2 => ?_) (fun h2 => ?_)
    · cases ar with
      | nil => exact absurd h (by decide)
      | cons b ar' =>
        refine mg_run 2 rfl ?_
        refine mg_get rfl rfl g1 rfl ?_
        refine mg_run 1 rfl ?_
        refine mg_subN rfl (by exact h) ?_
        refine mg_put rfl rfl g1 rfl rfl ?_
        have a1 := mm_at_set (.inr (3, [.ref 31, .ref 32, .int (nI ar'.length), .int (nI be), .int (nI 0)])) g1
        have a2 : (M.set 30 (.inr (3, [.ref 31, .ref 32, .int (nI ar'.length), .int (nI be), .int (nI 0)])))[31]? = _ := mm_at_ne (by decide) g2
        have a3 : (M.set 30 (.inr (3, [.ref 31, .ref 32, .int (nI ar'.length), .int (nI be), .int (nI 0)])))[32]? = _ := mm_at_ne (by decide) g3
        have hl2 : ar'.length + 1 ≤ 20 := hl
        refine mg_run 2 rfl ?_
        refine mg_get rfl rfl a1 rfl ?_
        refine mg_run 1 rfl ?_
        refine mg_get rfl rfl a1 rfl ?_
        refine mg_ildN rfl a3 (by decide) (by omega) ?_
        rw [sk_top hw]
        refine mg_put rfl rfl a1 rfl rfl ?_
        refine mg_run 1 rfl ?_
        refine mg_zr rfl rfl (Or.inr rfl) rfl rfl ?_
        exact hQ b ar' rfl (by omega) _ ⟨f, w, ⟨mm_at_set _ a1, mm_at_ne (by decide) a2, mm_at_ne (by decide) a3⟩, hf, sk_pop hw, by omega, har b List.mem_cons_self, fun x hx => har x (List.mem_cons_of_mem _ hx)⟩ ((on_30 _).tr (on_30 _))
    · refine mg_run 1 rfl ?_
      exact mg_zr rfl rfl (Or.inl rfl) rfl rfl (hN (Or.inr h2))
theorem c_Gr_opens (h : gr_is M 0 ar be am) (hi : i < 400) (hQ : ar.length < 20 → ∀ M', gr_is M' 0 (be :: ar) (i + 1) (nup (gr_inc am be) (i + 1) 0) → mm_on (mm_rg 30 32) M M' → Q (.inl (some (.int (nI 1)))) M') (hN : ¬ ar.length < 20 → Q (.inl (some (.int (nI 0)))) M) : mm_Ct l sc Y_Gr_opens M [.ref 30, .int (nI i)] Q := by
  obtain ⟨f, w, ⟨g1, g2, g3⟩, hf, hw, hl, hbe, har⟩ := h
  refine mm_by k_Gr_opens w_Gr_opens rfl rfl ?_
  refine mg_run 1 rfl ?_
  refine mg_get rfl rfl g1 rfl ?_
  refine mg_run 1 rfl ?_
  refine mg_lt rfl (by omega) (by decide) (fun h => ?_) (fun h => ?_)
  · refine mg_run 1 rfl ?_
    refine mg_get rfl rfl g1 rfl ?_
    refine mg_run 1 rfl ?_
    refine mg_get rfl rfl g1 rfl ?_
    refine mg_run 1 rfl ?_
    refine mg_ildN rfl g2 (by decide) hbe ?_
    rw [hf be hbe]
    refine mg_run 1 rfl ?_
    refine mg_addN rfl ?_
    refine mg_istN rfl g2 (by decide) hbe ?_
    have a2 := mm_at_set (.inl (0, 401, .inl (upd f be (nI (am be + 1))))) g2
    have a1 : (M.set 31 (.inl (0, 401, .inl (upd f be (nI (am be + 1))))))[30]? = _ := mm_at_ne (by decide) g1
    have a3 : (M.set 31 (.inl (0, 401, .inl (upd f be (nI (am be + 1))))))[32]? = _ := mm_at_ne (by decide) g3
    refine mg_run 1 rfl ?_
    refine mg_get rfl rfl a1 rfl ?_
    refine mg_run 1 rfl ?_
    refine mg_get rfl rfl a1 rfl ?_
    refine mg_run 1 rfl ?_
    refine mg_get rfl rfl a1 rfl ?_
    refine mg_istN rfl a3 (by decide) h ?_
    have b3 := mm_at_set (.inl (0, 20, .inl (upd w ar.length (nI be)))) a3
    have b1 : ((M.set 31 (.inl (0, 401, .inl (upd f be (nI (am be + 1)))))).set 32 (.inl (0, 20, .inl (upd w ar.length (nI be)))))[30]? = _ := mm_at_ne (by decide) a1
    have b2 : ((M.set 31 (.inl (0, 401, .inl (upd f be (nI (am be + 1)))))).set 32 (.inl (0, 20, .inl (upd w ar.length (nI be)))))[31]? = _ := mm_at_ne (by decide) a2
    refine mg_run 2 rfl ?_
    refine mg_get rfl rfl b1 rfl ?_
    refine mg_run 1 rfl ?_
    refine mg_addN rfl ?_
    refine mg_put rfl rfl b1 rfl rfl ?_
    have c1 := mm_at_set (.inr (3, [.ref 31, .ref 32, .int (nI (ar.length + 1)), .int (nI be), .int (nI 0)])) b1
    refine mg_run 3 rfl ?_
    refine mg_addN rfl ?_
    refine mg_callV [.int (nI (i + 1))] rfl rfl rfl c1 rfl rfl rfl rfl (c_Gr_beginTerm ⟨c1, mm_at_ne (by decide) b2, mm_at_ne (by decide) b3⟩ (by omega) (fun M' q1 q2 => ?_))
    refine mg_run 1 rfl ?_
    refine mg_zr rfl rfl (Or.inr rfl) rfl rfl ?_
    refine hQ h M' ⟨_, _, q1, nup_upd (nup_upd hf _ _) _ _, sk_push hw, by show ar.length + 1 ≤ 20; omega, by omega, ?_⟩ ((((on_31 _).tr (on_32 _)).tr (on_30 _)).tr q2)
    intro x hx
    rcases List.mem_cons.mp hx with rfl | hx
    · exact hbe
    · exact har x hx
  · refine mg_run 1 rfl ?_
    exact mg_zr rfl rfl (Or.inl rfl) rfl rfl (hN (by omega))
theorem c_Gr_acceptsInNames (h : gr_is M st ar be am) (hi : i < 400) (hc : c < 256) (hst : st < 5) (hQ : ∀ G, gr_names c i st ar be am = some G → ∀ M', gr_iG M' G → mm_on (mm_rg 30 32) M M' → Q (.inl (some (.int (nI 1)))) M') (hN : gr_names c i st ar be am = none → Q (.inl (some (.int (nI 0)))) M) : mm_Ct l sc Y_Gr_acceptsInNames M [.ref 30, .int (nI c), .int (nI i)] Q := by
  obtain ⟨f, w, ⟨g1, g2, g3⟩, hf, hw, hl, hbe, har⟩ := h
  refine mm_by k_Gr_acceptsInNames w_Gr_acceptsInNames rfl rfl ?_
  refine mg_run 1 rfl ?_
  refine mg_callN [.int (nI c)] rfl rfl rfl rfl rfl (c_LB_isLetter (fun hL => ?_) (fun hL => ?_))
  · rw [let_nI (by omega)] at hL
    refine mg_zeq rfl (by decide) (fun h => absurd h (by decide)) (fun _ => ?_)
    refine mg_run 2 rfl ?_
    refine mg_put rfl rfl g1 rfl rfl ?_
    refine mg_run 1 rfl ?_
    refine mg_zr rfl rfl (Or.inr rfl) rfl rfl ?_
    exact hQ (2, ar, be, am) (if_pos hL) _ ⟨f, w, ⟨mm_at_set _ g1, mm_at_ne (by decide) g2, mm_at_ne (by decide) g3⟩, hf, hw, hl, hbe, har⟩ (on_30 _)
  · rw [let_nI (by omega)] at hL
    refine mg_zeq rfl (by decide) (fun _ => ?_) (fun h => absurd h (by decide))
    refine mg_run 1 rfl ?_
    refine mg_get rfl rfl g1 rfl ?_
    refine mg_run 1 rfl ?_
    refine mg_ne rfl (by omega) (by decide) (fun h => ?_) (fun h => ?_)
    · refine mg_run 1 rfl ?_
      refine mg_zr rfl rfl (Or.inl rfl) rfl rfl (hN ?_)
      unfold gr_names
      rw [if_neg hL, if_neg (fun h9 => h h9.1)]
    · refine mg_run 2 rfl ?_
      refine mg_ne rfl (by omega) (by decide) (fun h2 => ?_) (fun h2 => ?_)
      · refine mg_run 1 rfl ?_
        refine mg_zr rfl rfl (Or.inl rfl) rfl rfl (hN ?_)
        unfold gr_names
        rw [if_neg hL, if_neg (fun h9 => h2 h9.2)]
      · refine mg_run 3 rfl ?_
        refine mg_addN rfl ?_
        refine mg_callV [.int (nI (i + 1))] rfl rfl rfl g1 rfl rfl rfl rfl (c_Gr_beginTerm ⟨g1, g2, g3⟩ (by omega) (fun M' q1 q2 => ?_))
        refine mg_run 1 rfl ?_
        refine mg_zr rfl rfl (Or.inr rfl) rfl rfl ?_
        refine hQ (0, ar, i + 1, nup am (i + 1) 0) ?_ M' ⟨_, w, q1, nup_upd hf _ _, hw, hl, (by omega : i + 1 < 401), har⟩ q2
        unfold gr_names
        rw [if_neg hL, if_pos ⟨h, h2⟩]
/-- one atom more: the end of acceptsInTerm -/
theorem lp_Gr_atom (h : gr_is M st ar be am) {x1 x2 : Int32} (hQ : ∀ M', gr_is M' st ar be (gr_inc am be) → mm_on (mm_rg 30 32) M M' → Q (.inl (some (.int (nI 1)))) M') : mm_Go l sc Y_Gr_acceptsInTerm 0 0 M [some (.ref 30), some (.int x1), some (.int x2)] [] 67 Q := by
  obtain ⟨f, w, ⟨g1, g2, g3⟩, hf, hw, hl, hbe, har⟩ := h
  refine mg_run 1 rfl ?_
  refine mg_get rfl rfl g1 rfl ?_
  refine mg_run 1 rfl ?_
  refine mg_get rfl rfl g1 rfl ?_
  refine mg_run 1 rfl ?_
  refine mg_ildN rfl g2 (by decide) hbe ?_
  rw [hf be hbe]
  refine mg_run 1 rfl ?_
  refine mg_addN rfl ?_
  refine mg_istN rfl g2 (by decide) hbe ?_
  refine mg_run 1 rfl ?_
  refine mg_zr rfl rfl (Or.inr rfl) rfl rfl ?_
  exact hQ _ ⟨_, w, ⟨mm_at_ne (by decide) g1, mm_at_set _ g2, mm_at_ne (by decide) g3⟩, nup_upd hf _ _, hw, hl, hbe, har⟩ (on_31 _)
theorem gr_is.ste (h : gr_is M st ar be am) (st' : Nat) : gr_is (M.set 30 (.inr (3, [.ref 31, .ref 32, .int (nI ar.length), .int (nI be), .int (nI st')]))) st' ar be am := by
  obtain ⟨f, w, ⟨g1, g2, g3⟩, h4⟩ := h
  exact ⟨f, w, ⟨mm_at_set _ g1, mm_at_ne (by decide) g2, mm_at_ne (by decide) g3⟩, h4⟩
theorem c_Gr_acceptsInTerm (h : gr_is M 0 ar be am) (hi : i < 400) (hc : c < 256) (hab : am be < 2 ^ 31) (hQ : ∀ G, gr_term c i ar be am = some G → ∀ M', gr_iG M' G → mm_on (mm_rg 30 32) M M' → Q (.inl (some (.int (nI 1)))) M') (hN : gr_term c i ar be am = none → Q (.inl (some (.int (nI 0)))) M) : mm_Ct l sc Y_Gr_acceptsInTerm M [.ref 30, .int (nI c), .int (nI i)] Q := by
  obtain ⟨f, w, ⟨g1, g2, g3⟩, -⟩ := id h
  refine mm_by k_Gr_acceptsInTerm w_Gr_acceptsInTerm rfl rfl ?_
  refine mg_run 2 rfl ?_
  refine mg_ne rfl (by omega) (by decide) (fun h1 => ?_) (fun h1 => ?_)
  · refine mg_run 2 rfl ?_
    refine mg_ne rfl (by omega) (by decide) (fun h2 => ?_) (fun h2 => ?_)
    · refine mg_run 2 rfl ?_
      refine mg_ne rfl (by omega) (by decide) (fun h3 => ?_) (fun h3 => ?_)
      · refine mg_run 2 rfl ?_
        refine mg_ne rfl (by omega) (by decide) (fun h4 => ?_) (fun h4 => ?_)
        · refine mg_run 1 rfl ?_
          refine mg_callN [.int (nI c)] rfl rfl rfl rfl rfl (c_LB_isLetter (fun hL => ?_) (fun hL => ?_))
          · rw [let_nI (by omega)] at hL
            refine mg_zne rfl (by decide) (fun _ => ?_) (fun h => absurd h (by decide))
            refine lp_Gr_atom h (fun M' q1 q2 => hQ (0, ar, be, gr_inc am be) ?_ M' q1 q2)
            unfold gr_term
            rw [if_neg h1, if_neg h2, if_neg h3, if_neg h4, if_pos hL]
          · rw [let_nI (by omega)] at hL
            refine mg_zne rfl (by decide) (fun h => absurd h (by decide)) (fun _ => ?_)
            refine mg_run 1 rfl ?_
            refine mg_callN [.int (nI c)] rfl rfl rfl rfl rfl (c_LB_isCombinator (by omega) (fun hC => ?_) (fun hC => ?_))
            · refine mg_zne rfl (by decide) (fun _ => ?_) (fun h => absurd h (by decide))
              refine lp_Gr_atom h (fun M' q1 q2 => hQ (0, ar, be, gr_inc am be) ?_ M' q1 q2)
              unfold gr_term
              rw [if_neg h1, if_neg h2, if_neg h3, if_neg h4, if_neg hL]
              exact if_pos hC
            · refine mg_zne rfl (by decide) (fun h => absurd h (by decide)) (fun _ => ?_)
              refine mg_run 1 rfl ?_
              refine mg_zr rfl rfl (Or.inl rfl) rfl rfl (hN ?_)
              unfold gr_term
              rw [if_neg h1, if_neg h2, if_neg h3, if_neg h4, if_neg hL]
              exact if_neg hC
        · refine mg_run 2 rfl ?_
          refine mg_put rfl rfl g1 rfl rfl ?_
          refine mg_run 1 rfl ?_
          refine lp_Gr_atom (h.ste 3) (fun M' q1 q2 => hQ (3, ar, be, gr_inc am be) ?_ M' q1 ((on_30 _).tr q2))
          unfold gr_term
          rw [if_neg h1, if_neg h2, if_neg h3, if_pos h4]
      · refine mg_run 2 rfl ?_
        refine mg_put rfl rfl g1 rfl rfl ?_
        refine mg_run 1 rfl ?_
        refine lp_Gr_atom (h.ste 1) (fun M' q1 q2 => hQ (1, ar, be, gr_inc am be) ?_ M' q1 ((on_30 _).tr q2))
        unfold gr_term
        rw [if_neg h1, if_neg h2, if_pos h3]
    · refine mg_run 2 rfl ?_
      refine mg_callV [.int (nI i)] rfl rfl rfl g1 rfl rfl rfl rfl (c_Gr_opens h hi (fun h5 M' q1 q2 => ?_) (fun h5 => ?_))
      · refine mg_zr rfl rfl (Or.inr rfl) rfl rfl (hQ (0, be :: ar, i + 1, nup (gr_inc am be) (i + 1) 0) ?_ M' q1 q2)
        unfold gr_term
        rw [if_neg h1, if_pos h2, if_pos h5]
      · refine mg_zr rfl rfl (Or.inl rfl) rfl rfl (hN ?_)
        unfold gr_term
        rw [if_neg h1, if_pos h2, if_neg h5]
  · refine mg_run 1 rfl ?_
    refine mg_callV [] rfl rfl rfl g1 rfl rfl rfl rfl (c_Gr_closes h hab (fun b ar' e h5 M' q1 q2 => ?_) (fun h5 => ?_))
    · refine mg_zr rfl rfl (Or.inr rfl) rfl rfl (hQ (0, ar', b, am) ?_ M' q1 q2)
      subst e
      unfold gr_term
      rw [if_pos h1]
      exact if_neg h5
    · refine mg_zr rfl rfl (Or.inl rfl) rfl rfl (hN ?_)
      unfold gr_term
      rw [if_pos h1]
      rcases h5 with rfl | h5
      · rfl
      · cases ar with
        | nil => rfl
        | cons b ar' => exact if_pos h5
/-- the end of a term, or of a text -/
def gr_end (st : Nat) (ar : List Nat) (be : Nat) (am : Nat → Nat) : Bool := decide ((st = 0 ∨ st = 4) ∧ ar.length = 0 ∧ 0 < am be)
theorem lp_Gr_end (h : gr_is M st ar be am) (hab : am be < 2 ^ 31) {x : Nat} (hx : x < 2) (hQ : ∀ y, y = (if x = 1 ∧ ar.length = 0 ∧ 0 < am be then 1 else 0) → Q (.inl (some (.int (nI y)))) M) : mm_Go l sc Y_Gr_mayEnd 0 0 M [some (.ref 30), some (.int (nI x))] [] 21 Q := by
  obtain ⟨f, w, ⟨g1, g2, g3⟩, hf, hw, hl, hbe, har⟩ := h
  refine mg_run 1 rfl ?_
  refine mg_zeq rfl (by omega) (fun h1 => ?_) (fun h1 => ?_)
  · refine mg_run 1 rfl ?_
    exact mg_zr rfl rfl (Or.inl rfl) rfl rfl (hQ 0 (by rw [if_neg (by omega)]))
  · refine mg_run 1 rfl ?_
    refine mg_get rfl rfl g1 rfl ?_
    refine mg_zne rfl (by omega) (fun h2 => ?_) (fun h2 => ?_)
    · refine mg_run 1 rfl ?_
      exact mg_zr rfl rfl (Or.inl rfl) rfl rfl (hQ 0 (by rw [if_neg (by omega)]))
    · refine mg_run 1 rfl ?_
      refine mg_get rfl rfl g1 rfl ?_
      refine mg_run 1 rfl ?_
      refine mg_get rfl rfl g1 rfl ?_
      refine mg_ildN rfl g2 (by decide) hbe ?_
      rw [hf be hbe]
      refine mg_zle rfl hab (fun h3 => ?_) (fun h3 => ?_)
      · refine mg_run 1 rfl ?_
        exact mg_zr rfl rfl (Or.inl rfl) rfl rfl (hQ 0 (by rw [if_neg (by omega)]))
      · refine mg_run 2 rfl ?_
        exact mg_zr rfl rfl (Or.inr rfl) rfl rfl (hQ 1 (by rw [if_pos (by omega)]))
theorem c_Gr_mayEnd (h : gr_is M st ar be am) (hst : st < 5) (hab : am be < 2 ^ 31) (hQ : gr_end st ar be am = true → Q (.inl (some (.int (nI 1)))) M) (hN : gr_end st ar be am = false → Q (.inl (some (.int (nI 0)))) M) : mm_Ct l sc Y_Gr_mayEnd M [.ref 30] Q := by
  obtain ⟨f, w, ⟨g1, g2, g3⟩, -⟩ := id h
  have fin : ∀ x, (x = 1 ↔ (st = 0 ∨ st = 4)) → ∀ y, y = (if x = 1 ∧ ar.length = 0 ∧ 0 < am be then 1 else 0) → Q (.inl (some (.int (nI y)))) M := by
    intro x hx y hy
    by_cases hc : x = 1 ∧ ar.length = 0 ∧ 0 < am be
    · rw [if_pos hc] at hy
      rw [hy]
      exact hQ (decide_eq_true ⟨hx.mp hc.1, hc.2⟩)
    · rw [if_neg hc] at hy
      rw [hy]
      exact hN (decide_eq_false (fun h9 => hc ⟨hx.mpr h9.1, h9.2⟩))
  refine mm_by k_Gr_mayEnd w_Gr_mayEnd rfl rfl ?_
  refine mg_run 1 rfl ?_
  refine mg_get rfl rfl g1 rfl ?_
  refine mg_zeq rfl (by omega) (fun h1 => ?_) (fun h1 => ?_)
  · refine mg_run 3 rfl ?_
    exact lp_Gr_end h hab (x := 1) (by decide) (fin 1 (by omega))
  · refine mg_run 1 rfl ?_
    refine mg_get rfl rfl g1 rfl ?_
    refine mg_run 1 rfl ?_
    refine mg_ne rfl (by omega) (by decide) (fun h2 => ?_) (fun h2 => ?_)
    · refine mg_run 2 rfl ?_
      exact lp_Gr_end h hab (x := 0) (by decide) (fin 0 (by omega))
    · refine mg_run 3 rfl ?_
      exact lp_Gr_end h hab (x := 1) (by decide) (fin 1 (by omega))
/-- from the look at a blank on -/
theorem lp_Gr_rest {pc : Nat} (h : gr_is M st ar be am) (hi : i < 400) (hc : c < 256) (hst : st < 5) (hab : am be < 2 ^ 31) (hQ : ∀ G, gr_rest c i st ar be am = some G → ∀ M', gr_iG M' G → mm_on (mm_rg 30 32) M M' → Q (.inl (some (.int (nI 1)))) M') (hN : gr_rest c i st ar be am = none → Q (.inl (some (.int (nI 0)))) M) (hpc : pc = 40) : mm_Go l sc Y_Gr_accepts 0 0 M [some (.ref 30), some (.int (nI c)), some (.int (nI i))] [] pc Q := by
  subst hpc
  obtain ⟨f, w, ⟨g1, g2, g3⟩, -⟩ := id h
  refine mg_run 2 rfl ?_
  refine mg_ne rfl (by omega) (by decide) (fun h1 => ?_) (fun h1 => ?_)
  · refine mg_run 1 rfl ?_
    refine mg_get rfl rfl g1 rfl ?_
    refine mg_zne rfl (by omega) (fun h2 => ?_) (fun h2 => ?_)
    · have e : gr_rest c i st ar be am = gr_names c i st ar be am := by
        unfold gr_rest
        rw [if_neg h1, if_neg (by omega)]
      rw [e] at hQ hN
      refine mg_run 3 rfl ?_
      refine mg_callV [.int (nI c), .int (nI i)] rfl rfl rfl g1 rfl rfl rfl rfl (c_Gr_acceptsInNames h hi hc hst (fun G q1 M' q2 q3 => ?_) (fun q1 => ?_))
      · exact mg_zr rfl rfl (Or.inr rfl) rfl rfl (hQ G q1 M' q2 q3)
      · exact mg_zr rfl rfl (Or.inl rfl) rfl rfl (hN q1)
    · have e : gr_rest c i st ar be am = gr_term c i ar be am := by
        unfold gr_rest
        rw [if_neg h1, if_pos h2]
      rw [e] at hQ hN
      subst h2
      refine mg_run 3 rfl ?_
      refine mg_callV [.int (nI c), .int (nI i)] rfl rfl rfl g1 rfl rfl rfl rfl (c_Gr_acceptsInTerm h hi hc hab (fun G q1 M' q2 q3 => ?_) (fun q1 => ?_))
      · refine mg_run 1 rfl ?_
        exact mg_zr rfl rfl (Or.inr rfl) rfl rfl (hQ G q1 M' q2 q3)
      · refine mg_run 1 rfl ?_
        exact mg_zr rfl rfl (Or.inl rfl) rfl rfl (hN q1)
  · refine mg_run 1 rfl ?_
    exact mg_zr rfl rfl (Or.inr rfl) rfl rfl (hQ (st, ar, be, am) (if_pos h1) M h (mm_on.rf _ M))
theorem c_Gr_accepts (h : gr_is M st ar be am) (hi : i < 400) (hc : c < 256) (hst : st < 5) (hab : am be < 2 ^ 31) (hQ : ∀ G, gr_step c i st ar be am = some G → ∀ M', gr_iG M' G → mm_on (mm_rg 30 32) M M' → Q (.inl (some (.int (nI 1)))) M') (hN : gr_step c i st ar be am = none → ∀ M', lb_gra M' → mm_on (mm_rg 30 32) M M' → Q (.inl (some (.int (nI 0)))) M') : mm_Ct l sc Y_Gr_accepts M [.ref 30, .int (nI c), .int (nI i)] Q := by
  obtain ⟨f, w, ⟨g1, g2, g3⟩, -⟩ := id h
  refine mm_by k_Gr_accepts w_Gr_accepts rfl rfl ?_
  refine mg_run 1 rfl ?_
  refine mg_get rfl rfl g1 rfl ?_
  refine mg_run 1 rfl ?_
  refine mg_ne rfl (by omega) (by decide) (fun h1 => ?_) (fun h1 => ?_)
  · refine mg_run 1 rfl ?_
    refine mg_get rfl rfl g1 rfl ?_
    refine mg_run 1 rfl ?_
    refine mg_ne rfl (by omega) (by decide) (fun h2 => ?_) (fun h2 => ?_)
    · have e : gr_step c i st ar be am = gr_rest c i st ar be am := by
        unfold gr_step
        rw [if_neg h1, if_neg h2]
      rw [e] at hQ hN
      exact lp_Gr_rest h hi hc hst hab hQ (fun q => hN q M h.gra (mm_on.rf _ M)) rfl
    · refine mg_run 2 rfl ?_
      refine mg_put rfl rfl g1 rfl rfl ?_
      have hs := h.ste 0
      refine mg_run 1 rfl ?_
      refine mg_callN [.int (nI c)] rfl rfl rfl rfl rfl (c_LB_isDigit (by omega) (fun hD => ?_) (fun hD => ?_))
      · refine mg_zeq rfl (by decide) (fun h => absurd h (by decide)) (fun _ => ?_)
        refine mg_run 1 rfl ?_
        refine mg_zr rfl rfl (Or.inr rfl) rfl rfl (hQ (0, ar, be, am) ?_ _ hs (on_30 _))
        unfold gr_step
        rw [if_neg h1, if_pos h2]
        exact if_pos hD
      · refine mg_zeq rfl (by decide) (fun _ => ?_) (fun h => absurd h (by decide))
        have e : gr_step c i st ar be am = gr_rest c i 0 ar be am := by
          unfold gr_step
          rw [if_neg h1, if_pos h2]
          exact if_neg hD
        rw [e] at hQ hN
        exact lp_Gr_rest hs hi hc (by decide) hab (fun G q1 M' q2 q3 => hQ G q1 M' q2 ((on_30 _).tr q3)) (fun q => hN q _ hs.gra (on_30 _)) rfl
  · refine mg_run 2 rfl ?_
    refine mg_put rfl rfl g1 rfl rfl ?_
    have hs := h.ste 4
    refine mg_run 1 rfl ?_
    refine mg_callN [.int (nI c)] rfl rfl rfl rfl rfl (c_LB_isDigit (by omega) (fun hD => ?_) (fun hD => ?_))
    · refine mg_zr rfl rfl (Or.inr rfl) rfl rfl (hQ (4, ar, be, am) ?_ _ hs (on_30 _))
      unfold gr_step
      rw [if_pos h1]
      exact if_pos hD
    · refine mg_zr rfl rfl (Or.inl rfl) rfl rfl (hN ?_ _ hs.gra (on_30 _))
      unfold gr_step
      rw [if_pos h1]
      exact if_neg hD
end
end
section
/-! The grammar over a whole text. -/
def gr_go (tp : List Nat) : Nat → Nat → gr_G → Nat ⊕ gr_G
  | 0, i, G => if gr_end G.1 G.2.1 G.2.2.1 G.2.2.2 = true then .inr G else .inl i
  | m + 1, i, G => match gr_step (tp.getD i 0) i G.1 G.2.1 G.2.2.1 G.2.2.2 with
    | none => .inl i
    | some G' => gr_go tp m (i + 1) G'
/-- a term begins at j -/
def bg (tp : List Nat) (j : Nat) : Prop := j = 0 ∨ (0 < j ∧ (tp.getD (j - 1) 0 = 46 ∨ tp.getD (j - 1) 0 = 40))
theorem bg_succ {tp : List Nat} {i : Nat} (h : bg tp (i + 1)) : tp.getD i 0 = 46 ∨ tp.getD i 0 = 40 := by
  rcases h with h | ⟨-, h⟩
  · omega
  · exact h
theorem bg_of {tp : List Nat} {i : Nat} (h : tp.getD i 0 = 46 ∨ tp.getD i 0 = 40) : bg tp (i + 1) := Or.inr ⟨by omega, h⟩
def gr_in (tp : List Nat) (i st : Nat) (ar : List Nat) (be : Nat) (am : Nat → Nat) : Prop := st < 5 ∧ (bg tp be ∧ be ≤ i) ∧ (∀ b ∈ ar, bg tp b ∧ b ≤ i) ∧ (∀ j, j ≤ i → bg tp j → am j ≤ i) ∧ ∀ j, j < i → tp.getD j 0 = 35 → (j + 1 < i ∧ 48 ≤ tp.getD (j + 1) 0) ∨ (j + 1 = i ∧ st = 3)
section
variable {tp : List Nat} {i st be : Nat} {ar : List Nat} {am : Nat → Nat}
theorem gr_35 (h : ∀ j, j < i → tp.getD j 0 = 35 → (j + 1 < i ∧ 48 ≤ tp.getD (j + 1) 0) ∨ (j + 1 = i ∧ st = 3)) (h3 : st = 3 → 48 ≤ tp.getD i 0) {st' : Nat} (h4 : tp.getD i 0 = 35 → st' = 3) : ∀ j, j < i + 1 → tp.getD j 0 = 35 → (j + 1 < i + 1 ∧ 48 ≤ tp.getD (j + 1) 0) ∨ (j + 1 = i + 1 ∧ st' = 3) := by
  intro j hj e
  by_cases hji : j = i
  · subst hji
    exact Or.inr ⟨rfl, h4 e⟩
  · rcases h j (by omega) e with ⟨h5, h6⟩ | ⟨h5, h6⟩
    · exact Or.inl ⟨by omega, h6⟩
    · refine Or.inl ⟨by omega, ?_⟩
      rw [h5]
      exact h3 h6
theorem gr_in_same (h : gr_in tp i st ar be am) (h3 : st = 3 → 48 ≤ tp.getD i 0) {st' : Nat} (h4 : tp.getD i 0 = 35 → st' = 3) (h5 : st' < 5) (h6 : ¬ (tp.getD i 0 = 46 ∨ tp.getD i 0 = 40)) : gr_in tp (i + 1) st' ar be am := by
  obtain ⟨a1, ⟨a2, a3⟩, a4, a5, a6⟩ := h
  refine ⟨h5, ⟨a2, by omega⟩, fun b hb => ⟨(a4 b hb).1, Nat.le_succ_of_le (a4 b hb).2⟩, fun j hj hg => ?_, gr_35 a6 h3 h4⟩
  by_cases e : j = i + 1
  · subst e
    exact absurd (bg_succ hg) h6
  · exact Nat.le_succ_of_le (a5 j (by omega) hg)
theorem gr_in_inc (h : gr_in tp i st ar be am) (h3 : st = 3 → 48 ≤ tp.getD i 0) {st' : Nat} (h4 : tp.getD i 0 = 35 → st' = 3) (h5 : st' < 5) (h6 : ¬ (tp.getD i 0 = 46 ∨ tp.getD i 0 = 40)) : gr_in tp (i + 1) st' ar be (gr_inc am be) := by
  obtain ⟨a1, ⟨a2, a3⟩, a4, a5, a6⟩ := id h
  obtain ⟨b1, b2, b3, b4, b5⟩ := gr_in_same h h3 h4 h5 h6
  refine ⟨b1, b2, b3, fun j hj hg => ?_, b5⟩
  unfold gr_inc nup
  by_cases e : j = be
  · rw [if_pos e]
    have := a5 be a3 a2
    omega
  · rw [if_neg e]
    exact b4 j hj hg
theorem gr_in_term {G : gr_G} (h : gr_in tp i st ar be am) (h3 : ¬ st = 3) (hs : gr_term (tp.getD i 0) i ar be am = some G) : gr_in tp (i + 1) G.1 G.2.1 G.2.2.1 G.2.2.2 := by
  have h3' : st = 3 → 48 ≤ tp.getD i 0 := fun h => absurd h h3
  obtain ⟨a1, ⟨a2, a3⟩, a4, a5, a6⟩ := id h
  unfold gr_term at hs
  by_cases c1 : tp.getD i 0 = 41
  · rw [if_pos c1] at hs
    cases ar with
    | nil => cases hs
    | cons b ar' =>
      have hs : (if am be = 0 then none else some ((0, ar', b, am) : gr_G)) = some G := hs
      by_cases c2 : am be = 0
      · rw [if_pos c2] at hs
        cases hs
      · rw [if_neg c2] at hs
        cases hs
        obtain ⟨b1, b2, b3, b4, b5⟩ := gr_in_same (st' := 0) h h3' (fun h => by omega) (by decide) (by omega)
        exact ⟨b1, b3 b List.mem_cons_self, fun x hx => b3 x (List.mem_cons_of_mem _ hx), b4, b5⟩
  · rw [if_neg c1] at hs
    by_cases c2 : tp.getD i 0 = 40
    · rw [if_pos c2] at hs
      by_cases c3 : ar.length < 20
      · rw [if_pos c3] at hs
        cases hs
        refine ⟨by show 0 < 5; decide, ⟨bg_of (Or.inr c2), Nat.le_refl _⟩, fun b hb => ?_, fun j hj hg => ?_, gr_35 a6 h3' (fun h => by omega)⟩
        · rcases List.mem_cons.mp hb with rfl | hb
          · exact ⟨a2, Nat.le_succ_of_le a3⟩
          · exact ⟨(a4 b hb).1, Nat.le_succ_of_le (a4 b hb).2⟩
        · show nup (gr_inc am be) (i + 1) 0 j ≤ i + 1
          unfold gr_inc nup
          by_cases e : j = i + 1
          · rw [if_pos e]; omega
          · rw [if_neg e]
            by_cases e2 : j = be
            · rw [if_pos e2]
              have := a5 be a3 a2
              omega
            · rw [if_neg e2]
              exact Nat.le_succ_of_le (a5 j (by omega) hg)
      · rw [if_neg c3] at hs
        cases hs
    · rw [if_neg c2] at hs
      by_cases c3 : tp.getD i 0 = 92
      · rw [if_pos c3] at hs
        cases hs
        exact gr_in_inc h h3' (fun h => by omega) (by show 1 < 5; decide) (by omega)
      · rw [if_neg c3] at hs
        by_cases c4 : tp.getD i 0 = 35
        · rw [if_pos c4] at hs
          cases hs
          exact gr_in_inc h h3' (fun h => rfl) (by show 3 < 5; decide) (by omega)
        · rw [if_neg c4] at hs
          by_cases c5 : 97 ≤ tp.getD i 0 ∧ tp.getD i 0 ≤ 122
          · rw [if_pos c5] at hs
            cases hs
            exact gr_in_inc h h3' (fun h => absurd h c4) (by show 0 < 5; decide) (by omega)
          · rw [if_neg c5] at hs
            by_cases c6 : tp.getD i 0 = 83 ∨ tp.getD i 0 = 75 ∨ tp.getD i 0 = 73
            · rw [if_pos c6] at hs
              cases hs
              exact gr_in_inc h h3' (fun h => absurd h c4) (by show 0 < 5; decide) (by omega)
            · rw [if_neg c6] at hs
              cases hs
theorem gr_in_rest {G : gr_G} {s2 : Nat} (h : gr_in tp i st ar be am) (h3 : ¬ st = 3) (hs2 : s2 < 5) (hs : gr_rest (tp.getD i 0) i s2 ar be am = some G) : gr_in tp (i + 1) G.1 G.2.1 G.2.2.1 G.2.2.2 := by
  have h3' : st = 3 → 48 ≤ tp.getD i 0 := fun h => absurd h h3
  obtain ⟨a1, ⟨a2, a3⟩, a4, a5, a6⟩ := id h
  unfold gr_rest at hs
  by_cases c1 : tp.getD i 0 = 32
  · rw [if_pos c1] at hs
    cases hs
    exact gr_in_same h h3' (fun h => by omega) hs2 (by omega)
  · rw [if_neg c1] at hs
    by_cases c2 : s2 = 0
    · rw [if_pos c2] at hs
      exact gr_in_term h h3 hs
    · rw [if_neg c2] at hs
      unfold gr_names at hs
      by_cases c5 : 97 ≤ tp.getD i 0 ∧ tp.getD i 0 ≤ 122
      · rw [if_pos c5] at hs
        cases hs
        exact gr_in_same h h3' (fun h => by omega) (by show 2 < 5; decide) (by omega)
      · rw [if_neg c5] at hs
        by_cases c6 : s2 = 2 ∧ tp.getD i 0 = 46
        · rw [if_pos c6] at hs
          cases hs
          refine ⟨by show 0 < 5; decide, ⟨bg_of (Or.inl c6.2), Nat.le_refl _⟩, fun b hb => ⟨(a4 b hb).1, Nat.le_succ_of_le (a4 b hb).2⟩, fun j hj hg => ?_, gr_35 a6 h3' (fun h => by omega)⟩
          show nup am (i + 1) 0 j ≤ i + 1
          unfold nup
          by_cases e : j = i + 1
          · rw [if_pos e]; omega
          · rw [if_neg e]
            exact Nat.le_succ_of_le (a5 j (by omega) hg)
        · rw [if_neg c6] at hs
          cases hs
theorem gr_in_step {G : gr_G} (h : gr_in tp i st ar be am) (hs : gr_step (tp.getD i 0) i st ar be am = some G) : gr_in tp (i + 1) G.1 G.2.1 G.2.2.1 G.2.2.2 := by
  unfold gr_step at hs
  by_cases c1 : st = 3
  · rw [if_pos c1] at hs
    by_cases c2 : 48 ≤ tp.getD i 0 ∧ tp.getD i 0 ≤ 57
    · rw [if_pos c2] at hs
      cases hs
      exact gr_in_same h (fun _ => c2.1) (fun h => by omega) (by show 4 < 5; decide) (by omega)
    · rw [if_neg c2] at hs
      cases hs
  · rw [if_neg c1] at hs
    by_cases c2 : st = 4
    · rw [if_pos c2] at hs
      by_cases c3 : 48 ≤ tp.getD i 0 ∧ tp.getD i 0 ≤ 57
      · rw [if_pos c3] at hs
        cases hs
        exact gr_in_same h (fun h => absurd h c1) (fun h => by omega) (by show 0 < 5; decide) (by omega)
      · rw [if_neg c3] at hs
        exact gr_in_rest h c1 (by decide) hs
    · rw [if_neg c2] at hs
      exact gr_in_rest h c1 h.1 hs
end
section
variable {l : Launch} {sc : Nat × (Nat → Int32)} {Q : mm_O → mm_M → Prop} {tp : List Nat}
theorem nI_bv (x : Int32) : x = nI x.toBitVec.toNat := Int32.toBitVec_inj.mp (by simp [nI])
theorem lp_Gr_firstWrong (hb : ∀ j, tp.getD j 0 < 256) : ∀ m i (M : mm_M) (G : gr_G), ta_is M 28 tp → gr_iG M G → gr_in tp i G.1 G.2.1 G.2.2.1 G.2.2.2 → tp.length - i = m → i ≤ tp.length →
    (∀ G', gr_go tp m i G = .inr G' → ∀ M', gr_iG M' G' → gr_in tp tp.length G'.1 G'.2.1 G'.2.2.1 G'.2.2.2 → mm_on (mm_rg 30 32) M M' → Q (.inl (some (.int (-1)))) M') →
    (∀ j, gr_go tp m i G = .inl j → j ≤ tp.length → ∀ M', lb_gra M' → mm_on (mm_rg 30 32) M M' → Q (.inl (some (.int (nI j)))) M') →
    mm_Go l sc Y_Gr_firstWrong 0 0 M [some (.ref 30), some (.ref 28), some (.int (nI i))] [] 12 Q := by
  intro m
  induction m with
  | zero =>
    intro i M G hT hG hI hm hi hQ hN
    obtain ⟨ft, t1, t2, t3, t4⟩ := id hT
    obtain ⟨f, w, ⟨g1, g2, g3⟩, hf, hw, hl, hbe, har⟩ := id hG
    have hab := hI.2.2.2.1 _ hI.2.1.2 hI.2.1.1
    refine mg_run 2 rfl ?_
    refine mg_callV [] rfl rfl rfl t1 rfl rfl rfl rfl (c_Ta_length hT ?_)
    refine mg_ge rfl (by omega) (by omega) (fun _ => ?_) (fun h => absurd h (by omega))
    have e : i = tp.length := by omega
    refine mg_run 1 rfl ?_
    refine mg_callV [] rfl rfl rfl g1 rfl rfl rfl rfl (c_Gr_mayEnd hG hI.1 (by omega) (fun h => ?_) (fun h => ?_))
    · refine mg_zeq rfl (by decide) (fun h => absurd h (by decide)) (fun _ => ?_)
      refine mg_run 2 rfl ?_
      refine mg_ir rfl rfl rfl rfl ?_
      rw [e] at hI
      exact hQ G (if_pos h) M hG hI (mm_on.rf _ M)
    · refine mg_zeq rfl (by decide) (fun _ => ?_) (fun h => absurd h (by decide))
      refine mg_run 1 rfl ?_
      refine mg_callV [] rfl rfl rfl t1 rfl rfl rfl rfl (c_Ta_length hT ?_)
      refine mg_ir rfl rfl rfl rfl ?_
      refine hN tp.length ?_ (Nat.le_refl _) M hG.gra (mm_on.rf _ M)
      rw [gr_go, h, e]
      exact if_neg (by decide)
  | succ m ih =>
    intro i M G hT hG hI hm hi hQ hN
    obtain ⟨ft, t1, t2, t3, t4⟩ := id hT
    obtain ⟨f, w, ⟨g1, g2, g3⟩, hf, hw, hl, hbe, har⟩ := id hG
    have hab := hI.2.2.2.1 _ hI.2.1.2 hI.2.1.1
    refine mg_run 2 rfl ?_
    refine mg_callV [] rfl rfl rfl t1 rfl rfl rfl rfl (c_Ta_length hT ?_)
    refine mg_ge rfl (by omega) (by omega) (fun h => absurd h (by omega)) (fun _ => ?_)
    refine mg_run 3 rfl ?_
    refine mg_callV [.int (nI i)] rfl rfl rfl t1 rfl rfl rfl rfl (c_Ta_at hT (by omega) ?_)
    refine mg_run 1 rfl ?_
    refine mg_callV [.int (nI (tp.getD i 0)), .int (nI i)] rfl rfl rfl g1 rfl rfl rfl rfl (c_Gr_accepts hG (by omega) (hb i) hI.1 (by omega) (fun G' q1 M1 q2 q3 => ?_) (fun q1 M1 q2 q3 => ?_))
    · refine mg_zne rfl (by decide) (fun _ => ?_) (fun h => absurd h (by decide))
      refine mg_incN rfl rfl rfl ?_
      refine mg_run 1 rfl ?_
      have e : gr_go tp (m + 1) i G = gr_go tp m (i + 1) G' := by rw [gr_go, q1]
      rw [e] at hQ hN
      exact ih (i + 1) M1 G' (ta_keep hT q3 (by omega)) q2 (gr_in_step hI q1) (by omega) (by omega) (fun G2 p1 M' p2 p3 p4 => hQ G2 p1 M' p2 p3 (q3.tr p4)) (fun j p1 p2 M' p3 p4 => hN j p1 p2 M' p3 (q3.tr p4))
    · refine mg_zne rfl (by decide) (fun h => absurd h (by decide)) (fun _ => ?_)
      refine mg_run 1 rfl ?_
      refine mg_ir rfl rfl rfl rfl ?_
      refine hN i ?_ hi M1 q2 q3
      rw [gr_go, q1]
theorem c_Gr_firstWrong {M : mm_M} (hb : ∀ j, tp.getD j 0 < 256) (hT : ta_is M 28 tp) (hg : lb_gra M)
    (hQ : ∀ am G, gr_go tp tp.length 0 (0, [], 0, nup am 0 0) = .inr G → ∀ M', gr_iG M' G → gr_in tp tp.length G.1 G.2.1 G.2.2.1 G.2.2.2 → mm_on (mm_rg 30 32) M M' → Q (.inl (some (.int (-1)))) M')
    (hN : ∀ am j, gr_go tp tp.length 0 (0, [], 0, nup am 0 0) = .inl j → j ≤ tp.length → ∀ M', lb_gra M' → mm_on (mm_rg 30 32) M M' → Q (.inl (some (.int (nI j)))) M') : mm_Ct l sc Y_Gr_firstWrong M [.ref 30, .ref 28] Q := by
  obtain ⟨op, bx, sx, f, w, g1, g2, g3⟩ := hg
  refine mm_by k_Gr_firstWrong w_Gr_firstWrong rfl rfl ?_
  refine mg_run 2 rfl ?_
  refine mg_put rfl rfl g1 rfl rfl ?_
  have a1 := mm_at_set (.inr (3, [.ref 31, .ref 32, .int (nI 0), .int bx, .int sx])) g1
  refine mg_run 2 rfl ?_
  refine mg_callV [.int (nI 0)] rfl rfl rfl a1 rfl rfl rfl rfl (c_Gr_beginTerm ⟨a1, mm_at_ne (by decide) g2, mm_at_ne (by decide) g3⟩ (by decide) (fun M1 q1 q2 => ?_))
  refine mg_run 2 rfl ?_
  have hon := (on_30 (M := M) _).tr q2
  refine lp_Gr_firstWrong hb _ 0 M1 (0, [], 0, nup (fun j => (f j).toBitVec.toNat) 0 0) (ta_keep hT hon (by omega)) ⟨_, w, q1, nup_upd (fun j _ => nI_bv (f j)) 0 0, fun j hj => absurd hj (Nat.not_lt_zero j), Nat.zero_le _, by show 0 < 401; decide, fun b hb => absurd hb (by show ¬ b ∈ []; exact List.not_mem_nil)⟩ ?_ rfl (Nat.zero_le _) (fun G p1 M' p2 p3 p4 => hQ _ G p1 M' p2 p3 (hon.tr p4)) (fun j p1 p2 M' p3 p4 => hN _ j p1 p2 M' p3 (hon.tr p4))
  refine ⟨by show 0 < 5; decide, ⟨Or.inl rfl, Nat.le_refl _⟩, fun b hb => absurd hb (by show ¬ b ∈ []; exact List.not_mem_nil), fun j hj _ => ?_, fun j hj => absurd hj (Nat.not_lt_zero j)⟩
  have e : j = 0 := by omega
  subst e
  exact Nat.le_refl _
theorem c_Gr_atomsFrom {M : mm_M} {st be : Nat} {ar : List Nat} {am : Nat → Nat} (h : gr_is M st ar be am) {p : Nat} (hp : p < 401) (hQ : Q (.inl (some (.int (nI (am p))))) M) : mm_Ct l sc Y_Gr_atomsFrom M [.ref 30, .int (nI p)] Q := by
  obtain ⟨f, w, ⟨g1, g2, g3⟩, hf, hw, hl, hbe, har⟩ := h
  refine mm_by k_Gr_atomsFrom w_Gr_atomsFrom rfl rfl ?_
  refine mg_run 1 rfl ?_
  refine mg_zlt rfl (by omega) ?_
  refine mg_run 2 rfl ?_
  refine mg_gt rfl (by omega) (by decide) (fun h => absurd h (by omega)) (fun h => ?_)
  refine mg_run 1 rfl ?_
  refine mg_get rfl rfl g1 rfl ?_
  refine mg_run 1 rfl ?_
  refine mg_ildN rfl g2 (by decide) hp ?_
  rw [hf p hp]
  refine mg_run 1 rfl ?_
  exact mg_ir rfl rfl rfl rfl hQ
end
end
section
/-! The builder: the row of a text. -/
def bu_st (M : mm_M) (nm : Nat → Int32) (k : Nat) (op : List Nat) : Prop := ∃ ar, bu_is M (nI k) (nI op.length) nm ar ∧ sk_in ar op ∧ op.length ≤ 20
theorem bu_st.bu {M : mm_M} {nm : Nat → Int32} {k : Nat} {op : List Nat} (h : bu_st M nm k op) : lb_bu M := by
  obtain ⟨ar, h1, -⟩ := h
  exact ⟨_, _, _, _, h1⟩
theorem bu_st.keep {M M' : mm_M} {lo hi : Nat} {nm : Nat → Int32} {k : Nat} {op : List Nat} (h : bu_st M nm k op) (hon : mm_on (mm_rg lo hi) M M') (hd : 35 < lo ∨ hi < 33) : bu_st M' nm k op := by
  obtain ⟨ar, ⟨h1, h2, h3⟩, h4⟩ := h
  exact ⟨ar, ⟨(hon 33 (mm_rg_n (by omega))).trans h1, (hon 34 (mm_rg_n (by omega))).trans h2, (hon 35 (mm_rg_n (by omega))).trans h3⟩, h4⟩
/-- what a letter means under the names -/
def bu_mean (nm : Nat → Int32) (c k : Nat) : Nat → Nat
  | 0 => c
  | j + 1 => if nm j = nI c then 1000 + k - 1 - j else bu_mean nm c k j
def bu_rep : Nat → List Nat
  | 0 => []
  | n + 1 => [64] ++ [1001] ++ bu_rep n
def bu_num (n : Nat) : List Nat := [92] ++ [92] ++ bu_rep n ++ [1000]
section
variable {l : Launch} {sc : Nat × (Nat → Int32)} {M : mm_M} {Q : mm_O → mm_M → Prop} {nm : Nat → Int32} {k : Nat} {op : List Nat}
theorem on_33 (e : va_E) : mm_on (mm_rg 33 35) M (M.set 33 e) := mm_on.set M _ (by unfold mm_rg; omega)
theorem on_34 (e : va_E) : mm_on (mm_rg 33 35) M (M.set 34 e) := mm_on.set M _ (by unfold mm_rg; omega)
theorem on_35 (e : va_E) : mm_on (mm_rg 33 35) M (M.set 35 e) := mm_on.set M _ (by unfold mm_rg; omega)
theorem lp_Bu_addApplications {n t : Nat} (hn : n ≤ 1000) : ∀ m i (M : mm_M) (bf : List Nat × Nat) (out : List Nat), te_is M t bf.1 bf.2 → wr bf out → n - i = m → i ≤ 1001 →
    (∀ M' bf', te_is M' t bf'.1 bf'.2 → wr bf' (out ++ List.replicate m 64) → mm_on (te_P t) M M' → Q (.inl none) M') →
    mm_Go l sc Y_Bu_addApplications 0 0 M [some (.ref 33), some (.int (nI n)), some (.ref t), some (.int (nI i))] [] 2 Q := by
  intro m
  induction m with
  | zero =>
    intro i M bf out hT hw hm hi hQ
    refine mg_run 2 rfl ?_
    refine mg_ge rfl (by omega) (by omega) (fun _ => ?_) (fun h => absurd h (by omega))
    refine mg_vr rfl rfl rfl rfl ?_
    exact hQ M bf hT (by rw [List.replicate_zero, List.append_nil]; exact hw) (mm_on.rf _ M)
  | succ m ih =>
    intro i M bf out hT hw hm hi hQ
    obtain ⟨f, t1, -⟩ := id hT
    refine mg_run 2 rfl ?_
    refine mg_ge rfl (by omega) (by omega) (fun h => absurd h (by omega)) (fun _ => ?_)
    refine mg_run 2 rfl ?_
    refine mg_callV [.int (nI 64)] rfl rfl rfl t1 rfl rfl rfl rfl (c_Te_add hT (fun M1 p1 p2 => ?_))
    refine mg_incN rfl rfl rfl ?_
    refine mg_run 1 rfl ?_
    refine ih (i + 1) M1 _ (out ++ [64]) p1 (hw.add _) (by omega) (by omega) (fun M' bf' q1 q2 q3 => hQ M' bf' q1 ?_ (p2.tr q3))
    rw [List.replicate_succ]
    rw [List.append_assoc] at q2
    exact q2
theorem c_Bu_addApplications {n t : Nat} (hn : n ≤ 1000) {bf : List Nat × Nat} {out : List Nat} (hT : te_is M t bf.1 bf.2) (hw : wr bf out) (hQ : ∀ M' bf', te_is M' t bf'.1 bf'.2 → wr bf' (out ++ List.replicate (n - 1) 64) → mm_on (te_P t) M M' → Q (.inl none) M') : mm_Ct l sc Y_Bu_addApplications M [.ref 33, .int (nI n), .ref t] Q := by
  refine mm_by k_Bu_addApplications w_Bu_addApplications rfl rfl ?_
  refine mg_run 2 rfl ?_
  exact lp_Bu_addApplications hn _ 1 M bf out hT hw rfl (by decide) hQ
theorem lp_Bu_addNumeral {n t : Nat} (hn : n ≤ 10000) : ∀ m i (M : mm_M) (bf : List Nat × Nat) (out : List Nat), te_is M t bf.1 bf.2 → wr bf out → n - i = m → i ≤ n →
    (∀ M' bf', te_is M' t bf'.1 bf'.2 → wr bf' (out ++ bu_rep m ++ [1000]) → mm_on (te_P t) M M' → Q (.inl none) M') →
    mm_Go l sc Y_Bu_addNumeral 0 0 M [some (.ref 33), some (.int (nI n)), some (.ref t), some (.int (nI i))] [] 14 Q := by
  intro m
  induction m with
  | zero =>
    intro i M bf out hT hw hm hi hQ
    obtain ⟨f, t1, -⟩ := id hT
    refine mg_run 2 rfl ?_
    refine mg_ge rfl (by omega) (by omega) (fun _ => ?_) (fun h => absurd h (by omega))
    refine mg_run 2 rfl ?_
    refine mg_callV [.int (nI 1000)] rfl rfl rfl t1 rfl rfl rfl rfl (c_Te_add hT (fun M1 p1 p2 => ?_))
    refine mg_vr rfl rfl rfl rfl ?_
    refine hQ M1 _ p1 ?_ p2
    rw [bu_rep, List.append_nil]
    exact hw.add 1000
  | succ m ih =>
    intro i M bf out hT hw hm hi hQ
    obtain ⟨f, t1, -⟩ := id hT
    refine mg_run 2 rfl ?_
    refine mg_ge rfl (by omega) (by omega) (fun h => absurd h (by omega)) (fun _ => ?_)
    refine mg_run 2 rfl ?_
    refine mg_callV [.int (nI 64)] rfl rfl rfl t1 rfl rfl rfl rfl (c_Te_add hT (fun M1 p1 p2 => ?_))
    obtain ⟨f1, t2, -⟩ := id p1
    refine mg_run 2 rfl ?_
    refine mg_callV [.int (nI 1001)] rfl rfl rfl t2 rfl rfl rfl rfl (c_Te_add p1 (fun M2 r1 r2 => ?_))
    refine mg_incN rfl rfl rfl ?_
    refine mg_run 1 rfl ?_
    refine ih (i + 1) M2 _ (out ++ [64] ++ [1001]) r1 ((hw.add 64).add 1001) (by omega) (by omega) (fun M' bf' q1 q2 q3 => hQ M' bf' q1 ?_ ((p2.tr r2).tr q3))
    rw [bu_rep]
    have e : out ++ ([64] ++ [1001] ++ bu_rep m) ++ [1000] = out ++ [64] ++ [1001] ++ bu_rep m ++ [1000] := by simp only [List.append_assoc]
    rw [e]
    exact q2
theorem c_Bu_addNumeral {n t : Nat} (hn : n ≤ 10000) {bf : List Nat × Nat} {out : List Nat} (hT : te_is M t bf.1 bf.2) (hw : wr bf out) (hQ : ∀ M' bf', te_is M' t bf'.1 bf'.2 → wr bf' (out ++ bu_num n) → mm_on (te_P t) M M' → Q (.inl none) M') : mm_Ct l sc Y_Bu_addNumeral M [.ref 33, .int (nI n), .ref t] Q := by
  obtain ⟨f, t1, -⟩ := id hT
  refine mm_by k_Bu_addNumeral w_Bu_addNumeral rfl rfl ?_
  refine mg_run 2 rfl ?_
  refine mg_callV [.int (nI 92)] rfl rfl rfl t1 rfl rfl rfl rfl (c_Te_add hT (fun M1 p1 p2 => ?_))
  obtain ⟨f1, t2, -⟩ := id p1
  refine mg_run 2 rfl ?_
  refine mg_callV [.int (nI 92)] rfl rfl rfl t2 rfl rfl rfl rfl (c_Te_add p1 (fun M2 r1 r2 => ?_))
  refine mg_run 2 rfl ?_
  refine lp_Bu_addNumeral hn _ 0 M2 _ (out ++ [92] ++ [92]) r1 ((hw.add 92).add 92) rfl (Nat.zero_le _) (fun M' bf' q1 q2 q3 => hQ M' bf' q1 ?_ ((p2.tr r2).tr q3))
  have e : out ++ bu_num n = out ++ [92] ++ [92] ++ bu_rep (n - 0) ++ [1000] := by
    unfold bu_num
    simp only [List.append_assoc, Nat.sub_zero]
  rw [e]
  exact q2
theorem c_Bu_opens (h : bu_st M nm k op) (hk : k ≤ 400) (hQ : ∀ M', bu_st M' nm k (if op.length < 20 then k :: op else op) → mm_on (mm_rg 33 35) M M' → Q (.inl none) M') : mm_Ct l sc Y_Bu_opens M [.ref 33] Q := by
  obtain ⟨ar, ⟨g1, g2, g3⟩, hs, hl⟩ := id h
  refine mm_by k_Bu_opens w_Bu_opens rfl rfl ?_
  refine mg_run 1 rfl ?_
  refine mg_get rfl rfl g1 rfl ?_
  refine mg_run 1 rfl ?_
  refine mg_ge rfl (by omega) (by decide) (fun h1 => ?_) (fun h1 => ?_)
  · refine mg_vr rfl rfl rfl rfl ?_
    rw [if_neg (by omega)] at hQ
    exact hQ M h (mm_on.rf _ M)
  · refine mg_run 1 rfl ?_
    refine mg_get rfl rfl g1 rfl ?_
    refine mg_run 1 rfl ?_
    refine mg_get rfl rfl g1 rfl ?_
    refine mg_run 1 rfl ?_
    refine mg_get rfl rfl g1 rfl ?_
    refine mg_istN rfl g3 (by decide) h1 ?_
    have a3 := mm_at_set (.inl (0, 20, .inl (upd ar op.length (nI k)))) g3
    have a1 : (M.set 35 (.inl (0, 20, .inl (upd ar op.length (nI k)))))[33]? = _ := mm_at_ne (by decide) g1
    have a2 : (M.set 35 (.inl (0, 20, .inl (upd ar op.length (nI k)))))[34]? = _ := mm_at_ne (by decide) g2
    refine mg_run 2 rfl ?_
    refine mg_get rfl rfl a1 rfl ?_
    refine mg_run 1 rfl ?_
    refine mg_addN rfl ?_
    refine mg_put rfl rfl a1 rfl rfl ?_
    refine mg_vr rfl rfl rfl rfl ?_
    rw [if_pos h1] at hQ
    exact hQ _ ⟨_, ⟨mm_at_set _ a1, mm_at_ne (by decide) a2, mm_at_ne (by decide) a3⟩, sk_push hs, by show op.length + 1 ≤ 20; omega⟩ ((on_35 _).tr (on_33 _))
theorem c_Bu_closes (h : bu_st M nm k op) (hQ : ∀ M', (∀ x op', op = x :: op' → bu_st M' nm x op') → (op = [] → bu_st M' nm k []) → mm_on (mm_rg 33 35) M M' → Q (.inl none) M') : mm_Ct l sc Y_Bu_closes M [.ref 33] Q := by
  obtain ⟨ar, ⟨g1, g2, g3⟩, hs, hl⟩ := id h
  refine mm_by k_Bu_closes w_Bu_closes rfl rfl ?_
  refine mg_run 1 rfl ?_
  refine mg_get rfl rfl g1 rfl ?_
  refine mg_zle rfl (by omega) (fun h1 => ?_) (fun h1 => ?_)
  · refine mg_vr rfl rfl rfl rfl ?_
    have e := List.length_eq_zero_iff.mp h1
    subst e
    exact hQ M (fun x op' h => by cases h) (fun _ => h) (mm_on.rf _ M)
  · cases op with
    | nil => exact absurd h1 (by decide)
    | cons x op' =>
      refine mg_run 2 rfl ?_
      refine mg_get rfl rfl g1 rfl ?_
      refine mg_run 1 rfl ?_
      refine mg_subN rfl (by exact h1) ?_
      refine mg_put rfl rfl g1 rfl rfl ?_
      have a1 := mm_at_set (.inr (1, [.ref 34, .ref 35, .int (nI k), .int (nI op'.length)])) g1
      have a2 : (M.set 33 (.inr (1, [.ref 34, .ref 35, .int (nI k), .int (nI op'.length)])))[34]? = _ := mm_at_ne (by decide) g2
      have a3 : (M.set 33 (.inr (1, [.ref 34, .ref 35, .int (nI k), .int (nI op'.length)])))[35]? = _ := mm_at_ne (by decide) g3
      have hl2 : op'.length + 1 ≤ 20 := hl
      refine mg_run 2 rfl ?_
      refine mg_get rfl rfl a1 rfl ?_
      refine mg_run 1 rfl ?_
      refine mg_get rfl rfl a1 rfl ?_
      refine mg_ildN rfl a3 (by decide) (by omega) ?_
      rw [sk_top hs]
      refine mg_put rfl rfl a1 rfl rfl ?_
      refine mg_vr rfl rfl rfl rfl ?_
      refine hQ _ (fun y o2 e => ?_) (fun e => by cases e) ((on_33 _).tr (on_33 _))
      cases e
      exact ⟨ar, ⟨mm_at_set _ a1, mm_at_ne (by decide) a2, mm_at_ne (by decide) a3⟩, sk_pop hs, by omega⟩
theorem c_Bu_addAbstraction {c : Nat} {bf : List Nat × Nat} {out : List Nat} (h : bu_st M nm k op) (hk : k < 400) (hT : te_is M 26 bf.1 bf.2) (hw : wr bf out)
    (hQ : ∀ M1 M' bf', bu_st M' (upd nm k (nI c)) (k + 1) op → bu_st M1 (upd nm k (nI c)) (k + 1) op → mm_on (mm_rg 33 35) M M1 → te_is M' 26 bf'.1 bf'.2 → wr bf' (out ++ [92]) → mm_on (te_P 26) M1 M' → Q (.inl none) M') : mm_Ct l sc Y_Bu_addAbstraction M [.ref 33, .int (nI c), .ref 26] Q := by
  obtain ⟨ar, ⟨g1, g2, g3⟩, hs, hl⟩ := id h
  refine mm_by k_Bu_addAbstraction w_Bu_addAbstraction rfl rfl ?_
  refine mg_run 1 rfl ?_
  refine mg_get rfl rfl g1 rfl ?_
  refine mg_run 1 rfl ?_
  refine mg_ge rfl (by omega) (by decide) (fun h1 => absurd h1 (by omega)) (fun h1 => ?_)
  refine mg_run 1 rfl ?_
  refine mg_get rfl rfl g1 rfl ?_
  refine mg_run 1 rfl ?_
  refine mg_get rfl rfl g1 rfl ?_
  refine mg_run 1 rfl ?_
  refine mg_istN rfl g2 (by decide) hk ?_
  have a2 := mm_at_set (.inl (0, 400, .inl (upd nm k (nI c)))) g2
  have a1 : (M.set 34 (.inl (0, 400, .inl (upd nm k (nI c)))))[33]? = _ := mm_at_ne (by decide) g1
  have a3 : (M.set 34 (.inl (0, 400, .inl (upd nm k (nI c)))))[35]? = _ := mm_at_ne (by decide) g3
  refine mg_run 2 rfl ?_
  refine mg_get rfl rfl a1 rfl ?_
  refine mg_run 1 rfl ?_
  refine mg_addN rfl ?_
  refine mg_put rfl rfl a1 rfl rfl ?_
  have hb1 : bu_st ((M.set 34 (.inl (0, 400, .inl (upd nm k (nI c))))).set 33 (.inr (1, [.ref 34, .ref 35, .int (nI (k + 1)), .int (nI op.length)]))) (upd nm k (nI c)) (k + 1) op := ⟨ar, ⟨mm_at_set _ a1, mm_at_ne (by decide) a2, mm_at_ne (by decide) a3⟩, hs, hl⟩
  have hon : mm_on (mm_rg 33 35) M ((M.set 34 (.inl (0, 400, .inl (upd nm k (nI c))))).set 33 (.inr (1, [.ref 34, .ref 35, .int (nI (k + 1)), .int (nI op.length)]))) := (on_34 _).tr (on_33 _)
  have hT1 := hT.keep hon (mm_rg_n (by decide)) (mm_rg_n (by decide))
  obtain ⟨f, t1, -⟩ := id hT1
  refine mg_run 2 rfl ?_
  refine mg_callV [.int (nI 92)] rfl rfl rfl t1 rfl rfl rfl rfl (c_Te_add hT1 (fun M2 p1 p2 => ?_))
  refine mg_vr rfl rfl rfl rfl ?_
  exact hQ _ M2 _ (hb1.keep p2.te (by decide)) hb1 hon p1 (hw.add 92) p2
theorem mg_sub1 {Y : mm_Y} {k2 n a : Nat} {L : mm_L} {S : List Value} {pc nx aux : Nat} {v : Int32} (hq : mm_at (mm_tab Y) pc = some (.isub, nx, aux, v)) (kk : mm_Go l sc Y k2 n M L (.int (nI a + -1) :: S) nx Q) : mm_Go l sc Y k2 n M L (.int (nI 1) :: .int (nI a) :: S) pc Q := by
  refine mg_x (M' := M) (L' := L) (S' := .int (nI a - nI 1) :: S) hq rfl ?_
  rw [Int32.sub_eq_add_neg]
  exact kk
theorem lp_Bu_meaningOf {c : Nat} (h : bu_st M nm k op) (hk : k ≤ 400) (hc : c < 256) : ∀ j, j ≤ k → Q (.inl (some (.int (nI (bu_mean nm c k j))))) M → mm_Go l sc Y_Bu_meaningOf 0 0 M [some (.ref 33), some (.int (nI c)), some (.int (nI j + -1))] [] 7 Q := by
  obtain ⟨ar, ⟨g1, g2, g3⟩, hs, hl⟩ := id h
  intro j
  induction j with
  | zero =>
    intro hj hQ
    have e : nI 0 + -1 = (-1 : Int32) := by decide
    rw [e]
    refine mg_run 1 rfl ?_
    refine mg_zltM rfl ?_
    refine mg_run 1 rfl ?_
    exact mg_ir rfl rfl rfl rfl hQ
  | succ j ih =>
    intro hj hQ
    rw [pk_m1]
    refine mg_run 1 rfl ?_
    refine mg_zlt rfl (by omega) ?_
    refine mg_run 1 rfl ?_
    refine mg_get rfl rfl g1 rfl ?_
    refine mg_run 1 rfl ?_
    refine mg_ildN rfl g2 (by decide) (by omega) ?_
    refine mg_run 1 rfl ?_
    refine mg_icmp rfl (fun h1 => ?_) (fun h1 => ?_)
    · refine mg_run 2 rfl ?_
      have h2 : ¬ nm j = nI c := h1
      rw [bu_mean, if_neg h2] at hQ
      exact ih (by omega) hQ
    · have h2 : nm j = nI c := Decidable.not_not.mp h1
      rw [bu_mean, if_pos h2] at hQ
      refine mg_run 2 rfl ?_
      refine mg_get rfl rfl g1 rfl ?_
      refine mg_addN rfl ?_
      refine mg_run 1 rfl ?_
      refine mg_subN rfl (by omega) ?_
      refine mg_run 1 rfl ?_
      refine mg_subN rfl (by omega) ?_
      exact mg_ir rfl rfl rfl rfl hQ
theorem c_Bu_meaningOf {c : Nat} (h : bu_st M nm k op) (hk : k ≤ 400) (hc : c < 256) (hQ : Q (.inl (some (.int (nI (bu_mean nm c k k))))) M) : mm_Ct l sc Y_Bu_meaningOf M [.ref 33, .int (nI c)] Q := by
  obtain ⟨ar, ⟨g1, g2, g3⟩, hs, hl⟩ := id h
  refine mm_by k_Bu_meaningOf w_Bu_meaningOf rfl rfl ?_
  refine mg_run 1 rfl ?_
  refine mg_get rfl rfl g1 rfl ?_
  refine mg_run 1 rfl ?_
  refine mg_sub1 rfl ?_
  refine mg_run 1 rfl ?_
  exact lp_Bu_meaningOf h hk hc k (Nat.le_refl _) hQ
end
end
section
/-! The builder over a whole text, and read. -/
def bu_go (tp : List Nat) (am : Nat → Nat) : Nat → Nat → (Nat → Int32) → Nat → List Nat → Nat → List Nat
  | 0, _, _, _, _, _ => []
  | m + 1, i, nm, k, op, na =>
    if tp.getD i 0 = 92 then bu_go tp am m (i + 1) nm k op 1
    else if tp.getD i 0 = 46 then List.replicate (am (i + 1) - 1) 64 ++ bu_go tp am m (i + 1) nm k op 0
    else if tp.getD i 0 = 40 then List.replicate (am (i + 1) - 1) 64 ++ bu_go tp am m (i + 1) nm k (if op.length < 20 then k :: op else op) na
    else if tp.getD i 0 = 41 then bu_go tp am m (i + 1) nm (op.headD k) op.tail na
    else if tp.getD i 0 = 35 then bu_num (ta_num tp i) ++ bu_go tp am m (i + 1) nm k op na
    else if 97 ≤ tp.getD i 0 ∧ tp.getD i 0 ≤ 122 then
      (if na = 0 then [bu_mean nm (tp.getD i 0) k k] ++ bu_go tp am m (i + 1) nm k op na else [92] ++ bu_go tp am m (i + 1) (upd nm k (nI (tp.getD i 0))) (k + 1) op na)
    else if tp.getD i 0 = 83 ∨ tp.getD i 0 = 75 ∨ tp.getD i 0 = 73 then [tp.getD i 0] ++ bu_go tp am m (i + 1) nm k op na
    else bu_go tp am m (i + 1) nm k op na
section
variable {l : Launch} {sc : Nat × (Nat → Int32)} {Q : mm_O → mm_M → Prop} {tp : List Nat} {sl : Nat → List Nat} {pl : Int32} {o st be : Nat} {ar : List Nat} {am : Nat → Nat}
theorem ta_num_le (hb : ∀ j, tp.getD j 0 < 256) (i : Nat) : ta_num tp i ≤ 10000 := by
  have h1 := hb (i + 1)
  have h2 := hb (i + 2)
  unfold ta_num
  split <;> omega
theorem lp_Bu_build (hb : ∀ j, tp.getD j 0 < 256) (hA : ∀ j, j ≤ tp.length → bg tp j → am j ≤ 400) (h35 : ∀ j, j < tp.length → tp.getD j 0 = 35 → 48 ≤ tp.getD (j + 1) 0) : ∀ m i nm k op na (x6 : Option Value) (M : mm_M) (bf : List Nat × Nat) (out : List Nat), lb_is M sl tp pl o → gr_is M st ar be am → bu_st M nm k op → te_is M 26 bf.1 bf.2 → wr bf out → na < 2 → k ≤ i → (∀ x ∈ op, x ≤ i) → tp.length - i = m → i ≤ tp.length →
    (∀ M' bf', lb_is M' sl tp pl o → te_is M' 26 bf'.1 bf'.2 → wr bf' (out ++ bu_go tp am m i nm k op na) → mm_on mm_bn M M' → Q (.inl none) M') →
    mm_Go l sc Y_Bu_build 0 0 M [some (.ref 33), some (.ref 28), some (.ref 30), some (.ref 26), some (.int (nI na)), some (.int (nI i)), x6] [] 30 Q := by
  intro m
  induction m with
  | zero =>
    intro i nm k op na x6 M bf out hI hG hB hT hw hna hk hop hm hi hQ
    have hta := hI.2.2.2.1
    obtain ⟨ft, t1, t2, t3, t4⟩ := id hta
    refine mg_run 2 rfl ?_
    refine mg_callV [] rfl rfl rfl t1 rfl rfl rfl rfl (c_Ta_length hta ?_)
    refine mg_ge rfl (by omega) (by omega) (fun _ => ?_) (fun h => absurd h (by omega))
    refine mg_vr rfl rfl rfl rfl ?_
    exact hQ M bf hI hT (by rw [bu_go, List.append_nil]; exact hw) (mm_on.rf _ M)
  | succ m ih =>
    intro i nm k op na x6 M bf out hI hG hB hT hw hna hk hop hm hi hQ
    have hta := hI.2.2.2.1
    obtain ⟨ft, t1, t2, t3, t4⟩ := id hta
    obtain ⟨f, w, ⟨g1, g2, g3⟩, -⟩ := id hG
    obtain ⟨br, ⟨b1, b2, b3⟩, hs, hl⟩ := id hB
    obtain ⟨fw, w1, -⟩ := id hT
    have hc := hb i
    refine mg_run 2 rfl ?_
    refine mg_callV [] rfl rfl rfl t1 rfl rfl rfl rfl (c_Ta_length hta ?_)
    refine mg_ge rfl (by omega) (by omega) (fun h => absurd h (by omega)) (fun hlt => ?_)
    refine mg_run 2 rfl ?_
    refine mg_callV [.int (nI i)] rfl rfl rfl t1 rfl rfl rfl rfl (c_Ta_at hta (by omega) ?_)
    have nxt : ∀ (nm' : Nat → Int32) (k' : Nat) (op' : List Nat) (na' : Nat) (M1 : mm_M) (bf1 : List Nat × Nat) (p : List Nat), lb_is M1 sl tp pl o → gr_is M1 st ar be am → bu_st M1 nm' k' op' → te_is M1 26 bf1.1 bf1.2 → wr bf1 (out ++ p) → na' < 2 → k' ≤ i + 1 → (∀ x ∈ op', x ≤ i + 1) → mm_on mm_bn M M1 → bu_go tp am (m + 1) i nm k op na = p ++ bu_go tp am m (i + 1) nm' k' op' na' →
        mm_Go l sc Y_Bu_build 0 0 M1 [some (.ref 33), some (.ref 28), some (.ref 30), some (.ref 26), some (.int (nI na')), some (.int (nI i)), some (.int (nI (tp.getD i 0)))] [] 206 Q := by
      intro nm' k' op' na' M1 bf1 p q1 q2 q3 q4 q5 q6 q7 q8 q9 q10
      refine mg_incN rfl rfl rfl ?_
      refine mg_run 1 rfl ?_
      refine ih (i + 1) nm' k' op' na' _ M1 bf1 (out ++ p) q1 q2 q3 q4 q5 q6 q7 q8 (by omega) (by omega) (fun M' bf' r1 r2 r3 r4 => hQ M' bf' r1 r2 ?_ (q9.tr r4))
      rw [q10, ← List.append_assoc]
      exact r3
    have hop1 : ∀ x ∈ op, x ≤ i + 1 := fun x hx => Nat.le_succ_of_le (hop x hx)
    have hw0 : wr bf (out ++ []) := by rw [List.append_nil]; exact hw
    have hon0 := mm_on.rf mm_bn M
    refine mg_run 3 rfl ?_
    refine mg_ne rfl (by omega) (by decide) (fun c1 => ?_) (fun c1 => ?_)
    · refine mg_run 2 rfl ?_
      refine mg_ne rfl (by omega) (by decide) (fun c2 => ?_) (fun c2 => ?_)
      · refine mg_run 2 rfl ?_
        refine mg_ne rfl (by omega) (by decide) (fun c3 => ?_) (fun c3 => ?_)
        · refine mg_run 2 rfl ?_
          refine mg_ne rfl (by omega) (by decide) (fun c4 => ?_) (fun c4 => ?_)
          · refine mg_run 2 rfl ?_
            refine mg_ne rfl (by omega) (by decide) (fun c5 => ?_) (fun c5 => ?_)
            · have com : ¬ (97 ≤ tp.getD i 0 ∧ tp.getD i 0 ≤ 122) → mm_Go l sc Y_Bu_build 0 0 M [some (.ref 33), some (.ref 28), some (.ref 30), some (.ref 26), some (.int (nI na)), some (.int (nI i)), some (.int (nI (tp.getD i 0)))] [] 171 Q := by
                intro c6
                refine mg_run 1 rfl ?_
                refine mg_callN [.int (nI (tp.getD i 0))] rfl rfl rfl rfl rfl (c_LB_isLetter (fun hL => ?_) (fun hL => ?_))
                · rw [let_nI (by omega)] at hL
                  exact absurd hL c6
                refine mg_zeq rfl (by decide) (fun _ => ?_) (fun h => absurd h (by decide))
                refine mg_run 1 rfl ?_
                refine mg_callN [.int (nI (tp.getD i 0))] rfl rfl rfl rfl rfl (c_LB_isCombinator (by omega) (fun hC => ?_) (fun hC => ?_))
                · refine mg_zeq rfl (by decide) (fun h => absurd h (by decide)) (fun _ => ?_)
                  refine mg_run 2 rfl ?_
                  refine mg_callV [.int (nI (tp.getD i 0))] rfl rfl rfl w1 rfl rfl rfl rfl (c_Te_add hT (fun M1 p1 p2 => ?_))
                  refine nxt nm k op na M1 _ [tp.getD i 0] (hI.work ⟨_, _, p1⟩ p2.te) (hG.keep p2.te (by decide)) (hB.keep p2.te (by decide)) p1 (hw.add _) hna (by omega) hop1 (p2.te.bn (by decide)) ?_
                  rw [bu_go, if_neg c1, if_neg c2, if_neg c3, if_neg c4, if_neg c5, if_neg c6]
                  exact if_pos hC
                · refine mg_zeq rfl (by decide) (fun _ => ?_) (fun h => absurd h (by decide))
                  refine nxt nm k op na M bf [] hI hG hB hT hw0 hna (by omega) hop1 hon0 ?_
                  rw [bu_go, if_neg c1, if_neg c2, if_neg c3, if_neg c4, if_neg c5, if_neg c6]
                  exact if_neg hC
              refine mg_run 1 rfl ?_
              refine mg_zeq rfl (by omega) (fun c7 => ?_) (fun c7 => ?_)
              · by_cases c6 : 97 ≤ tp.getD i 0 ∧ tp.getD i 0 ≤ 122
                · refine mg_run 1 rfl ?_
                  refine mg_callN [.int (nI (tp.getD i 0))] rfl rfl rfl rfl rfl (c_LB_isLetter (fun hL => ?_) (fun hL => ?_))
                  · refine mg_zeq rfl (by decide) (fun h => absurd h (by decide)) (fun _ => ?_)
                    refine mg_run 3 rfl ?_
                    refine mg_callV [.int (nI (tp.getD i 0))] rfl rfl rfl b1 rfl rfl rfl rfl (c_Bu_meaningOf hB (by omega) hc ?_)
                    refine mg_callV [.int (nI (bu_mean nm (tp.getD i 0) k k))] rfl rfl rfl w1 rfl rfl rfl rfl (c_Te_add hT (fun M1 p1 p2 => ?_))
                    refine mg_run 1 rfl ?_
                    refine nxt nm k op na M1 _ [bu_mean nm (tp.getD i 0) k k] (hI.work ⟨_, _, p1⟩ p2.te) (hG.keep p2.te (by decide)) (hB.keep p2.te (by decide)) p1 (hw.add _) hna (by omega) hop1 (p2.te.bn (by decide)) ?_
                    rw [bu_go, if_neg c1, if_neg c2, if_neg c3, if_neg c4, if_neg c5, if_pos c6, if_pos c7]
                  · exact absurd ((let_nI (by omega)).mpr c6) hL
                · exact com c6
              · refine mg_run 1 rfl ?_
                refine mg_callN [.int (nI (tp.getD i 0))] rfl rfl rfl rfl rfl (c_LB_isLetter (fun hL => ?_) (fun hL => ?_))
                · rw [let_nI (by omega)] at hL
                  refine mg_zeq rfl (by decide) (fun h => absurd h (by decide)) (fun _ => ?_)
                  refine mg_run 3 rfl ?_
                  refine mg_callV [.int (nI (tp.getD i 0)), .ref 26] rfl rfl rfl b1 rfl rfl rfl rfl (c_Bu_addAbstraction hB (by omega) hT hw (fun M0 M1 bf1 p1 p0 p2 p3 p4 p5 => ?_))
                  refine mg_run 1 rfl ?_
                  have I0 := hI.bu p0.bu p2
                  refine nxt _ (k + 1) op na M1 bf1 [92] (I0.work ⟨_, _, p3⟩ p5.te) ((hG.keep p2 (by decide)).keep p5.te (by decide)) p1 p3 p4 hna (by omega) hop1 ((p2.bn (by decide)).tr (p5.te.bn (by decide))) ?_
                  rw [bu_go, if_neg c1, if_neg c2, if_neg c3, if_neg c4, if_neg c5, if_pos hL, if_neg (by omega)]
                · rw [let_nI (by omega)] at hL
                  refine mg_zeq rfl (by decide) (fun _ => ?_) (fun h => absurd h (by decide))
                  exact com hL
            · refine mg_run 3 rfl ?_
              refine mg_callV [.int (nI i)] rfl rfl rfl t1 rfl rfl rfl rfl (c_Ta_numberBehind hta (by omega) hb (h35 i hlt c5) ?_)
              refine mg_run 1 rfl ?_
              refine mg_callV [.int (nI (ta_num tp i)), .ref 26] rfl rfl rfl b1 rfl rfl rfl rfl (c_Bu_addNumeral (ta_num_le hb i) hT hw (fun M1 bf1 p1 p3 p2 => ?_))
              refine mg_run 1 rfl ?_
              refine nxt nm k op na M1 bf1 (bu_num (ta_num tp i)) (hI.work ⟨_, _, p1⟩ p2.te) (hG.keep p2.te (by decide)) (hB.keep p2.te (by decide)) p1 p3 hna (by omega) hop1 (p2.te.bn (by decide)) ?_
              rw [bu_go, if_neg c1, if_neg c2, if_neg c3, if_neg c4, if_pos c5]
          · refine mg_run 1 rfl ?_
            refine mg_callV [] rfl rfl rfl b1 rfl rfl rfl rfl (c_Bu_closes hB (fun M1 p1 p0 p2 => ?_))
            refine mg_run 1 rfl ?_
            have B1 : bu_st M1 nm (op.headD k) op.tail := by
              cases op with
              | nil => exact p0 rfl
              | cons x op' => exact p1 x op' rfl
            have T1 := hT.keep p2 (mm_rg_n (by decide)) (mm_rg_n (by decide))
            refine nxt nm (op.headD k) op.tail na M1 bf [] (hI.bu B1.bu p2) (hG.keep p2 (by decide)) B1 T1 hw0 hna ?_ (fun x hx => hop1 x (List.mem_of_mem_tail hx)) (p2.bn (by decide)) ?_
            · cases op with
              | nil => show k ≤ i + 1; omega
              | cons x op' => exact hop1 x List.mem_cons_self
            · rw [bu_go, if_neg c1, if_neg c2, if_neg c3, if_pos c4]
              rfl
        · refine mg_run 1 rfl ?_
          refine mg_callV [] rfl rfl rfl b1 rfl rfl rfl rfl (c_Bu_opens hB (by omega) (fun M1 p1 p2 => ?_))
          have I1 := hI.bu p1.bu p2
          have G1 := hG.keep p2 (by decide)
          have T1 := hT.keep p2 (mm_rg_n (by decide)) (mm_rg_n (by decide))
          obtain ⟨f1, w', ⟨g1', -⟩, -⟩ := id G1
          obtain ⟨br1, ⟨b1', -⟩, -⟩ := id p1
          refine mg_run 4 rfl ?_
          refine mg_addN rfl ?_
          refine mg_callV [.int (nI (i + 1))] rfl rfl rfl g1' rfl rfl rfl rfl (c_Gr_atomsFrom G1 (by omega) ?_)
          refine mg_run 1 rfl ?_
          refine mg_callV [.int (nI (am (i + 1))), .ref 26] rfl rfl rfl b1' rfl rfl rfl rfl (c_Bu_addApplications (Nat.le_trans (hA (i + 1) hlt (bg_of (Or.inr c3))) (by decide)) T1 hw (fun M2 bf1 q1 q3 q2 => ?_))
          refine mg_run 1 rfl ?_
          refine nxt nm k _ na M2 bf1 (List.replicate (am (i + 1) - 1) 64) (I1.work ⟨_, _, q1⟩ q2.te) (G1.keep q2.te (by decide)) (p1.keep q2.te (by decide)) q1 q3 hna (by omega) ?_ ((p2.bn (by decide)).tr (q2.te.bn (by decide))) ?_
          · intro x hx
            by_cases c9 : op.length < 20
            · rw [if_pos c9] at hx
              rcases List.mem_cons.mp hx with rfl | hx
              · omega
              · exact hop1 x hx
            · rw [if_neg c9] at hx
              exact hop1 x hx
          · rw [bu_go, if_neg c1, if_neg c2, if_pos c3]
      · refine mg_run 6 rfl ?_
        refine mg_addN rfl ?_
        refine mg_callV [.int (nI (i + 1))] rfl rfl rfl g1 rfl rfl rfl rfl (c_Gr_atomsFrom hG (by omega) ?_)
        refine mg_run 1 rfl ?_
        refine mg_callV [.int (nI (am (i + 1))), .ref 26] rfl rfl rfl b1 rfl rfl rfl rfl (c_Bu_addApplications (Nat.le_trans (hA (i + 1) hlt (bg_of (Or.inl c2))) (by decide)) hT hw (fun M2 bf1 q1 q3 q2 => ?_))
        refine mg_run 1 rfl ?_
        refine nxt nm k op 0 M2 bf1 (List.replicate (am (i + 1) - 1) 64) (hI.work ⟨_, _, q1⟩ q2.te) (hG.keep q2.te (by decide)) (hB.keep q2.te (by decide)) q1 q3 (by decide) (by omega) hop1 (q2.te.bn (by decide)) ?_
        rw [bu_go, if_neg c1, if_pos c2]
    · refine mg_run 3 rfl ?_
      refine nxt nm k op 1 M bf [] hI hG hB hT hw0 (by decide) (by omega) hop1 hon0 ?_
      rw [bu_go, if_pos c1]
      rfl
/-- the row of a right text -/
def te_bt (tp : List Nat) (am : Nat → Nat) (nm : Nat → Int32) : List Nat := List.replicate (am 0 - 1) 64 ++ bu_go tp am tp.length 0 nm 0 [] 0
theorem c_Bu_build {M : mm_M} (hb : ∀ j, tp.getD j 0 < 256) (hA : ∀ j, j ≤ tp.length → bg tp j → am j ≤ 400) (h35 : ∀ j, j < tp.length → tp.getD j 0 = 35 → 48 ≤ tp.getD (j + 1) 0) (hI : lb_is M sl tp pl o) (hG : gr_is M st ar be am)
    (hQ : ∀ nm M' bf', lb_is M' sl tp pl o → te_is M' 26 bf'.1 bf'.2 → wr bf' (te_bt tp am nm) → mm_on mm_bn M M' → Q (.inl none) M') : mm_Ct l sc Y_Bu_build M [.ref 33, .ref 28, .ref 30, .ref 26] Q := by
  obtain ⟨kx, ox, nm, br, b1, b2, b3⟩ := hI.2.2.2.2.2.1
  refine mm_by k_Bu_build w_Bu_build rfl rfl ?_
  refine mg_run 2 rfl ?_
  refine mg_put rfl rfl b1 rfl rfl ?_
  have a1 := mm_at_set (.inr (1, [.ref 34, .ref 35, .int (nI 0), .int ox])) b1
  have a2 : (M.set 33 (.inr (1, [.ref 34, .ref 35, .int (nI 0), .int ox])))[34]? = _ := mm_at_ne (by decide) b2
  have a3 : (M.set 33 (.inr (1, [.ref 34, .ref 35, .int (nI 0), .int ox])))[35]? = _ := mm_at_ne (by decide) b3
  refine mg_run 2 rfl ?_
  refine mg_put rfl rfl a1 rfl rfl ?_
  have B2 : bu_st ((M.set 33 (.inr (1, [.ref 34, .ref 35, .int (nI 0), .int ox]))).set 33 (.inr (1, [.ref 34, .ref 35, .int (nI 0), .int (nI 0)]))) nm 0 [] := ⟨br, ⟨mm_at_set _ a1, mm_at_ne (by decide) a2, mm_at_ne (by decide) a3⟩, fun j hj => absurd hj (Nat.not_lt_zero j), Nat.zero_le _⟩
  have hon : mm_on (mm_rg 33 35) M ((M.set 33 (.inr (1, [.ref 34, .ref 35, .int (nI 0), .int ox]))).set 33 (.inr (1, [.ref 34, .ref 35, .int (nI 0), .int (nI 0)]))) := (on_33 _).tr (on_33 _)
  have I2 := hI.bu B2.bu hon
  have G2 := hG.keep hon (by decide)
  obtain ⟨rw0, gw0, hw0⟩ := I2.2.2.1
  obtain ⟨fw, w1, -⟩ := id hw0
  refine mg_run 1 rfl ?_
  refine mg_callV [] rfl rfl rfl w1 rfl rfl rfl rfl (c_Te_clear hw0 (fun M3 p1 p2 => ?_))
  have I3 := I2.work ⟨_, _, p1⟩ p2.te
  have G3 := G2.keep p2.te (by decide)
  have B3 := B2.keep p2.te (by decide)
  obtain ⟨f3, w3, ⟨g1, -⟩, -⟩ := id G3
  obtain ⟨br3, ⟨c1, -⟩, -⟩ := id B3
  refine mg_run 3 rfl ?_
  refine mg_callV [.int (nI 0)] rfl rfl rfl g1 rfl rfl rfl rfl (c_Gr_atomsFrom G3 (by decide) ?_)
  refine mg_run 1 rfl ?_
  refine mg_callV [.int (nI (am 0)), .ref 26] rfl rfl rfl c1 rfl rfl rfl rfl (c_Bu_addApplications (bf := ([], 0)) (Nat.le_trans (hA 0 (Nat.zero_le _) (Or.inl rfl)) (by decide)) p1 wr0 (fun M4 bf1 q1 q3 q2 => ?_))
  refine mg_run 4 rfl ?_
  refine lp_Bu_build hb hA h35 _ 0 nm 0 [] 0 none M4 bf1 _ (I3.work ⟨_, _, q1⟩ q2.te) (G3.keep q2.te (by decide)) (B3.keep q2.te (by decide)) q1 q3 (by decide) (Nat.le_refl _) (fun x hx => absurd hx List.not_mem_nil) rfl (Nat.zero_le _) (fun M' bf' r1 r2 r3 r4 => ?_)
  exact hQ nm M' bf' r1 r2 r3 ((((hon.bn (by decide)).tr (p2.te.bn (by decide))).tr (q2.te.bn (by decide))).tr r4)
end
end
section
/-! The bench: read. -/
section
variable {l : Launch} {sc : Nat × (Nat → Int32)} {M : mm_M} {Q : mm_O → mm_M → Prop} {sl : Nat → List Nat} {tp : List Nat} {pl : Int32} {o : Nat}
theorem nI_m1 {j : Nat} (hj : j < 2 ^ 31) : ¬ nI j = -1 := by
  intro h
  have h2 := congrArg Int32.toInt h
  rw [nI_toInt hj] at h2
  have h3 : (-1 : Int32).toInt = -1 := by decide
  rw [h3] at h2
  omega
theorem on_0 (e : va_E) : mm_on (mm_rg 0 0) M (M.set 0 e) := mm_on.set M _ (by unfold mm_rg; omega)
theorem gr_end_35 {G : gr_G} (h : gr_in tp tp.length G.1 G.2.1 G.2.2.1 G.2.2.2) (he : gr_end G.1 G.2.1 G.2.2.1 G.2.2.2 = true) : ∀ j, j < tp.length → tp.getD j 0 = 35 → 48 ≤ tp.getD (j + 1) 0 := by
  intro j hj e
  rcases h.2.2.2.2 j hj e with ⟨-, h2⟩ | ⟨-, h2⟩
  · exact h2
  · have h3 := (of_decide_eq_true he).1
    omega
theorem gr_go_end : ∀ m i (G G' : gr_G), gr_go tp m i G = .inr G' → gr_end G'.1 G'.2.1 G'.2.2.1 G'.2.2.2 = true := by
  intro m
  induction m with
  | zero =>
    intro i G G' h
    rw [gr_go] at h
    split at h
    · next h9 => cases h; exact h9
    · cases h
  | succ m ih =>
    intro i G G' h
    rw [gr_go] at h
    split at h
    · cases h
    · exact ih _ _ _ h
theorem c_LB_read (hl : l.stackTraces = false) (h : lb_is M sl tp pl o) (hb : ∀ j, tp.getD j 0 < 256) {a : Nat} (ha : a < 12)
    (hQ : ∀ am nm G, gr_go tp tp.length 0 (0, [], 0, nup am 0 0) = .inr G → (te_bt tp G.2.2.2 nm).length ≤ 2000 → ∀ M', lb_is M' (sl_up sl a (te_bt tp G.2.2.2 nm)) [] (-1) o → mm_on mm_bn M M' → Q (.inl (some (.int (nI (te_bt tp G.2.2.2 nm).length)))) M')
    (hG : ∀ am nm G, gr_go tp tp.length 0 (0, [], 0, nup am 0 0) = .inr G → 2000 < (te_bt tp G.2.2.2 nm).length → ∀ M', lb_is M' sl [] (-1) o → mm_on mm_bn M M' → Q (.inr 0) M')
    (hN : ∀ am j, gr_go tp tp.length 0 (0, [], 0, nup am 0 0) = .inl j → j ≤ tp.length → ∀ M', lb_is M' sl [] (nI j) o → mm_on mm_bn M M' → Q (.inr 0) M') : mm_Ct l sc Y_LB_read M [.ref 0, .int (nI a)] Q := by
  have hT := h.2.2.2.1
  obtain ⟨f, t1, t2, t3, t4⟩ := id hT
  obtain ⟨op, bx, sx, fa, wa, g1, -⟩ := id h.2.2.2.2.1
  refine mm_by k_LB_read w_LB_read rfl rfl ?_
  refine mg_run 2 rfl ?_
  refine mg_callV [.int (nI a)] rfl rfl rfl h.1.1 rfl rfl rfl rfl (c_LB_requireSlot ha ?_)
  refine mg_run 2 rfl ?_
  refine mg_get rfl rfl h.1.1 rfl ?_
  refine mg_run 1 rfl ?_
  refine mg_get rfl rfl h.1.1 rfl ?_
  refine mg_callV [.ref 28] rfl rfl rfl g1 rfl rfl rfl rfl (c_Gr_firstWrong hb hT h.2.2.2.2.1 (fun am G e M1 p1 p2 p3 => ?_) (fun am j e hj M1 p1 p3 => ?_))
  · have h1 := h.gra p1.gra p3
    refine mg_put rfl rfl h1.1.1 rfl rfl ?_
    have h2 := h1.place (-1)
    have p4 := p1.keep (on_0 (M := M1) (.inr (7, [.ref 1, .ref 26, .ref 28, .ref 30, .ref 33, .ref 36, .ref 39, .ref 47, .int (-1)]))) (by decide)
    have hon2 : mm_on mm_bn M (M1.set 0 (.inr (7, [.ref 1, .ref 26, .ref 28, .ref 30, .ref 33, .ref 36, .ref 39, .ref 47, .int (-1)]))) := (p3.bn (by decide)).tr ((on_0 _).bn (by decide))
    obtain ⟨kx, ox, nmx, brx, b1, -⟩ := id h2.2.2.2.2.2.1
    refine mg_run 1 rfl ?_
    refine mg_get rfl rfl h2.1.1 rfl ?_
    refine mg_run 1 rfl ?_
    refine mg_icmp rfl (fun h9 => absurd rfl h9) (fun _ => ?_)
    refine mg_run 1 rfl ?_
    refine mg_get rfl rfl h2.1.1 rfl ?_
    refine mg_run 1 rfl ?_
    refine mg_get rfl rfl h2.1.1 rfl ?_
    refine mg_run 1 rfl ?_
    refine mg_get rfl rfl h2.1.1 rfl ?_
    refine mg_run 1 rfl ?_
    refine mg_get rfl rfl h2.1.1 rfl ?_
    refine mg_callV [.ref 28, .ref 30, .ref 26] rfl rfl rfl b1 rfl rfl rfl rfl (c_Bu_build hb (fun j h8 h9 => Nat.le_trans (p2.2.2.2.1 j h8 h9) t4) (gr_end_35 p2 (gr_go_end _ _ _ _ e)) h2 p4 (fun nm M3 bf q1 q2 q3 q4 => ?_))
    have hT3 := q1.2.2.2.1
    obtain ⟨f3, t31, -⟩ := id hT3
    refine mg_run 1 rfl ?_
    refine mg_get rfl rfl q1.1.1 rfl ?_
    refine mg_callV [] rfl rfl rfl t31 rfl rfl rfl rfl (c_Ta_clear hT3 (fun M4 r1 r2 => ?_))
    have h4 := q1.tape r1 r2.te
    have W4 := q2.keep r2.te (mm_rg_n (by decide)) (mm_rg_n (by decide))
    have hon4 := (hon2.tr q4).tr (r2.te.bn (by decide))
    obtain ⟨fw, w4, -, -, -, gle⟩ := id W4
    refine mg_run 1 rfl ?_
    refine mg_get rfl rfl h4.1.1 rfl ?_
    refine mg_run 1 rfl ?_
    refine mg_icmp rfl (fun _ => ?_) (fun h9 => absurd rfl h9)
    refine mg_run 1 rfl ?_
    refine mg_get rfl rfl h4.1.1 rfl ?_
    refine mg_callV [] rfl rfl rfl w4 rfl rfl rfl rfl (c_Te_isTooGreat W4 ?_)
    refine mg_zeq rfl (by omega) (fun h0 => ?_) (fun h0 => ?_)
    · obtain ⟨e1, e2⟩ := q3.ok h0
      have W5 := te_is_wr W4 e2
      obtain ⟨ga, hga⟩ := h4.2.1 a ha
      obtain ⟨fc, c1, -⟩ := id hga
      refine mg_run 1 rfl ?_
      refine mg_get rfl rfl h4.1.1 rfl ?_
      refine mg_run 1 rfl ?_
      refine mg_aldN rfl h4.1.2 (by decide) ha (lb_f12 ha) ?_
      refine mg_run 1 rfl ?_
      refine mg_get rfl rfl h4.1.1 rfl ?_
      refine mg_callV [.ref 26] rfl rfl rfl c1 rfl rfl rfl rfl (c_Te_become hga W5 (sl_w ha).2 (fun M5 y1 y2 => ?_))
      have h5 := h4.slot ha y1 y2
      have W6 := W5.keep y2 (sl_w ha).2.1 (sl_w ha).2.2
      obtain ⟨fw6, w7, -⟩ := id W6
      refine mg_run 1 rfl ?_
      refine mg_get rfl rfl h5.1.1 rfl ?_
      refine mg_callV [] rfl rfl rfl w7 rfl rfl rfl rfl (c_Te_length W6 ?_)
      refine mg_ir rfl rfl rfl rfl ?_
      exact hQ am nm G e e1 M5 h5 (hon4.tr (y2.te.bn (by omega)))
    · exact mg_throw mm_xs3 rfl rfl rfl rfl rfl rfl rfl hl (hG am nm G e (q3.not h0) M4 h4 hon4)
  · have h1 := h.gra p1 p3
    have hj31 : j < 2 ^ 31 := by omega
    refine mg_put rfl rfl h1.1.1 rfl rfl ?_
    have h2 := h1.place (nI j)
    have hon2 : mm_on mm_bn M (M1.set 0 (.inr (7, [.ref 1, .ref 26, .ref 28, .ref 30, .ref 33, .ref 36, .ref 39, .ref 47, .int (nI j)]))) := (p3.bn (by decide)).tr ((on_0 _).bn (by decide))
    have hT3 := h2.2.2.2.1
    obtain ⟨f3, t31, -⟩ := id hT3
    refine mg_run 1 rfl ?_
    refine mg_get rfl rfl h2.1.1 rfl ?_
    refine mg_run 1 rfl ?_
    refine mg_icmp rfl (fun _ => ?_) (fun h9 => absurd (nI_m1 hj31) h9)
    refine mg_run 1 rfl ?_
    refine mg_get rfl rfl h2.1.1 rfl ?_
    refine mg_callV [] rfl rfl rfl t31 rfl rfl rfl rfl (c_Ta_clear hT3 (fun M4 r1 r2 => ?_))
    have h4 := h2.tape r1 r2.te
    refine mg_run 1 rfl ?_
    refine mg_get rfl rfl h4.1.1 rfl ?_
    refine mg_run 1 rfl ?_
    refine mg_icmp rfl (fun h9 => absurd h9 (nI_m1 hj31)) (fun _ => ?_)
    exact mg_throw mm_xs2 rfl rfl rfl rfl rfl rfl rfl hl (hN am j e hj M4 h4 (hon2.tr (r2.te.bn (by decide))))
theorem c_LB_readX (hl : l.stackTraces = false) (h : lb_is M sl tp pl o) {x : Int32} (hx : no_slot x) (hQ : Q (.inr 0) M) : mm_Ct l sc Y_LB_read M [.ref 0, .int x] Q := by
  refine mm_by k_LB_read w_LB_read rfl rfl ?_
  refine mg_run 2 rfl ?_
  exact mg_callV [.int x] rfl rfl rfl h.1.1 rfl rfl rfl rfl (c_LB_requireSlotX hl hx hQ)
end
end
section
/-! The reference: its state, and its smallest methods. -/
def mo_f (x : Nat → Int32) : List Value := [.int (x 0), .ref 55, .int (x 2), .int (x 3), .int (x 4), .ref 56, .ref 57, .ref 58, .int (x 8), .ref 59, .int (x 10), .int (x 11), .ref 60, .ref 61, .ref 62, .ref 63, .ref 64, .int (x 17), .ref 65, .int (x 19), .int (x 20), .int (x 21), .int (x 22), .int (x 23)]
def mo_n : Nat → Nat
  | 0 => 400
  | 1 => 24000
  | 2 => 12
  | 3 => 2001
  | 4 => 2001
  | 5 => 2002
  | 6 => 2002
  | 7 => 422
  | 8 => 422
  | 9 => 422
  | _ => 400
theorem mo_n_lt (k : Nat) : mo_n k < 2 ^ 31 := by
  unfold mo_n
  split <;> decide
/-- the reference's fields x and arrays A; nothing else is written since M0 -/
def mo_is (M0 M : mm_M) (x : Nat → Int32) (A : Nat → Nat → Int32) : Prop := mm_on (mm_rg 54 65) M0 M ∧ M[54]? = some (.inr (8, mo_f x)) ∧ ∀ k, k < 11 → M[55 + k]? = some (.inl (0, mo_n k, .inl (A k)))
def aup (A : Nat → Nat → Int32) (k : Nat) (f : Nat → Int32) : Nat → Nat → Int32 := fun j => if j = k then f else A j
theorem aup_s {A : Nat → Nat → Int32} {k : Nat} {f : Nat → Int32} : aup A k f k = f := if_pos rfl
theorem aup_n {A : Nat → Nat → Int32} {k j : Nat} {f : Nat → Int32} (h : j ≠ k) : aup A k f j = A j := if_neg h
section
variable {l : Launch} {sc : Nat × (Nat → Int32)} {Y : mm_Y} {k n : Nat} {M0 M : mm_M} {L : mm_L} {S : List Value} {pc : Nat} {Q : mm_O → mm_M → Prop} {x : Nat → Int32} {A : Nat → Nat → Int32}
theorem mr_put {ix nx j cn ix2 kf : Nat} {v w : Int32} (hq : mm_at (mm_tab Y) pc = some (.putfield ix, nx, j, v)) (hf : mm_fu[j]? = some (cn, ix2, 8, kf)) (h : mo_is M0 M x A) (hl : Nat.blt kf (mo_f x).length = true) (hw : mm_fit (mm_tf 8 kf) (.int w) = true) (he : (mo_f x).set kf (.int w) = mo_f (upd x kf w)) (kk : ∀ M', mo_is M0 M' (upd x kf w) A → mm_Go l sc Y k n M' L S nx Q) : mm_Go l sc Y k n M L (.int w :: .ref 54 :: S) pc Q := by
  obtain ⟨h1, h2, h3⟩ := h
  refine mg_put hq hf h2 hl hw (kk _ ⟨h1.tr (mm_on.set M _ (by unfold mm_rg; omega)), ?_, fun i hi => mm_at_ne (by omega) (h3 i hi)⟩)
  rw [← he]
  exact mm_at_set _ h2
theorem mr_ist {nx aux j : Nat} {v z : Int32} (i : Nat) (hq : mm_at (mm_tab Y) pc = some (.iastore, nx, aux, v)) (h : mo_is M0 M x A) (hi : i < 11) (hj : j < mo_n i) (kk : ∀ M', mo_is M0 M' x (aup A i (upd (A i) j z)) → mm_Go l sc Y k n M' L S nx Q) : mm_Go l sc Y k n M L (.int z :: .int (nI j) :: .ref (55 + i) :: S) pc Q := by
  obtain ⟨h1, h2, h3⟩ := h
  refine mg_istN hq (h3 i hi) (mo_n_lt i) hj (kk _ ⟨h1.tr (mm_on.set M _ (by unfold mm_rg; omega)), mm_at_ne (by omega) h2, fun i2 hi2 => ?_⟩)
  by_cases e : i2 = i
  · subst e
    rw [aup_s]
    exact mm_at_set _ (h3 i2 hi2)
  · rw [aup_n e]
    exact mm_at_ne (by omega) (h3 i2 hi2)
theorem mr_ild {nx aux j : Nat} {v : Int32} (i : Nat) (hq : mm_at (mm_tab Y) pc = some (.iaload, nx, aux, v)) (h : mo_is M0 M x A) (hi : i < 11) (hj : j < mo_n i) (kk : mm_Go l sc Y k n M L (.int (A i j) :: S) nx Q) : mm_Go l sc Y k n M L (.int (nI j) :: .ref (55 + i) :: S) pc Q := mg_ildN hq (h.2.2 i hi) (mo_n_lt i) hj kk
end
section
variable {l : Launch} {sc : Nat × (Nat → Int32)} {M0 M : mm_M} {Q : mm_O → mm_M → Prop} {x : Nat → Int32} {A : Nat → Nat → Int32}
theorem c_Mo_in {z lo hi : Int32} (hY : lo.toInt ≤ z.toInt → z.toInt ≤ hi.toInt → Q (.inl (some (.int (nI 1)))) M) (hN : (z.toInt < lo.toInt ∨ hi.toInt < z.toInt) → Q (.inl (some (.int (nI 0)))) M) : mm_Ct l sc Y_Mo_in M [.int z, .int lo, .int hi] Q := by
  refine mm_by k_Mo_in w_Mo_in rfl rfl ?_
  refine mg_run 2 rfl ?_
  refine mg_icmp rfl (fun h => ?_) (fun h => ?_)
  · have h1 : z < lo := h
    rw [Int32.lt_iff_toInt_lt] at h1
    refine mg_run 1 rfl ?_
    exact mg_zr rfl rfl (Or.inl rfl) rfl rfl (hN (Or.inl h1))
  · have h1 : ¬ z < lo := h
    rw [Int32.lt_iff_toInt_lt] at h1
    refine mg_run 2 rfl ?_
    refine mg_icmp rfl (fun h => ?_) (fun h => ?_)
    · have h2 : hi < z := h
      rw [Int32.lt_iff_toInt_lt] at h2
      refine mg_run 1 rfl ?_
      exact mg_zr rfl rfl (Or.inl rfl) rfl rfl (hN (Or.inr h2))
    · have h2 : ¬ hi < z := h
      rw [Int32.lt_iff_toInt_lt] at h2
      refine mg_run 2 rfl ?_
      exact mg_zr rfl rfl (Or.inr rfl) rfl rfl (hY (by omega) (by omega))
theorem c_Mo_isSlot {z : Int32} (hY : ¬ no_slot z → Q (.inl (some (.int (nI 1)))) M) (hN : no_slot z → Q (.inl (some (.int (nI 0)))) M) : mm_Ct l sc Y_Mo_isSlot M [.int z] Q := by
  refine mm_by k_Mo_isSlot w_Mo_isSlot rfl rfl ?_
  refine mg_run 3 rfl ?_
  have e0 : (nI 0).toInt = 0 := by decide
  have e1 : (nI 11).toInt = 11 := by decide
  refine mg_callS [.int z, .int (nI 0), .int (nI 11)] rfl rfl rfl rfl rfl rfl (c_Mo_in (fun h1 h2 => ?_) (fun h1 => ?_))
  · exact mg_zr rfl rfl (Or.inr rfl) rfl rfl (hY (by unfold no_slot; omega))
  · exact mg_zr rfl rfl (Or.inl rfl) rfl rfl (hN (by unfold no_slot; omega))
theorem c_Mo_isLetter {z : Int32} (hY : is_let z → Q (.inl (some (.int (nI 1)))) M) (hN : ¬ is_let z → Q (.inl (some (.int (nI 0)))) M) : mm_Ct l sc Y_Mo_isLetter M [.int z] Q := by
  refine mm_by k_Mo_isLetter w_Mo_isLetter rfl rfl ?_
  refine mg_run 3 rfl ?_
  have e0 : (nI 97).toInt = 97 := by decide
  have e1 : (nI 122).toInt = 122 := by decide
  refine mg_callS [.int z, .int (nI 97), .int (nI 122)] rfl rfl rfl rfl rfl rfl (c_Mo_in (fun h1 h2 => ?_) (fun h1 => ?_))
  · exact mg_zr rfl rfl (Or.inr rfl) rfl rfl (hY (by unfold is_let; omega))
  · exact mg_zr rfl rfl (Or.inl rfl) rfl rfl (hN (by unfold is_let; omega))
def is_ix (z : Int32) : Prop := 0 ≤ z.toInt ∧ z.toInt ≤ 9999
theorem c_Mo_isIndex {z : Int32} (hY : is_ix z → Q (.inl (some (.int (nI 1)))) M) (hN : ¬ is_ix z → Q (.inl (some (.int (nI 0)))) M) : mm_Ct l sc Y_Mo_isIndex M [.int z] Q := by
  refine mm_by k_Mo_isIndex w_Mo_isIndex rfl rfl ?_
  refine mg_run 3 rfl ?_
  have e0 : (nI 0).toInt = 0 := by decide
  have e1 : (nI 9999).toInt = 9999 := by decide
  refine mg_callS [.int z, .int (nI 0), .int (nI 9999)] rfl rfl rfl rfl rfl rfl (c_Mo_in (fun h1 h2 => ?_) (fun h1 => ?_))
  · exact mg_zr rfl rfl (Or.inr rfl) rfl rfl (hY (by unfold is_ix; omega))
  · exact mg_zr rfl rfl (Or.inl rfl) rfl rfl (hN (by unfold is_ix; omega))
theorem c_Mo_isLeaf {z : Int32} (hY : ¬ z = -1 → ¬ z = -2 → Q (.inl (some (.int (nI 1)))) M) (hN : (z = -1 ∨ z = -2) → Q (.inl (some (.int (nI 0)))) M) : mm_Ct l sc Y_Mo_isLeaf M [.int z] Q := by
  refine mm_by k_Mo_isLeaf w_Mo_isLeaf rfl rfl ?_
  refine mg_run 2 rfl ?_
  refine mg_icmp rfl (fun h => ?_) (fun h => ?_)
  · refine mg_run 1 rfl ?_
    exact mg_zr rfl rfl (Or.inl rfl) rfl rfl (hN (Or.inl h))
  · refine mg_run 2 rfl ?_
    refine mg_icmp rfl (fun h2 => ?_) (fun h2 => ?_)
    · refine mg_run 1 rfl ?_
      exact mg_zr rfl rfl (Or.inl rfl) rfl rfl (hN (Or.inr h2))
    · refine mg_run 2 rfl ?_
      exact mg_zr rfl rfl (Or.inr rfl) rfl rfl (hY h h2)
theorem c_Mo_thrown (h : mo_is M0 M x A) (hQ : Q (.inl (some (.int (x 0)))) M) : mm_Ct l sc Y_Mo_thrown M [.ref 54] Q := by
  refine mm_by k_Mo_thrown w_Mo_thrown rfl rfl ?_
  refine mg_run 1 rfl ?_
  refine mg_get rfl rfl h.2.1 rfl ?_
  exact mg_ir rfl rfl rfl rfl hQ
/-- the second half of throwing -/
theorem lp_Mo_throwing (h : mo_is M0 M x A) {t : Nat} (ht : t < 3) (hx : x 0 = nI t) {a b : Int32} (hQ : Q (.inl (some (.int (nI (if t = 0 then 0 else 1))))) M) : mm_Go l sc Y_Mo_throwing 0 0 M [some (.ref 54), some (.int a), some (.int b)] [] 21 Q := by
  refine mg_run 1 rfl ?_
  refine mg_get rfl rfl h.2.1 rfl ?_
  rw [hx]
  refine mg_zle rfl (by omega) (fun h9 => ?_) (fun h9 => ?_)
  · rw [if_pos h9] at hQ
    refine mg_run 1 rfl ?_
    exact mg_zr rfl rfl (Or.inl rfl) rfl rfl hQ
  · rw [if_neg (by omega)] at hQ
    refine mg_run 2 rfl ?_
    exact mg_zr rfl rfl (Or.inr rfl) rfl rfl hQ
theorem c_Mo_throwing (h : mo_is M0 M x A) {a b : Nat} (ha : a < 2) (hb : b < 2)
    (h0 : a = 0 → b = 0 → ∀ M', mo_is M0 M' (upd x 0 (nI 0)) A → Q (.inl (some (.int (nI 0)))) M')
    (h1 : 0 < a → ∀ M', mo_is M0 M' (upd x 0 (nI 1)) A → Q (.inl (some (.int (nI 1)))) M')
    (h2 : a = 0 → 0 < b → ∀ M', mo_is M0 M' (upd x 0 (nI 2)) A → Q (.inl (some (.int (nI 1)))) M') : mm_Ct l sc Y_Mo_throwing M [.ref 54, .int (nI a), .int (nI b)] Q := by
  refine mm_by k_Mo_throwing w_Mo_throwing rfl rfl ?_
  refine mg_run 2 rfl ?_
  refine mg_zeq rfl (by omega) (fun e1 => ?_) (fun e1 => ?_)
  · refine mg_run 1 rfl ?_
    refine mg_zeq rfl (by omega) (fun e2 => ?_) (fun e2 => ?_)
    · refine mg_run 1 rfl ?_
      refine mr_put rfl rfl h rfl rfl rfl (fun M1 q1 => ?_)
      exact lp_Mo_throwing q1 (t := 0) (by decide) pk_us (h0 e1 e2 M1 q1)
    · refine mg_run 2 rfl ?_
      refine mr_put rfl rfl h rfl rfl rfl (fun M1 q1 => ?_)
      exact lp_Mo_throwing q1 (t := 2) (by decide) pk_us (h2 e1 e2 M1 q1)
  · refine mg_run 2 rfl ?_
    refine mr_put rfl rfl h rfl rfl rfl (fun M1 q1 => ?_)
    exact lp_Mo_throwing q1 (t := 1) (by decide) pk_us (h1 e1 M1 q1)
theorem c_Mo_place (h : mo_is M0 M x A) (hQ : ∀ M', mo_is M0 M' (upd x 0 (nI 0)) A → Q (.inl (some (.int (x 3)))) M') : mm_Ct l sc Y_Mo_place M [.ref 54] Q := by
  refine mm_by k_Mo_place w_Mo_place rfl rfl ?_
  refine mg_run 2 rfl ?_
  refine mr_put rfl rfl h rfl rfl rfl (fun M1 q1 => ?_)
  refine mg_run 1 rfl ?_
  refine mg_get rfl rfl q1.2.1 rfl ?_
  exact mg_ir rfl rfl rfl rfl (hQ M1 q1)
theorem c_Mo_how (h : mo_is M0 M x A) (hQ : ∀ M', mo_is M0 M' (upd x 0 (nI 0)) A → Q (.inl (some (.int (x 4)))) M') : mm_Ct l sc Y_Mo_how M [.ref 54] Q := by
  refine mm_by k_Mo_how w_Mo_how rfl rfl ?_
  refine mg_run 2 rfl ?_
  refine mr_put rfl rfl h rfl rfl rfl (fun M1 q1 => ?_)
  refine mg_run 1 rfl ?_
  refine mg_get rfl rfl q1.2.1 rfl ?_
  exact mg_ir rfl rfl rfl rfl (hQ M1 q1)
end
end
section
/-! The reference: rows, told by the class's codes. -/
/-- the reference's code of a class's code -/
def xc (c : Nat) : Int32 := if c = 64 then -1 else if c = 92 then -2 else if 1000 ≤ c then nI (c - 1000) else if c = 83 then nI 20001 else if c = 75 then nI 20002 else if c = 73 then nI 20003 else if c < 3 then nI (9999 + c) else nI (10000 + c)
def ro_is (x : Nat → Int32) (A : Nat → Nat → Int32) (r : List Nat) : Prop := x 8 = nI r.length ∧ r.length ≤ 2000 ∧ ∀ i, i < r.length → A 3 i = xc (r.getD i 0)
def nx_is (x : Nat → Int32) (A : Nat → Nat → Int32) (out : List Nat) : Prop := ∃ b : List Nat × Nat, wr b out ∧ b.1.length ≤ 2000 ∧ b.2 ≤ 1 ∧ x 10 = nI b.1.length ∧ x 11 = nI b.2 ∧ ∀ i, i < b.1.length → A 4 i = xc (b.1.getD i 0)
def st_is (A : Nat → Nat → Int32) (sl : Nat → List Nat) : Prop := ∀ s, s < 12 → (sl s).length ≤ 2000 ∧ A 2 s = nI (sl s).length ∧ ∀ i, i < (sl s).length → A 1 (2000 * s + i) = xc ((sl s).getD i 0)
def tp_is (x : Nat → Int32) (A : Nat → Nat → Int32) (tp : List Nat) : Prop := x 2 = nI tp.length ∧ tp.length ≤ 400 ∧ ∀ i, i < tp.length → A 0 i = nI (tp.getD i 0)
def fx (ls : List Nat) (x x' : Nat → Int32) : Prop := ∀ j, j ∉ ls → x' j = x j
def fa (ls : List Nat) (A A' : Nat → Nat → Int32) : Prop := ∀ j, j ∉ ls → A' j = A j
theorem fx.rf (ls : List Nat) (x : Nat → Int32) : fx ls x x := fun _ _ => rfl
theorem fa.rf (ls : List Nat) (A : Nat → Nat → Int32) : fa ls A A := fun _ _ => rfl
theorem fx.tr {ls : List Nat} {x y z : Nat → Int32} (h1 : fx ls x y) (h2 : fx ls y z) : fx ls x z := fun j hj => (h2 j hj).trans (h1 j hj)
theorem fa.tr {ls : List Nat} {x y z : Nat → Nat → Int32} (h1 : fa ls x y) (h2 : fa ls y z) : fa ls x z := fun j hj => (h2 j hj).trans (h1 j hj)
theorem fx.up {ls : List Nat} {k : Nat} (h : k ∈ ls) (x : Nat → Int32) (v : Int32) : fx ls x (upd x k v) := fun j hj => pk_un (fun e => hj (e ▸ h))
theorem fa.up {ls : List Nat} {k : Nat} (h : k ∈ ls) (A : Nat → Nat → Int32) (f : Nat → Int32) : fa ls A (aup A k f) := fun j hj => aup_n (fun e => hj (e ▸ h))
theorem fx.wk {ls ls' : List Nat} {x y : Nat → Int32} (h : fx ls x y) (hs : ∀ j ∈ ls, j ∈ ls') : fx ls' x y := fun j hj => h j (fun h9 => hj (hs j h9))
theorem fa.wk {ls ls' : List Nat} {x y : Nat → Nat → Int32} (h : fa ls x y) (hs : ∀ j ∈ ls, j ∈ ls') : fa ls' x y := fun j hj => h j (fun h9 => hj (hs j h9))
section
variable {l : Launch} {sc : Nat × (Nat → Int32)} {M0 M : mm_M} {Q : mm_O → mm_M → Prop} {x : Nat → Int32} {A : Nat → Nat → Int32} {r out : List Nat} {sl : Nat → List Nat}
theorem ro_is.fr {x' : Nat → Int32} {A' : Nat → Nat → Int32} {ls la : List Nat} (h : ro_is x A r) (h1 : fx ls x x') (h2 : fa la A A') (n1 : 8 ∉ ls) (n2 : 3 ∉ la) : ro_is x' A' r := ⟨(h1 8 n1).trans h.1, h.2.1, fun i hi => by rw [h2 3 n2]; exact h.2.2 i hi⟩
theorem nx_is.fr {x' : Nat → Int32} {A' : Nat → Nat → Int32} {ls la : List Nat} (h : nx_is x A out) (h1 : fx ls x x') (h2 : fa la A A') (n1 : 10 ∉ ls) (n3 : 11 ∉ ls) (n2 : 4 ∉ la) : nx_is x' A' out := by
  obtain ⟨b, b1, b2, b3, b4, b5, b6⟩ := h
  exact ⟨b, b1, b2, b3, (h1 10 n1).trans b4, (h1 11 n3).trans b5, fun i hi => by rw [h2 4 n2]; exact b6 i hi⟩
theorem st_is.fr {A' : Nat → Nat → Int32} {la : List Nat} (h : st_is A sl) (h2 : fa la A A') (n1 : 1 ∉ la) (n2 : 2 ∉ la) : st_is A' sl := fun s hs => by
  obtain ⟨a1, a2, a3⟩ := h s hs
  exact ⟨a1, by rw [h2 2 n2]; exact a2, fun i hi => by rw [h2 1 n1]; exact a3 i hi⟩
theorem tp_is.fr {x' : Nat → Int32} {A' : Nat → Nat → Int32} {ls la : List Nat} {tp : List Nat} (h : tp_is x A tp) (h1 : fx ls x x') (h2 : fa la A A') (n1 : 2 ∉ ls) (n2 : 0 ∉ la) : tp_is x' A' tp := ⟨(h1 2 n1).trans h.1, h.2.1, fun i hi => by rw [h2 0 n2]; exact h.2.2 i hi⟩
theorem c_Mo_begin (h : mo_is M0 M x A) (hQ : ∀ M' x', mo_is M0 M' x' A → fx [10, 11] x x' → nx_is x' A [] → Q (.inl none) M') : mm_Ct l sc Y_Mo_begin M [.ref 54] Q := by
  refine mm_by k_Mo_begin w_Mo_begin rfl rfl ?_
  refine mg_run 2 rfl ?_
  refine mr_put rfl rfl h rfl rfl rfl (fun M1 q1 => ?_)
  refine mg_run 2 rfl ?_
  refine mr_put rfl rfl q1 rfl rfl rfl (fun M2 q2 => ?_)
  refine mg_vr rfl rfl rfl rfl ?_
  exact hQ M2 _ q2 ((fx.up (by decide) _ _).tr (fx.up (by decide) _ _)) ⟨([], 0), wr0, Nat.zero_le _, Nat.zero_le _, rfl, rfl, fun i hi => absurd hi (Nat.not_lt_zero i)⟩
theorem c_Mo_put (h : mo_is M0 M x A) (hn : nx_is x A out) {v : Nat} (hQ : ∀ M' x' A', mo_is M0 M' x' A' → fx [10, 11] x x' → fa [4] A A' → nx_is x' A' (out ++ [v]) → Q (.inl none) M') : mm_Ct l sc Y_Mo_put M [.ref 54, .int (xc v)] Q := by
  obtain ⟨b, hw, hl, hg, e1, e2, hc⟩ := hn
  have hol : (out ++ [v]).length = out.length + 1 := by simp
  refine mm_by k_Mo_put w_Mo_put rfl rfl ?_
  refine mg_run 2 rfl ?_
  refine mg_get rfl rfl h.2.1 rfl ?_
  rw [e2]
  refine mg_zne rfl (by omega) (fun g => ?_) (fun g => ?_)
  · refine mg_run 2 rfl ?_
    refine mr_put rfl rfl h rfl rfl rfl (fun M1 q1 => ?_)
    refine mg_run 1 rfl ?_
    refine mg_get rfl rfl q1.2.1 rfl ?_
    rw [pk_us]
    refine mg_zeq rfl (by decide) (fun h => absurd h (by decide)) (fun _ => ?_)
    refine mg_vr rfl rfl rfl rfl ?_
    have h2 := hw.not g
    exact hQ M1 _ A q1 (fx.up (by decide) _ _) (fa.rf _ _) ⟨(b.1, 1), Or.inr ⟨by omega, rfl⟩, hl, Nat.le_refl _, (pk_un (by decide)).trans e1, pk_us, hc⟩
  · refine mg_run 1 rfl ?_
    refine mg_get rfl rfl h.2.1 rfl ?_
    rw [e1]
    refine mg_run 1 rfl ?_
    refine mg_ne rfl (by omega) (by decide) (fun c => ?_) (fun c => ?_)
    · refine mg_run 1 rfl ?_
      refine mr_put rfl rfl h rfl rfl rfl (fun M1 q1 => ?_)
      refine mg_run 1 rfl ?_
      refine mg_get rfl rfl q1.2.1 rfl ?_
      rw [pk_us]
      refine mg_zeq rfl (by decide) (fun _ => ?_) (fun h => absurd h (by decide))
      refine mg_run 1 rfl ?_
      refine mg_get rfl rfl q1.2.1 rfl ?_
      refine mg_run 1 rfl ?_
      refine mg_get rfl rfl q1.2.1 rfl ?_
      rw [pk_un (show (10 : Nat) ≠ 11 by decide), e1]
      refine mg_run 1 rfl ?_
      refine mr_ist 4 rfl q1 (by decide) (show b.1.length < 2001 by omega) (fun M2 q2 => ?_)
      refine mg_run 2 rfl ?_
      refine mg_get rfl rfl q2.2.1 rfl ?_
      rw [pk_un (show (10 : Nat) ≠ 11 by decide), e1]
      refine mg_run 1 rfl ?_
      refine mg_addN rfl ?_
      refine mr_put rfl rfl q2 rfl rfl rfl (fun M3 q3 => ?_)
      refine mg_vr rfl rfl rfl rfl ?_
      obtain ⟨o1, o2⟩ := hw.ok g
      subst o2
      refine hQ M3 _ _ q3 ((fx.up (by decide) _ _).tr (fx.up (by decide) _ _)) (fa.up (by decide) _ _) ⟨(out ++ [v], 0), Or.inl ⟨?_, rfl⟩, ?_, Nat.zero_le _, ?_, ?_, ?_⟩
      · have c' : ¬ out.length = 2000 := c
        omega
      · have c' : ¬ out.length = 2000 := c
        show (out ++ [v]).length ≤ 2000
        omega
      · show upd (upd x 11 (nI 0)) 10 (nI (out.length + 1)) 10 = nI (out ++ [v]).length
        rw [pk_us, hol]
      · show upd (upd x 11 (nI 0)) 10 (nI (out.length + 1)) 11 = nI 0
        rw [pk_un (by decide), pk_us]
      · intro i hi
        have hi : i < (out ++ [v]).length := hi
        show aup A 4 (upd (A 4) out.length (xc v)) 4 i = xc ((out ++ [v]).getD i 0)
        rw [aup_s]
        by_cases ei : i = out.length
        · subst ei
          rw [pk_us]
          simp
        · rw [pk_un ei, hc i (by show i < out.length; omega)]
          have : i < out.length := by omega
          simp [List.getElem?_append_left this]
    · refine mg_run 2 rfl ?_
      refine mr_put rfl rfl h rfl rfl rfl (fun M1 q1 => ?_)
      refine mg_run 1 rfl ?_
      refine mg_get rfl rfl q1.2.1 rfl ?_
      rw [pk_us]
      refine mg_zeq rfl (by decide) (fun h => absurd h (by decide)) (fun _ => ?_)
      refine mg_vr rfl rfl rfl rfl ?_
      obtain ⟨o1, o2⟩ := hw.ok g
      subst o2
      have c' : out.length = 2000 := c
      exact hQ M1 _ A q1 (fx.up (by decide) _ _) (fa.rf _ _) ⟨(out, 1), Or.inr ⟨by omega, rfl⟩, hl, Nat.le_refl _, (pk_un (by decide)).trans e1, pk_us, hc⟩
theorem lp_Mo_load {s : Nat} (hs : s < 12) (hr : r.length ≤ 2000) : ∀ m i (M : mm_M) (A : Nat → Nat → Int32), mo_is M0 M x A → x 8 = nI r.length → (∀ j, j < r.length → A 1 (2000 * s + j) = xc (r.getD j 0)) → (∀ j, j < i → A 3 j = xc (r.getD j 0)) → r.length - i = m → i ≤ r.length →
    (∀ M' A', mo_is M0 M' x A' → fa [3] A A' → (∀ j, j < r.length → A' 3 j = xc (r.getD j 0)) → Q (.inl none) M') →
    mm_Go l sc Y_Mo_load 0 0 M [some (.ref 54), some (.int (nI s)), some (.int (nI i))] [] 12 Q := by
  intro m
  induction m with
  | zero =>
    intro i M A h e8 hT hR hm hi hQ
    refine mg_run 2 rfl ?_
    refine mg_get rfl rfl h.2.1 rfl ?_
    rw [e8]
    refine mg_ge rfl (by omega) (by omega) (fun _ => ?_) (fun h => absurd h (by omega))
    refine mg_vr rfl rfl rfl rfl ?_
    have e : i = r.length := by omega
    subst e
    exact hQ M A h (fa.rf _ _) hR
  | succ m ih =>
    intro i M A h e8 hT hR hm hi hQ
    refine mg_run 2 rfl ?_
    refine mg_get rfl rfl h.2.1 rfl ?_
    rw [e8]
    refine mg_ge rfl (by omega) (by omega) (fun h => absurd h (by omega)) (fun hlt => ?_)
    refine mg_run 1 rfl ?_
    refine mg_get rfl rfl h.2.1 rfl ?_
    refine mg_run 2 rfl ?_
    refine mg_get rfl rfl h.2.1 rfl ?_
    refine mg_run 2 rfl ?_
    refine mg_mulN rfl ?_
    refine mg_run 1 rfl ?_
    refine mg_addN rfl ?_
    refine mr_ild 1 rfl h (by decide) (show 2000 * s + i < 24000 by omega) ?_
    rw [hT i hlt]
    refine mr_ist 3 rfl h (by decide) (show i < 2001 by omega) (fun M1 q1 => ?_)
    refine mg_incN rfl rfl rfl ?_
    refine mg_run 1 rfl ?_
    refine ih (i + 1) M1 _ q1 e8 (fun j hj => ?_) (fun j hj => ?_) (by omega) (by omega) (fun M' A' p1 p2 p3 => hQ M' A' p1 ((fa.up (by decide) _ _).tr p2) p3)
    · rw [aup_n (show (1 : Nat) ≠ 3 by decide)]
      exact hT j hj
    · rw [aup_s]
      by_cases ej : j = i
      · subst ej
        exact pk_us
      · rw [pk_un ej]
        exact hR j (by omega)
theorem c_Mo_load {s : Nat} (hs : s < 12) (h : mo_is M0 M x A) (hS : st_is A sl) (hQ : ∀ M' x' A', mo_is M0 M' x' A' → fx [8] x x' → fa [3] A A' → ro_is x' A' (sl s) → Q (.inl none) M') : mm_Ct l sc Y_Mo_load M [.ref 54, .int (nI s)] Q := by
  obtain ⟨a1, a2, a3⟩ := hS s hs
  refine mm_by k_Mo_load w_Mo_load rfl rfl ?_
  refine mg_run 2 rfl ?_
  refine mg_get rfl rfl h.2.1 rfl ?_
  refine mg_run 1 rfl ?_
  refine mr_ild 2 rfl h (by decide) (show s < 12 from hs) ?_
  rw [a2]
  refine mr_put rfl rfl h rfl rfl rfl (fun M1 q1 => ?_)
  refine mg_run 2 rfl ?_
  exact lp_Mo_load hs a1 _ 0 M1 A q1 pk_us a3 (fun j hj => absurd hj (Nat.not_lt_zero j)) rfl (Nat.zero_le _) (fun M' A' p1 p2 p3 => hQ M' _ A' p1 (fx.up (by decide) _ _) p2 ⟨pk_us, a1, p3⟩)
theorem lp_Mo_store {s : Nat} (hs : s < 12) (hr : r.length ≤ 2000) : ∀ m i (M : mm_M) (A : Nat → Nat → Int32), mo_is M0 M x A → x 8 = nI r.length → (∀ j, j < r.length → A 3 j = xc (r.getD j 0)) → (∀ j, j < i → A 1 (2000 * s + j) = xc (r.getD j 0)) → r.length - i = m → i ≤ r.length →
    (∀ M' A', mo_is M0 M' x A' → fa [1] A A' → (∀ j, j < r.length → A' 1 (2000 * s + j) = xc (r.getD j 0)) → (∀ j, (j < 2000 * s ∨ 2000 * s + 2000 ≤ j) → A' 1 j = A 1 j) → Q (.inl none) M') →
    mm_Go l sc Y_Mo_store 0 0 M [some (.ref 54), some (.int (nI s)), some (.int (nI i))] [] 12 Q := by
  intro m
  induction m with
  | zero =>
    intro i M A h e8 hT hR hm hi hQ
    refine mg_run 2 rfl ?_
    refine mg_get rfl rfl h.2.1 rfl ?_
    rw [e8]
    refine mg_ge rfl (by omega) (by omega) (fun _ => ?_) (fun h => absurd h (by omega))
    refine mg_vr rfl rfl rfl rfl ?_
    have e : i = r.length := by omega
    subst e
    exact hQ M A h (fa.rf _ _) hR (fun _ _ => rfl)
  | succ m ih =>
    intro i M A h e8 hT hR hm hi hQ
    refine mg_run 2 rfl ?_
    refine mg_get rfl rfl h.2.1 rfl ?_
    rw [e8]
    refine mg_ge rfl (by omega) (by omega) (fun h => absurd h (by omega)) (fun hlt => ?_)
    refine mg_run 1 rfl ?_
    refine mg_get rfl rfl h.2.1 rfl ?_
    refine mg_run 2 rfl ?_
    refine mg_mulN rfl ?_
    refine mg_run 1 rfl ?_
    refine mg_addN rfl ?_
    refine mg_run 1 rfl ?_
    refine mg_get rfl rfl h.2.1 rfl ?_
    refine mg_run 1 rfl ?_
    refine mr_ild 3 rfl h (by decide) (show i < 2001 by omega) ?_
    rw [hT i hlt]
    refine mr_ist 1 rfl h (by decide) (show 2000 * s + i < 24000 by omega) (fun M1 q1 => ?_)
    refine mg_incN rfl rfl rfl ?_
    refine mg_run 1 rfl ?_
    refine ih (i + 1) M1 _ q1 e8 (fun j hj => ?_) (fun j hj => ?_) (by omega) (by omega) (fun M' A' p1 p2 p3 p4 => hQ M' A' p1 ((fa.up (by decide) _ _).tr p2) p3 (fun j hj => ?_))
    · rw [aup_n (show (3 : Nat) ≠ 1 by decide)]
      exact hT j hj
    · rw [aup_s]
      by_cases ej : j = i
      · subst ej
        exact pk_us
      · rw [pk_un (by omega)]
        exact hR j (by omega)
    · rw [p4 j hj, aup_s]
      exact pk_un (by omega)
theorem c_Mo_store {s : Nat} (hs : s < 12) (h : mo_is M0 M x A) (hR : ro_is x A r) (hS : st_is A sl) (hQ : ∀ M' A', mo_is M0 M' x A' → fa [1, 2] A A' → st_is A' (sl_up sl s r) → Q (.inl none) M') : mm_Ct l sc Y_Mo_store M [.ref 54, .int (nI s)] Q := by
  obtain ⟨r1, r2, r3⟩ := hR
  refine mm_by k_Mo_store w_Mo_store rfl rfl ?_
  refine mg_run 1 rfl ?_
  refine mg_get rfl rfl h.2.1 rfl ?_
  refine mg_run 2 rfl ?_
  refine mg_get rfl rfl h.2.1 rfl ?_
  rw [r1]
  refine mr_ist 2 rfl h (by decide) (show s < 12 from hs) (fun M1 q1 => ?_)
  refine mg_run 2 rfl ?_
  refine lp_Mo_store hs r2 _ 0 M1 _ q1 r1 (fun j hj => ?_) (fun j hj => absurd hj (Nat.not_lt_zero j)) rfl (Nat.zero_le _) (fun M' A' p1 p2 p3 p4 => hQ M' A' p1 ((fa.up (by decide) _ _).tr (p2.wk (by decide))) (fun s2 hs2 => ?_))
  · rw [aup_n (show (3 : Nat) ≠ 2 by decide)]
    exact r3 j hj
  · have e2 : A' 2 = upd (A 2) s (nI r.length) := by rw [p2 2 (by decide), aup_s]
    unfold sl_up
    by_cases e : s2 = s
    · subst e
      rw [if_pos rfl, e2]
      exact ⟨r2, pk_us, p3⟩
    · rw [if_neg e, e2]
      obtain ⟨a1, a2, a3⟩ := hS s2 hs2
      refine ⟨a1, (pk_un e).trans a2, fun i hi => ?_⟩
      rw [p4 _ (by omega), aup_n (show (1 : Nat) ≠ 2 by decide)]
      exact a3 i hi
theorem lp_Mo_settle (hr : r.length ≤ 2000) : ∀ m i (M : mm_M) (A : Nat → Nat → Int32), mo_is M0 M x A → x 8 = nI r.length → (∀ j, j < r.length → A 4 j = xc (r.getD j 0)) → (∀ j, j < i → A 3 j = xc (r.getD j 0)) → r.length - i = m → i ≤ r.length →
    (∀ M' A', mo_is M0 M' x A' → fa [3] A A' → (∀ j, j < r.length → A' 3 j = xc (r.getD j 0)) → Q (.inl none) M') →
    mm_Go l sc Y_Mo_settle 0 0 M [some (.ref 54), some (.int (nI i))] [] 10 Q := by
  intro m
  induction m with
  | zero =>
    intro i M A h e8 hT hR hm hi hQ
    refine mg_run 2 rfl ?_
    refine mg_get rfl rfl h.2.1 rfl ?_
    rw [e8]
    refine mg_ge rfl (by omega) (by omega) (fun _ => ?_) (fun h => absurd h (by omega))
    refine mg_vr rfl rfl rfl rfl ?_
    have e : i = r.length := by omega
    subst e
    exact hQ M A h (fa.rf _ _) hR
  | succ m ih =>
    intro i M A h e8 hT hR hm hi hQ
    refine mg_run 2 rfl ?_
    refine mg_get rfl rfl h.2.1 rfl ?_
    rw [e8]
    refine mg_ge rfl (by omega) (by omega) (fun h => absurd h (by omega)) (fun hlt => ?_)
    refine mg_run 1 rfl ?_
    refine mg_get rfl rfl h.2.1 rfl ?_
    refine mg_run 2 rfl ?_
    refine mg_get rfl rfl h.2.1 rfl ?_
    refine mg_run 1 rfl ?_
    refine mr_ild 4 rfl h (by decide) (show i < 2001 by omega) ?_
    rw [hT i hlt]
    refine mr_ist 3 rfl h (by decide) (show i < 2001 by omega) (fun M1 q1 => ?_)
    refine mg_incN rfl rfl rfl ?_
    refine mg_run 1 rfl ?_
    refine ih (i + 1) M1 _ q1 e8 (fun j hj => ?_) (fun j hj => ?_) (by omega) (by omega) (fun M' A' p1 p2 p3 => hQ M' A' p1 ((fa.up (by decide) _ _).tr p2) p3)
    · rw [aup_n (show (4 : Nat) ≠ 3 by decide)]
      exact hT j hj
    · rw [aup_s]
      by_cases ej : j = i
      · subst ej
        exact pk_us
      · rw [pk_un ej]
        exact hR j (by omega)
theorem c_Mo_settle (h : mo_is M0 M x A) (hn : nx_is x A out) (ho : out.length ≤ 2000) (hQ : ∀ M' x' A', mo_is M0 M' x' A' → fx [8] x x' → fa [3] A A' → ro_is x' A' out → Q (.inl none) M') : mm_Ct l sc Y_Mo_settle M [.ref 54] Q := by
  obtain ⟨b, hw, hl, hg, e1, e2, hc⟩ := hn
  have hb : b = (out, 0) := by
    rcases hw with ⟨-, h9⟩ | ⟨h9, -⟩
    · exact h9
    · omega
  subst hb
  refine mm_by k_Mo_settle w_Mo_settle rfl rfl ?_
  refine mg_run 2 rfl ?_
  refine mg_get rfl rfl h.2.1 rfl ?_
  rw [e1]
  refine mr_put rfl rfl h rfl rfl rfl (fun M1 q1 => ?_)
  refine mg_run 2 rfl ?_
  exact lp_Mo_settle ho _ 0 M1 A q1 pk_us hc (fun j hj => absurd hj (Nat.not_lt_zero j)) rfl (Nat.zero_le _) (fun M' A' p1 p2 p3 => hQ M' _ A' p1 (fx.up (by decide) _ _) p2 ⟨pk_us, ho, p3⟩)
end
end
section
/-! The reference: parts of a row. -/
def xi (c : Nat) : Int := if c = 64 then -1 else if c = 92 then -2 else if 1000 ≤ c then c - 1000 else if c = 83 then 20001 else if c = 75 then 20002 else if c = 73 then 20003 else if c < 3 then 9999 + c else 10000 + c
theorem xc_toInt {c : Nat} (h : c < 10000) : (xc c).toInt = xi c := by
  unfold xc xi
  split
  · decide
  · split
    · decide
    · split
      · rw [nI_toInt (by omega)]; omega
      · split
        · decide
        · split
          · decide
          · split
            · decide
            · split
              · rw [nI_toInt (by omega)]; omega
              · rw [nI_toInt (by omega)]; omega
theorem xi_inj {a b : Nat} (ha : a < 10000) (hb : b < 10000) (h : xi a = xi b) : a = b := by
  unfold xi at h
  repeat' split at h
  all_goals omega
theorem xc_inj {a b : Nat} (ha : a < 10000) (hb : b < 10000) : xc a = xc b ↔ a = b := by
  refine ⟨fun h => xi_inj ha hb ?_, fun h => by rw [h]⟩
  rw [← xc_toInt ha, ← xc_toInt hb, h]
theorem xc_64 {c : Nat} (h : c < 10000) : xc c = -1 ↔ c = 64 := xc_inj (b := 64) h (by decide)
theorem xc_92 {c : Nat} (h : c < 10000) : xc c = -2 ↔ c = 92 := xc_inj (b := 92) h (by decide)
theorem xc_73 {c : Nat} (h : c < 10000) : xc c = nI 20003 ↔ c = 73 := xc_inj (b := 73) h (by decide)
theorem xc_75 {c : Nat} (h : c < 10000) : xc c = nI 20002 ↔ c = 75 := xc_inj (b := 75) h (by decide)
theorem xc_83 {c : Nat} (h : c < 10000) : xc c = nI 20001 ↔ c = 83 := xc_inj (b := 83) h (by decide)
/-- how many parts are still wanted behind a row, o wanted before it -/
def te_nd : List Nat → Nat → Nat
  | [], o => o
  | _ :: _, 0 => 0
  | c :: l, o + 1 => te_nd l (if c = 64 then o + 2 else if c = 92 then o + 1 else o)
theorem te_nd0 (l : List Nat) : te_nd l 0 = 0 := by cases l <;> rfl
theorem te_nd_le : ∀ (l : List Nat) (o : Nat), te_nd l o = 0 → o ≤ l.length := by
  intro l
  induction l with
  | nil => intro o h; exact Nat.le_of_eq h
  | cons c l ih =>
    intro o h
    cases o with
    | zero => exact Nat.zero_le _
    | succ o =>
      rw [te_nd] at h
      have h2 := ih _ h
      rw [List.length_cons]
      split at h2
      · omega
      · split at h2 <;> omega
theorem te_nd_add : ∀ (l : List Nat) (p q : Nat), te_nd l (p + q) = 0 → te_nd l p = 0 ∧ te_nd (l.drop (te_sc l p)) q = 0 := by
  intro l
  induction l with
  | nil =>
    intro p q h
    have h2 : p + q = 0 := h
    have hp : p = 0 := by omega
    have hq : q = 0 := by omega
    subst hp
    subst hq
    exact ⟨rfl, rfl⟩
  | cons c l ih =>
    intro p q h
    cases p with
    | zero =>
      rw [te_sc0, Nat.zero_add] at *
      exact ⟨te_nd0 _, h⟩
    | succ p =>
      rw [show p + 1 + q = (p + q) + 1 by omega, te_nd] at h
      have e : (if c = 64 then p + q + 2 else if c = 92 then p + q + 1 else p + q) = (if c = 64 then p + 2 else if c = 92 then p + 1 else p) + q := by
        split
        · omega
        · split <;> omega
      rw [e] at h
      obtain ⟨h1, h2⟩ := ih _ _ h
      rw [te_nd, te_sc]
      exact ⟨h1, by rw [List.drop_succ_cons]; exact h2⟩
/-- at each place of a row a whole part begins -/
def cl (r : List Nat) : Prop := ∀ k, k < r.length → te_nd (r.drop k) 1 = 0
section
variable {l : Launch} {sc : Nat × (Nat → Int32)} {M0 M : mm_M} {Q : mm_O → mm_M → Prop} {x : Nat → Int32} {A : Nat → Nat → Int32} {r out : List Nat} {sl : Nat → List Nat}
theorem cl_app {k : Nat} (h : cl r) (hk : k < r.length) (e : r.getD k 0 = 64) : te_nd (r.drop (k + 1)) 2 = 0 := by
  have h1 := h k hk
  rw [te_drop hk, te_nd, if_pos e] at h1
  exact h1
theorem cl_len {k o : Nat} (h : te_nd (r.drop k) o = 0) : o ≤ r.length - k := by
  have := te_nd_le _ _ h
  rw [List.length_drop] at this
  exact this
theorem cl_app2 {k : Nat} (h : cl r) (hk : k < r.length) (e : r.getD k 0 = 64) : k + 2 < r.length ∧ te_en r (k + 1) < r.length := by
  have h1 := cl_app h hk e
  have h2 := cl_len h1
  obtain ⟨h3, h4⟩ := te_nd_add _ 1 1 h1
  rw [List.drop_drop] at h4
  have h5 := cl_len h4
  unfold te_en
  omega
theorem cl_abs {k : Nat} (h : cl r) (hk : k < r.length) (e : r.getD k 0 = 92) : k + 1 < r.length := by
  have h1 := h k hk
  rw [te_drop hk, te_nd, if_neg (by omega), if_pos e] at h1
  have h2 := cl_len h1
  omega
theorem cl_app3 {k : Nat} (h : cl r) (hk : k < r.length) (e : r.getD k 0 = 64) (e2 : r.getD (k + 1) 0 = 64) : k + 4 < r.length := by
  have h1 := cl_app h hk e
  have h2 := cl_len h1
  rw [te_drop (show k + 1 < r.length by omega), te_nd, if_pos e2] at h1
  have h3 := cl_len h1
  omega
def rx (h : Nat) : Nat := if h = 92 then 1 else if h = 73 then 2 else if h = 75 then 3 else if h = 83 then 4 else 0
theorem c_Mo_redex (h : mo_is M0 M x A) (hR : ro_is x A r) (hv : ∀ i, r.getD i 0 < 10000) (hcl : cl r) {k : Nat} (hk : k < r.length) (hQ : Q (.inl (some (.int (nI (rx (te_rh r k)))))) M) : mm_Ct l sc Y_Mo_redex M [.ref 54, .int (nI k)] Q := by
  obtain ⟨r1, r2, r3⟩ := hR
  refine mm_by k_Mo_redex w_Mo_redex rfl rfl ?_
  refine mg_run 1 rfl ?_
  refine mg_get rfl rfl h.2.1 rfl ?_
  refine mg_run 1 rfl ?_
  refine mr_ild 3 rfl h (by decide) (show k < 2001 by omega) ?_
  rw [r3 k hk]
  refine mg_run 1 rfl ?_
  refine mg_icmp rfl (fun e => ?_) (fun e => ?_)
  · have c1 := (xc_64 (hv k)).mp e
    have hk2 := (cl_app2 hcl hk c1).1
    refine mg_run 1 rfl ?_
    refine mg_get rfl rfl h.2.1 rfl ?_
    refine mg_run 2 rfl ?_
    refine mg_addN rfl ?_
    refine mr_ild 3 rfl h (by decide) (show k + 1 < 2001 by omega) ?_
    rw [r3 (k + 1) (by omega)]
    refine mg_run 1 rfl ?_
    refine mg_icmp rfl (fun e => ?_) (fun e => ?_)
    · have c2 : ¬ r.getD (k + 1) 0 = 92 := fun h9 => e ((xc_92 (hv _)).mpr h9)
      refine mg_run 1 rfl ?_
      refine mg_get rfl rfl h.2.1 rfl ?_
      refine mg_run 2 rfl ?_
      refine mg_addN rfl ?_
      refine mr_ild 3 rfl h (by decide) (show k + 1 < 2001 by omega) ?_
      rw [r3 (k + 1) (by omega)]
      refine mg_run 1 rfl ?_
      refine mg_icmp rfl (fun e => ?_) (fun e => ?_)
      · have c3 : ¬ r.getD (k + 1) 0 = 73 := fun h9 => e ((xc_73 (hv _)).mpr h9)
        refine mg_run 1 rfl ?_
        refine mg_get rfl rfl h.2.1 rfl ?_
        refine mg_run 2 rfl ?_
        refine mg_addN rfl ?_
        refine mr_ild 3 rfl h (by decide) (show k + 1 < 2001 by omega) ?_
        rw [r3 (k + 1) (by omega)]
        refine mg_run 1 rfl ?_
        refine mg_icmp rfl (fun e => ?_) (fun e => ?_)
        · have c4 := (xc_64 (hv (k + 1))).mp e
          have hk4 := cl_app3 hcl hk c1 c4
          refine mg_run 1 rfl ?_
          refine mg_get rfl rfl h.2.1 rfl ?_
          refine mg_run 2 rfl ?_
          refine mg_addN rfl ?_
          refine mr_ild 3 rfl h (by decide) (show k + 2 < 2001 by omega) ?_
          rw [r3 (k + 2) (by omega)]
          refine mg_run 1 rfl ?_
          refine mg_icmp rfl (fun e => ?_) (fun e => ?_)
          · have c5 : ¬ r.getD (k + 2) 0 = 75 := fun h9 => e ((xc_75 (hv _)).mpr h9)
            refine mg_run 1 rfl ?_
            refine mg_get rfl rfl h.2.1 rfl ?_
            refine mg_run 2 rfl ?_
            refine mg_addN rfl ?_
            refine mr_ild 3 rfl h (by decide) (show k + 2 < 2001 by omega) ?_
            rw [r3 (k + 2) (by omega)]
            refine mg_run 1 rfl ?_
            refine mg_icmp rfl (fun e => ?_) (fun e => ?_)
            · have c6 : ¬ r.getD (k + 2) 0 = 64 := fun h9 => e ((xc_64 (hv _)).mpr h9)
              refine mg_run 1 rfl ?_
              refine mg_ir rfl rfl rfl rfl ?_
              rw [te_rh, if_pos c1, if_neg c2, if_neg c3, if_pos c4, if_neg c5, if_neg c6] at hQ
              exact hQ
            · have c6 : r.getD (k + 2) 0 = 64 := (xc_64 (hv _)).mp (Decidable.not_not.mp e)
              refine mg_run 1 rfl ?_
              refine mg_get rfl rfl h.2.1 rfl ?_
              refine mg_run 2 rfl ?_
              refine mg_addN rfl ?_
              refine mr_ild 3 rfl h (by decide) (show k + 3 < 2001 by omega) ?_
              rw [r3 (k + 3) (by omega)]
              refine mg_run 1 rfl ?_
              refine mg_icmp rfl (fun e => ?_) (fun e => ?_)
              · have c7 : ¬ r.getD (k + 3) 0 = 83 := fun h9 => e ((xc_83 (hv _)).mpr h9)
                refine mg_run 1 rfl ?_
                refine mg_ir rfl rfl rfl rfl ?_
                rw [te_rh, if_pos c1, if_neg c2, if_neg c3, if_pos c4, if_neg c5, if_pos c6, if_neg c7] at hQ
                exact hQ
              · have c7 : r.getD (k + 3) 0 = 83 := (xc_83 (hv _)).mp (Decidable.not_not.mp e)
                refine mg_run 2 rfl ?_
                refine mg_ir rfl rfl rfl rfl ?_
                rw [te_rh, if_pos c1, if_neg c2, if_neg c3, if_pos c4, if_neg c5, if_pos c6, if_pos c7] at hQ
                exact hQ
          · have c5 : r.getD (k + 2) 0 = 75 := (xc_75 (hv _)).mp (Decidable.not_not.mp e)
            refine mg_run 1 rfl ?_
            refine mg_ir rfl rfl rfl rfl ?_
            rw [te_rh, if_pos c1, if_neg c2, if_neg c3, if_pos c4, if_pos c5] at hQ
            exact hQ
        · have c4 : ¬ r.getD (k + 1) 0 = 64 := fun h9 => e ((xc_64 (hv _)).mpr h9)
          refine mg_run 1 rfl ?_
          refine mg_ir rfl rfl rfl rfl ?_
          rw [te_rh, if_pos c1, if_neg c2, if_neg c3, if_neg c4] at hQ
          exact hQ
      · have c3 : r.getD (k + 1) 0 = 73 := (xc_73 (hv _)).mp (Decidable.not_not.mp e)
        refine mg_run 1 rfl ?_
        refine mg_ir rfl rfl rfl rfl ?_
        rw [te_rh, if_pos c1, if_neg c2, if_pos c3] at hQ
        exact hQ
    · have c2 : r.getD (k + 1) 0 = 92 := (xc_92 (hv _)).mp (Decidable.not_not.mp e)
      refine mg_run 1 rfl ?_
      refine mg_ir rfl rfl rfl rfl ?_
      rw [te_rh, if_pos c1, if_pos c2] at hQ
      exact hQ
  · have c1 : ¬ r.getD k 0 = 64 := fun h9 => e ((xc_64 (hv _)).mpr h9)
    refine mg_run 1 rfl ?_
    refine mg_ir rfl rfl rfl rfl ?_
    rw [te_rh, if_neg c1] at hQ
    exact hQ
theorem rx_0 (r : List Nat) (k : Nat) : rx (te_rh r k) = 0 ↔ te_rh r k = 0 := by
  unfold te_rh
  repeat' split
  all_goals decide
theorem rx_lt (h : Nat) : rx h < 5 := by
  unfold rx
  repeat' split
  all_goals decide
theorem lp_Mo_find (h : mo_is M0 M x A) (hR : ro_is x A r) (hv : ∀ i, r.getD i 0 < 10000) (hcl : cl r) : ∀ m i, r.length - i = m → i ≤ r.length → Q (.inl (some (.int (te_fv (te_fr r m i))))) M → mm_Go l sc Y_Mo_find 0 0 M [some (.ref 54), some (.int (nI i))] [] 2 Q := by
  have e8 := hR.1
  have hl := hR.2.1
  intro m
  induction m with
  | zero =>
    intro i hm hi hQ
    refine mg_run 2 rfl ?_
    refine mg_get rfl rfl h.2.1 rfl ?_
    rw [e8]
    refine mg_ge rfl (by omega) (by omega) (fun _ => ?_) (fun h => absurd h (by omega))
    refine mg_run 1 rfl ?_
    exact mg_ir rfl rfl rfl rfl hQ
  | succ m ih =>
    intro i hm hi hQ
    refine mg_run 2 rfl ?_
    refine mg_get rfl rfl h.2.1 rfl ?_
    rw [e8]
    refine mg_ge rfl (by omega) (by omega) (fun h => absurd h (by omega)) (fun hlt => ?_)
    refine mg_run 2 rfl ?_
    refine mg_callV [.int (nI i)] rfl rfl rfl h.2.1 rfl rfl rfl rfl (c_Mo_redex h hR hv hcl hlt ?_)
    have h5 := rx_lt (te_rh r i)
    refine mg_zle rfl (by omega) (fun e => ?_) (fun e => ?_)
    · refine mg_incN rfl rfl rfl ?_
      refine mg_run 1 rfl ?_
      rw [te_fr, if_pos ((rx_0 r i).mp e)] at hQ
      exact ih (i + 1) (by omega) (by omega) hQ
    · refine mg_run 1 rfl ?_
      rw [te_fr, if_neg (fun h9 => by rw [(rx_0 r i).mpr h9] at e; omega)] at hQ
      exact mg_ir rfl rfl rfl rfl hQ
theorem c_Mo_find (h : mo_is M0 M x A) (hR : ro_is x A r) (hv : ∀ i, r.getD i 0 < 10000) (hcl : cl r) (hQ : Q (.inl (some (.int (te_fv (te_fr r r.length 0))))) M) : mm_Ct l sc Y_Mo_find M [.ref 54] Q := by
  refine mm_by k_Mo_find w_Mo_find rfl rfl ?_
  refine mg_run 2 rfl ?_
  exact lp_Mo_find h hR hv hcl _ 0 rfl (Nat.zero_le _) hQ
theorem mg_addM {Y : mm_Y} {k2 n a : Nat} {L : mm_L} {S : List Value} {pc nx aux : Nat} {v : Int32} (hq : mm_at (mm_tab Y) pc = some (.iadd, nx, aux, v)) (kk : mm_Go l sc Y k2 n M L (.int (nI a) :: S) nx Q) : mm_Go l sc Y k2 n M L (.int (-1) :: .int (nI (a + 1)) :: S) pc Q := by
  refine mg_x (M' := M) (L' := L) (S' := .int (nI (a + 1) + -1) :: S) hq rfl ?_
  rw [pk_m1]
  exact kk
theorem lp_Mo_behind (h : mo_is M0 M x A) (hR : ro_is x A r) (hv : ∀ i, r.getD i 0 < 10000) {x1 : Int32} : ∀ m i o, te_nd (r.drop i) o = 0 → r.length - i = m → i ≤ r.length → Q (.inl (some (.int (nI (i + te_sc (r.drop i) o))))) M → mm_Go l sc Y_Mo_behind 0 0 M [some (.ref 54), some (.int x1), some (.int (nI o)), some (.int (nI i))] [] 4 Q := by
  obtain ⟨r1, r2, r3⟩ := hR
  intro m
  induction m with
  | zero =>
    intro i o hn hm hi hQ
    have h1 := cl_len hn
    have e : o = 0 := by omega
    subst e
    refine mg_run 1 rfl ?_
    refine mg_zle rfl (by decide) (fun _ => ?_) (fun h => absurd h (by decide))
    refine mg_run 1 rfl ?_
    rw [te_sc0] at hQ
    exact mg_ir rfl rfl rfl rfl hQ
  | succ m ih =>
    intro i o hn hm hi hQ
    have h1 := cl_len hn
    have hlt : i < r.length := by omega
    refine mg_run 1 rfl ?_
    refine mg_zle rfl (by omega) (fun e => ?_) (fun e => ?_)
    · subst e
      refine mg_run 1 rfl ?_
      rw [te_sc0] at hQ
      exact mg_ir rfl rfl rfl rfl hQ
    · obtain ⟨o, rfl⟩ : ∃ o', o = o' + 1 := ⟨o - 1, by omega⟩
      rw [te_drop hlt, te_sc] at hQ
      rw [te_drop hlt, te_nd] at hn
      refine mg_run 2 rfl ?_
      refine mg_get rfl rfl h.2.1 rfl ?_
      refine mg_run 1 rfl ?_
      refine mr_ild 3 rfl h (by decide) (show i < 2001 by omega) ?_
      rw [r3 i hlt]
      refine mg_run 1 rfl ?_
      refine mg_icmp rfl (fun e1 => ?_) (fun e1 => ?_)
      · have c1 : ¬ r.getD i 0 = 64 := fun h9 => e1 ((xc_64 (hv _)).mpr h9)
        rw [if_neg c1] at hQ hn
        refine mg_run 1 rfl ?_
        refine mg_get rfl rfl h.2.1 rfl ?_
        refine mg_run 1 rfl ?_
        refine mr_ild 3 rfl h (by decide) (show i < 2001 by omega) ?_
        rw [r3 i hlt]
        refine mg_callS [.int (xc (r.getD i 0))] rfl rfl rfl rfl rfl rfl (c_Mo_isLeaf (fun _ e2 => ?_) (fun e2 => ?_))
        · have c2 : ¬ r.getD i 0 = 92 := fun h9 => e2 ((xc_92 (hv _)).mpr h9)
          rw [if_neg c2] at hQ hn
          refine mg_zeq rfl (by decide) (fun h => absurd h (by decide)) (fun _ => ?_)
          refine mg_run 2 rfl ?_
          refine mg_addM rfl ?_
          refine mg_run 1 rfl ?_
          refine mg_incN rfl rfl rfl ?_
          refine mg_run 1 rfl ?_
          refine ih (i + 1) o hn (by omega) (by omega) ?_
          rw [show i + 1 + te_sc (r.drop (i + 1)) o = i + (te_sc (r.drop (i + 1)) o + 1) by omega]
          exact hQ
        · have c2 : r.getD i 0 = 92 := by
            rcases e2 with e2 | e2
            · exact absurd e2 e1
            · exact (xc_92 (hv _)).mp e2
          rw [if_pos c2] at hQ hn
          refine mg_zeq rfl (by decide) (fun _ => ?_) (fun h => absurd h (by decide))
          refine mg_run 1 rfl ?_
          refine mg_addN rfl ?_
          refine mg_run 1 rfl ?_
          refine mg_incN rfl rfl rfl ?_
          refine mg_run 1 rfl ?_
          refine ih (i + 1) (o + 1) hn (by omega) (by omega) ?_
          rw [show i + 1 + te_sc (r.drop (i + 1)) (o + 1) = i + (te_sc (r.drop (i + 1)) (o + 1) + 1) by omega]
          exact hQ
      · have c1 : r.getD i 0 = 64 := (xc_64 (hv _)).mp (Decidable.not_not.mp e1)
        rw [if_pos c1] at hQ hn
        refine mg_run 2 rfl ?_
        refine mg_addN rfl ?_
        refine mg_run 1 rfl ?_
        refine mg_incN rfl rfl rfl ?_
        refine mg_run 1 rfl ?_
        refine ih (i + 1) (o + 2) hn (by omega) (by omega) ?_
        rw [show i + 1 + te_sc (r.drop (i + 1)) (o + 2) = i + (te_sc (r.drop (i + 1)) (o + 2) + 1) by omega]
        exact hQ
theorem c_Mo_behind (h : mo_is M0 M x A) (hR : ro_is x A r) (hv : ∀ i, r.getD i 0 < 10000) {i : Nat} (hn : te_nd (r.drop i) 1 = 0) (hQ : Q (.inl (some (.int (nI (te_en r i))))) M) : mm_Ct l sc Y_Mo_behind M [.ref 54, .int (nI i)] Q := by
  have h1 := cl_len hn
  refine mm_by k_Mo_behind w_Mo_behind rfl rfl ?_
  refine mg_run 4 rfl ?_
  exact lp_Mo_behind h hR hv _ i 1 hn rfl (by omega) hQ
theorem lp_Mo_putPart (hv : ∀ i, r.getD i 0 < 10000) {en : Nat} {x1 : Int32} (hen : en ≤ r.length) : ∀ m i (M : mm_M) (x : Nat → Int32) (A : Nat → Nat → Int32) (out : List Nat), mo_is M0 M x A → ro_is x A r → nx_is x A out → en - i = m → i ≤ en →
    (∀ M' x' A', mo_is M0 M' x' A' → fx [10, 11] x x' → fa [4] A A' → nx_is x' A' (out ++ te_pt r i en) → Q (.inl none) M') →
    mm_Go l sc Y_Mo_putPart 0 0 M [some (.ref 54), some (.int x1), some (.int (nI en)), some (.int (nI i))] [] 8 Q := by
  intro m
  induction m with
  | zero =>
    intro i M x A out h hR hn hm hi hQ
    have h4 := hR.2.1
    refine mg_run 2 rfl ?_
    refine mg_ge rfl (by omega) (by omega) (fun _ => ?_) (fun h => absurd h (by omega))
    refine mg_vr rfl rfl rfl rfl ?_
    refine hQ M x A h (fx.rf _ _) (fa.rf _ _) ?_
    rw [te_pt, hm, List.take_zero, List.append_nil]
    exact hn
  | succ m ih =>
    intro i M x A out h hR hn hm hi hQ
    have h4 := hR.2.1
    refine mg_run 2 rfl ?_
    refine mg_ge rfl (by omega) (by omega) (fun h => absurd h (by omega)) (fun hlt => ?_)
    refine mg_run 2 rfl ?_
    refine mg_get rfl rfl h.2.1 rfl ?_
    refine mg_run 1 rfl ?_
    refine mr_ild 3 rfl h (by decide) (show i < 2001 by omega) ?_
    rw [hR.2.2 i (by omega)]
    refine mg_callV [.int (xc (r.getD i 0))] rfl rfl rfl h.2.1 rfl rfl rfl rfl (c_Mo_put h hn (fun M1 x1 A1 p1 p2 p3 p4 => ?_))
    refine mg_incN rfl rfl rfl ?_
    refine mg_run 1 rfl ?_
    refine ih (i + 1) M1 x1 A1 _ p1 (hR.fr p2 p3 (by decide) (by decide)) p4 (by omega) (by omega) (fun M' x' A' q1 q2 q3 q4 => hQ M' x' A' q1 (p2.tr q2) (p3.tr q3) ?_)
    have e : te_pt r i en = r.getD i 0 :: te_pt r (i + 1) en := by
      unfold te_pt
      rw [te_drop (show i < r.length by omega), show en - i = (en - (i + 1)) + 1 by omega, List.take_succ_cons]
    rw [e]
    rw [List.append_assoc] at q4
    exact q4
theorem c_Mo_putPart (hv : ∀ i, r.getD i 0 < 10000) (h : mo_is M0 M x A) (hR : ro_is x A r) (hx : nx_is x A out) {i : Nat} (hn : te_nd (r.drop i) 1 = 0)
    (hQ : ∀ M' x' A', mo_is M0 M' x' A' → fx [10, 11] x x' → fa [4] A A' → nx_is x' A' (out ++ te_pt r i (te_en r i)) → Q (.inl none) M') : mm_Ct l sc Y_Mo_putPart M [.ref 54, .int (nI i)] Q := by
  have h1 := cl_len hn
  refine mm_by k_Mo_putPart w_Mo_putPart rfl rfl ?_
  refine mg_run 2 rfl ?_
  refine mg_callV [.int (nI i)] rfl rfl rfl h.2.1 rfl rfl rfl rfl (c_Mo_behind h hR hv hn ?_)
  refine mg_run 3 rfl ?_
  exact lp_Mo_putPart hv (te_en_le (by omega)) _ i M x A out h hR hx rfl (te_en_ge r i) hQ
end
end
section
/-! The reference: substitution. -/
theorem xc_ix {c : Nat} (h : 1000 ≤ c) : xc c = nI (c - 1000) := by
  unfold xc
  rw [if_neg (by omega), if_neg (by omega), if_pos h]
theorem ix_iff {c : Nat} (h : c < 10000) (hz : ¬ c = 0) : is_ix (xc c) ↔ 1000 ≤ c := by
  unfold is_ix
  rw [xc_toInt h]
  unfold xi
  repeat' split
  all_goals omega
/-- the stack of depths behind a code -/
def st_nx (c d : Nat) (st : List Nat) : List Nat := if c = 64 then d :: d :: st else if c = 92 then (d + 1) :: st else st
theorem st_nx_len (c d : Nat) (st : List Nat) : (st_nx c d st).length = if c = 64 then st.length + 2 else if c = 92 then st.length + 1 else st.length := by
  unfold st_nx
  split
  · rfl
  · split <;> rfl
/-- what a walk over a part knows at i: the stack st, the depths D, its end en -/
def wk_is (r : List Nat) (D : Nat → Nat) (en i : Nat) (st : List Nat) : Prop := te_nd (r.drop i) st.length = 0 ∧ te_sc (r.drop i) st.length = en - i ∧ (∀ j, j < en - i → (te_ms (r.drop i) st).getD j 0 = D (i + j)) ∧ ∀ y ∈ st, y ≤ i
theorem wk_0 {r : List Nat} {s : Nat} (h : te_nd (r.drop s) 1 = 0) : wk_is r (te_D r s) (te_en r s) s [0] := by
  refine ⟨h, ?_, fun j hj => ?_, fun y hy => ?_⟩
  · unfold te_en
    show te_sc (r.drop s) 1 = s + te_sc (r.drop s) 1 - s
    omega
  · unfold te_D
    rw [show s + j - s = j by omega]
  · rw [List.mem_singleton] at hy
    omega
theorem wk_s {r : List Nat} {D : Nat → Nat} {en i : Nat} {st : List Nat} (h : wk_is r D en i st) (hi : i < en) (hen : en ≤ r.length) : ∃ d st', st = d :: st' ∧ D i = d ∧ d ≤ i ∧ st'.length + 1 ≤ r.length - i ∧ wk_is r D en (i + 1) (st_nx (r.getD i 0) d st') := by
  obtain ⟨h1, h2, h3, h4⟩ := h
  cases st with
  | nil =>
    rw [List.length_nil, te_sc0] at h2
    omega
  | cons d st' =>
    have hr : i < r.length := by omega
    have hl := cl_len h1
    rw [List.length_cons] at hl
    have hd := h4 d List.mem_cons_self
    refine ⟨d, st', rfl, ?_, hd, hl, ?_⟩
    · have := h3 0 (by omega)
      rw [te_drop hr, te_ms] at this
      exact this.symm
    · rw [te_drop hr, List.length_cons] at h1 h2
      rw [te_nd] at h1
      rw [te_sc] at h2
      rw [← st_nx_len (r.getD i 0) d st'] at h1 h2
      refine ⟨h1, by omega, fun j hj => ?_, fun y hy => ?_⟩
      · have := h3 (j + 1) (by omega)
        rw [te_drop hr, te_ms] at this
        rw [show i + 1 + j = i + (j + 1) by omega]
        exact this
      · unfold st_nx at hy
        have ht : ∀ y ∈ st', y ≤ i + 1 := fun y hy => Nat.le_succ_of_le (h4 y (List.mem_cons_of_mem _ hy))
        split at hy
        · rcases List.mem_cons.mp hy with rfl | hy
          · omega
          · rcases List.mem_cons.mp hy with rfl | hy
            · omega
            · exact ht y hy
        · split at hy
          · rcases List.mem_cons.mp hy with rfl | hy
            · omega
            · exact ht y hy
          · exact ht y hy
section
variable {l : Launch} {sc : Nat × (Nat → Int32)} {M0 : mm_M} {Q : mm_O → mm_M → Prop} {r : List Nat}
theorem lp_Mo_putShifted (hv : ∀ i, r.getD i 0 < 10000) (hz : ∀ i, i < r.length → ¬ r.getD i 0 = 0) {D : Nat → Nat} {en mo : Nat} {x1 : Int32} (hen : en ≤ r.length) : ∀ m i (st : List Nat) (x6 x7 : Option Value) (M : mm_M) (x : Nat → Int32) (A : Nat → Nat → Int32) (out : List Nat), mm_c2 (some x6) = false → mo_is M0 M x A → ro_is x A r → nx_is x A out → sk_in (A 6) st → wk_is r D en i st → en - i = m → i ≤ en →
    (∀ M' x' A', mo_is M0 M' x' A' → fx [10, 11] x x' → fa [4, 6] A A' → nx_is x' A' (out ++ te_pc (te_sf r D mo) i m) → Q (.inl none) M') →
    mm_Go l sc Y_Mo_putShifted 0 0 M [some (.ref 54), some (.int x1), some (.int (nI mo)), some (.int (nI en)), some (.int (nI st.length)), some (.int (nI i)), x6, x7] [] 19 Q := by
  intro m
  induction m with
  | zero =>
    intro i st x6 x7 M x A out hx6 h hR hn hs hw hm hi hQ
    have h4 := hR.2.1
    refine mg_run 2 rfl ?_
    refine mg_ge rfl (by omega) (by omega) (fun _ => ?_) (fun h => absurd h (by omega))
    refine mg_vr rfl rfl rfl rfl ?_
    exact hQ M x A h (fx.rf _ _) (fa.rf _ _) (by rw [te_pc, List.append_nil]; exact hn)
  | succ m ih =>
    intro i st x6 x7 M x A out hx6 h hR hn hs hw hm hi hQ
    have h4 := hR.2.1
    obtain ⟨d, st', rfl, hD, hd, hl, hw'⟩ := wk_s hw (by omega) hen
    have hvi := hv i
    have hzi := hz i (by omega)
    have tail : ∀ (st2 : List Nat) (M1 : mm_M) (A1 : Nat → Nat → Int32), mo_is M0 M1 x A1 → fa [4, 6] A A1 → ro_is x A1 r → nx_is x A1 out → sk_in (A1 6) st2 → wk_is r D en (i + 1) st2 →
        mm_Go l sc Y_Mo_putShifted 0 0 M1 [some (.ref 54), some (.int x1), some (.int (nI mo)), some (.int (nI en)), some (.int (nI st2.length)), some (.int (nI i)), some (.int (nI d)), some (.int (xc (r.getD i 0)))] [] 99 Q := by
      intro st2 M1 A1 g gf gR gn gs gw
      have fin : ∀ v, te_sf r D mo i = [v] → ∀ M2 x2 A2, mo_is M0 M2 x2 A2 → fx [10, 11] x x2 → fa [4] A1 A2 → nx_is x2 A2 (out ++ [v]) →
          mm_Go l sc Y_Mo_putShifted 0 0 M2 [some (.ref 54), some (.int x1), some (.int (nI mo)), some (.int (nI en)), some (.int (nI st2.length)), some (.int (nI i)), some (.int (nI d)), some (.int (xc (r.getD i 0)))] [] 127 Q := by
        intro v ev M2 x2 A2 p1 p2 p3 p4
        refine mg_incN rfl rfl rfl ?_
        refine mg_run 1 rfl ?_
        have p5 : fa [4, 6] A1 A2 := p3.wk (by decide)
        refine ih (i + 1) st2 _ _ M2 x2 A2 _ rfl p1 (gR.fr p2 p3 (by decide) (by decide)) p4 (by rw [p3 6 (by decide)]; exact gs) gw (by omega) (by omega) (fun M' x' A' q1 q2 q3 q4 => hQ M' x' A' q1 (p2.tr q2) ((gf.tr p5).tr q3) ?_)
        rw [te_pc, ev, ← List.append_assoc]
        exact q4
      refine mg_run 2 rfl ?_
      refine mg_callS [.int (xc (r.getD i 0))] rfl rfl rfl rfl rfl rfl (c_Mo_isIndex (fun e => ?_) (fun e => ?_))
      · have c1 := (ix_iff hvi hzi).mp e
        have exc := xc_ix c1
        refine mg_zeq rfl (by decide) (fun h => absurd h (by decide)) (fun _ => ?_)
        refine mg_run 2 rfl ?_
        rw [exc]
        refine mg_lt rfl (by omega) (by omega) (fun c2 => ?_) (fun c2 => ?_)
        · rw [← exc]
          refine mg_run 1 rfl ?_
          refine mg_callV [.int (xc (r.getD i 0))] rfl rfl rfl g.2.1 rfl rfl rfl rfl (c_Mo_put g gn (fun M2 x2 A2 p1 p2 p3 p4 => fin _ ?_ M2 x2 A2 p1 p2 p3 p4))
          unfold te_sf
          rw [if_pos (by omega)]
        · refine mg_run 2 rfl ?_
          refine mg_addN rfl ?_
          have e2 : nI (r.getD i 0 - 1000 + mo) = xc (r.getD i 0 + mo) := by
            rw [xc_ix (by omega), show r.getD i 0 + mo - 1000 = r.getD i 0 - 1000 + mo by omega]
          rw [e2, ← exc]
          refine mg_run 1 rfl ?_
          refine mg_callV [.int (xc (r.getD i 0 + mo))] rfl rfl rfl g.2.1 rfl rfl rfl rfl (c_Mo_put g gn (fun M2 x2 A2 p1 p2 p3 p4 => fin _ ?_ M2 x2 A2 p1 p2 p3 p4))
          unfold te_sf
          rw [if_neg (by omega)]
      · have c1 : ¬ 1000 ≤ r.getD i 0 := fun h9 => e ((ix_iff hvi hzi).mpr h9)
        refine mg_zeq rfl (by decide) (fun _ => ?_) (fun h => absurd h (by decide))
        refine mg_run 1 rfl ?_
        refine mg_callV [.int (xc (r.getD i 0))] rfl rfl rfl g.2.1 rfl rfl rfl rfl (c_Mo_put g gn (fun M2 x2 A2 p1 p2 p3 p4 => fin _ ?_ M2 x2 A2 p1 p2 p3 p4))
        unfold te_sf
        rw [if_pos (by omega)]
    refine mg_run 2 rfl ?_
    refine mg_ge rfl (by omega) (by omega) (fun h => absurd h (by omega)) (fun hlt => ?_)
    refine mg_decN rfl rfl rfl ?_
    refine mg_run 1 rfl ?_
    refine mg_get rfl rfl h.2.1 rfl ?_
    refine mg_run 1 rfl ?_
    refine mr_ild 6 rfl h (by decide) (show st'.length < 2002 by omega) ?_
    rw [sk_top hs]
    refine mg_run 2 rfl ?_
    refine mg_get rfl rfl h.2.1 rfl ?_
    refine mg_run 1 rfl ?_
    refine mr_ild 3 rfl h (by decide) (show i < 2001 by omega) ?_
    rw [hR.2.2 i (by omega)]
    refine mg_run 3 rfl ?_
    refine mg_icmp rfl (fun e1 => ?_) (fun e1 => ?_)
    · have c1 : ¬ r.getD i 0 = 64 := fun h9 => e1 ((xc_64 hvi).mpr h9)
      refine mg_run 2 rfl ?_
      refine mg_icmp rfl (fun e2 => ?_) (fun e2 => ?_)
      · have c2 : ¬ r.getD i 0 = 92 := fun h9 => e2 ((xc_92 hvi).mpr h9)
        rw [st_nx, if_neg c1, if_neg c2] at hw'
        exact tail st' M A h (fa.rf _ _) hR hn (sk_pop hs) hw'
      · have c2 : r.getD i 0 = 92 := (xc_92 hvi).mp (Decidable.not_not.mp e2)
        rw [st_nx, if_neg c1, if_pos c2] at hw'
        refine mg_run 1 rfl ?_
        refine mg_get rfl rfl h.2.1 rfl ?_
        refine mg_run 3 rfl ?_
        refine mg_addN rfl ?_
        refine mr_ist 6 rfl h (by decide) (show st'.length < 2002 by omega) (fun M1 q1 => ?_)
        refine mg_incN rfl rfl rfl ?_
        have f1 : fa [4, 6] A (aup A 6 (upd (A 6) st'.length (nI (d + 1)))) := fa.up (by decide) _ _
        have f2 : fa [6] A (aup A 6 (upd (A 6) st'.length (nI (d + 1)))) := fa.up (by decide) _ _
        exact tail ((d + 1) :: st') M1 _ q1 f1 (hR.fr (fx.rf [] x) f2 (by decide) (by decide)) (hn.fr (fx.rf [] x) f2 (by decide) (by decide) (by decide)) (by rw [aup_s]; exact sk_push (sk_pop hs)) hw'
    · have c1 : r.getD i 0 = 64 := (xc_64 hvi).mp (Decidable.not_not.mp e1)
      rw [st_nx, if_pos c1] at hw'
      refine mg_run 1 rfl ?_
      refine mg_get rfl rfl h.2.1 rfl ?_
      refine mg_run 2 rfl ?_
      refine mr_ist 6 rfl h (by decide) (show st'.length < 2002 by omega) (fun M1 q1 => ?_)
      refine mg_run 1 rfl ?_
      refine mg_get rfl rfl q1.2.1 rfl ?_
      refine mg_run 2 rfl ?_
      refine mg_addN rfl ?_
      refine mg_run 1 rfl ?_
      refine mr_ist 6 rfl q1 (by decide) (show st'.length + 1 < 2002 by omega) (fun M2 q2 => ?_)
      refine mg_incN rfl rfl rfl ?_
      refine mg_run 1 rfl ?_
      have f2 : fa [6] A (aup (aup A 6 (upd (A 6) st'.length (nI d))) 6 (upd (aup A 6 (upd (A 6) st'.length (nI d)) 6) (st'.length + 1) (nI d))) := (fa.up (by decide) _ _).tr (fa.up (by decide) _ _)
      exact tail (d :: d :: st') M2 _ q2 (f2.wk (by decide)) (hR.fr (fx.rf [] x) f2 (by decide) (by decide)) (hn.fr (fx.rf [] x) f2 (by decide) (by decide) (by decide)) (by rw [aup_s, aup_s]; exact sk_push (sk_push (sk_pop hs))) hw'
theorem c_Mo_putShifted {M : mm_M} {x : Nat → Int32} {A : Nat → Nat → Int32} {out : List Nat} (hv : ∀ i, r.getD i 0 < 10000) (hz : ∀ i, i < r.length → ¬ r.getD i 0 = 0) (h : mo_is M0 M x A) (hR : ro_is x A r) (hx : nx_is x A out) {s mo : Nat} (hn : te_nd (r.drop s) 1 = 0)
    (hQ : ∀ M' x' A', mo_is M0 M' x' A' → fx [10, 11] x x' → fa [4, 6] A A' → nx_is x' A' (out ++ te_pc (te_sf r (te_D r s) mo) s (te_en r s - s)) → Q (.inl none) M') : mm_Ct l sc Y_Mo_putShifted M [.ref 54, .int (nI s), .int (nI mo)] Q := by
  have h1 := cl_len hn
  refine mm_by k_Mo_putShifted w_Mo_putShifted rfl rfl ?_
  refine mg_run 2 rfl ?_
  refine mg_callV [.int (nI s)] rfl rfl rfl h.2.1 rfl rfl rfl rfl (c_Mo_behind h hR hv hn ?_)
  refine mg_run 4 rfl ?_
  refine mg_get rfl rfl h.2.1 rfl ?_
  refine mg_run 2 rfl ?_
  refine mr_ist 6 rfl h (by decide) (show 0 < 2002 by decide) (fun M1 q1 => ?_)
  refine mg_run 2 rfl ?_
  have f2 : fa [6] A (aup A 6 (upd (A 6) 0 (nI 0))) := fa.up (by decide) _ _
  refine lp_Mo_putShifted hv hz (te_en_le (by omega)) _ s [0] none none M1 x _ out rfl q1 (hR.fr (fx.rf [] x) f2 (by decide) (by decide)) (hx.fr (fx.rf [] x) f2 (by decide) (by decide) (by decide)) ?_ (wk_0 hn) rfl (te_en_ge r s) (fun M' x' A' p1 p2 p3 p4 => hQ M' x' A' p1 p2 ((f2.wk (by decide)).tr p3) p4)
  rw [aup_s]
  exact sk_push (st := []) (fun j hj => absurd hj (Nat.not_lt_zero j))
end
end
section
/-! The reference: the body of a redex. -/
theorem te_pc_congr {f g : Nat → List Nat} : ∀ n s, (∀ j, s ≤ j → j < s + n → f j = g j) → te_pc f s n = te_pc g s n := by
  intro n
  induction n with
  | zero => intro s _; rfl
  | succ n ih =>
    intro s h
    rw [te_pc, te_pc, h s (Nat.le_refl _) (by omega), ih (s + 1) (fun j h1 h2 => h j (by omega) (by omega))]
/-- a place of the body, the argument given as a function of the depth -/
def te_bo (r : List Nat) (D : Nat → Nat) (F : Nat → List Nat) (i : Nat) : List Nat := if r.getD i 0 = 1000 + D i then F (D i) else [if r.getD i 0 ≤ 1000 + D i then r.getD i 0 else r.getD i 0 - 1]
def te_af (r : List Nat) (ar mo : Nat) : List Nat := te_pc (te_sf r (te_D r ar) mo) ar (te_en r ar - ar)
section
variable {l : Launch} {sc : Nat × (Nat → Int32)} {M0 : mm_M} {Q : mm_O → mm_M → Prop} {r : List Nat}
theorem lp_Mo_putBody (hv : ∀ i, r.getD i 0 < 10000) (hz : ∀ i, i < r.length → ¬ r.getD i 0 = 0) {D : Nat → Nat} {en ar : Nat} {x1 : Int32} (hen : en ≤ r.length) (har : te_nd (r.drop ar) 1 = 0) : ∀ m i (st : List Nat) (x6 x7 : Option Value) (M : mm_M) (x : Nat → Int32) (A : Nat → Nat → Int32) (out : List Nat), mm_c2 (some x6) = false → mo_is M0 M x A → ro_is x A r → nx_is x A out → sk_in (A 5) st → wk_is r D en i st → en - i = m → i ≤ en →
    (∀ M' x' A', mo_is M0 M' x' A' → fx [10, 11] x x' → fa [4, 5, 6] A A' → nx_is x' A' (out ++ te_pc (te_bo r D (te_af r ar)) i m) → Q (.inl none) M') →
    mm_Go l sc Y_Mo_putBody 0 0 M [some (.ref 54), some (.int x1), some (.int (nI ar)), some (.int (nI en)), some (.int (nI st.length)), some (.int (nI i)), x6, x7] [] 19 Q := by
  intro m
  induction m with
  | zero =>
    intro i st x6 x7 M x A out hx6 h hR hn hs hw hm hi hQ
    have h4 := hR.2.1
    refine mg_run 2 rfl ?_
    refine mg_ge rfl (by omega) (by omega) (fun _ => ?_) (fun h => absurd h (by omega))
    refine mg_vr rfl rfl rfl rfl ?_
    exact hQ M x A h (fx.rf _ _) (fa.rf _ _) (by rw [te_pc, List.append_nil]; exact hn)
  | succ m ih =>
    intro i st x6 x7 M x A out hx6 h hR hn hs hw hm hi hQ
    have h4 := hR.2.1
    obtain ⟨d, st', rfl, hD, hd, hl, hw'⟩ := wk_s hw (by omega) hen
    have hvi := hv i
    have hzi := hz i (by omega)
    have tail : ∀ (st2 : List Nat) (M1 : mm_M) (A1 : Nat → Nat → Int32), mo_is M0 M1 x A1 → fa [4, 5, 6] A A1 → ro_is x A1 r → nx_is x A1 out → sk_in (A1 5) st2 → wk_is r D en (i + 1) st2 →
        mm_Go l sc Y_Mo_putBody 0 0 M1 [some (.ref 54), some (.int x1), some (.int (nI ar)), some (.int (nI en)), some (.int (nI st2.length)), some (.int (nI i)), some (.int (nI d)), some (.int (xc (r.getD i 0)))] [] 99 Q := by
      intro st2 M1 A1 g gf gR gn gs gw
      have fin : ∀ p, te_bo r D (te_af r ar) i = p → ∀ M2 x2 A2, mo_is M0 M2 x2 A2 → fx [10, 11] x x2 → fa [4, 6] A1 A2 → nx_is x2 A2 (out ++ p) →
          mm_Go l sc Y_Mo_putBody 0 0 M2 [some (.ref 54), some (.int x1), some (.int (nI ar)), some (.int (nI en)), some (.int (nI st2.length)), some (.int (nI i)), some (.int (nI d)), some (.int (xc (r.getD i 0)))] [] 152 Q := by
        intro p ev M2 x2 A2 p1 p2 p3 p4
        refine mg_incN rfl rfl rfl ?_
        refine mg_run 1 rfl ?_
        have p5 : fa [4, 5, 6] A1 A2 := p3.wk (by decide)
        refine ih (i + 1) st2 _ _ M2 x2 A2 _ rfl p1 (gR.fr p2 p3 (by decide) (by decide)) p4 (by rw [p3 5 (by decide)]; exact gs) gw (by omega) (by omega) (fun M' x' A' q1 q2 q3 q4 => hQ M' x' A' q1 (p2.tr q2) ((gf.tr p5).tr q3) ?_)
        rw [te_pc, ev, ← List.append_assoc]
        exact q4
      refine mg_run 1 rfl ?_
      refine mg_callS [.int (xc (r.getD i 0))] rfl rfl rfl rfl rfl rfl (c_Mo_isIndex (fun e => ?_) (fun e => ?_))
      · have c1 := (ix_iff hvi hzi).mp e
        have exc := xc_ix c1
        refine mg_zeq rfl (by decide) (fun h => absurd h (by decide)) (fun _ => ?_)
        refine mg_run 2 rfl ?_
        rw [exc]
        refine mg_ne rfl (by omega) (by omega) (fun c2 => ?_) (fun c2 => ?_)
        · rw [← exc]
          refine mg_run 2 rfl ?_
          refine mg_callS [.int (xc (r.getD i 0))] rfl rfl rfl rfl rfl rfl (c_Mo_isIndex (fun _ => ?_) (fun e9 => absurd e e9))
          refine mg_zeq rfl (by decide) (fun h => absurd h (by decide)) (fun _ => ?_)
          refine mg_run 2 rfl ?_
          rw [exc]
          refine mg_le rfl (by omega) (by omega) (fun c3 => ?_) (fun c3 => ?_)
          · rw [← exc]
            refine mg_run 1 rfl ?_
            refine mg_callV [.int (xc (r.getD i 0))] rfl rfl rfl g.2.1 rfl rfl rfl rfl (c_Mo_put g gn (fun M2 x2 A2 p1 p2 p3 p4 => fin _ ?_ M2 x2 A2 p1 p2 (p3.wk (by decide)) p4))
            unfold te_bo
            rw [if_neg (by omega), if_pos (by omega)]
          · refine mg_run 2 rfl ?_
            refine mg_subN rfl (by omega) ?_
            have e2 : nI (r.getD i 0 - 1000 - 1) = xc (r.getD i 0 - 1) := by
              rw [xc_ix (by omega), show r.getD i 0 - 1 - 1000 = r.getD i 0 - 1000 - 1 by omega]
            rw [e2, ← exc]
            refine mg_run 1 rfl ?_
            refine mg_callV [.int (xc (r.getD i 0 - 1))] rfl rfl rfl g.2.1 rfl rfl rfl rfl (c_Mo_put g gn (fun M2 x2 A2 p1 p2 p3 p4 => fin _ ?_ M2 x2 A2 p1 p2 (p3.wk (by decide)) p4))
            unfold te_bo
            rw [if_neg (by omega), if_neg (by omega)]
        · rw [← exc]
          refine mg_run 3 rfl ?_
          refine mg_callV [.int (nI ar), .int (nI d)] rfl rfl rfl g.2.1 rfl rfl rfl rfl (c_Mo_putShifted hv hz g gR gn har (fun M2 x2 A2 p1 p2 p3 p4 => ?_))
          refine mg_run 1 rfl ?_
          refine fin _ ?_ M2 x2 A2 p1 p2 p3 p4
          unfold te_bo
          rw [if_pos (by omega), hD]
          rfl
      · have c1 : ¬ 1000 ≤ r.getD i 0 := fun h9 => e ((ix_iff hvi hzi).mpr h9)
        refine mg_zeq rfl (by decide) (fun _ => ?_) (fun h => absurd h (by decide))
        refine mg_run 2 rfl ?_
        refine mg_callS [.int (xc (r.getD i 0))] rfl rfl rfl rfl rfl rfl (c_Mo_isIndex (fun e9 => absurd e9 e) (fun _ => ?_))
        refine mg_zeq rfl (by decide) (fun _ => ?_) (fun h => absurd h (by decide))
        refine mg_run 1 rfl ?_
        refine mg_callV [.int (xc (r.getD i 0))] rfl rfl rfl g.2.1 rfl rfl rfl rfl (c_Mo_put g gn (fun M2 x2 A2 p1 p2 p3 p4 => fin _ ?_ M2 x2 A2 p1 p2 (p3.wk (by decide)) p4))
        unfold te_bo
        rw [if_neg (by omega), if_pos (by omega)]
    refine mg_run 2 rfl ?_
    refine mg_ge rfl (by omega) (by omega) (fun h => absurd h (by omega)) (fun hlt => ?_)
    refine mg_decN rfl rfl rfl ?_
    refine mg_run 1 rfl ?_
    refine mg_get rfl rfl h.2.1 rfl ?_
    refine mg_run 1 rfl ?_
    refine mr_ild 5 rfl h (by decide) (show st'.length < 2002 by omega) ?_
    rw [sk_top hs]
    refine mg_run 2 rfl ?_
    refine mg_get rfl rfl h.2.1 rfl ?_
    refine mg_run 1 rfl ?_
    refine mr_ild 3 rfl h (by decide) (show i < 2001 by omega) ?_
    rw [hR.2.2 i (by omega)]
    refine mg_run 3 rfl ?_
    refine mg_icmp rfl (fun e1 => ?_) (fun e1 => ?_)
    · have c1 : ¬ r.getD i 0 = 64 := fun h9 => e1 ((xc_64 hvi).mpr h9)
      refine mg_run 2 rfl ?_
      refine mg_icmp rfl (fun e2 => ?_) (fun e2 => ?_)
      · have c2 : ¬ r.getD i 0 = 92 := fun h9 => e2 ((xc_92 hvi).mpr h9)
        rw [st_nx, if_neg c1, if_neg c2] at hw'
        exact tail st' M A h (fa.rf _ _) hR hn (sk_pop hs) hw'
      · have c2 : r.getD i 0 = 92 := (xc_92 hvi).mp (Decidable.not_not.mp e2)
        rw [st_nx, if_neg c1, if_pos c2] at hw'
        refine mg_run 1 rfl ?_
        refine mg_get rfl rfl h.2.1 rfl ?_
        refine mg_run 3 rfl ?_
        refine mg_addN rfl ?_
        refine mr_ist 5 rfl h (by decide) (show st'.length < 2002 by omega) (fun M1 q1 => ?_)
        refine mg_incN rfl rfl rfl ?_
        have f1 : fa [4, 5, 6] A (aup A 5 (upd (A 5) st'.length (nI (d + 1)))) := fa.up (by decide) _ _
        have f2 : fa [5] A (aup A 5 (upd (A 5) st'.length (nI (d + 1)))) := fa.up (by decide) _ _
        exact tail ((d + 1) :: st') M1 _ q1 f1 (hR.fr (fx.rf [] x) f2 (by decide) (by decide)) (hn.fr (fx.rf [] x) f2 (by decide) (by decide) (by decide)) (by rw [aup_s]; exact sk_push (sk_pop hs)) hw'
    · have c1 : r.getD i 0 = 64 := (xc_64 hvi).mp (Decidable.not_not.mp e1)
      rw [st_nx, if_pos c1] at hw'
      refine mg_run 1 rfl ?_
      refine mg_get rfl rfl h.2.1 rfl ?_
      refine mg_run 2 rfl ?_
      refine mr_ist 5 rfl h (by decide) (show st'.length < 2002 by omega) (fun M1 q1 => ?_)
      refine mg_run 1 rfl ?_
      refine mg_get rfl rfl q1.2.1 rfl ?_
      refine mg_run 2 rfl ?_
      refine mg_addN rfl ?_
      refine mg_run 1 rfl ?_
      refine mr_ist 5 rfl q1 (by decide) (show st'.length + 1 < 2002 by omega) (fun M2 q2 => ?_)
      refine mg_incN rfl rfl rfl ?_
      refine mg_run 1 rfl ?_
      have f2 : fa [5] A (aup (aup A 5 (upd (A 5) st'.length (nI d))) 5 (upd (aup A 5 (upd (A 5) st'.length (nI d)) 5) (st'.length + 1) (nI d))) := (fa.up (by decide) _ _).tr (fa.up (by decide) _ _)
      exact tail (d :: d :: st') M2 _ q2 (f2.wk (by decide)) (hR.fr (fx.rf [] x) f2 (by decide) (by decide)) (hn.fr (fx.rf [] x) f2 (by decide) (by decide) (by decide)) (by rw [aup_s, aup_s]; exact sk_push (sk_push (sk_pop hs))) hw'
theorem c_Mo_putBody {M : mm_M} {x : Nat → Int32} {A : Nat → Nat → Int32} {out : List Nat} (hv : ∀ i, r.getD i 0 < 10000) (hz : ∀ i, i < r.length → ¬ r.getD i 0 = 0) (h : mo_is M0 M x A) (hR : ro_is x A r) (hx : nx_is x A out) {s : Nat} (hn : te_nd (r.drop s) 2 = 0)
    (hQ : ∀ M' x' A', mo_is M0 M' x' A' → fx [10, 11] x x' → fa [4, 5, 6] A A' → nx_is x' A' (out ++ te_pc (te_sb r (te_DD r s) (te_en r s) (te_en r (te_en r s) - te_en r s)) s (te_en r s - s)) → Q (.inl none) M') : mm_Ct l sc Y_Mo_putBody M [.ref 54, .int (nI s), .int (nI (te_en r s))] Q := by
  obtain ⟨hn1, hn2⟩ := te_nd_add _ 1 1 hn
  rw [List.drop_drop] at hn2
  have har : te_nd (r.drop (te_en r s)) 1 = 0 := hn2
  have h1 := cl_len hn1
  refine mm_by k_Mo_putBody w_Mo_putBody rfl rfl ?_
  refine mg_run 2 rfl ?_
  refine mg_callV [.int (nI s)] rfl rfl rfl h.2.1 rfl rfl rfl rfl (c_Mo_behind h hR hv hn1 ?_)
  refine mg_run 4 rfl ?_
  refine mg_get rfl rfl h.2.1 rfl ?_
  refine mg_run 2 rfl ?_
  refine mr_ist 5 rfl h (by decide) (show 0 < 2002 by decide) (fun M1 q1 => ?_)
  refine mg_run 2 rfl ?_
  have f2 : fa [5] A (aup A 5 (upd (A 5) 0 (nI 0))) := fa.up (by decide) _ _
  refine lp_Mo_putBody hv hz (te_en_le (by omega)) har _ s [0] none none M1 x _ out rfl q1 (hR.fr (fx.rf [] x) f2 (by decide) (by decide)) (hx.fr (fx.rf [] x) f2 (by decide) (by decide) (by decide)) ?_ (wk_0 hn1) rfl (te_en_ge r s) (fun M' x' A' p1 p2 p3 p4 => hQ M' x' A' p1 p2 ((f2.wk (by decide)).tr p3) ?_)
  · rw [aup_s]
    exact sk_push (st := []) (fun j hj => absurd hj (Nat.not_lt_zero j))
  · have e : te_pc (te_sb r (te_DD r s) (te_en r s) (te_en r (te_en r s) - te_en r s)) s (te_en r s - s) = te_pc (te_bo r (te_D r s) (te_af r (te_en r s))) s (te_en r s - s) := by
      refine te_pc_congr _ _ (fun j j1 j2 => ?_)
      have hj : j < te_en r s := by have := te_en_ge r s; omega
      have eD : te_DD r s j = te_D r s j := if_pos hj
      unfold te_sb te_bo
      rw [eD]
      have eF : te_pc (te_sf r (te_DD r s) (te_D r s j)) (te_en r s) (te_en r (te_en r s) - te_en r s) = te_af r (te_en r s) (te_D r s j) := by
        refine te_pc_congr _ _ (fun i i1 i2 => ?_)
        unfold te_sf
        rw [show te_DD r s i = te_D r (te_en r s) i from if_neg (by omega)]
      rw [eF]
    rw [e]
    exact p4
end
end
section
/-! The reference: a step. -/
section
variable {r : List Nat}
theorem en_app {i : Nat} (hi : i < r.length) (e : r.getD i 0 = 64) : te_en r i = te_en r (te_en r (i + 1)) := by
  unfold te_en
  rw [te_drop hi, te_sc, if_pos e]
  have h := te_sc_add (r.drop (i + 1)) 1 1
  rw [List.drop_drop] at h
  rw [show 0 + 2 = 1 + 1 by rfl, h]
  omega
theorem en_abs {i : Nat} (hi : i < r.length) (e : r.getD i 0 = 92) : te_en r i = te_en r (i + 1) := by
  unfold te_en
  rw [te_drop hi, te_sc, if_neg (by omega), if_pos e]
  rw [show 0 + 1 = 1 by rfl]
  omega
theorem en_leaf {i : Nat} (hi : i < r.length) (e : ¬ r.getD i 0 = 64) (e2 : ¬ r.getD i 0 = 92) : te_en r i = i + 1 := by
  unfold te_en
  rw [te_drop hi, te_sc, if_neg e, if_neg e2, te_sc0]
theorem nd_s {i o : Nat} (hi : i < r.length) (h : te_nd (r.drop i) (o + 1) = 0) : te_nd (r.drop (i + 1)) (if r.getD i 0 = 64 then o + 2 else if r.getD i 0 = 92 then o + 1 else o) = 0 := by
  rw [te_drop hi, te_nd] at h
  exact h
theorem nd_en {i o : Nat} (h : te_nd (r.drop i) (o + 1) = 0) : te_nd (r.drop i) 1 = 0 ∧ te_nd (r.drop (te_en r i)) o = 0 := by
  rw [show o + 1 = 1 + o by omega] at h
  obtain ⟨h1, h2⟩ := te_nd_add _ 1 o h
  rw [List.drop_drop] at h2
  exact ⟨h1, h2⟩
theorem nd_1 {i o : Nat} (h : te_nd (r.drop i) (o + 1) = 0) : te_nd (r.drop i) 1 = 0 := (nd_en h).1
theorem rh_92 {i : Nat} (h : te_rh r i = 92) : r.getD i 0 = 64 ∧ r.getD (i + 1) 0 = 92 := by
  unfold te_rh at h
  repeat' split at h
  all_goals first | (exact absurd h (by decide)) | exact ⟨by assumption, by assumption⟩
theorem rh_73 {i : Nat} (h : te_rh r i = 73) : r.getD i 0 = 64 ∧ r.getD (i + 1) 0 = 73 := by
  unfold te_rh at h
  repeat' split at h
  all_goals first | (exact absurd h (by decide)) | exact ⟨by assumption, by assumption⟩
theorem rh_75 {i : Nat} (h : te_rh r i = 75) : r.getD i 0 = 64 ∧ r.getD (i + 1) 0 = 64 ∧ r.getD (i + 2) 0 = 75 := by
  unfold te_rh at h
  repeat' split at h
  all_goals first | (exact absurd h (by decide)) | exact ⟨by assumption, by assumption, by assumption⟩
theorem rh_83 {i : Nat} (h : te_rh r i = 83) : r.getD i 0 = 64 ∧ r.getD (i + 1) 0 = 64 ∧ r.getD (i + 2) 0 = 64 ∧ r.getD (i + 3) 0 = 83 := by
  unfold te_rh at h
  repeat' split at h
  all_goals first | (exact absurd h (by decide)) | exact ⟨by assumption, by assumption, by assumption, by assumption⟩
theorem rh_or (r : List Nat) (i : Nat) : te_rh r i = 0 ∨ te_rh r i = 92 ∨ te_rh r i = 73 ∨ te_rh r i = 75 ∨ te_rh r i = 83 := by
  unfold te_rh
  repeat' split
  all_goals simp
theorem te_pt_app {s e f : Nat} (h1 : s ≤ e) (h2 : e ≤ f) : te_pt r s f = te_pt r s e ++ te_pt r e f := by
  unfold te_pt
  rw [show f - s = (e - s) + (f - e) by omega, List.take_add, List.drop_drop, show s + (e - s) = e by omega]
end
section
variable {l : Launch} {sc : Nat × (Nat → Int32)} {M0 : mm_M} {Q : mm_O → mm_M → Prop} {r : List Nat}
theorem c_Mo_spread {M : mm_M} {x : Nat → Int32} {A : Nat → Nat → Int32} {out : List Nat} (hv : ∀ i, r.getD i 0 < 10000) (h : mo_is M0 M x A) (hR : ro_is x A r) (hx : nx_is x A out) {i : Nat} (hn : te_nd (r.drop (i + 4)) 3 = 0)
    (hQ : ∀ M' x' A', mo_is M0 M' x' A' → fx [10, 11] x x' → fa [4] A A' → nx_is x' A' (out ++ ([64] ++ [64] ++ te_pt r (i + 4) (te_en r (i + 4)) ++ te_pt r (te_en r (te_en r (i + 4))) (te_en r (te_en r (te_en r (i + 4)))) ++ [64] ++ te_pt r (te_en r (i + 4)) (te_en r (te_en r (te_en r (i + 4)))))) → Q (.inl none) M') : mm_Ct l sc Y_Mo_spread M [.ref 54, .int (nI i)] Q := by
  obtain ⟨na, hn2⟩ := nd_en hn
  obtain ⟨nb, nc⟩ := nd_en hn2
  refine mm_by k_Mo_spread w_Mo_spread rfl rfl ?_
  refine mg_run 2 rfl ?_
  refine mg_addN rfl ?_
  refine mg_run 3 rfl ?_
  refine mg_callV [.int (nI (i + 4))] rfl rfl rfl h.2.1 rfl rfl rfl rfl (c_Mo_behind h hR hv na ?_)
  refine mg_run 3 rfl ?_
  refine mg_callV [.int (nI (te_en r (i + 4)))] rfl rfl rfl h.2.1 rfl rfl rfl rfl (c_Mo_behind h hR hv nb ?_)
  refine mg_run 3 rfl ?_
  refine mg_callV [.int (xc 64)] rfl rfl rfl h.2.1 rfl rfl rfl rfl (c_Mo_put h hx (fun M1 x1 A1 a1 a2 a3 a4 => ?_))
  have R1 := hR.fr a2 a3 (by decide) (by decide)
  refine mg_run 2 rfl ?_
  refine mg_callV [.int (xc 64)] rfl rfl rfl a1.2.1 rfl rfl rfl rfl (c_Mo_put a1 a4 (fun M2 x2 A2 b1 b2 b3 b4 => ?_))
  have R2 := R1.fr b2 b3 (by decide) (by decide)
  refine mg_run 2 rfl ?_
  refine mg_callV [.int (nI (i + 4))] rfl rfl rfl b1.2.1 rfl rfl rfl rfl (c_Mo_putPart hv b1 R2 b4 na (fun M3 x3 A3 c1 c2 c3 c4 => ?_))
  have R3 := R2.fr c2 c3 (by decide) (by decide)
  refine mg_run 2 rfl ?_
  refine mg_callV [.int (nI (te_en r (te_en r (i + 4))))] rfl rfl rfl c1.2.1 rfl rfl rfl rfl (c_Mo_putPart hv c1 R3 c4 nc (fun M4 x4 A4 d1 d2 d3 d4 => ?_))
  have R4 := R3.fr d2 d3 (by decide) (by decide)
  refine mg_run 2 rfl ?_
  refine mg_callV [.int (xc 64)] rfl rfl rfl d1.2.1 rfl rfl rfl rfl (c_Mo_put d1 d4 (fun M5 x5 A5 e1 e2 e3 e4 => ?_))
  have R5 := R4.fr e2 e3 (by decide) (by decide)
  refine mg_run 2 rfl ?_
  refine mg_callV [.int (nI (te_en r (i + 4)))] rfl rfl rfl e1.2.1 rfl rfl rfl rfl (c_Mo_putPart hv e1 R5 e4 nb (fun M6 x6 A6 f1 f2 f3 f4 => ?_))
  have R6 := R5.fr f2 f3 (by decide) (by decide)
  refine mg_run 2 rfl ?_
  refine mg_callV [.int (nI (te_en r (te_en r (i + 4))))] rfl rfl rfl f1.2.1 rfl rfl rfl rfl (c_Mo_putPart hv f1 R6 f4 nc (fun M7 x7 A7 g1 g2 g3 g4 => ?_))
  refine mg_vr rfl rfl rfl rfl ?_
  refine hQ M7 x7 A7 g1 ((((((a2.tr b2).tr c2).tr d2).tr e2).tr f2).tr g2) ((((((a3.tr b3).tr c3).tr d3).tr e3).tr f3).tr g3) ?_
  rw [te_pt_app (te_en_ge r (te_en r (i + 4))) (te_en_ge r (te_en r (te_en r (i + 4))))]
  simp only [List.append_assoc] at g4 ⊢
  exact g4
theorem lp_Mo_step1 {i : Nat} (hi : i ≤ r.length) {x2 : Int32} : ∀ m k (M : mm_M) (x : Nat → Int32) (A : Nat → Nat → Int32) (out : List Nat), mo_is M0 M x A → ro_is x A r → nx_is x A out → i - k = m → k ≤ i →
    (∀ M' x' A', mo_is M0 M' x' A' → fx [10, 11] x x' → fa [4] A A' → nx_is x' A' (out ++ te_pt r k i) → mm_Go l sc Y_Mo_step 0 0 M' [some (.ref 54), some (.int (nI i)), some (.int x2), some (.int (nI i))] [] 44 Q) →
    mm_Go l sc Y_Mo_step 0 0 M [some (.ref 54), some (.int (nI i)), some (.int x2), some (.int (nI k))] [] 23 Q := by
  intro m
  induction m with
  | zero =>
    intro k M x A out h hR hn hm hk hQ
    have h4 := hR.2.1
    have e : k = i := by omega
    subst e
    refine mg_run 2 rfl ?_
    refine mg_ge rfl (by omega) (by omega) (fun _ => ?_) (fun h => absurd h (by omega))
    refine hQ M x A h (fx.rf _ _) (fa.rf _ _) ?_
    rw [te_pt, hm, List.take_zero, List.append_nil]
    exact hn
  | succ m ih =>
    intro k M x A out h hR hn hm hk hQ
    have h4 := hR.2.1
    refine mg_run 2 rfl ?_
    refine mg_ge rfl (by omega) (by omega) (fun h => absurd h (by omega)) (fun hlt => ?_)
    refine mg_run 2 rfl ?_
    refine mg_get rfl rfl h.2.1 rfl ?_
    refine mg_run 1 rfl ?_
    refine mr_ild 3 rfl h (by decide) (show k < 2001 by omega) ?_
    rw [hR.2.2 k (by omega)]
    refine mg_callV [.int (xc (r.getD k 0))] rfl rfl rfl h.2.1 rfl rfl rfl rfl (c_Mo_put h hn (fun M1 x1 A1 p1 p2 p3 p4 => ?_))
    refine mg_incN rfl rfl rfl ?_
    refine mg_run 1 rfl ?_
    refine ih (k + 1) M1 x1 A1 _ p1 (hR.fr p2 p3 (by decide) (by decide)) p4 (by omega) (by omega) (fun M' x' A' q1 q2 q3 q4 => hQ M' x' A' q1 (p2.tr q2) (p3.tr q3) ?_)
    have e : te_pt r k i = r.getD k 0 :: te_pt r (k + 1) i := by
      unfold te_pt
      rw [te_drop (show k < r.length by omega), show i - k = (i - (k + 1)) + 1 by omega, List.take_succ_cons]
    rw [e]
    rw [List.append_assoc] at q4
    exact q4
theorem lp_Mo_step2 {x1 x2 : Int32} : ∀ m k (M : mm_M) (x : Nat → Int32) (A : Nat → Nat → Int32) (out : List Nat), mo_is M0 M x A → ro_is x A r → nx_is x A out → r.length - k = m → k ≤ r.length →
    ((out ++ r.drop k).length ≤ 2000 → ∀ M' x' A', mo_is M0 M' x' A' → fx [8, 10, 11] x x' → fa [3, 4] A A' → ro_is x' A' (out ++ r.drop k) → Q (.inl (some (.int (nI 0)))) M') →
    (2000 < (out ++ r.drop k).length → ∀ M' x' A', mo_is M0 M' x' A' → fx [8, 10, 11] x x' → fa [3, 4] A A' → ro_is x' A' r → Q (.inl (some (.int (nI 3)))) M') →
    mm_Go l sc Y_Mo_step 0 0 M [some (.ref 54), some (.int x1), some (.int x2), some (.int (nI k))] [] 107 Q := by
  intro m
  induction m with
  | zero =>
    intro k M x A out h hR hn hm hk hQ hN
    have h4 := hR.2.1
    have e : r.drop k = [] := List.drop_eq_nil_of_le (by omega)
    rw [e, List.append_nil] at hQ hN
    refine mg_run 2 rfl ?_
    refine mg_get rfl rfl h.2.1 rfl ?_
    rw [hR.1]
    refine mg_ge rfl (by omega) (by omega) (fun _ => ?_) (fun h => absurd h (by omega))
    obtain ⟨b, b1, b2, b3, b4, b5, b6⟩ := id hn
    refine mg_run 1 rfl ?_
    refine mg_get rfl rfl h.2.1 rfl ?_
    rw [b5]
    refine mg_zeq rfl (by omega) (fun c => ?_) (fun c => ?_)
    · obtain ⟨o1, -⟩ := b1.ok c
      refine mg_run 1 rfl ?_
      refine mg_callV [] rfl rfl rfl h.2.1 rfl rfl rfl rfl (c_Mo_settle h hn o1 (fun M1 x1 A1 p1 p2 p3 p4 => ?_))
      refine mg_run 1 rfl ?_
      exact mg_ir rfl rfl rfl rfl (hQ o1 M1 x1 A1 p1 (p2.wk (by decide)) (p3.wk (by decide)) p4)
    · refine mg_run 1 rfl ?_
      exact mg_ir rfl rfl rfl rfl (hN (b1.not c) M x A h (fx.rf _ _) (fa.rf _ _) hR)
  | succ m ih =>
    intro k M x A out h hR hn hm hk hQ hN
    have h4 := hR.2.1
    refine mg_run 2 rfl ?_
    refine mg_get rfl rfl h.2.1 rfl ?_
    rw [hR.1]
    refine mg_ge rfl (by omega) (by omega) (fun h => absurd h (by omega)) (fun hlt => ?_)
    refine mg_run 2 rfl ?_
    refine mg_get rfl rfl h.2.1 rfl ?_
    refine mg_run 1 rfl ?_
    refine mr_ild 3 rfl h (by decide) (show k < 2001 by omega) ?_
    rw [hR.2.2 k (by omega)]
    refine mg_callV [.int (xc (r.getD k 0))] rfl rfl rfl h.2.1 rfl rfl rfl rfl (c_Mo_put h hn (fun M1 x1 A1 p1 p2 p3 p4 => ?_))
    refine mg_incN rfl rfl rfl ?_
    refine mg_run 1 rfl ?_
    have e : out ++ [r.getD k 0] ++ r.drop (k + 1) = out ++ r.drop k := by rw [te_drop hlt, List.append_assoc]; rfl
    refine ih (k + 1) M1 x1 A1 _ p1 (hR.fr p2 p3 (by decide) (by decide)) p4 (by omega) (by omega) (fun o1 M' x' A' q1 q2 q3 q4 => ?_) (fun o1 M' x' A' q1 q2 q3 q4 => ?_)
    · rw [e] at o1 q4
      exact hQ o1 M' x' A' q1 ((p2.wk (by decide)).tr q2) ((p3.wk (by decide)).tr q3) q4
    · rw [e] at o1
      exact hN o1 M' x' A' q1 ((p2.wk (by decide)).tr q2) ((p3.wk (by decide)).tr q3) q4
end
end
section
/-! The reference: a step whole. -/
theorem te_end_en {r : List Nat} {i : Nat} (hcl : cl r) (hi : i < r.length) (h : ¬ te_rh r i = 0) : te_end r i = te_en r i := by
  unfold te_end
  rcases rh_or r i with e | e | e | e | e
  · exact absurd e h
  · obtain ⟨a, b⟩ := rh_92 e
    have h2 := (cl_app2 hcl hi a).1
    rw [if_pos e, en_app hi a, en_abs (by omega) b]
  · obtain ⟨a, b⟩ := rh_73 e
    have h2 := (cl_app2 hcl hi a).1
    rw [if_neg (by omega), if_neg (by omega), if_neg (by omega), en_app hi a, en_leaf (show i + 1 < r.length by omega) (by omega) (by omega)]
  · obtain ⟨a, b, c⟩ := rh_75 e
    have h2 := cl_app3 hcl hi a b
    rw [if_neg (by omega), if_neg (by omega), if_pos e, en_app hi a, en_app (show i + 1 < r.length by omega) b, en_leaf (show i + 1 + 1 < r.length by omega) (by rw [show i + 1 + 1 = i + 2 by omega]; omega) (by rw [show i + 1 + 1 = i + 2 by omega]; omega)]
  · obtain ⟨a, b, c, d⟩ := rh_83 e
    have h2 := cl_app3 hcl hi a b
    rw [if_neg (by omega), if_pos e, en_app hi a, en_app (show i + 1 < r.length by omega) b, en_app (show i + 1 + 1 < r.length by omega) c, en_leaf (show i + 1 + 1 + 1 < r.length by omega) (by rw [show i + 1 + 1 + 1 = i + 3 by omega]; omega) (by rw [show i + 1 + 1 + 1 = i + 3 by omega]; omega)]
section
variable {l : Launch} {sc : Nat × (Nat → Int32)} {M0 M : mm_M} {Q : mm_O → mm_M → Prop} {r : List Nat} {x : Nat → Int32} {A : Nat → Nat → Int32}
theorem c_Mo_step (hv : ∀ i, r.getD i 0 < 10000) (hz : ∀ i, i < r.length → ¬ r.getD i 0 = 0) (hcl : cl r) (h : mo_is M0 M x A) (hR : ro_is x A r)
    (h0 : te_fr r r.length 0 = none → Q (.inl (some (.int (nI 1)))) M)
    (h1 : ∀ i, te_fr r r.length 0 = some i → (te_step r i).length ≤ 2000 → ∀ M' x' A', mo_is M0 M' x' A' → fx [8, 10, 11] x x' → fa [3, 4, 5, 6] A A' → ro_is x' A' (te_step r i) → Q (.inl (some (.int (nI 0)))) M')
    (h3 : ∀ i, te_fr r r.length 0 = some i → 2000 < (te_step r i).length → ∀ M' x' A', mo_is M0 M' x' A' → fx [8, 10, 11] x x' → fa [3, 4, 5, 6] A A' → ro_is x' A' r → Q (.inl (some (.int (nI 3)))) M') : mm_Ct l sc Y_Mo_step M [.ref 54] Q := by
  have h4 := hR.2.1
  refine mm_by k_Mo_step w_Mo_step rfl rfl ?_
  refine mg_run 1 rfl ?_
  refine mg_callV [] rfl rfl rfl h.2.1 rfl rfl rfl rfl (c_Mo_find h hR hv hcl ?_)
  cases hf : te_fr r r.length 0 with
  | none =>
    refine mg_run 2 rfl ?_
    refine mg_zgeM rfl ?_
    refine mg_run 1 rfl ?_
    exact mg_ir rfl rfl rfl rfl (h0 hf)
  | some i =>
    obtain ⟨hrh, -, hi0⟩ := te_fr_some _ _ _ hf
    have hi : i < r.length := by omega
    have ndi := hcl i hi
    have hrx := rx_lt (te_rh r i)
    refine mg_run 2 rfl ?_
    refine mg_zge rfl (by omega) ?_
    refine mg_run 2 rfl ?_
    refine mg_callV [.int (nI i)] rfl rfl rfl h.2.1 rfl rfl rfl rfl (c_Mo_redex h hR hv hcl hi ?_)
    refine mg_run 2 rfl ?_
    refine mg_callV [] rfl rfl rfl h.2.1 rfl rfl rfl rfl (c_Mo_begin h (fun M1 x1 a1 a2 a3 => ?_))
    have R1 := hR.fr a2 (fa.rf [] A) (by decide) (by decide)
    refine mg_run 2 rfl ?_
    refine lp_Mo_step1 (by omega) _ 0 M1 x1 A [] a1 R1 a3 rfl (Nat.zero_le _) (fun M2 x2 A2 b1 b2 b3 b4 => ?_)
    have R2 := R1.fr b2 b3 (by decide) (by decide)
    have b4 : nx_is x2 A2 (r.take i) := b4
    have mid : ∀ M3 x3 A3, mo_is M0 M3 x3 A3 → fx [10, 11] x2 x3 → fa [4, 5, 6] A2 A3 → nx_is x3 A3 (r.take i ++ te_out r i) →
        mm_Go l sc Y_Mo_step 0 0 M3 [some (.ref 54), some (.int (nI i)), some (.int (nI (rx (te_rh r i)))), some (.int (nI i))] [] 101 Q := by
      intro M3 x3 A3 c1 c2 c3 c4
      have R3 := R2.fr c2 c3 (by decide) (by decide)
      refine mg_run 2 rfl ?_
      refine mg_callV [.int (nI i)] rfl rfl rfl c1.2.1 rfl rfl rfl rfl (c_Mo_behind c1 R3 hv ndi ?_)
      refine mg_run 1 rfl ?_
      have F : fx [8, 10, 11] x x3 := ((a2.tr b2).tr c2).wk (by decide)
      have G : fa [3, 4, 5, 6] A A3 := (b3.wk (by decide)).tr (c3.wk (by decide))
      have e : r.take i ++ te_out r i ++ r.drop (te_en r i) = te_step r i := by
        unfold te_step
        rw [te_end_en hcl hi hrh]
      refine lp_Mo_step2 _ (te_en r i) M3 x3 A3 _ c1 R3 c4 rfl (te_en_le (by omega)) (fun o1 M' x' A' q1 q2 q3 q4 => ?_) (fun o1 M' x' A' q1 q2 q3 q4 => ?_)
      · rw [e] at o1 q4
        exact h1 i hf o1 M' x' A' q1 (F.tr q2) (G.tr (q3.wk (by decide))) q4
      · rw [e] at o1
        exact h3 i hf o1 M' x' A' q1 (F.tr q2) (G.tr (q3.wk (by decide))) q4
    refine mg_run 2 rfl ?_
    rcases rh_or r i with e | e | e | e | e
    · exact absurd e hrh
    · obtain ⟨a, b⟩ := rh_92 e
      have k2 := (cl_app2 hcl hi a).1
      have n1 := nd_s hi ndi
      rw [if_pos a] at n1
      have n2 := nd_s (show i + 1 < r.length by omega) n1
      rw [if_neg (by omega), if_pos b] at n2
      have ex : rx (te_rh r i) = 1 := by rw [e]; rfl
      rw [ex] at mid ⊢
      refine mg_ne rfl (by decide) (by decide) (fun h => absurd rfl h) (fun _ => ?_)
      refine mg_run 3 rfl ?_
      refine mg_addN rfl ?_
      refine mg_run 3 rfl ?_
      refine mg_addN rfl ?_
      refine mg_callV [.int (nI (i + 1))] rfl rfl rfl b1.2.1 rfl rfl rfl rfl (c_Mo_behind b1 R2 hv (nd_1 n1) ?_)
      rw [en_abs (show i + 1 < r.length by omega) b]
      refine mg_callV [.int (nI (i + 2)), .int (nI (te_en r (i + 2)))] rfl rfl rfl b1.2.1 rfl rfl rfl rfl (c_Mo_putBody hv hz b1 R2 b4 n2 (fun M3 x3 A3 c1 c2 c3 c4 => ?_))
      refine mg_run 1 rfl ?_
      refine mid M3 x3 A3 c1 c2 c3 ?_
      rw [te_out, if_pos e]
      exact c4
    · obtain ⟨a, b⟩ := rh_73 e
      have k2 := (cl_app2 hcl hi a).1
      have ex : rx (te_rh r i) = 2 := by rw [e]; rfl
      rw [ex] at mid ⊢
      refine mg_ne rfl (by decide) (by decide) (fun _ => ?_) (fun h => absurd h (by decide))
      refine mg_run 2 rfl ?_
      refine mg_ne rfl (by decide) (by decide) (fun h => absurd rfl h) (fun _ => ?_)
      refine mg_run 3 rfl ?_
      refine mg_addN rfl ?_
      refine mg_callV [.int (nI (i + 2))] rfl rfl rfl b1.2.1 rfl rfl rfl rfl (c_Mo_putPart hv b1 R2 b4 (hcl (i + 2) (by omega)) (fun M3 x3 A3 c1 c2 c3 c4 => ?_))
      refine mg_run 1 rfl ?_
      refine mid M3 x3 A3 c1 c2 (c3.wk (by decide)) ?_
      rw [te_out, if_neg (by omega), if_neg (by omega), if_neg (by omega)]
      exact c4
    · obtain ⟨a, b, c⟩ := rh_75 e
      have k2 := cl_app3 hcl hi a b
      have ex : rx (te_rh r i) = 3 := by rw [e]; rfl
      rw [ex] at mid ⊢
      refine mg_ne rfl (by decide) (by decide) (fun _ => ?_) (fun h => absurd h (by decide))
      refine mg_run 2 rfl ?_
      refine mg_ne rfl (by decide) (by decide) (fun _ => ?_) (fun h => absurd h (by decide))
      refine mg_run 2 rfl ?_
      refine mg_ne rfl (by decide) (by decide) (fun h => absurd rfl h) (fun _ => ?_)
      refine mg_run 3 rfl ?_
      refine mg_addN rfl ?_
      refine mg_callV [.int (nI (i + 3))] rfl rfl rfl b1.2.1 rfl rfl rfl rfl (c_Mo_putPart hv b1 R2 b4 (hcl (i + 3) (by omega)) (fun M3 x3 A3 c1 c2 c3 c4 => ?_))
      refine mg_run 1 rfl ?_
      refine mid M3 x3 A3 c1 c2 (c3.wk (by decide)) ?_
      rw [te_out, if_neg (by omega), if_neg (by omega), if_pos e]
      exact c4
    · obtain ⟨a, b, c, d⟩ := rh_83 e
      have k2 := cl_app3 hcl hi a b
      have n1 := nd_s hi ndi
      rw [if_pos a] at n1
      have n2 := nd_s (show i + 1 < r.length by omega) n1
      rw [if_pos b] at n2
      have n3 := nd_s (show i + 2 < r.length by omega) n2
      rw [if_pos c] at n3
      have n4 := nd_s (show i + 3 < r.length by omega) n3
      rw [if_neg (by omega), if_neg (by omega)] at n4
      have ex : rx (te_rh r i) = 4 := by rw [e]; rfl
      rw [ex] at mid ⊢
      refine mg_ne rfl (by decide) (by decide) (fun _ => ?_) (fun h => absurd h (by decide))
      refine mg_run 2 rfl ?_
      refine mg_ne rfl (by decide) (by decide) (fun _ => ?_) (fun h => absurd h (by decide))
      refine mg_run 2 rfl ?_
      refine mg_ne rfl (by decide) (by decide) (fun _ => ?_) (fun h => absurd h (by decide))
      refine mg_run 2 rfl ?_
      refine mg_callV [.int (nI i)] rfl rfl rfl b1.2.1 rfl rfl rfl rfl (c_Mo_spread hv b1 R2 b4 n4 (fun M3 x3 A3 c1 c2 c3 c4 => ?_))
      refine mid M3 x3 A3 c1 c2 (c3.wk (by decide)) ?_
      rw [te_out, if_neg (by omega), if_pos e]
      exact c4
end
end
section
/-! The reference: steps, reduce, redexes. -/
section
variable {l : Launch} {sc : Nat × (Nat → Int32)} {M0 M : mm_M} {Q : mm_O → mm_M → Prop} {r : List Nat} {x : Nat → Int32} {A : Nat → Nat → Int32} {sl : Nat → List Nat}
/-- what steps leaves -/
def rn_k (M0 : mm_M) (x : Nat → Int32) (A : Nat → Nat → Int32) (r : List Nat) (o : Nat) (M' : mm_M) : Prop := ∃ x' A', mo_is M0 M' x' A' ∧ fx [4, 8, 10, 11] x x' ∧ fa [3, 4, 5, 6] A A' ∧ ro_is x' A' r ∧ x' 4 = nI o
theorem lp_Mo_steps2 (h : mo_is M0 M x A) {o d : Nat} {x1 : Int32} (ho : o < 4) (hx : x 4 = nI o) (hR : ro_is x A r) (hv : ∀ i, r.getD i 0 < 10000) (hcl : cl r)
    (hQ : ∀ M', rn_k M0 x A r (if 0 < o then o else if te_fr r r.length 0 = none then 1 else 2) M' → Q (.inl (some (.int (nI d)))) M') : mm_Go l sc Y_Mo_steps 0 0 M [some (.ref 54), some (.int x1), some (.int (nI d))] [] 45 Q := by
  refine mg_run 2 rfl ?_
  refine mg_get rfl rfl h.2.1 rfl ?_
  rw [hx]
  refine mg_zle rfl (by omega) (fun e => ?_) (fun e => ?_)
  · rw [if_neg (by omega)] at hQ
    refine mg_run 1 rfl ?_
    refine mg_callV [] rfl rfl rfl h.2.1 rfl rfl rfl rfl (c_Mo_find h hR hv hcl ?_)
    cases hf : te_fr r r.length 0 with
    | none =>
      rw [if_pos hf] at hQ
      refine mg_zgeM rfl ?_
      refine mg_run 2 rfl ?_
      refine mr_put rfl rfl h rfl rfl rfl (fun M1 q1 => ?_)
      refine mg_run 1 rfl ?_
      refine mg_ir rfl rfl rfl rfl (hQ M1 ⟨_, A, q1, fx.up (by decide) _ _, fa.rf _ _, hR.fr (fx.up (ls := [4]) (by decide) _ _) (fa.rf [] A) (by decide) (by decide), pk_us⟩)
    | some i =>
      rw [if_neg (by rw [hf]; exact fun h => by cases h)] at hQ
      have h9 := (te_fr_some _ _ _ hf).2.2
      have h4 := hR.2.1
      refine mg_zge rfl (by omega) ?_
      refine mg_run 1 rfl ?_
      refine mr_put rfl rfl h rfl rfl rfl (fun M1 q1 => ?_)
      refine mg_run 1 rfl ?_
      refine mg_ir rfl rfl rfl rfl (hQ M1 ⟨_, A, q1, fx.up (by decide) _ _, fa.rf _ _, hR.fr (fx.up (ls := [4]) (by decide) _ _) (fa.rf [] A) (by decide) (by decide), pk_us⟩)
  · rw [if_pos e] at hQ
    refine mg_run 1 rfl ?_
    refine mg_get rfl rfl h.2.1 rfl ?_
    rw [hx]
    refine mg_run 1 rfl ?_
    refine mr_put rfl rfl h rfl rfl rfl (fun M1 q1 => ?_)
    refine mg_run 1 rfl ?_
    refine mg_ir rfl rfl rfl rfl (hQ M1 ⟨_, A, q1, fx.up (by decide) _ _, fa.rf _ _, hR.fr (fx.up (ls := [4]) (by decide) _ _) (fa.rf [] A) (by decide) (by decide), pk_us⟩)
theorem lp_Mo_steps (P : List Nat → Prop) (hP1 : ∀ r, P r → (∀ i, r.getD i 0 < 10000) ∧ (∀ i, i < r.length → ¬ r.getD i 0 = 0) ∧ cl r) (hP2 : ∀ r i, P r → te_fr r r.length 0 = some i → (te_step r i).length ≤ 2000 → P (te_step r i)) {N : Nat} (hN : N ≤ 1000) : ∀ m d (M : mm_M) (x : Nat → Int32) (A : Nat → Nat → Int32) (r : List Nat), N - d = m → d ≤ N → P r → mo_is M0 M x A → ro_is x A r → x 4 = nI 0 →
    (∀ M', rn_k M0 x A (te_rn m r).1 (te_rn m r).2.2 M' → Q (.inl (some (.int (nI (d + (te_rn m r).2.1))))) M') →
    mm_Go l sc Y_Mo_steps 0 0 M [some (.ref 54), some (.int (nI N)), some (.int (nI d))] [] 7 Q := by
  intro m
  induction m with
  | zero =>
    intro d M x A r hm hd hP h hR hx hQ
    obtain ⟨hv, hz, hcl⟩ := hP1 r hP
    refine mg_run 1 rfl ?_
    refine mg_get rfl rfl h.2.1 rfl ?_
    rw [hx]
    refine mg_zne rfl (by decide) (fun h => absurd h (by decide)) (fun _ => ?_)
    refine mg_run 2 rfl ?_
    refine mg_ge rfl (by omega) (by omega) (fun _ => ?_) (fun h => absurd h (by omega))
    exact lp_Mo_steps2 h (o := 0) (by decide) hx hR hv hcl (fun M' q => hQ M' q)
  | succ m ih =>
    intro d M x A r hm hd hP h hR hx hQ
    obtain ⟨hv, hz, hcl⟩ := hP1 r hP
    refine mg_run 1 rfl ?_
    refine mg_get rfl rfl h.2.1 rfl ?_
    rw [hx]
    refine mg_zne rfl (by decide) (fun h => absurd h (by decide)) (fun _ => ?_)
    refine mg_run 2 rfl ?_
    refine mg_ge rfl (by omega) (by omega) (fun h => absurd h (by omega)) (fun _ => ?_)
    refine mg_run 2 rfl ?_
    refine mg_callV [] rfl rfl rfl h.2.1 rfl rfl rfl rfl (c_Mo_step hv hz hcl h hR (fun e => ?_) (fun i e o1 M1 x1 A1 p1 p2 p3 p4 => ?_) (fun i e o1 M1 x1 A1 p1 p2 p3 p4 => ?_))
    · have er : te_rn (m + 1) r = (r, 0, 1) := by rw [te_rn, e]
      rw [er] at hQ
      refine mr_put rfl rfl h rfl rfl rfl (fun M1 q1 => ?_)
      refine mg_run 2 rfl ?_
      refine mg_get rfl rfl q1.2.1 rfl ?_
      rw [pk_us]
      refine mg_zne rfl (by decide) (fun _ => ?_) (fun h => absurd h (by decide))
      refine mg_run 1 rfl ?_
      refine mg_addN rfl ?_
      refine mg_run 3 rfl ?_
      refine mg_get rfl rfl q1.2.1 rfl ?_
      rw [pk_us]
      refine mg_zne rfl (by decide) (fun _ => ?_) (fun h => absurd h (by decide))
      have R1 := hR.fr (fx.up (ls := [4]) (k := 4) (by decide) x (nI 1)) (fa.rf [] A) (by decide) (by decide)
      refine lp_Mo_steps2 q1 (o := 1) (by decide) pk_us R1 hv hcl (fun M' q => hQ M' ?_)
      obtain ⟨x', A', k1, k2, k3, k4, k5⟩ := q
      exact ⟨x', A', k1, (fx.up (by decide) _ _).tr k2, k3, k4, k5⟩
    · have er : te_rn (m + 1) r = ((te_rn m (te_step r i)).1, (te_rn m (te_step r i)).2.1 + 1, (te_rn m (te_step r i)).2.2) := by
        rw [te_rn, e]
        exact if_pos o1
      rw [er] at hQ
      refine mr_put rfl rfl p1 rfl rfl rfl (fun M2 q1 => ?_)
      refine mg_run 2 rfl ?_
      refine mg_get rfl rfl q1.2.1 rfl ?_
      rw [pk_us]
      refine mg_zne rfl (by decide) (fun h => absurd h (by decide)) (fun _ => ?_)
      refine mg_run 2 rfl ?_
      refine mg_addN rfl ?_
      refine mg_run 2 rfl ?_
      have F1 : fx [4, 8, 10, 11] x (upd x1 4 (nI 0)) := (p2.wk (by decide)).tr (fx.up (by decide) _ _)
      refine ih (d + 1) M2 _ A1 (te_step r i) (by omega) (by omega) (hP2 r i hP e o1) q1 (p4.fr (fx.up (ls := [4]) (by decide) _ _) (fa.rf [] A1) (by decide) (by decide)) pk_us (fun M' q => ?_)
      obtain ⟨x', A', k1, k2, k3, k4, k5⟩ := q
      rw [show d + 1 + (te_rn m (te_step r i)).2.1 = d + ((te_rn m (te_step r i)).2.1 + 1) by omega]
      exact hQ M' ⟨x', A', k1, F1.tr k2, p3.tr k3, k4, k5⟩
    · have er : te_rn (m + 1) r = (r, 0, 3) := by
        rw [te_rn, e]
        exact if_neg (by omega)
      rw [er] at hQ
      refine mr_put rfl rfl p1 rfl rfl rfl (fun M2 q1 => ?_)
      refine mg_run 2 rfl ?_
      refine mg_get rfl rfl q1.2.1 rfl ?_
      rw [pk_us]
      refine mg_zne rfl (by decide) (fun _ => ?_) (fun h => absurd h (by decide))
      refine mg_run 1 rfl ?_
      refine mg_addN rfl ?_
      refine mg_run 3 rfl ?_
      refine mg_get rfl rfl q1.2.1 rfl ?_
      rw [pk_us]
      refine mg_zne rfl (by decide) (fun _ => ?_) (fun h => absurd h (by decide))
      have F1 : fx [4, 8, 10, 11] x (upd x1 4 (nI 3)) := (p2.wk (by decide)).tr (fx.up (by decide) _ _)
      have R1 := p4.fr (fx.up (ls := [4]) (k := 4) (by decide) x1 (nI 3)) (fa.rf [] A1) (by decide) (by decide)
      refine lp_Mo_steps2 q1 (o := 3) (by decide) pk_us R1 hv hcl (fun M' q => hQ M' ?_)
      obtain ⟨x', A', k1, k2, k3, k4, k5⟩ := q
      exact ⟨x', A', k1, F1.tr k2, p3.tr k3, k4, k5⟩
theorem c_Mo_steps (P : List Nat → Prop) (hP1 : ∀ r, P r → (∀ i, r.getD i 0 < 10000) ∧ (∀ i, i < r.length → ¬ r.getD i 0 = 0) ∧ cl r) (hP2 : ∀ r i, P r → te_fr r r.length 0 = some i → (te_step r i).length ≤ 2000 → P (te_step r i)) {N : Nat} (hN : N ≤ 1000) (hP : P r) (h : mo_is M0 M x A) (hR : ro_is x A r)
    (hQ : ∀ M', rn_k M0 x A (te_rn N r).1 (te_rn N r).2.2 M' → Q (.inl (some (.int (nI (te_rn N r).2.1)))) M') : mm_Ct l sc Y_Mo_steps M [.ref 54, .int (nI N)] Q := by
  refine mm_by k_Mo_steps w_Mo_steps rfl rfl ?_
  refine mg_run 4 rfl ?_
  refine mr_put rfl rfl h rfl rfl rfl (fun M1 q1 => ?_)
  refine lp_Mo_steps P hP1 hP2 hN _ 0 M1 _ A r rfl (Nat.zero_le _) hP q1 (hR.fr (fx.up (ls := [4]) (by decide) _ _) (fa.rf [] A) (by decide) (by decide)) pk_us (fun M' q => ?_)
  obtain ⟨x', A', k1, k2, k3, k4, k5⟩ := q
  rw [Nat.zero_add]
  exact hQ M' ⟨x', A', k1, (fx.up (by decide) _ _).tr k2, k3, k4, k5⟩
end
end
section
/-! The reference's public methods: what they answer and leave. -/
/-- slots, tape, place, how, thrown -/
def md_is (M0 M : mm_M) (sl : Nat → List Nat) (tp : List Nat) (pl : Int32) (o th : Nat) : Prop := ∃ x A, mo_is M0 M x A ∧ st_is A sl ∧ tp_is x A tp ∧ x 3 = pl ∧ x 4 = nI o ∧ x 0 = nI th
section
variable {l : Launch} {sc : Nat × (Nat → Int32)} {M0 M : mm_M} {Q : mm_O → mm_M → Prop} {sl : Nat → List Nat} {tp : List Nat} {pl : Int32} {o th : Nat}
theorem md_fr {M' : mm_M} {x x' : Nat → Int32} {A A' : Nat → Nat → Int32} {ls la : List Nat} {sl' : Nat → List Nat} {o' t : Nat} (hT : tp_is x A tp) (h3 : x 3 = pl) (h : mo_is M0 M' x' A') (hS : st_is A' sl') (f1 : fx ls x x') (f2 : fa la A A') (n1 : 2 ∉ ls) (n2 : 0 ∉ la) (n3 : 3 ∉ ls) (e4 : x' 4 = nI o') (e0 : x' 0 = nI t) : md_is M0 M' sl' tp pl o' t := ⟨x', A', h, hS, hT.fr f1 f2 n1 n2, (f1 3 n3).trans h3, e4, e0⟩
/-- behind throwing: thrown alone is new -/
theorem md_th {M' : mm_M} {x : Nat → Int32} {A : Nat → Nat → Int32} {t : Nat} (hS : st_is A sl) (hT : tp_is x A tp) (h3 : x 3 = pl) (h4 : x 4 = nI o) (h : mo_is M0 M' (upd x 0 (nI t)) A) : md_is M0 M' sl tp pl o t := md_fr hT h3 h hS (fx.up (ls := [0]) (by decide) _ _) (fa.rf [] A) (by decide) (by decide) (by decide) ((pk_un (by decide)).trans h4) pk_us
theorem c_Mo_reduce (P : List Nat → Prop) (hP1 : ∀ r, P r → (∀ i, r.getD i 0 < 10000) ∧ (∀ i, i < r.length → ¬ r.getD i 0 = 0) ∧ cl r) (hP2 : ∀ r i, P r → te_fr r r.length 0 = some i → (te_step r i).length ≤ 2000 → P (te_step r i)) (h : md_is M0 M sl tp pl o th) {a N : Nat} (ha : a < 12) (hN1 : 1 ≤ N) (hN2 : N ≤ 400) (hn : 0 < (sl a).length) (hP : P (sl a))
    (hQ : ∀ M', md_is M0 M' (sl_up sl a (te_rn N (sl a)).1) tp pl (te_rn N (sl a)).2.2 0 → Q (.inl (some (.int (nI (te_rn N (sl a)).2.1)))) M') : mm_Ct l sc Y_Mo_reduce M [.ref 54, .int (nI a), .int (nI N)] Q := by
  obtain ⟨x, A, h1, h2, h3, h4, h5, h6⟩ := h
  obtain ⟨a1, a2, a3⟩ := h2 a ha
  have eN : (nI N).toInt = N := nI_toInt (by omega)
  have e1 : (nI 1).toInt = 1 := by decide
  have e4 : (nI 400).toInt = 400 := by decide
  refine mm_by k_Mo_reduce w_Mo_reduce rfl rfl ?_
  refine mg_run 1 rfl ?_
  refine mg_callS [.int (nI a)] rfl rfl rfl rfl rfl rfl (c_Mo_isSlot (fun _ => ?_) (fun e => absurd e (no_nI ha)))
  refine mg_zeq rfl (by decide) (fun h => absurd h (by decide)) (fun _ => ?_)
  refine mg_run 3 rfl ?_
  refine mg_callS [.int (nI N), .int (nI 1), .int (nI 400)] rfl rfl rfl rfl rfl rfl (c_Mo_in (fun _ _ => ?_) (fun e => absurd e (by omega)))
  refine mg_zne rfl (by decide) (fun _ => ?_) (fun h => absurd h (by decide))
  refine mg_run 5 rfl ?_
  refine mg_zne (a := 0) rfl (by decide) (fun h => absurd h (by decide)) (fun _ => ?_)
  refine mg_run 1 rfl ?_
  refine mg_get rfl rfl h1.2.1 rfl ?_
  refine mg_run 1 rfl ?_
  refine mr_ild 2 rfl h1 (by decide) (show a < 12 from ha) ?_
  rw [a2]
  refine mg_zne rfl (by omega) (fun _ => ?_) (fun h => absurd h (by omega))
  refine mg_run 1 rfl ?_
  refine mg_callV [.int (nI 0), .int (nI 0)] rfl rfl rfl h1.2.1 rfl rfl rfl rfl (c_Mo_throwing h1 (a := 0) (b := 0) (by decide) (by decide) (fun _ _ M1 q1 => ?_) (fun h => absurd h (by decide)) (fun _ h => absurd h (by decide)))
  refine mg_zeq rfl (by decide) (fun _ => ?_) (fun h => absurd h (by decide))
  refine mg_run 2 rfl ?_
  refine mg_callV [.int (nI a)] rfl rfl rfl q1.2.1 rfl rfl rfl rfl (c_Mo_load ha q1 h2 (fun M2 x2 A2 b1 b2 b3 b4 => ?_))
  refine mg_run 2 rfl ?_
  refine mg_callV [.int (nI N)] rfl rfl rfl b1.2.1 rfl rfl rfl rfl (c_Mo_steps P hP1 hP2 (by omega) hP b1 b4 (fun M3 q => ?_))
  obtain ⟨x3, A3, c1, c2, c3, c4, c5⟩ := q
  refine mg_run 3 rfl ?_
  have S3 : st_is A3 sl := (h2.fr b3 (by decide) (by decide)).fr c3 (by decide) (by decide)
  refine mg_callV [.int (nI a)] rfl rfl rfl c1.2.1 rfl rfl rfl rfl (c_Mo_store ha c1 c4 S3 (fun M4 A4 d1 d2 d3 => ?_))
  refine mg_run 1 rfl ?_
  refine mg_ir rfl rfl rfl rfl (hQ M4 ?_)
  have F : fx [0, 4, 8, 10, 11] x x3 := ((fx.up (by decide) _ _).tr (b2.wk (by decide))).tr (c2.wk (by decide))
  have G : fa [1, 2, 3, 4, 5, 6] A A4 := ((b3.wk (by decide)).tr (c3.wk (by decide))).tr (d2.wk (by decide))
  have e0 : x3 0 = nI 0 := by rw [c2 0 (by decide), b2 0 (by decide), pk_us]
  exact md_fr h3 h4 d1 d3 F G (by decide) (by decide) (by decide) c5 e0
/-- reduce from its look at bad on -/
theorem lp_Mo_reduceX (h : md_is M0 M sl tp pl o th) {z y : Int32} {x4 : Option Value} (hQ : ∀ M', md_is M0 M' sl tp pl o 1 → Q (.inl (some (.int (nI 0)))) M') : mm_Go l sc Y_Mo_reduce 0 0 M [some (.ref 54), some (.int z), some (.int y), some (.int (nI 1)), x4] [] 24 Q := by
  obtain ⟨x, A, h1, h2, h3, h4, h5, h6⟩ := h
  refine mg_run 3 rfl ?_
  refine mg_zne (a := 1) rfl (by decide) (fun _ => ?_) (fun h => absurd h (by decide))
  refine mg_run 1 rfl ?_
  refine mg_callV [.int (nI 1), .int (nI 0)] rfl rfl rfl h1.2.1 rfl rfl rfl rfl (c_Mo_throwing h1 (a := 1) (b := 0) (by decide) (by decide) (fun h => absurd h (by decide)) (fun _ M1 q1 => ?_) (fun h => absurd h (by decide)))
  refine mg_zeq rfl (by decide) (fun h => absurd h (by decide)) (fun _ => ?_)
  refine mg_run 1 rfl ?_
  exact mg_ir rfl rfl rfl rfl (hQ M1 (md_th h2 h3 h4 h5 q1))
theorem c_Mo_reduceX (h : md_is M0 M sl tp pl o th) {z y : Int32} (hx : no_slot z ∨ no_steps y) (hQ : ∀ M', md_is M0 M' sl tp pl o 1 → Q (.inl (some (.int (nI 0)))) M') : mm_Ct l sc Y_Mo_reduce M [.ref 54, .int z, .int y] Q := by
  have e1 : (nI 1).toInt = 1 := by decide
  have e4 : (nI 400).toInt = 400 := by decide
  refine mm_by k_Mo_reduce w_Mo_reduce rfl rfl ?_
  refine mg_run 1 rfl ?_
  refine mg_callS [.int z] rfl rfl rfl rfl rfl rfl (c_Mo_isSlot (fun e => ?_) (fun e => ?_))
  · refine mg_zeq rfl (by decide) (fun h => absurd h (by decide)) (fun _ => ?_)
    refine mg_run 3 rfl ?_
    have hy : no_steps y := hx.elim (fun h9 => absurd h9 e) id
    refine mg_callS [.int y, .int (nI 1), .int (nI 400)] rfl rfl rfl rfl rfl rfl (c_Mo_in (fun _ _ => ?_) (fun _ => ?_))
    · exfalso
      unfold no_steps at hy
      omega
    · refine mg_zne rfl (by decide) (fun h => absurd h (by decide)) (fun _ => ?_)
      refine mg_run 3 rfl ?_
      exact lp_Mo_reduceX h hQ
  · refine mg_zeq rfl (by decide) (fun _ => ?_) (fun h => absurd h (by decide))
    refine mg_run 3 rfl ?_
    exact lp_Mo_reduceX h hQ
theorem c_Mo_reduceE (h : md_is M0 M sl tp pl o th) {a N : Nat} (ha : a < 12) (hN1 : 1 ≤ N) (hN2 : N ≤ 400) (hn : (sl a).length = 0)
    (hQ : ∀ M', md_is M0 M' sl tp pl o 2 → Q (.inl (some (.int (nI 0)))) M') : mm_Ct l sc Y_Mo_reduce M [.ref 54, .int (nI a), .int (nI N)] Q := by
  obtain ⟨x, A, h1, h2, h3, h4, h5, h6⟩ := h
  obtain ⟨a1, a2, a3⟩ := h2 a ha
  have eN : (nI N).toInt = N := nI_toInt (by omega)
  have e1 : (nI 1).toInt = 1 := by decide
  have e4 : (nI 400).toInt = 400 := by decide
  refine mm_by k_Mo_reduce w_Mo_reduce rfl rfl ?_
  refine mg_run 1 rfl ?_
  refine mg_callS [.int (nI a)] rfl rfl rfl rfl rfl rfl (c_Mo_isSlot (fun _ => ?_) (fun e => absurd e (no_nI ha)))
  refine mg_zeq rfl (by decide) (fun h => absurd h (by decide)) (fun _ => ?_)
  refine mg_run 3 rfl ?_
  refine mg_callS [.int (nI N), .int (nI 1), .int (nI 400)] rfl rfl rfl rfl rfl rfl (c_Mo_in (fun _ _ => ?_) (fun e => absurd e (by omega)))
  refine mg_zne rfl (by decide) (fun _ => ?_) (fun h => absurd h (by decide))
  refine mg_run 5 rfl ?_
  refine mg_zne (a := 0) rfl (by decide) (fun h => absurd h (by decide)) (fun _ => ?_)
  refine mg_run 1 rfl ?_
  refine mg_get rfl rfl h1.2.1 rfl ?_
  refine mg_run 1 rfl ?_
  refine mr_ild 2 rfl h1 (by decide) (show a < 12 from ha) ?_
  rw [a2]
  refine mg_zne rfl (by omega) (fun h => absurd h (by omega)) (fun _ => ?_)
  refine mg_run 2 rfl ?_
  refine mg_callV [.int (nI 0), .int (nI 1)] rfl rfl rfl h1.2.1 rfl rfl rfl rfl (c_Mo_throwing h1 (a := 0) (b := 1) (by decide) (by decide) (fun _ h => absurd h (by decide)) (fun h => absurd h (by decide)) (fun _ _ M1 q1 => ?_))
  refine mg_zeq rfl (by decide) (fun h => absurd h (by decide)) (fun _ => ?_)
  refine mg_run 1 rfl ?_
  exact mg_ir rfl rfl rfl rfl (hQ M1 (md_th h2 h3 h4 h5 q1))
end
end
section
/-! The reference: redexes, size, copy, place, how. -/
section
variable {l : Launch} {sc : Nat × (Nat → Int32)} {M0 M : mm_M} {Q : mm_O → mm_M → Prop} {sl : Nat → List Nat} {tp : List Nat} {pl : Int32} {o th : Nat}
theorem lp_Mo_redexes {r : List Nat} {x : Nat → Int32} {A : Nat → Nat → Int32} {x1 x2 : Int32} (h : mo_is M0 M x A) (hR : ro_is x A r) (hv : ∀ i, r.getD i 0 < 10000) (hcl : cl r) : ∀ m i n, r.length - i = m → i ≤ r.length → n ≤ i → Q (.inl (some (.int (nI (n + te_rc r m i))))) M → mm_Go l sc Y_Mo_redexes 0 0 M [some (.ref 54), some (.int x1), some (.int x2), some (.int (nI n)), some (.int (nI i))] [] 51 Q := by
  have h4 := hR.2.1
  intro m
  induction m with
  | zero =>
    intro i n hm hi hn hQ
    refine mg_run 2 rfl ?_
    refine mg_get rfl rfl h.2.1 rfl ?_
    rw [hR.1]
    refine mg_ge rfl (by omega) (by omega) (fun _ => ?_) (fun h => absurd h (by omega))
    refine mg_run 1 rfl ?_
    exact mg_ir rfl rfl rfl rfl hQ
  | succ m ih =>
    intro i n hm hi hn hQ
    have h5 := rx_lt (te_rh r i)
    refine mg_run 2 rfl ?_
    refine mg_get rfl rfl h.2.1 rfl ?_
    rw [hR.1]
    refine mg_ge rfl (by omega) (by omega) (fun h => absurd h (by omega)) (fun hlt => ?_)
    refine mg_run 3 rfl ?_
    refine mg_callV [.int (nI i)] rfl rfl rfl h.2.1 rfl rfl rfl rfl (c_Mo_redex h hR hv hcl hlt ?_)
    rw [te_rc] at hQ
    refine mg_zle rfl (by omega) (fun e => ?_) (fun e => ?_)
    · rw [if_pos ((rx_0 r i).mp e)] at hQ
      refine mg_run 1 rfl ?_
      refine mg_addN rfl ?_
      refine mg_run 1 rfl ?_
      refine mg_incN rfl rfl rfl ?_
      refine mg_run 1 rfl ?_
      refine ih (i + 1) (n + 0) (by omega) (by omega) (by omega) ?_
      rw [show n + 0 + te_rc r m (i + 1) = n + (0 + te_rc r m (i + 1)) by omega]
      exact hQ
    · rw [if_neg (fun h9 => by rw [(rx_0 r i).mpr h9] at e; omega)] at hQ
      refine mg_run 2 rfl ?_
      refine mg_addN rfl ?_
      refine mg_run 1 rfl ?_
      refine mg_incN rfl rfl rfl ?_
      refine mg_run 1 rfl ?_
      refine ih (i + 1) (n + 1) (by omega) (by omega) (by omega) ?_
      rw [show n + 1 + te_rc r m (i + 1) = n + (1 + te_rc r m (i + 1)) by omega]
      exact hQ
theorem c_Mo_redexes (h : md_is M0 M sl tp pl o th) {a : Nat} (ha : a < 12) (hn : 0 < (sl a).length) (hv : ∀ i, (sl a).getD i 0 < 10000) (hcl : cl (sl a)) (hQ : ∀ M', md_is M0 M' sl tp pl o 0 → Q (.inl (some (.int (nI (te_rc (sl a) (sl a).length 0))))) M') : mm_Ct l sc Y_Mo_redexes M [.ref 54, .int (nI a)] Q := by
  obtain ⟨x, A, h1, h2, h3, h4, h5, h6⟩ := h
  obtain ⟨a1, a2, a3⟩ := h2 a ha
  refine mm_by k_Mo_redexes w_Mo_redexes rfl rfl ?_
  refine mg_run 1 rfl ?_
  refine mg_callS [.int (nI a)] rfl rfl rfl rfl rfl rfl (c_Mo_isSlot (fun _ => ?_) (fun e => absurd e (no_nI ha)))
  refine mg_zne rfl (by decide) (fun _ => ?_) (fun h => absurd h (by decide))
  refine mg_run 5 rfl ?_
  refine mg_zne (a := 0) rfl (by decide) (fun h => absurd h (by decide)) (fun _ => ?_)
  refine mg_run 1 rfl ?_
  refine mg_get rfl rfl h1.2.1 rfl ?_
  refine mg_run 1 rfl ?_
  refine mr_ild 2 rfl h1 (by decide) (show a < 12 from ha) ?_
  rw [a2]
  refine mg_zne rfl (by omega) (fun _ => ?_) (fun h => absurd h (by omega))
  refine mg_run 1 rfl ?_
  refine mg_callV [.int (nI 0), .int (nI 0)] rfl rfl rfl h1.2.1 rfl rfl rfl rfl (c_Mo_throwing h1 (a := 0) (b := 0) (by decide) (by decide) (fun _ _ M1 q1 => ?_) (fun h => absurd h (by decide)) (fun _ h => absurd h (by decide)))
  refine mg_zeq rfl (by decide) (fun _ => ?_) (fun h => absurd h (by decide))
  refine mg_run 2 rfl ?_
  refine mg_callV [.int (nI a)] rfl rfl rfl q1.2.1 rfl rfl rfl rfl (c_Mo_load ha q1 h2 (fun M2 x2 A2 b1 b2 b3 b4 => ?_))
  refine mg_run 4 rfl ?_
  have F : fx [0, 8] x x2 := (fx.up (by decide) _ _).tr (b2.wk (by decide))
  have e4 : x2 4 = nI o := by rw [F 4 (by decide)]; exact h5
  have e0 : x2 0 = nI 0 := by rw [b2 0 (by decide), pk_us]
  refine lp_Mo_redexes b1 b4 hv hcl _ 0 0 rfl (Nat.zero_le _) (Nat.le_refl _) ?_
  rw [Nat.zero_add]
  exact hQ M2 (md_fr h3 h4 b1 (h2.fr b3 (by decide) (by decide)) F b3 (by decide) (by decide) (by decide) e4 e0)
theorem c_Mo_redexesX (h : md_is M0 M sl tp pl o th) {z : Int32} (hx : no_slot z) (hQ : ∀ M', md_is M0 M' sl tp pl o 1 → Q (.inl (some (.int (nI 0)))) M') : mm_Ct l sc Y_Mo_redexes M [.ref 54, .int z] Q := by
  obtain ⟨x, A, h1, h2, h3, h4, h5, h6⟩ := h
  refine mm_by k_Mo_redexes w_Mo_redexes rfl rfl ?_
  refine mg_run 1 rfl ?_
  refine mg_callS [.int z] rfl rfl rfl rfl rfl rfl (c_Mo_isSlot (fun e => absurd hx e) (fun _ => ?_))
  refine mg_zne rfl (by decide) (fun h => absurd h (by decide)) (fun _ => ?_)
  refine mg_run 6 rfl ?_
  refine mg_zne (a := 1) rfl (by decide) (fun _ => ?_) (fun h => absurd h (by decide))
  refine mg_run 1 rfl ?_
  refine mg_callV [.int (nI 1), .int (nI 0)] rfl rfl rfl h1.2.1 rfl rfl rfl rfl (c_Mo_throwing h1 (a := 1) (b := 0) (by decide) (by decide) (fun h => absurd h (by decide)) (fun _ M1 q1 => ?_) (fun h => absurd h (by decide)))
  refine mg_zeq rfl (by decide) (fun h => absurd h (by decide)) (fun _ => ?_)
  refine mg_run 1 rfl ?_
  exact mg_ir rfl rfl rfl rfl (hQ M1 (md_th h2 h3 h4 h5 q1))
theorem c_Mo_redexesE (h : md_is M0 M sl tp pl o th) {a : Nat} (ha : a < 12) (hn : (sl a).length = 0) (hQ : ∀ M', md_is M0 M' sl tp pl o 2 → Q (.inl (some (.int (nI 0)))) M') : mm_Ct l sc Y_Mo_redexes M [.ref 54, .int (nI a)] Q := by
  obtain ⟨x, A, h1, h2, h3, h4, h5, h6⟩ := h
  obtain ⟨a1, a2, a3⟩ := h2 a ha
  refine mm_by k_Mo_redexes w_Mo_redexes rfl rfl ?_
  refine mg_run 1 rfl ?_
  refine mg_callS [.int (nI a)] rfl rfl rfl rfl rfl rfl (c_Mo_isSlot (fun _ => ?_) (fun e => absurd e (no_nI ha)))
  refine mg_zne rfl (by decide) (fun _ => ?_) (fun h => absurd h (by decide))
  refine mg_run 5 rfl ?_
  refine mg_zne (a := 0) rfl (by decide) (fun h => absurd h (by decide)) (fun _ => ?_)
  refine mg_run 1 rfl ?_
  refine mg_get rfl rfl h1.2.1 rfl ?_
  refine mg_run 1 rfl ?_
  refine mr_ild 2 rfl h1 (by decide) (show a < 12 from ha) ?_
  rw [a2]
  refine mg_zne rfl (by omega) (fun h => absurd h (by omega)) (fun _ => ?_)
  refine mg_run 2 rfl ?_
  refine mg_callV [.int (nI 0), .int (nI 1)] rfl rfl rfl h1.2.1 rfl rfl rfl rfl (c_Mo_throwing h1 (a := 0) (b := 1) (by decide) (by decide) (fun _ h => absurd h (by decide)) (fun h => absurd h (by decide)) (fun _ _ M1 q1 => ?_))
  refine mg_zeq rfl (by decide) (fun h => absurd h (by decide)) (fun _ => ?_)
  refine mg_run 1 rfl ?_
  exact mg_ir rfl rfl rfl rfl (hQ M1 (md_th h2 h3 h4 h5 q1))
theorem c_Mo_size (h : md_is M0 M sl tp pl o th) {a : Nat} (ha : a < 12) (hQ : ∀ M', md_is M0 M' sl tp pl o 0 → Q (.inl (some (.int (nI (sl a).length)))) M') : mm_Ct l sc Y_Mo_size M [.ref 54, .int (nI a)] Q := by
  obtain ⟨x, A, h1, h2, h3, h4, h5, h6⟩ := h
  obtain ⟨a1, a2, a3⟩ := h2 a ha
  refine mm_by k_Mo_size w_Mo_size rfl rfl ?_
  refine mg_run 2 rfl ?_
  refine mg_callS [.int (nI a)] rfl rfl rfl rfl rfl rfl (c_Mo_isSlot (fun _ => ?_) (fun e => absurd e (no_nI ha)))
  refine mg_zne rfl (by decide) (fun _ => ?_) (fun h => absurd h (by decide))
  refine mg_run 2 rfl ?_
  refine mg_callV [.int (nI 0), .int (nI 0)] rfl rfl rfl h1.2.1 rfl rfl rfl rfl (c_Mo_throwing h1 (a := 0) (b := 0) (by decide) (by decide) (fun _ _ M1 q1 => ?_) (fun h => absurd h (by decide)) (fun _ h => absurd h (by decide)))
  refine mg_zeq rfl (by decide) (fun _ => ?_) (fun h => absurd h (by decide))
  refine mg_run 1 rfl ?_
  refine mg_get rfl rfl q1.2.1 rfl ?_
  refine mg_run 1 rfl ?_
  refine mr_ild 2 rfl q1 (by decide) (show a < 12 from ha) ?_
  rw [a2]
  exact mg_ir rfl rfl rfl rfl (hQ M1 (md_th h2 h3 h4 h5 q1))
theorem c_Mo_sizeX (h : md_is M0 M sl tp pl o th) {z : Int32} (hx : no_slot z) (hQ : ∀ M', md_is M0 M' sl tp pl o 1 → Q (.inl (some (.int (nI 0)))) M') : mm_Ct l sc Y_Mo_size M [.ref 54, .int z] Q := by
  obtain ⟨x, A, h1, h2, h3, h4, h5, h6⟩ := h
  refine mm_by k_Mo_size w_Mo_size rfl rfl ?_
  refine mg_run 2 rfl ?_
  refine mg_callS [.int z] rfl rfl rfl rfl rfl rfl (c_Mo_isSlot (fun e => absurd hx e) (fun _ => ?_))
  refine mg_zne rfl (by decide) (fun h => absurd h (by decide)) (fun _ => ?_)
  refine mg_run 3 rfl ?_
  refine mg_callV [.int (nI 1), .int (nI 0)] rfl rfl rfl h1.2.1 rfl rfl rfl rfl (c_Mo_throwing h1 (a := 1) (b := 0) (by decide) (by decide) (fun h => absurd h (by decide)) (fun _ M1 q1 => ?_) (fun h => absurd h (by decide)))
  refine mg_zeq rfl (by decide) (fun h => absurd h (by decide)) (fun _ => ?_)
  refine mg_run 1 rfl ?_
  exact mg_ir rfl rfl rfl rfl (hQ M1 (md_th h2 h3 h4 h5 q1))
theorem d_Mo_place (h : md_is M0 M sl tp pl o th) (hQ : ∀ M', md_is M0 M' sl tp pl o 0 → Q (.inl (some (.int pl))) M') : mm_Ct l sc Y_Mo_place M [.ref 54] Q := by
  obtain ⟨x, A, h1, h2, h3, h4, h5, h6⟩ := h
  refine c_Mo_place h1 (fun M1 q1 => ?_)
  rw [h4]
  exact hQ M1 (md_th h2 h3 h4 h5 q1)
theorem d_Mo_how (h : md_is M0 M sl tp pl o th) (hQ : ∀ M', md_is M0 M' sl tp pl o 0 → Q (.inl (some (.int (nI o)))) M') : mm_Ct l sc Y_Mo_how M [.ref 54] Q := by
  obtain ⟨x, A, h1, h2, h3, h4, h5, h6⟩ := h
  refine c_Mo_how h1 (fun M1 q1 => ?_)
  rw [h5]
  exact hQ M1 (md_th h2 h3 h4 h5 q1)
theorem d_Mo_thrown (h : md_is M0 M sl tp pl o th) (hQ : Q (.inl (some (.int (nI th)))) M) : mm_Ct l sc Y_Mo_thrown M [.ref 54] Q := by
  obtain ⟨x, A, h1, h2, h3, h4, h5, h6⟩ := h
  refine c_Mo_thrown h1 ?_
  rw [h6]
  exact hQ
end
end
section
/-! The reference: copy; what abstraction asks of a part. -/
theorem xc_0 {c : Nat} (h : c < 10000) : xc c = 0 ↔ c = 1000 := xc_inj (b := 1000) h (by decide)
/-- 1: the outermost index stands in m places from i on -/
def te_u (r : List Nat) : Nat → Nat → Nat
  | 0, _ => 0
  | m + 1, i => if r.getD i 0 = 1000 then 1 else te_u r m (i + 1)
theorem te_u_lt (r : List Nat) : ∀ m i, te_u r m i < 2 := by
  intro m
  induction m with
  | zero => intro i; exact Nat.zero_lt_succ _
  | succ m ih =>
    intro i
    rw [te_u]
    split
    · decide
    · exact ih _
theorem te_u_no {r : List Nat} : ∀ m i, te_u r m i = 0 → ∀ j, i ≤ j → j < i + m → ¬ r.getD j 0 = 1000 := by
  intro m
  induction m with
  | zero => intro i _ j h1 h2; omega
  | succ m ih =>
    intro i h j h1 h2
    rw [te_u] at h
    split at h
    · cases h
    · next hne =>
      by_cases e : j = i
      · subst e; exact hne
      · exact ih (i + 1) h j (by omega) (by omega)
section
variable {l : Launch} {sc : Nat × (Nat → Int32)} {M0 M : mm_M} {Q : mm_O → mm_M → Prop} {sl : Nat → List Nat} {tp : List Nat} {pl : Int32} {o th : Nat} {r out : List Nat} {x : Nat → Int32} {A : Nat → Nat → Int32}
theorem lp_Mo_isIn (h : mo_is M0 M x A) (hR : ro_is x A r) (hv : ∀ i, r.getD i 0 < 10000) {x1 : Int32} {en : Nat} (hen : en ≤ r.length) : ∀ m i f, en - i = m → i ≤ en → f < 2 → Q (.inl (some (.int (nI (if f = 1 then 1 else te_u r m i))))) M → mm_Go l sc Y_Mo_isIn 0 0 M [some (.ref 54), some (.int x1), some (.int (nI en)), some (.int (nI f)), some (.int (nI i))] [] 11 Q := by
  have h4 := hR.2.1
  intro m
  induction m with
  | zero =>
    intro i f hm hi hf hQ
    refine mg_run 2 rfl ?_
    refine mg_ge rfl (by omega) (by omega) (fun _ => ?_) (fun h => absurd h (by omega))
    refine mg_run 1 rfl ?_
    have e : (if f = 1 then 1 else te_u r 0 i) = f := by
      rw [te_u]
      split <;> omega
    rw [e] at hQ
    exact mg_zr rfl rfl (te_g1 (Nat.le_of_lt_succ hf)) rfl rfl hQ
  | succ m ih =>
    intro i f hm hi hf hQ
    refine mg_run 2 rfl ?_
    refine mg_ge rfl (by omega) (by omega) (fun h => absurd h (by omega)) (fun hlt => ?_)
    refine mg_run 1 rfl ?_
    refine mg_zne rfl (by omega) (fun c => ?_) (fun c => ?_)
    · refine mg_run 3 rfl ?_
      refine mg_incN rfl rfl rfl ?_
      refine mg_run 1 rfl ?_
      rw [if_pos (by omega)] at hQ
      exact ih (i + 1) 1 (by omega) (by omega) (by decide) hQ
    · rw [if_neg (by omega), te_u] at hQ
      refine mg_run 1 rfl ?_
      refine mg_get rfl rfl h.2.1 rfl ?_
      refine mg_run 1 rfl ?_
      refine mr_ild 3 rfl h (by decide) (show i < 2001 by omega) ?_
      rw [hR.2.2 i (by omega)]
      refine mg_if rfl (fun e => ?_) (fun e => ?_)
      · have c1 : ¬ r.getD i 0 = 1000 := fun h9 => e ((xc_0 (hv _)).mpr h9)
        rw [if_neg c1] at hQ
        refine mg_run 2 rfl ?_
        refine mg_incN rfl rfl rfl ?_
        refine mg_run 1 rfl ?_
        exact ih (i + 1) 0 (by omega) (by omega) (by decide) hQ
      · have c1 : r.getD i 0 = 1000 := (xc_0 (hv _)).mp (Decidable.not_not.mp e)
        rw [if_pos c1] at hQ
        refine mg_run 3 rfl ?_
        refine mg_incN rfl rfl rfl ?_
        refine mg_run 1 rfl ?_
        exact ih (i + 1) 1 (by omega) (by omega) (by decide) hQ
theorem c_Mo_isIn (h : mo_is M0 M x A) (hR : ro_is x A r) (hv : ∀ i, r.getD i 0 < 10000) {s : Nat} (hn : te_nd (r.drop s) 1 = 0) (hQ : Q (.inl (some (.int (nI (te_u r (te_en r s - s) s))))) M) : mm_Ct l sc Y_Mo_isIn M [.ref 54, .int (nI s)] Q := by
  have h1 := cl_len hn
  refine mm_by k_Mo_isIn w_Mo_isIn rfl rfl ?_
  refine mg_run 2 rfl ?_
  refine mg_callV [.int (nI s)] rfl rfl rfl h.2.1 rfl rfl rfl rfl (c_Mo_behind h hR hv hn ?_)
  refine mg_run 5 rfl ?_
  exact lp_Mo_isIn h hR hv (te_en_le (by omega)) _ s 0 rfl (te_en_ge r s) (by decide) hQ
theorem lp_Mo_putLess (hv : ∀ i, r.getD i 0 < 10000) (hz : ∀ i, i < r.length → ¬ r.getD i 0 = 0) {en : Nat} {x1 : Int32} (hen : en ≤ r.length) : ∀ m i (M : mm_M) (x : Nat → Int32) (A : Nat → Nat → Int32) (out : List Nat), mo_is M0 M x A → ro_is x A r → nx_is x A out → en - i = m → i ≤ en → (∀ j, i ≤ j → j < en → ¬ r.getD j 0 = 1000) →
    (∀ M' x' A', mo_is M0 M' x' A' → fx [10, 11] x x' → fa [4] A A' → nx_is x' A' (out ++ te_pc (ab_f r) i m) → Q (.inl none) M') →
    mm_Go l sc Y_Mo_putLess 0 0 M [some (.ref 54), some (.int x1), some (.int (nI en)), some (.int (nI i))] [] 8 Q := by
  intro m
  induction m with
  | zero =>
    intro i M x A out h hR hn hm hi hno hQ
    have h4 := hR.2.1
    refine mg_run 2 rfl ?_
    refine mg_ge rfl (by omega) (by omega) (fun _ => ?_) (fun h => absurd h (by omega))
    refine mg_vr rfl rfl rfl rfl ?_
    exact hQ M x A h (fx.rf _ _) (fa.rf _ _) (by rw [te_pc, List.append_nil]; exact hn)
  | succ m ih =>
    intro i M x A out h hR hn hm hi hno hQ
    have h4 := hR.2.1
    have hvi := hv i
    have hzi := hz i (by omega)
    have hni := hno i (Nat.le_refl _) (by omega)
    have fin : ∀ v, ab_f r i = [v] → ∀ M2 x2 A2, mo_is M0 M2 x2 A2 → fx [10, 11] x x2 → fa [4] A A2 → nx_is x2 A2 (out ++ [v]) →
        mm_Go l sc Y_Mo_putLess 0 0 M2 [some (.ref 54), some (.int x1), some (.int (nI en)), some (.int (nI i))] [] 46 Q := by
      intro v ev M2 x2 A2 p1 p2 p3 p4
      refine mg_incN rfl rfl rfl ?_
      refine mg_run 1 rfl ?_
      refine ih (i + 1) M2 x2 A2 _ p1 (hR.fr p2 p3 (by decide) (by decide)) p4 (by omega) (by omega) (fun j j1 j2 => hno j (by omega) j2) (fun M' x' A' q1 q2 q3 q4 => hQ M' x' A' q1 (p2.tr q2) (p3.tr q3) ?_)
      rw [te_pc, ev, ← List.append_assoc]
      exact q4
    refine mg_run 2 rfl ?_
    refine mg_ge rfl (by omega) (by omega) (fun h => absurd h (by omega)) (fun hlt => ?_)
    refine mg_run 2 rfl ?_
    refine mg_get rfl rfl h.2.1 rfl ?_
    refine mg_run 1 rfl ?_
    refine mr_ild 3 rfl h (by decide) (show i < 2001 by omega) ?_
    rw [hR.2.2 i (by omega)]
    refine mg_callS [.int (xc (r.getD i 0))] rfl rfl rfl rfl rfl rfl (c_Mo_isIndex (fun e => ?_) (fun e => ?_))
    · have c1 := (ix_iff hvi hzi).mp e
      refine mg_zeq rfl (by decide) (fun h => absurd h (by decide)) (fun _ => ?_)
      refine mg_run 1 rfl ?_
      refine mg_get rfl rfl h.2.1 rfl ?_
      refine mg_run 1 rfl ?_
      refine mr_ild 3 rfl h (by decide) (show i < 2001 by omega) ?_
      rw [hR.2.2 i (by omega), xc_ix c1]
      refine mg_run 1 rfl ?_
      refine mg_subN rfl (by omega) ?_
      have e2 : nI (r.getD i 0 - 1000 - 1) = xc (r.getD i 0 - 1) := by
        rw [xc_ix (by omega), show r.getD i 0 - 1 - 1000 = r.getD i 0 - 1000 - 1 by omega]
      rw [e2]
      refine mg_run 1 rfl ?_
      refine mg_callV [.int (xc (r.getD i 0 - 1))] rfl rfl rfl h.2.1 rfl rfl rfl rfl (c_Mo_put h hn (fun M2 x2 A2 p1 p2 p3 p4 => fin _ ?_ M2 x2 A2 p1 p2 p3 p4))
      unfold ab_f
      rw [if_neg (by omega)]
    · have c1 : ¬ 1000 ≤ r.getD i 0 := fun h9 => e ((ix_iff hvi hzi).mpr h9)
      refine mg_zeq rfl (by decide) (fun _ => ?_) (fun h => absurd h (by decide))
      refine mg_run 1 rfl ?_
      refine mg_get rfl rfl h.2.1 rfl ?_
      refine mg_run 1 rfl ?_
      refine mr_ild 3 rfl h (by decide) (show i < 2001 by omega) ?_
      rw [hR.2.2 i (by omega)]
      refine mg_callV [.int (xc (r.getD i 0))] rfl rfl rfl h.2.1 rfl rfl rfl rfl (c_Mo_put h hn (fun M2 x2 A2 p1 p2 p3 p4 => fin _ ?_ M2 x2 A2 p1 p2 p3 p4))
      unfold ab_f
      rw [if_pos (by omega)]
theorem c_Mo_putLess (hv : ∀ i, r.getD i 0 < 10000) (hz : ∀ i, i < r.length → ¬ r.getD i 0 = 0) (h : mo_is M0 M x A) (hR : ro_is x A r) (hx : nx_is x A out) {s : Nat} (hn : te_nd (r.drop s) 1 = 0) (hu : te_u r (te_en r s - s) s = 0)
    (hQ : ∀ M' x' A', mo_is M0 M' x' A' → fx [10, 11] x x' → fa [4] A A' → nx_is x' A' (out ++ ab_o r s (te_en r s)) → Q (.inl none) M') : mm_Ct l sc Y_Mo_putLess M [.ref 54, .int (nI s)] Q := by
  have h1 := cl_len hn
  have h2 := te_en_ge r s
  refine mm_by k_Mo_putLess w_Mo_putLess rfl rfl ?_
  refine mg_run 2 rfl ?_
  refine mg_callV [.int (nI s)] rfl rfl rfl h.2.1 rfl rfl rfl rfl (c_Mo_behind h hR hv hn ?_)
  refine mg_run 3 rfl ?_
  exact lp_Mo_putLess hv hz (te_en_le (by omega)) _ s M x A out h hR hx rfl (te_en_ge r s) (fun j j1 j2 => te_u_no _ _ hu j j1 (by omega)) hQ
theorem c_Mo_copy (h : md_is M0 M sl tp pl o th) {a b : Nat} (ha : a < 12) (hb : b < 12) (hQ : ∀ M', md_is M0 M' (sl_up sl b (sl a)) tp pl o 0 → Q (.inl none) M') : mm_Ct l sc Y_Mo_copy M [.ref 54, .int (nI a), .int (nI b)] Q := by
  obtain ⟨x, A, h1, h2, h3, h4, h5, h6⟩ := h
  refine mm_by k_Mo_copy w_Mo_copy rfl rfl ?_
  refine mg_run 2 rfl ?_
  refine mg_callS [.int (nI a)] rfl rfl rfl rfl rfl rfl (c_Mo_isSlot (fun _ => ?_) (fun e => absurd e (no_nI ha)))
  refine mg_zeq rfl (by decide) (fun h => absurd h (by decide)) (fun _ => ?_)
  refine mg_run 1 rfl ?_
  refine mg_callS [.int (nI b)] rfl rfl rfl rfl rfl rfl (c_Mo_isSlot (fun _ => ?_) (fun e => absurd e (no_nI hb)))
  refine mg_zne rfl (by decide) (fun _ => ?_) (fun h => absurd h (by decide))
  refine mg_run 2 rfl ?_
  refine mg_callV [.int (nI 0), .int (nI 0)] rfl rfl rfl h1.2.1 rfl rfl rfl rfl (c_Mo_throwing h1 (a := 0) (b := 0) (by decide) (by decide) (fun _ _ M1 q1 => ?_) (fun h => absurd h (by decide)) (fun _ h => absurd h (by decide)))
  refine mg_zeq rfl (by decide) (fun _ => ?_) (fun h => absurd h (by decide))
  refine mg_run 2 rfl ?_
  refine mg_callV [.int (nI a)] rfl rfl rfl q1.2.1 rfl rfl rfl rfl (c_Mo_load ha q1 h2 (fun M2 x2 A2 b1 b2 b3 b4 => ?_))
  refine mg_run 2 rfl ?_
  refine mg_callV [.int (nI b)] rfl rfl rfl b1.2.1 rfl rfl rfl rfl (c_Mo_store hb b1 b4 (h2.fr b3 (by decide) (by decide)) (fun M4 A4 d1 d2 d3 => ?_))
  refine mg_vr rfl rfl rfl rfl (hQ M4 ?_)
  have F : fx [0, 8] x x2 := (fx.up (by decide) _ _).tr (b2.wk (by decide))
  have G : fa [1, 2, 3] A A4 := (b3.wk (by decide)).tr (d2.wk (by decide))
  exact md_fr h3 h4 d1 d3 F G (by decide) (by decide) (by decide) (by rw [F 4 (by decide)]; exact h5) (by rw [b2 0 (by decide), pk_us])
end
end
