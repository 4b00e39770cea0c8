section
/-! ===== BEGIN words of one list among another's, by their places ===== -/
theorem goodIn_r {big : List Cond} (ws : List Cond) (ps : List Nat) (hp : ws = ps.filterMap (fun i => big[i]?)) (h : ws.all goodWord = true) : GoodIn big ws := by
  intro w hw
  have h1 := List.all_eq_true.mp h w hw
  rw [hp] at hw
  obtain ⟨i, -, hi⟩ := List.mem_filterMap.mp hw
  have hm : w ∈ big := by first | exact List.mem_of_getElem? hi | exact List.getElem?_mem hi
  exact ⟨hm, good_of_word h1⟩
theorem goodIn_app {big a b : List Cond} (ha : GoodIn big a) (hb : GoodIn big b) : GoodIn big (a ++ b) := fun w h => (List.mem_append.mp h).elim (ha w) (hb w)
theorem goodIn_ca {big a b : List Cond} {c : Cond} (ha : GoodIn big (c :: a)) (hb : GoodIn big b) : GoodIn big (c :: (a ++ b)) := fun w h => (List.mem_cons.mp h).elim (fun e => ha w (List.mem_cons.mpr (Or.inl e))) (fun h => (List.mem_append.mp h).elim (fun h => ha w (List.mem_cons.mpr (Or.inr h))) (hb w))
theorem goodIn_sub {big ws : List Cond} (hm : ∀ w ∈ ws, w ∈ big) (h : ws.all goodWord = true) : GoodIn big ws := fun w hw => ⟨hm w hw, good_of_word (List.all_eq_true.mp h w hw)⟩
/-! ===== END ===== -/

/-! ===== BEGIN exceptions that leave a method, and their catching by the caller (launches without stack traces) ===== -/
section VXA
/-! The laws vx_back, vx_callV, vx_callS, vx_callSW, vx_throw0, vx_throwS follow proofs of the library, with one case more: JvmDerived/Free/Laws.lean (Back.of_free), Shelf42/LK1.lean (callV, callS), Shelf/KitTraced.lean (throwNew0V, throwNewS). -/
/-- where a method has thrown q: the class by its name, the cell, what was written, the world -/
def vx_T (XC : String → State → State → Prop) (st : State) (q : Addr) (t : State) (mc ms : Nat) (free : Addr → Prop) : Prop :=
  ∃ (E : String) (ce : Cell) (L : List Loc), XC E st t ∧ t.heap[q]? = some ce ∧ ce.vm = .none ∧ st.vm.findClass E = some ce.cls ∧ st.WarmedH t.vm ∧ st.sameButNew ({ t with vm := st.vm } : State) L mc ms ∧ ∀ z ∈ L, free z.base
def vx_Q (Qc : Array Value → State → Outcome → State → Prop) (XC : String → State → State → Prop) (mc ms : Nat) (free : Addr → Prop) : Array Value → State → Outcome → State → Prop := fun a st o t =>
  (Qc a st o t ∧ ∃ L, FrameEnd st o t L mc ms ∧ ∀ q ∈ L, free q.base) ∨ ∃ q, o = .threw q ∧ vx_T XC st q t mc ms free
/-- a callee that returns or throws -/
def vx_Met (l : Launch) (y : MethodName) (ws : List Cond) (rm : Room) (Pc : Array Value → State → Prop) (Qc : Array Value → State → Outcome → State → Prop) (XC : String → State → State → Prop) (mc ms : Nat) (free : Addr → Prop) : Prop :=
  MetFree l y (headSpec ws rm) Pc (fun _ _ _ _ _ => True) (vx_Q Qc XC mc ms free)
def vx_Post (XC : String → State → State → Prop) (mc ms : Nat) (free : Addr → Prop) : Pt → Array Value → Addr → Pt → Prop := fun A a q B =>
  ∃ (g : JFrame) (mk : MethodId) (t : State) (L : List Loc) (E : String) (ce : Cell), B.U.heap = t.heap ∧ B.U.vm = t.vm ∧ XC E (A.U.calling g mk a) t ∧ t.heap[q]? = some ce ∧ ce.vm = .none ∧ A.U.vm.findClass E = some ce.cls ∧ B.locs = A.locs ++ L ∧ (∀ z ∈ L, free z.base) ∧ B.cells = A.cells + mc ∧ B.slots = A.slots + ms
def vx_Back (l : Launch) (R : Room) (p : Program) (e : Env) (below : List Frame) (s : State) (sargs : Array Value) (y : MethodName) (len W9 : Nat)
    (Pre : Pt → Array Value → Prop) (Post : Pt → Array Value → Option Value → Pt → Prop) (PostX : Pt → Array Value → Addr → Pt → Prop) : Prop :=
  ∀ (m : MethodId) (meth : Method) (c : Code) (A : Pt) (g : JFrame) (ig : Instr) (mk : MethodId) (a : Array Value),
    Stand p l e R s m sargs below meth c A.U A.locs A.cells A.slots → g.method = m → g.locals.size = c.maxLocals → decode c.code g.pc = .ok (ig, len) →
    2 * g.monitorRoom + (g.stack.map fun v => v.category).sum ≤ W9 → A.U.methodNamed? y = some mk → Pre A a →
    (∃ (v : Option Value) (B : Pt), Stand p l e R s m sargs below meth c B.U B.locs B.cells B.slots ∧ Post A a v B ∧
      Steps p.tables e below (doInvoke e (A.U.setTop g) [] mk a).1 (B.U.setTop { g with pc := g.pc + len, stack := v.toList ++ g.stack })) ∨
    (∃ (q : Addr) (B : Pt), Stand p l e R s m sargs below meth c B.U B.locs B.cells B.slots ∧ PostX A a q B ∧
      Steps p.tables e below (doInvoke e (A.U.setTop g) [] mk a).1 ((B.U.setTop g).pushFrame (.throwing q)))
section Payer
variable {l : Launch} {R : Room} {p : Program} {e : Env} {below : List Frame} {s : State} {sargs : Array Value} {y : MethodName} {len W9 : Nat}
theorem vx_back {ws : List Cond} {rm : Room} {Pc : Array Value → State → Prop} {Qc : Array Value → State → Outcome → State → Prop} {XC : String → State → State → Prop} {mc ms : Nat} {free : Addr → Prop} {bytes : ByteArray} {maxL : Nat} {ret : Option FieldType}
    (hM : vx_Met l y ws rm Pc Qc XC mc ms free) (hblind : FrameBlind Pc) (hrc : rm.cells = mc) (hrs : rm.slots = ms)
    (hframes : rm.frames + 1 ≤ R.frames) (hlocals : W9 + (maxL + 11) + rm.locals ≤ R.locals)
    (hws : ∀ w ∈ ws, ∀ a' U, s.WarmedH U.vm → w.before a' U = true) (hcode : Cond.code y bytes maxL ret ∈ ws) (hinit : ∀ a' U, s.WarmedH U.vm → (Cond.initialized y.cls).before a' U = true) :
    vx_Back l R p e below s sargs y len W9 (PreOf R mc ms Pc) (PostOf Qc mc ms free) (vx_Post XC mc ms free) := by
  intro m meth c A g ig mk a X hg hsize hdg hW hn hp
  have h1 : (headSpec ws rm).pre.before a A.U = true := atoms_intro fun w hw => hws w hw _ _ X.warmed
  have h2 : (Cond.code y bytes maxL ret).before a A.U = true := hws _ hcode _ _ X.warmed
  have h3 : (Cond.initialized y.cls).before a A.U = true := hinit _ _ X.warmed
  have h4 : A.cells + (headSpec ws rm).room.cells ≤ R.cells := by rw [show (headSpec ws rm).room.cells = mc from hrc]; exact hp.1
  have h5 : A.slots + (headSpec ws rm).room.slots ≤ R.slots := by rw [show (headSpec ws rm).room.slots = ms from hrs]; exact hp.2.1
  have hPc : Pc a (A.U.calling g mk a) := hblind _ _ _ _ hp.2.2
  obtain ⟨U, Ls, c0, s0⟩ := A
  dsimp only [Pt.U, Pt.locs, Pt.cells, Pt.slots] at h1 h2 h3 h4 h5 X hn hPc ⊢
  obtain ⟨methY, cY, hmY, hcY, -, hlY, -, -, -, -⟩ := Cond.code_spec hn h2
  obtain ⟨kY, hkY, -⟩ := className_of_methodNamed hn
  have hinitY : kY.init = .initialized := Cond.initialized_spec (findClass_of_methodNamed hn) hkY h3
  have h : At U g.method c below := by rw [hg]; exact X.here
  have hlocals9 : W9 + (maxL + 11) + (headSpec ws rm).room.locals ≤ R.locals := hlocals
  have happ : (headSpec ws rm).appliesLoose y e.platform (U.calling g mk a) = true :=
    Spec.appliesLoose_calling (g := g) h hdg hn hkY hinitY
      (X.room_calling (g := g) (R' := (headSpec ws rm).room) hsize hmY hcY hframes (by rw [hlY]; omega) h4 h5) h1
  obtain ⟨mid, hmid⟩ := h.above
  have hfr : (U.setTop g).frames = (.java g :: mid) ++ below := by rw [State.frames_setTop' g h.top, hmid]; rfl
  obtain ⟨o, s₂, hsteps, -, hend, hq⟩ := Steps.callFree hM p X.admits X.cas X.clock (acts := []) hfr happ hPc trivial
  have hq' : vx_Q Qc XC mc ms free a (U.calling g mk a) o s₂ := hq
  rw [State.frames_setTop' g h.top] at hend
  obtain ⟨g₀, hg0⟩ := Option.isSome_iff_exists.mp h.top
  obtain ⟨r, hr⟩ := State.topJava?_eq_some.mp hg0
  have hr' : (({ U with heap := s₂.heap, slotsUsed := s₂.slotsUsed } : State).setVm s₂.vm).frames = .java g₀ :: r := hr
  rcases hq' with ⟨hqc, L, hfe, hL⟩ | ⟨q, rfl, E, ce, L, hx, hce, hcv, hcl, hW₂, hsm, hL⟩
  · obtain ⟨⟨v, rfl⟩, hW₂, e2, q2, q3, q4, q5, q6⟩ := id hfe
    have e3 : s₂ = ({ (U.calling g mk a).setFrames s₂.frames with heap := s₂.heap, slotsUsed := s₂.slotsUsed } : State).setVm s₂.vm := by
      have : s₂ = ({ s₂ with vm := (U.calling g mk a).vm } : State).setVm s₂.vm := rfl
      rw [e2] at this
      exact this
    obtain ⟨c₂, i₂, len₂, hc₂, hd₂, hf₂⟩ := hend
    have hW' : U.WarmedH s₂.vm := hW₂
    have hcc : c₂ = c := by
      have h1 : s₂.code? g.method = U.code? g.method := by
        rw [State.code?_eq, State.code?_eq, hW'.alike.method?]
      exact Option.some.inj (hc₂.symm.trans (h1.trans h.code))
    subst hcc
    have hlen : len₂ = len := by rw [hdg] at hd₂; cases hd₂; rfl
    subst hlen
    have hs₂ : s₂ = (({ U with heap := s₂.heap, slotsUsed := s₂.slotsUsed } : State).setVm s₂.vm).setTop { g with pc := g.pc + len₂, stack := v.toList ++ g.stack } := by
      refine e3.trans ?_
      rw [hf₂, State.calling_eq h.top, State.setFrames_setFrames, State.setTop_of_frames _ hr', hr]
      rfl
    have hsame : U.sameButNew ({ U with heap := s₂.heap, slotsUsed := s₂.slotsUsed } : State) L mc ms := by
      refine ⟨?_, q2, q3, q4, q5, q6⟩
      obtain ⟨t, ht, -⟩ := State.frames_cons hr
      show ({ U with heap := s₂.heap, slotsUsed := s₂.slotsUsed } : State) = { U.setFrames U.frames with heap := s₂.heap, slotsUsed := s₂.slotsUsed }
      rw [State.setFrames_self ht]
    subst hg
    refine Or.inl ⟨v, ⟨(({ U with heap := s₂.heap, slotsUsed := s₂.slotsUsed } : State).setVm s₂.vm), Ls ++ L, c0 + mc, s0 + ms⟩,
      ⟨X.admits, X.cas, X.clock, X.frames, X.room, X.hears, X.method, X.code, (X.here.setHeapUsed s₂.heap s₂.slotsUsed).setVm hW'.alike, X.tail, State.WarmedH.trans X.warmed hW', X.limits, X.bytes, X.same.trans (hsame.setVm s.vm)⟩,
      ⟨g, mk, s₂, L, rfl, rfl, hqc, rfl, hL, rfl, rfl⟩, ?_⟩
    show Steps p.tables e below _ ((({ U with heap := s₂.heap, slotsUsed := s₂.slotsUsed } : State).setVm s₂.vm).setTop { g with pc := g.pc + len₂, stack := v.toList ++ g.stack })
    rw [← hs₂]
    exact hsteps
  · obtain ⟨e2, q2, q3, q4, q5, q6⟩ := id hsm
    have e3 : s₂ = ({ (U.calling g mk a).setFrames s₂.frames with heap := s₂.heap, slotsUsed := s₂.slotsUsed } : State).setVm s₂.vm := by
      have : s₂ = ({ s₂ with vm := (U.calling g mk a).vm } : State).setVm s₂.vm := rfl
      rw [e2] at this
      exact this
    have hf₂ : s₂.frames = .throwing q :: .java g :: U.frames.tail := hend
    have hW' : U.WarmedH s₂.vm := hW₂
    have hs₂ : s₂ = ((({ U with heap := s₂.heap, slotsUsed := s₂.slotsUsed } : State).setVm s₂.vm).setTop g).pushFrame (.throwing q) := by
      refine e3.trans ?_
      rw [hf₂, State.calling_eq h.top, State.setFrames_setFrames, State.pushFrame, State.frames_setTop _ hr', State.setTop_of_frames _ hr', State.setFrames_setFrames, hr]
      rfl
    have hsame : U.sameButNew ({ U with heap := s₂.heap, slotsUsed := s₂.slotsUsed } : State) L mc ms := by
      refine ⟨?_, q2, q3, q4, q5, q6⟩
      obtain ⟨t, ht, -⟩ := State.frames_cons hr
      show ({ U with heap := s₂.heap, slotsUsed := s₂.slotsUsed } : State) = { U.setFrames U.frames with heap := s₂.heap, slotsUsed := s₂.slotsUsed }
      rw [State.setFrames_self ht]
    subst hg
    refine Or.inr ⟨q, ⟨(({ U with heap := s₂.heap, slotsUsed := s₂.slotsUsed } : State).setVm s₂.vm), Ls ++ L, c0 + mc, s0 + ms⟩,
      ⟨X.admits, X.cas, X.clock, X.frames, X.room, X.hears, X.method, X.code, (X.here.setHeapUsed s₂.heap s₂.slotsUsed).setVm hW'.alike, X.tail, State.WarmedH.trans X.warmed hW', X.limits, X.bytes, X.same.trans (hsame.setVm s.vm)⟩,
      ⟨g, mk, s₂, L, E, ce, rfl, rfl, hx, hce, hcv, hcl, rfl, hL, rfl, rfl⟩, ?_⟩
    show Steps p.tables e below _ (((({ U with heap := s₂.heap, slotsUsed := s₂.slotsUsed } : State).setVm s₂.vm).setTop g).pushFrame (.throwing q))
    rw [← hs₂]
    exact hsteps
end Payer
section Calls
variable {p : Program} {l : Launch} {e : Env} {R : Room} {s : State} {m : MethodId} {args : Array Value} {below : List Frame} {meth : Method} {c : Code} {T : State} {locs : List Loc} {cells slots : Nat}
theorem vx_callV (X : Stand p l e R s m args below meth c T locs cells slots) (hexec : p.tables.exec = Jvm.exec) {own C : String} {index : Nat} {y : MethodName} {bytes : ByteArray} {maxL : Nat} {ret : Option FieldType}
    (hown : s.vm.findClass own = some m.cls) (hlink : (Cond.methodLink own index y).before args s = true) (hinst : (Cond.instanceMethod y).before args s = true) (hsel : (Cond.selects C y y).before args s = true)
    (hcode : (Cond.code y bytes maxL ret).before args s = true) (hy : y.cls ≠ "java/lang/invoke/MethodHandle" ∧ y.cls ≠ "java/lang/invoke/VarHandle")
    {W9 : Nat} {Pre : Pt → Array Value → Prop} {Post : Pt → Array Value → Option Value → Pt → Prop} {PostX : Pt → Array Value → Addr → Pt → Prop} (hK : vx_Back l R p e below s args y 3 W9 Pre Post PostX)
    {b : Addr} {cellB : Cell} (hcell : T.heap[b]? = some cellB) (hobj : cellB.vm.isStatics = false) (hcls : s.vm.findClass C = some cellB.cls)
    {g : JFrame} (hg : g.method = m) (hsize : g.locals.size = c.maxLocals) {argsL rest : List Value} (hlen : ∀ sig, parseMethodDescriptor y.desc = some sig → argsL.length = sig.parameters.length)
    (hstack : g.stack = argsL.reverse ++ .ref b :: rest) (hW : 2 * g.monitorRoom + (rest.map fun v => v.category).sum ≤ W9) (hdg : decode c.code g.pc = .ok (.invokevirtual index, 3))
    (hpre : ∀ vm₁, s.WarmedH vm₁ → Pre ⟨T.setVm vm₁, locs, cells, slots⟩ (Value.ref b :: argsL).toArray) :
    (∃ (v : Option Value) (vm₁ : Vm) (B : Pt), s.WarmedH vm₁ ∧ Stand p l e R s m args below meth c B.U B.locs B.cells B.slots ∧ Post ⟨T.setVm vm₁, locs, cells, slots⟩ (Value.ref b :: argsL).toArray v B ∧
      ∀ target, Steps p.tables e below (B.U.setTop { g with pc := g.pc + 3, stack := v.toList ++ rest }) target → Steps p.tables e below (T.setTop g) target) ∨
    (∃ (q : Addr) (vm₁ : Vm) (B : Pt), s.WarmedH vm₁ ∧ Stand p l e R s m args below meth c B.U B.locs B.cells B.slots ∧ PostX ⟨T.setVm vm₁, locs, cells, slots⟩ (Value.ref b :: argsL).toArray q B ∧
      Steps p.tables e below (T.setTop g) ((B.U.setTop { g with stack := rest }).pushFrame (.throwing q))) := by
  obtain ⟨mk, methM, hnamed, hmethM, hstM, habM⟩ := Cond.instanceMethod_spec hinst
  obtain ⟨methM', cM, hmethM', -, -, -, -, -, -, hsigM⟩ := Cond.code_spec hnamed hcode
  cases hmethM.symm.trans hmethM'
  obtain ⟨c2, r2, m2, q1, q2, q3, q4, kP, hkP, hkPi⟩ := Cond.selects_spec hsel
  cases hcls.symm.trans q1
  cases (State.methodFound?_of_named hnamed hy).symm.trans q2
  cases hnamed.symm.trans q3
  have hselP : selectMethod e.platform s.vm cellB.cls mk = .method mk := by rw [Launch.admits_selectMethod X.admits]; exact q4
  obtain ⟨vm₁, X₁, hstep₁⟩ := X.invokevirtual hexec hown hlink hnamed hmethM hstM hkP hkPi hy (a := b) (cell := cellB) hcell
    (fun z h => by rw [h] at hobj; cases hobj) hselP hmethM habM hkP hkPi (g := g) hg (argsL := argsL) (rest := rest) (hlen _ hsigM) hstack hdg
  rcases hK m meth c ⟨T.setVm vm₁, locs, cells, slots⟩ { g with stack := rest } (.invokevirtual index) mk (Value.ref b :: argsL).toArray X₁ hg hsize hdg hW (X₁.named hnamed) (hpre vm₁ X₁.warmed) with ⟨v, B, X', hpost, hsteps⟩ | ⟨q, B, X', hpost, hsteps⟩
  · exact Or.inl ⟨v, vm₁, B, X₁.warmed, X', hpost, fun target h => hstep₁ _ fun acts => by rw [doInvoke_state]; exact hsteps.trans h⟩
  · exact Or.inr ⟨q, vm₁, B, X₁.warmed, X', hpost, hstep₁ _ fun acts => by rw [doInvoke_state]; exact hsteps⟩
theorem vx_callS (X : Stand p l e R s m args below meth c T locs cells slots) (hexec : p.tables.exec = Jvm.exec) {own : String} {index : Nat} {y : MethodName} {bytes : ByteArray} {maxL : Nat} {ret : Option FieldType}
    (hown : s.vm.findClass own = some m.cls) (hlink : (Cond.methodLink own index y).before args s = true) (hstat : (Cond.static y).before args s = true) (hinit : (Cond.initialized y.cls).before args s = true)
    (hcode : (Cond.code y bytes maxL ret).before args s = true) (hy : y.cls ≠ "java/lang/invoke/MethodHandle" ∧ y.cls ≠ "java/lang/invoke/VarHandle")
    {W9 : Nat} {Pre : Pt → Array Value → Prop} {Post : Pt → Array Value → Option Value → Pt → Prop} {PostX : Pt → Array Value → Addr → Pt → Prop} (hK : vx_Back l R p e below s args y 3 W9 Pre Post PostX)
    {g : JFrame} (hg : g.method = m) (hsize : g.locals.size = c.maxLocals) {argsL rest : List Value} (hlen : ∀ sig, parseMethodDescriptor y.desc = some sig → argsL.length = sig.parameters.length)
    (hstack : g.stack = argsL.reverse ++ rest) (hW : 2 * g.monitorRoom + (rest.map fun v => v.category).sum ≤ W9) (hdg : decode c.code g.pc = .ok (.invokestatic index, 3))
    (hpre : ∀ vm₁, s.WarmedH vm₁ → Pre ⟨T.setVm vm₁, locs, cells, slots⟩ argsL.toArray) :
    (∃ (v : Option Value) (vm₁ : Vm) (B : Pt), s.WarmedH vm₁ ∧ Stand p l e R s m args below meth c B.U B.locs B.cells B.slots ∧ Post ⟨T.setVm vm₁, locs, cells, slots⟩ argsL.toArray v B ∧
      ∀ target, Steps p.tables e below (B.U.setTop { g with pc := g.pc + 3, stack := v.toList ++ rest }) target → Steps p.tables e below (T.setTop g) target) ∨
    (∃ (q : Addr) (vm₁ : Vm) (B : Pt), s.WarmedH vm₁ ∧ Stand p l e R s m args below meth c B.U B.locs B.cells B.slots ∧ PostX ⟨T.setVm vm₁, locs, cells, slots⟩ argsL.toArray q B ∧
      Steps p.tables e below (T.setTop g) ((B.U.setTop { g with stack := rest }).pushFrame (.throwing q))) := by
  obtain ⟨mk, hnamed⟩ := Cond.code_named hcode
  obtain ⟨methM, cM, hmethM, -, -, -, -, -, -, hsigM⟩ := Cond.code_spec hnamed hcode
  have hstatic : methM.isStatic = true := Cond.static_spec hnamed hmethM hstat
  obtain ⟨kP, hkP, -⟩ := className_of_methodNamed hnamed
  have hinitP : kP.init = .initialized := Cond.initialized_spec (findClass_of_methodNamed hnamed) hkP hinit
  obtain ⟨vm₁, X₁, hstep₁⟩ := X.invokestatic hexec hown hlink hnamed hmethM hstatic hkP hinitP hy (g := g) hg (argsL := argsL) (rest := rest) (hlen _ hsigM) hstack hdg
  rcases hK m meth c ⟨T.setVm vm₁, locs, cells, slots⟩ { g with stack := rest } (.invokestatic index) mk argsL.toArray X₁ hg hsize hdg hW (X₁.named hnamed) (hpre vm₁ X₁.warmed) with ⟨v, B, X', hpost, hsteps⟩ | ⟨q, B, X', hpost, hsteps⟩
  · exact Or.inl ⟨v, vm₁, B, X₁.warmed, X', hpost, fun target h => hstep₁ _ fun acts => by rw [doInvoke_state]; exact hsteps.trans h⟩
  · exact Or.inr ⟨q, vm₁, B, X₁.warmed, X', hpost, hstep₁ _ fun acts => by rw [doInvoke_state]; exact hsteps⟩
end Calls
theorem vx_cls {s : State} {T : State} {vm₁ : Vm} {E : String} {k : ClassId} (hW : s.WarmedH vm₁) (h : (T.setVm vm₁).vm.findClass E = some k) : s.vm.findClass E = some k := by
  have h1 : vm₁.findClass E = some k := h
  rw [hW.alike.findClass] at h1
  exact h1
/-- the method's frame g, with q thrown over it -/
def vx_W (p : Program) (l : Launch) (e : Env) (R : Room) (s : State) (m : MethodId) (args : Array Value) (below : List Frame) (meth : Method) (c : Code) (H : Heap) (locs : List Loc) (cells slots : Nat) (Q : State → Prop) (g : JFrame) (q : Addr) : Prop :=
  ∀ T : State, T.heap = H → Stand p l e R s m args below meth c T locs cells slots → ∃ t, Steps p.tables e below ((T.setTop g).pushFrame (.throwing q)) t ∧ Q t
def vx_Run (p : Program) (l : Launch) (e : Env) (R : Room) (s : State) (m : MethodId) (args : Array Value) (below : List Frame) (meth : Method) (c : Code) (H : Heap) (locs : List Loc) (cells slots mc ms : Nat) (g : JFrame) (rest : List Value) (Qa : State → Outcome → State → Prop) (XC : String → State → State → Prop) (free : Addr → Prop) : Prop :=
  ∀ T : State, T.heap = H → Stand p l e R s m args below meth c T locs cells slots →
    (∃ (v : Option Value) (st₀ t T' : State) (L : List Loc), st₀.heap = H ∧ Stand p l e R s m args below meth c T' (locs ++ L) (cells + mc) (slots + ms) ∧ (∀ q ∈ L, free q.base) ∧ T'.heap = t.heap ∧ T'.vm = t.vm ∧ Qa st₀ (.returned v) t ∧
      Goes p e below T g T' { g with pc := g.pc + 3, stack := v.toList ++ rest }) ∨
    (∃ (q : Addr) (st₀ t T' : State) (L : List Loc) (E : String) (ce : Cell), st₀.heap = H ∧ Stand p l e R s m args below meth c T' (locs ++ L) (cells + mc) (slots + ms) ∧ (∀ z ∈ L, free z.base) ∧ T'.heap = t.heap ∧ T'.vm = t.vm ∧ XC E st₀ t ∧ t.heap[q]? = some ce ∧ ce.vm = .none ∧ s.vm.findClass E = some ce.cls ∧
      Steps p.tables e below (T.setTop g) ((T'.setTop { g with stack := rest }).pushFrame (.throwing q)))
def vx_X {S : Type} (px : S → Prop) (B : String → S → State → Prop) (A : Nat → Prop) : String → State → State → Prop := fun E st t => ∃ u : S, px u ∧ B E u t ∧ va_F A st t
section Runs
variable {p : Program} {l : Launch} {e : Env} {R : Room} {s : State} {m : MethodId} {args : Array Value} {below : List Frame} {meth : Method} {c : Code} {H : Heap} {locs : List Loc} {cells slots : Nat}
variable {y : MethodName} {bytes cc : ByteArray} {maxL nL mc ms n index : Nat} {ret : Option FieldType} {ws : List Cond} {rm : Room} {Pc : Array Value → State → Prop} {Qc : Array Value → State → Outcome → State → Prop} {XC : String → State → State → Prop} {free : Addr → Prop} {Ts : List Cond} {own C : String} {b : Addr} {As rest : List Value} {g : JFrame}
theorem vx_callBack (cb : CallB R s args own index y bytes maxL ret ws rm mc ms n) (hM : vx_Met l y ws rm Pc Qc XC mc ms free) (hbl : FrameBlind Pc) : vx_Back l R p e below s args y 3 8 (PreOf R mc ms Pc) (PostOf Qc mc ms free) (vx_Post XC mc ms free) := by
  obtain ⟨hrc, hrs, hfr, hlo, hws, hcw, -, hini, -⟩ := cb
  exact vx_back (bytes := bytes) (maxL := maxL) (ret := ret) hM hbl hrc hrs hfr hlo hws hcw (fun a' U hW => word_at hW (Or.inl (by first | rfl | simp [Cond.onTables, Cond.keeps, Cond.steady])) hini)
theorem vx_runV (S : CallFix p m c cc nL s args Ts own) (hM : vx_Met l y ws rm Pc Qc XC mc ms free) (cw : CallW R s args own C index y bytes maxL ret ws rm mc ms n) (hp : PreV s H C b Pc As)
    (hg : g.method = m) (hn : As.length = n) (hsize : g.locals.size = nL) (hstack : g.stack = As.reverse ++ .ref b :: rest) (hW : 2 * g.monitorRoom + (rest.map fun v => v.category).sum ≤ 8) (hdg : decode cc g.pc = .ok (.invokevirtual index, 3)) (hf : cells + mc ≤ R.cells ∧ slots + ms ≤ R.slots) :
    vx_Run p l e R s m args below meth c H locs cells slots mc ms g rest (Qc (Value.ref b :: As).toArray) XC free := by
  have hK : vx_Back l R p e below s args y 3 8 (PreOf R mc ms Pc) (PostOf Qc mc ms free) (vx_Post XC mc ms free) := vx_callBack cw.1 hM hp.1
  obtain ⟨⟨-, -, -, -, -, -, hcode, -, hy, hlen, hl⟩, hin, hse⟩ := cw
  obtain ⟨hx, hb, hml, ho, -⟩ := S
  obtain ⟨-, ⟨cellB, hcB, hoB, hclB⟩, hPc⟩ := hp
  intro T hT X
  rcases vx_callV X hx (C := C) (bytes := bytes) (maxL := maxL) (ret := ret) ho hl hin hse hcode hy hK (by rw [hT]; exact hcB) hoB hclB hg (hsize.trans hml.symm) (argsL := As) (rest := rest) (fun sig h => hn.trans (hlen sig h)) hstack hW (by rw [hb]; exact hdg)
    (fun vm₁ hW₁ => ⟨hf.1, hf.2, hPc (T.setVm vm₁) hT hW₁⟩) with ⟨v, vm₁, ⟨U', l2, c2, s2⟩, hW₁, X', ⟨g', mk, t, L, e1, e2, hq, h1, hL, h2, h3⟩, st⟩ | ⟨q, vm₁, ⟨U', l2, c2, s2⟩, hW₁, X', ⟨g', mk, t, L, E, ce, e1, e2, hq, hce, hcv, hcl, h1, hL, h2, h3⟩, st⟩
  · dsimp only [Pt.U, Pt.locs, Pt.cells, Pt.slots] at X' e1 e2 h1 h2 h3 st
    subst h1; subst h2; subst h3
    exact Or.inl ⟨v, (T.setVm vm₁).calling g' mk (Value.ref b :: As).toArray, t, U', L, hT, X', hL, e1, e2, hq, st⟩
  · dsimp only [Pt.U, Pt.locs, Pt.cells, Pt.slots] at X' e1 e2 h1 h2 h3 st hcl
    subst h1; subst h2; subst h3
    exact Or.inr ⟨q, (T.setVm vm₁).calling g' mk (Value.ref b :: As).toArray, t, U', L, E, ce, hT, X', hL, e1, e2, hq, hce, hcv, vx_cls hW₁ hcl, st⟩
theorem vx_runS (S : CallFix p m c cc nL s args Ts own) (hM : vx_Met l y ws rm Pc Qc XC mc ms free) (cw : CallB R s args own index y bytes maxL ret ws rm mc ms n ∧ (Cond.static y).before args s = true) (hp : PreS s H Pc As)
    (hg : g.method = m) (hn : As.length = n) (hsize : g.locals.size = nL) (hstack : g.stack = As.reverse ++ rest) (hW : 2 * g.monitorRoom + (rest.map fun v => v.category).sum ≤ 8) (hdg : decode cc g.pc = .ok (.invokestatic index, 3)) (hf : cells + mc ≤ R.cells ∧ slots + ms ≤ R.slots) :
    vx_Run p l e R s m args below meth c H locs cells slots mc ms g rest (Qc As.toArray) XC free := by
  have hK : vx_Back l R p e below s args y 3 8 (PreOf R mc ms Pc) (PostOf Qc mc ms free) (vx_Post XC mc ms free) := vx_callBack cw.1 hM hp.1
  obtain ⟨⟨-, -, -, -, -, -, hcode, hini, hy, hlen, hl⟩, hstt⟩ := cw
  obtain ⟨hx, hb, hml, ho, -⟩ := S
  intro T hT X
  rcases vx_callS X hx (bytes := bytes) (maxL := maxL) (ret := ret) ho hl hstt hini hcode hy hK hg (hsize.trans hml.symm) (argsL := As) (rest := rest) (fun sig h => hn.trans (hlen sig h)) hstack hW (by rw [hb]; exact hdg)
    (fun vm₁ hW₁ => ⟨hf.1, hf.2, hp.2 (T.setVm vm₁) hT hW₁⟩) with ⟨v, vm₁, ⟨U', l2, c2, s2⟩, hW₁, X', ⟨g', mk, t, L, e1, e2, hq, h1, hL, h2, h3⟩, st⟩ | ⟨q, vm₁, ⟨U', l2, c2, s2⟩, hW₁, X', ⟨g', mk, t, L, E, ce, e1, e2, hq, hce, hcv, hcl, h1, hL, h2, h3⟩, st⟩
  · dsimp only [Pt.U, Pt.locs, Pt.cells, Pt.slots] at X' e1 e2 h1 h2 h3 st
    subst h1; subst h2; subst h3
    exact Or.inl ⟨v, (T.setVm vm₁).calling g' mk As.toArray, t, U', L, hT, X', hL, e1, e2, hq, st⟩
  · dsimp only [Pt.U, Pt.locs, Pt.cells, Pt.slots] at X' e1 e2 h1 h2 h3 st hcl
    subst h1; subst h2; subst h3
    exact Or.inr ⟨q, (T.setVm vm₁).calling g' mk As.toArray, t, U', L, E, ce, hT, X', hL, e1, e2, hq, hce, hcv, vx_cls hW₁ hcl, st⟩
end Runs
section Rows
variable {p : Program} {l : Launch} {e : Env} {R : Room} {s : State} {m : MethodId} {args : Array Value} {below : List Frame} {meth : Method} {c : Code} {H : Heap} {locs : List Loc} {cells slots : Nat} {Q : State → Prop}
variable {mc ms : Nat} {free : Addr → Prop} {A0 A1 : Nat → Prop} {H0 : Heap} {a : Array Value} {pc : Nat} {ls : Array Slot} {st0 rest : List Value}
theorem vx_keep {st₀ t T' : State} {L : List Loc} (h0 : st₀.heap = H) (e1 : T'.heap = t.heap) (hS : va_S A0 H0 H locs) (hA : ∀ q, q < H.size → A1 q → A0 q) (hf : ∀ q, free q → A0 q) (hL : ∀ q ∈ L, free q.base) (hF : va_F A1 st₀ t) :
    H.size ≤ T'.heap.size ∧ (∀ q : Nat, q < H.size → ¬ A1 q → T'.heap[q]? = H[q]?) ∧ va_S A0 H0 T'.heap (locs ++ L) := by
  obtain ⟨hz, hk⟩ := hF
  rw [h0] at hz hk
  exact ⟨by rw [e1]; exact hz, fun q h1 h2 => by rw [e1]; exact hk q h1 h2,
    ⟨Nat.le_trans hS.1 (by rw [e1]; exact hz), fun q h1 h2 => by rw [e1, hk q (Nat.lt_of_lt_of_le h1 hS.1) (fun z => h2 (hA q (Nat.lt_of_lt_of_le h1 hS.1) z))]; exact hS.2.1 q h1 h2, fun q hq => by
      rcases List.mem_append.mp hq with h | h
      · exact hS.2.2 q h
      · exact hf _ (hL q h)⟩⟩
theorem vx_calli {S SX : Type} {post : Int32 → S → Prop} {px : SX → Prop} {B : S → State → Prop} {BX : String → SX → State → Prop} {AX : Nat → Prop} (hr : vx_Run p l e R s m args below meth c H locs cells slots mc ms (F0 m pc ls st0) rest (va_Qi post B A1 a) (vx_X px BX AX) free) (hS : va_S A0 H0 H locs) (hA : ∀ q, q < H.size → A1 q → A0 q) (hf : ∀ q, free q → A0 q) (hAX : ∀ q, q < H.size → AX q → A0 q)
    (kx : ∀ (E : String) (ce : Cell) (q9 : Addr) (u : SX) (t : State) (H1 : Heap) (locs1 : List Loc), t.heap = H1 → s.vm.Alike t.vm → px u → BX E u t → H.size ≤ H1.size → (∀ q : Nat, q < H.size → ¬ AX q → H1[q]? = H[q]?) → va_S A0 H0 H1 locs1 → H1[q9]? = some ce → ce.vm = .none → s.vm.findClass E = some ce.cls → vx_W p l e R s m args below meth c H1 locs1 (cells + mc) (slots + ms) Q (F0 m pc ls rest) q9)
    (kk : ∀ (r : Int32) (u : S) (t : State) (H1 : Heap) (locs1 : List Loc), t.heap = H1 → s.vm.Alike t.vm → post r u → B u t → H.size ≤ H1.size → (∀ q : Nat, q < H.size → ¬ A1 q → H1[q]? = H[q]?) → va_S A0 H0 H1 locs1 → W p l e R s m args below meth c H1 locs1 (cells + mc) (slots + ms) Q (F0 m (pc + 3) ls (.int r :: rest))) : W p l e R s m args below meth c H locs cells slots Q (F0 m pc ls st0) := by
  intro T hT X
  rcases hr T hT X with ⟨v, st₀, t, T', L, h0, X', hL, e1, e2, ⟨⟨r, u, hv, hp, hb⟩, hF⟩, st⟩ | ⟨q, st₀, t, T', L, E, ce, h0, X', hL, e1, e2, ⟨u, hp, hb, hF⟩, hce, hcv, hcl, st⟩
  · cases hv
    obtain ⟨k1, k2, k3⟩ := vx_keep h0 e1 hS hA hf hL hF
    obtain ⟨t2, a1, b1⟩ := kk r u t T'.heap (locs ++ L) e1.symm (by rw [← e2]; exact X'.warmed.alike) hp hb k1 k2 k3 T' rfl X'
    exact ⟨t2, st t2 a1, b1⟩
  · obtain ⟨k1, k2, k3⟩ := vx_keep h0 e1 hS hAX hf hL hF
    obtain ⟨t2, a1, b1⟩ := kx E ce q u t T'.heap (locs ++ L) e1.symm (by rw [← e2]; exact X'.warmed.alike) hp hb k1 k2 k3 (by rw [e1]; exact hce) hcv hcl T' rfl X'
    exact ⟨t2, st.trans a1, b1⟩
theorem vx_calll {S SX : Type} {post : Int64 → S → Prop} {px : SX → Prop} {B : S → State → Prop} {BX : String → SX → State → Prop} {AX : Nat → Prop} (hr : vx_Run p l e R s m args below meth c H locs cells slots mc ms (F0 m pc ls st0) rest (va_Ql post B A1 a) (vx_X px BX AX) free) (hS : va_S A0 H0 H locs) (hA : ∀ q, q < H.size → A1 q → A0 q) (hf : ∀ q, free q → A0 q) (hAX : ∀ q, q < H.size → AX q → A0 q)
    (kx : ∀ (E : String) (ce : Cell) (q9 : Addr) (u : SX) (t : State) (H1 : Heap) (locs1 : List Loc), t.heap = H1 → s.vm.Alike t.vm → px u → BX E u t → H.size ≤ H1.size → (∀ q : Nat, q < H.size → ¬ AX q → H1[q]? = H[q]?) → va_S A0 H0 H1 locs1 → H1[q9]? = some ce → ce.vm = .none → s.vm.findClass E = some ce.cls → vx_W p l e R s m args below meth c H1 locs1 (cells + mc) (slots + ms) Q (F0 m pc ls rest) q9)
    (kk : ∀ (r : Int64) (u : S) (t : State) (H1 : Heap) (locs1 : List Loc), t.heap = H1 → s.vm.Alike t.vm → post r u → B u t → H.size ≤ H1.size → (∀ q : Nat, q < H.size → ¬ A1 q → H1[q]? = H[q]?) → va_S A0 H0 H1 locs1 → W p l e R s m args below meth c H1 locs1 (cells + mc) (slots + ms) Q (F0 m (pc + 3) ls (.long r :: rest))) : W p l e R s m args below meth c H locs cells slots Q (F0 m pc ls st0) := by
  intro T hT X
  rcases hr T hT X with ⟨v, st₀, t, T', L, h0, X', hL, e1, e2, ⟨⟨r, u, hv, hp, hb⟩, hF⟩, st⟩ | ⟨q, st₀, t, T', L, E, ce, h0, X', hL, e1, e2, ⟨u, hp, hb, hF⟩, hce, hcv, hcl, st⟩
  · cases hv
    obtain ⟨k1, k2, k3⟩ := vx_keep h0 e1 hS hA hf hL hF
    obtain ⟨t2, a1, b1⟩ := kk r u t T'.heap (locs ++ L) e1.symm (by rw [← e2]; exact X'.warmed.alike) hp hb k1 k2 k3 T' rfl X'
    exact ⟨t2, st t2 a1, b1⟩
  · obtain ⟨k1, k2, k3⟩ := vx_keep h0 e1 hS hAX hf hL hF
    obtain ⟨t2, a1, b1⟩ := kx E ce q u t T'.heap (locs ++ L) e1.symm (by rw [← e2]; exact X'.warmed.alike) hp hb k1 k2 k3 (by rw [e1]; exact hce) hcv hcl T' rfl X'
    exact ⟨t2, st.trans a1, b1⟩
theorem vx_callf {S SX : Type} {post : UInt32 → S → Prop} {px : SX → Prop} {B : S → State → Prop} {BX : String → SX → State → Prop} {AX : Nat → Prop} (hr : vx_Run p l e R s m args below meth c H locs cells slots mc ms (F0 m pc ls st0) rest (va_Qf post B A1 a) (vx_X px BX AX) free) (hS : va_S A0 H0 H locs) (hA : ∀ q, q < H.size → A1 q → A0 q) (hf : ∀ q, free q → A0 q) (hAX : ∀ q, q < H.size → AX q → A0 q)
    (kx : ∀ (E : String) (ce : Cell) (q9 : Addr) (u : SX) (t : State) (H1 : Heap) (locs1 : List Loc), t.heap = H1 → s.vm.Alike t.vm → px u → BX E u t → H.size ≤ H1.size → (∀ q : Nat, q < H.size → ¬ AX q → H1[q]? = H[q]?) → va_S A0 H0 H1 locs1 → H1[q9]? = some ce → ce.vm = .none → s.vm.findClass E = some ce.cls → vx_W p l e R s m args below meth c H1 locs1 (cells + mc) (slots + ms) Q (F0 m pc ls rest) q9)
    (kk : ∀ (r : UInt32) (u : S) (t : State) (H1 : Heap) (locs1 : List Loc), t.heap = H1 → s.vm.Alike t.vm → post r u → B u t → H.size ≤ H1.size → (∀ q : Nat, q < H.size → ¬ A1 q → H1[q]? = H[q]?) → va_S A0 H0 H1 locs1 → W p l e R s m args below meth c H1 locs1 (cells + mc) (slots + ms) Q (F0 m (pc + 3) ls (.float r :: rest))) : W p l e R s m args below meth c H locs cells slots Q (F0 m pc ls st0) := by
  intro T hT X
  rcases hr T hT X with ⟨v, st₀, t, T', L, h0, X', hL, e1, e2, ⟨⟨r, u, hv, hp, hb⟩, hF⟩, st⟩ | ⟨q, st₀, t, T', L, E, ce, h0, X', hL, e1, e2, ⟨u, hp, hb, hF⟩, hce, hcv, hcl, st⟩
  · cases hv
    obtain ⟨k1, k2, k3⟩ := vx_keep h0 e1 hS hA hf hL hF
    obtain ⟨t2, a1, b1⟩ := kk r u t T'.heap (locs ++ L) e1.symm (by rw [← e2]; exact X'.warmed.alike) hp hb k1 k2 k3 T' rfl X'
    exact ⟨t2, st t2 a1, b1⟩
  · obtain ⟨k1, k2, k3⟩ := vx_keep h0 e1 hS hAX hf hL hF
    obtain ⟨t2, a1, b1⟩ := kx E ce q u t T'.heap (locs ++ L) e1.symm (by rw [← e2]; exact X'.warmed.alike) hp hb k1 k2 k3 (by rw [e1]; exact hce) hcv hcl T' rfl X'
    exact ⟨t2, st.trans a1, b1⟩
theorem vx_calld {S SX : Type} {post : UInt64 → S → Prop} {px : SX → Prop} {B : S → State → Prop} {BX : String → SX → State → Prop} {AX : Nat → Prop} (hr : vx_Run p l e R s m args below meth c H locs cells slots mc ms (F0 m pc ls st0) rest (va_Qd post B A1 a) (vx_X px BX AX) free) (hS : va_S A0 H0 H locs) (hA : ∀ q, q < H.size → A1 q → A0 q) (hf : ∀ q, free q → A0 q) (hAX : ∀ q, q < H.size → AX q → A0 q)
    (kx : ∀ (E : String) (ce : Cell) (q9 : Addr) (u : SX) (t : State) (H1 : Heap) (locs1 : List Loc), t.heap = H1 → s.vm.Alike t.vm → px u → BX E u t → H.size ≤ H1.size → (∀ q : Nat, q < H.size → ¬ AX q → H1[q]? = H[q]?) → va_S A0 H0 H1 locs1 → H1[q9]? = some ce → ce.vm = .none → s.vm.findClass E = some ce.cls → vx_W p l e R s m args below meth c H1 locs1 (cells + mc) (slots + ms) Q (F0 m pc ls rest) q9)
    (kk : ∀ (r : UInt64) (u : S) (t : State) (H1 : Heap) (locs1 : List Loc), t.heap = H1 → s.vm.Alike t.vm → post r u → B u t → H.size ≤ H1.size → (∀ q : Nat, q < H.size → ¬ A1 q → H1[q]? = H[q]?) → va_S A0 H0 H1 locs1 → W p l e R s m args below meth c H1 locs1 (cells + mc) (slots + ms) Q (F0 m (pc + 3) ls (.double r :: rest))) : W p l e R s m args below meth c H locs cells slots Q (F0 m pc ls st0) := by
  intro T hT X
  rcases hr T hT X with ⟨v, st₀, t, T', L, h0, X', hL, e1, e2, ⟨⟨r, u, hv, hp, hb⟩, hF⟩, st⟩ | ⟨q, st₀, t, T', L, E, ce, h0, X', hL, e1, e2, ⟨u, hp, hb, hF⟩, hce, hcv, hcl, st⟩
  · cases hv
    obtain ⟨k1, k2, k3⟩ := vx_keep h0 e1 hS hA hf hL hF
    obtain ⟨t2, a1, b1⟩ := kk r u t T'.heap (locs ++ L) e1.symm (by rw [← e2]; exact X'.warmed.alike) hp hb k1 k2 k3 T' rfl X'
    exact ⟨t2, st t2 a1, b1⟩
  · obtain ⟨k1, k2, k3⟩ := vx_keep h0 e1 hS hAX hf hL hF
    obtain ⟨t2, a1, b1⟩ := kx E ce q u t T'.heap (locs ++ L) e1.symm (by rw [← e2]; exact X'.warmed.alike) hp hb k1 k2 k3 (by rw [e1]; exact hce) hcv hcl T' rfl X'
    exact ⟨t2, st.trans a1, b1⟩
theorem vx_callv {S SX : Type} {post : S → Prop} {px : SX → Prop} {B : S → State → Prop} {BX : String → SX → State → Prop} {AX : Nat → Prop} (hr : vx_Run p l e R s m args below meth c H locs cells slots mc ms (F0 m pc ls st0) rest (va_Qv post B A1 a) (vx_X px BX AX) free) (hS : va_S A0 H0 H locs) (hA : ∀ q, q < H.size → A1 q → A0 q) (hf : ∀ q, free q → A0 q) (hAX : ∀ q, q < H.size → AX q → A0 q)
    (kx : ∀ (E : String) (ce : Cell) (q9 : Addr) (u : SX) (t : State) (H1 : Heap) (locs1 : List Loc), t.heap = H1 → s.vm.Alike t.vm → px u → BX E u t → H.size ≤ H1.size → (∀ q : Nat, q < H.size → ¬ AX q → H1[q]? = H[q]?) → va_S A0 H0 H1 locs1 → H1[q9]? = some ce → ce.vm = .none → s.vm.findClass E = some ce.cls → vx_W p l e R s m args below meth c H1 locs1 (cells + mc) (slots + ms) Q (F0 m pc ls rest) q9)
    (kk : ∀ (u : S) (t : State) (H1 : Heap) (locs1 : List Loc), t.heap = H1 → s.vm.Alike t.vm → post u → B u t → H.size ≤ H1.size → (∀ q : Nat, q < H.size → ¬ A1 q → H1[q]? = H[q]?) → va_S A0 H0 H1 locs1 → W p l e R s m args below meth c H1 locs1 (cells + mc) (slots + ms) Q (F0 m (pc + 3) ls (rest))) : W p l e R s m args below meth c H locs cells slots Q (F0 m pc ls st0) := by
  intro T hT X
  rcases hr T hT X with ⟨v, st₀, t, T', L, h0, X', hL, e1, e2, ⟨⟨u, hv, hp, hb⟩, hF⟩, st⟩ | ⟨q, st₀, t, T', L, E, ce, h0, X', hL, e1, e2, ⟨u, hp, hb, hF⟩, hce, hcv, hcl, st⟩
  · cases hv
    obtain ⟨k1, k2, k3⟩ := vx_keep h0 e1 hS hA hf hL hF
    obtain ⟨t2, a1, b1⟩ := kk u t T'.heap (locs ++ L) e1.symm (by rw [← e2]; exact X'.warmed.alike) hp hb k1 k2 k3 T' rfl X'
    exact ⟨t2, st t2 a1, b1⟩
  · obtain ⟨k1, k2, k3⟩ := vx_keep h0 e1 hS hAX hf hL hF
    obtain ⟨t2, a1, b1⟩ := kx E ce q u t T'.heap (locs ++ L) e1.symm (by rw [← e2]; exact X'.warmed.alike) hp hb k1 k2 k3 (by rw [e1]; exact hce) hcv hcl T' rfl X'
    exact ⟨t2, st.trans a1, b1⟩
end Rows
section Ends
variable {p : Program} {l : Launch} {e : Env} {R : Room} {s : State} {m : MethodId} {args : Array Value} {below : List Frame} {meth : Method} {c : Code} {H : Heap} {locs : List Loc} {cells slots : Nat} {Q : State → Prop}
variable {mc ms : Nat} {free : Addr → Prop} {A0 A1 : Nat → Prop} {H0 : Heap} {a : Array Value} {ls : Array Slot} {st0 rest : List Value}
variable {Qc : Array Value → State → Outcome → State → Prop} {XC : String → State → State → Prop}
/-- what a body that may throw owes at its end -/
def vx_MQ (below : List Frame) (Qc : Array Value → State → Outcome → State → Prop) (XC : String → State → State → Prop) (a : Array Value) (s : State) (mc ms : Nat) (free : Addr → Prop) : State → Prop := fun t =>
  ∃ o, t.status = .running ∧ Ended t below o ∧ vx_Q Qc XC mc ms free a s o t
theorem vx_ret {g : JFrame} {mc ms : Nat} (k : W p l e R s m args below meth c H locs cells slots (MQ below Qc args s mc ms free) g) : W p l e R s m args below meth c H locs cells slots (vx_MQ below Qc XC args s mc ms free) g := by
  intro T hT X
  obtain ⟨t, a1, o, b1, b2, b3, b4⟩ := k T hT X
  exact ⟨t, a1, o, b1, b2, Or.inl ⟨b3, b4⟩⟩
/-- not caught here: it goes on to the caller -/
theorem vx_widen {g : JFrame} {q : Addr} {k n : Nat} (h1 : cells ≤ k) (h2 : slots ≤ n) (kk : vx_W p l e R s m args below meth c H locs k n Q g q) : vx_W p l e R s m args below meth c H locs cells slots Q g q := fun T hT X => kk T hT (stand_widen X h1 h2)
theorem vx_out {pc : Nat} {E : String} {ce : Cell} {q : Addr} {mc ms : Nat} (hout : ∀ x ∈ c.exceptionTable.toList, covers x pc = false) (hlocks : meth.locks = false) (hcell : H[q]? = some ce) (hv : ce.vm = .none) (hcl : s.vm.findClass E = some ce.cls)
    (hx : ∀ t : State, t.heap = H → s.vm.Alike t.vm → XC E s t) (hf : ∀ z ∈ locs, free z.base) (hc : cells ≤ mc) (hs : slots ≤ ms) :
    vx_W p l e R s m args below meth c H locs cells slots (vx_MQ below Qc XC args s mc ms free) (F0 m pc ls rest) q := by
  intro T hT X
  obtain ⟨st1, hrun, hend, hW, hsm⟩ := X.leaveThrown q (g := F0 m pc ls rest) rfl rfl rfl hout hlocks
  have hcell9 : (T.setFrames (.throwing q :: below)).heap[q]? = some ce := by
    show T.heap[q]? = some ce
    rw [hT]; exact hcell
  exact ⟨_, st1, .threw q, hrun, hend, Or.inr ⟨q, rfl, E, ce, locs, hx _ hT hW.alike, hcell9, hv, hcl, hW, hsm.mono hc hs, hf⟩⟩
theorem vx_frame {U : State} {k n : Nat} (h : s.sameButNew ({ U with vm := s.vm } : State) locs k n) : s.heap.size ≤ U.heap.size ∧ ∀ q : Nat, q < s.heap.size → (∀ z ∈ locs, z.base ≠ q) → U.heap[q]? = s.heap[q]? := by
  obtain ⟨-, h2, -, -, -, h6⟩ := h
  refine ⟨h2, fun q hq hz => ?_⟩
  obtain ⟨c9, e1, e2, e3, e4⟩ := h6 q _ (Array.getElem?_eq_getElem hq)
  have hs : c9.slots = (s.heap[q]).slots := Array.ext_getElem? fun i => e4 i fun hm => hz _ hm rfl
  have h9 : c9 = s.heap[q] := by
    rw [hs] at e2
    exact e2
  have e5 : U.heap[q]? = some c9 := e1
  rw [e5, h9, Array.getElem?_eq_getElem hq]
/-- the words of a throw but the four that speak of the heap -/
def vx_no (w : Cond) : Bool := decide (w ≠ .isRef (.static Bundle.tN "UNASSIGNED_STACK" Bundle.steD)) && decide (w ≠ .isRef (.static Bundle.tN "SUPPRESSED_SENTINEL" Bundle.listD)) && decide (w ≠ .laysStatic Bundle.tN "UNASSIGNED_STACK" Bundle.steD) && decide (w ≠ .laysStatic Bundle.tN "SUPPRESSED_SENTINEL" Bundle.listD)
def vx_at0 (own : String) (ic : Nat) (X : String) (names : List String) : List Cond := (Bundle.ownAtoms0 own ic X names).filter vx_no
def vx_atS (own : String) (ic : Nat) (X : String) (names : List String) : List Cond := (Bundle.ownAtoms own ic X names).filter vx_no
/-- a word that the tables alone decide, or a good one -/
def vx_ot (w : Cond) : Bool := w.onTables || goodWord w
theorem vx_ot_at {args a' : Array Value} {s U : State} {w : Cond} (hW : s.WarmedH U.vm) (hvm : s.vm = U.vm) (hg : vx_ot w = true) (h : w.before args s = true) : w.before a' U = true := by
  simp only [vx_ot, Bool.or_eq_true] at hg
  rcases hg with hg | hg
  · exact va_tabs hg hvm h
  · exact word_at hW (good_of_word hg) h
/-- a list's words: the good ones out of the method's own list, the others by premises of their own -/
theorem vx_hat {args : Array Value} {s : State} {L B : List Cond} (h1 : ∀ w ∈ L.filter goodWord, w.before args s = true) (h2 : ∀ w ∈ L.filter (fun w => !goodWord w), w ∈ B) (h3 : ∀ w ∈ B, w.before args s = true) : ∀ w ∈ L, w.before args s = true := by
  intro w hw
  by_cases g : goodWord w = true
  · exact h1 w (List.mem_filter.mpr ⟨hw, g⟩)
  · refine h3 w (h2 w (List.mem_filter.mpr ⟨hw, ?_⟩))
    show (!goodWord w) = true
    cases hgw : goodWord w
    · rfl
    · exact absurd hgw g
theorem vx_c {args : Array Value} {s : State} {w : Cond} {B : List Cond} (h : w.before args s = true) (t : ∀ w ∈ B, w.before args s = true) : ∀ w' ∈ w :: B, w'.before args s = true := fun w' h' => (List.mem_cons.mp h').elim (fun e => by rw [e]; exact h) (t w')
theorem vx_n {args : Array Value} {s : State} : ∀ w ∈ ([] : List Cond), w.before args s = true := fun _ h => nomatch h
theorem vx_own {args : Array Value} {s : State} {L : List Cond} (h1 : ∀ w ∈ L.filter vx_no, w.before args s = true)
    (hU : (Cond.isRef (.static Bundle.tN "UNASSIGNED_STACK" Bundle.steD)).before args s = true) (hN : (Cond.isRef (.static Bundle.tN "SUPPRESSED_SENTINEL" Bundle.listD)).before args s = true)
    (lU : (Cond.laysStatic Bundle.tN "UNASSIGNED_STACK" Bundle.steD).before args s = true) (lN : (Cond.laysStatic Bundle.tN "SUPPRESSED_SENTINEL" Bundle.listD).before args s = true) : ∀ w ∈ L, w.before args s = true := by
  intro w hw
  by_cases e1 : w = .isRef (.static Bundle.tN "UNASSIGNED_STACK" Bundle.steD)
  · rw [e1]; exact hU
  · by_cases e2 : w = .isRef (.static Bundle.tN "SUPPRESSED_SENTINEL" Bundle.listD)
    · rw [e2]; exact hN
    · by_cases e3 : w = .laysStatic Bundle.tN "UNASSIGNED_STACK" Bundle.steD
      · rw [e3]; exact lU
      · by_cases e4 : w = .laysStatic Bundle.tN "SUPPRESSED_SENTINEL" Bundle.listD
        · rw [e4]; exact lN
        · exact h1 w (List.mem_filter.mpr ⟨hw, by unfold vx_no; rw [decide_eq_true e1, decide_eq_true e2, decide_eq_true e3, decide_eq_true e4]; rfl⟩)
/-- where a static field lies, its class's statics cell in H -/
def vx_L (C n d : String) (A : Nat → Prop) (U : State) (H : Heap) : Prop := ∃ (c : ClassId) (k : Class) (i : Nat) (f : Field) (a : Nat) (cell : Cell), U.vm.findClass C = some c ∧ U.fieldFound? C n d = some (c, k, i, f) ∧ f.isStatic = true ∧ k.statics = some a ∧ H[a]? = some cell ∧ cell.vm.isStatics = true ∧ cell.cls = c ∧ f.slot < cell.slots.size ∧ k.staticTypes[f.slot]? = some f.type ∧ ¬ A a
theorem vx_L.moved {C n d : String} {A : Nat → Prop} {u U : State} {H : Heap} (hvm : u.vm.Alike U.vm) (h : vx_L C n d A u H) : vx_L C n d A U H := by
  obtain ⟨c, k, i, f, a, cell, h1, h2, h3, h4, h5, h6, h7, h8, h9, h10⟩ := h
  obtain ⟨k', hi', he⟩ := State.fieldFound?_setVm hvm h2
  exact ⟨c, k', i, f, a, cell, by rw [hvm.findClass]; exact h1, hi', h3, by rw [he]; exact h4, h5, h6, h7, h8, by rw [he]; exact h9, h10⟩
theorem vx_L.kept {C n d : String} {A : Nat → Prop} {U : State} {H H1 : Heap} (h : vx_L C n d A U H) (hq : ∀ a : Nat, a < H.size → ¬ A a → H1[a]? = H[a]?) : vx_L C n d A U H1 := by
  obtain ⟨c, k, i, f, a, cell, h1, h2, h3, h4, h5, h6, h7, h8, h9, h10⟩ := h
  exact ⟨c, k, i, f, a, cell, h1, h2, h3, h4, by rw [hq a (Array.getElem?_eq_some_iff.mp h5).1 h10]; exact h5, h6, h7, h8, h9, h10⟩
theorem vx_L.narrow {C n d : String} {A B : Nat → Prop} {U : State} {H : Heap} (h : vx_L C n d A U H) (hAB : ∀ q, B q → A q) : vx_L C n d B U H := by
  obtain ⟨c, k, i, f, a, cell, h1, h2, h3, h4, h5, h6, h7, h8, h9, h10⟩ := h
  exact ⟨c, k, i, f, a, cell, h1, h2, h3, h4, h5, h6, h7, h8, h9, fun z => h10 (hAB _ z)⟩
theorem vx_L.word {C n d : String} {A : Nat → Prop} {s : State} {args : Array Value} (h : vx_L C n d A s s.heap) : (Cond.laysStatic C n d).before args s = true := by
  obtain ⟨c, k, i, f, a, cell, h1, h2, h3, h4, h5, h6, h7, h8, h9, -⟩ := h
  show (Cond.laysStatic C n d).holds args s none s [] = true
  exact Cond.laysStatic_of h1 h2 h3 h4 h5 h6 h7 h8 h9
/-- .. and what it holds: null or some reference -/
def vx_Zq (C n d : String) (A : Nat → Prop) (U : State) (H : Heap) : Prop := va_Zq C n d A U H ∧ vx_L C n d A U H
theorem vx_Zq.moved {C n d : String} {A : Nat → Prop} {u U : State} {H : Heap} (hvm : u.vm.Alike U.vm) (h : vx_Zq C n d A u H) : vx_Zq C n d A U H := ⟨va_Zq.moved hvm h.1, vx_L.moved hvm h.2⟩
theorem vx_Zq.kept {C n d : String} {A : Nat → Prop} {U : State} {H H1 : Heap} (h : vx_Zq C n d A U H) (hq : ∀ a : Nat, a < H.size → ¬ A a → H1[a]? = H[a]?) : vx_Zq C n d A U H1 := ⟨va_Zq.kept h.1 hq, vx_L.kept h.2 hq⟩
theorem vx_Zq.narrow {C n d : String} {A B : Nat → Prop} {U : State} {H : Heap} (h : vx_Zq C n d A U H) (hAB : ∀ q, B q → A q) : vx_Zq C n d B U H := ⟨va_Zq.narrow h.1 hAB, vx_L.narrow h.2 hAB⟩
theorem vx_Zqof {args : Array Value} {s : State} {C n d : String} {A : Nat → Prop} (hl : (Cond.laysStatic C n d).before args s = true) (hini : (Cond.initialized C).before args s = true) (h : (Cond.isRef (.static C n d)).before args s = true) (hA : ∀ a : Nat, a < s.heap.size → ¬ A a) : vx_Zq C n d A s s.heap := by
  refine ⟨va_Zqof hl hini h hA, ?_⟩
  obtain ⟨c, k, i, f, a, cell, h1, h2, h3, h4, h5, h6, h7, h8, h9⟩ := Cond.laysStatic_spec hl
  exact ⟨c, k, i, f, a, cell, h1, h2, h3, h4, h5, h6, h7, h8, h9, hA a (Array.getElem?_eq_some_iff.mp h5).1⟩
theorem vx_isRef {C n d : String} {v : Value} {A : Nat → Prop} {s : State} {args : Array Value} (h : va_Z C n d v A s s.heap) (hv : v.isRef = true) : (Cond.isRef (.static C n d)).before args s = true := by
  obtain ⟨cf, kf, fi, f, a, cell, h1, h2, h3, h4, h5, h6, h7, -⟩ := h
  have he : (Term.static C n d).eval args s none [] s = some v := by
    simp [Term.eval, State.fieldNamed?, h1, h2, h4, h5, h6, h7]
  simp only [Cond.before, Cond.holds, Cond.value, he]
  cases v <;> simp_all [Value.isRef]
theorem vx_isRefq {C n d : String} {A : Nat → Prop} {s : State} {args : Array Value} (h : va_Zq C n d A s s.heap) : (Cond.isRef (.static C n d)).before args s = true := by
  rcases h with h | ⟨t, h⟩
  · exact vx_isRef h rfl
  · exact vx_isRef h rfl
/-- the same frame, seen from here: as if the method were called anew in this heap -/
theorem vx_rebase {T : State} (X : Stand p l e R s m args below meth c T locs cells slots) {R' : Room} (hf : R'.frames ≤ R.frames) (hl : R'.locals ≤ R.locals) (hc : cells + R'.cells ≤ R.cells) (hs : slots + R'.slots ≤ R.slots) :
    Stand p l e R' ((T.setVm s.vm).setFrames (.invoking m args :: below)) m args below meth c T [] 0 0 := by
  have htop : (T.setVm s.vm).topJava?.isSome := X.here.top
  have hF : ((T.setVm s.vm).setFrames (.invoking m args :: below)).frames = .invoking m args :: below := State.frames_setFrames _ (State.cur_lt_of_top htop)
  obtain ⟨g₀, hg0⟩ := Option.isSome_iff_exists.mp htop
  obtain ⟨r, hr⟩ := State.topJava?_eq_some.mp hg0
  have hl9 : e.platform.stackLimits (T.setVm s.vm).me = e.platform.stackLimits s.me := X.limits
  have hb9 : (T.setVm s.vm).me.stackBytes = s.me.stackBytes := X.bytes
  refine ⟨X.admits, X.cas, X.clock, hF, ?_, X.hears, X.method, X.code, X.here, X.tail, X.warmed, ?_, ?_, ?_⟩
  · have h := X.room
    have hU : ((T.setVm s.vm).setFrames (.invoking m args :: below)).localsInUse = s.localsInUse := by
      rw [State.localsInUse_invoking hF (meth := meth) (c := c) X.method X.code, State.localsInUse_invoking X.frames X.method X.code]
    simp only [State.hasRoom, Bool.and_eq_true, decide_eq_true_eq] at h ⊢
    obtain ⟨⟨⟨⟨h1, h2, h3, h4, h5, h6⟩, h7⟩, h8⟩, h9⟩ := h
    rw [X.frames, List.length_cons] at h2 h3
    have q1 := X.heapSize
    have q2 := X.used
    simp only [hF, hU, List.length_cons, State.stackLimits_setFrames, State.stackBytes_setFrames, hl9, hb9]
    refine ⟨⟨⟨⟨by omega, by omega, by omega, by omega, by omega, h6⟩, ?_⟩, ?_⟩, X.book⟩
    · show T.heap.size + R'.cells ≤ e.platform.maxCells
      omega
    · show T.slotsUsed + R'.slots ≤ e.platform.maxSlots
      omega
  · rw [State.stackLimits_setFrames]; rfl
  · rw [State.stackBytes_setFrames]; rfl
  · refine ⟨?_, Nat.le_refl _, Nat.le_refl _, ?_, ?_, fun a c9 h9 => ⟨c9, h9, rfl, rfl, fun _ _ => rfl⟩⟩
    · obtain ⟨t, ht, -⟩ := State.frames_cons hr
      show T.setVm s.vm = { ((T.setVm s.vm).setFrames (.invoking m args :: below)).setFrames (T.setVm s.vm).frames with heap := T.heap, slotsUsed := T.slotsUsed }
      rw [State.setFrames_setFrames, State.setFrames_self ht]
      rfl
    · show T.slotsUsed = T.slotsUsed + ((T.heap.toList.drop T.heap.size).map (·.slots.size)).sum
      rw [List.drop_eq_nil_of_le (Nat.le_of_eq Array.length_toList)]
      rfl
    · show ((T.heap.toList.drop T.heap.size).map (·.slots.size)).sum ≤ 0
      rw [List.drop_eq_nil_of_le (Nat.le_of_eq Array.length_toList)]
      exact Nat.le_refl _
/-- 'throw new E()': new; dup; invokespecial; athrow -/
theorem vx_throw0 {cc : ByteArray} {pc : Nat} (hexec : p.tables.exec = Jvm.exec) (hb : c.code = cc) (hl : l.stackTraces = false) {own cls : String} {names : List String} {ik ic mc ms : Nat} {A : Nat → Prop}
    (hown : s.vm.findClass own = some m.cls) (hcls : Bundle.fit cls = true) (hnames : ∀ n ∈ names, Bundle.fit n = true)
    (hk : (Cond.classLink own ik cls).before args s = true) (hini : (Cond.initialized cls).before args s = true) (hat : ∀ w ∈ vx_at0 own ic cls names, w.before args s = true)
    (hgood : ∀ w ∈ Cond.classLink own ik cls :: Cond.initialized cls :: vx_at0 own ic cls names, vx_ot w = true)
    (hU : vx_Zq Bundle.tN "UNASSIGNED_STACK" Bundle.steD A s s.heap) (hN : vx_Zq Bundle.tN "SUPPRESSED_SENTINEL" Bundle.listD A s s.heap) (hS : va_S A s.heap H locs) (hsize : ls.size = c.maxLocals)
    (d0 : decode cc pc = .ok (.new ik, 3)) (d3 : decode cc (pc + 3) = .ok (.dup, 1)) (d4 : decode cc (pc + 4) = .ok (.invokespecial ic, 3)) (d7 : decode cc (pc + 7) = .ok (.athrow, 1))
    (hout : ∀ x ∈ c.exceptionTable.toList, covers x (pc + 7) = false)
    (hRframes : names.length + 3 < R.frames) (hRlocals : (rest.map fun v => v.category).sum + (13 * (names.length + 1) + 42) ≤ R.locals) (hRcells : cells + 1 ≤ R.cells) (hRslots : slots + 6 ≤ R.slots) (hlocks : meth.locks = false)
    (hx : ∀ t : State, s.vm.Alike t.vm → H.size ≤ t.heap.size → (∀ q : Nat, q < H.size → t.heap[q]? = H[q]?) → XC cls s t)
    (hf : ∀ z ∈ locs, free z.base) (hc : cells + 1 ≤ mc) (hs : slots + 6 ≤ ms) :
    W p l e R s m args below meth c H locs cells slots (vx_MQ below Qc XC args s mc ms free) (F0 m pc ls rest) := by
  intro T hT X
  have htr : e.platform.stackTraces = false := (show e.platform.stackTraces = l.stackTraces by rw [X.admits.platform]).trans hl
  have Y := vx_rebase X (R' := { frames := R.frames, locals := R.locals, cells := 1, slots := 6 }) (Nat.le_refl _) (Nat.le_refl _) hRcells hRslots
  obtain ⟨s', hA⟩ : ∃ z, z = (T.setVm s.vm).setFrames (.invoking m args :: below) := ⟨_, rfl⟩
  rw [← hA] at Y
  have hvm : s'.vm = s.vm := by rw [hA]; rfl
  have hhp : s'.heap = H := by rw [hA]; exact hT
  have hW0 : s.WarmedH s'.vm := by rw [hvm]; exact State.WarmedH.refl s
  have hat' : ∀ w ∈ vx_at0 own ic cls names, w.before args s' = true := fun w hw => vx_ot_at hW0 hvm.symm (hgood w (List.mem_cons_of_mem _ (List.mem_cons_of_mem _ hw))) (hat w hw)
  have hk' : (Cond.classLink own ik cls).before args s' = true := vx_ot_at hW0 hvm.symm (hgood _ List.mem_cons_self) hk
  have hini' : (Cond.initialized cls).before args s' = true := vx_ot_at hW0 hvm.symm (hgood _ (List.mem_cons_of_mem _ List.mem_cons_self)) hini
  have hU' : vx_Zq Bundle.tN "UNASSIGNED_STACK" Bundle.steD A s' s'.heap := by rw [hhp]; exact vx_Zq.moved hW0.alike (hU.kept hS.2.1)
  have hN' : vx_Zq Bundle.tN "SUPPRESSED_SENTINEL" Bundle.listD A s' s'.heap := by rw [hhp]; exact vx_Zq.moved hW0.alike (hN.kept hS.2.1)
  have h : ∀ w ∈ Bundle.ownAtoms0 own ic cls names, w.before args s' = true := vx_own hat' (vx_isRefq hU'.1) (vx_isRefq hN'.1) hU'.2.word hN'.2.word
  have hown' : s'.vm.findClass own = some m.cls := by rw [hvm]; exact hown
  have hins : (Cond.instantiable cls 6).before args s' = true := h _ (by simp [Bundle.ownAtoms0])
  obtain ⟨vm₁, cX, kX, hfX, hkX, -, -, X₁, st1⟩ := Y.newCold hexec (own := own) (C := cls) (index := ik) (n := 6) hown' hk' hins hini'
    (g := F0 m pc ls rest) rfl (by rw [hb]; exact d0) (Nat.le_refl _) (Nat.le_refl _)
  generalize hT1 : (T.setVm vm₁).pushCell { cls := cX, slots := kX.instanceTypes.map defaultValue, vm := .none } = T1 at X₁ st1
  have hcat : (Value.ref T.heap.size).category = 1 := rfl
  have hcellA : T1.heap[T.heap.size]? = some (freshCell cX kX) := by rw [← hT1]; exact State.heap_pushCell_size _ _
  have d3' : decode c.code (pc + 3) = .ok (.dup, 1) := by rw [hb]; exact d3
  obtain ⟨U, hsteps, hrun, hend, hW, hsame, ce, hce, hO⟩ := X₁.ctorThrow0 hexec htr (own := own) (cls := cls) (names := names) (ic := ic) hown' hcls hnames h (fun x hx => nomatch hx) hfX hkX hcellA (by rw [hhp, hT]; exact Nat.le_refl _)
    (g := { method := m, pc := pc + 4, locals := ls, stack := .ref T.heap.size :: .ref T.heap.size :: rest, locked := none }) rfl hsize rfl rfl (rest := rest) rfl
    (by rw [hb]; exact d4) (by rw [hb]; exact d7) hout hRframes (by simp only [List.map_cons, List.sum_cons, hcat]; omega) hlocks
  obtain ⟨f1, f2⟩ := vx_frame hsame
  rw [hhp] at f1 f2
  have hWs : s.WarmedH U.vm := State.WarmedH.trans hW0 hW
  have hcl : s.vm.findClass cls = some ce.cls := by
    have h9 := hO.cls
    rw [hvm] at h9
    exact h9
  have hall : s.sameButNew ({ U with vm := s.vm } : State) locs mc ms := by
    subst hA
    obtain ⟨e1, e2⟩ := hsame
    rw [State.setFrames_setFrames] at e1
    have h2 : (T.setVm s.vm).sameButNew ({ U with vm := s.vm } : State) [] (0 + 1) (0 + 6) := ⟨e1, e2⟩
    have h3 := X.same.trans h2
    rw [List.append_nil] at h3
    exact h3.mono hc hs
  refine ⟨U, ?_, .threw T.heap.size, hrun, hend, Or.inr ⟨T.heap.size, rfl, cls, ce, locs, hx U hWs.alike f1 (fun q hq => f2 q hq (fun z hz => nomatch hz)), hce, hO.vm, hcl, hWs, hall, hf⟩⟩
  refine st1 _ ?_
  show Steps p.tables e below (T1.setTop { method := m, pc := pc + 3, locals := ls, stack := .ref T.heap.size :: rest, locked := none }) _
  jvm_step X₁.here [X₁.here.top, hexec, d3', Value.category]
  exact hsteps
/-- 'throw new E("text")': new; dup; ldc; invokespecial; athrow -/
theorem vx_throwS {cc : ByteArray} {pc : Nat} (hexec : p.tables.exec = Jvm.exec) (hb : c.code = cc) (hl : l.stackTraces = false) {own cls text : String} {names : List String} {ik is ic mc ms sa : Nat} {A : Nat → Prop}
    (hown : s.vm.findClass own = some m.cls) (hcls : Bundle.fit cls = true) (hnames : ∀ n ∈ names, Bundle.fit n = true)
    (hk : (Cond.classLink own ik cls).before args s = true) (hini : (Cond.initialized cls).before args s = true) (hstr : vk_R own is text sa s) (hat : ∀ w ∈ vx_atS own ic cls names, w.before args s = true)
    (hgood : ∀ w ∈ Cond.classLink own ik cls :: Cond.initialized cls :: vx_atS own ic cls names, vx_ot w = true)
    (hU : vx_Zq Bundle.tN "UNASSIGNED_STACK" Bundle.steD A s s.heap) (hN : vx_Zq Bundle.tN "SUPPRESSED_SENTINEL" Bundle.listD A s s.heap) (hS : va_S A s.heap H locs) (hsize : ls.size = c.maxLocals)
    (d0 : decode cc pc = .ok (.new ik, 3)) (d3 : decode cc (pc + 3) = .ok (.dup, 1)) (d4 : decode cc (pc + 4) = .ok (.ldc is, 2)) (d6 : decode cc (pc + 6) = .ok (.invokespecial ic, 3)) (d9 : decode cc (pc + 9) = .ok (.athrow, 1))
    (hout : ∀ x ∈ c.exceptionTable.toList, covers x (pc + 9) = false)
    (hRframes : names.length + 3 < R.frames) (hRlocals : (rest.map fun v => v.category).sum + (13 * (names.length + 1) + 43) ≤ R.locals) (hRcells : cells + 1 ≤ R.cells) (hRslots : slots + 6 ≤ R.slots) (hlocks : meth.locks = false)
    (hx : ∀ t : State, s.vm.Alike t.vm → H.size ≤ t.heap.size → (∀ q : Nat, q < H.size → t.heap[q]? = H[q]?) → XC cls s t)
    (hf : ∀ z ∈ locs, free z.base) (hc : cells + 1 ≤ mc) (hs : slots + 6 ≤ ms) :
    W p l e R s m args below meth c H locs cells slots (vx_MQ below Qc XC args s mc ms free) (F0 m pc ls rest) := by
  intro T hT X
  have htr : e.platform.stackTraces = false := (show e.platform.stackTraces = l.stackTraces by rw [X.admits.platform]).trans hl
  have Y := vx_rebase X (R' := { frames := R.frames, locals := R.locals, cells := 1, slots := 6 }) (Nat.le_refl _) (Nat.le_refl _) hRcells hRslots
  obtain ⟨s', hA⟩ : ∃ z, z = (T.setVm s.vm).setFrames (.invoking m args :: below) := ⟨_, rfl⟩
  rw [← hA] at Y
  have hvm : s'.vm = s.vm := by rw [hA]; rfl
  have hhp : s'.heap = H := by rw [hA]; exact hT
  have hW0 : s.WarmedH s'.vm := by rw [hvm]; exact State.WarmedH.refl s
  have hat' : ∀ w ∈ vx_atS own ic cls names, w.before args s' = true := fun w hw => vx_ot_at hW0 hvm.symm (hgood w (List.mem_cons_of_mem _ (List.mem_cons_of_mem _ hw))) (hat w hw)
  have hk' : (Cond.classLink own ik cls).before args s' = true := vx_ot_at hW0 hvm.symm (hgood _ List.mem_cons_self) hk
  have hini' : (Cond.initialized cls).before args s' = true := vx_ot_at hW0 hvm.symm (hgood _ (List.mem_cons_of_mem _ List.mem_cons_self)) hini
  have hU' : vx_Zq Bundle.tN "UNASSIGNED_STACK" Bundle.steD A s' s'.heap := by rw [hhp]; exact vx_Zq.moved hW0.alike (hU.kept hS.2.1)
  have hN' : vx_Zq Bundle.tN "SUPPRESSED_SENTINEL" Bundle.listD A s' s'.heap := by rw [hhp]; exact vx_Zq.moved hW0.alike (hN.kept hS.2.1)
  have h : ∀ w ∈ Bundle.ownAtoms own ic cls names, w.before args s' = true := vx_own hat' (vx_isRefq hU'.1) (vx_isRefq hN'.1) hU'.2.word hN'.2.word
  have hown' : s'.vm.findClass own = some m.cls := by rw [hvm]; exact hown
  have hins : (Cond.instantiable cls 6).before args s' = true := h _ (by simp [Bundle.ownAtoms])
  obtain ⟨vm₁, cX, kX, hfX, hkX, -, -, X₁, st1⟩ := Y.newCold hexec (own := own) (C := cls) (index := ik) (n := 6) hown' hk' hins hini'
    (g := F0 m pc ls rest) rfl (by rw [hb]; exact d0) (Nat.le_refl _) (Nat.le_refl _)
  generalize hT1 : (T.setVm vm₁).pushCell { cls := cX, slots := kX.instanceTypes.map defaultValue, vm := .none } = T1 at X₁ st1
  have hcat : (Value.ref T.heap.size).category = 1 := rfl
  have hcellA : T1.heap[T.heap.size]? = some (freshCell cX kX) := by rw [← hT1]; exact State.heap_pushCell_size _ _
  have d3' : decode c.code (pc + 3) = .ok (.dup, 1) := by rw [hb]; exact d3
  have d4' : decode c.code (pc + 4) = .ok (.ldc is, 2) := by rw [hb]; exact d4
  have hstr' : vk_R own is text sa s' := vk_R.warm hW0 hstr
  obtain ⟨U, hsteps, hrun, hend, hW, hsame, ce, hce, hO⟩ := X₁.ctorThrowS hexec htr (own := own) (cls := cls) (names := names) (ic := ic) hown' hcls hnames h (fun x hx => nomatch hx) hfX hkX hcellA (by rw [hhp, hT]; exact Nat.le_refl _) (msg := .ref sa) rfl
    (g := { method := m, pc := pc + 6, locals := ls, stack := .ref sa :: .ref T.heap.size :: .ref T.heap.size :: rest, locked := none }) rfl hsize rfl rfl (rest := rest) rfl
    (by rw [hb]; exact d6) (by rw [hb]; exact d9) hout hRframes (by simp only [List.map_cons, List.sum_cons, hcat]; omega) hlocks
  obtain ⟨f1, f2⟩ := vx_frame hsame
  rw [hhp] at f1 f2
  have hWs : s.WarmedH U.vm := State.WarmedH.trans hW0 hW
  have hcl : s.vm.findClass cls = some ce.cls := by
    have h9 := hO.cls
    rw [hvm] at h9
    exact h9
  have hall : s.sameButNew ({ U with vm := s.vm } : State) locs mc ms := by
    subst hA
    obtain ⟨e1, e2⟩ := hsame
    rw [State.setFrames_setFrames] at e1
    have h2 : (T.setVm s.vm).sameButNew ({ U with vm := s.vm } : State) [] (0 + 1) (0 + 6) := ⟨e1, e2⟩
    have h3 := X.same.trans h2
    rw [List.append_nil] at h3
    exact h3.mono hc hs
  refine ⟨U, ?_, .threw T.heap.size, hrun, hend, Or.inr ⟨T.heap.size, rfl, cls, ce, locs, hx U hWs.alike f1 (fun q hq => f2 q hq (fun z hz => nomatch hz)), hce, hO.vm, hcl, hWs, hall, hf⟩⟩
  refine st1 _ ?_
  show Steps p.tables e below (T1.setTop { method := m, pc := pc + 3, locals := ls, stack := .ref T.heap.size :: rest, locked := none }) _
  jvm_step X₁.here [X₁.here.top, hexec, d3', Value.category]
  exact X₁.ldcString hexec (own := own) (text := text) (index := is) (a := sa) hown' hstr'.1 hstr'.2
    (g := { method := m, pc := pc + 4, locals := ls, stack := .ref T.heap.size :: .ref T.heap.size :: rest, locked := none }) rfl d4' _ hsteps
/-- 'throw new E("text")', the text by a wide index -/
theorem vx_throwSW {cc : ByteArray} {pc : Nat} (hexec : p.tables.exec = Jvm.exec) (hb : c.code = cc) (hl : l.stackTraces = false) {own cls text : String} {names : List String} {ik is ic mc ms sa : Nat} {A : Nat → Prop}
    (hown : s.vm.findClass own = some m.cls) (hcls : Bundle.fit cls = true) (hnames : ∀ n ∈ names, Bundle.fit n = true)
    (hk : (Cond.classLink own ik cls).before args s = true) (hini : (Cond.initialized cls).before args s = true) (hstr : vk_R own is text sa s) (hat : ∀ w ∈ vx_atS own ic cls names, w.before args s = true)
    (hgood : ∀ w ∈ Cond.classLink own ik cls :: Cond.initialized cls :: vx_atS own ic cls names, vx_ot w = true)
    (hU : vx_Zq Bundle.tN "UNASSIGNED_STACK" Bundle.steD A s s.heap) (hN : vx_Zq Bundle.tN "SUPPRESSED_SENTINEL" Bundle.listD A s s.heap) (hS : va_S A s.heap H locs) (hsize : ls.size = c.maxLocals)
    (d0 : decode cc pc = .ok (.new ik, 3)) (d3 : decode cc (pc + 3) = .ok (.dup, 1)) (d4 : decode cc (pc + 4) = .ok (.ldc_w is, 3)) (d7 : decode cc (pc + 7) = .ok (.invokespecial ic, 3)) (d10 : decode cc (pc + 10) = .ok (.athrow, 1))
    (hout : ∀ x ∈ c.exceptionTable.toList, covers x (pc + 10) = false)
    (hRframes : names.length + 3 < R.frames) (hRlocals : (rest.map fun v => v.category).sum + (13 * (names.length + 1) + 43) ≤ R.locals) (hRcells : cells + 1 ≤ R.cells) (hRslots : slots + 6 ≤ R.slots) (hlocks : meth.locks = false)
    (hx : ∀ t : State, s.vm.Alike t.vm → H.size ≤ t.heap.size → (∀ q : Nat, q < H.size → t.heap[q]? = H[q]?) → XC cls s t)
    (hf : ∀ z ∈ locs, free z.base) (hc : cells + 1 ≤ mc) (hs : slots + 6 ≤ ms) :
    W p l e R s m args below meth c H locs cells slots (vx_MQ below Qc XC args s mc ms free) (F0 m pc ls rest) := by
  intro T hT X
  have htr : e.platform.stackTraces = false := (show e.platform.stackTraces = l.stackTraces by rw [X.admits.platform]).trans hl
  have Y := vx_rebase X (R' := { frames := R.frames, locals := R.locals, cells := 1, slots := 6 }) (Nat.le_refl _) (Nat.le_refl _) hRcells hRslots
  obtain ⟨s', hA⟩ : ∃ z, z = (T.setVm s.vm).setFrames (.invoking m args :: below) := ⟨_, rfl⟩
  rw [← hA] at Y
  have hvm : s'.vm = s.vm := by rw [hA]; rfl
  have hhp : s'.heap = H := by rw [hA]; exact hT
  have hW0 : s.WarmedH s'.vm := by rw [hvm]; exact State.WarmedH.refl s
  have hat' : ∀ w ∈ vx_atS own ic cls names, w.before args s' = true := fun w hw => vx_ot_at hW0 hvm.symm (hgood w (List.mem_cons_of_mem _ (List.mem_cons_of_mem _ hw))) (hat w hw)
  have hk' : (Cond.classLink own ik cls).before args s' = true := vx_ot_at hW0 hvm.symm (hgood _ List.mem_cons_self) hk
  have hini' : (Cond.initialized cls).before args s' = true := vx_ot_at hW0 hvm.symm (hgood _ (List.mem_cons_of_mem _ List.mem_cons_self)) hini
  have hU' : vx_Zq Bundle.tN "UNASSIGNED_STACK" Bundle.steD A s' s'.heap := by rw [hhp]; exact vx_Zq.moved hW0.alike (hU.kept hS.2.1)
  have hN' : vx_Zq Bundle.tN "SUPPRESSED_SENTINEL" Bundle.listD A s' s'.heap := by rw [hhp]; exact vx_Zq.moved hW0.alike (hN.kept hS.2.1)
  have h : ∀ w ∈ Bundle.ownAtoms own ic cls names, w.before args s' = true := vx_own hat' (vx_isRefq hU'.1) (vx_isRefq hN'.1) hU'.2.word hN'.2.word
  have hown' : s'.vm.findClass own = some m.cls := by rw [hvm]; exact hown
  have hins : (Cond.instantiable cls 6).before args s' = true := h _ (by simp [Bundle.ownAtoms])
  obtain ⟨vm₁, cX, kX, hfX, hkX, -, -, X₁, st1⟩ := Y.newCold hexec (own := own) (C := cls) (index := ik) (n := 6) hown' hk' hins hini'
    (g := F0 m pc ls rest) rfl (by rw [hb]; exact d0) (Nat.le_refl _) (Nat.le_refl _)
  generalize hT1 : (T.setVm vm₁).pushCell { cls := cX, slots := kX.instanceTypes.map defaultValue, vm := .none } = T1 at X₁ st1
  have hcat : (Value.ref T.heap.size).category = 1 := rfl
  have hcellA : T1.heap[T.heap.size]? = some (freshCell cX kX) := by rw [← hT1]; exact State.heap_pushCell_size _ _
  have d3' : decode c.code (pc + 3) = .ok (.dup, 1) := by rw [hb]; exact d3
  have d4' : decode c.code (pc + 4) = .ok (.ldc_w is, 3) := by rw [hb]; exact d4
  have hstr' : vk_R own is text sa s' := vk_R.warm hW0 hstr
  obtain ⟨U, hsteps, hrun, hend, hW, hsame, ce, hce, hO⟩ := X₁.ctorThrowS hexec htr (own := own) (cls := cls) (names := names) (ic := ic) hown' hcls hnames h (fun x hx => nomatch hx) hfX hkX hcellA (by rw [hhp, hT]; exact Nat.le_refl _) (msg := .ref sa) rfl
    (g := { method := m, pc := pc + 7, locals := ls, stack := .ref sa :: .ref T.heap.size :: .ref T.heap.size :: rest, locked := none }) rfl hsize rfl rfl (rest := rest) rfl
    (by rw [hb]; exact d7) (by rw [hb]; exact d10) hout hRframes (by simp only [List.map_cons, List.sum_cons, hcat]; omega) hlocks
  obtain ⟨f1, f2⟩ := vx_frame hsame
  rw [hhp] at f1 f2
  have hWs : s.WarmedH U.vm := State.WarmedH.trans hW0 hW
  have hcl : s.vm.findClass cls = some ce.cls := by
    have h9 := hO.cls
    rw [hvm] at h9
    exact h9
  have hall : s.sameButNew ({ U with vm := s.vm } : State) locs mc ms := by
    subst hA
    obtain ⟨e1, e2⟩ := hsame
    rw [State.setFrames_setFrames] at e1
    have h2 : (T.setVm s.vm).sameButNew ({ U with vm := s.vm } : State) [] (0 + 1) (0 + 6) := ⟨e1, e2⟩
    have h3 := X.same.trans h2
    rw [List.append_nil] at h3
    exact h3.mono hc hs
  refine ⟨U, ?_, .threw T.heap.size, hrun, hend, Or.inr ⟨T.heap.size, rfl, cls, ce, locs, hx U hWs.alike f1 (fun q hq => f2 q hq (fun z hz => nomatch hz)), hce, hO.vm, hcl, hWs, hall, hf⟩⟩
  refine st1 _ ?_
  show Steps p.tables e below (T1.setTop { method := m, pc := pc + 3, locals := ls, stack := .ref T.heap.size :: rest, locked := none }) _
  jvm_step X₁.here [X₁.here.top, hexec, d3', Value.category]
  exact X₁.ldcStringW hexec (own := own) (text := text) (index := is) (a := sa) hown' hstr'.1 hstr'.2
    (g := { method := m, pc := pc + 4, locals := ls, stack := .ref T.heap.size :: .ref T.heap.size :: rest, locked := none }) rfl d4' _ hsteps
end Ends
section Bodies
variable {l : Launch}
theorem vx_ofW {y : MethodName} {ws ws' : List Cond} {rm : Room} {Pc : Array Value → State → Prop} {Qc : Array Value → State → Outcome → State → Prop} {XC : String → State → State → Prop} {mc ms : Nat} {free : Addr → Prop} {cc : ByteArray} {maxL : Nat} {ret : Option FieldType}
    (hy : plainName y.cls = true) (hw : ws = Cond.code y cc maxL ret :: ws')
    (body : ∀ p e s m args below meth c s₁, BodyLoose p l y (headSpec ws rm) cc maxL ret e s m args below meth c s₁ → c.maxLocals = maxL → (∀ x ∈ c.exceptionTable.toList, False) → Pc args s →
      W p l e (headSpec ws rm).room s m args below meth c s.heap [] 0 0 (vx_MQ below Qc XC args s mc ms free) (entryFrame m args maxL)) : vx_Met l y ws rm Pc Qc XC mc ms free := by
  refine MetFree.of_bodyS (code := cc) (maxLocals := maxL) (ret := ret) hy ?_ ?_
  · intro args s m h hn
    obtain ⟨meth, c, h1, h2, h3, h4, h5, h6, -, -⟩ := Cond.code_spec hn (atoms_spec (ws := ws) h _ (by rw [hw]; exact List.mem_cons_self))
    exact ⟨meth, c, h1, h2, h3, h4, h5, h6⟩
  · intro p e s m args below meth c s₁ B hml hP _
    have hh0 : s₁.heap = s.heap := by rw [B.state]; rfl
    have ht : ∀ x ∈ c.exceptionTable.toList, False := by
      obtain ⟨meth9, c9, h1, h2, -, -, -, -, h7, -⟩ := Cond.code_spec B.named (atoms_spec (ws := ws) B.pre _ (by rw [hw]; exact List.mem_cons_self))
      cases Option.some.inj (h1.symm.trans B.method)
      cases Option.some.inj (h2.symm.trans (Stand.of_body B).code)
      intro x hx
      rw [Array.isEmpty_iff.mp h7] at hx
      cases hx
    obtain ⟨t, a1, o, b1, b2, b3⟩ := body p e s m args below meth c s₁ B hml ht hP s₁ hh0 (Stand.of_body B)
    exact ⟨t, o, a1, b1, b2, b3⟩
/-- the table of a body with handlers -/
theorem vx_table {p : Program} {x y : MethodName} {S : Spec} {cc bytes : ByteArray} {maxL maxL' : Nat} {ret ret' : Option FieldType} {e : Env} {s s₁ : State} {m : MethodId} {args : Array Value} {below : List Frame} {meth : Method} {c : Code} {hh : List (Nat × Nat × Nat × Nat)}
    (B : BodyLoose p l y S cc maxL ret e s m args below meth c s₁) (h : (Cond.codeWith y bytes maxL' ret' hh).before args s = true) : c.exceptionTable.toList = tableOf hh := by
  obtain ⟨m9, meth9, c9, hn9, h1, h2, -, -, h6, -⟩ := Cond.codeWith_spec h
  cases Option.some.inj (hn9.symm.trans B.named)
  cases Option.some.inj (h1.symm.trans B.method)
  cases Option.some.inj (h2.symm.trans (Stand.of_body B).code)
  rw [← h6, table_eq]
end Bodies
end VXA
/-! ===== END ===== -/
/-! ===== BEGIN a static call of a method with an exception table ===== -/
section VXS
variable {p : Program} {l : Launch} {e : Env} {R : Room} {s : State} {m : MethodId} {args : Array Value} {below : List Frame} {meth : Method} {c : Code} {T : State} {H : Heap} {locs : List Loc} {cells slots : Nat}
abbrev vx_CSW (R : Room) (s : State) (args : Array Value) (own : String) (index : Nat) (y : MethodName) (bytes : ByteArray) (maxL : Nat) (ret : Option FieldType) (hh : List (Nat × Nat × Nat × Nat)) (ws : List Cond) (rm : Room) (mc ms n : Nat) : Prop :=
  (rm.cells = mc ∧ rm.slots = ms ∧ rm.frames + 1 ≤ R.frames ∧ 8 + (maxL + 11) + rm.locals ≤ R.locals ∧ (∀ w ∈ ws, ∀ (a' : Array Value) (U : State), s.WarmedH U.vm → w.before a' U = true) ∧ Cond.codeWith y bytes maxL ret hh ∈ ws) ∧
  (Cond.codeWith y bytes maxL ret hh).before args s = true ∧ (Cond.initialized y.cls).before args s = true ∧ (y.cls ≠ "java/lang/invoke/MethodHandle" ∧ y.cls ≠ "java/lang/invoke/VarHandle") ∧
  (∀ sig, parseMethodDescriptor y.desc = some sig → n = sig.parameters.length) ∧ (Cond.methodLink own index y).before args s = true ∧ (Cond.static y).before args s = true
theorem vx_cwSW {own : String} {index maxL mc ms : Nat} {y : MethodName} {bytes : ByteArray} {ret : Option FieldType} {hh : List (Nat × Nat × Nat × Nat)} {Ts ws ws' : List Cond} {rm : Room} (n : Nat) (ht : ∀ w ∈ Ts, w.before args s = true) (hT : GoodIn Ts (va_wsS own index y ws)) (hw : ws = Cond.codeWith y bytes maxL ret hh :: ws') (hrc : rm.cells = mc) (hrs : rm.slots = ms)
    (hd : y.cls ≠ "java/lang/invoke/MethodHandle" ∧ y.cls ≠ "java/lang/invoke/VarHandle" ∧ (parseMethodDescriptor y.desc).map (fun d => d.parameters.length) = some n) (hR : rm.frames + 1 ≤ R.frames ∧ 8 + (maxL + 11) + rm.locals ≤ R.locals) :
    vx_CSW R s args own index y bytes maxL ret hh ws rm mc ms n := by
  have ok : ∀ w ∈ va_wsS own index y ws, w.before args s = true := fun w h => ht w (hT w h).1
  have hG : GoodIn Ts ws := fun w h => hT w (by unfold va_wsS; exact List.mem_append_right _ h)
  have hc : Cond.codeWith y bytes maxL ret hh ∈ ws := by rw [hw]; exact List.mem_cons_self
  refine ⟨⟨hrc, hrs, hR.1, hR.2, pay_in ht hG, hc⟩, ht _ (hG _ hc).1, ok _ (by simp [va_wsS]), ⟨hd.1, hd.2.1⟩, fun sig h => ?_, ok _ (by simp [va_wsS]), ok _ (by simp [va_wsS])⟩
  have h2 := hd.2.2
  rw [h] at h2
  exact (Option.some.inj h2).symm
theorem vx_callSW (X : Stand p l e R s m args below meth c T locs cells slots) (hexec : p.tables.exec = Jvm.exec) {own : String} {index : Nat} {y : MethodName} {bytes : ByteArray} {maxL : Nat} {ret : Option FieldType} {hh : List (Nat × Nat × Nat × Nat)}
    (hown : s.vm.findClass own = some m.cls) (hlink : (Cond.methodLink own index y).before args s = true) (hstat : (Cond.static y).before args s = true) (hinit : (Cond.initialized y.cls).before args s = true)
    (hcode : (Cond.codeWith y bytes maxL ret hh).before args s = true) (hy : y.cls ≠ "java/lang/invoke/MethodHandle" ∧ y.cls ≠ "java/lang/invoke/VarHandle")
    {W9 : Nat} {Pre : Pt → Array Value → Prop} {Post : Pt → Array Value → Option Value → Pt → Prop} (hK : Back l R p e below s args y 3 W9 Pre Post)
    {g : JFrame} (hg : g.method = m) (hsize : g.locals.size = c.maxLocals) {argsL rest : List Value} (hlen : ∀ sig, parseMethodDescriptor y.desc = some sig → argsL.length = sig.parameters.length)
    (hstack : g.stack = argsL.reverse ++ rest) (hW : 2 * g.monitorRoom + (rest.map fun v => v.category).sum ≤ W9) (hdg : decode c.code g.pc = .ok (.invokestatic index, 3))
    (hpre : ∀ vm₁, s.WarmedH vm₁ → Pre ⟨T.setVm vm₁, locs, cells, slots⟩ argsL.toArray) :
    ∃ (v : Option Value) (vm₁ : Vm) (B : Pt), s.WarmedH vm₁ ∧ Stand p l e R s m args below meth c B.U B.locs B.cells B.slots ∧ Post ⟨T.setVm vm₁, locs, cells, slots⟩ argsL.toArray v B ∧
      ∀ target, Steps p.tables e below (B.U.setTop { g with pc := g.pc + 3, stack := v.toList ++ rest }) target → Steps p.tables e below (T.setTop g) target := by
  obtain ⟨mk, methM, cM, hnamed, hmethM, -, -, -, -, -, -, hsigM⟩ := Cond.codeWith_spec hcode
  have hstatic : methM.isStatic = true := Cond.static_spec hnamed hmethM hstat
  obtain ⟨kP, hkP, -⟩ := className_of_methodNamed hnamed
  have hinitP : kP.init = .initialized := Cond.initialized_spec (findClass_of_methodNamed hnamed) hkP hinit
  obtain ⟨vm₁, X₁, hstep₁⟩ := X.invokestatic hexec hown hlink hnamed hmethM hstatic hkP hinitP hy (g := g) hg (argsL := argsL) (rest := rest) (hlen _ hsigM) hstack hdg
  obtain ⟨v, B, X', hpost, hsteps⟩ := hK m meth c ⟨T.setVm vm₁, locs, cells, slots⟩ { g with stack := rest } (.invokestatic index) mk argsL.toArray X₁ hg hsize hdg hW (X₁.named hnamed) (hpre vm₁ X₁.warmed)
  exact ⟨v, vm₁, B, X₁.warmed, X', hpost, fun target h => hstep₁ _ fun acts => by rw [doInvoke_state]; exact hsteps.trans h⟩
theorem vx_runSW {y : MethodName} {bytes cc : ByteArray} {maxL nL mc ms n index : Nat} {ret : Option FieldType} {hh : List (Nat × Nat × Nat × Nat)} {ws : List Cond} {rm : Room} {Pc : Array Value → State → Prop} {Qc : Array Value → State → Outcome → State → Prop} {free : Addr → Prop} {Ts : List Cond} {own : String} {As rest : List Value} {g : JFrame}
    (S : CallFix p m c cc nL s args Ts own) (hM : Met l y ws rm Pc Qc mc ms free) (cw : vx_CSW R s args own index y bytes maxL ret hh ws rm mc ms n) (hp : PreS s H Pc As)
    (hg : g.method = m) (hn : As.length = n) (hsize : g.locals.size = nL) (hstack : g.stack = As.reverse ++ rest) (hW : 2 * g.monitorRoom + (rest.map fun v => v.category).sum ≤ 8) (hdg : decode cc g.pc = .ok (.invokestatic index, 3)) (hf : cells + mc ≤ R.cells ∧ slots + ms ≤ R.slots) :
    va_Run p l e R s m args below meth c H locs cells slots mc ms g rest (Qc As.toArray) (free) := by
  obtain ⟨⟨hrc, hrs, hfr, hlo, hws, hcw⟩, hcode, hini, hy, hlen, hl, hstt⟩ := cw
  have hK : Back l R p e below s args y 3 8 (PreOf R mc ms Pc) (PostOf Qc mc ms free) := va_backW (hh := hh) (bytes := bytes) (maxL := maxL) (ret := ret) hM hp.1 hrc hrs hfr hlo hws hcw (fun a' U hW => word_at hW (Or.inl (by first | rfl | simp [Cond.onTables, Cond.keeps, Cond.steady])) hini)
  obtain ⟨hx, hb, hml, ho, -⟩ := S
  intro T hT X
  obtain ⟨v, vm₁, ⟨U', l2, c2, s2⟩, hW₁, X', ⟨g', mk, t, L, e1, e2, hq, h1, hL, h2, h3⟩, st⟩ := vx_callSW X hx (hh := hh) (bytes := bytes) (maxL := maxL) (ret := ret) ho hl hstt hini hcode hy hK hg (hsize.trans hml.symm) (argsL := As) (rest := rest) (fun sig h => hn.trans (hlen sig h)) hstack hW (by rw [hb]; exact hdg)
    (fun vm₁ hW₁ => ⟨hf.1, hf.2, hp.2 (T.setVm vm₁) hT hW₁⟩)
  dsimp only [Pt.U, Pt.locs, Pt.cells, Pt.slots] at X' e1 e2 h1 h2 h3 st
  subst h1; subst h2; subst h3
  exact ⟨v, (T.setVm vm₁).calling g' mk As.toArray, t, U', L, hT, X', hL, e1, e2, hq, st⟩
/-- a thing of a world lies in the heap -/
theorem vx_lt {D : va_G} {cl : List vw_C} {ws : va_W} {H1 : Heap} (h : va_P D cl ws H1) {k : Nat} {q : Nat × va_E} (hk : ws[k]? = some q) : q.1 < H1.size := (h k q hk).lt
end VXS
/-! ===== END ===== -/
/-! ===== BEGIN methods with a table of their own: called by a name, returning or throwing ===== -/
section VXH
/-! vx_backW, vx_callVX, vx_callSX, vx_callVW, vx_runVW, vx_runVX, vx_runSX, vx_ofWH follow the same proofs as their sisters above (Free/Laws.lean, Shelf42/LK1.lean); vx_outP calls Shelf42/NT130.lean (outThrough). -/
section
variable {l : Launch} {R : Room} {p : Program} {e : Env} {below : List Frame} {s : State} {sargs : Array Value} {y : MethodName} {len W9 : Nat}
theorem vx_backW {ws : List Cond} {rm : Room} {Pc : Array Value → State → Prop} {Qc : Array Value → State → Outcome → State → Prop} {XC : String → State → State → Prop} {mc ms : Nat} {free : Addr → Prop} {bytes : ByteArray} {maxL : Nat} {ret : Option FieldType} {hh : List (Nat × Nat × Nat × Nat)}
    (hM : vx_Met l y ws rm Pc Qc XC mc ms free) (hblind : FrameBlind Pc) (hrc : rm.cells = mc) (hrs : rm.slots = ms)
    (hframes : rm.frames + 1 ≤ R.frames) (hlocals : W9 + (maxL + 11) + rm.locals ≤ R.locals)
    (hws : ∀ w ∈ ws, ∀ a' U, s.WarmedH U.vm → w.before a' U = true) (hcode : Cond.codeWith y bytes maxL ret hh ∈ ws) (hinit : ∀ a' U, s.WarmedH U.vm → (Cond.initialized y.cls).before a' U = true) :
    vx_Back l R p e below s sargs y len W9 (PreOf R mc ms Pc) (PostOf Qc mc ms free) (vx_Post XC mc ms free) := by
  intro m meth c A g ig mk a X hg hsize hdg hW hn hp
  have h1 : (headSpec ws rm).pre.before a A.U = true := atoms_intro fun w hw => hws w hw _ _ X.warmed
  have h2 : (Cond.codeWith y bytes maxL ret hh).before a A.U = true := hws _ hcode _ _ X.warmed
  have h3 : (Cond.initialized y.cls).before a A.U = true := hinit _ _ X.warmed
  have h4 : A.cells + (headSpec ws rm).room.cells ≤ R.cells := by rw [show (headSpec ws rm).room.cells = mc from hrc]; exact hp.1
  have h5 : A.slots + (headSpec ws rm).room.slots ≤ R.slots := by rw [show (headSpec ws rm).room.slots = ms from hrs]; exact hp.2.1
  have hPc : Pc a (A.U.calling g mk a) := hblind _ _ _ _ hp.2.2
  obtain ⟨U, Ls, c0, s0⟩ := A
  dsimp only [Pt.U, Pt.locs, Pt.cells, Pt.slots] at h1 h2 h3 h4 h5 X hn hPc ⊢
  obtain ⟨m9, methY, cY, hn9, hmY, hcY, -, hlY, -⟩ := Cond.codeWith_spec h2
  cases Option.some.inj (hn9.symm.trans hn)
  obtain ⟨kY, hkY, -⟩ := className_of_methodNamed hn
  have hinitY : kY.init = .initialized := Cond.initialized_spec (findClass_of_methodNamed hn) hkY h3
  have h : At U g.method c below := by rw [hg]; exact X.here
  have hlocals9 : W9 + (maxL + 11) + (headSpec ws rm).room.locals ≤ R.locals := hlocals
  have happ : (headSpec ws rm).appliesLoose y e.platform (U.calling g mk a) = true :=
    Spec.appliesLoose_calling (g := g) h hdg hn hkY hinitY
      (X.room_calling (g := g) (R' := (headSpec ws rm).room) hsize hmY hcY hframes (by rw [hlY]; omega) h4 h5) h1
  obtain ⟨mid, hmid⟩ := h.above
  have hfr : (U.setTop g).frames = (.java g :: mid) ++ below := by rw [State.frames_setTop' g h.top, hmid]; rfl
  obtain ⟨o, s₂, hsteps, -, hend, hq⟩ := Steps.callFree hM p X.admits X.cas X.clock (acts := []) hfr happ hPc trivial
  have hq' : vx_Q Qc XC mc ms free a (U.calling g mk a) o s₂ := hq
  rw [State.frames_setTop' g h.top] at hend
  obtain ⟨g₀, hg0⟩ := Option.isSome_iff_exists.mp h.top
  obtain ⟨r, hr⟩ := State.topJava?_eq_some.mp hg0
  have hr' : (({ U with heap := s₂.heap, slotsUsed := s₂.slotsUsed } : State).setVm s₂.vm).frames = .java g₀ :: r := hr
  rcases hq' with ⟨hqc, L, hfe, hL⟩ | ⟨q, rfl, E, ce, L, hx, hce, hcv, hcl, hW₂, hsm, hL⟩
  · obtain ⟨⟨v, rfl⟩, hW₂, e2, q2, q3, q4, q5, q6⟩ := id hfe
    have e3 : s₂ = ({ (U.calling g mk a).setFrames s₂.frames with heap := s₂.heap, slotsUsed := s₂.slotsUsed } : State).setVm s₂.vm := by
      have : s₂ = ({ s₂ with vm := (U.calling g mk a).vm } : State).setVm s₂.vm := rfl
      rw [e2] at this
      exact this
    obtain ⟨c₂, i₂, len₂, hc₂, hd₂, hf₂⟩ := hend
    have hW' : U.WarmedH s₂.vm := hW₂
    have hcc : c₂ = c := by
      have h1 : s₂.code? g.method = U.code? g.method := by
        rw [State.code?_eq, State.code?_eq, hW'.alike.method?]
      exact Option.some.inj (hc₂.symm.trans (h1.trans h.code))
    subst hcc
    have hlen : len₂ = len := by rw [hdg] at hd₂; cases hd₂; rfl
    subst hlen
    have hs₂ : s₂ = (({ U with heap := s₂.heap, slotsUsed := s₂.slotsUsed } : State).setVm s₂.vm).setTop { g with pc := g.pc + len₂, stack := v.toList ++ g.stack } := by
      refine e3.trans ?_
      rw [hf₂, State.calling_eq h.top, State.setFrames_setFrames, State.setTop_of_frames _ hr', hr]
      rfl
    have hsame : U.sameButNew ({ U with heap := s₂.heap, slotsUsed := s₂.slotsUsed } : State) L mc ms := by
      refine ⟨?_, q2, q3, q4, q5, q6⟩
      obtain ⟨t, ht, -⟩ := State.frames_cons hr
      show ({ U with heap := s₂.heap, slotsUsed := s₂.slotsUsed } : State) = { U.setFrames U.frames with heap := s₂.heap, slotsUsed := s₂.slotsUsed }
      rw [State.setFrames_self ht]
    subst hg
    refine Or.inl ⟨v, ⟨(({ U with heap := s₂.heap, slotsUsed := s₂.slotsUsed } : State).setVm s₂.vm), Ls ++ L, c0 + mc, s0 + ms⟩,
      ⟨X.admits, X.cas, X.clock, X.frames, X.room, X.hears, X.method, X.code, (X.here.setHeapUsed s₂.heap s₂.slotsUsed).setVm hW'.alike, X.tail, State.WarmedH.trans X.warmed hW', X.limits, X.bytes, X.same.trans (hsame.setVm s.vm)⟩,
      ⟨g, mk, s₂, L, rfl, rfl, hqc, rfl, hL, rfl, rfl⟩, ?_⟩
    show Steps p.tables e below _ ((({ U with heap := s₂.heap, slotsUsed := s₂.slotsUsed } : State).setVm s₂.vm).setTop { g with pc := g.pc + len₂, stack := v.toList ++ g.stack })
    rw [← hs₂]
    exact hsteps
  · obtain ⟨e2, q2, q3, q4, q5, q6⟩ := id hsm
    have e3 : s₂ = ({ (U.calling g mk a).setFrames s₂.frames with heap := s₂.heap, slotsUsed := s₂.slotsUsed } : State).setVm s₂.vm := by
      have : s₂ = ({ s₂ with vm := (U.calling g mk a).vm } : State).setVm s₂.vm := rfl
      rw [e2] at this
      exact this
    have hf₂ : s₂.frames = .throwing q :: .java g :: U.frames.tail := hend
    have hW' : U.WarmedH s₂.vm := hW₂
    have hs₂ : s₂ = ((({ U with heap := s₂.heap, slotsUsed := s₂.slotsUsed } : State).setVm s₂.vm).setTop g).pushFrame (.throwing q) := by
      refine e3.trans ?_
      rw [hf₂, State.calling_eq h.top, State.setFrames_setFrames, State.pushFrame, State.frames_setTop _ hr', State.setTop_of_frames _ hr', State.setFrames_setFrames, hr]
      rfl
    have hsame : U.sameButNew ({ U with heap := s₂.heap, slotsUsed := s₂.slotsUsed } : State) L mc ms := by
      refine ⟨?_, q2, q3, q4, q5, q6⟩
      obtain ⟨t, ht, -⟩ := State.frames_cons hr
      show ({ U with heap := s₂.heap, slotsUsed := s₂.slotsUsed } : State) = { U.setFrames U.frames with heap := s₂.heap, slotsUsed := s₂.slotsUsed }
      rw [State.setFrames_self ht]
    subst hg
    refine Or.inr ⟨q, ⟨(({ U with heap := s₂.heap, slotsUsed := s₂.slotsUsed } : State).setVm s₂.vm), Ls ++ L, c0 + mc, s0 + ms⟩,
      ⟨X.admits, X.cas, X.clock, X.frames, X.room, X.hears, X.method, X.code, (X.here.setHeapUsed s₂.heap s₂.slotsUsed).setVm hW'.alike, X.tail, State.WarmedH.trans X.warmed hW', X.limits, X.bytes, X.same.trans (hsame.setVm s.vm)⟩,
      ⟨g, mk, s₂, L, E, ce, rfl, rfl, hx, hce, hcv, hcl, rfl, hL, rfl, rfl⟩, ?_⟩
    show Steps p.tables e below _ (((({ U with heap := s₂.heap, slotsUsed := s₂.slotsUsed } : State).setVm s₂.vm).setTop g).pushFrame (.throwing q))
    rw [← hs₂]
    exact hsteps
end
variable {p : Program} {l : Launch} {e : Env} {R : Room} {s : State} {m : MethodId} {args : Array Value} {below : List Frame} {meth : Method} {c : Code} {T : State} {H : Heap} {locs : List Loc} {cells slots : Nat}
theorem vx_callVX (X : Stand p l e R s m args below meth c T locs cells slots) (hexec : p.tables.exec = Jvm.exec) {own C : String} {index : Nat} {y : MethodName} {bytes : ByteArray} {maxL : Nat} {ret : Option FieldType} {hh : List (Nat × Nat × Nat × Nat)}
    (hown : s.vm.findClass own = some m.cls) (hlink : (Cond.methodLink own index y).before args s = true) (hinst : (Cond.instanceMethod y).before args s = true) (hsel : (Cond.selects C y y).before args s = true)
    (hcode : (Cond.codeWith y bytes maxL ret hh).before args s = true) (hy : y.cls ≠ "java/lang/invoke/MethodHandle" ∧ y.cls ≠ "java/lang/invoke/VarHandle")
    {W9 : Nat} {Pre : Pt → Array Value → Prop} {Post : Pt → Array Value → Option Value → Pt → Prop} {PostX : Pt → Array Value → Addr → Pt → Prop} (hK : vx_Back l R p e below s args y 3 W9 Pre Post PostX)
    {b : Addr} {cellB : Cell} (hcell : T.heap[b]? = some cellB) (hobj : cellB.vm.isStatics = false) (hcls : s.vm.findClass C = some cellB.cls)
    {g : JFrame} (hg : g.method = m) (hsize : g.locals.size = c.maxLocals) {argsL rest : List Value} (hlen : ∀ sig, parseMethodDescriptor y.desc = some sig → argsL.length = sig.parameters.length)
    (hstack : g.stack = argsL.reverse ++ .ref b :: rest) (hW : 2 * g.monitorRoom + (rest.map fun v => v.category).sum ≤ W9) (hdg : decode c.code g.pc = .ok (.invokevirtual index, 3))
    (hpre : ∀ vm₁, s.WarmedH vm₁ → Pre ⟨T.setVm vm₁, locs, cells, slots⟩ (Value.ref b :: argsL).toArray) :
    (∃ (v : Option Value) (vm₁ : Vm) (B : Pt), s.WarmedH vm₁ ∧ Stand p l e R s m args below meth c B.U B.locs B.cells B.slots ∧ Post ⟨T.setVm vm₁, locs, cells, slots⟩ (Value.ref b :: argsL).toArray v B ∧
      ∀ target, Steps p.tables e below (B.U.setTop { g with pc := g.pc + 3, stack := v.toList ++ rest }) target → Steps p.tables e below (T.setTop g) target) ∨
    (∃ (q : Addr) (vm₁ : Vm) (B : Pt), s.WarmedH vm₁ ∧ Stand p l e R s m args below meth c B.U B.locs B.cells B.slots ∧ PostX ⟨T.setVm vm₁, locs, cells, slots⟩ (Value.ref b :: argsL).toArray q B ∧
      Steps p.tables e below (T.setTop g) ((B.U.setTop { g with stack := rest }).pushFrame (.throwing q))) := by
  obtain ⟨mk, methM, hnamed, hmethM, hstM, habM⟩ := Cond.instanceMethod_spec hinst
  obtain ⟨m8, methM', cM, hn8, hmethM', -, -, -, -, -, -, hsigM⟩ := Cond.codeWith_spec hcode
  cases Option.some.inj (hn8.symm.trans hnamed)
  cases hmethM.symm.trans hmethM'
  obtain ⟨c2, r2, m2, q1, q2, q3, q4, kP, hkP, hkPi⟩ := Cond.selects_spec hsel
  cases hcls.symm.trans q1
  cases (State.methodFound?_of_named hnamed hy).symm.trans q2
  cases hnamed.symm.trans q3
  have hselP : selectMethod e.platform s.vm cellB.cls mk = .method mk := by rw [Launch.admits_selectMethod X.admits]; exact q4
  obtain ⟨vm₁, X₁, hstep₁⟩ := X.invokevirtual hexec hown hlink hnamed hmethM hstM hkP hkPi hy (a := b) (cell := cellB) hcell
    (fun z h => by rw [h] at hobj; cases hobj) hselP hmethM habM hkP hkPi (g := g) hg (argsL := argsL) (rest := rest) (hlen _ hsigM) hstack hdg
  rcases hK m meth c ⟨T.setVm vm₁, locs, cells, slots⟩ { g with stack := rest } (.invokevirtual index) mk (Value.ref b :: argsL).toArray X₁ hg hsize hdg hW (X₁.named hnamed) (hpre vm₁ X₁.warmed) with ⟨v, B, X', hpost, hsteps⟩ | ⟨q, B, X', hpost, hsteps⟩
  · exact Or.inl ⟨v, vm₁, B, X₁.warmed, X', hpost, fun target h => hstep₁ _ fun acts => by rw [doInvoke_state]; exact hsteps.trans h⟩
  · exact Or.inr ⟨q, vm₁, B, X₁.warmed, X', hpost, hstep₁ _ fun acts => by rw [doInvoke_state]; exact hsteps⟩
theorem vx_callSX (X : Stand p l e R s m args below meth c T locs cells slots) (hexec : p.tables.exec = Jvm.exec) {own : String} {index : Nat} {y : MethodName} {bytes : ByteArray} {maxL : Nat} {ret : Option FieldType} {hh : List (Nat × Nat × Nat × Nat)}
    (hown : s.vm.findClass own = some m.cls) (hlink : (Cond.methodLink own index y).before args s = true) (hstat : (Cond.static y).before args s = true) (hinit : (Cond.initialized y.cls).before args s = true)
    (hcode : (Cond.codeWith y bytes maxL ret hh).before args s = true) (hy : y.cls ≠ "java/lang/invoke/MethodHandle" ∧ y.cls ≠ "java/lang/invoke/VarHandle")
    {W9 : Nat} {Pre : Pt → Array Value → Prop} {Post : Pt → Array Value → Option Value → Pt → Prop} {PostX : Pt → Array Value → Addr → Pt → Prop} (hK : vx_Back l R p e below s args y 3 W9 Pre Post PostX)
    {g : JFrame} (hg : g.method = m) (hsize : g.locals.size = c.maxLocals) {argsL rest : List Value} (hlen : ∀ sig, parseMethodDescriptor y.desc = some sig → argsL.length = sig.parameters.length)
    (hstack : g.stack = argsL.reverse ++ rest) (hW : 2 * g.monitorRoom + (rest.map fun v => v.category).sum ≤ W9) (hdg : decode c.code g.pc = .ok (.invokestatic index, 3))
    (hpre : ∀ vm₁, s.WarmedH vm₁ → Pre ⟨T.setVm vm₁, locs, cells, slots⟩ argsL.toArray) :
    (∃ (v : Option Value) (vm₁ : Vm) (B : Pt), s.WarmedH vm₁ ∧ Stand p l e R s m args below meth c B.U B.locs B.cells B.slots ∧ Post ⟨T.setVm vm₁, locs, cells, slots⟩ argsL.toArray v B ∧
      ∀ target, Steps p.tables e below (B.U.setTop { g with pc := g.pc + 3, stack := v.toList ++ rest }) target → Steps p.tables e below (T.setTop g) target) ∨
    (∃ (q : Addr) (vm₁ : Vm) (B : Pt), s.WarmedH vm₁ ∧ Stand p l e R s m args below meth c B.U B.locs B.cells B.slots ∧ PostX ⟨T.setVm vm₁, locs, cells, slots⟩ argsL.toArray q B ∧
      Steps p.tables e below (T.setTop g) ((B.U.setTop { g with stack := rest }).pushFrame (.throwing q))) := by
  obtain ⟨mk, methM, cM, hnamed, hmethM, -, -, -, -, -, -, hsigM⟩ := Cond.codeWith_spec hcode
  have hstatic : methM.isStatic = true := Cond.static_spec hnamed hmethM hstat
  obtain ⟨kP, hkP, -⟩ := className_of_methodNamed hnamed
  have hinitP : kP.init = .initialized := Cond.initialized_spec (findClass_of_methodNamed hnamed) hkP hinit
  obtain ⟨vm₁, X₁, hstep₁⟩ := X.invokestatic hexec hown hlink hnamed hmethM hstatic hkP hinitP hy (g := g) hg (argsL := argsL) (rest := rest) (hlen _ hsigM) hstack hdg
  rcases hK m meth c ⟨T.setVm vm₁, locs, cells, slots⟩ { g with stack := rest } (.invokestatic index) mk argsL.toArray X₁ hg hsize hdg hW (X₁.named hnamed) (hpre vm₁ X₁.warmed) with ⟨v, B, X', hpost, hsteps⟩ | ⟨q, B, X', hpost, hsteps⟩
  · exact Or.inl ⟨v, vm₁, B, X₁.warmed, X', hpost, fun target h => hstep₁ _ fun acts => by rw [doInvoke_state]; exact hsteps.trans h⟩
  · exact Or.inr ⟨q, vm₁, B, X₁.warmed, X', hpost, hstep₁ _ fun acts => by rw [doInvoke_state]; exact hsteps⟩
theorem vx_callVW (X : Stand p l e R s m args below meth c T locs cells slots) (hexec : p.tables.exec = Jvm.exec) {own C : String} {index : Nat} {y : MethodName} {bytes : ByteArray} {maxL : Nat} {ret : Option FieldType} {hh : List (Nat × Nat × Nat × Nat)}
    (hown : s.vm.findClass own = some m.cls) (hlink : (Cond.methodLink own index y).before args s = true) (hinst : (Cond.instanceMethod y).before args s = true) (hsel : (Cond.selects C y y).before args s = true)
    (hcode : (Cond.codeWith y bytes maxL ret hh).before args s = true) (hy : y.cls ≠ "java/lang/invoke/MethodHandle" ∧ y.cls ≠ "java/lang/invoke/VarHandle")
    {W9 : Nat} {Pre : Pt → Array Value → Prop} {Post : Pt → Array Value → Option Value → Pt → Prop} (hK : Back l R p e below s args y 3 W9 Pre Post)
    {b : Addr} {cellB : Cell} (hcell : T.heap[b]? = some cellB) (hobj : cellB.vm.isStatics = false) (hcls : s.vm.findClass C = some cellB.cls)
    {g : JFrame} (hg : g.method = m) (hsize : g.locals.size = c.maxLocals) {argsL rest : List Value} (hlen : ∀ sig, parseMethodDescriptor y.desc = some sig → argsL.length = sig.parameters.length)
    (hstack : g.stack = argsL.reverse ++ .ref b :: rest) (hW : 2 * g.monitorRoom + (rest.map fun v => v.category).sum ≤ W9) (hdg : decode c.code g.pc = .ok (.invokevirtual index, 3))
    (hpre : ∀ vm₁, s.WarmedH vm₁ → Pre ⟨T.setVm vm₁, locs, cells, slots⟩ (Value.ref b :: argsL).toArray) :
    ∃ (v : Option Value) (vm₁ : Vm) (B : Pt), s.WarmedH vm₁ ∧ Stand p l e R s m args below meth c B.U B.locs B.cells B.slots ∧ Post ⟨T.setVm vm₁, locs, cells, slots⟩ (Value.ref b :: argsL).toArray v B ∧
      ∀ target, Steps p.tables e below (B.U.setTop { g with pc := g.pc + 3, stack := v.toList ++ rest }) target → Steps p.tables e below (T.setTop g) target := by
  obtain ⟨mk, methM, hnamed, hmethM, hstM, habM⟩ := Cond.instanceMethod_spec hinst
  obtain ⟨m8, methM', cM, hn8, hmethM', -, -, -, -, -, -, hsigM⟩ := Cond.codeWith_spec hcode
  cases Option.some.inj (hn8.symm.trans hnamed)
  cases hmethM.symm.trans hmethM'
  obtain ⟨c2, r2, m2, q1, q2, q3, q4, kP, hkP, hkPi⟩ := Cond.selects_spec hsel
  cases hcls.symm.trans q1
  cases (State.methodFound?_of_named hnamed hy).symm.trans q2
  cases hnamed.symm.trans q3
  have hselP : selectMethod e.platform s.vm cellB.cls mk = .method mk := by rw [Launch.admits_selectMethod X.admits]; exact q4
  obtain ⟨vm₁, X₁, hstep₁⟩ := X.invokevirtual hexec hown hlink hnamed hmethM hstM hkP hkPi hy (a := b) (cell := cellB) hcell
    (fun z h => by rw [h] at hobj; cases hobj) hselP hmethM habM hkP hkPi (g := g) hg (argsL := argsL) (rest := rest) (hlen _ hsigM) hstack hdg
  obtain ⟨v, B, X', hpost, hsteps⟩ := hK m meth c ⟨T.setVm vm₁, locs, cells, slots⟩ { g with stack := rest } (.invokevirtual index) mk (Value.ref b :: argsL).toArray X₁ hg hsize hdg hW (X₁.named hnamed) (hpre vm₁ X₁.warmed)
  exact ⟨v, vm₁, B, X₁.warmed, X', hpost, fun target h => hstep₁ _ fun acts => by rw [doInvoke_state]; exact hsteps.trans h⟩
abbrev vx_CVW (R : Room) (s : State) (args : Array Value) (own C : String) (index : Nat) (y : MethodName) (bytes : ByteArray) (maxL : Nat) (ret : Option FieldType) (hh : List (Nat × Nat × Nat × Nat)) (ws : List Cond) (rm : Room) (mc ms n : Nat) : Prop :=
  (rm.cells = mc ∧ rm.slots = ms ∧ rm.frames + 1 ≤ R.frames ∧ 8 + (maxL + 11) + rm.locals ≤ R.locals ∧ (∀ w ∈ ws, ∀ (a' : Array Value) (U : State), s.WarmedH U.vm → w.before a' U = true) ∧ Cond.codeWith y bytes maxL ret hh ∈ ws) ∧
  (Cond.codeWith y bytes maxL ret hh).before args s = true ∧ (Cond.initialized y.cls).before args s = true ∧ (y.cls ≠ "java/lang/invoke/MethodHandle" ∧ y.cls ≠ "java/lang/invoke/VarHandle") ∧
  (∀ sig, parseMethodDescriptor y.desc = some sig → n = sig.parameters.length) ∧ (Cond.methodLink own index y).before args s = true ∧ (Cond.instanceMethod y).before args s = true ∧ (Cond.selects C y y).before args s = true
theorem vx_cwVW {own C : String} {index maxL mc ms : Nat} {y : MethodName} {bytes : ByteArray} {ret : Option FieldType} {hh : List (Nat × Nat × Nat × Nat)} {Ts ws ws' : List Cond} {rm : Room} (n : Nat) (ht : ∀ w ∈ Ts, w.before args s = true) (hT : GoodIn Ts (wsV own index C y ws)) (hw : ws = Cond.codeWith y bytes maxL ret hh :: ws') (hrc : rm.cells = mc) (hrs : rm.slots = ms)
    (hd : y.cls = C ∧ y.cls ≠ "java/lang/invoke/MethodHandle" ∧ y.cls ≠ "java/lang/invoke/VarHandle" ∧ (parseMethodDescriptor y.desc).map (fun d => d.parameters.length) = some n) (hR : rm.frames + 1 ≤ R.frames ∧ 8 + (maxL + 11) + rm.locals ≤ R.locals) :
    vx_CVW R s args own C index y bytes maxL ret hh ws rm mc ms n := by
  obtain ⟨hC, hd⟩ := hd
  subst hC
  have ok : ∀ w ∈ wsV own index y.cls y ws, w.before args s = true := fun w h => ht w (hT w h).1
  have hG : GoodIn Ts ws := fun w h => hT w (by unfold wsV; exact List.mem_append_right _ h)
  have hc : Cond.codeWith y bytes maxL ret hh ∈ ws := by rw [hw]; exact List.mem_cons_self
  refine ⟨⟨hrc, hrs, hR.1, hR.2, pay_in ht hG, hc⟩, ht _ (hG _ hc).1, ok _ (by simp [wsV]), ⟨hd.1, hd.2.1⟩, fun sig h => ?_, ok _ (by simp [wsV]), ok _ (by simp [wsV]), ok _ (by simp [wsV])⟩
  have h2 := hd.2.2
  rw [h] at h2
  exact (Option.some.inj h2).symm
theorem vx_runVW {y : MethodName} {bytes cc : ByteArray} {maxL nL mc ms n index : Nat} {ret : Option FieldType} {hh : List (Nat × Nat × Nat × Nat)} {ws : List Cond} {rm : Room} {Pc : Array Value → State → Prop} {Qc : Array Value → State → Outcome → State → Prop} {free : Addr → Prop} {Ts : List Cond} {own C : String} {b : Addr} {As rest : List Value} {g : JFrame}
    (S : CallFix p m c cc nL s args Ts own) (hM : Met l y ws rm Pc Qc mc ms free) (cw : vx_CVW R s args own C index y bytes maxL ret hh ws rm mc ms n) (hp : PreV s H C b Pc As)
    (hg : g.method = m) (hn : As.length = n) (hsize : g.locals.size = nL) (hstack : g.stack = As.reverse ++ .ref b :: rest) (hW : 2 * g.monitorRoom + (rest.map fun v => v.category).sum ≤ 8) (hdg : decode cc g.pc = .ok (.invokevirtual index, 3)) (hf : cells + mc ≤ R.cells ∧ slots + ms ≤ R.slots) :
    va_Run p l e R s m args below meth c H locs cells slots mc ms g rest (Qc (Value.ref b :: As).toArray) free := by
  obtain ⟨⟨hrc, hrs, hfr, hlo, hws, hcw⟩, hcode, hini, hy, hlen, hl, hin, hse⟩ := cw
  have hK : Back l R p e below s args y 3 8 (PreOf R mc ms Pc) (PostOf Qc mc ms free) := va_backW (hh := hh) (bytes := bytes) (maxL := maxL) (ret := ret) hM hp.1 hrc hrs hfr hlo hws hcw (fun a' U hW => word_at hW (Or.inl (by first | rfl | simp [Cond.onTables, Cond.keeps, Cond.steady])) hini)
  obtain ⟨hx, hb, hml, ho, -⟩ := S
  obtain ⟨-, ⟨cellB, hcB, hoB, hclB⟩, hPc⟩ := hp
  intro T hT X
  obtain ⟨v, vm₁, ⟨U', l2, c2, s2⟩, hW₁, X', ⟨g', mk, t, L, e1, e2, hq, h1, hL, h2, h3⟩, st⟩ := vx_callVW X hx (C := C) (hh := hh) (bytes := bytes) (maxL := maxL) (ret := ret) ho hl hin hse hcode hy hK (by rw [hT]; exact hcB) hoB hclB hg (hsize.trans hml.symm) (argsL := As) (rest := rest) (fun sig h => hn.trans (hlen sig h)) hstack hW (by rw [hb]; exact hdg)
    (fun vm₁ hW₁ => ⟨hf.1, hf.2, hPc (T.setVm vm₁) hT hW₁⟩)
  dsimp only [Pt.U, Pt.locs, Pt.cells, Pt.slots] at X' e1 e2 h1 h2 h3 st
  subst h1; subst h2; subst h3
  exact ⟨v, (T.setVm vm₁).calling g' mk (Value.ref b :: As).toArray, t, U', L, hT, X', hL, e1, e2, hq, st⟩
section
variable {y : MethodName} {bytes cc : ByteArray} {maxL nL mc ms n index : Nat} {ret : Option FieldType} {ws : List Cond} {rm : Room} {Pc : Array Value → State → Prop} {Qc : Array Value → State → Outcome → State → Prop} {XC : String → State → State → Prop} {free : Addr → Prop} {Ts : List Cond} {own C : String} {b : Addr} {As rest : List Value} {g : JFrame}
theorem vx_runVX {hh : List (Nat × Nat × Nat × Nat)} (S : CallFix p m c cc nL s args Ts own) (hM : vx_Met l y ws rm Pc Qc XC mc ms free) (cw : vx_CVW R s args own C index y bytes maxL ret hh ws rm mc ms n) (hp : PreV s H C b Pc As)
    (hg : g.method = m) (hn : As.length = n) (hsize : g.locals.size = nL) (hstack : g.stack = As.reverse ++ .ref b :: rest) (hW : 2 * g.monitorRoom + (rest.map fun v => v.category).sum ≤ 8) (hdg : decode cc g.pc = .ok (.invokevirtual index, 3)) (hf : cells + mc ≤ R.cells ∧ slots + ms ≤ R.slots) :
    vx_Run p l e R s m args below meth c H locs cells slots mc ms g rest (Qc (Value.ref b :: As).toArray) XC free := by
  obtain ⟨⟨hrc, hrs, hfr, hlo, hws, hcw⟩, hcode, hini, hy, hlen, hl, hin, hse⟩ := cw
  have hK : vx_Back l R p e below s args y 3 8 (PreOf R mc ms Pc) (PostOf Qc mc ms free) (vx_Post XC mc ms free) := vx_backW (hh := hh) (bytes := bytes) (maxL := maxL) (ret := ret) hM hp.1 hrc hrs hfr hlo hws hcw (fun a' U hW => word_at hW (Or.inl (by first | rfl | simp [Cond.onTables, Cond.keeps, Cond.steady])) hini)
  obtain ⟨hx, hb, hml, ho, -⟩ := S
  obtain ⟨-, ⟨cellB, hcB, hoB, hclB⟩, hPc⟩ := hp
  intro T hT X
  rcases vx_callVX X hx (C := C) (hh := hh) (bytes := bytes) (maxL := maxL) (ret := ret) ho hl hin hse hcode hy hK (by rw [hT]; exact hcB) hoB hclB hg (hsize.trans hml.symm) (argsL := As) (rest := rest) (fun sig h => hn.trans (hlen sig h)) hstack hW (by rw [hb]; exact hdg)
    (fun vm₁ hW₁ => ⟨hf.1, hf.2, hPc (T.setVm vm₁) hT hW₁⟩) with ⟨v, vm₁, ⟨U', l2, c2, s2⟩, hW₁, X', ⟨g', mk, t, L, e1, e2, hq, h1, hL, h2, h3⟩, st⟩ | ⟨q, vm₁, ⟨U', l2, c2, s2⟩, hW₁, X', ⟨g', mk, t, L, E, ce, e1, e2, hq, hce, hcv, hcl, h1, hL, h2, h3⟩, st⟩
  · dsimp only [Pt.U, Pt.locs, Pt.cells, Pt.slots] at X' e1 e2 h1 h2 h3 st
    subst h1; subst h2; subst h3
    exact Or.inl ⟨v, (T.setVm vm₁).calling g' mk (Value.ref b :: As).toArray, t, U', L, hT, X', hL, e1, e2, hq, st⟩
  · dsimp only [Pt.U, Pt.locs, Pt.cells, Pt.slots] at X' e1 e2 h1 h2 h3 st hcl
    subst h1; subst h2; subst h3
    exact Or.inr ⟨q, (T.setVm vm₁).calling g' mk (Value.ref b :: As).toArray, t, U', L, E, ce, hT, X', hL, e1, e2, hq, hce, hcv, vx_cls hW₁ hcl, st⟩
theorem vx_runSX {hh : List (Nat × Nat × Nat × Nat)} (S : CallFix p m c cc nL s args Ts own) (hM : vx_Met l y ws rm Pc Qc XC mc ms free) (cw : vx_CSW R s args own index y bytes maxL ret hh ws rm mc ms n) (hp : PreS s H Pc As)
    (hg : g.method = m) (hn : As.length = n) (hsize : g.locals.size = nL) (hstack : g.stack = As.reverse ++ rest) (hW : 2 * g.monitorRoom + (rest.map fun v => v.category).sum ≤ 8) (hdg : decode cc g.pc = .ok (.invokestatic index, 3)) (hf : cells + mc ≤ R.cells ∧ slots + ms ≤ R.slots) :
    vx_Run p l e R s m args below meth c H locs cells slots mc ms g rest (Qc As.toArray) XC free := by
  obtain ⟨⟨hrc, hrs, hfr, hlo, hws, hcw⟩, hcode, hini, hy, hlen, hl, hstt⟩ := cw
  have hK : vx_Back l R p e below s args y 3 8 (PreOf R mc ms Pc) (PostOf Qc mc ms free) (vx_Post XC mc ms free) := vx_backW (hh := hh) (bytes := bytes) (maxL := maxL) (ret := ret) hM hp.1 hrc hrs hfr hlo hws hcw (fun a' U hW => word_at hW (Or.inl (by first | rfl | simp [Cond.onTables, Cond.keeps, Cond.steady])) hini)
  obtain ⟨hx, hb, hml, ho, -⟩ := S
  intro T hT X
  rcases vx_callSX X hx (hh := hh) (bytes := bytes) (maxL := maxL) (ret := ret) ho hl hstt hini hcode hy hK hg (hsize.trans hml.symm) (argsL := As) (rest := rest) (fun sig h => hn.trans (hlen sig h)) hstack hW (by rw [hb]; exact hdg)
    (fun vm₁ hW₁ => ⟨hf.1, hf.2, hp.2 (T.setVm vm₁) hT hW₁⟩) with ⟨v, vm₁, ⟨U', l2, c2, s2⟩, hW₁, X', ⟨g', mk, t, L, e1, e2, hq, h1, hL, h2, h3⟩, st⟩ | ⟨q, vm₁, ⟨U', l2, c2, s2⟩, hW₁, X', ⟨g', mk, t, L, E, ce, e1, e2, hq, hce, hcv, hcl, h1, hL, h2, h3⟩, st⟩
  · dsimp only [Pt.U, Pt.locs, Pt.cells, Pt.slots] at X' e1 e2 h1 h2 h3 st
    subst h1; subst h2; subst h3
    exact Or.inl ⟨v, (T.setVm vm₁).calling g' mk As.toArray, t, U', L, hT, X', hL, e1, e2, hq, st⟩
  · dsimp only [Pt.U, Pt.locs, Pt.cells, Pt.slots] at X' e1 e2 h1 h2 h3 st hcl
    subst h1; subst h2; subst h3
    exact Or.inr ⟨q, (T.setVm vm₁).calling g' mk As.toArray, t, U', L, E, ce, hT, X', hL, e1, e2, hq, hce, hcv, vx_cls hW₁ hcl, st⟩
end
end VXH
theorem vx_ofWH {l : Launch} {y : MethodName} {ws ws' : List Cond} {rm : Room} {Pc : Array Value → State → Prop} {Qc : Array Value → State → Outcome → State → Prop} {XC : String → State → State → Prop} {mc ms : Nat} {free : Addr → Prop} {cc : ByteArray} {maxL : Nat} {ret : Option FieldType} {hh : List (Nat × Nat × Nat × Nat)}
    (hy : plainName y.cls = true) (hw : ws = Cond.codeWith y cc maxL ret hh :: ws')
    (body : ∀ p e s m args below meth c s₁, BodyLoose p l y (headSpec ws rm) cc maxL ret e s m args below meth c s₁ → c.maxLocals = maxL → Pc args s →
      W p l e (headSpec ws rm).room s m args below meth c s.heap [] 0 0 (vx_MQ below Qc XC args s mc ms free) (entryFrame m args maxL)) : vx_Met l y ws rm Pc Qc XC mc ms free := by
  refine MetFree.of_bodyS (code := cc) (maxLocals := maxL) (ret := ret) hy ?_ ?_
  · intro args s m h hn
    obtain ⟨m9, meth, c, hn9, h1, h2, h3, h4, -, h5, h6, -⟩ := Cond.codeWith_spec (atoms_spec (ws := ws) h _ (by rw [hw]; exact List.mem_cons_self))
    cases hn.symm.trans hn9
    exact ⟨meth, c, h1, h2, h3, h4, h5, h6⟩
  · intro p e s m args below meth c s₁ B hml hP _
    have hh0 : s₁.heap = s.heap := by rw [B.state]; rfl
    obtain ⟨t, a1, o, b1, b2, b3⟩ := body p e s m args below meth c s₁ B hml hP s₁ hh0 (Stand.of_body B)
    exact ⟨t, o, a1, b1, b2, b3⟩
/-! ===== END ===== -/
end
section
/-! THE SMALL MACHINE: the class's and the law's bytecode run over a small heap of our own (addresses from 0 on; 0 is the script); mi_ rows. Addresses of the machine proper come by mi_ad; .retAddr k stands for a thing that was there before (a text). -/
abbrev mi_E : Type := (FieldType × vp_A) ⊕ (Nat × List Value)
/-- how many cells there are, how many slots were made, the cells -/
abbrev mi_H : Type := Nat × Nat × (Nat → mi_E)
abbrev mi_L : Type := List (Nat × Value)
/-- returned, or threw a class -/
abbrev mi_O : Type := Option Value ⊕ String
def mi_ad (b : Nat → Nat) (B : Nat) : Nat → Nat
  | 0 => b 0
  | k + 1 => B + k
def mi_v (b : Nat → Nat) (B : Nat) : Value → Value
  | .ref a => .ref (mi_ad b B a)
  | .retAddr k => .ref (b (k + 1))
  | v => v
theorem mi_v_cat (b : Nat → Nat) (B : Nat) (v : Value) : (mi_v b B v).category = v.category := by cases v <;> rfl
theorem mi_cats (b : Nat → Nat) (B : Nat) (st : List Value) : ((st.map (mi_v b B)).map fun v => v.category).sum = (st.map fun v => v.category).sum := by
  rw [List.map_map]
  congr 1
  apply List.map_congr_left
  intro v _
  exact mi_v_cat b B v
def mi_lm (b : Nat → Nat) (B : Nat) (l : mi_L) : mi_L := l.map (fun q => (q.1, mi_v b B q.2))
def mi_lget (l : mi_L) (i : Nat) : Option Value := (l.find? (fun q => q.1 == i)).map (fun q => q.2)
def mi_st1 (l : mi_L) (i : Nat) (v : Value) : mi_L := (i, v) :: l.filter (fun q => !(q.1 == i) && !(q.1 + 1 == i && q.2.category == 2))
def mi_st2 (l : mi_L) (i : Nat) (v : Value) : mi_L := (i, v) :: l.filter (fun q => !(q.1 == i) && (!(q.1 == i + 1) && !(q.1 + 1 == i && q.2.category == 2)))
theorem mi_lget_mem {l : mi_L} {i : Nat} {v : Value} (h : mi_lget l i = some v) : (i, v) ∈ l := by
  unfold mi_lget at h
  cases hf : l.find? (fun q => q.1 == i) with
  | none => rw [hf] at h; cases h
  | some q =>
    rw [hf] at h
    have h1 : q.2 = v := Option.some.inj h
    have h2 := List.find?_some hf
    have h3 : q.1 = i := by simpa using h2
    have h4 := List.mem_of_find?_eq_some hf
    rw [← h1, ← h3]
    exact h4
theorem mi_lget_at {b : Nat → Nat} {B nL : Nat} {ls : Array Slot} {l : mi_L} {i : Nat} {v : Value} (hl : lv_has ls nL (mi_lm b B l)) (h : mi_lget l i = some v) : ls[i]? = some (.val (mi_v b B v)) :=
  hl.2.2 (i, mi_v b B v) (List.mem_map.mpr ⟨(i, v), mi_lget_mem h, rfl⟩)
theorem mi_lm_st1 (b : Nat → Nat) (B : Nat) (l : mi_L) (i : Nat) (v : Value) : mi_st1 (mi_lm b B l) i (mi_v b B v) = mi_lm b B (mi_st1 l i v) := by
  unfold mi_st1 mi_lm
  rw [List.map_cons, List.filter_map]
  congr 1
  congr 1
  apply List.filter_congr
  intro q _
  simp only [Function.comp, mi_v_cat]
theorem mi_lm_st2 (b : Nat → Nat) (B : Nat) (l : mi_L) (i : Nat) (v : Value) : mi_st2 (mi_lm b B l) i (mi_v b B v) = mi_lm b B (mi_st2 l i v) := by
  unfold mi_st2 mi_lm
  rw [List.map_cons, List.filter_map]
  congr 1
  congr 1
  apply List.filter_congr
  intro q _
  simp only [Function.comp, mi_v_cat]
/-- what a step that touches the stack alone makes of it -/
def mi_pure (i : Instr) (st : List Value) : Option (List Value) := match i, st with
  | .iconst n, r => some (.int (Int32.ofInt n) :: r)
  | .bipush n, r => some (.int (Int8.ofInt n).toInt32 :: r)
  | .sipush n, r => some (.int (Int16.ofInt n).toInt32 :: r)
  | .lconst n, r => some (.long (Int64.ofNat (n : Nat)) :: r)
  | .iadd, .int y :: .int x :: r => some (.int (x + y) :: r)
  | .isub, .int y :: .int x :: r => some (.int (x - y) :: r)
  | .imul, .int y :: .int x :: r => some (.int (x * y) :: r)
  | .iand, .int y :: .int x :: r => some (.int (x &&& y) :: r)
  | .ior, .int y :: .int x :: r => some (.int (x ||| y) :: r)
  | .ishl, .int y :: .int x :: r => some (.int (x <<< (y &&& 31)) :: r)
  | .ishr, .int y :: .int x :: r => some (.int (x >>> (y &&& 31)) :: r)
  | .iushr, .int y :: .int x :: r => some (.int (x.toUInt32 >>> (y.toUInt32 &&& Int32.toUInt32 31)).toInt32 :: r)
  | .idiv, .int y :: .int x :: r => if y = 0 then none else some (.int (x / y) :: r)
  | .irem, .int y :: .int x :: r => if y = 0 then none else some (.int (x - x / y * y) :: r)
  | .ineg, .int x :: r => some (.int (-x) :: r)
  | .ladd, .long y :: .long x :: r => some (.long (x + y) :: r)
  | .lsub, .long y :: .long x :: r => some (.long (x - y) :: r)
  | .lmul, .long y :: .long x :: r => some (.long (x * y) :: r)
  | .land, .long y :: .long x :: r => some (.long (x &&& y) :: r)
  | .lor, .long y :: .long x :: r => some (.long (x ||| y) :: r)
  | .lshl, .int y :: .long x :: r => some (.long (x <<< (y.toInt64 &&& 63)) :: r)
  | .lshr, .int y :: .long x :: r => some (.long (x >>> (y.toInt64 &&& 63)) :: r)
  | .i2l, .int x :: r => some (.long x.toInt64 :: r)
  | .l2i, .long x :: r => some (.int x.toInt32 :: r)
  | .lcmp, .long y :: .long x :: r => some (.int (lg_cmp x y) :: r)
  | .i2c, .int x :: r => some (.int (x.toUInt32 % 65536).toInt32 :: r)
  | .dup, v :: r => if v.category = 1 then some (v :: v :: r) else none
  | .pop, v :: r => if v.category = 1 then some r else none
  | .dup2, v :: w :: r => if v.category = 1 then (if w.category = 1 then some (v :: w :: v :: w :: r) else none) else none
  | _, _ => none
/-- how many bytes such an instruction has -/
def mi_len (i : Instr) : Nat := match i with
  | .bipush _ | .iload _ | .lload _ | .aload _ | .istore _ | .lstore _ | .astore _ | .ldc _ | .newarray _ => 2
  | .sipush _ | .iinc _ _ | .goto _ | .if_icmp _ _ | .ifCond _ _ | .getfield _ | .putfield _ | .new _ | .invokevirtual _ | .invokespecial _ | .invokestatic _ | .ldc_w _ | .ldc2_w _ => 3
  | _ => 1
section MiPure
variable {p : Program} {l : Launch} {e : Env} {R : Room} {s : State} {m : MethodId} {args : Array Value} {below : List Frame} {meth : Method} {c : Code} {H : Heap} {locs : List Loc} {cells slots : Nat} {Q : State → Prop}
variable {cc : ByteArray} {pc : Nat} {ls : Array Slot} {b : Nat → Nat} {B : Nat}
set_option maxHeartbeats 4000000 in
theorem mi_pure_ok (hx : p.tables.exec = Jvm.exec) (hb : c.code = cc) {i : Instr} {st st' : List Value} (h : mi_pure i st = some st') (hd : decode cc pc = .ok (i, mi_len i))
    (k : W p l e R s m args below meth c H locs cells slots Q (F0 m (pc + mi_len i) ls (st'.map (mi_v b B)))) : W p l e R s m args below meth c H locs cells slots Q (F0 m pc ls (st.map (mi_v b B))) := by
  unfold mi_pure at h
  split at h
  · cases h; exact lv_iconst hx hb hd rfl k
  · cases h; exact lv_bipush hx hb hd rfl k
  · cases h; exact lv_sipush hx hb hd rfl k
  · cases h; exact lv_lconst hx hb hd rfl k
  · cases h; exact lv_iadd hx hb hd k
  · cases h; exact lv_isub hx hb hd k
  · cases h; exact lv_imul hx hb hd k
  · cases h; exact lv_iand hx hb hd k
  · cases h; exact lv_ior hx hb hd k
  · cases h; exact lv_ishl hx hb hd k
  · cases h; exact lv_ishr hx hb hd k
  · cases h; exact lv_iushr hx hb hd rfl k
  · split at h
    · cases h
    · next hne => cases h; exact lv_idiv hx hb hd hne k
  · split at h
    · cases h
    · next hne => cases h; exact lv_irem hx hb hd hne k
  · cases h; exact lv_ineg hx hb hd k
  · cases h; exact lv_ladd hx hb hd k
  · cases h; exact lv_lsub hx hb hd k
  · cases h; exact lv_lmul hx hb hd k
  · cases h; exact lv_land hx hb hd k
  · cases h; exact lv_lor hx hb hd k
  · cases h; exact lv_lshl hx hb hd rfl k
  · cases h; exact lv_lshr hx hb hd rfl k
  · cases h; exact lv_i2l hx hb hd rfl k
  · cases h; exact lv_l2i hx hb hd rfl k
  · cases h; exact W.lcmp hx hb hd k
  · cases h; exact lv_i2c hx hb hd rfl k
  · split at h
    · next hc => cases h; exact lv_dup hx hb hd ((mi_v_cat b B _).trans hc) k
    · cases h
  · split at h
    · next hc => cases h; exact lv_pop hx hb hd ((mi_v_cat b B _).trans hc) k
    · cases h
  · split at h
    · next hc =>
      split at h
      · next hc2 => cases h; exact lv_dup2_11 hx hb hd ((mi_v_cat b B _).trans hc) ((mi_v_cat b B _).trans hc2) k
      · cases h
    · cases h
  · cases h
end MiPure
end
section
/-! Locals and jumps of the small machine. -/
/-- a load: 0 an int, 1 a long, 2 a reference -/
def mi_ld (k : Nat) (lv : mi_L) (i : Nat) (st : List Value) : Option (List Value) := match mi_lget lv i with
  | some (.int x) => if k = 0 then some (.int x :: st) else none
  | some (.long x) => if k = 1 then some (.long x :: st) else none
  | some (.ref a) => if k = 2 then some (.ref a :: st) else none
  | some .null => if k = 2 then some (.null :: st) else none
  | some (.retAddr t) => if k = 2 then some (.retAddr t :: st) else none
  | _ => none
def mi_sto (nL k : Nat) (lv : mi_L) (i : Nat) (st : List Value) : Option (mi_L × List Value) := match st with
  | .int x :: r => if k = 0 ∧ i < nL then some (mi_st1 lv i (.int x), r) else none
  | .long x :: r => if k = 1 ∧ i + 1 < nL then some (mi_st2 lv i (.long x), r) else none
  | .ref a :: r => if k = 2 ∧ i < nL then some (mi_st1 lv i (.ref a), r) else none
  | .null :: r => if k = 2 ∧ i < nL then some (mi_st1 lv i .null, r) else none
  | .retAddr t :: r => if k = 2 ∧ i < nL then some (mi_st1 lv i (.retAddr t), r) else none
  | _ => none
def mi_inc (nL : Nat) (lv : mi_L) (i : Nat) (n : Int) : Option mi_L := match mi_lget lv i with
  | some (.int x) => if i < nL then some (mi_st1 lv i (.int (x + Int32.ofInt n))) else none
  | _ => none
def mi_loc (nL : Nat) (i : Instr) (lv : mi_L) (st : List Value) : Option (mi_L × List Value) := match i with
  | .iload_n k => (mi_ld 0 lv (k : Nat) st).map (fun r => (lv, r))
  | .iload k => (mi_ld 0 lv k st).map (fun r => (lv, r))
  | .lload_n k => (mi_ld 1 lv (k : Nat) st).map (fun r => (lv, r))
  | .lload k => (mi_ld 1 lv k st).map (fun r => (lv, r))
  | .aload_n k => (mi_ld 2 lv (k : Nat) st).map (fun r => (lv, r))
  | .aload k => (mi_ld 2 lv k st).map (fun r => (lv, r))
  | .istore_n k => mi_sto nL 0 lv (k : Nat) st
  | .istore k => mi_sto nL 0 lv k st
  | .lstore_n k => mi_sto nL 1 lv (k : Nat) st
  | .lstore k => mi_sto nL 1 lv k st
  | .astore_n k => mi_sto nL 2 lv (k : Nat) st
  | .astore k => mi_sto nL 2 lv k st
  | .iinc k n => (mi_inc nL lv k n).map (fun r => (r, st))
  | _ => none
theorem mi_ld_i {lv : mi_L} {i : Nat} {st st' : List Value} (h : mi_ld 0 lv i st = some st') : ∃ x, mi_lget lv i = some (.int x) ∧ st' = .int x :: st := by
  unfold mi_ld at h
  split at h
  · next x hx => exact ⟨x, hx, by simpa using h.symm⟩
  all_goals simp at h
theorem mi_ld_l {lv : mi_L} {i : Nat} {st st' : List Value} (h : mi_ld 1 lv i st = some st') : ∃ x, mi_lget lv i = some (.long x) ∧ st' = .long x :: st := by
  unfold mi_ld at h
  split at h
  · simp at h
  · next x hx => exact ⟨x, hx, by simpa using h.symm⟩
  all_goals simp at h
theorem mi_ld_a {lv : mi_L} {i : Nat} {st st' : List Value} (h : mi_ld 2 lv i st = some st') : (∃ a, mi_lget lv i = some (.ref a) ∧ st' = .ref a :: st) ∨ (mi_lget lv i = some .null ∧ st' = .null :: st) ∨ (∃ t, mi_lget lv i = some (.retAddr t) ∧ st' = .retAddr t :: st) := by
  unfold mi_ld at h
  split at h
  · simp at h
  · simp at h
  · next a ha => exact Or.inl ⟨a, ha, by simpa using h.symm⟩
  · next ha => exact Or.inr (Or.inl ⟨ha, by simpa using h.symm⟩)
  · next t ha => exact Or.inr (Or.inr ⟨t, ha, by simpa using h.symm⟩)
  · simp at h
theorem mi_sto_i {nL : Nat} {lv : mi_L} {i : Nat} {st : List Value} {q : mi_L × List Value} (h : mi_sto nL 0 lv i st = some q) : ∃ x r, st = .int x :: r ∧ i < nL ∧ q = (mi_st1 lv i (.int x), r) := by
  unfold mi_sto at h
  split at h
  · next x r => split at h
                · next hc => exact ⟨x, r, rfl, hc.2, (Option.some.inj h).symm⟩
                · cases h
  all_goals simp at h
theorem mi_sto_l {nL : Nat} {lv : mi_L} {i : Nat} {st : List Value} {q : mi_L × List Value} (h : mi_sto nL 1 lv i st = some q) : ∃ x r, st = .long x :: r ∧ i + 1 < nL ∧ q = (mi_st2 lv i (.long x), r) := by
  unfold mi_sto at h
  split at h
  · simp at h
  · next x r => split at h
                · next hc => exact ⟨x, r, rfl, hc.2, (Option.some.inj h).symm⟩
                · cases h
  all_goals simp at h
theorem mi_sto_a {nL : Nat} {lv : mi_L} {i : Nat} {st : List Value} {q : mi_L × List Value} (h : mi_sto nL 2 lv i st = some q) : (∃ a r, st = .ref a :: r ∧ i < nL ∧ q = (mi_st1 lv i (.ref a), r)) ∨ (∃ r, st = .null :: r ∧ i < nL ∧ q = (mi_st1 lv i .null, r)) ∨ (∃ t r, st = .retAddr t :: r ∧ i < nL ∧ q = (mi_st1 lv i (.retAddr t), r)) := by
  unfold mi_sto at h
  split at h
  · simp at h
  · simp at h
  · next x r => split at h
                · next hc => exact Or.inl ⟨x, r, rfl, hc.2, (Option.some.inj h).symm⟩
                · cases h
  · next r => split at h
              · next hc => exact Or.inr (Or.inl ⟨r, rfl, hc.2, (Option.some.inj h).symm⟩)
              · cases h
  · next t r => split at h
                · next hc => exact Or.inr (Or.inr ⟨t, r, rfl, hc.2, (Option.some.inj h).symm⟩)
                · cases h
  · simp at h
section MiLoc
variable {p : Program} {l : Launch} {e : Env} {R : Room} {s : State} {m : MethodId} {args : Array Value} {below : List Frame} {meth : Method} {c : Code} {H : Heap} {locs : List Loc} {cells slots : Nat} {Q : State → Prop}
variable {cc : ByteArray} {pc nL : Nat} {ls : Array Slot} {b : Nat → Nat} {B : Nat}
set_option maxHeartbeats 4000000 in
theorem mi_loc_ok (hx : p.tables.exec = Jvm.exec) (hb : c.code = cc) {i : Instr} {lv lv' : mi_L} {st st' : List Value} (h : mi_loc nL i lv st = some (lv', st')) (hd : decode cc pc = .ok (i, mi_len i)) (hl : lv_has ls nL (mi_lm b B lv))
    (k : ∀ ls' : Array Slot, lv_has ls' nL (mi_lm b B lv') → W p l e R s m args below meth c H locs cells slots Q (F0 m (pc + mi_len i) ls' (st'.map (mi_v b B)))) : W p l e R s m args below meth c H locs cells slots Q (F0 m pc ls (st.map (mi_v b B))) := by
  unfold mi_loc at h
  split at h
  · obtain ⟨r, hr, e1⟩ := Option.map_eq_some_iff.mp h
    cases e1
    obtain ⟨x, hx1, rfl⟩ := mi_ld_i hr
    exact lv_iload_n hx hb hd rfl (mi_lget_at hl hx1) (k ls hl)
  · obtain ⟨r, hr, e1⟩ := Option.map_eq_some_iff.mp h
    cases e1
    obtain ⟨x, hx1, rfl⟩ := mi_ld_i hr
    exact lv_iload hx hb hd (mi_lget_at hl hx1) (k ls hl)
  · obtain ⟨r, hr, e1⟩ := Option.map_eq_some_iff.mp h
    cases e1
    obtain ⟨x, hx1, rfl⟩ := mi_ld_l hr
    exact lv_lload_n hx hb hd rfl (mi_lget_at hl hx1) (k ls hl)
  · obtain ⟨r, hr, e1⟩ := Option.map_eq_some_iff.mp h
    cases e1
    obtain ⟨x, hx1, rfl⟩ := mi_ld_l hr
    exact lv_lload hx hb hd (mi_lget_at hl hx1) (k ls hl)
  · obtain ⟨r, hr, e1⟩ := Option.map_eq_some_iff.mp h
    cases e1
    rcases mi_ld_a hr with ⟨x, hx1, rfl⟩ | ⟨hx1, rfl⟩ | ⟨x, hx1, rfl⟩
    · exact lv_aload_n hx hb hd rfl (mi_lget_at hl hx1) (k ls hl)
    · exact lv_aload_nN hx hb hd rfl (mi_lget_at hl hx1) (k ls hl)
    · exact lv_aload_n hx hb hd rfl (mi_lget_at hl hx1) (k ls hl)
  · obtain ⟨r, hr, e1⟩ := Option.map_eq_some_iff.mp h
    cases e1
    rcases mi_ld_a hr with ⟨x, hx1, rfl⟩ | ⟨hx1, rfl⟩ | ⟨x, hx1, rfl⟩
    · exact lv_aload hx hb hd (mi_lget_at hl hx1) (k ls hl)
    · exact lv_aloadN hx hb hd (mi_lget_at hl hx1) (k ls hl)
    · exact lv_aload hx hb hd (mi_lget_at hl hx1) (k ls hl)
  · obtain ⟨x, r, rfl, hn, e1⟩ := mi_sto_i h
    cases e1
    exact lv_istore_n hx hb hd rfl hl hn (mi_lm_st1 b B lv _ (.int x)) k
  · obtain ⟨x, r, rfl, hn, e1⟩ := mi_sto_i h
    cases e1
    exact lv_istore hx hb hd hl hn (mi_lm_st1 b B lv _ (.int x)) k
  · obtain ⟨x, r, rfl, hn, e1⟩ := mi_sto_l h
    cases e1
    exact lv_lstore_n hx hb hd rfl hl hn (mi_lm_st2 b B lv _ (.long x)) k
  · obtain ⟨x, r, rfl, hn, e1⟩ := mi_sto_l h
    cases e1
    exact lv_lstore hx hb hd hl hn (mi_lm_st2 b B lv _ (.long x)) k
  · rcases mi_sto_a h with ⟨x, r, rfl, hn, e1⟩ | ⟨r, rfl, hn, e1⟩ | ⟨x, r, rfl, hn, e1⟩
    · cases e1
      exact lv_astore_n hx hb hd rfl hl hn (mi_lm_st1 b B lv _ (.ref x)) k
    · cases e1
      exact lv_astore_nN hx hb hd rfl hl hn (mi_lm_st1 b B lv _ .null) k
    · cases e1
      exact lv_astore_n hx hb hd rfl hl hn (mi_lm_st1 b B lv _ (.retAddr x)) k
  · rcases mi_sto_a h with ⟨x, r, rfl, hn, e1⟩ | ⟨r, rfl, hn, e1⟩ | ⟨x, r, rfl, hn, e1⟩
    · cases e1
      exact lv_astore hx hb hd hl hn (mi_lm_st1 b B lv _ (.ref x)) k
    · cases e1
      exact lv_astoreN hx hb hd hl hn (mi_lm_st1 b B lv _ .null) k
    · cases e1
      exact lv_astore hx hb hd hl hn (mi_lm_st1 b B lv _ (.retAddr x)) k
  · obtain ⟨r, hr, e1⟩ := Option.map_eq_some_iff.mp h
    cases e1
    unfold mi_inc at hr
    split at hr
    · next x hx1 =>
      split at hr
      · next hn =>
        cases hr
        have hm : (_, Value.int x) ∈ mi_lm b B lv := List.mem_map.mpr ⟨(_, .int x), mi_lget_mem hx1, rfl⟩
        obtain ⟨k0, hk0⟩ := List.getElem?_of_mem hm
        exact lv_iinc hx hb hd hl hk0 rfl hn (mi_lm_st1 b B lv _ (.int _)) k
      · cases hr
    · cases hr
  · cases h
end MiLoc
def mi_tgt (pc : Nat) (off : Int) : Option Nat := if 0 ≤ (pc : Int) + off then some ((pc : Int) + off).toNat else none
theorem mi_tgt_ok {pc t : Nat} {off : Int} (h : mi_tgt pc off = some t) : (pc : Int) + off = (t : Int) := by
  unfold mi_tgt at h
  split at h
  · next h0 => cases h; exact (Int.toNat_of_nonneg h0).symm
  · cases h
def mi_cmp (k : ClassFile.Cond) (x y : Int32) : Bool := match k with
  | .eq => decide (x = y)
  | .ne => !decide (x = y)
  | .lt => decide (x < y)
  | .ge => decide (y ≤ x)
  | .gt => decide (y < x)
  | .le => decide (x ≤ y)
def mi_sw (i : Instr) : Bool := match i with
  | .tableswitch _ _ _ _ => true
  | .lookupswitch _ _ => true
  | _ => false
/-- what the code says at a place -/
def mi_dec (cc : ByteArray) (pc : Nat) : Option Instr := match decode cc pc with
  | .ok (i, n) => if n = mi_len i ∨ mi_sw i = true then some i else none
  | _ => none
theorem mi_dec_ok {cc : ByteArray} {pc : Nat} {i : Instr} (h : mi_dec cc pc = some i) : (mi_sw i = false → decode cc pc = .ok (i, mi_len i)) ∧ ∃ n, decode cc pc = .ok (i, n) := by
  unfold mi_dec at h
  split at h
  · next j n hd =>
    split at h
    · next hc =>
      cases h
      refine ⟨fun h0 => ?_, n, hd⟩
      rcases hc with hc | hc
      · rw [← hc]; exact hd
      · rw [h0] at hc; cases hc
    · cases h
  · cases h
def mi_jmp (i : Instr) (pc : Nat) (st : List Value) : Option (Nat × List Value) := match i, st with
  | .goto off, r => (mi_tgt pc off).map (fun t => (t, r))
  | .if_icmp k off, .int y :: .int x :: r => (mi_tgt pc off).map (fun t => (if mi_cmp k x y = true then t else pc + 3, r))
  | .ifCond k off, .int x :: r => (mi_tgt pc off).map (fun t => (if mi_cmp k x 0 = true then t else pc + 3, r))
  | .tableswitch dflt lo hi offs, .int x :: r =>
    if x.toInt < lo ∨ hi < x.toInt then (mi_tgt pc dflt).map (fun t => (t, r))
    else match offs[(x.toInt - lo).toNat]? with
      | some off => (mi_tgt pc off).map (fun t => (t, r))
      | none => none
  | .lookupswitch dflt ps, .int x :: r =>
    if (ps.toList.zip (ps.toList.drop 1)).all (fun (a, next) => a.1 < next.1) = true then (mi_tgt pc (Op.lookupswitch.offset ps.toList dflt x.toInt)).map (fun t => (t, r)) else none
  | _, _ => none
section MiJmp
variable {p : Program} {l : Launch} {e : Env} {R : Room} {s : State} {m : MethodId} {args : Array Value} {below : List Frame} {meth : Method} {c : Code} {H : Heap} {locs : List Loc} {cells slots : Nat} {Q : State → Prop}
variable {cc : ByteArray} {pc nL : Nat} {ls : Array Slot} {b : Nat → Nat} {B : Nat}
set_option maxHeartbeats 4000000 in
theorem mi_jmp_ok (hx : p.tables.exec = Jvm.exec) (hb : c.code = cc) {i : Instr} {pc' : Nat} {st st' : List Value} (h : mi_jmp i pc st = some (pc', st')) (hd : mi_dec cc pc = some i)
    (k : W p l e R s m args below meth c H locs cells slots Q (F0 m pc' ls (st'.map (mi_v b B)))) : W p l e R s m args below meth c H locs cells slots Q (F0 m pc ls (st.map (mi_v b B))) := by
  obtain ⟨hd1, n, hd2⟩ := mi_dec_ok hd
  unfold mi_jmp at h
  split at h
  · obtain ⟨t, ht, e1⟩ := Option.map_eq_some_iff.mp h
    cases e1
    exact lv_goto hx hb (hd1 rfl) (mi_tgt_ok ht) k
  · next kc off y x r =>
    obtain ⟨t, ht, e1⟩ := Option.map_eq_some_iff.mp h
    cases e1
    have ht := mi_tgt_ok ht
    have hd3 := hd1 rfl
    cases kc with
    | eq => exact lv_icmp_eq hx hb hd3 ht (fun q => by rw [if_pos (by simp [mi_cmp, q])] at k; exact k) (fun q => by rw [if_neg (by simp [mi_cmp, q])] at k; exact k)
    | ne => exact lv_icmp_ne hx hb hd3 ht (fun q => by rw [if_pos (by simp [mi_cmp, q])] at k; exact k) (fun q => by rw [if_neg (by simp [mi_cmp, q])] at k; exact k)
    | lt => exact lv_icmp_lt hx hb hd3 ht (fun q => by rw [if_pos (by simp [mi_cmp, q])] at k; exact k) (fun q => by rw [if_neg (by simp only [mi_cmp, decide_eq_true_eq]; exact q)] at k; exact k)
    | ge => exact lv_icmp_ge hx hb hd3 ht (fun q => by rw [if_pos (by simp [mi_cmp, q])] at k; exact k) (fun q => by rw [if_neg (by simp only [mi_cmp, decide_eq_true_eq]; exact q)] at k; exact k)
    | gt => exact lv_icmp_gt hx hb hd3 ht (fun q => by rw [if_pos (by simp [mi_cmp, q])] at k; exact k) (fun q => by rw [if_neg (by simp only [mi_cmp, decide_eq_true_eq]; exact q)] at k; exact k)
    | le => exact lv_icmp_le hx hb hd3 ht (fun q => by rw [if_pos (by simp [mi_cmp, q])] at k; exact k) (fun q => by rw [if_neg (by simp only [mi_cmp, decide_eq_true_eq]; exact q)] at k; exact k)
  · next kc off x r =>
    obtain ⟨t, ht, e1⟩ := Option.map_eq_some_iff.mp h
    cases e1
    have ht := mi_tgt_ok ht
    have hd3 := hd1 rfl
    cases kc with
    | eq => exact lv_if_eq hx hb hd3 ht (fun q => by rw [if_pos (by simp [mi_cmp, q])] at k; exact k) (fun q => by rw [if_neg (by simp [mi_cmp, q])] at k; exact k)
    | ne => exact lv_if_ne hx hb hd3 ht (fun q => by rw [if_pos (by simp [mi_cmp, q])] at k; exact k) (fun q => by rw [if_neg (by simp [mi_cmp, q])] at k; exact k)
    | lt => exact lv_if_lt hx hb hd3 ht (fun q => by rw [if_pos (by simp [mi_cmp, q])] at k; exact k) (fun q => by rw [if_neg (by simp only [mi_cmp, decide_eq_true_eq]; exact q)] at k; exact k)
    | ge => exact lv_if_ge hx hb hd3 ht (fun q => by rw [if_pos (by simp [mi_cmp, q])] at k; exact k) (fun q => by rw [if_neg (by simp only [mi_cmp, decide_eq_true_eq]; exact q)] at k; exact k)
    | gt => exact lv_if_gt hx hb hd3 ht (fun q => by rw [if_pos (by simp [mi_cmp, q])] at k; exact k) (fun q => by rw [if_neg (by simp only [mi_cmp, decide_eq_true_eq]; exact q)] at k; exact k)
    | le => exact lv_if_le hx hb hd3 ht (fun q => by rw [if_pos (by simp [mi_cmp, q])] at k; exact k) (fun q => by rw [if_neg (by simp only [mi_cmp, decide_eq_true_eq]; exact q)] at k; exact k)
  · split at h
    · next hc =>
      obtain ⟨t, ht, e1⟩ := Option.map_eq_some_iff.mp h
      cases e1
      exact lv_tableOut hx hb hd2 hc (mi_tgt_ok ht) k
    · next hc =>
      split at h
      · next off ho =>
        obtain ⟨t, ht, e1⟩ := Option.map_eq_some_iff.mp h
        cases e1
        exact lv_tableIn hx hb hd2 (fun q => hc (Or.inl q)) (fun q => hc (Or.inr q)) ho (mi_tgt_ok ht) k
      · cases h
  · split at h
    · next hc =>
      obtain ⟨t, ht, e1⟩ := Option.map_eq_some_iff.mp h
      cases e1
      exact lv_lookup hx hb hd2 hc rfl (mi_tgt_ok ht) k
    · cases h
  · cases h
end MiJmp
end
section
/-! The small machine's heap, and how the machine's own holds it. -/
abbrev mi_tys (tA : FieldType → ClassId) : List (ClassId × FieldType) := [(tA .int, .int), (tA .long, .long), (tA .boolean, .boolean)]
def mi_at (D : va_G) (cl : List vw_C) (tA : FieldType → ClassId) (b : Nat → Nat) (B : Nat) (a : Nat) (x : mi_E) (H : Heap) : Prop := match x with
  | .inl q => H[a]? = some (vp_cell (tA q.1) q.2)
  | .inr o => ∀ r : vw_C, cl[o.1]? = some r → t_OB a (D.1 o.1) r.2.2 (D.2 o.1) H (vp_V (o.2.map (mi_v b B)))
theorem mi_at.kept {D : va_G} {cl : List vw_C} {tA : FieldType → ClassId} {b : Nat → Nat} {B a : Nat} {x : mi_E} {H H1 : Heap} (h : mi_at D cl tA b B a x H) (hq : H1[a]? = H[a]?) : mi_at D cl tA b B a x H1 := by
  cases x with
  | inl q => exact hq.trans h
  | inr o => exact fun r hr => (h r hr).kept hq
/-- the small heap h lies in H, its cell k + 1 at B + k; H ends with it -/
def mi_R (D : va_G) (cl : List vw_C) (tA : FieldType → ClassId) (b : Nat → Nat) (B : Nat) (h : mi_H) (H : Heap) : Prop :=
  H.size + 1 = B + h.1 ∧ 1 ≤ h.1 ∧ ∀ k : Nat, k + 1 < h.1 → mi_at D cl tA b B (B + k) (h.2.2 (k + 1)) H
def mi_get (h : mi_H) (a : Nat) : Option mi_E := if a < h.1 then some (h.2.2 a) else none
def mi_set (h : mi_H) (a : Nat) (x : mi_E) : mi_H := (h.1, h.2.1, fun j => if j = a then x else h.2.2 j)
def mi_push (h : mi_H) (n : Nat) (x : mi_E) : mi_H := (h.1 + 1, h.2.1 + n, fun j => if j = h.1 then x else h.2.2 j)
theorem mi_get_ok {D : va_G} {cl : List vw_C} {tA : FieldType → ClassId} {b : Nat → Nat} {B a : Nat} {x : mi_E} {h : mi_H} {H : Heap} (hR : mi_R D cl tA b B h H) (hg : mi_get h a = some x) (ha : a ≠ 0) : mi_at D cl tA b B (mi_ad b B a) x H ∧ B ≤ mi_ad b B a := by
  cases a with
  | zero => exact absurd rfl ha
  | succ k =>
    unfold mi_get at hg
    split at hg
    · next hlt => cases hg; exact ⟨hR.2.2 k hlt, Nat.le_add_right _ _⟩
    · cases hg
theorem mi_set_ok {D : va_G} {cl : List vw_C} {tA : FieldType → ClassId} {b : Nat → Nat} {B a : Nat} {x : mi_E} {h : mi_H} {H H1 : Heap} (hR : mi_R D cl tA b B h H) (ha : a ≠ 0) (hz : H1.size = H.size) (ho : ∀ q, q ≠ mi_ad b B a → H1[q]? = H[q]?) (hx : mi_at D cl tA b B (mi_ad b B a) x H1) : mi_R D cl tA b B (mi_set h a x) H1 := by
  refine ⟨by rw [hz]; exact hR.1, hR.2.1, fun k hk => ?_⟩
  have hk : k + 1 < h.1 := hk
  show mi_at D cl tA b B (B + k) (if k + 1 = a then x else h.2.2 (k + 1)) H1
  by_cases e : k + 1 = a
  · rw [if_pos e]
    subst e
    exact hx
  · rw [if_neg e]
    refine (hR.2.2 k hk).kept (ho _ fun q => ?_)
    cases a with
    | zero => exact ha rfl
    | succ j =>
      have : B + k = B + j := q
      omega
theorem mi_push_ok {D : va_G} {cl : List vw_C} {tA : FieldType → ClassId} {b : Nat → Nat} {B n : Nat} {x : mi_E} {h : mi_H} {H H1 : Heap} (hR : mi_R D cl tA b B h H) (hz : H1.size = H.size + 1) (ho : ∀ q, q < H.size → H1[q]? = H[q]?) (hx : mi_at D cl tA b B H.size x H1) : mi_R D cl tA b B (mi_push h n x) H1 := by
  obtain ⟨h1, h2, h3⟩ := hR
  refine ⟨by show H1.size + 1 = B + (h.1 + 1); omega, by show 1 ≤ h.1 + 1; omega, fun k hk => ?_⟩
  have hk : k + 1 < h.1 + 1 := hk
  show mi_at D cl tA b B (B + k) (if k + 1 = h.1 then x else h.2.2 (k + 1)) H1
  by_cases e : k + 1 = h.1
  · rw [if_pos e]
    have : B + k = H.size := by omega
    rw [this]
    exact hx
  · rw [if_neg e]
    exact (h3 k (by omega)).kept (ho _ (by omega))
theorem mi_top {D : va_G} {cl : List vw_C} {tA : FieldType → ClassId} {b : Nat → Nat} {B : Nat} {h : mi_H} {H : Heap} (hR : mi_R D cl tA b B h H) : H.size = mi_ad b B h.1 := by
  obtain ⟨h1, h2, -⟩ := hR
  cases hk : h.1 with
  | zero => omega
  | succ k => show H.size = B + k; omega
/-- what may stand in a field -/
def mi_fit (ty : FieldType) (v : Value) : Bool := match ty, v with
  | .int, .int _ => true
  | .long, .long _ => true
  | .boolean, .int x => decide (x = 0) || decide (x = 1)
  | .object _, .ref _ => true
  | .object _, .null => true
  | .array _, .ref _ => true
  | .array _, .null => true
  | _, _ => false
theorem mi_fit_ok {ty : FieldType} {v : Value} (h : mi_fit ty v = true) (b : Nat → Nat) (B : Nat) : narrow ty (mi_v b B v) = mi_v b B v ∧ fits ty (mi_v b B v) = true := by
  unfold mi_fit at h
  split at h
  · exact ⟨rfl, rfl⟩
  · exact ⟨rfl, rfl⟩
  · next x =>
    simp only [Bool.or_eq_true, decide_eq_true_eq] at h
    rcases h with rfl | rfl
    · exact ⟨rfl, rfl⟩
    · exact ⟨rfl, rfl⟩
  · exact ⟨rfl, rfl⟩
  · exact ⟨rfl, rfl⟩
  · exact ⟨rfl, rfl⟩
  · exact ⟨rfl, rfl⟩
  · cases h
/-- what the classes' words give -/
def mi_cls (GT : List Cond) (cl : List vw_C) (fty : Nat → Nat → FieldType) : Prop :=
  ∀ (ci : Nat) (C : String) (T : u_T) (N : Nat), cl[ci]? = some (C, T, N) →
    (∀ w ∈ u_ws C T N, w ∈ GT) ∧ (∀ k, k < N → parseFieldDescriptor (T k).2.2.1 = some (fty ci k)) ∧ (∀ a, a < N → ∀ b, b < N → a ≠ b → (T a).2.1 ≠ (T b).2.1) ∧
    Cond.instantiable C N ∈ GT ∧ Cond.initialized C ∈ GT
def mi_dfs (fty : Nat → Nat → FieldType) (ci N : Nat) : List Value := (List.range N).map (fun k => defaultValue (fty ci k))
theorem mi_dv (b : Nat → Nat) (B : Nat) (ty : FieldType) : mi_v b B (defaultValue ty) = defaultValue ty := by cases ty <;> rfl
theorem mi_dfs_v (b : Nat → Nat) (B : Nat) (fty : Nat → Nat → FieldType) (ci N j : Nat) (h : j < N) : defaultValue (fty ci j) = vp_V ((mi_dfs fty ci N).map (mi_v b B)) j := by
  unfold vp_V mi_dfs
  rw [List.map_map, List.getD_eq_getElem?_getD, List.getElem?_map, List.getElem?_range h]
  exact (mi_dv b B _).symm
/-- the places of a class's file: fields (and whether the method may write one) -/
def mi_fld (GT : List Cond) (cl : List vw_C) (own : String) (ini : Bool) (fld : Nat → Option (Nat × Nat × Bool)) : Prop :=
  ∀ (ix ci k : Nat) (w : Bool), fld ix = some (ci, k, w) → ∃ (C : String) (T : u_T) (N : Nat), cl[ci]? = some (C, T, N) ∧ k < N ∧ Cond.fieldLink own ix (T k).1 (T k).2.1 (T k).2.2.1 ∈ GT ∧ (w = true → (T k).2.2.2 = false ∨ (ini = true ∧ (T k).1 = own))
section MiHeap
variable {p : Program} {l : Launch} {e : Env} {R : Room} {s : State} {m : MethodId} {args : Array Value} {below : List Frame} {meth : Method} {c : Code} {H : Heap} {locs : List Loc} {cells slots : Nat} {Q : State → Prop}
variable {cc : ByteArray} {pc : Nat} {ls : Array Slot} {b : Nat → Nat} {B : Nat} {D : va_G} {cl : List vw_C} {tA : FieldType → ClassId} {GT : List Cond} {fty : Nat → Nat → FieldType} {own : String} {h : mi_H} {rest : List Value}
theorem mi_one {a : Nat} {x : va_E} (hx : va_at D cl (a, x) H) : va_P D cl [(a, x)] H := by
  intro k q hk
  cases k with
  | zero => cases hk; exact hx
  | succ k => cases hk
set_option maxHeartbeats 1000000 in
theorem mi_getf (hx : p.tables.exec = Jvm.exec) (hb : c.code = cc) (hts : ∀ w ∈ GT, w.before args s = true) (hcl : mi_cls GT cl fty) (hown : s.vm.findClass own = some m.cls) (hK : va_K D cl (mi_tys tA) s) {ini : Bool} {fld : Nat → Option (Nat × Nat × Bool)} (hfl : mi_fld GT cl own ini fld) (hR : mi_R D cl tA b B h H)
    {ix a ci k : Nat} {w : Bool} {fs : List Value} {v : Value} (ha : a ≠ 0) (hg : mi_get h a = some (.inr (ci, fs))) (hf : fld ix = some (ci, k, w)) (hv : fs[k]? = some v) (hd : decode cc pc = .ok (.getfield ix, 3))
    (kk : W p l e R s m args below meth c H locs cells slots Q (F0 m (pc + 3) ls ((v :: rest).map (mi_v b B)))) : W p l e R s m args below meth c H locs cells slots Q (F0 m pc ls ((.ref a :: rest).map (mi_v b B))) := by
  obtain ⟨C, T, N, hc, hk, hlink, -⟩ := hfl ix ci k w hf
  obtain ⟨hat, -⟩ := mi_get_ok hR hg ha
  exact va_get (D := D) (cl := cl) (ws := [(mi_ad b B a, .inr (ci, fs.map (mi_v b B)))]) (v := mi_v b B v) hx hb hts (hcl ci C T N hc).1 hown hK (mi_one ⟨_, hc, hat _ hc⟩) 0 rfl hc k hk (hts _ hlink) (fun _ z => z) (by rw [List.getElem?_map, hv]; rfl) hd kk
set_option maxHeartbeats 2000000 in
theorem mi_putf (hx : p.tables.exec = Jvm.exec) (hb : c.code = cc) (hts : ∀ w ∈ GT, w.before args s = true) (hcl : mi_cls GT cl fty) (hown : s.vm.findClass own = some m.cls) (hK : va_K D cl (mi_tys tA) s) {ini : Bool} (hini : ini = true → meth.name = "<init>") {fld : Nat → Option (Nat × Nat × Bool)} (hfl : mi_fld GT cl own ini fld) (hR : mi_R D cl tA b B h H) (hS : va_S (fun q => B ≤ q) s.heap H locs)
    {ix a ci k : Nat} {fs : List Value} {v : Value} (ha : a ≠ 0) (hg : mi_get h a = some (.inr (ci, fs))) (hf : fld ix = some (ci, k, true)) (hl : k < fs.length) (hv : mi_fit (fty ci k) v = true) (hd : decode cc pc = .ok (.putfield ix, 3))
    (kk : ∀ (H1 : Heap) (locs1 : List Loc), mi_R D cl tA b B (mi_set h a (.inr (ci, fs.set k v))) H1 → va_S (fun q => B ≤ q) s.heap H1 locs1 → W p l e R s m args below meth c H1 locs1 cells slots Q (F0 m (pc + 3) ls (rest.map (mi_v b B)))) : W p l e R s m args below meth c H locs cells slots Q (F0 m pc ls ((v :: .ref a :: rest).map (mi_v b B))) := by
  obtain ⟨C, T, N, hc, hk, hlink, hfin⟩ := hfl ix ci k true hf
  have hfin := hfin rfl
  obtain ⟨hat, hB⟩ := mi_get_ok hR hg ha
  obtain ⟨hin, hty, hnm, -, -⟩ := hcl ci C T N hc
  obtain ⟨hn, hfit⟩ := mi_fit_ok hv b B
  have hap := va_apart (own := own) hts hin (fty ci) hty hnm hK hc
  obtain ⟨cell, q1, q2, q3, q4⟩ := hat _ hc
  obtain ⟨hSl, hfc, kC, hkC, hkind⟩ := hK.1 ci _ hc
  obtain ⟨cf, kf, fi, f, hi, hsl⟩ := hSl k hk
  have hst := (u_facts hfc hkC (u_lays hts hin hk) hi).1
  have hlay := hts _ (hin _ (u_in_lay hk))
  unfold u_lay at hlay
  have fin : ∀ H' : Heap, H'[mi_ad b B a]? = some (cell.setSlot f.slot (mi_v b B v)) → H'.size = H.size → (∀ q, q ≠ mi_ad b B a → H'[q]? = H[q]?) → W p l e R s m args below meth c H' (locs ++ [⟨mi_ad b B a, f.slot⟩]) cells slots Q (F0 m (pc + 3) ls (rest.map (mi_v b B))) := by
    intro H' e1 e2 e3
    refine kk H' _ (mi_set_ok hR ha e2 e3 ?_) (hS.put e2 e3 hB)
    intro r hr
    cases hc.symm.trans hr
    rw [hsl] at e1
    have h9 : t_OB (mi_ad b B a) (D.1 ci) N (D.2 ci) H' (updV (vp_V (fs.map (mi_v b B))) k (mi_v b B v)) := ⟨_, e1, q2, q3, t_set q4 hap hk _⟩
    refine h9.to fun j _ => ?_
    rw [vp_updV_set (by rw [List.length_map]; exact hl)]
    show vp_V ((fs.map (mi_v b B)).set k (mi_v b B v)) j = vp_V ((fs.set k v).map (mi_v b B)) j
    rw [List.map_set]
  by_cases hF : (T k).2.2.2 = true
  · rw [if_pos hF] at hlay
    obtain ⟨i1, i2⟩ : ini = true ∧ (T k).1 = own := by
      rcases hfin with z | z
      · rw [hF] at z; cases z
      · exact z
    have hcf : m.cls = cf := by
      obtain ⟨_, _, c', _, _, _, -, -, hf', -, -, -, hown2, -⟩ := Cond.laysFinal_spec hlay
      have e1 : c' = cf := by have := hi.symm.trans hf'; simp at this; exact this.1.symm
      rw [i2] at hown2
      rw [← e1]; exact Option.some.inj (hown.symm.trans hown2)
    have h6 := u_fits hfc hkC hkind (Or.inr hlay) hi (hty k hk) hn hfit
    exact W.putFinK hx hb hown (hts _ hlink) hi hst hcf (hini i1) (by rw [q2]; exact h6) q1 q3 (by rw [hsl]; exact k2_hasslot (q4 k hk)) rfl rfl hd fin
  · rw [if_neg hF] at hlay
    have h6 := u_store hfc hkC hkind hlay hi (hty k hk) hn hfit
    exact W.putK hx hb (f := f) ⟨hown, hts _ hlink, ⟨_, _, _, hi⟩, hst⟩ (by rw [q2]; exact h6) q1 q3 (by rw [hsl]; exact k2_hasslot (q4 k hk)) rfl rfl hd fin
set_option maxHeartbeats 1000000 in
theorem mi_newo (hx : p.tables.exec = Jvm.exec) (hb : c.code = cc) (hts : ∀ w ∈ GT, w.before args s = true) (hcl : mi_cls GT cl fty) (hown : s.vm.findClass own = some m.cls) (hK : va_K D cl (mi_tys tA) s) (hR : mi_R D cl tA b B h H) (hS : va_S (fun q => B ≤ q) s.heap H locs)
    {ix ci N : Nat} {C : String} {T : u_T} (hc : cl[ci]? = some (C, T, N)) (hlk : Cond.classLink own ix C ∈ GT) (hcells : cells + 1 ≤ R.cells) (hslots : slots + N ≤ R.slots) (hd : decode cc pc = .ok (.new ix, 3))
    (kk : ∀ (H1 : Heap), mi_R D cl tA b B (mi_push h N (.inr (ci, mi_dfs fty ci N))) H1 → va_S (fun q => B ≤ q) s.heap H1 locs → W p l e R s m args below meth c H1 locs (cells + 1) (slots + N) Q (F0 m (pc + 3) ls ((.ref h.1 :: rest).map (mi_v b B)))) : W p l e R s m args below meth c H locs cells slots Q (F0 m pc ls (rest.map (mi_v b B))) := by
  obtain ⟨hin, hty, hnm, hinst, hini⟩ := hcl ci C T N hc
  have hKn := hK.1 ci _ hc
  refine W.newcK hx hb hown (hts _ hlk) (hts _ hinst) (hts _ hini) rfl hd hcells hslots hKn.2.1 (mi_top hR) fun H1 kC hkC e1 z1 o1 => ?_
  rw [← mi_top hR] at e1 z1 o1
  refine kk H1 (mi_push_ok hR z1 o1 ?_) ⟨Nat.le_trans hS.1 (by omega), fun q h1 h2 => (o1 q (Nat.lt_of_lt_of_le h1 hS.1)).trans (hS.2.1 q h1 h2), hS.2.2⟩
  intro r hr
  cases hc.symm.trans hr
  exact (u_born (fty ci) hts hin hKn hkC e1 hty).to (fun j hj => mi_dfs_v b B fty ci N j hj)
end MiHeap
end
section
section MiArr
variable {p : Program} {l : Launch} {e : Env} {R : Room} {s : State} {m : MethodId} {args : Array Value} {below : List Frame} {meth : Method} {c : Code} {H : Heap} {locs : List Loc} {cells slots : Nat} {Q : State → Prop}
variable {cc : ByteArray} {pc : Nat} {ls : Array Slot} {b : Nat → Nat} {B : Nat} {D : va_G} {cl : List vw_C} {tA : FieldType → ClassId} {h : mi_H} {rest : List Value}
theorem mi_ald_i (hx : p.tables.exec = Jvm.exec) (hb : c.code = cc) (hK : va_K D cl (mi_tys tA) s) (hR : mi_R D cl tA b B h H) {a n : Nat} {f : Nat → Int32} {i : Int32} (ha : a ≠ 0) (hg : mi_get h a = some (.inl (.int, n, .inl f))) (hin : vp_in i n) (hd : decode cc pc = .ok (.iaload, 1))
    (kk : W p l e R s m args below meth c H locs cells slots Q (F0 m (pc + 1) ls ((.int (f i.toNatClampNeg) :: rest).map (mi_v b B)))) : W p l e R s m args below meth c H locs cells slots Q (F0 m pc ls ((.int i :: .ref a :: rest).map (mi_v b B))) :=
  va_iald (ws := [(mi_ad b B a, .inl (tA .int, n, .inl f))]) hx hb hK (mi_one (D := D) (cl := cl) (mi_get_ok hR hg ha).1) 0 0 rfl rfl hin hd kk
theorem mi_ald_l (hx : p.tables.exec = Jvm.exec) (hb : c.code = cc) (hK : va_K D cl (mi_tys tA) s) (hR : mi_R D cl tA b B h H) {a n : Nat} {f : Nat → Int64} {i : Int32} (ha : a ≠ 0) (hg : mi_get h a = some (.inl (.long, n, .inr (.inl f)))) (hin : vp_in i n) (hd : decode cc pc = .ok (.laload, 1))
    (kk : W p l e R s m args below meth c H locs cells slots Q (F0 m (pc + 1) ls ((.long (f i.toNatClampNeg) :: rest).map (mi_v b B)))) : W p l e R s m args below meth c H locs cells slots Q (F0 m pc ls ((.int i :: .ref a :: rest).map (mi_v b B))) :=
  va_lald (ws := [(mi_ad b B a, .inl (tA .long, n, .inr (.inl f)))]) hx hb hK (mi_one (D := D) (cl := cl) (mi_get_ok hR hg ha).1) 0 1 rfl rfl hin hd kk
theorem mi_ald_z (hx : p.tables.exec = Jvm.exec) (hb : c.code = cc) (hK : va_K D cl (mi_tys tA) s) (hR : mi_R D cl tA b B h H) {a n : Nat} {f : Nat → Int32} {i : Int32} (ha : a ≠ 0) (hg : mi_get h a = some (.inl (.boolean, n, .inl f))) (hin : vp_in i n) (hd : decode cc pc = .ok (.baload, 1))
    (kk : W p l e R s m args below meth c H locs cells slots Q (F0 m (pc + 1) ls ((.int (f i.toNatClampNeg) :: rest).map (mi_v b B)))) : W p l e R s m args below meth c H locs cells slots Q (F0 m pc ls ((.int i :: .ref a :: rest).map (mi_v b B))) :=
  va_zald (ws := [(mi_ad b B a, .inl (tA .boolean, n, .inl f))]) hx hb hK (mi_one (D := D) (cl := cl) (mi_get_ok hR hg ha).1) 0 2 rfl rfl hin hd kk
theorem mi_ald_s (hx : p.tables.exec = Jvm.exec) (hb : c.code = cc) {L : Nat} {xs : Nat → Int32} (hX : va_X (b 0) L xs s s.heap) (hbl : b 0 < s.heap.size) (hbB : b 0 < B) (hS : va_S (fun q => B ≤ q) s.heap H locs) {i : Int32} (hin : vp_in i L) (hd : decode cc pc = .ok (.iaload, 1))
    (kk : W p l e R s m args below meth c H locs cells slots Q (F0 m (pc + 1) ls ((.int (xs i.toNatClampNeg) :: rest).map (mi_v b B)))) : W p l e R s m args below meth c H locs cells slots Q (F0 m pc ls ((.int i :: .ref 0 :: rest).map (mi_v b B))) :=
  va_sld hx hb hX hbl (Nat.not_le.mpr hbB) hS hin hd kk
theorem mi_len_s (hx : p.tables.exec = Jvm.exec) (hb : c.code = cc) {L : Nat} {xs : Nat → Int32} (hX : va_X (b 0) L xs s s.heap) (hbl : b 0 < s.heap.size) (hbB : b 0 < B) (hS : va_S (fun q => B ≤ q) s.heap H locs) (hd : decode cc pc = .ok (.arraylength, 1))
    (kk : W p l e R s m args below meth c H locs cells slots Q (F0 m (pc + 1) ls ((.int (Int32.ofNat L) :: rest).map (mi_v b B)))) : W p l e R s m args below meth c H locs cells slots Q (F0 m pc ls ((.ref 0 :: rest).map (mi_v b B))) :=
  va_slen hx hb hX hbl (Nat.not_le.mpr hbB) hS hd kk
theorem mi_len_a (hx : p.tables.exec = Jvm.exec) (hb : c.code = cc) (hK : va_K D cl (mi_tys tA) s) (hR : mi_R D cl tA b B h H) {a : Nat} {ty : FieldType} {x : vp_A} (ha : a ≠ 0) (hg : mi_get h a = some (.inl (ty, x))) (hty : ty = .int ∨ ty = .long ∨ ty = .boolean) (hd : decode cc pc = .ok (.arraylength, 1))
    (kk : W p l e R s m args below meth c H locs cells slots Q (F0 m (pc + 1) ls ((.int (Int32.ofNat x.1) :: rest).map (mi_v b B)))) : W p l e R s m args below meth c H locs cells slots Q (F0 m pc ls ((.ref a :: rest).map (mi_v b B))) := by
  rcases hty with rfl | rfl | rfl
  · exact va_alen (ws := [(mi_ad b B a, .inl (tA .int, x))]) hx hb hK (mi_one (D := D) (cl := cl) (mi_get_ok hR hg ha).1) 0 0 rfl rfl rfl hd kk
  · exact va_alen (ws := [(mi_ad b B a, .inl (tA .long, x))]) hx hb hK (mi_one (D := D) (cl := cl) (mi_get_ok hR hg ha).1) 0 1 rfl rfl rfl hd kk
  · exact va_alen (ws := [(mi_ad b B a, .inl (tA .boolean, x))]) hx hb hK (mi_one (D := D) (cl := cl) (mi_get_ok hR hg ha).1) 0 2 rfl rfl rfl hd kk
theorem mi_updI (f : Nat → Int32) (k : Nat) (x : Int32) : updV (fun j => Value.int (f j)) k (.int x) = fun j => .int (upd f k x j) := by
  funext q
  by_cases hq : q = k
  · subst hq; simp [updV, upd]
  · simp [updV, upd, hq]
theorem mi_updL (f : Nat → Int64) (k : Nat) (x : Int64) : updV (fun j => Value.long (f j)) k (.long x) = fun j => .long (vp_updL f k x j) := by
  funext q
  by_cases hq : q = k
  · subst hq; simp [updV, vp_updL]
  · simp [updV, vp_updL, hq]
theorem mi_ast_i (hx : p.tables.exec = Jvm.exec) (hb : c.code = cc) (hK : va_K D cl (mi_tys tA) s) (hR : mi_R D cl tA b B h H) (hS : va_S (fun q => B ≤ q) s.heap H locs) {a n : Nat} {f : Nat → Int32} {i x : Int32} (ha : a ≠ 0) (hg : mi_get h a = some (.inl (.int, n, .inl f))) (hin : vp_in i n) (hd : decode cc pc = .ok (.iastore, 1))
    (kk : ∀ (H1 : Heap) (locs1 : List Loc), mi_R D cl tA b B (mi_set h a (.inl (.int, n, .inl (upd f i.toNatClampNeg x)))) H1 → va_S (fun q => B ≤ q) s.heap H1 locs1 → W p l e R s m args below meth c H1 locs1 cells slots Q (F0 m (pc + 1) ls (rest.map (mi_v b B)))) : W p l e R s m args below meth c H locs cells slots Q (F0 m pc ls ((.int x :: .int i :: .ref a :: rest).map (mi_v b B))) := by
  obtain ⟨hat, hB⟩ := mi_get_ok hR hg ha
  have hat : H[mi_ad b B a]? = some (arrV (tA .int) n (fun j => .int (f j))) := hat
  refine W.iast hx hb hat ((hK.2 0 _ rfl).1 n (fun j => .int (f j))) (fun q => by cases q) (by rw [arrV_size]; exact hin) rfl rfl hd fun H1 e1 z oq => ?_
  refine kk H1 _ (mi_set_ok hR ha z oq ?_) (hS.put z oq hB)
  show H1[mi_ad b B a]? = some (arrV (tA .int) n (fun j => .int (upd f i.toNatClampNeg x j)))
  rw [e1, arrV_store, mi_updI]
theorem mi_ast_l (hx : p.tables.exec = Jvm.exec) (hb : c.code = cc) (hK : va_K D cl (mi_tys tA) s) (hR : mi_R D cl tA b B h H) (hS : va_S (fun q => B ≤ q) s.heap H locs) {a n : Nat} {f : Nat → Int64} {i : Int32} {x : Int64} (ha : a ≠ 0) (hg : mi_get h a = some (.inl (.long, n, .inr (.inl f)))) (hin : vp_in i n) (hd : decode cc pc = .ok (.lastore, 1))
    (kk : ∀ (H1 : Heap) (locs1 : List Loc), mi_R D cl tA b B (mi_set h a (.inl (.long, n, .inr (.inl (vp_updL f i.toNatClampNeg x))))) H1 → va_S (fun q => B ≤ q) s.heap H1 locs1 → W p l e R s m args below meth c H1 locs1 cells slots Q (F0 m (pc + 1) ls (rest.map (mi_v b B)))) : W p l e R s m args below meth c H locs cells slots Q (F0 m pc ls ((.long x :: .int i :: .ref a :: rest).map (mi_v b B))) := by
  obtain ⟨hat, hB⟩ := mi_get_ok hR hg ha
  have hat : H[mi_ad b B a]? = some (arrV (tA .long) n (fun j => .long (f j))) := hat
  refine W.last hx hb hat ((hK.2 1 _ rfl).1 n (fun j => .long (f j))) (fun q => by cases q) (by rw [arrV_size]; exact hin) rfl rfl hd fun H1 e1 z oq => ?_
  refine kk H1 _ (mi_set_ok hR ha z oq ?_) (hS.put z oq hB)
  show H1[mi_ad b B a]? = some (arrV (tA .long) n (fun j => .long (vp_updL f i.toNatClampNeg x j)))
  rw [e1, arrV_store, mi_updL]
theorem mi_ast_z (hx : p.tables.exec = Jvm.exec) (hb : c.code = cc) (hK : va_K D cl (mi_tys tA) s) (hR : mi_R D cl tA b B h H) (hS : va_S (fun q => B ≤ q) s.heap H locs) {a n : Nat} {f : Nat → Int32} {i x : Int32} (ha : a ≠ 0) (hg : mi_get h a = some (.inl (.boolean, n, .inl f))) (hin : vp_in i n) (hz : mi_fit .boolean (.int x) = true) (hd : decode cc pc = .ok (.bastore, 1))
    (kk : ∀ (H1 : Heap) (locs1 : List Loc), mi_R D cl tA b B (mi_set h a (.inl (.boolean, n, .inl (upd f i.toNatClampNeg x)))) H1 → va_S (fun q => B ≤ q) s.heap H1 locs1 → W p l e R s m args below meth c H1 locs1 cells slots Q (F0 m (pc + 1) ls (rest.map (mi_v b B)))) : W p l e R s m args below meth c H locs cells slots Q (F0 m pc ls ((.int x :: .int i :: .ref a :: rest).map (mi_v b B))) := by
  obtain ⟨hat, hB⟩ := mi_get_ok hR hg ha
  have hat : H[mi_ad b B a]? = some (arrV (tA .boolean) n (fun j => .int (f j))) := hat
  refine W.zast hx hb hat ((hK.2 2 _ rfl).1 n (fun j => .int (f j))) (fun q => by cases q) (by rw [arrV_size]; exact hin) rfl rfl hd fun H1 e1 z oq => ?_
  refine kk H1 _ (mi_set_ok hR ha z oq ?_) (hS.put z oq hB)
  have hn : narrow .boolean (.int x) = .int x := (mi_fit_ok hz (fun _ => 0) 0).1
  show H1[mi_ad b B a]? = some (arrV (tA .boolean) n (fun j => .int (upd f i.toNatClampNeg x j)))
  rw [e1, hn, arrV_store, mi_updI]
/-- the three kinds of arrays, all zero -/
def mi_zero (t : ArrayType) (n : Nat) : Option (FieldType × vp_A) := match t with
  | .int => some (.int, n, .inl (fun _ => 0))
  | .long => some (.long, n, .inr (.inl (fun _ => 0)))
  | .boolean => some (.boolean, n, .inl (fun _ => 0))
  | _ => none
theorem mi_newa (hx : p.tables.exec = Jvm.exec) (hb : c.code = cc) {GT : List Cond} (hts : ∀ w ∈ GT, w.before args s = true) (har : Cond.arrayClass .int ∈ GT ∧ Cond.arrayClass .long ∈ GT ∧ Cond.arrayClass .boolean ∈ GT) (hK : va_K D cl (mi_tys tA) s) (hR : mi_R D cl tA b B h H) (hS : va_S (fun q => B ≤ q) s.heap H locs)
    {t : ArrayType} {n : Int32} {x : FieldType × vp_A} (hz : mi_zero t n.toNatClampNeg = some x) (hn : ¬ n < 0) (hbytes : n.toNatClampNeg * 8 ≤ 536870912) (hcells : cells + 1 ≤ R.cells) (hslots : slots + n.toNatClampNeg ≤ R.slots) (hd : decode cc pc = .ok (.newarray t, 2))
    (kk : ∀ (H1 : Heap), mi_R D cl tA b B (mi_push h n.toNatClampNeg (.inl x)) H1 → va_S (fun q => B ≤ q) s.heap H1 locs → W p l e R s m args below meth c H1 locs (cells + 1) (slots + n.toNatClampNeg) Q (F0 m (pc + 2) ls ((.ref h.1 :: rest).map (mi_v b B)))) : W p l e R s m args below meth c H locs cells slots Q (F0 m pc ls ((.int n :: rest).map (mi_v b B))) := by
  have key : ∀ (ty : FieldType) (a0 : vp_A) (k : Nat), newarray.typeOf t = ty → x = (ty, a0) → (mi_tys tA)[k]? = some (tA ty, ty) → (∀ C, ty ≠ .object C) → componentBytes ty ≤ 8 → Cond.arrayClass ty ∈ GT → (∀ cA, vp_cell cA a0 = arrV cA n.toNatClampNeg (fun _ => defaultValue ty)) → W p l e R s m args below meth c H locs cells slots Q (F0 m pc ls ((.int n :: rest).map (mi_v b B))) := by
    intro ty a0 k hty hx0 hk hno hcb hw hcell
    subst hx0
    have hRA := (hK.2 k _ hk).2
    have hRA : s.vm.findClass ("[" ++ ty.toString) = some (tA ty) := by
      cases ty with
      | object C => exact absurd rfl (hno C)
      | _ => exact hRA
    refine va_newaK hx hb (by rw [hty]; exact hts _ hw) rfl hd rfl hn rfl (by rw [hty]; exact Nat.le_trans (Nat.mul_le_mul_left _ hcb) hbytes) hcells hslots (mi_top hR) fun H1 cA e1 z1 o1 hAr hNm => ?_
    rw [hty] at hNm e1
    cases Option.some.inj (hRA.symm.trans hNm)
    rw [← mi_top hR] at e1 z1 o1
    refine kk H1 (mi_push_ok hR z1 o1 ?_) ⟨Nat.le_trans hS.1 (by omega), fun q h1 h2 => (o1 q (Nat.lt_of_lt_of_le h1 hS.1)).trans (hS.2.1 q h1 h2), hS.2.2⟩
    show H1[H.size]? = some (vp_cell (tA ty) a0)
    rw [hcell]
    exact e1
  unfold mi_zero at hz
  split at hz
  · cases hz
    exact key .int _ 0 rfl rfl rfl (fun _ q => by cases q) (by decide) har.1 (fun _ => rfl)
  · cases hz
    exact key .long _ 1 rfl rfl rfl (fun _ q => by cases q) (by decide) har.2.1 (fun _ => rfl)
  · cases hz
    exact key .boolean _ 2 rfl rfl rfl (fun _ q => by cases q) (by decide) har.2.2 (fun _ => rfl)
  · cases hz
end MiArr
end
section
/-! The small machine's program, and its steps in the heap. -/
/-- of a method: name, code, how many locals, answer, handlers -/
abbrev mi_M : Type := MethodName × ByteArray × Nat × Option FieldType × List (Nat × Nat × Nat × Nat)
/-- methods; instructions; fields, new, constants, calls (method, kind, arguments), throws, catches by their places; classes: how many fields, of what types; a method's class; what members of texts answer -/
abbrev mi_P : Type := (Nat → mi_M) × (Nat → Nat → Option Instr) × (Nat → Nat → Option (Nat × Nat × Bool)) × (Nat → Nat → Option Nat) × (Nat → Nat → Option Value) × (Nat → Nat → Option (Nat × Nat × Nat)) × (Nat → Nat → Option String) × (Nat → Nat → String → Option Nat) × (Nat → Nat) × (Nat → Nat → FieldType) × (Nat → Nat) × (Nat → List Value → Option Value)
def mi_nm (P : mi_P) (j : Nat) : MethodName := (P.1 j).1
def mi_cd (P : mi_P) (j : Nat) : ByteArray := (P.1 j).2.1
def mi_mx (P : mi_P) (j : Nat) : Nat := (P.1 j).2.2.1
def mi_rt (P : mi_P) (j : Nat) : Option FieldType := (P.1 j).2.2.2.1
def mi_hh (P : mi_P) (j : Nat) : List (Nat × Nat × Nat × Nat) := (P.1 j).2.2.2.2
def mi_is (P : mi_P) : Nat → Nat → Option Instr := P.2.1
def mi_fl (P : mi_P) : Nat → Nat → Option (Nat × Nat × Bool) := P.2.2.1
def mi_nw (P : mi_P) : Nat → Nat → Option Nat := P.2.2.2.1
def mi_cs (P : mi_P) : Nat → Nat → Option Value := P.2.2.2.2.1
def mi_iv (P : mi_P) : Nat → Nat → Option (Nat × Nat × Nat) := P.2.2.2.2.2.1
def mi_th (P : mi_P) : Nat → Nat → Option String := P.2.2.2.2.2.2.1
def mi_ca (P : mi_P) : Nat → Nat → String → Option Nat := P.2.2.2.2.2.2.2.1
def mi_nf (P : mi_P) : Nat → Nat := P.2.2.2.2.2.2.2.2.1
def mi_ft (P : mi_P) : Nat → Nat → FieldType := P.2.2.2.2.2.2.2.2.2.1
def mi_kc (P : mi_P) : Nat → Nat := P.2.2.2.2.2.2.2.2.2.2.1
def mi_pr (P : mi_P) : Nat → List Value → Option Value := P.2.2.2.2.2.2.2.2.2.2.2
def mi_get_f (P : mi_P) (j ix a : Nat) (h : mi_H) : Option Value := match mi_get h a, mi_fl P j ix with
  | some (.inr (ci, fs)), some (cj, k, _) => if a ≠ 0 ∧ ci = cj then fs[k]? else none
  | _, _ => none
def mi_put_f (P : mi_P) (j ix a : Nat) (v : Value) (h : mi_H) : Option mi_H := match mi_get h a, mi_fl P j ix with
  | some (.inr (ci, fs)), some (cj, k, w) => if w = true ∧ a ≠ 0 ∧ ci = cj ∧ k < fs.length ∧ mi_fit (mi_ft P ci k) v = true then some (mi_set h a (.inr (ci, fs.set k v))) else none
  | _, _ => none
def mi_ld_i4 (L : Nat) (xs : Nat → Int32) (a : Nat) (x : Int32) (h : mi_H) : Option Value :=
  if a = 0 then (if x < 0 ∨ L ≤ x.toNatClampNeg then none else some (.int (xs x.toNatClampNeg))) else match mi_get h a with
  | some (.inl (.int, n, .inl f)) => if x < 0 ∨ n ≤ x.toNatClampNeg then none else some (.int (f x.toNatClampNeg))
  | _ => none
def mi_ld_i8 (a : Nat) (x : Int32) (h : mi_H) : Option Value := match mi_get h a with
  | some (.inl (.long, n, .inr (.inl f))) => if a = 0 ∨ x < 0 ∨ n ≤ x.toNatClampNeg then none else some (.long (f x.toNatClampNeg))
  | _ => none
def mi_ld_i1 (a : Nat) (x : Int32) (h : mi_H) : Option Value := match mi_get h a with
  | some (.inl (.boolean, n, .inl f)) => if a = 0 ∨ x < 0 ∨ n ≤ x.toNatClampNeg then none else some (.int (f x.toNatClampNeg))
  | _ => none
def mi_as_i4 (a : Nat) (x v : Int32) (h : mi_H) : Option mi_H := match mi_get h a with
  | some (.inl (.int, n, .inl f)) => if a = 0 ∨ x < 0 ∨ n ≤ x.toNatClampNeg then none else some (mi_set h a (.inl (.int, n, .inl (upd f x.toNatClampNeg v))))
  | _ => none
def mi_as_i8 (a : Nat) (x : Int32) (v : Int64) (h : mi_H) : Option mi_H := match mi_get h a with
  | some (.inl (.long, n, .inr (.inl f))) => if a = 0 ∨ x < 0 ∨ n ≤ x.toNatClampNeg then none else some (mi_set h a (.inl (.long, n, .inr (.inl (vp_updL f x.toNatClampNeg v)))))
  | _ => none
def mi_as_i1 (a : Nat) (x v : Int32) (h : mi_H) : Option mi_H := match mi_get h a with
  | some (.inl (.boolean, n, .inl f)) => if a = 0 ∨ x < 0 ∨ n ≤ x.toNatClampNeg then none else if mi_fit .boolean (.int v) = true then some (mi_set h a (.inl (.boolean, n, .inl (upd f x.toNatClampNeg v)))) else none
  | _ => none
def mi_alen (L a : Nat) (h : mi_H) : Option Value := if a = 0 then some (.int (Int32.ofNat L)) else match mi_get h a with
  | some (.inl (.int, x)) => some (.int (Int32.ofNat x.1))
  | some (.inl (.long, x)) => some (.int (Int32.ofNat x.1))
  | some (.inl (.boolean, x)) => some (.int (Int32.ofNat x.1))
  | _ => none
def mi_heap (P : mi_P) (L : Nat) (xs : Nat → Int32) (j : Nat) (i : Instr) (st : List Value) (h : mi_H) : Option (List Value × mi_H) := match i, st with
  | .getfield ix, .ref a :: r => (mi_get_f P j ix a h).map (fun v => (v :: r, h))
  | .putfield ix, v :: .ref a :: r => (mi_put_f P j ix a v h).map (fun g => (r, g))
  | .iaload, .int x :: .ref a :: r => (mi_ld_i4 L xs a x h).map (fun v => (v :: r, h))
  | .laload, .int x :: .ref a :: r => (mi_ld_i8 a x h).map (fun v => (v :: r, h))
  | .baload, .int x :: .ref a :: r => (mi_ld_i1 a x h).map (fun v => (v :: r, h))
  | .iastore, .int v :: .int x :: .ref a :: r => (mi_as_i4 a x v h).map (fun g => (r, g))
  | .lastore, .long v :: .int x :: .ref a :: r => (mi_as_i8 a x v h).map (fun g => (r, g))
  | .bastore, .int v :: .int x :: .ref a :: r => (mi_as_i1 a x v h).map (fun g => (r, g))
  | .arraylength, .ref a :: r => (mi_alen L a h).map (fun v => (v :: r, h))
  | .newarray t, .int n :: r => if n < 0 ∨ 536870912 < n.toNatClampNeg * 8 then none else (mi_zero t n.toNatClampNeg).map (fun x => (.ref h.1 :: r, mi_push h n.toNatClampNeg (.inl x)))
  | .new ix, r => (mi_nw P j ix).map (fun ci => (.ref h.1 :: r, mi_push h (mi_nf P ci) (.inr (ci, mi_dfs (mi_ft P) ci (mi_nf P ci)))))
  | .ldc ix, r => match mi_cs P j ix with
    | some (.int x) => some (.int x :: r, h)
    | some (.retAddr t) => some (.retAddr t :: r, h)
    | _ => none
  | .ldc_w ix, r => match mi_cs P j ix with
    | some (.int x) => some (.int x :: r, h)
    | _ => none
  | .ldc2_w ix, r => match mi_cs P j ix with
    | some (.long x) => some (.long x :: r, h)
    | _ => none
  | _, _ => none
/-- the places of a method's class file, by words of GT -/
def mi_plc (GT : List Cond) (cl : List vw_C) (P : mi_P) (j : Nat) : Prop :=
  mi_fld GT cl (mi_nm P j).cls (decide ((mi_nm P j).name = "<init>")) (mi_fl P j) ∧
  (∀ ix ci, mi_nw P j ix = some ci → ∃ (C : String) (T : u_T), cl[ci]? = some (C, T, mi_nf P ci) ∧ Cond.classLink (mi_nm P j).cls ix C ∈ GT) ∧
  (∀ ix x, mi_cs P j ix = some (.int x) → Cond.constant (mi_nm P j).cls ix x ∈ GT) ∧
  (∀ ix x, mi_cs P j ix = some (.long x) → Cond.constantLong (mi_nm P j).cls ix x ∈ GT)
section MiStep
variable {p : Program} {l : Launch} {e : Env} {R : Room} {s : State} {m : MethodId} {args : Array Value} {below : List Frame} {meth : Method} {c : Code} {H : Heap} {locs : List Loc} {cells slots : Nat} {Q : State → Prop}
variable {cc : ByteArray} {pc : Nat} {ls : Array Slot} {b : Nat → Nat} {B : Nat} {D : va_G} {cl : List vw_C} {tA : FieldType → ClassId} {GT : List Cond} {P : mi_P} {j L n0 s0 : Nat} {xs : Nat → Int32} {h h' : mi_H}
set_option maxHeartbeats 4000000 in
theorem mi_heap_ok (hx : p.tables.exec = Jvm.exec) (hb : c.code = cc) (hts : ∀ w ∈ GT, w.before args s = true) (har : Cond.arrayClass .int ∈ GT ∧ Cond.arrayClass .long ∈ GT ∧ Cond.arrayClass .boolean ∈ GT) (hcl : mi_cls GT cl (mi_ft P)) (hpl : mi_plc GT cl P j) (hown : s.vm.findClass (mi_nm P j).cls = some m.cls) (hname : (mi_nm P j).name = "<init>" → meth.name = "<init>")
    (hK : va_K D cl (mi_tys tA) s) (hX : va_X (b 0) L xs s s.heap) (hbl : b 0 < s.heap.size) (hbB : b 0 < B) (hR : mi_R D cl tA b B h H) (hS : va_S (fun q => B ≤ q) s.heap H locs)
    (hstr : ∀ ix t, mi_cs P j ix = some (.retAddr t) → ∃ text, vk_R (mi_nm P j).cls ix text (b (t + 1)) s)
    {i : Instr} {st st' : List Value} (hi : mi_heap P L xs j i st h = some (st', h')) (hd : decode cc pc = .ok (i, mi_len i)) (hn0 : n0 + cells = h.1) (hs0 : s0 + slots = h.2.1) (hRc : h'.1 ≤ n0 + R.cells) (hRs : h'.2.1 ≤ s0 + R.slots)
    (kk : ∀ (H1 : Heap) (locs1 : List Loc) (cells1 slots1 : Nat), mi_R D cl tA b B h' H1 → va_S (fun q => B ≤ q) s.heap H1 locs1 → n0 + cells1 = h'.1 → s0 + slots1 = h'.2.1 → W p l e R s m args below meth c H1 locs1 cells1 slots1 Q (F0 m (pc + mi_len i) ls (st'.map (mi_v b B)))) : W p l e R s m args below meth c H locs cells slots Q (F0 m pc ls (st.map (mi_v b B))) := by
  unfold mi_heap at hi
  split at hi
  · next ix a r =>
    obtain ⟨v, hv, e1⟩ := Option.map_eq_some_iff.mp hi
    cases e1
    unfold mi_get_f at hv
    split at hv
    · next ci fs cj k w hg hf =>
      split at hv
      · next hc =>
        obtain ⟨h0, rfl⟩ := hc
        exact mi_getf hx hb hts hcl hown hK hpl.1 hR h0 hg hf hv hd (kk H locs cells slots hR hS hn0 hs0)
      · cases hv
    · cases hv
  · next ix v a r =>
    obtain ⟨g, hv, e1⟩ := Option.map_eq_some_iff.mp hi
    cases e1
    unfold mi_put_f at hv
    split at hv
    · next ci fs cj k w hg hf =>
      split at hv
      · next hc =>
        obtain ⟨rfl, h0, rfl, hl, hfit⟩ := hc
        cases hv
        exact mi_putf hx hb hts hcl hown hK (ini := decide ((mi_nm P j).name = "<init>")) (fun z => hname (of_decide_eq_true z)) hpl.1 hR hS h0 hg hf hl hfit hd (fun H1 locs1 r1 r2 => kk H1 locs1 cells slots r1 r2 hn0 hs0)
      · cases hv
    · cases hv
  · next x a r =>
    obtain ⟨v, hv, e1⟩ := Option.map_eq_some_iff.mp hi
    cases e1
    unfold mi_ld_i4 at hv
    split at hv
    · next h0 =>
      subst h0
      split at hv
      · cases hv
      · next hin => cases hv; exact mi_ald_s hx hb hX hbl hbB hS hin hd (kk H locs cells slots hR hS hn0 hs0)
    · next h0 =>
      split at hv
      · next n f hg =>
        split at hv
        · cases hv
        · next hin => cases hv; exact mi_ald_i hx hb hK hR h0 hg hin hd (kk H locs cells slots hR hS hn0 hs0)
      · cases hv
  · next x a r =>
    obtain ⟨v, hv, e1⟩ := Option.map_eq_some_iff.mp hi
    cases e1
    unfold mi_ld_i8 at hv
    split at hv
    · next n f hg =>
      split at hv
      · cases hv
      · next hc => cases hv; exact mi_ald_l hx hb hK hR (fun z => hc (Or.inl z)) hg (fun z => hc (Or.inr z)) hd (kk H locs cells slots hR hS hn0 hs0)
    · cases hv
  · next x a r =>
    obtain ⟨v, hv, e1⟩ := Option.map_eq_some_iff.mp hi
    cases e1
    unfold mi_ld_i1 at hv
    split at hv
    · next n f hg =>
      split at hv
      · cases hv
      · next hc => cases hv; exact mi_ald_z hx hb hK hR (fun z => hc (Or.inl z)) hg (fun z => hc (Or.inr z)) hd (kk H locs cells slots hR hS hn0 hs0)
    · cases hv
  · next v x a r =>
    obtain ⟨g, hv, e1⟩ := Option.map_eq_some_iff.mp hi
    cases e1
    unfold mi_as_i4 at hv
    split at hv
    · next n f hg =>
      split at hv
      · cases hv
      · next hc => cases hv; exact mi_ast_i hx hb hK hR hS (fun z => hc (Or.inl z)) hg (fun z => hc (Or.inr z)) hd (fun H1 locs1 r1 r2 => kk H1 locs1 cells slots r1 r2 hn0 hs0)
    · cases hv
  · next v x a r =>
    obtain ⟨g, hv, e1⟩ := Option.map_eq_some_iff.mp hi
    cases e1
    unfold mi_as_i8 at hv
    split at hv
    · next n f hg =>
      split at hv
      · cases hv
      · next hc => cases hv; exact mi_ast_l hx hb hK hR hS (fun z => hc (Or.inl z)) hg (fun z => hc (Or.inr z)) hd (fun H1 locs1 r1 r2 => kk H1 locs1 cells slots r1 r2 hn0 hs0)
    · cases hv
  · next v x a r =>
    obtain ⟨g, hv, e1⟩ := Option.map_eq_some_iff.mp hi
    cases e1
    unfold mi_as_i1 at hv
    split at hv
    · next n f hg =>
      split at hv
      · cases hv
      · next hc =>
        split at hv
        · next hz => cases hv; exact mi_ast_z hx hb hK hR hS (fun z => hc (Or.inl z)) hg (fun z => hc (Or.inr z)) hz hd (fun H1 locs1 r1 r2 => kk H1 locs1 cells slots r1 r2 hn0 hs0)
        · cases hv
    · cases hv
  · next a r =>
    obtain ⟨v, hv, e1⟩ := Option.map_eq_some_iff.mp hi
    cases e1
    unfold mi_alen at hv
    split at hv
    · next h0 => subst h0; cases hv; exact mi_len_s hx hb hX hbl hbB hS hd (kk H locs cells slots hR hS hn0 hs0)
    · next h0 =>
      split at hv
      · next x hg => cases hv; exact mi_len_a hx hb hK hR h0 hg (Or.inl rfl) hd (kk H locs cells slots hR hS hn0 hs0)
      · next x hg => cases hv; exact mi_len_a hx hb hK hR h0 hg (Or.inr (Or.inl rfl)) hd (kk H locs cells slots hR hS hn0 hs0)
      · next x hg => cases hv; exact mi_len_a hx hb hK hR h0 hg (Or.inr (Or.inr rfl)) hd (kk H locs cells slots hR hS hn0 hs0)
      · cases hv
  · next t n r =>
    split at hi
    · cases hi
    · next hc =>
      obtain ⟨x, hz, e1⟩ := Option.map_eq_some_iff.mp hi
      cases e1
      have z1 : h.1 + 1 ≤ n0 + R.cells := hRc
      have z2 : h.2.1 + n.toNatClampNeg ≤ s0 + R.slots := hRs
      refine mi_newa hx hb hts har hK hR hS hz (fun z => hc (Or.inl z)) (Nat.not_lt.mp fun z => hc (Or.inr z)) (by omega) (by omega) hd (fun H1 r1 r2 => kk H1 locs _ _ r1 r2 ?_ ?_)
      · show n0 + (cells + 1) = h.1 + 1; omega
      · show s0 + (slots + n.toNatClampNeg) = h.2.1 + n.toNatClampNeg; omega
  · next ix =>
    obtain ⟨ci, hz, e1⟩ := Option.map_eq_some_iff.mp hi
    cases e1
    obtain ⟨C, T, hc, hlk⟩ := hpl.2.1 ix ci hz
    have z1 : h.1 + 1 ≤ n0 + R.cells := hRc
    have z2 : h.2.1 + mi_nf P ci ≤ s0 + R.slots := hRs
    refine mi_newo hx hb hts hcl hown hK hR hS hc hlk (by omega) (by omega) hd (fun H1 r1 r2 => kk H1 locs _ _ r1 r2 ?_ ?_)
    · show n0 + (cells + 1) = h.1 + 1; omega
    · show s0 + (slots + mi_nf P ci) = h.2.1 + mi_nf P ci; omega
  · split at hi
    · next x hz => cases hi; exact lv_ldc hx hb hown (hts _ (hpl.2.2.1 _ x hz)) hd (kk H locs cells slots hR hS hn0 hs0)
    · next t hz =>
      cases hi
      obtain ⟨text, hv⟩ := hstr _ t hz
      exact va_ldcS hx hb hown hv hd (kk H locs cells slots hR hS hn0 hs0)
    · cases hi
  · split at hi
    · next x hz => cases hi; exact lv_ldcw hx hb hown (hts _ (hpl.2.2.1 _ x hz)) hd (kk H locs cells slots hR hS hn0 hs0)
    · cases hi
  · split at hi
    · next x hz => cases hi; exact lv_ldc2 hx hb hown (hts _ (hpl.2.2.2 _ x hz)) hd (kk H locs cells slots hR hS hn0 hs0)
    · cases hi
  · cases hi
end MiStep
end
section
/-! Throws and catches, as the small machine takes them: a throw makes just one cell (vx_throwS of the names, its size said exactly); own rows on catching. -/
section MiThrow
variable {p : Program} {l : Launch} {e : Env} {R : Room} {s : State} {m : MethodId} {args : Array Value} {below : List Frame} {meth : Method} {c : Code} {H : Heap} {locs : List Loc} {cells slots : Nat} {Q : State → Prop}
variable {mc ms : Nat} {free : Addr → Prop} {A0 A1 : Nat → Prop} {H0 : Heap} {a : Array Value} {ls : Array Slot} {st0 rest : List Value}
variable {Qc : Array Value → State → Outcome → State → Prop} {XC : String → State → State → Prop}
theorem mi_throwS {cc : ByteArray} {pc : Nat} (hexec : p.tables.exec = Jvm.exec) (hb : c.code = cc) (hl : l.stackTraces = false) {own cls text : String} {names : List String} {ik is ic mc ms sa : Nat} {A : Nat → Prop}
    (hown : s.vm.findClass own = some m.cls) (hcls : Bundle.fit cls = true) (hnames : ∀ n ∈ names, Bundle.fit n = true)
    (hk : (Cond.classLink own ik cls).before args s = true) (hini : (Cond.initialized cls).before args s = true) (hstr : vk_R own is text sa s) (hat : ∀ w ∈ vx_atS own ic cls names, w.before args s = true)
    (hgood : ∀ w ∈ Cond.classLink own ik cls :: Cond.initialized cls :: vx_atS own ic cls names, vx_ot w = true)
    (hU : vx_Zq Bundle.tN "UNASSIGNED_STACK" Bundle.steD A s s.heap) (hN : vx_Zq Bundle.tN "SUPPRESSED_SENTINEL" Bundle.listD A s s.heap) (hS : va_S A s.heap H locs) (hsize : ls.size = c.maxLocals)
    (d0 : decode cc pc = .ok (.new ik, 3)) (d3 : decode cc (pc + 3) = .ok (.dup, 1)) (d4 : decode cc (pc + 4) = .ok (.ldc is, 2)) (d6 : decode cc (pc + 6) = .ok (.invokespecial ic, 3)) (d9 : decode cc (pc + 9) = .ok (.athrow, 1))
    (hout : ∀ x ∈ c.exceptionTable.toList, covers x (pc + 9) = false)
    (hRframes : names.length + 3 < R.frames) (hRlocals : (rest.map fun v => v.category).sum + (13 * (names.length + 1) + 43) ≤ R.locals) (hRcells : cells + 1 ≤ R.cells) (hRslots : slots + 6 ≤ R.slots) (hlocks : meth.locks = false)
    (hx : ∀ t : State, s.vm.Alike t.vm → t.heap.size = H.size + 1 → (∀ q : Nat, q < H.size → t.heap[q]? = H[q]?) → XC cls s t)
    (hf : ∀ z ∈ locs, free z.base) (hc : cells + 1 ≤ mc) (hs : slots + 6 ≤ ms) :
    W p l e R s m args below meth c H locs cells slots (vx_MQ below Qc XC args s mc ms free) (F0 m pc ls rest) := by
  intro T hT X
  have htr : e.platform.stackTraces = false := (show e.platform.stackTraces = l.stackTraces by rw [X.admits.platform]).trans hl
  have Y := vx_rebase X (R' := { frames := R.frames, locals := R.locals, cells := 1, slots := 6 }) (Nat.le_refl _) (Nat.le_refl _) hRcells hRslots
  obtain ⟨s', hA⟩ : ∃ z, z = (T.setVm s.vm).setFrames (.invoking m args :: below) := ⟨_, rfl⟩
  rw [← hA] at Y
  have hvm : s'.vm = s.vm := by rw [hA]; rfl
  have hhp : s'.heap = H := by rw [hA]; exact hT
  have hW0 : s.WarmedH s'.vm := by rw [hvm]; exact State.WarmedH.refl s
  have hat' : ∀ w ∈ vx_atS own ic cls names, w.before args s' = true := fun w hw => vx_ot_at hW0 hvm.symm (hgood w (List.mem_cons_of_mem _ (List.mem_cons_of_mem _ hw))) (hat w hw)
  have hk' : (Cond.classLink own ik cls).before args s' = true := vx_ot_at hW0 hvm.symm (hgood _ List.mem_cons_self) hk
  have hini' : (Cond.initialized cls).before args s' = true := vx_ot_at hW0 hvm.symm (hgood _ (List.mem_cons_of_mem _ List.mem_cons_self)) hini
  have hU' : vx_Zq Bundle.tN "UNASSIGNED_STACK" Bundle.steD A s' s'.heap := by rw [hhp]; exact vx_Zq.moved hW0.alike (hU.kept hS.2.1)
  have hN' : vx_Zq Bundle.tN "SUPPRESSED_SENTINEL" Bundle.listD A s' s'.heap := by rw [hhp]; exact vx_Zq.moved hW0.alike (hN.kept hS.2.1)
  have h : ∀ w ∈ Bundle.ownAtoms own ic cls names, w.before args s' = true := vx_own hat' (vx_isRefq hU'.1) (vx_isRefq hN'.1) hU'.2.word hN'.2.word
  have hown' : s'.vm.findClass own = some m.cls := by rw [hvm]; exact hown
  have hins : (Cond.instantiable cls 6).before args s' = true := h _ (by simp [Bundle.ownAtoms])
  obtain ⟨vm₁, cX, kX, hfX, hkX, -, -, X₁, st1⟩ := Y.newCold hexec (own := own) (C := cls) (index := ik) (n := 6) hown' hk' hins hini'
    (g := F0 m pc ls rest) rfl (by rw [hb]; exact d0) (Nat.le_refl _) (Nat.le_refl _)
  generalize hT1 : (T.setVm vm₁).pushCell { cls := cX, slots := kX.instanceTypes.map defaultValue, vm := .none } = T1 at X₁ st1
  have hcat : (Value.ref T.heap.size).category = 1 := rfl
  have hcellA : T1.heap[T.heap.size]? = some (freshCell cX kX) := by rw [← hT1]; exact State.heap_pushCell_size _ _
  have d3' : decode c.code (pc + 3) = .ok (.dup, 1) := by rw [hb]; exact d3
  have d4' : decode c.code (pc + 4) = .ok (.ldc is, 2) := by rw [hb]; exact d4
  have hstr' : vk_R own is text sa s' := vk_R.warm hW0 hstr
  obtain ⟨U, hsteps, hrun, hend, hW, hsame, ce, hce, hO⟩ := X₁.ctorThrowS hexec htr (own := own) (cls := cls) (names := names) (ic := ic) hown' hcls hnames h (fun x hx => nomatch hx) hfX hkX hcellA (by rw [hhp, hT]; exact Nat.le_refl _) (msg := .ref sa) rfl
    (g := { method := m, pc := pc + 6, locals := ls, stack := .ref sa :: .ref T.heap.size :: .ref T.heap.size :: rest, locked := none }) rfl hsize rfl rfl (rest := rest) rfl
    (by rw [hb]; exact d6) (by rw [hb]; exact d9) hout hRframes (by simp only [List.map_cons, List.sum_cons, hcat]; omega) hlocks
  have g1 : U.heap.size ≤ s'.heap.size + (0 + 1) := hsame.2.2.1
  have g2 : T.heap.size < U.heap.size := (Array.getElem?_eq_some_iff.mp hce).1
  obtain ⟨f1, f2⟩ := vx_frame hsame
  rw [hhp] at f1 f2 g1
  rw [hT] at g2
  have g3 : U.heap.size = H.size + 1 := by omega
  have hWs : s.WarmedH U.vm := State.WarmedH.trans hW0 hW
  have hcl : s.vm.findClass cls = some ce.cls := by
    have h9 := hO.cls
    rw [hvm] at h9
    exact h9
  have hall : s.sameButNew ({ U with vm := s.vm } : State) locs mc ms := by
    subst hA
    obtain ⟨e1, e2⟩ := hsame
    rw [State.setFrames_setFrames] at e1
    have h2 : (T.setVm s.vm).sameButNew ({ U with vm := s.vm } : State) [] (0 + 1) (0 + 6) := ⟨e1, e2⟩
    have h3 := X.same.trans h2
    rw [List.append_nil] at h3
    exact h3.mono hc hs
  refine ⟨U, ?_, .threw T.heap.size, hrun, hend, Or.inr ⟨T.heap.size, rfl, cls, ce, locs, hx U hWs.alike g3 (fun q hq => f2 q hq (fun z hz => nomatch hz)), hce, hO.vm, hcl, hWs, hall, hf⟩⟩
  refine st1 _ ?_
  show Steps p.tables e below (T1.setTop { method := m, pc := pc + 3, locals := ls, stack := .ref T.heap.size :: rest, locked := none }) _
  jvm_step X₁.here [X₁.here.top, hexec, d3', Value.category]
  exact X₁.ldcString hexec (own := own) (text := text) (index := is) (a := sa) hown' hstr'.1 hstr'.2
    (g := { method := m, pc := pc + 4, locals := ls, stack := .ref T.heap.size :: .ref T.heap.size :: rest, locked := none }) rfl d4' _ hsteps
end MiThrow
/-- one row of a table whose place is a link -/
theorem mi_link {Q : Handler → Pre} {E : CtlPost} {e : Env} {d : Bool} {acts : List Action} {s : State} {f : JFrame} {a : Addr} {x : ExceptionTableEntry} {t : List ExceptionTableEntry} {c : ClassId} {cell : Cell} (hx : covers x f.pc = true) (h0 : x.catchType ≠ 0)
    (hl : s.vm.ClassLinks e.platform f.method.cls x.catchType c) (hcell : s.heap[a]? = some cell) (hobj : ∀ k, cell.vm ≠ .statics k)
    (hk : ∃ k, s.vm.classes[cell.cls]? = some k) (hc : ∃ k, s.vm.classes[c]? = some k) :
    wp (findHandler.go f a (x :: t)) Q E e d acts s ↔ if s.vm.assignable cell.cls c = true then Q (.found x.handlerPc) d acts (s.setVm (s.vm.noted f.method.cls x.catchType (.cls c))) else wp (findHandler.go f a t) Q E e d acts (s.setVm (s.vm.noted f.method.cls x.catchType (.cls c))) := by
  simp only [covers] at hx
  obtain ⟨ha, ht⟩ := (resolveClass_links e.toSetting hl).op (op := VmOp.resolveClass f.method.cls x.catchType) rfl
  have hal : s.vm.Alike (s.vm.noted f.method.cls x.catchType (.cls c)) := (Vm.Alike.refl s.vm).noted _ _ _
  obtain ⟨k1, hk1⟩ := hk
  obtain ⟨k2, hk2⟩ := hc
  obtain ⟨k1', hk1', -⟩ := hal.2.2 _ _ hk1
  obtain ⟨k2', hk2', -⟩ := hal.2.2 _ _ hk2
  have he : (s.vm.noted f.method.cls x.catchType (.cls c)).assignable cell.cls c = s.vm.assignable cell.cls c := hal.assignable ..
  cases hfit : s.vm.assignable cell.cls c <;>
    (rw [hfit] at he; simp [findHandler.go, hx, h0, ha, ht, hcell, hobj, hk1', hk2', he, VmOp.dirties, VmOp.acts])
theorem mi_search {e : Env} {s₀ : State} {f : JFrame} {a : Addr} {cell : Cell} (hobj : ∀ k, cell.vm ≠ .statics k) (hk0 : ∃ k, s₀.vm.classes[cell.cls]? = some k)
    (x : ExceptionTableEntry) (rest : List ExceptionTableEntry) (hx : covers x f.pc = true) (h0 : x.catchType ≠ 0) {cx : ClassId} (hl : s₀.vm.ClassLinks e.platform f.method.cls x.catchType cx) (hfit : s₀.vm.assignable cell.cls cx = true) :
    ∀ (pre : List ExceptionTableEntry) (S : State), s₀.WarmedH S.vm → S.heap[a]? = some cell → (∀ y ∈ pre, covers y f.pc = false ∨ (y.catchType ≠ 0 ∧ ∃ c, s₀.vm.ClassLinks e.platform f.method.cls y.catchType c ∧ s₀.vm.assignable cell.cls c = false)) →
      ∃ vm', s₀.WarmedH vm' ∧ ∀ (Q : Handler → Pre) (E : CtlPost) (d : Bool) (acts : List Action), wp (findHandler.go f a (pre ++ x :: rest)) Q E e d acts S ↔ Q (.found x.handlerPc) d acts (S.setVm vm') := by
  obtain ⟨k0, hk0⟩ := hk0
  intro pre
  induction pre with
  | nil =>
    intro S hW hcell _
    obtain ⟨k0', hk0', -⟩ := hW.alike.2.2 _ _ hk0
    obtain ⟨dk, _, _, kt, hd, _, _, _, _, hkt, _, hopen⟩ := hl.here
    obtain ⟨kt', hkt', -⟩ := hW.alike.2.2 _ _ hkt
    refine ⟨_, hW.noted hd hopen (State.rightAt_cls hl), fun Q E d acts => ?_⟩
    rw [List.nil_append, mi_link hx h0 (hW.classLinks hl) hcell hobj ⟨k0', hk0'⟩ ⟨kt', hkt'⟩, if_pos (by rw [hW.alike.assignable]; exact hfit)]
  | cons y ys ih =>
    intro S hW hcell hpass
    obtain ⟨k0', hk0', -⟩ := hW.alike.2.2 _ _ hk0
    by_cases hcov : covers y f.pc = true
    · rcases hpass y (List.mem_cons_self ..) with h | ⟨h0, c, hly, hno⟩
      · rw [h] at hcov; cases hcov
      · obtain ⟨dk, _, _, kt, hd, _, _, _, _, hkt, _, hopen⟩ := hly.here
        obtain ⟨kt', hkt', -⟩ := hW.alike.2.2 _ _ hkt
        obtain ⟨vm', hW', hq⟩ := ih (S.setVm (S.vm.noted f.method.cls y.catchType (.cls c))) (hW.noted hd hopen (State.rightAt_cls hly)) hcell (fun z hz => hpass z (List.mem_cons_of_mem _ hz))
        refine ⟨vm', hW', fun Q E d acts => ?_⟩
        rw [List.cons_append, mi_link hcov h0 (hW.classLinks hly) hcell hobj ⟨k0', hk0'⟩ ⟨kt', hkt'⟩, if_neg (by rw [hW.alike.assignable, hno]; exact fun z => by cases z)]
        exact hq Q E d acts
    · obtain ⟨vm', hW', hq⟩ := ih S hW hcell (fun z hz => hpass z (List.mem_cons_of_mem _ hz))
      refine ⟨vm', hW', fun Q E d acts => ?_⟩
      rw [List.cons_append, W.findHandler_go_skip (by simpa using hcov)]
      exact hq Q E d acts
theorem mi_caughtTo {tb : Tables} {e : Env} {s target : State} {g : JFrame} {c : Code} {below : List Frame} {a : Addr} (h : At s g.method c below) {pc : Nat} {vm' : Vm}
    (hfind : ∀ (Q : Handler → Pre) (E : CtlPost) (d : Bool) (acts : List Action), wp (findHandler g a) Q E e d acts ((s.setTop g).pushFrame (.throwing a)) ↔ Q (.found pc) d acts (((s.setTop g).pushFrame (.throwing a)).setVm vm'))
    (hrest : Steps tb e below ((s.setVm vm').setTop { g with pc := pc, stack := [.ref a] }) target) : Steps tb e below ((s.setTop g).pushFrame (.throwing a)) target := by
  obtain ⟨hgo, hw⟩ := h.throwing a
  refine Steps.head hgo hw ?_
  obtain ⟨g₀, hg⟩ := Option.isSome_iff_exists.mp h.top
  obtain ⟨r, hr⟩ := State.topJava?_eq_some.mp hg
  have hst : (stepThrowing e ((s.setTop g).pushFrame (.throwing a)) a (.java g :: s.frames.tail)).Is ((((s.setTop g).pushFrame (.throwing a)).setVm vm').setFrames (.java { g with pc := pc, stack := [.ref a] } :: s.frames.tail)) [] := by
    simp only [stepThrowing, searchFrame, vmDo]
    generalize hres : Sem.go _ e false [] ((s.setTop g).pushFrame (.throwing a)) = res
    obtain ⟨as, rfl, ha⟩ := Sem.eq_ok_of hres (a := Handler.found pc) (s' := ((s.setTop g).pushFrame (.throwing a)).setVm vm') (acts' := []) (by simp [hfind _ _ _ _])
    exact ⟨rfl, ha⟩
  rw [stepThread_throwing (frames_entered h.top _), hst.1]
  have hr' : (s.setVm vm').frames = .java g₀ :: r := hr
  rw [State.setTop_of_frames _ hr'] at hrest
  rw [hr]
  have e1 : (((s.setTop g).pushFrame (.throwing a)).setVm vm').setFrames (.java { g with pc := pc, stack := [.ref a] } :: (Frame.java g₀ :: r).tail) = (s.setVm vm').setFrames (.java { g with pc := pc, stack := [.ref a] } :: r) := by
    rw [State.pushFrame, State.setTop_of_frames _ hr]
    show ((((s.setVm vm').setFrames _).setFrames _).setFrames _) = _
    rw [State.setFrames_setFrames, State.setFrames_setFrames]
    rfl
  rw [e1]
  exact hrest
end
section
/-! Calls of the small machine: contracts, and what a call comes to. -/
/-- words that stay true in warmer tables -/
def mi_wk (w : Cond) : Bool := goodWord w || (match w with
  | .castable _ _ => true
  | .methodLinkNest _ _ _ _ => true
  | .declares _ => true
  | _ => false)
theorem mi_wk_ok {w : Cond} {s U : State} {A A' : Array Value} (hg : mi_wk w = true) (hW : s.WarmedH U.vm) (h : w.before A s = true) : w.before A' U = true := by
  by_cases hG : goodWord w = true
  · exact word_at hW (good_of_word hG) h
  · unfold mi_wk at hg
    rw [Bool.or_eq_true] at hg
    rcases hg with hg | hg
    · exact absurd hg hG
    · split at hg
      · exact va_Nw.use rfl (va_Nw.warmC hW (va_Nw.of rfl h))
      · exact va_Nw.use rfl (va_Nw.warmM hW (va_Nw.of rfl h))
      · exact va_Nw.use rfl (va_Nw.warmD hW (va_Nw.of rfl h))
      · cases hg
/-- what a throw needs of the start: two statics of Throwable, the texts -/
def mi_Z (b : Nat → Nat) (B : Nat) (SK : List (String × Nat × String × Nat)) (NC : List (String × String)) (ZT : State → Prop) (U : State) : Prop :=
  vx_Zq Bundle.tN "UNASSIGNED_STACK" Bundle.steD (fun q => B ≤ q) U U.heap ∧ vx_Zq Bundle.tN "SUPPRESSED_SENTINEL" Bundle.listD (fun q => B ≤ q) U U.heap ∧ (∀ q ∈ SK, vk_R q.1 q.2.1 q.2.2.1 (b (q.2.2.2 + 1)) U) ∧ (∀ q ∈ NC, va_Nc q.1 q.2 U) ∧ ZT U
/-- what is said of the texts stays true while old cells stay -/
def mi_sta (B : Nat) (ZT : State → Prop) : Prop := ∀ (s U : State) (H : Heap) (locs : List Loc), ZT s → va_S (fun q => B ≤ q) s.heap H locs → U.heap = H → s.WarmedH U.vm → ZT U
theorem mi_Z.next {b : Nat → Nat} {B : Nat} {SK : List (String × Nat × String × Nat)} {NC : List (String × String)} {ZT : State → Prop} {s U : State} {H : Heap} {locs : List Loc} (hZT : mi_sta B ZT) (hz : mi_Z b B SK NC ZT s) (hS : va_S (fun q => B ≤ q) s.heap H locs) (hU : U.heap = H) (hW : s.WarmedH U.vm) : mi_Z b B SK NC ZT U := by
  refine ⟨?_, ?_, fun q hq => vk_R.warm hW (hz.2.2.1 q hq), fun q hq => va_Nc.moved hW.alike (hz.2.2.2.1 q hq), hZT s U H locs hz.2.2.2.2 hS hU hW⟩
  · rw [hU]; exact vx_Zq.moved hW.alike (hz.1.kept hS.2.1)
  · rw [hU]; exact vx_Zq.moved hW.alike (hz.2.1.kept hS.2.1)
section MiMet
variable (D : va_G) (cl : List vw_C) (tA : FieldType → ClassId) (b : Nat → Nat) (B L : Nat) (xs : Nat → Int32) (SK : List (String × Nat × String × Nat)) (NC : List (String × String)) (ZT : State → Prop) (GT : List Cond) (P : mi_P)
/-- a method's start: its arguments, the heap -/
def mi_Pc (as : List Value) (h : mi_H) : Array Value → State → Prop := fun v U =>
  v = (as.map (mi_v b B)).toArray ∧ mi_R D cl tA b B h U.heap ∧ va_K D cl (mi_tys tA) U ∧ va_X (b 0) L xs U U.heap ∧ b 0 < U.heap.size ∧ mi_Z b B SK NC ZT U
def mi_QO (o : mi_O) (h : mi_H) : Array Value → State → Outcome → State → Prop := fun _ st oc t => ∃ v : Option Value, o = .inl v ∧ oc = .returned (v.map (mi_v b B)) ∧ mi_R D cl tA b B h t.heap ∧ va_F (fun q => B ≤ q) st t
def mi_XO (o : mi_O) (h : mi_H) : String → State → State → Prop := fun E st t => o = .inr E ∧ mi_R D cl tA b B h t.heap ∧ va_F (fun q => B ≤ q) st t
def mi_cw (j : Nat) : Cond := if (mi_hh P j).isEmpty = true then .code (mi_nm P j) (mi_cd P j) (mi_mx P j) (mi_rt P j) else .codeWith (mi_nm P j) (mi_cd P j) (mi_mx P j) (mi_rt P j) (mi_hh P j)
def mi_ws (j : Nat) : List Cond := mi_cw P j :: GT
def mi_rm (d : Nat) (h h' : mi_H) : Room := { frames := 10 + d, cells := h'.1 - h.1, slots := h'.2.1 - h.2.1, locals := 200 + 64 * d }
/-- the contract of a call that the small machine has run -/
def mi_Met (l : Launch) (d j : Nat) (as : List Value) (h : mi_H) (o : mi_O) (h' : mi_H) : Prop :=
  vx_Met l (mi_nm P j) (mi_ws GT P j) (mi_rm d h h') (mi_Pc D cl tA b B L xs SK NC ZT as h) (mi_QO D cl tA b B o h') (mi_XO D cl tA b B o h') (h'.1 - h.1) (h'.2.1 - h.2.1) (fun q => B ≤ q)
end MiMet
section MiCall
variable {p : Program} {l : Launch} {e : Env} {R : Room} {s : State} {m : MethodId} {args : Array Value} {below : List Frame} {meth : Method} {c : Code} {H : Heap} {locs : List Loc} {cells slots : Nat} {Q : State → Prop}
variable {cc : ByteArray} {pc nL : Nat} {ls : Array Slot} {b : Nat → Nat} {B : Nat} {D : va_G} {cl : List vw_C} {tA : FieldType → ClassId} {GT : List Cond} {P : mi_P} {L : Nat} {xs : Nat → Int32} {SK : List (String × Nat × String × Nat)} {NC : List (String × String)} {ZT : State → Prop} {h h' : mi_H} {o : mi_O} {r : List Value}
theorem mi_blind (hZT : mi_sta B ZT) (as : List Value) : FrameBlind (mi_Pc D cl tA b B L xs SK NC ZT as h) := by
  intro a U g mk hp
  obtain ⟨h1, h2, h3, h4, h5, h6⟩ := hp
  refine ⟨h1, h2, va_K.moved (u := U) (U := U.calling g mk a) (Vm.Alike.refl U.vm) h3, va_X.moved (u := U) (U := U.calling g mk a) (Vm.Alike.refl U.vm) h4, h5, ?_⟩
  exact mi_Z.next (H := U.heap) (locs := []) hZT h6 va_S.rf rfl (State.WarmedH.refl U)
theorem mi_pre (hZT : mi_sta B ZT) (hK : va_K D cl (mi_tys tA) s) (hX : va_X (b 0) L xs s s.heap) (hbl : b 0 < s.heap.size) (hbB : b 0 < B) (hZ : mi_Z b B SK NC ZT s) (hR : mi_R D cl tA b B h H) (hS : va_S (fun q => B ≤ q) s.heap H locs) (as : List Value) (U : State) (hU : U.heap = H) (hW : s.WarmedH U.vm) : mi_Pc D cl tA b B L xs SK NC ZT as h (as.map (mi_v b B)).toArray U := by
  refine ⟨rfl, by rw [hU]; exact hR, va_K.moved hW.alike hK, ?_, by rw [hU]; exact Nat.lt_of_lt_of_le hbl hS.1, mi_Z.next hZT hZ hS hU hW⟩
  rw [hU]
  exact va_X.moved hW.alike (hX.kept (hS.2.1 (b 0) hbl (Nat.not_le.mpr hbB)))
/-- a call that returns or throws, as the small machine has run it -/
theorem mi_after {mc ms : Nat} {a : Array Value} {st0 : List Value} (hr : vx_Run p l e R s m args below meth c H locs cells slots mc ms (F0 m pc ls st0) (r.map (mi_v b B)) (mi_QO D cl tA b B o h' a) (mi_XO D cl tA b B o h') (fun q => B ≤ q)) (hS : va_S (fun q => B ≤ q) s.heap H locs)
    (kx : ∀ (E : String) (ce : Cell) (q : Addr) (H1 : Heap) (locs1 : List Loc), o = .inr E → mi_R D cl tA b B h' H1 → va_S (fun q => B ≤ q) s.heap H1 locs1 → H1[q]? = some ce → ce.vm = .none → s.vm.findClass E = some ce.cls → vx_W p l e R s m args below meth c H1 locs1 (cells + mc) (slots + ms) Q (F0 m pc ls (r.map (mi_v b B))) q)
    (kk : ∀ (v : Option Value) (H1 : Heap) (locs1 : List Loc), o = .inl v → mi_R D cl tA b B h' H1 → va_S (fun q => B ≤ q) s.heap H1 locs1 → W p l e R s m args below meth c H1 locs1 (cells + mc) (slots + ms) Q (F0 m (pc + 3) ls ((v.toList ++ r).map (mi_v b B)))) : W p l e R s m args below meth c H locs cells slots Q (F0 m pc ls st0) := by
  intro T hT X
  rcases hr T hT X with ⟨v, st₀, t, T', L', h0, X', hL, e1, e2, ⟨v2, ho, hv, hR1, hF⟩, st⟩ | ⟨q, st₀, t, T', L', E, ce, h0, X', hL, e1, e2, ⟨ho, hR1, hF⟩, hce, hcv, hcl, st⟩
  · cases hv
    obtain ⟨k1, k2, k3⟩ := vx_keep h0 e1 hS (fun _ _ z => z) (fun _ z => z) hL hF
    have hst : (v2.map (mi_v b B)).toList ++ r.map (mi_v b B) = (v2.toList ++ r).map (mi_v b B) := by cases v2 <;> simp
    obtain ⟨t2, a1, b1⟩ := kk v2 T'.heap (locs ++ L') ho (by rw [e1]; exact hR1) k3 T' rfl X'
    refine ⟨t2, st t2 ?_, b1⟩
    have e9 : ({ F0 m pc ls st0 with pc := (F0 m pc ls st0).pc + 3, stack := (v2.map (mi_v b B)).toList ++ r.map (mi_v b B) } : JFrame) = F0 m (pc + 3) ls ((v2.toList ++ r).map (mi_v b B)) := by rw [hst]
    rw [e9]
    exact a1
  · obtain ⟨k1, k2, k3⟩ := vx_keep h0 e1 hS (fun _ _ z => z) (fun _ z => z) hL hF
    obtain ⟨t2, a1, b1⟩ := kx E ce q T'.heap (locs ++ L') ho (by rw [e1]; exact hR1) k3 (by rw [e1]; exact hce) hcv hcl T' rfl X'
    exact ⟨t2, st.trans a1, b1⟩
/-- a contract that cannot throw is one of the elder kind -/
theorem mi_noX {y : MethodName} {ws : List Cond} {rm : Room} {Pc : Array Value → State → Prop} {v : Option Value} {mc ms : Nat} {free : Addr → Prop} (hM : vx_Met l y ws rm Pc (mi_QO D cl tA b B (.inl v) h') (mi_XO D cl tA b B (.inl v) h') mc ms free) : Met l y ws rm Pc (mi_QO D cl tA b B (.inl v) h') mc ms free := by
  intro p e ha hc hk s m args below hf happ hP hK
  obtain ⟨n, o, h1, h2, h3, h4⟩ := hM p e ha hc hk s m args below hf happ hP hK
  refine ⟨n, o, h1, h2, h3, ?_⟩
  rcases h4 with h4 | ⟨q, -, E, ce, L', ⟨hx, -⟩, -⟩
  · exact h4
  · cases hx
theorem mi_vaRun {mc ms : Nat} {g : JFrame} {rest : List Value} {Qa : State → Outcome → State → Prop} {XC : String → State → State → Prop} {free : Addr → Prop} (hr : va_Run p l e R s m args below meth c H locs cells slots mc ms g rest Qa free) : vx_Run p l e R s m args below meth c H locs cells slots mc ms g rest Qa XC free := by
  intro T hT X
  exact Or.inl (hr T hT X)
end MiCall
end
section
/-! The small machine's step and run. -/
def mi_sub (lv : mi_L) (i : Nat) : mi_L := lv.filter (fun q => !(q.1 == i) && !(q.1 + 1 == i && q.2.category == 2))
def mi_wt (st : List Value) : Nat := (st.map fun v => v.category).sum
def mi_ret (rt : Option FieldType) (i : Instr) (st : List Value) : Option (Option Value) := match i, st with
  | .ireturn, [.int x] => match rt with
    | some .int => some (some (.int x))
    | some .boolean => if mi_fit .boolean (.int x) = true then some (some (.int x)) else none
    | _ => none
  | .lreturn, [.long x] => match rt with
    | some .long => some (some (.long x))
    | _ => none
  | .areturn, [.ref a] => match rt with
    | some (.object _) => some (some (.ref a))
    | _ => none
  | .areturn, [.retAddr t] => match rt with
    | some (.object _) => some (some (.retAddr t))
    | _ => none
  | .return_, [] => match rt with
    | none => some none
    | _ => none
  | _, _ => none
/-- a call's place: the method, its kind (0 virtual, 1 static, 2 a constructor, 3 Object's, 4 a nest mate's static, 5 a static with handlers, 6 a member of a text), how many arguments -/
def mi_site (P : mi_P) (j : Nat) (i : Instr) : Option (Nat × Nat × Nat × Nat) := match i with
  | .invokevirtual ix => match mi_iv P j ix with
    | some (k, kind, n) => if kind = 0 ∨ kind = 6 then some (k, kind, n, ix) else none
    | none => none
  | .invokestatic ix => match mi_iv P j ix with
    | some (k, kind, n) => if kind = 1 ∨ kind = 4 ∨ kind = 5 then some (k, kind, n, ix) else none
    | none => none
  | .invokespecial ix => match mi_iv P j ix with
    | some (k, kind, n) => if kind = 2 ∨ kind = 3 then some (k, kind, n, ix) else none
    | none => none
  | _ => none
def mi_cargs (kind n : Nat) (st : List Value) : Option (List Value × List Value) :=
  if kind = 0 ∨ kind = 2 then (match st.drop n with
    | .ref a :: r => some (.ref a :: (st.take n).reverse, r)
    | _ => none)
  else if n ≤ st.length then some ((st.take n).reverse, st.drop n) else none
def mi_rc (P : mi_P) (k : Nat) (h : mi_H) (as : List Value) : Bool := match as with
  | .ref a :: _ => match mi_get h a with
    | some (.inr (ci, _)) => decide (a ≠ 0) && decide (ci = mi_kc P k)
    | _ => false
  | _ => false
abbrev mi_S : Type := (Nat × mi_L × List Value × mi_H) ⊕ (mi_O × mi_H)
abbrev mi_C : Type := Nat → List Value → mi_H → Option (mi_O × mi_H)
/-- a member of a text: its arguments, what is below -/
def mi_targs (n : Nat) (st : List Value) : Option (Nat × List Value × List Value) := match st.drop n with
  | .retAddr t :: r => some (t, (st.take n).reverse, r)
  | _ => none
/-- a throw comes back from a call -/
def mi_exc (P : mi_P) (j pc : Nat) (lv : mi_L) (E : String) (g : mi_H) : Option mi_S := match mi_ca P j pc E with
  | none => if (mi_hh P j).isEmpty = true then some (.inr (.inr E, g)) else none
  | some hp => match mi_is P j hp with
    | some (.astore_n q) => if (q : Nat) < mi_mx P j then some (.inl (hp + 1, mi_sub lv (q : Nat), [], g)) else none
    | some (.astore q) => if q < mi_mx P j then some (.inl (hp + 2, mi_sub lv q, [], g)) else none
    | _ => none
def mi_inv (P : mi_P) (call : mi_C) (j : Nat) (i : Instr) (pc : Nat) (lv : mi_L) (st : List Value) (h : mi_H) : Option mi_S := match mi_site P j i with
  | none => none
  | some (k, kind, n, _) =>
    if kind = 3 then (match st with
      | .ref _ :: r => if mi_wt r ≤ 8 then some (.inl (pc + 3, lv, r, h)) else none
      | _ => none)
    else if kind = 6 then (match mi_targs n st with
      | some (t, as, r) => if mi_wt r ≤ 8 then (match mi_pr P k (.retAddr t :: as) with
        | some v => some (.inl (pc + 3, lv, v :: r, h))
        | none => none) else none
      | none => none)
    else match mi_cargs kind n st with
      | none => none
      | some (as, r) => if mi_wt r ≤ 8 ∧ (kind = 0 → mi_rc P k h as = true) then (match call k as h with
          | none => none
          | some (.inl v, g) => some (.inl (pc + 3, lv, v.toList ++ r, g))
          | some (.inr E, g) => if kind = 2 ∨ kind = 4 then none else mi_exc P j pc lv E g)
        else none
/-- a thing of which nothing is known -/
def mi_dead : mi_E := .inr (1000000, [])
def mi_step (P : mi_P) (L : Nat) (xs : Nat → Int32) (call : mi_C) (j pc : Nat) (lv : mi_L) (st : List Value) (h : mi_H) : Option mi_S := match mi_th P j pc with
  | some E => if st.isEmpty = true then some (.inr (.inr E, mi_push h 6 mi_dead)) else none
  | none => match mi_is P j pc with
    | none => none
    | some i => match mi_pure i st with
      | some st' => some (.inl (pc + mi_len i, lv, st', h))
      | none => match mi_loc (mi_mx P j) i lv st with
        | some q => some (.inl (pc + mi_len i, q.1, q.2, h))
        | none => match mi_jmp i pc st with
          | some q => some (.inl (q.1, lv, q.2, h))
          | none => match mi_heap P L xs j i st h with
            | some q => some (.inl (pc + mi_len i, lv, q.1, q.2))
            | none => match mi_ret (mi_rt P j) i st with
              | some v => some (.inr (.inl v, h))
              | none => mi_inv P call j i pc lv st h
def mi_run (P : mi_P) (L : Nat) (xs : Nat → Int32) (call : mi_C) (j : Nat) : Nat → Nat → mi_L → List Value → mi_H → Option (mi_O × mi_H)
  | 0, _, _, _, _ => none
  | n + 1, pc, lv, st, h => match mi_step P L xs call j pc lv st h with
    | none => none
    | some (.inr o) => some o
    | some (.inl q) => mi_run P L xs call j n q.1 q.2.1 q.2.2.1 q.2.2.2
def mi_call (P : mi_P) (L : Nat) (xs : Nat → Int32) (fuel : Nat) : Nat → mi_C
  | 0, _, _, _ => none
  | d + 1, j, as, h => if mi_wt as ≤ mi_mx P j then mi_run P L xs (mi_call P L xs fuel d) j fuel 0 (lv_args 0 as) [] h else none
/-- cells and slots grow alone -/
def mi_le (h h' : mi_H) : Prop := h.1 ≤ h'.1 ∧ h.2.1 ≤ h'.2.1
theorem mi_le.rf (h : mi_H) : mi_le h h := ⟨Nat.le_refl _, Nat.le_refl _⟩
theorem mi_le.tr {h h1 h2 : mi_H} (a : mi_le h h1) (b : mi_le h1 h2) : mi_le h h2 := ⟨Nat.le_trans a.1 b.1, Nat.le_trans a.2 b.2⟩
theorem mi_heap_le {P : mi_P} {L : Nat} {xs : Nat → Int32} {j : Nat} {i : Instr} {st : List Value} {h : mi_H} {q : List Value × mi_H} (hi : mi_heap P L xs j i st h = some q) : mi_le h q.2 := by
  unfold mi_heap at hi
  split at hi
  · obtain ⟨v, -, e1⟩ := Option.map_eq_some_iff.mp hi; cases e1; exact mi_le.rf _
  · obtain ⟨v, hv, e1⟩ := Option.map_eq_some_iff.mp hi
    cases e1
    unfold mi_put_f at hv
    split at hv
    · split at hv
      · cases hv; exact mi_le.rf _
      · cases hv
    · cases hv
  · obtain ⟨v, -, e1⟩ := Option.map_eq_some_iff.mp hi; cases e1; exact mi_le.rf _
  · obtain ⟨v, -, e1⟩ := Option.map_eq_some_iff.mp hi; cases e1; exact mi_le.rf _
  · obtain ⟨v, -, e1⟩ := Option.map_eq_some_iff.mp hi; cases e1; exact mi_le.rf _
  · obtain ⟨v, hv, e1⟩ := Option.map_eq_some_iff.mp hi
    cases e1
    unfold mi_as_i4 at hv
    split at hv
    · split at hv
      · cases hv
      · cases hv; exact mi_le.rf _
    · cases hv
  · obtain ⟨v, hv, e1⟩ := Option.map_eq_some_iff.mp hi
    cases e1
    unfold mi_as_i8 at hv
    split at hv
    · split at hv
      · cases hv
      · cases hv; exact mi_le.rf _
    · cases hv
  · obtain ⟨v, hv, e1⟩ := Option.map_eq_some_iff.mp hi
    cases e1
    unfold mi_as_i1 at hv
    split at hv
    · split at hv
      · cases hv
      · split at hv
        · cases hv; exact mi_le.rf _
        · cases hv
    · cases hv
  · obtain ⟨v, -, e1⟩ := Option.map_eq_some_iff.mp hi; cases e1; exact mi_le.rf _
  · split at hi
    · cases hi
    · obtain ⟨v, -, e1⟩ := Option.map_eq_some_iff.mp hi; cases e1; exact ⟨Nat.le_succ _, Nat.le_add_right _ _⟩
  · obtain ⟨v, -, e1⟩ := Option.map_eq_some_iff.mp hi; cases e1; exact ⟨Nat.le_succ _, Nat.le_add_right _ _⟩
  · split at hi
    · cases hi; exact mi_le.rf _
    · cases hi; exact mi_le.rf _
    · cases hi
  · split at hi
    · cases hi; exact mi_le.rf _
    · cases hi
  · split at hi
    · cases hi; exact mi_le.rf _
    · cases hi
  · cases hi
def mi_snd (q : mi_S) : mi_H := match q with
  | .inl x => x.2.2.2
  | .inr x => x.2
theorem mi_exc_le {P : mi_P} {j pc : Nat} {lv : mi_L} {E : String} {g : mi_H} {q : mi_S} (h : mi_exc P j pc lv E g = some q) : mi_snd q = g := by
  unfold mi_exc at h
  split at h
  · split at h
    · cases h; rfl
    · cases h
  · split at h
    · split at h
      · cases h; rfl
      · cases h
    · split at h
      · cases h; rfl
      · cases h
    · cases h
theorem mi_inv_le {P : mi_P} {call : mi_C} {j : Nat} {i : Instr} {pc : Nat} {lv : mi_L} {st : List Value} {h : mi_H} {q : mi_S} (hc : ∀ k as g o g', call k as g = some (o, g') → mi_le g g') (hi : mi_inv P call j i pc lv st h = some q) : mi_le h (mi_snd q) := by
  unfold mi_inv at hi
  split at hi
  · cases hi
  · split at hi
    · split at hi
      · split at hi
        · cases hi; exact mi_le.rf _
        · cases hi
      · cases hi
    · split at hi
      · split at hi
        · split at hi
          · split at hi
            · cases hi; exact mi_le.rf _
            · cases hi
          · cases hi
        · cases hi
      · split at hi
        · cases hi
        · split at hi
          · split at hi
            · cases hi
            · next hcl => cases hi; exact hc _ _ _ _ _ hcl
            · next hcl =>
              split at hi
              · cases hi
              · rw [mi_exc_le hi]; exact hc _ _ _ _ _ hcl
          · cases hi
theorem mi_step_le {P : mi_P} {L : Nat} {xs : Nat → Int32} {call : mi_C} {j pc : Nat} {lv : mi_L} {st : List Value} {h : mi_H} {q : mi_S} (hc : ∀ k as g o g', call k as g = some (o, g') → mi_le g g') (hi : mi_step P L xs call j pc lv st h = some q) : mi_le h (mi_snd q) := by
  unfold mi_step at hi
  split at hi
  · split at hi
    · cases hi; exact ⟨Nat.le_succ _, Nat.le_add_right _ _⟩
    · cases hi
  · split at hi
    · cases hi
    · split at hi
      · cases hi; exact mi_le.rf _
      · split at hi
        · cases hi; exact mi_le.rf _
        · split at hi
          · cases hi; exact mi_le.rf _
          · split at hi
            · next hh => cases hi; exact mi_heap_le hh
            · split at hi
              · cases hi; exact mi_le.rf _
              · exact mi_inv_le hc hi
theorem mi_run_le {P : mi_P} {L : Nat} {xs : Nat → Int32} {call : mi_C} {j : Nat} (hc : ∀ k as g o g', call k as g = some (o, g') → mi_le g g') : ∀ (n pc : Nat) (lv : mi_L) (st : List Value) (h : mi_H) (o : mi_O) (h' : mi_H), mi_run P L xs call j n pc lv st h = some (o, h') → mi_le h h' := by
  intro n
  induction n with
  | zero => intro pc lv st h o h' hr; cases hr
  | succ n ih =>
    intro pc lv st h o h' hr
    unfold mi_run at hr
    split at hr
    · cases hr
    · next q hq => cases hr; exact mi_step_le hc hq
    · next q hq => exact (mi_step_le hc hq).tr (ih _ _ _ _ _ _ hr)
theorem mi_call_le {P : mi_P} {L : Nat} {xs : Nat → Int32} {fuel : Nat} : ∀ (d k : Nat) (as : List Value) (g : mi_H) (o : mi_O) (g' : mi_H), mi_call P L xs fuel d k as g = some (o, g') → mi_le g g' := by
  intro d
  induction d with
  | zero => intro k as g o g' h; cases h
  | succ d ih =>
    intro k as g o g' h
    unfold mi_call at h
    split at h
    · exact mi_run_le (fun k as g o g' h => ih k as g o g' h) _ _ _ _ _ _ _ h
    · cases h
end
section
/-! The machine does what the small machine does: calls, throws, whole methods. -/
/-- a call's place by its words -/
def mi_sok (GT : List Cond) (cl : List vw_C) (P : mi_P) (own : String) (ix k kind n : Nat) : Prop :=
  kind = 6 ∨ (kind = 3 ∧ Cond.methodLink own ix Lib.objectInit ∈ GT ∧ Cond.instanceMethod Lib.objectInit ∈ GT ∧ Cond.code Lib.objectInit ⟨#[0xb1]⟩ 1 none ∈ GT) ∨
  (kind ≠ 3 ∧ ((mi_nm P k).cls ≠ "java/lang/invoke/MethodHandle" ∧ (mi_nm P k).cls ≠ "java/lang/invoke/VarHandle") ∧ (parseMethodDescriptor (mi_nm P k).desc).map (fun d => d.parameters.length) = some n ∧ Cond.initialized (mi_nm P k).cls ∈ GT ∧ mi_cw P k ∈ GT ∧ mi_mx P k ≤ 45 ∧
    ((kind = 0 ∧ (mi_hh P k).isEmpty = true ∧ Cond.methodLink own ix (mi_nm P k) ∈ GT ∧ Cond.instanceMethod (mi_nm P k) ∈ GT ∧ Cond.selects (mi_nm P k).cls (mi_nm P k) (mi_nm P k) ∈ GT ∧ ∃ (T : u_T) (N : Nat), cl[mi_kc P k]? = some ((mi_nm P k).cls, T, N)) ∨
     (kind = 1 ∧ (mi_hh P k).isEmpty = true ∧ Cond.methodLink own ix (mi_nm P k) ∈ GT ∧ Cond.static (mi_nm P k) ∈ GT) ∨
     (kind = 2 ∧ (mi_hh P k).isEmpty = true ∧ Cond.methodLink own ix (mi_nm P k) ∈ GT ∧ Cond.instanceMethod (mi_nm P k) ∈ GT ∧ (mi_nm P k).name = "<init>" ∧ mi_rt P k = none) ∨
     (kind = 4 ∧ (mi_hh P k).isEmpty = true ∧ (∃ host, Cond.methodLinkNest own ix (mi_nm P k) host ∈ GT) ∧ Cond.static (mi_nm P k) ∈ GT) ∨
     (kind = 5 ∧ (mi_hh P k).isEmpty = false ∧ Cond.methodLink own ix (mi_nm P k) ∈ GT ∧ Cond.static (mi_nm P k) ∈ GT)))
/-- a catch by its words -/
def mi_cok (GT : List Cond) (P : mi_P) (NC : List (String × String)) (j pc : Nat) (E : String) (hp : Nat) : Prop :=
  ∃ (pre : List ExceptionTableEntry) (x : ExceptionTableEntry) (suf : List ExceptionTableEntry) (name : String), tableOf (mi_hh P j) = pre ++ x :: suf ∧ x.handlerPc = hp ∧ covers x pc = true ∧ x.catchType ≠ 0 ∧ Cond.classLink (mi_nm P j).cls x.catchType name ∈ GT ∧ Cond.castable E name ∈ GT ∧
    ∀ z ∈ pre, covers z pc = false ∨ (z.catchType ≠ 0 ∧ ∃ nm : String, Cond.classLink (mi_nm P j).cls z.catchType nm ∈ GT ∧ (E, nm) ∈ NC)
theorem mi_ws_ok {GT : List Cond} {P : mi_P} {k : Nat} {s : State} {args : Array Value} (hwk : ∀ w ∈ GT, mi_wk w = true) (hts : ∀ w ∈ GT, w.before args s = true) (hc : mi_cw P k ∈ GT) : ∀ w ∈ mi_ws GT P k, ∀ (a' : Array Value) (U : State), s.WarmedH U.vm → w.before a' U = true := by
  intro w hw a' U hW
  have hw : w ∈ GT := by
    rcases List.mem_cons.mp hw with h | h
    · rw [h]; exact hc
    · exact h
  exact mi_wk_ok (hwk w hw) hW (hts w hw)
section MiInv
variable {p : Program} {l : Launch} {e : Env} {R : Room} {s : State} {m : MethodId} {args : Array Value} {below : List Frame} {meth : Method} {c : Code} {H : Heap} {locs : List Loc} {cells slots : Nat} {Q : State → Prop}
variable {pc : Nat} {ls : Array Slot} {b : Nat → Nat} {B : Nat} {D : va_G} {cl : List vw_C} {tA : FieldType → ClassId} {GT : List Cond} {P : mi_P} {j d L n0 s0 : Nat} {xs : Nat → Int32} {SK : List (String × Nat × String × Nat)} {NC : List (String × String)} {ZT : State → Prop} {h : mi_H} {lv : mi_L}
theorem mi_recv (hK : va_K D cl (mi_tys tA) s) (hR : mi_R D cl tA b B h H) {a ci : Nat} {fs : List Value} {C : String} {T : u_T} {N : Nat} (hc : cl[ci]? = some (C, T, N)) (ha : a ≠ 0) (hg : mi_get h a = some (.inr (ci, fs))) : ∃ cellB : Cell, H[mi_ad b B a]? = some cellB ∧ cellB.vm.isStatics = false ∧ s.vm.findClass C = some cellB.cls := by
  obtain ⟨cell, g1, g2, g3, -⟩ := (mi_get_ok hR hg ha).1 _ hc
  exact ⟨cell, g1, by rw [g3]; rfl, by rw [g2]; exact (hK.1 ci _ hc).2.1⟩
theorem mi_len_of {y : MethodName} {n : Nat} (hd : (parseMethodDescriptor y.desc).map (fun d => d.parameters.length) = some n) : ∀ sig, parseMethodDescriptor y.desc = some sig → n = sig.parameters.length := by
  intro sig h
  rw [h] at hd
  exact (Option.some.inj hd).symm
theorem mi_caught (hx : p.tables.exec = Jvm.exec) (hb : c.code = mi_cd P j) (htab : c.exceptionTable.toList = tableOf (mi_hh P j)) (hts : ∀ w ∈ GT, w.before args s = true) (hown : s.vm.findClass (mi_nm P j).cls = some m.cls) (hZ : mi_Z b B SK NC ZT s)
    {E : String} {hp : Nat} (hc : mi_cok GT P NC j pc E hp) {q : Addr} {ce : Cell} (hcell : H[q]? = some ce) (hv : ce.vm = .none) (hcl : s.vm.findClass E = some ce.cls) {rest : List Value}
    (kk : W p l e R s m args below meth c H locs cells slots Q (F0 m hp ls [.ref q])) : vx_W p l e R s m args below meth c H locs cells slots Q (F0 m pc ls rest) q := by
  obtain ⟨pre, x, suf, name, hsplit, hhp, hcov, h0, hlink, hcast, hpass⟩ := hc
  intro T hT X
  have hpl : e.platform.magicAccessors = ({} : Platform).magicAccessors := by rw [X.admits.platform]
  obtain ⟨c3, c4, hc3, hc4, hasg⟩ := Cond.castable_spec (hts _ hcast)
  cases Option.some.inj (hc3.symm.trans hcl)
  obtain ⟨c5, hc5, hcl5⟩ := Cond.classLink_spec hown (hts _ hlink) e.platform hpl
  cases Option.some.inj (hc4.symm.trans hc5)
  have hk0 : ∃ k, s.vm.classes[ce.cls]? = some k := by obtain ⟨k9, h9, -⟩ := Vm.findClass_spec hcl; exact ⟨k9, h9⟩
  obtain ⟨vm', hW', hq⟩ := mi_search (e := e) (s₀ := s) (f := F0 m pc ls rest) (a := q) (cell := ce) (by rw [hv]; intro k z; cases z) hk0 x suf hcov h0 hcl5 hasg pre ((T.setTop (F0 m pc ls rest)).pushFrame (.throwing q)) X.warmed (by show T.heap[q]? = some ce; rw [hT]; exact hcell)
    (fun z hz => by
      rcases hpass z hz with h | ⟨hz0, nm, hl1, hn1⟩
      · exact Or.inl h
      · obtain ⟨c6, hc6, hcl6⟩ := Cond.classLink_spec hown (hts _ hl1) e.platform hpl
        obtain ⟨a8, b8, h1, h2, h3⟩ := hZ.2.2.2.1 _ hn1
        cases Option.some.inj (h1.symm.trans hcl)
        cases Option.some.inj (h2.symm.trans hc6)
        exact Or.inr ⟨hz0, _, hcl6, h3⟩)
  obtain ⟨t, a1, b1⟩ := kk (T.setVm vm') hT (X.noted hW')
  refine ⟨t, mi_caughtTo (s := T) (g := F0 m pc ls rest) (c := c) (vm' := vm') (pc := x.handlerPc) X.here (fun Q E d acts => ?_) ?_, b1⟩
  · rw [W.findHandler_eq (meth := meth) (code := c) X.method' X.code, htab, hsplit]
    exact hq Q E d acts
  · rw [hhp]
    exact a1
/-- members of texts answer as the program's table says -/
def mi_prim (b : Nat → Nat) (B : Nat) (GT : List Cond) (P : mi_P) (ZT : State → Prop) : Prop :=
  ∀ (p : Program) (l : Launch) (e : Env) (R : Room) (s : State) (m : MethodId) (args : Array Value) (below : List Frame) (meth : Method) (c : Code) (Q : State → Prop) (j ix k n t pc : Nat) (as r : List Value) (v : Value) (ls : Array Slot) (H : Heap) (locs : List Loc) (cells slots : Nat),
    p.tables.exec = Jvm.exec → c.code = mi_cd P j → c.maxLocals = ls.size → s.vm.findClass (mi_nm P j).cls = some m.cls → (∀ w ∈ GT, w.before args s = true) → ZT s → va_S (fun q => B ≤ q) s.heap H locs → 10 ≤ R.frames → 200 ≤ R.locals → cells ≤ R.cells → slots ≤ R.slots →
    mi_iv P j ix = some (k, 6, n) → as.length = n → mi_pr P k (.retAddr t :: as) = some v → (r.map fun v => v.category).sum ≤ 8 → decode (mi_cd P j) pc = .ok (.invokevirtual ix, 3) →
    W p l e R s m args below meth c H locs cells slots Q (F0 m (pc + 3) ls ((v :: r).map (mi_v b B))) → W p l e R s m args below meth c H locs cells slots Q (F0 m pc ls ((as.reverse ++ .retAddr t :: r).map (mi_v b B)))
set_option maxHeartbeats 4000000 in
theorem mi_inv_ok (hZT : mi_sta B ZT) (hprim : mi_prim b B GT P ZT) (hx : p.tables.exec = Jvm.exec) (hb : c.code = mi_cd P j) (hml : c.maxLocals = mi_mx P j) (htab : c.exceptionTable.toList = tableOf (mi_hh P j)) (hwk : ∀ w ∈ GT, mi_wk w = true) (hts : ∀ w ∈ GT, w.before args s = true) (hown : s.vm.findClass (mi_nm P j).cls = some m.cls)
    (hsok : ∀ ix k kind n, mi_iv P j ix = some (k, kind, n) → mi_sok GT cl P (mi_nm P j).cls ix k kind n) (hcok : ∀ pc E hp, mi_ca P j pc E = some hp → mi_cok GT P NC j pc E hp) (hdec : ∀ pc i, mi_is P j pc = some i → mi_dec (mi_cd P j) pc = some i)
    (hK : va_K D cl (mi_tys tA) s) (hX : va_X (b 0) L xs s s.heap) (hbl : b 0 < s.heap.size) (hbB : b 0 < B) (hZ : mi_Z b B SK NC ZT s) (hR : mi_R D cl tA b B h H) (hS : va_S (fun q => B ≤ q) s.heap H locs) (hl : lv_has ls (mi_mx P j) (mi_lm b B lv))
    (hfr : 10 + d + 1 ≤ R.frames) (hlo : 200 + 64 * (d + 1) ≤ R.locals) {call : mi_C} (hcall : ∀ k as g o g', call k as g = some (o, g') → mi_Met D cl tA b B L xs SK NC ZT GT P l d k as g o g' ∧ mi_le g g')
    {i : Instr} {st : List Value} {q : mi_S} (hi : mi_inv P call j i pc lv st h = some q) (hd : decode (mi_cd P j) pc = .ok (i, mi_len i)) (hn0 : n0 + cells = h.1) (hs0 : s0 + slots = h.2.1) (hRc : (mi_snd q).1 ≤ n0 + R.cells) (hRs : (mi_snd q).2.1 ≤ s0 + R.slots)
    (kx : ∀ (E : String) (g' : mi_H) (q9 : Addr) (ce : Cell) (H1 : Heap) (locs1 : List Loc) (cells1 slots1 : Nat) (rest : List Value), q = .inr (.inr E, g') → (mi_hh P j).isEmpty = true → mi_R D cl tA b B g' H1 → va_S (fun q => B ≤ q) s.heap H1 locs1 → n0 + cells1 = g'.1 → s0 + slots1 = g'.2.1 → H1[q9]? = some ce → ce.vm = .none → s.vm.findClass E = some ce.cls → vx_W p l e R s m args below meth c H1 locs1 cells1 slots1 Q (F0 m pc ls rest) q9)
    (kk : ∀ (pc' : Nat) (lv' : mi_L) (st' : List Value) (g' : mi_H) (ls' : Array Slot) (H1 : Heap) (locs1 : List Loc) (cells1 slots1 : Nat), q = .inl (pc', lv', st', g') → lv_has ls' (mi_mx P j) (mi_lm b B lv') → mi_R D cl tA b B g' H1 → va_S (fun q => B ≤ q) s.heap H1 locs1 → n0 + cells1 = g'.1 → s0 + slots1 = g'.2.1 → W p l e R s m args below meth c H1 locs1 cells1 slots1 Q (F0 m pc' ls' (st'.map (mi_v b B)))) : W p l e R s m args below meth c H locs cells slots Q (F0 m pc ls (st.map (mi_v b B))) := by
  unfold mi_inv at hi
  split at hi
  · cases hi
  · next k kind n ix hsite =>
    -- the place and its instruction
    obtain ⟨hiv, hins⟩ : mi_iv P j ix = some (k, kind, n) ∧ ((i = .invokevirtual ix ∧ (kind = 0 ∨ kind = 6)) ∨ (i = .invokestatic ix ∧ (kind = 1 ∨ kind = 4 ∨ kind = 5)) ∨ (i = .invokespecial ix ∧ (kind = 2 ∨ kind = 3))) := by
      unfold mi_site at hsite
      split at hsite
      · split at hsite
        · next hv =>
          split at hsite
          · next hk => cases hsite; exact ⟨hv, Or.inl ⟨rfl, hk⟩⟩
          · cases hsite
        · cases hsite
      · split at hsite
        · next hv =>
          split at hsite
          · next hk => cases hsite; exact ⟨hv, Or.inr (Or.inl ⟨rfl, hk⟩)⟩
          · cases hsite
        · cases hsite
      · split at hsite
        · next hv =>
          split at hsite
          · next hk => cases hsite; exact ⟨hv, Or.inr (Or.inr ⟨rfl, hk⟩)⟩
          · cases hsite
        · cases hsite
      · cases hsite
    have hso := hsok ix k kind n hiv
    split at hi
    · next hk3 =>
      subst hk3
      split at hi
      · next a r =>
        split at hi
        · next hw =>
          cases hi
          obtain ⟨-, w1, w2, w3⟩ : (3 : Nat) = 3 ∧ Cond.methodLink (mi_nm P j).cls ix Lib.objectInit ∈ GT ∧ Cond.instanceMethod Lib.objectInit ∈ GT ∧ Cond.code Lib.objectInit ⟨#[0xb1]⟩ 1 none ∈ GT := by
            rcases hso with z | z | ⟨z, -⟩
            · omega
            · exact z
            · exact absurd rfl z
          have hi3 : i = .invokespecial ix := by
            rcases hins with ⟨-, z⟩ | ⟨-, z⟩ | ⟨z, -⟩
            · omega
            · omega
            · exact z
          subst hi3
          refine W.objInit hx hb hown (hts _ w1) (hts _ w2) (hts _ w3) rfl (by rw [hml]; exact hl.1) (a := mi_ad b B a) (rest := r.map (mi_v b B)) rfl hd (by omega) ?_ ?_
          · have z9 : ((r.map (mi_v b B)).map fun v => v.category).sum ≤ 8 := by rw [mi_cats]; exact hw
            show 2 * 0 + ((r.map (mi_v b B)).map fun v => v.category).sum + 12 ≤ R.locals
            omega
          · exact kk _ _ _ _ ls H locs cells slots rfl hl hR hS hn0 hs0
        · cases hi
      · cases hi
    · next hk3 =>
      split at hi
      · next hk6 =>
        subst hk6
        split at hi
        · next t as r htg =>
          split at hi
          · next hw =>
            split at hi
            · next v hv =>
              cases hi
              have hi6 : i = .invokevirtual ix := by
                rcases hins with ⟨z, -⟩ | ⟨-, z⟩ | ⟨-, z⟩
                · exact z
                · omega
                · omega
              subst hi6
              unfold mi_targs at htg
              split at htg
              · next t' r' hdrop =>
                cases htg
                have hst : st = st.take n ++ .retAddr t :: r := by rw [← hdrop, List.take_append_drop]
                have hlt : n < st.length := by
                  rcases Nat.lt_or_ge n st.length with z | z
                  · exact z
                  · rw [List.drop_eq_nil_of_le z] at hdrop; cases hdrop
                have e9 : (st.take n).reverse.reverse ++ .retAddr t :: r = st := by rw [List.reverse_reverse]; exact hst.symm
                have hgo := hprim p l e R s m args below meth c Q j ix k n t pc (st.take n).reverse r v ls H locs cells slots hx hb (by rw [hml]; exact hl.1.symm) hown hts hZ.2.2.2.2 hS (by omega) (by omega) (by have : h.1 ≤ n0 + R.cells := hRc; omega) (by have : h.2.1 ≤ s0 + R.slots := hRs; omega) hiv (by simp; omega) hv hw hd (kk _ _ _ _ ls H locs cells slots rfl hl hR hS hn0 hs0)
                rw [e9] at hgo
                exact hgo
              · cases htg
            · cases hi
          · cases hi
        · cases hi
      next hk6 =>
      obtain ⟨-, hMH, hlen, hini, hcw, hmx, hso⟩ : kind ≠ 3 ∧ ((mi_nm P k).cls ≠ "java/lang/invoke/MethodHandle" ∧ (mi_nm P k).cls ≠ "java/lang/invoke/VarHandle") ∧ (parseMethodDescriptor (mi_nm P k).desc).map (fun d => d.parameters.length) = some n ∧ Cond.initialized (mi_nm P k).cls ∈ GT ∧ mi_cw P k ∈ GT ∧ mi_mx P k ≤ 45 ∧ _ := by
        rcases hso with z | ⟨z, -⟩ | z
        · exact absurd z hk6
        · exact absurd z hk3
        · exact z
      split at hi
      · cases hi
      · next as r has =>
        split at hi
        · next hwr =>
          obtain ⟨hw, hrc⟩ := hwr
          -- the callee's outcome
          cases hca : call k as h with
          | none => rw [hca] at hi; cases hi
          | some og =>
            obtain ⟨o, g⟩ := og
            rw [hca] at hi
            obtain ⟨hM, hle⟩ := hcall k as h o g hca
            have hmono : h.1 ≤ g.1 ∧ h.2.1 ≤ g.2.1 := hle
            have hgq : mi_snd q = g := by
              cases o with
              | inl v => cases hi; rfl
              | inr E =>
                have hi : (if kind = 2 ∨ kind = 4 then none else mi_exc P j pc lv E g) = some q := hi
                split at hi
                · cases hi
                · exact mi_exc_le hi
            rw [hgq] at hRc hRs
            have hws := mi_ws_ok (k := k) hwk hts hcw
            have hW8 : 2 * (0 : Nat) + ((r.map (mi_v b B)).map fun v => v.category).sum ≤ 8 := by rw [mi_cats]; have : mi_wt r ≤ 8 := hw; unfold mi_wt at this; omega
            have hfit : cells + (g.1 - h.1) ≤ R.cells ∧ slots + (g.2.1 - h.2.1) ≤ R.slots := by omega
            have hroom : (mi_rm d h g).frames + 1 ≤ R.frames ∧ 8 + (mi_mx P k + 11) + (mi_rm d h g).locals ≤ R.locals := by
              show 10 + d + 1 ≤ R.frames ∧ 8 + (mi_mx P k + 11) + (200 + 64 * d) ≤ R.locals
              omega
            have e1 : n0 + (cells + (g.1 - h.1)) = g.1 := by omega
            have e2 : s0 + (slots + (g.2.1 - h.2.1)) = g.2.1 := by omega
            have S : CallFix p m c (mi_cd P j) (mi_mx P j) s args GT (mi_nm P j).cls := ⟨hx, hb, hml, hown, hts⟩
            have hcode : (mi_hh P k).isEmpty = true → Cond.code (mi_nm P k) (mi_cd P k) (mi_mx P k) (mi_rt P k) ∈ mi_ws GT P k ∧ (Cond.code (mi_nm P k) (mi_cd P k) (mi_mx P k) (mi_rt P k)).before args s = true := by
              intro z
              have : mi_cw P k = Cond.code (mi_nm P k) (mi_cd P k) (mi_mx P k) (mi_rt P k) := by unfold mi_cw; rw [if_pos z]
              rw [← this]
              exact ⟨List.mem_cons_self, hts _ hcw⟩
            -- what follows the call
            have fin : ∀ (st0 : List Value) (a9 : Array Value), st0 = st.map (mi_v b B) → (kind = 2 ∨ kind = 4 → ∃ v, o = .inl v) →
                vx_Run p l e R s m args below meth c H locs cells slots (g.1 - h.1) (g.2.1 - h.2.1) (F0 m pc ls st0) (r.map (mi_v b B)) (mi_QO D cl tA b B o g a9) (mi_XO D cl tA b B o g) (fun q => B ≤ q) → W p l e R s m args below meth c H locs cells slots Q (F0 m pc ls (st.map (mi_v b B))) := by
              intro st0 a9 hst hno hr
              rw [← hst]
              refine mi_after hr hS (fun E ce q9 H1 locs1 ho r1 r2 hce hcv hcl9 => ?_) (fun v H1 locs1 ho r1 r2 => ?_)
              · subst ho
                have hi : (if kind = 2 ∨ kind = 4 then none else mi_exc P j pc lv E g) = some q := hi
                split at hi
                · cases hi
                · unfold mi_exc at hi
                  split at hi
                  · split at hi
                    · next hhe => exact kx E g q9 ce H1 locs1 _ _ _ (Option.some.inj hi).symm hhe r1 r2 e1 e2 hce hcv hcl9
                    · cases hi
                  · next hp hcaught =>
                    have hco := hcok pc E hp hcaught
                    split at hi
                    · next qn hins2 =>
                      split at hi
                      · next hlt =>
                        have hd2 := (mi_dec_ok (hdec hp _ hins2)).1 rfl
                        refine mi_caught hx hb htab hts hown hZ hco hce hcv hcl9 ?_
                        refine lv_astore_n hx hb hd2 rfl hl hlt rfl (fun ls' hl' => ?_)
                        refine kk _ _ _ _ ls' H1 locs1 _ _ (Option.some.inj hi).symm ?_ r1 r2 e1 e2
                        refine ⟨hl'.1, hl'.2.1, fun z hz => hl'.2.2 z (List.mem_cons_of_mem _ ?_)⟩
                        unfold mi_sub mi_lm at hz
                        unfold mi_lm
                        obtain ⟨y, hy, rfl⟩ := List.mem_map.mp hz
                        obtain ⟨hy1, hy2⟩ := List.mem_filter.mp hy
                        refine List.mem_filter.mpr ⟨List.mem_map.mpr ⟨y, hy1, rfl⟩, ?_⟩
                        simpa only [mi_v_cat] using hy2
                      · cases hi
                    · next qn hins2 =>
                      split at hi
                      · next hlt =>
                        have hd2 := (mi_dec_ok (hdec hp _ hins2)).1 rfl
                        refine mi_caught hx hb htab hts hown hZ hco hce hcv hcl9 ?_
                        refine lv_astore hx hb hd2 hl hlt rfl (fun ls' hl' => ?_)
                        refine kk _ _ _ _ ls' H1 locs1 _ _ (Option.some.inj hi).symm ?_ r1 r2 e1 e2
                        refine ⟨hl'.1, hl'.2.1, fun z hz => hl'.2.2 z (List.mem_cons_of_mem _ ?_)⟩
                        unfold mi_sub mi_lm at hz
                        unfold mi_lm
                        obtain ⟨y, hy, rfl⟩ := List.mem_map.mp hz
                        obtain ⟨hy1, hy2⟩ := List.mem_filter.mp hy
                        refine List.mem_filter.mpr ⟨List.mem_map.mpr ⟨y, hy1, rfl⟩, ?_⟩
                        simpa only [mi_v_cat] using hy2
                      · cases hi
                    · cases hi
              · subst ho
                exact kk _ _ _ _ ls H1 locs1 _ _ (Option.some.inj hi).symm hl r1 r2 e1 e2
            have hno : kind = 2 ∨ kind = 4 → ∃ v, o = .inl v := by
              intro z
              cases o with
              | inl v => exact ⟨v, rfl⟩
              | inr E =>
                have hi : (if kind = 2 ∨ kind = 4 then none else mi_exc P j pc lv E g) = some q := hi
                rw [if_pos z] at hi
                cases hi
            unfold mi_cargs at has
            split at has
            · next hk02 =>
              split at has
              · next a r' hdrop =>
                cases has
                have hst : st = st.take n ++ .ref a :: r := by rw [← hdrop, List.take_append_drop]
                have hln : ((st.take n).reverse.map (mi_v b B)).length = n := by
                  have : n < st.length := by
                    rcases Nat.lt_or_ge n st.length with z | z
                    · exact z
                    · rw [List.drop_eq_nil_of_le z] at hdrop; cases hdrop
                  simp
                  omega
                have hstk : st.map (mi_v b B) = ((st.take n).reverse.map (mi_v b B)).reverse ++ .ref (mi_ad b B a) :: r.map (mi_v b B) := by
                  conv => lhs; rw [hst]
                  simp [mi_v]
                rcases hk02 with hk0 | hk2
                · subst hk0
                  have hi0 : i = .invokevirtual ix := by
                    rcases hins with ⟨z, -⟩ | ⟨-, z⟩ | ⟨-, z⟩
                    · exact z
                    · omega
                    · omega
                  subst hi0
                  obtain ⟨-, hhe, w1, w2, w3, T, N, hc⟩ : (0 : Nat) = 0 ∧ (mi_hh P k).isEmpty = true ∧ Cond.methodLink (mi_nm P j).cls ix (mi_nm P k) ∈ GT ∧ Cond.instanceMethod (mi_nm P k) ∈ GT ∧ Cond.selects (mi_nm P k).cls (mi_nm P k) (mi_nm P k) ∈ GT ∧ ∃ (T : u_T) (N : Nat), cl[mi_kc P k]? = some ((mi_nm P k).cls, T, N) := by
                    rcases hso with z | ⟨z, -⟩ | ⟨z, -⟩ | ⟨z, -⟩ | ⟨z, -⟩
                    · exact z
                    all_goals omega
                  obtain ⟨ha0, fs, hga⟩ : a ≠ 0 ∧ ∃ fs, mi_get h a = some (.inr (mi_kc P k, fs)) := by
                    have z := hrc rfl
                    unfold mi_rc at z
                    dsimp only at z
                    split at z
                    · next ci fs hg =>
                      simp only [Bool.and_eq_true, decide_eq_true_eq] at z
                      obtain ⟨z1, z2⟩ := z
                      subst z2
                      exact ⟨z1, fs, hg⟩
                    · cases z
                  refine fin _ (Value.ref (mi_ad b B a) :: (st.take n).reverse.map (mi_v b B)).toArray hstk.symm hno ?_
                  exact vx_runV (C := (mi_nm P k).cls) (bytes := mi_cd P k) (maxL := mi_mx P k) (ret := mi_rt P k) (b := mi_ad b B a) (As := (st.take n).reverse.map (mi_v b B)) S hM ⟨⟨rfl, rfl, hroom.1, hroom.2, hws, (hcode hhe).1, (hcode hhe).2, hts _ hini, hMH, mi_len_of hlen, hts _ w1⟩, hts _ w2, hts _ w3⟩
                    ⟨mi_blind hZT _, mi_recv hK hR hc ha0 hga, fun U hU hW => mi_pre hZT hK hX hbl hbB hZ hR hS (.ref a :: (st.take n).reverse) U hU hW⟩ rfl hln hl.1 rfl hW8 hd hfit
                · subst hk2
                  have hi0 : i = .invokespecial ix := by
                    rcases hins with ⟨-, z⟩ | ⟨-, z⟩ | ⟨z, -⟩
                    · omega
                    · omega
                    · exact z
                  subst hi0
                  obtain ⟨-, hhe, w1, w2, w3, w4⟩ : (2 : Nat) = 2 ∧ (mi_hh P k).isEmpty = true ∧ Cond.methodLink (mi_nm P j).cls ix (mi_nm P k) ∈ GT ∧ Cond.instanceMethod (mi_nm P k) ∈ GT ∧ (mi_nm P k).name = "<init>" ∧ mi_rt P k = none := by
                    rcases hso with ⟨z, -⟩ | ⟨z, -⟩ | z | ⟨z, -⟩ | ⟨z, -⟩
                    · omega
                    · omega
                    · exact z
                    all_goals omega
                  obtain ⟨v, rfl⟩ := hno (Or.inl rfl)
                  have hcn := hcode hhe
                  rw [w4] at hcn
                  refine fin _ (Value.ref (mi_ad b B a) :: (st.take n).reverse.map (mi_v b B)).toArray hstk.symm hno (mi_vaRun ?_)
                  exact va_runI (bytes := mi_cd P k) (maxL := mi_mx P k) (b := mi_ad b B a) (As := (st.take n).reverse.map (mi_v b B)) S (mi_noX hM) ⟨⟨rfl, rfl, hroom.1, hroom.2, hws, hcn.1, hcn.2, hts _ hini, hMH, mi_len_of hlen, hts _ w1⟩, w3, hts _ w2⟩
                    ⟨mi_blind hZT _, fun U hU hW => mi_pre hZT hK hX hbl hbB hZ hR hS (.ref a :: (st.take n).reverse) U hU hW⟩ rfl hln hl.1 rfl hW8 hd hfit
              · cases has
            · next hk02 =>
              split at has
              · next hle9 =>
                cases has
                have hln : ((st.take n).reverse.map (mi_v b B)).length = n := by
                  simp
                  omega
                have hstk : st.map (mi_v b B) = ((st.take n).reverse.map (mi_v b B)).reverse ++ (st.drop n).map (mi_v b B) := by
                  conv => lhs; rw [← List.take_append_drop n st]
                  simp
                have hi0 : i = .invokestatic ix := by
                  rcases hins with ⟨-, z⟩ | ⟨z, -⟩ | ⟨-, z⟩
                  · rcases z with z | z
                    · exact absurd (Or.inl z) hk02
                    · exact absurd z hk6
                  · exact z
                  · rcases z with z | z
                    · exact absurd (Or.inr z) hk02
                    · exact absurd z hk3
                subst hi0
                rcases hso with ⟨z, -⟩ | ⟨z, hhe, w1, w2⟩ | ⟨z, -⟩ | ⟨z, hhe, ⟨host, w1⟩, w2⟩ | ⟨z, hhe, w1, w2⟩
                · exact absurd (Or.inl z) hk02
                · refine fin _ ((st.take n).reverse.map (mi_v b B)).toArray hstk.symm hno ?_
                  exact vx_runS (bytes := mi_cd P k) (maxL := mi_mx P k) (ret := mi_rt P k) (As := (st.take n).reverse.map (mi_v b B)) S hM ⟨⟨rfl, rfl, hroom.1, hroom.2, hws, (hcode hhe).1, (hcode hhe).2, hts _ hini, hMH, mi_len_of hlen, hts _ w1⟩, hts _ w2⟩
                    ⟨mi_blind hZT _, fun U hU hW => mi_pre hZT hK hX hbl hbB hZ hR hS ((st.take n).reverse) U hU hW⟩ rfl hln hl.1 rfl hW8 hd hfit
                · exact absurd (Or.inr z) hk02
                · obtain ⟨v, rfl⟩ := hno (Or.inr z)
                  refine fin _ ((st.take n).reverse.map (mi_v b B)).toArray hstk.symm hno (mi_vaRun ?_)
                  exact va_runSN (host := host) (bytes := mi_cd P k) (maxL := mi_mx P k) (ret := mi_rt P k) (As := (st.take n).reverse.map (mi_v b B)) S (mi_noX hM) ⟨⟨⟨rfl, rfl, hroom.1, hroom.2, hws, (hcode hhe).1⟩, (hcode hhe).2, hts _ hini, hMH, mi_len_of hlen, hts _ w1⟩, hts _ w2, trivial⟩
                    ⟨mi_blind hZT _, fun U hU hW => mi_pre hZT hK hX hbl hbB hZ hR hS ((st.take n).reverse) U hU hW⟩ rfl hln hl.1 rfl hW8 hd hfit
                · have hcwx : mi_cw P k = Cond.codeWith (mi_nm P k) (mi_cd P k) (mi_mx P k) (mi_rt P k) (mi_hh P k) := by unfold mi_cw; rw [if_neg (by rw [hhe]; decide)]
                  refine fin _ ((st.take n).reverse.map (mi_v b B)).toArray hstk.symm hno ?_
                  exact vx_runSX (hh := mi_hh P k) (bytes := mi_cd P k) (maxL := mi_mx P k) (ret := mi_rt P k) (As := (st.take n).reverse.map (mi_v b B)) S hM ⟨⟨rfl, rfl, hroom.1, hroom.2, hws, by rw [← hcwx]; exact List.mem_cons_self⟩, by rw [← hcwx]; exact hts _ hcw, hts _ hini, hMH, mi_len_of hlen, hts _ w1, hts _ w2⟩
                    ⟨mi_blind hZT _, fun U hU hW => mi_pre hZT hK hX hbl hbB hZ hR hS ((st.take n).reverse) U hU hW⟩ rfl hln hl.1 rfl hW8 hd hfit
              · cases has
        · cases hi
end MiInv
end
section
/-! Whole runs of methods: the machine does what the small machine does. -/
/-- a throw's place by its words -/
def mi_tok (GT : List Cond) (P : mi_P) (SK : List (String × Nat × String × Nat)) (j pc : Nat) (E : String) : Prop :=
  ∃ (text : String) (names : List String) (ik is ic tt : Nat), ((mi_nm P j).cls, is, text, tt) ∈ SK ∧ Bundle.fit E = true ∧ (∀ n ∈ names, Bundle.fit n = true) ∧ names.length ≤ 4 ∧ Cond.classLink (mi_nm P j).cls ik E ∈ GT ∧ Cond.initialized E ∈ GT ∧ (∀ w ∈ vx_atS (mi_nm P j).cls ic E names, w ∈ GT) ∧
    (∀ w ∈ Cond.classLink (mi_nm P j).cls ik E :: Cond.initialized E :: vx_atS (mi_nm P j).cls ic E names, vx_ot w = true) ∧ (mi_hh P j).isEmpty = true ∧
    decode (mi_cd P j) pc = .ok (.new ik, 3) ∧ decode (mi_cd P j) (pc + 3) = .ok (.dup, 1) ∧ decode (mi_cd P j) (pc + 4) = .ok (.ldc is, 2) ∧ decode (mi_cd P j) (pc + 6) = .ok (.invokespecial ic, 3) ∧ decode (mi_cd P j) (pc + 9) = .ok (.athrow, 1)
/-- all that is asked of a method's tables -/
def mi_jok (GT : List Cond) (cl : List vw_C) (P : mi_P) (SK : List (String × Nat × String × Nat)) (NC : List (String × String)) (j : Nat) : Prop :=
  mi_plc GT cl P j ∧ (∀ pc i, mi_is P j pc = some i → mi_dec (mi_cd P j) pc = some i) ∧ (∀ ix k kind n, mi_iv P j ix = some (k, kind, n) → mi_sok GT cl P (mi_nm P j).cls ix k kind n) ∧ (∀ pc E, mi_th P j pc = some E → mi_tok GT P SK j pc E) ∧ (∀ pc E hp, mi_ca P j pc E = some hp → mi_cok GT P NC j pc E hp) ∧ plainFor (mi_nm P j) = true ∧ (∀ ix t, mi_cs P j ix = some (.retAddr t) → ∃ text, ((mi_nm P j).cls, ix, text, t) ∈ SK)
/-- .. and of all of them -/
def mi_ok (GT : List Cond) (cl : List vw_C) (P : mi_P) (SK : List (String × Nat × String × Nat)) (NC : List (String × String)) : Prop :=
  (Cond.arrayClass .int ∈ GT ∧ Cond.arrayClass .long ∈ GT ∧ Cond.arrayClass .boolean ∈ GT) ∧ mi_cls GT cl (mi_ft P) ∧ (∀ w ∈ GT, mi_wk w = true) ∧ cl.length ≤ 1000000 ∧ ∀ j, mi_jok GT cl P SK NC j
section MiFrame
variable {p : Program} {l : Launch} {e : Env} {R : Room} {s : State} {m : MethodId} {args : Array Value} {below : List Frame} {meth : Method} {c : Code} {Q : State → Prop}
variable {b : Nat → Nat} {B : Nat} {D : va_G} {cl : List vw_C} {tA : FieldType → ClassId} {GT : List Cond} {P : mi_P} {j d L n0 s0 : Nat} {xs : Nat → Int32} {SK : List (String × Nat × String × Nat)} {NC : List (String × String)} {ZT : State → Prop}
set_option maxHeartbeats 2000000 in
theorem mi_run_ok (hZT : mi_sta B ZT) (hprim : mi_prim b B GT P ZT) (hok : mi_ok GT cl P SK NC) (hx : p.tables.exec = Jvm.exec) (hb : c.code = mi_cd P j) (hml : c.maxLocals = mi_mx P j) (htab : c.exceptionTable.toList = tableOf (mi_hh P j)) (hts : ∀ w ∈ GT, w.before args s = true) (hown : s.vm.findClass (mi_nm P j).cls = some m.cls) (hname : (mi_nm P j).name = "<init>" → meth.name = "<init>")
    (hK : va_K D cl (mi_tys tA) s) (hX : va_X (b 0) L xs s s.heap) (hbl : b 0 < s.heap.size) (hbB : b 0 < B) (hZ : mi_Z b B SK NC ZT s)
    (hfr : 10 + d + 1 ≤ R.frames) (hlo : 200 + 64 * (d + 1) ≤ R.locals) {call : mi_C} (hcall : ∀ k as g o g', call k as g = some (o, g') → mi_Met D cl tA b B L xs SK NC ZT GT P l d k as g o g' ∧ mi_le g g')
    {o : mi_O} {h' : mi_H} (hRc : h'.1 ≤ n0 + R.cells) (hRs : h'.2.1 ≤ s0 + R.slots)
    (KR : ∀ (pc : Nat) (i : Instr) (st : List Value) (v : Option Value) (ls : Array Slot) (H : Heap) (locs : List Loc) (cells slots : Nat), o = .inl v → mi_is P j pc = some i → mi_ret (mi_rt P j) i st = some v → mi_R D cl tA b B h' H → va_S (fun q => B ≤ q) s.heap H locs → n0 + cells = h'.1 → s0 + slots = h'.2.1 → W p l e R s m args below meth c H locs cells slots Q (F0 m pc ls (st.map (mi_v b B))))
    (KT : ∀ (pc : Nat) (E : String) (h1 : mi_H) (ls : Array Slot) (H : Heap) (locs : List Loc) (cells slots : Nat), o = .inr E → mi_th P j pc = some E → h' = mi_push h1 6 mi_dead → ls.size = mi_mx P j → mi_R D cl tA b B h1 H → va_S (fun q => B ≤ q) s.heap H locs → n0 + cells = h1.1 → s0 + slots = h1.2.1 → W p l e R s m args below meth c H locs cells slots Q (F0 m pc ls []))
    (KX : ∀ (pc : Nat) (E : String) (q9 : Addr) (ce : Cell) (ls : Array Slot) (H : Heap) (locs : List Loc) (cells slots : Nat) (rest : List Value), o = .inr E → (mi_hh P j).isEmpty = true → mi_R D cl tA b B h' H → va_S (fun q => B ≤ q) s.heap H locs → n0 + cells = h'.1 → s0 + slots = h'.2.1 → H[q9]? = some ce → ce.vm = .none → s.vm.findClass E = some ce.cls → vx_W p l e R s m args below meth c H locs cells slots Q (F0 m pc ls rest) q9) :
    ∀ (n pc : Nat) (lv : mi_L) (st : List Value) (h : mi_H), mi_run P L xs call j n pc lv st h = some (o, h') → ∀ (ls : Array Slot) (H : Heap) (locs : List Loc) (cells slots : Nat), lv_has ls (mi_mx P j) (mi_lm b B lv) → mi_R D cl tA b B h H → va_S (fun q => B ≤ q) s.heap H locs → n0 + cells = h.1 → s0 + slots = h.2.1 →
      W p l e R s m args below meth c H locs cells slots Q (F0 m pc ls (st.map (mi_v b B))) := by
  obtain ⟨har, hcls, hwk, hcl, hj⟩ := hok
  obtain ⟨hplc, hdec, hsok, htok, hcok, -, hstk⟩ := hj j
  have hstr : ∀ ix t, mi_cs P j ix = some (.retAddr t) → ∃ text, vk_R (mi_nm P j).cls ix text (b (t + 1)) s := fun ix t z => by
    obtain ⟨text, hm⟩ := hstk ix t z
    exact ⟨text, hZ.2.2.1 _ hm⟩
  have hcle : ∀ k as g o g', call k as g = some (o, g') → mi_le g g' := fun k as g o g' z => (hcall k as g o g' z).2
  intro n
  induction n with
  | zero => intro pc lv st h hr; cases hr
  | succ n ih =>
    intro pc lv st h hr ls H locs cells slots hl hR hS hn0 hs0
    unfold mi_run at hr
    split at hr
    · cases hr
    · next q hq =>
      -- the end
      cases hr
      unfold mi_step at hq
      split at hq
      · next E hE =>
        split at hq
        · next hst =>
          cases hq
          have hst : st = [] := List.isEmpty_iff.mp hst
          subst hst
          exact KT pc E h ls H locs cells slots rfl hE rfl hl.1 hR hS hn0 hs0
        · cases hq
      · split at hq
        · cases hq
        · next i hi =>
          have hdi := hdec pc i hi
          split at hq
          · cases hq
          · split at hq
            · cases hq
            · split at hq
              · cases hq
              · split at hq
                · cases hq
                · split at hq
                  · next v hv =>
                    cases hq
                    exact KR pc i st v ls H locs cells slots rfl hi hv hR hS hn0 hs0
                  · next hret =>
                    have hsw : mi_sw i = false := by
                      cases hs : mi_sw i with
                      | false => rfl
                      | true =>
                        unfold mi_inv at hq
                        have hz : mi_site P j i = none := by
                          unfold mi_sw at hs
                          unfold mi_site
                          split at hs <;> first | rfl | (cases hs)
                        rw [hz] at hq
                        cases hq
                    refine mi_inv_ok hZT hprim hx hb hml htab hwk hts hown hsok hcok hdec hK hX hbl hbB hZ hR hS hl hfr hlo hcall hq ((mi_dec_ok hdi).1 hsw) hn0 hs0 hRc hRs (fun E g' q9 ce H1 locs1 cells1 slots1 rest e1 hhe r1 r2 z1 z2 hce hcv hcl9 => ?_) (fun pc' lv' st' g' ls' H1 locs1 cells1 slots1 e1 => ?_)
                    · cases e1
                      exact KX pc E q9 ce ls H1 locs1 cells1 slots1 rest rfl hhe r1 r2 z1 z2 hce hcv hcl9
                    · cases e1
    · next q hq =>
      -- one step
      have hle := mi_run_le hcle _ _ _ _ _ _ _ hr
      unfold mi_step at hq
      split at hq
      · split at hq
        · cases hq
        · cases hq
      · split at hq
        · cases hq
        · next i hi =>
          have hdi := hdec pc i hi
          split at hq
          · next st' hst' =>
            cases hq
            have hsw : mi_sw i = false := by
              cases hs : mi_sw i with
              | false => rfl
              | true =>
                unfold mi_sw at hs
                split at hs
                · cases hst'
                · cases hst'
                · cases hs
            exact mi_pure_ok hx hb hst' ((mi_dec_ok hdi).1 hsw) (ih _ _ _ _ hr ls H locs cells slots hl hR hS hn0 hs0)
          · split at hq
            · next q2 hq2 =>
              cases hq
              have hsw : mi_sw i = false := by
                cases hs : mi_sw i with
                | false => rfl
                | true =>
                  unfold mi_sw at hs
                  split at hs
                  · cases hq2
                  · cases hq2
                  · cases hs
              obtain ⟨lv2, st2⟩ := q2
              exact mi_loc_ok hx hb hq2 ((mi_dec_ok hdi).1 hsw) hl (fun ls' hl' => ih _ _ _ _ hr ls' H locs cells slots hl' hR hS hn0 hs0)
            · split at hq
              · next q2 hq2 =>
                cases hq
                obtain ⟨pc2, st2⟩ := q2
                exact mi_jmp_ok hx hb hq2 hdi (ih _ _ _ _ hr ls H locs cells slots hl hR hS hn0 hs0)
              · split at hq
                · next q2 hq2 =>
                  cases hq
                  have hsw : mi_sw i = false := by
                    cases hs : mi_sw i with
                    | false => rfl
                    | true =>
                      unfold mi_sw at hs
                      split at hs
                      · cases hq2
                      · cases hq2
                      · cases hs
                  obtain ⟨st2, h2⟩ := q2
                  have hle : h2.1 ≤ h'.1 ∧ h2.2.1 ≤ h'.2.1 := hle
                  exact mi_heap_ok hx hb hts har hcls hplc hown hname hK hX hbl hbB hR hS hstr hq2 ((mi_dec_ok hdi).1 hsw) hn0 hs0 (by omega) (by omega) (fun H1 locs1 cells1 slots1 r1 r2 z1 z2 => ih _ _ _ _ hr ls H1 locs1 cells1 slots1 hl r1 r2 z1 z2)
                · split at hq
                  · cases hq
                  · have hsw : mi_sw i = false := by
                      cases hs : mi_sw i with
                      | false => rfl
                      | true =>
                        unfold mi_inv at hq
                        have hz : mi_site P j i = none := by
                          unfold mi_sw at hs
                          unfold mi_site
                          split at hs <;> first | rfl | (cases hs)
                        rw [hz] at hq
                        cases hq
                    have hle : (mi_snd (.inl q)).1 ≤ h'.1 ∧ (mi_snd (.inl q)).2.1 ≤ h'.2.1 := hle
                    refine mi_inv_ok hZT hprim hx hb hml htab hwk hts hown hsok hcok hdec hK hX hbl hbB hZ hR hS hl hfr hlo hcall hq ((mi_dec_ok hdi).1 hsw) hn0 hs0 (by omega) (by omega) (fun E g' q9 ce H1 locs1 cells1 slots1 rest e1 => ?_) (fun pc' lv' st' g' ls' H1 locs1 cells1 slots1 e1 hl1 r1 r2 z1 z2 => ?_)
                    · cases e1
                    · cases e1
                      exact ih _ _ _ _ hr ls' H1 locs1 cells1 slots1 hl1 r1 r2 z1 z2
end MiFrame
end
section
/-! Contracts of all that the small machine has run. -/
theorem mi_lm_args (b : Nat → Nat) (B : Nat) (as : List Value) : ∀ i : Nat, lv_args i (as.map (mi_v b B)) = mi_lm b B (lv_args i as) := by
  induction as with
  | nil => intro i; rfl
  | cons v t ih =>
    intro i
    show (i, mi_v b B v) :: lv_args (if (mi_v b B v).category = 2 then i + 2 else i + 1) (t.map (mi_v b B)) = (i, mi_v b B v) :: mi_lm b B (lv_args (if v.category = 2 then i + 2 else i + 1) t)
    rw [mi_v_cat, ih]
theorem mi_sl_len (b : Nat → Nat) (B : Nat) (as : List Value) : (lg_sl (as.map (mi_v b B))).length = mi_wt as := by
  induction as with
  | nil => rfl
  | cons v t ih =>
    show (List.flatMap _ (mi_v b B v :: t.map (mi_v b B))).length = (v.category :: t.map fun v => v.category).sum
    rw [List.flatMap_cons, List.length_append, List.sum_cons, mi_v_cat]
    have e1 : (List.flatMap (fun v => if v.category = 2 then [Slot.val v, .second] else [.val v]) (t.map (mi_v b B))).length = (t.map fun v => v.category).sum := ih
    rw [e1]
    rcases lv_cat v with h | h
    · rw [if_neg (by omega), h]; rfl
    · rw [if_pos h, h]; rfl
/-! bodies of methods that the machine has no entry for (vx_ofW, vx_ofWH of the names, with plainFor) -/
theorem mi_ofW {l : Launch} {y : MethodName} {ws ws' : List Cond} {rm : Room} {Pc : Array Value → State → Prop} {Qc : Array Value → State → Outcome → State → Prop} {XC : String → State → State → Prop} {mc ms : Nat} {free : Addr → Prop} {cc : ByteArray} {maxL : Nat} {ret : Option FieldType}
    (hy : plainFor y = true) (hw : ws = Cond.code y cc maxL ret :: ws')
    (body : ∀ p e s m args below meth c s₁, BodyLoose p l y (headSpec ws rm) cc maxL ret e s m args below meth c s₁ → c.maxLocals = maxL → (∀ x ∈ c.exceptionTable.toList, False) → Pc args s →
      W p l e (headSpec ws rm).room s m args below meth c s.heap [] 0 0 (vx_MQ below Qc XC args s mc ms free) (entryFrame m args maxL)) : vx_Met l y ws rm Pc Qc XC mc ms free := by
  refine MetFree.of_bodySF (code := cc) (maxLocals := maxL) (ret := ret) hy ?_ ?_
  · intro args s m h hn
    obtain ⟨meth, c, h1, h2, h3, h4, h5, h6, -, -⟩ := Cond.code_spec hn (atoms_spec (ws := ws) h _ (by rw [hw]; exact List.mem_cons_self))
    exact ⟨meth, c, h1, h2, h3, h4, h5, h6⟩
  · intro p e s m args below meth c s₁ B hml hP _
    have hh0 : s₁.heap = s.heap := by rw [B.state]; rfl
    have ht : ∀ x ∈ c.exceptionTable.toList, False := by
      obtain ⟨meth9, c9, h1, h2, -, -, -, -, h7, -⟩ := Cond.code_spec B.named (atoms_spec (ws := ws) B.pre _ (by rw [hw]; exact List.mem_cons_self))
      cases Option.some.inj (h1.symm.trans B.method)
      cases Option.some.inj (h2.symm.trans (Stand.of_body B).code)
      intro x hx
      rw [Array.isEmpty_iff.mp h7] at hx
      cases hx
    obtain ⟨t, a1, o, b1, b2, b3⟩ := body p e s m args below meth c s₁ B hml ht hP s₁ hh0 (Stand.of_body B)
    exact ⟨t, o, a1, b1, b2, b3⟩
theorem mi_ofWH {l : Launch} {y : MethodName} {ws ws' : List Cond} {rm : Room} {Pc : Array Value → State → Prop} {Qc : Array Value → State → Outcome → State → Prop} {XC : String → State → State → Prop} {mc ms : Nat} {free : Addr → Prop} {cc : ByteArray} {maxL : Nat} {ret : Option FieldType} {hh : List (Nat × Nat × Nat × Nat)}
    (hy : plainFor y = true) (hw : ws = Cond.codeWith y cc maxL ret hh :: ws')
    (body : ∀ p e s m args below meth c s₁, BodyLoose p l y (headSpec ws rm) cc maxL ret e s m args below meth c s₁ → c.maxLocals = maxL → Pc args s →
      W p l e (headSpec ws rm).room s m args below meth c s.heap [] 0 0 (vx_MQ below Qc XC args s mc ms free) (entryFrame m args maxL)) : vx_Met l y ws rm Pc Qc XC mc ms free := by
  refine MetFree.of_bodySF (code := cc) (maxLocals := maxL) (ret := ret) hy ?_ ?_
  · intro args s m h hn
    obtain ⟨m9, meth, c, hn9, h1, h2, h3, h4, -, h5, h6, -⟩ := Cond.codeWith_spec (atoms_spec (ws := ws) h _ (by rw [hw]; exact List.mem_cons_self))
    cases hn.symm.trans hn9
    exact ⟨meth, c, h1, h2, h3, h4, h5, h6⟩
  · intro p e s m args below meth c s₁ B hml hP _
    have hh0 : s₁.heap = s.heap := by rw [B.state]; rfl
    obtain ⟨t, a1, o, b1, b2, b3⟩ := body p e s m args below meth c s₁ B hml hP s₁ hh0 (Stand.of_body B)
    exact ⟨t, o, a1, b1, b2, b3⟩
section MiSound
variable {l : Launch} {b : Nat → Nat} {B : Nat} {D : va_G} {cl : List vw_C} {tA : FieldType → ClassId} {GT : List Cond} {P : mi_P} {L : Nat} {xs : Nat → Int32} {SK : List (String × Nat × String × Nat)} {NC : List (String × String)} {ZT : State → Prop} {fuel : Nat}
theorem mi_F_of {s t : State} {H : Heap} {locs : List Loc} (hS : va_S (fun q => B ≤ q) s.heap H locs) (hz : H.size ≤ t.heap.size) (ho : ∀ q : Nat, q < H.size → t.heap[q]? = H[q]?) : va_F (fun q => B ≤ q) s t :=
  ⟨Nat.le_trans hS.1 hz, fun q h1 h2 => (ho q (Nat.lt_of_lt_of_le h1 hS.1)).trans (hS.2.1 q h1 h2)⟩
set_option maxHeartbeats 2000000 in
/-- a frame's run gives the contract's end -/
theorem mi_body {p : Program} {e : Env} {s : State} {m : MethodId} {args : Array Value} {below : List Frame} {meth : Method} {c : Code} {d j : Nat} {as : List Value} {h : mi_H} {o : mi_O} {h' : mi_H} (hZT : mi_sta B ZT) (hprim : mi_prim b B GT P ZT) (hok : mi_ok GT cl P SK NC) (htr : l.stackTraces = false) (hbB : b 0 < B)
    (hcall : ∀ k as g o g', mi_call P L xs fuel d k as g = some (o, g') → mi_Met D cl tA b B L xs SK NC ZT GT P l d k as g o g')
    (hx : p.tables.exec = Jvm.exec) (hb : c.code = mi_cd P j) (hml : c.maxLocals = mi_mx P j) (hr : meth.sig.returnType = mi_rt P j) (hlocks : meth.locks = false) (htab : c.exceptionTable.toList = tableOf (mi_hh P j)) (hts : ∀ w ∈ GT, w.before args s = true) (hown : s.vm.findClass (mi_nm P j).cls = some m.cls) (hname : meth.name = (mi_nm P j).name)
    (hPc : mi_Pc D cl tA b B L xs SK NC ZT as h args s) (hwt : mi_wt as ≤ mi_mx P j) (hrun : mi_run P L xs (mi_call P L xs fuel d) j fuel 0 (lv_args 0 as) [] h = some (o, h')) :
    W p l e (mi_rm (d + 1) h h') s m args below meth c s.heap [] 0 0 (vx_MQ below (mi_QO D cl tA b B o h') (mi_XO D cl tA b B o h') args s (h'.1 - h.1) (h'.2.1 - h.2.1) (fun q => B ≤ q)) (entryFrame m args (mi_mx P j)) := by
  obtain ⟨rfl, hR, hK, hX, hbl, hZ⟩ := hPc
  have hle : mi_le h h' := mi_run_le (fun k as g o g' z => mi_call_le d k as g o g' z) _ _ _ _ _ _ _ hrun
  have hle : h.1 ≤ h'.1 ∧ h.2.1 ≤ h'.2.1 := hle
  have hl := lv_entry (as.map (mi_v b B)) (n := mi_mx P j) (by rw [mi_sl_len]; exact hwt)
  rw [lg_entry_eq]
  generalize (lg_sl (as.map (mi_v b B)) ++ List.replicate (mi_mx P j - (lg_sl (as.map (mi_v b B))).length) Slot.unset).toArray = ls at hl ⊢
  rw [mi_lm_args] at hl
  refine mi_run_ok (R := mi_rm (d + 1) h h') (n0 := h.1) (s0 := h.2.1) (o := o) (h' := h') hZT hprim hok hx hb hml htab hts hown (fun z => by rw [hname]; exact z) hK hX hbl hbB hZ (by show 10 + d + 1 ≤ 10 + (d + 1); omega) (Nat.le_refl _) (fun k as g o g' z => ⟨hcall k as g o g' z, mi_call_le d k as g o g' z⟩)
    (by show h'.1 ≤ h.1 + (h'.1 - h.1); omega) (by show h'.2.1 ≤ h.2.1 + (h'.2.1 - h.2.1); omega) ?_ ?_ ?_ fuel 0 (lv_args 0 as) [] h hrun ls s.heap [] 0 0 hl hR va_S.rf rfl rfl
  · -- returns
    intro pc i st v ls H locs cells slots ho hi hv hR1 hS1 z1 z2
    have hd := (mi_dec_ok ((hok.2.2.2.2 j).2.1 pc i hi)).1
    have c1 : cells = h'.1 - h.1 := by omega
    have c2 : slots = h'.2.1 - h.2.1 := by omega
    subst c1; subst c2; subst ho
    refine vx_ret ?_
    have hq : ∀ t : State, t.heap = H → s.WarmedH t.vm → ∀ w : Option Value, w = v → mi_QO D cl tA b B (.inl v) h' (as.map (mi_v b B)).toArray s (.returned (w.map (mi_v b B))) t := fun t ht hW w hw => ⟨v, rfl, by rw [hw], by rw [ht]; exact hR1, hS1.F ht⟩
    unfold mi_ret at hv
    split at hv
    · split at hv
      · next x rt hrt => cases hv; exact W.iret (v := x) hx hb (hr.trans hrt) (fun t ht hW => hq t ht hW _ rfl) hS1.2.2 (hd rfl)
      · next x rt hrt =>
        split at hv
        · next hz => cases hv; exact W.zret (v := x) (ty := .boolean) hx hb (hr.trans hrt) (mi_fit_ok hz (fun _ => 0) 0).1 (fun t ht hW => hq t ht hW _ rfl) hS1.2.2 (hd rfl)
        · cases hv
      · cases hv
    · split at hv
      · next x rt hrt => cases hv; exact W.lret (v := x) hx hb (hr.trans hrt) (fun t ht hW => hq t ht hW _ rfl) hS1.2.2 (hd rfl)
      · cases hv
    · split at hv
      · next a rt C hrt => cases hv; exact W.aret (v := .ref (mi_ad b B a)) hx hb (hr.trans hrt) (Or.inl ⟨_, rfl⟩) (Or.inr ⟨_, rfl⟩) (fun t ht hW => hq t ht hW _ rfl) hS1.2.2 (hd rfl)
      · cases hv
    · split at hv
      · next a rt C hrt => cases hv; exact W.aret (v := .ref (b (a + 1))) hx hb (hr.trans hrt) (Or.inl ⟨_, rfl⟩) (Or.inr ⟨_, rfl⟩) (fun t ht hW => hq t ht hW _ rfl) hS1.2.2 (hd rfl)
      · cases hv
    · split at hv
      · next rt hrt => cases hv; exact W.vret hx hb (hr.trans hrt) (fun t ht hW => hq t ht hW _ rfl) hS1.2.2 (hd rfl)
      · cases hv
    · cases hv
  · -- throws
    intro pc E h1 ls H locs cells slots ho hE he hsz hR1 hS1 z1 z2
    obtain ⟨text, names, ik, is, ic, tt, hsk, hfE, hfn, hnl, w1, w2, w3, w4, hhe, d0, d3, d4, d6, d9⟩ := (hok.2.2.2.2 j).2.2.2.1 pc E hE
    have hstr := hZ.2.2.1 _ hsk
    have hcl := hok.2.2.2.1
    subst he; subst ho
    have y1 : (mi_push h1 6 mi_dead).1 = h1.1 + 1 := rfl
    have y2 : (mi_push h1 6 mi_dead).2.1 = h1.2.1 + 6 := rfl
    have hnil : c.exceptionTable.toList = [] := by
      rw [htab]
      rw [List.isEmpty_iff.mp hhe]
      rfl
    refine mi_throwS hx hb htr hown hfE hfn (hts _ w1) (hts _ w2) hstr (fun w hw => hts w (w3 w hw)) w4 hZ.1 hZ.2.1 hS1 (by rw [hml]; exact hsz) d0 d3 d4 d6 d9 (by rw [hnil]; intro x hx9; cases hx9) ?_ ?_ ?_ ?_ hlocks ?_ hS1.2.2 ?_ ?_
    · show names.length + 3 < 10 + (d + 1); omega
    · show 0 + (13 * (names.length + 1) + 43) ≤ 200 + 64 * (d + 1); omega
    · show cells + 1 ≤ (mi_push h1 6 mi_dead).1 - h.1; omega
    · show slots + 6 ≤ (mi_push h1 6 mi_dead).2.1 - h.2.1; omega
    · intro t ht hz9 ho9
      refine ⟨rfl, mi_push_ok hR1 hz9 ho9 ?_, mi_F_of hS1 (by omega) ho9⟩
      intro r hr9
      have : (1000000 : Nat) < cl.length := (List.getElem?_eq_some_iff.mp hr9).1
      omega
    · omega
    · omega
  · -- lets a throw through
    intro pc E q9 ce ls H locs cells slots rest ho hhe hR1 hS1 z1 z2 hce hcv hcl9
    have hnil : c.exceptionTable.toList = [] := by
      rw [htab]
      rw [List.isEmpty_iff.mp hhe]
      rfl
    subst ho
    exact vx_out (by rw [hnil]; intro x hx9; cases hx9) hlocks hce hcv hcl9 (fun t ht hW => ⟨rfl, by rw [ht]; exact hR1, hS1.F ht⟩) hS1.2.2 (by omega) (by omega)
/-- THE CONTRACT of every call that the small machine has run to its end -/
theorem mi_sound (hZT : mi_sta B ZT) (hprim : mi_prim b B GT P ZT) (hok : mi_ok GT cl P SK NC) (htr : l.stackTraces = false) (hbB : b 0 < B) : ∀ (d j : Nat) (as : List Value) (h : mi_H) (o : mi_O) (h' : mi_H), mi_call P L xs fuel d j as h = some (o, h') → mi_Met D cl tA b B L xs SK NC ZT GT P l d j as h o h' := by
  intro d
  induction d with
  | zero => intro j as h o h' hc; cases hc
  | succ d ih =>
    intro j as h o h' hc
    unfold mi_call at hc
    split at hc
    · next hwt =>
      have hpl := (hok.2.2.2.2 j).2.2.2.2.2.1
      unfold mi_Met
      by_cases hhe : (mi_hh P j).isEmpty = true
      · have hcw : mi_cw P j = Cond.code (mi_nm P j) (mi_cd P j) (mi_mx P j) (mi_rt P j) := by unfold mi_cw; rw [if_pos hhe]
        refine mi_ofW (cc := mi_cd P j) (maxL := mi_mx P j) (ret := mi_rt P j) (ws' := GT) hpl (by unfold mi_ws; rw [hcw]) ?_
        intro p e s m args below meth c s₁ Bd hml hnone hPc
        have hts := atoms_spec (ws := mi_ws GT P j) Bd.pre
        refine mi_body hZT hprim hok htr hbB ih Bd.exec Bd.bytes hml Bd.returns Bd.notSynchronized ?_ (fun w hw => hts w (List.mem_cons_of_mem _ hw)) (findClass_of_methodNamed Bd.named) (name_of_methodNamed Bd.named Bd.method).1 hPc hwt hc
        rw [List.isEmpty_iff.mp hhe]
        exact List.eq_nil_iff_forall_not_mem.mpr hnone
      · have hcw : mi_cw P j = Cond.codeWith (mi_nm P j) (mi_cd P j) (mi_mx P j) (mi_rt P j) (mi_hh P j) := by unfold mi_cw; rw [if_neg hhe]
        refine mi_ofWH (cc := mi_cd P j) (maxL := mi_mx P j) (ret := mi_rt P j) (hh := mi_hh P j) (ws' := GT) hpl (by unfold mi_ws; rw [hcw]) ?_
        intro p e s m args below meth c s₁ Bd hml hPc
        have hts := atoms_spec (ws := mi_ws GT P j) Bd.pre
        refine mi_body hZT hprim hok htr hbB ih Bd.exec Bd.bytes hml Bd.returns Bd.notSynchronized ?_ (fun w hw => hts w (List.mem_cons_of_mem _ hw)) (findClass_of_methodNamed Bd.named) (name_of_methodNamed Bd.named Bd.method).1 hPc hwt hc
        have h9 := hts (mi_cw P j) List.mem_cons_self
        rw [hcw] at h9
        exact vx_table (x := mi_nm P j) Bd h9
    · cases hc
end MiSound
end
section
-- ===== PART A: goes FIRST, ahead of the names: the tables' words, and 'selects' of the private methods out of them =====
/-- a private method of a class that the tables say can be made, by its rows of tables_1 -/
def lw_okq (q : MethodName × Nat) : Prop := (q.1.cls ≠ "java/lang/invoke/MethodHandle" ∧ q.1.cls ≠ "java/lang/invoke/VarHandle") ∧ Cond.instantiable q.1.cls q.2 ∈ tables_1 ∧ Cond.privateMethod q.1 ∈ tables_1 ∧ Cond.instanceMethod q.1 ∈ tables_1
theorem lw_p0 : lw_okq (⟨"Specialiser$Tokens", "scanOne", "(I)I"⟩, 6) := ⟨⟨by decide +kernel, by decide +kernel⟩, List.mem_of_getElem? (i := 46) (by decide +kernel), List.mem_of_getElem? (i := 417) (by decide +kernel), List.mem_of_getElem? (i := 418) (by decide +kernel)⟩
theorem lw_p1 : lw_okq (⟨"Specialiser$Tokens", "scanRow", "(I)I"⟩, 6) := ⟨⟨by decide +kernel, by decide +kernel⟩, List.mem_of_getElem? (i := 46) (by decide +kernel), List.mem_of_getElem? (i := 431) (by decide +kernel), List.mem_of_getElem? (i := 432) (by decide +kernel)⟩
theorem lw_p2 : lw_okq (⟨"Specialiser$Tokens", "keep", "(IJI)I"⟩, 6) := ⟨⟨by decide +kernel, by decide +kernel⟩, List.mem_of_getElem? (i := 46) (by decide +kernel), List.mem_of_getElem? (i := 444) (by decide +kernel), List.mem_of_getElem? (i := 445) (by decide +kernel)⟩
theorem lw_p3 : lw_okq (⟨"Specialiser$Reader", "takeFunction", "()V"⟩, 13) := ⟨⟨by decide +kernel, by decide +kernel⟩, List.mem_of_getElem? (i := 135) (by decide +kernel), List.mem_of_getElem? (i := 475) (by decide +kernel), List.mem_of_getElem? (i := 476) (by decide +kernel)⟩
theorem lw_p4 : lw_okq (⟨"Specialiser$Reader", "takeNewName", "(ZZ)J"⟩, 13) := ⟨⟨by decide +kernel, by decide +kernel⟩, List.mem_of_getElem? (i := 135) (by decide +kernel), List.mem_of_getElem? (i := 496) (by decide +kernel), List.mem_of_getElem? (i := 497) (by decide +kernel)⟩
theorem lw_p5 : lw_okq (⟨"Specialiser$Reader", "faultAt", "(II)V"⟩, 13) := ⟨⟨by decide +kernel, by decide +kernel⟩, List.mem_of_getElem? (i := 135) (by decide +kernel), List.mem_of_getElem? (i := 500) (by decide +kernel), List.mem_of_getElem? (i := 501) (by decide +kernel)⟩
theorem lw_p6 : lw_okq (⟨"Specialiser$Reader", "takeKind", "(I)V"⟩, 13) := ⟨⟨by decide +kernel, by decide +kernel⟩, List.mem_of_getElem? (i := 135) (by decide +kernel), List.mem_of_getElem? (i := 504) (by decide +kernel), List.mem_of_getElem? (i := 505) (by decide +kernel)⟩
theorem lw_p7 : lw_okq (⟨"Specialiser$Reader", "refuse", "()V"⟩, 13) := ⟨⟨by decide +kernel, by decide +kernel⟩, List.mem_of_getElem? (i := 135) (by decide +kernel), List.mem_of_getElem? (i := 508) (by decide +kernel), List.mem_of_getElem? (i := 509) (by decide +kernel)⟩
theorem lw_p8 : lw_okq (⟨"Specialiser$Reader", "takeParam", "()V"⟩, 13) := ⟨⟨by decide +kernel, by decide +kernel⟩, List.mem_of_getElem? (i := 135) (by decide +kernel), List.mem_of_getElem? (i := 513) (by decide +kernel), List.mem_of_getElem? (i := 514) (by decide +kernel)⟩
theorem lw_p9 : lw_okq (⟨"Specialiser$Reader", "enter", "(JI)V"⟩, 13) := ⟨⟨by decide +kernel, by decide +kernel⟩, List.mem_of_getElem? (i := 135) (by decide +kernel), List.mem_of_getElem? (i := 517) (by decide +kernel), List.mem_of_getElem? (i := 518) (by decide +kernel)⟩
theorem lw_p10 : lw_okq (⟨"Specialiser$Reader", "takeE", "(I)I"⟩, 13) := ⟨⟨by decide +kernel, by decide +kernel⟩, List.mem_of_getElem? (i := 135) (by decide +kernel), List.mem_of_getElem? (i := 527) (by decide +kernel), List.mem_of_getElem? (i := 528) (by decide +kernel)⟩
theorem lw_p11 : lw_okq (⟨"Specialiser$Reader", "refuseWithin", "()V"⟩, 13) := ⟨⟨by decide +kernel, by decide +kernel⟩, List.mem_of_getElem? (i := 135) (by decide +kernel), List.mem_of_getElem? (i := 531) (by decide +kernel), List.mem_of_getElem? (i := 532) (by decide +kernel)⟩
theorem lw_p12 : lw_okq (⟨"Specialiser$Reader", "takeLet", "(I)I"⟩, 13) := ⟨⟨by decide +kernel, by decide +kernel⟩, List.mem_of_getElem? (i := 135) (by decide +kernel), List.mem_of_getElem? (i := 535) (by decide +kernel), List.mem_of_getElem? (i := 536) (by decide +kernel)⟩
theorem lw_p13 : lw_okq (⟨"Specialiser$Reader", "takeIf", "(I)I"⟩, 13) := ⟨⟨by decide +kernel, by decide +kernel⟩, List.mem_of_getElem? (i := 135) (by decide +kernel), List.mem_of_getElem? (i := 549) (by decide +kernel), List.mem_of_getElem? (i := 550) (by decide +kernel)⟩
theorem lw_p14 : lw_okq (⟨"Specialiser$Reader", "takeComparison", "(I)I"⟩, 13) := ⟨⟨by decide +kernel, by decide +kernel⟩, List.mem_of_getElem? (i := 135) (by decide +kernel), List.mem_of_getElem? (i := 553) (by decide +kernel), List.mem_of_getElem? (i := 554) (by decide +kernel)⟩
theorem lw_p15 : lw_okq (⟨"Specialiser$Reader", "takeSum", "(I)I"⟩, 13) := ⟨⟨by decide +kernel, by decide +kernel⟩, List.mem_of_getElem? (i := 135) (by decide +kernel), List.mem_of_getElem? (i := 557) (by decide +kernel), List.mem_of_getElem? (i := 558) (by decide +kernel)⟩
def lw_privs_1 : List (MethodName × Nat) := [(⟨"Specialiser$Tokens", "scanOne", "(I)I"⟩, 6), (⟨"Specialiser$Tokens", "scanRow", "(I)I"⟩, 6), (⟨"Specialiser$Tokens", "keep", "(IJI)I"⟩, 6), (⟨"Specialiser$Reader", "takeFunction", "()V"⟩, 13), (⟨"Specialiser$Reader", "takeNewName", "(ZZ)J"⟩, 13), (⟨"Specialiser$Reader", "faultAt", "(II)V"⟩, 13), (⟨"Specialiser$Reader", "takeKind", "(I)V"⟩, 13), (⟨"Specialiser$Reader", "refuse", "()V"⟩, 13), (⟨"Specialiser$Reader", "takeParam", "()V"⟩, 13), (⟨"Specialiser$Reader", "enter", "(JI)V"⟩, 13), (⟨"Specialiser$Reader", "takeE", "(I)I"⟩, 13), (⟨"Specialiser$Reader", "refuseWithin", "()V"⟩, 13), (⟨"Specialiser$Reader", "takeLet", "(I)I"⟩, 13), (⟨"Specialiser$Reader", "takeIf", "(I)I"⟩, 13), (⟨"Specialiser$Reader", "takeComparison", "(I)I"⟩, 13), (⟨"Specialiser$Reader", "takeSum", "(I)I"⟩, 13)]
theorem lw_r1 : ∀ q ∈ lw_privs_1, lw_okq q := List.forall_mem_cons.mpr ⟨lw_p0, List.forall_mem_cons.mpr ⟨lw_p1, List.forall_mem_cons.mpr ⟨lw_p2, List.forall_mem_cons.mpr ⟨lw_p3, List.forall_mem_cons.mpr ⟨lw_p4, List.forall_mem_cons.mpr ⟨lw_p5, List.forall_mem_cons.mpr ⟨lw_p6, List.forall_mem_cons.mpr ⟨lw_p7, List.forall_mem_cons.mpr ⟨lw_p8, List.forall_mem_cons.mpr ⟨lw_p9, List.forall_mem_cons.mpr ⟨lw_p10, List.forall_mem_cons.mpr ⟨lw_p11, List.forall_mem_cons.mpr ⟨lw_p12, List.forall_mem_cons.mpr ⟨lw_p13, List.forall_mem_cons.mpr ⟨lw_p14, List.forall_mem_cons.mpr ⟨lw_p15, fun _ h => absurd h List.not_mem_nil⟩⟩⟩⟩⟩⟩⟩⟩⟩⟩⟩⟩⟩⟩⟩⟩
theorem lw_p16 : lw_okq (⟨"Specialiser$Reader", "takeProduct", "(I)I"⟩, 13) := ⟨⟨by decide +kernel, by decide +kernel⟩, List.mem_of_getElem? (i := 135) (by decide +kernel), List.mem_of_getElem? (i := 561) (by decide +kernel), List.mem_of_getElem? (i := 562) (by decide +kernel)⟩
theorem lw_p17 : lw_okq (⟨"Specialiser$Reader", "takeAtom", "(I)I"⟩, 13) := ⟨⟨by decide +kernel, by decide +kernel⟩, List.mem_of_getElem? (i := 135) (by decide +kernel), List.mem_of_getElem? (i := 565) (by decide +kernel), List.mem_of_getElem? (i := 566) (by decide +kernel)⟩
theorem lw_p18 : lw_okq (⟨"Specialiser$Reader", "takeNumber", "(I)I"⟩, 13) := ⟨⟨by decide +kernel, by decide +kernel⟩, List.mem_of_getElem? (i := 135) (by decide +kernel), List.mem_of_getElem? (i := 569) (by decide +kernel), List.mem_of_getElem? (i := 570) (by decide +kernel)⟩
theorem lw_p19 : lw_okq (⟨"Specialiser$Reader", "takeCall", "(II)I"⟩, 13) := ⟨⟨by decide +kernel, by decide +kernel⟩, List.mem_of_getElem? (i := 135) (by decide +kernel), List.mem_of_getElem? (i := 573) (by decide +kernel), List.mem_of_getElem? (i := 574) (by decide +kernel)⟩
theorem lw_p20 : lw_okq (⟨"Specialiser$Reader", "nameAlone", "(I)I"⟩, 13) := ⟨⟨by decide +kernel, by decide +kernel⟩, List.mem_of_getElem? (i := 135) (by decide +kernel), List.mem_of_getElem? (i := 577) (by decide +kernel), List.mem_of_getElem? (i := 578) (by decide +kernel)⟩
theorem lw_p21 : lw_okq (⟨"Specialiser$Reader", "leadCalls", "()V"⟩, 13) := ⟨⟨by decide +kernel, by decide +kernel⟩, List.mem_of_getElem? (i := 135) (by decide +kernel), List.mem_of_getElem? (i := 592) (by decide +kernel), List.mem_of_getElem? (i := 593) (by decide +kernel)⟩
theorem lw_p22 : lw_okq (⟨"Specialiser$Reader", "leadCall", "(II)V"⟩, 13) := ⟨⟨by decide +kernel, by decide +kernel⟩, List.mem_of_getElem? (i := 135) (by decide +kernel), List.mem_of_getElem? (i := 608) (by decide +kernel), List.mem_of_getElem? (i := 609) (by decide +kernel)⟩
theorem lw_p23 : lw_okq (⟨"java/lang/Throwable", "fillInStackTrace", "(I)Ljava/lang/Throwable;"⟩, 6) := ⟨⟨by decide +kernel, by decide +kernel⟩, List.mem_of_getElem? (i := 690) (by decide +kernel), List.mem_of_getElem? (i := 688) (by decide +kernel), List.mem_of_getElem? (i := 689) (by decide +kernel)⟩
theorem lw_p24 : lw_okq (⟨"Specialiser", "feedFour", "(I)V"⟩, 20) := ⟨⟨by decide +kernel, by decide +kernel⟩, List.mem_of_getElem? (i := 27) (by decide +kernel), List.mem_of_getElem? (i := 720) (by decide +kernel), List.mem_of_getElem? (i := 721) (by decide +kernel)⟩
theorem lw_p25 : lw_okq (⟨"Specialiser$Maker", "bindParams", "(I)V"⟩, 11) := ⟨⟨by decide +kernel, by decide +kernel⟩, List.mem_of_getElem? (i := 261) (by decide +kernel), List.mem_of_getElem? (i := 847) (by decide +kernel), List.mem_of_getElem? (i := 848) (by decide +kernel)⟩
theorem lw_p26 : lw_okq (⟨"Specialiser$Maker", "bind", "(III)V"⟩, 11) := ⟨⟨by decide +kernel, by decide +kernel⟩, List.mem_of_getElem? (i := 261) (by decide +kernel), List.mem_of_getElem? (i := 865) (by decide +kernel), List.mem_of_getElem? (i := 866) (by decide +kernel)⟩
theorem lw_p27 : lw_okq (⟨"Specialiser$Maker", "become", "(II)I"⟩, 11) := ⟨⟨by decide +kernel, by decide +kernel⟩, List.mem_of_getElem? (i := 261) (by decide +kernel), List.mem_of_getElem? (i := 871) (by decide +kernel), List.mem_of_getElem? (i := 872) (by decide +kernel)⟩
theorem lw_p28 : lw_okq (⟨"Specialiser$Maker", "becomeLet", "(II)I"⟩, 11) := ⟨⟨by decide +kernel, by decide +kernel⟩, List.mem_of_getElem? (i := 261) (by decide +kernel), List.mem_of_getElem? (i := 895) (by decide +kernel), List.mem_of_getElem? (i := 896) (by decide +kernel)⟩
theorem lw_p29 : lw_okq (⟨"Specialiser$Maker", "isNumber", "(I)Z"⟩, 11) := ⟨⟨by decide +kernel, by decide +kernel⟩, List.mem_of_getElem? (i := 261) (by decide +kernel), List.mem_of_getElem? (i := 903) (by decide +kernel), List.mem_of_getElem? (i := 904) (by decide +kernel)⟩
theorem lw_p30 : lw_okq (⟨"Specialiser$Maker", "becomeIf", "(II)I"⟩, 11) := ⟨⟨by decide +kernel, by decide +kernel⟩, List.mem_of_getElem? (i := 261) (by decide +kernel), List.mem_of_getElem? (i := 908) (by decide +kernel), List.mem_of_getElem? (i := 909) (by decide +kernel)⟩
theorem lw_p31 : lw_okq (⟨"Specialiser$Maker", "becomeCall", "(II)I"⟩, 11) := ⟨⟨by decide +kernel, by decide +kernel⟩, List.mem_of_getElem? (i := 261) (by decide +kernel), List.mem_of_getElem? (i := 912) (by decide +kernel), List.mem_of_getElem? (i := 913) (by decide +kernel)⟩
def lw_privs_2 : List (MethodName × Nat) := [(⟨"Specialiser$Reader", "takeProduct", "(I)I"⟩, 13), (⟨"Specialiser$Reader", "takeAtom", "(I)I"⟩, 13), (⟨"Specialiser$Reader", "takeNumber", "(I)I"⟩, 13), (⟨"Specialiser$Reader", "takeCall", "(II)I"⟩, 13), (⟨"Specialiser$Reader", "nameAlone", "(I)I"⟩, 13), (⟨"Specialiser$Reader", "leadCalls", "()V"⟩, 13), (⟨"Specialiser$Reader", "leadCall", "(II)V"⟩, 13), (⟨"java/lang/Throwable", "fillInStackTrace", "(I)Ljava/lang/Throwable;"⟩, 6), (⟨"Specialiser", "feedFour", "(I)V"⟩, 20), (⟨"Specialiser$Maker", "bindParams", "(I)V"⟩, 11), (⟨"Specialiser$Maker", "bind", "(III)V"⟩, 11), (⟨"Specialiser$Maker", "become", "(II)I"⟩, 11), (⟨"Specialiser$Maker", "becomeLet", "(II)I"⟩, 11), (⟨"Specialiser$Maker", "isNumber", "(I)Z"⟩, 11), (⟨"Specialiser$Maker", "becomeIf", "(II)I"⟩, 11), (⟨"Specialiser$Maker", "becomeCall", "(II)I"⟩, 11)]
theorem lw_r2 : ∀ q ∈ lw_privs_2, lw_okq q := List.forall_mem_cons.mpr ⟨lw_p16, List.forall_mem_cons.mpr ⟨lw_p17, List.forall_mem_cons.mpr ⟨lw_p18, List.forall_mem_cons.mpr ⟨lw_p19, List.forall_mem_cons.mpr ⟨lw_p20, List.forall_mem_cons.mpr ⟨lw_p21, List.forall_mem_cons.mpr ⟨lw_p22, List.forall_mem_cons.mpr ⟨lw_p23, List.forall_mem_cons.mpr ⟨lw_p24, List.forall_mem_cons.mpr ⟨lw_p25, List.forall_mem_cons.mpr ⟨lw_p26, List.forall_mem_cons.mpr ⟨lw_p27, List.forall_mem_cons.mpr ⟨lw_p28, List.forall_mem_cons.mpr ⟨lw_p29, List.forall_mem_cons.mpr ⟨lw_p30, List.forall_mem_cons.mpr ⟨lw_p31, fun _ h => absurd h List.not_mem_nil⟩⟩⟩⟩⟩⟩⟩⟩⟩⟩⟩⟩⟩⟩⟩⟩
theorem lw_p32 : lw_okq (⟨"Specialiser$Maker", "gatherWanted", "(I)I"⟩, 11) := ⟨⟨by decide +kernel, by decide +kernel⟩, List.mem_of_getElem? (i := 261) (by decide +kernel), List.mem_of_getElem? (i := 917) (by decide +kernel), List.mem_of_getElem? (i := 918) (by decide +kernel)⟩
theorem lw_p33 : lw_okq (⟨"Specialiser$Runner", "begin", "(II)V"⟩, 13) := ⟨⟨by decide +kernel, by decide +kernel⟩, List.mem_of_getElem? (i := 212) (by decide +kernel), List.mem_of_getElem? (i := 929) (by decide +kernel), List.mem_of_getElem? (i := 930) (by decide +kernel)⟩
theorem lw_p34 : lw_okq (⟨"Specialiser$Runner", "finish", "(I)V"⟩, 13) := ⟨⟨by decide +kernel, by decide +kernel⟩, List.mem_of_getElem? (i := 212) (by decide +kernel), List.mem_of_getElem? (i := 937) (by decide +kernel), List.mem_of_getElem? (i := 938) (by decide +kernel)⟩
theorem lw_p35 : lw_okq (⟨"Specialiser$Runner", "slot", "(I)I"⟩, 13) := ⟨⟨by decide +kernel, by decide +kernel⟩, List.mem_of_getElem? (i := 212) (by decide +kernel), List.mem_of_getElem? (i := 941) (by decide +kernel), List.mem_of_getElem? (i := 942) (by decide +kernel)⟩
theorem lw_p36 : lw_okq (⟨"Specialiser$Runner", "goOnLet", "(II)V"⟩, 13) := ⟨⟨by decide +kernel, by decide +kernel⟩, List.mem_of_getElem? (i := 212) (by decide +kernel), List.mem_of_getElem? (i := 945) (by decide +kernel), List.mem_of_getElem? (i := 946) (by decide +kernel)⟩
theorem lw_p37 : lw_okq (⟨"Specialiser$Runner", "goOnIf", "(II)V"⟩, 13) := ⟨⟨by decide +kernel, by decide +kernel⟩, List.mem_of_getElem? (i := 212) (by decide +kernel), List.mem_of_getElem? (i := 950) (by decide +kernel), List.mem_of_getElem? (i := 951) (by decide +kernel)⟩
theorem lw_p38 : lw_okq (⟨"Specialiser$Runner", "goOnCall", "(II)V"⟩, 13) := ⟨⟨by decide +kernel, by decide +kernel⟩, List.mem_of_getElem? (i := 212) (by decide +kernel), List.mem_of_getElem? (i := 954) (by decide +kernel), List.mem_of_getElem? (i := 955) (by decide +kernel)⟩
theorem lw_p39 : lw_okq (⟨"Specialiser$Runner", "goOnSign", "(II)V"⟩, 13) := ⟨⟨by decide +kernel, by decide +kernel⟩, List.mem_of_getElem? (i := 212) (by decide +kernel), List.mem_of_getElem? (i := 959) (by decide +kernel), List.mem_of_getElem? (i := 960) (by decide +kernel)⟩
theorem lw_p40 : lw_okq (⟨"Specialiser$Maker", "leadToVersion", "(III)V"⟩, 11) := ⟨⟨by decide +kernel, by decide +kernel⟩, List.mem_of_getElem? (i := 261) (by decide +kernel), List.mem_of_getElem? (i := 974) (by decide +kernel), List.mem_of_getElem? (i := 975) (by decide +kernel)⟩
theorem lw_p41 : lw_okq (⟨"Specialiser$Versions", "agrees", "(IILSpecialiser$Row;)Z"⟩, 4) := ⟨⟨by decide +kernel, by decide +kernel⟩, List.mem_of_getElem? (i := 189) (by decide +kernel), List.mem_of_getElem? (i := 985) (by decide +kernel), List.mem_of_getElem? (i := 986) (by decide +kernel)⟩
theorem lw_p42 : lw_okq (⟨"Specialiser$Maker", "becomeSign", "(II)I"⟩, 11) := ⟨⟨by decide +kernel, by decide +kernel⟩, List.mem_of_getElem? (i := 261) (by decide +kernel), List.mem_of_getElem? (i := 998) (by decide +kernel), List.mem_of_getElem? (i := 999) (by decide +kernel)⟩
theorem lw_p43 : lw_okq (⟨"Specialiser", "keepTold", "()V"⟩, 20) := ⟨⟨by decide +kernel, by decide +kernel⟩, List.mem_of_getElem? (i := 27) (by decide +kernel), List.mem_of_getElem? (i := 1005) (by decide +kernel), List.mem_of_getElem? (i := 1006) (by decide +kernel)⟩
theorem lw_p44 : lw_okq (⟨"Specialiser$Printer", "showVersion", "(I)V"⟩, 8) := ⟨⟨by decide +kernel, by decide +kernel⟩, List.mem_of_getElem? (i := 309) (by decide +kernel), List.mem_of_getElem? (i := 1068) (by decide +kernel), List.mem_of_getElem? (i := 1069) (by decide +kernel)⟩
theorem lw_p45 : lw_okq (⟨"Specialiser$Printer", "put", "(I)V"⟩, 8) := ⟨⟨by decide +kernel, by decide +kernel⟩, List.mem_of_getElem? (i := 309) (by decide +kernel), List.mem_of_getElem? (i := 1073) (by decide +kernel), List.mem_of_getElem? (i := 1074) (by decide +kernel)⟩
theorem lw_p46 : lw_okq (⟨"Specialiser$Printer", "putNumber", "(I)V"⟩, 8) := ⟨⟨by decide +kernel, by decide +kernel⟩, List.mem_of_getElem? (i := 309) (by decide +kernel), List.mem_of_getElem? (i := 1078) (by decide +kernel), List.mem_of_getElem? (i := 1079) (by decide +kernel)⟩
theorem lw_p47 : lw_okq (⟨"Specialiser$Printer", "putText", "(Ljava/lang/String;)V"⟩, 8) := ⟨⟨by decide +kernel, by decide +kernel⟩, List.mem_of_getElem? (i := 309) (by decide +kernel), List.mem_of_getElem? (i := 1085) (by decide +kernel), List.mem_of_getElem? (i := 1086) (by decide +kernel)⟩
def lw_privs_3 : List (MethodName × Nat) := [(⟨"Specialiser$Maker", "gatherWanted", "(I)I"⟩, 11), (⟨"Specialiser$Runner", "begin", "(II)V"⟩, 13), (⟨"Specialiser$Runner", "finish", "(I)V"⟩, 13), (⟨"Specialiser$Runner", "slot", "(I)I"⟩, 13), (⟨"Specialiser$Runner", "goOnLet", "(II)V"⟩, 13), (⟨"Specialiser$Runner", "goOnIf", "(II)V"⟩, 13), (⟨"Specialiser$Runner", "goOnCall", "(II)V"⟩, 13), (⟨"Specialiser$Runner", "goOnSign", "(II)V"⟩, 13), (⟨"Specialiser$Maker", "leadToVersion", "(III)V"⟩, 11), (⟨"Specialiser$Versions", "agrees", "(IILSpecialiser$Row;)Z"⟩, 4), (⟨"Specialiser$Maker", "becomeSign", "(II)I"⟩, 11), (⟨"Specialiser", "keepTold", "()V"⟩, 20), (⟨"Specialiser$Printer", "showVersion", "(I)V"⟩, 8), (⟨"Specialiser$Printer", "put", "(I)V"⟩, 8), (⟨"Specialiser$Printer", "putNumber", "(I)V"⟩, 8), (⟨"Specialiser$Printer", "putText", "(Ljava/lang/String;)V"⟩, 8)]
theorem lw_r3 : ∀ q ∈ lw_privs_3, lw_okq q := List.forall_mem_cons.mpr ⟨lw_p32, List.forall_mem_cons.mpr ⟨lw_p33, List.forall_mem_cons.mpr ⟨lw_p34, List.forall_mem_cons.mpr ⟨lw_p35, List.forall_mem_cons.mpr ⟨lw_p36, List.forall_mem_cons.mpr ⟨lw_p37, List.forall_mem_cons.mpr ⟨lw_p38, List.forall_mem_cons.mpr ⟨lw_p39, List.forall_mem_cons.mpr ⟨lw_p40, List.forall_mem_cons.mpr ⟨lw_p41, List.forall_mem_cons.mpr ⟨lw_p42, List.forall_mem_cons.mpr ⟨lw_p43, List.forall_mem_cons.mpr ⟨lw_p44, List.forall_mem_cons.mpr ⟨lw_p45, List.forall_mem_cons.mpr ⟨lw_p46, List.forall_mem_cons.mpr ⟨lw_p47, fun _ h => absurd h List.not_mem_nil⟩⟩⟩⟩⟩⟩⟩⟩⟩⟩⟩⟩⟩⟩⟩⟩
theorem lw_p48 : lw_okq (⟨"Specialiser$Printer", "show", "(II)V"⟩, 8) := ⟨⟨by decide +kernel, by decide +kernel⟩, List.mem_of_getElem? (i := 309) (by decide +kernel), List.mem_of_getElem? (i := 1139) (by decide +kernel), List.mem_of_getElem? (i := 1140) (by decide +kernel)⟩
theorem lw_p49 : lw_okq (⟨"Specialiser$Printer", "showNumber", "(I)V"⟩, 8) := ⟨⟨by decide +kernel, by decide +kernel⟩, List.mem_of_getElem? (i := 309) (by decide +kernel), List.mem_of_getElem? (i := 1145) (by decide +kernel), List.mem_of_getElem? (i := 1146) (by decide +kernel)⟩
theorem lw_p50 : lw_okq (⟨"Specialiser$Printer", "showName", "(I)V"⟩, 8) := ⟨⟨by decide +kernel, by decide +kernel⟩, List.mem_of_getElem? (i := 309) (by decide +kernel), List.mem_of_getElem? (i := 1151) (by decide +kernel), List.mem_of_getElem? (i := 1152) (by decide +kernel)⟩
theorem lw_p51 : lw_okq (⟨"Specialiser$Printer", "showLet", "(II)V"⟩, 8) := ⟨⟨by decide +kernel, by decide +kernel⟩, List.mem_of_getElem? (i := 309) (by decide +kernel), List.mem_of_getElem? (i := 1156) (by decide +kernel), List.mem_of_getElem? (i := 1157) (by decide +kernel)⟩
theorem lw_p52 : lw_okq (⟨"Specialiser$Printer", "showIf", "(II)V"⟩, 8) := ⟨⟨by decide +kernel, by decide +kernel⟩, List.mem_of_getElem? (i := 309) (by decide +kernel), List.mem_of_getElem? (i := 1164) (by decide +kernel), List.mem_of_getElem? (i := 1165) (by decide +kernel)⟩
theorem lw_p53 : lw_okq (⟨"Specialiser$Printer", "showCall", "(II)V"⟩, 8) := ⟨⟨by decide +kernel, by decide +kernel⟩, List.mem_of_getElem? (i := 309) (by decide +kernel), List.mem_of_getElem? (i := 1171) (by decide +kernel), List.mem_of_getElem? (i := 1172) (by decide +kernel)⟩
theorem lw_p54 : lw_okq (⟨"Specialiser$Printer", "showSign", "(II)V"⟩, 8) := ⟨⟨by decide +kernel, by decide +kernel⟩, List.mem_of_getElem? (i := 309) (by decide +kernel), List.mem_of_getElem? (i := 1176) (by decide +kernel), List.mem_of_getElem? (i := 1177) (by decide +kernel)⟩
theorem lw_p55 : lw_okq (⟨"SpecialiserModel", "next", "()V"⟩, 99) := ⟨⟨by decide +kernel, by decide +kernel⟩, List.mem_of_getElem? (i := 1242) (by decide +kernel), List.mem_of_getElem? (i := 1567) (by decide +kernel), List.mem_of_getElem? (i := 1568) (by decide +kernel)⟩
theorem lw_p56 : lw_okq (⟨"SpecialiserModel", "row", "()V"⟩, 99) := ⟨⟨by decide +kernel, by decide +kernel⟩, List.mem_of_getElem? (i := 1242) (by decide +kernel), List.mem_of_getElem? (i := 1577) (by decide +kernel), List.mem_of_getElem? (i := 1578) (by decide +kernel)⟩
theorem lw_p57 : lw_okq (⟨"SpecialiserModel", "stop", "(II)V"⟩, 99) := ⟨⟨by decide +kernel, by decide +kernel⟩, List.mem_of_getElem? (i := 1242) (by decide +kernel), List.mem_of_getElem? (i := 1591) (by decide +kernel), List.mem_of_getElem? (i := 1592) (by decide +kernel)⟩
theorem lw_p58 : lw_okq (⟨"SpecialiserModel", "definition", "()V"⟩, 99) := ⟨⟨by decide +kernel, by decide +kernel⟩, List.mem_of_getElem? (i := 1242) (by decide +kernel), List.mem_of_getElem? (i := 1595) (by decide +kernel), List.mem_of_getElem? (i := 1596) (by decide +kernel)⟩
theorem lw_p59 : lw_okq (⟨"SpecialiserModel", "pass", "()V"⟩, 99) := ⟨⟨by decide +kernel, by decide +kernel⟩, List.mem_of_getElem? (i := 1242) (by decide +kernel), List.mem_of_getElem? (i := 1599) (by decide +kernel), List.mem_of_getElem? (i := 1600) (by decide +kernel)⟩
theorem lw_p60 : lw_okq (⟨"SpecialiserModel", "want", "(I)V"⟩, 99) := ⟨⟨by decide +kernel, by decide +kernel⟩, List.mem_of_getElem? (i := 1242) (by decide +kernel), List.mem_of_getElem? (i := 1603) (by decide +kernel), List.mem_of_getElem? (i := 1604) (by decide +kernel)⟩
theorem lw_p61 : lw_okq (⟨"SpecialiserModel", "name", "(Z)I"⟩, 99) := ⟨⟨by decide +kernel, by decide +kernel⟩, List.mem_of_getElem? (i := 1242) (by decide +kernel), List.mem_of_getElem? (i := 1607) (by decide +kernel), List.mem_of_getElem? (i := 1608) (by decide +kernel)⟩
theorem lw_p62 : lw_okq (⟨"SpecialiserModel", "parse", "()V"⟩, 99) := ⟨⟨by decide +kernel, by decide +kernel⟩, List.mem_of_getElem? (i := 1242) (by decide +kernel), List.mem_of_getElem? (i := 1611) (by decide +kernel), List.mem_of_getElem? (i := 1612) (by decide +kernel)⟩
theorem lw_p63 : lw_okq (⟨"SpecialiserModel", "push", "(II)V"⟩, 99) := ⟨⟨by decide +kernel, by decide +kernel⟩, List.mem_of_getElem? (i := 1242) (by decide +kernel), List.mem_of_getElem? (i := 1615) (by decide +kernel), List.mem_of_getElem? (i := 1616) (by decide +kernel)⟩
def lw_privs_4 : List (MethodName × Nat) := [(⟨"Specialiser$Printer", "show", "(II)V"⟩, 8), (⟨"Specialiser$Printer", "showNumber", "(I)V"⟩, 8), (⟨"Specialiser$Printer", "showName", "(I)V"⟩, 8), (⟨"Specialiser$Printer", "showLet", "(II)V"⟩, 8), (⟨"Specialiser$Printer", "showIf", "(II)V"⟩, 8), (⟨"Specialiser$Printer", "showCall", "(II)V"⟩, 8), (⟨"Specialiser$Printer", "showSign", "(II)V"⟩, 8), (⟨"SpecialiserModel", "next", "()V"⟩, 99), (⟨"SpecialiserModel", "row", "()V"⟩, 99), (⟨"SpecialiserModel", "stop", "(II)V"⟩, 99), (⟨"SpecialiserModel", "definition", "()V"⟩, 99), (⟨"SpecialiserModel", "pass", "()V"⟩, 99), (⟨"SpecialiserModel", "want", "(I)V"⟩, 99), (⟨"SpecialiserModel", "name", "(Z)I"⟩, 99), (⟨"SpecialiserModel", "parse", "()V"⟩, 99), (⟨"SpecialiserModel", "push", "(II)V"⟩, 99)]
theorem lw_r4 : ∀ q ∈ lw_privs_4, lw_okq q := List.forall_mem_cons.mpr ⟨lw_p48, List.forall_mem_cons.mpr ⟨lw_p49, List.forall_mem_cons.mpr ⟨lw_p50, List.forall_mem_cons.mpr ⟨lw_p51, List.forall_mem_cons.mpr ⟨lw_p52, List.forall_mem_cons.mpr ⟨lw_p53, List.forall_mem_cons.mpr ⟨lw_p54, List.forall_mem_cons.mpr ⟨lw_p55, List.forall_mem_cons.mpr ⟨lw_p56, List.forall_mem_cons.mpr ⟨lw_p57, List.forall_mem_cons.mpr ⟨lw_p58, List.forall_mem_cons.mpr ⟨lw_p59, List.forall_mem_cons.mpr ⟨lw_p60, List.forall_mem_cons.mpr ⟨lw_p61, List.forall_mem_cons.mpr ⟨lw_p62, List.forall_mem_cons.mpr ⟨lw_p63, fun _ h => absurd h List.not_mem_nil⟩⟩⟩⟩⟩⟩⟩⟩⟩⟩⟩⟩⟩⟩⟩⟩
theorem lw_p64 : lw_okq (⟨"SpecialiserModel", "onE", "()V"⟩, 99) := ⟨⟨by decide +kernel, by decide +kernel⟩, List.mem_of_getElem? (i := 1242) (by decide +kernel), List.mem_of_getElem? (i := 1619) (by decide +kernel), List.mem_of_getElem? (i := 1620) (by decide +kernel)⟩
theorem lw_p65 : lw_okq (⟨"SpecialiserModel", "begins", "()Z"⟩, 99) := ⟨⟨by decide +kernel, by decide +kernel⟩, List.mem_of_getElem? (i := 1242) (by decide +kernel), List.mem_of_getElem? (i := 1623) (by decide +kernel), List.mem_of_getElem? (i := 1624) (by decide +kernel)⟩
theorem lw_p66 : lw_okq (⟨"SpecialiserModel", "node", "(II)I"⟩, 99) := ⟨⟨by decide +kernel, by decide +kernel⟩, List.mem_of_getElem? (i := 1242) (by decide +kernel), List.mem_of_getElem? (i := 1627) (by decide +kernel), List.mem_of_getElem? (i := 1628) (by decide +kernel)⟩
theorem lw_p67 : lw_okq (⟨"SpecialiserModel", "onSum", "(II)V"⟩, 99) := ⟨⟨by decide +kernel, by decide +kernel⟩, List.mem_of_getElem? (i := 1242) (by decide +kernel), List.mem_of_getElem? (i := 1631) (by decide +kernel), List.mem_of_getElem? (i := 1632) (by decide +kernel)⟩
theorem lw_p68 : lw_okq (⟨"SpecialiserModel", "onAtom", "()V"⟩, 99) := ⟨⟨by decide +kernel, by decide +kernel⟩, List.mem_of_getElem? (i := 1242) (by decide +kernel), List.mem_of_getElem? (i := 1635) (by decide +kernel), List.mem_of_getElem? (i := 1636) (by decide +kernel)⟩
theorem lw_p69 : lw_okq (⟨"SpecialiserModel", "keep", "(I)V"⟩, 99) := ⟨⟨by decide +kernel, by decide +kernel⟩, List.mem_of_getElem? (i := 1242) (by decide +kernel), List.mem_of_getElem? (i := 1639) (by decide +kernel), List.mem_of_getElem? (i := 1640) (by decide +kernel)⟩
theorem lw_p70 : lw_okq (⟨"SpecialiserModel", "last", "()I"⟩, 99) := ⟨⟨by decide +kernel, by decide +kernel⟩, List.mem_of_getElem? (i := 1242) (by decide +kernel), List.mem_of_getElem? (i := 1643) (by decide +kernel), List.mem_of_getElem? (i := 1644) (by decide +kernel)⟩
theorem lw_p71 : lw_okq (⟨"SpecialiserModel", "onRest", "(II)V"⟩, 99) := ⟨⟨by decide +kernel, by decide +kernel⟩, List.mem_of_getElem? (i := 1242) (by decide +kernel), List.mem_of_getElem? (i := 1647) (by decide +kernel), List.mem_of_getElem? (i := 1648) (by decide +kernel)⟩
theorem lw_p72 : lw_okq (⟨"SpecialiserModel", "judge", "()V"⟩, 99) := ⟨⟨by decide +kernel, by decide +kernel⟩, List.mem_of_getElem? (i := 1242) (by decide +kernel), List.mem_of_getElem? (i := 1651) (by decide +kernel), List.mem_of_getElem? (i := 1652) (by decide +kernel)⟩
theorem lw_p73 : lw_okq (⟨"SpecialiserModel", "onJudge", "(I)V"⟩, 99) := ⟨⟨by decide +kernel, by decide +kernel⟩, List.mem_of_getElem? (i := 1242) (by decide +kernel), List.mem_of_getElem? (i := 1655) (by decide +kernel), List.mem_of_getElem? (i := 1656) (by decide +kernel)⟩
theorem lw_p74 : lw_okq (⟨"SpecialiserModel", "isFn", "(I)Z"⟩, 99) := ⟨⟨by decide +kernel, by decide +kernel⟩, List.mem_of_getElem? (i := 1242) (by decide +kernel), List.mem_of_getElem? (i := 1667) (by decide +kernel), List.mem_of_getElem? (i := 1668) (by decide +kernel)⟩
theorem lw_p75 : lw_okq (⟨"SpecialiserModel", "knownMany", "()I"⟩, 99) := ⟨⟨by decide +kernel, by decide +kernel⟩, List.mem_of_getElem? (i := 1242) (by decide +kernel), List.mem_of_getElem? (i := 1677) (by decide +kernel), List.mem_of_getElem? (i := 1678) (by decide +kernel)⟩
theorem lw_p76 : lw_okq (⟨"SpecialiserModel", "versionOf", "(IIZ)I"⟩, 99) := ⟨⟨by decide +kernel, by decide +kernel⟩, List.mem_of_getElem? (i := 1242) (by decide +kernel), List.mem_of_getElem? (i := 1685) (by decide +kernel), List.mem_of_getElem? (i := 1686) (by decide +kernel)⟩
theorem lw_p77 : lw_okq (⟨"SpecialiserModel", "makeVersion", "(I)V"⟩, 99) := ⟨⟨by decide +kernel, by decide +kernel⟩, List.mem_of_getElem? (i := 1242) (by decide +kernel), List.mem_of_getElem? (i := 1689) (by decide +kernel), List.mem_of_getElem? (i := 1690) (by decide +kernel)⟩
theorem lw_p78 : lw_okq (⟨"SpecialiserModel", "later", "(II)V"⟩, 99) := ⟨⟨by decide +kernel, by decide +kernel⟩, List.mem_of_getElem? (i := 1242) (by decide +kernel), List.mem_of_getElem? (i := 1693) (by decide +kernel), List.mem_of_getElem? (i := 1694) (by decide +kernel)⟩
theorem lw_p79 : lw_okq (⟨"SpecialiserModel", "onMaking", "(II)V"⟩, 99) := ⟨⟨by decide +kernel, by decide +kernel⟩, List.mem_of_getElem? (i := 1242) (by decide +kernel), List.mem_of_getElem? (i := 1697) (by decide +kernel), List.mem_of_getElem? (i := 1698) (by decide +kernel)⟩
def lw_privs_5 : List (MethodName × Nat) := [(⟨"SpecialiserModel", "onE", "()V"⟩, 99), (⟨"SpecialiserModel", "begins", "()Z"⟩, 99), (⟨"SpecialiserModel", "node", "(II)I"⟩, 99), (⟨"SpecialiserModel", "onSum", "(II)V"⟩, 99), (⟨"SpecialiserModel", "onAtom", "()V"⟩, 99), (⟨"SpecialiserModel", "keep", "(I)V"⟩, 99), (⟨"SpecialiserModel", "last", "()I"⟩, 99), (⟨"SpecialiserModel", "onRest", "(II)V"⟩, 99), (⟨"SpecialiserModel", "judge", "()V"⟩, 99), (⟨"SpecialiserModel", "onJudge", "(I)V"⟩, 99), (⟨"SpecialiserModel", "isFn", "(I)Z"⟩, 99), (⟨"SpecialiserModel", "knownMany", "()I"⟩, 99), (⟨"SpecialiserModel", "versionOf", "(IIZ)I"⟩, 99), (⟨"SpecialiserModel", "makeVersion", "(I)V"⟩, 99), (⟨"SpecialiserModel", "later", "(II)V"⟩, 99), (⟨"SpecialiserModel", "onMaking", "(II)V"⟩, 99)]
theorem lw_r5 : ∀ q ∈ lw_privs_5, lw_okq q := List.forall_mem_cons.mpr ⟨lw_p64, List.forall_mem_cons.mpr ⟨lw_p65, List.forall_mem_cons.mpr ⟨lw_p66, List.forall_mem_cons.mpr ⟨lw_p67, List.forall_mem_cons.mpr ⟨lw_p68, List.forall_mem_cons.mpr ⟨lw_p69, List.forall_mem_cons.mpr ⟨lw_p70, List.forall_mem_cons.mpr ⟨lw_p71, List.forall_mem_cons.mpr ⟨lw_p72, List.forall_mem_cons.mpr ⟨lw_p73, List.forall_mem_cons.mpr ⟨lw_p74, List.forall_mem_cons.mpr ⟨lw_p75, List.forall_mem_cons.mpr ⟨lw_p76, List.forall_mem_cons.mpr ⟨lw_p77, List.forall_mem_cons.mpr ⟨lw_p78, List.forall_mem_cons.mpr ⟨lw_p79, fun _ h => absurd h List.not_mem_nil⟩⟩⟩⟩⟩⟩⟩⟩⟩⟩⟩⟩⟩⟩⟩⟩
theorem lw_p80 : lw_okq (⟨"SpecialiserModel", "onEv", "(I)V"⟩, 99) := ⟨⟨by decide +kernel, by decide +kernel⟩, List.mem_of_getElem? (i := 1242) (by decide +kernel), List.mem_of_getElem? (i := 1701) (by decide +kernel), List.mem_of_getElem? (i := 1702) (by decide +kernel)⟩
theorem lw_p81 : lw_okq (⟨"SpecialiserModel", "gives", "(ZI)V"⟩, 99) := ⟨⟨by decide +kernel, by decide +kernel⟩, List.mem_of_getElem? (i := 1242) (by decide +kernel), List.mem_of_getElem? (i := 1705) (by decide +kernel), List.mem_of_getElem? (i := 1706) (by decide +kernel)⟩
theorem lw_p82 : lw_okq (⟨"SpecialiserModel", "fresh", "(I)I"⟩, 99) := ⟨⟨by decide +kernel, by decide +kernel⟩, List.mem_of_getElem? (i := 1242) (by decide +kernel), List.mem_of_getElem? (i := 1709) (by decide +kernel), List.mem_of_getElem? (i := 1710) (by decide +kernel)⟩
theorem lw_p83 : lw_okq (⟨"SpecialiserModel", "nodeOf", "(I)I"⟩, 99) := ⟨⟨by decide +kernel, by decide +kernel⟩, List.mem_of_getElem? (i := 1242) (by decide +kernel), List.mem_of_getElem? (i := 1716) (by decide +kernel), List.mem_of_getElem? (i := 1717) (by decide +kernel)⟩
theorem lw_p84 : lw_okq (⟨"SpecialiserModel", "onCalled", "(I)V"⟩, 99) := ⟨⟨by decide +kernel, by decide +kernel⟩, List.mem_of_getElem? (i := 1242) (by decide +kernel), List.mem_of_getElem? (i := 1720) (by decide +kernel), List.mem_of_getElem? (i := 1721) (by decide +kernel)⟩
theorem lw_p85 : lw_okq (⟨"SpecialiserModel", "goes", "(II)I"⟩, 99) := ⟨⟨by decide +kernel, by decide +kernel⟩, List.mem_of_getElem? (i := 1242) (by decide +kernel), List.mem_of_getElem? (i := 1724) (by decide +kernel), List.mem_of_getElem? (i := 1725) (by decide +kernel)⟩
theorem lw_p86 : lw_okq (⟨"SpecialiserModel", "work", "(I)V"⟩, 99) := ⟨⟨by decide +kernel, by decide +kernel⟩, List.mem_of_getElem? (i := 1242) (by decide +kernel), List.mem_of_getElem? (i := 1728) (by decide +kernel), List.mem_of_getElem? (i := 1729) (by decide +kernel)⟩
theorem lw_p87 : lw_okq (⟨"SpecialiserModel", "leftOf", "(I)I"⟩, 99) := ⟨⟨by decide +kernel, by decide +kernel⟩, List.mem_of_getElem? (i := 1242) (by decide +kernel), List.mem_of_getElem? (i := 1737) (by decide +kernel), List.mem_of_getElem? (i := 1738) (by decide +kernel)⟩
theorem lw_p88 : lw_okq (⟨"SpecialiserModel", "lay", "(I)V"⟩, 99) := ⟨⟨by decide +kernel, by decide +kernel⟩, List.mem_of_getElem? (i := 1242) (by decide +kernel), List.mem_of_getElem? (i := 1750) (by decide +kernel), List.mem_of_getElem? (i := 1751) (by decide +kernel)⟩
theorem lw_p89 : lw_okq (⟨"SpecialiserModel", "figures", "(I)V"⟩, 99) := ⟨⟨by decide +kernel, by decide +kernel⟩, List.mem_of_getElem? (i := 1242) (by decide +kernel), List.mem_of_getElem? (i := 1754) (by decide +kernel), List.mem_of_getElem? (i := 1755) (by decide +kernel)⟩
theorem lw_p90 : lw_okq (⟨"SpecialiserModel", "layAll", "(J)V"⟩, 99) := ⟨⟨by decide +kernel, by decide +kernel⟩, List.mem_of_getElem? (i := 1242) (by decide +kernel), List.mem_of_getElem? (i := 1761) (by decide +kernel), List.mem_of_getElem? (i := 1762) (by decide +kernel)⟩
theorem lw_p91 : lw_okq (⟨"SpecialiserModel", "onExpression", "(I)V"⟩, 99) := ⟨⟨by decide +kernel, by decide +kernel⟩, List.mem_of_getElem? (i := 1242) (by decide +kernel), List.mem_of_getElem? (i := 1766) (by decide +kernel), List.mem_of_getElem? (i := 1767) (by decide +kernel)⟩
theorem lw_p92 : lw_okq (⟨"SpecialiserModel", "layNumber", "(I)V"⟩, 99) := ⟨⟨by decide +kernel, by decide +kernel⟩, List.mem_of_getElem? (i := 1242) (by decide +kernel), List.mem_of_getElem? (i := 1770) (by decide +kernel), List.mem_of_getElem? (i := 1771) (by decide +kernel)⟩
theorem lw_p93 : lw_okq (⟨"SpecialiserModel", "bytesLater", "(J)V"⟩, 99) := ⟨⟨by decide +kernel, by decide +kernel⟩, List.mem_of_getElem? (i := 1242) (by decide +kernel), List.mem_of_getElem? (i := 1777) (by decide +kernel), List.mem_of_getElem? (i := 1778) (by decide +kernel)⟩
def lw_privs_6 : List (MethodName × Nat) := [(⟨"SpecialiserModel", "onEv", "(I)V"⟩, 99), (⟨"SpecialiserModel", "gives", "(ZI)V"⟩, 99), (⟨"SpecialiserModel", "fresh", "(I)I"⟩, 99), (⟨"SpecialiserModel", "nodeOf", "(I)I"⟩, 99), (⟨"SpecialiserModel", "onCalled", "(I)V"⟩, 99), (⟨"SpecialiserModel", "goes", "(II)I"⟩, 99), (⟨"SpecialiserModel", "work", "(I)V"⟩, 99), (⟨"SpecialiserModel", "leftOf", "(I)I"⟩, 99), (⟨"SpecialiserModel", "lay", "(I)V"⟩, 99), (⟨"SpecialiserModel", "figures", "(I)V"⟩, 99), (⟨"SpecialiserModel", "layAll", "(J)V"⟩, 99), (⟨"SpecialiserModel", "onExpression", "(I)V"⟩, 99), (⟨"SpecialiserModel", "layNumber", "(I)V"⟩, 99), (⟨"SpecialiserModel", "bytesLater", "(J)V"⟩, 99)]
theorem lw_r6 : ∀ q ∈ lw_privs_6, lw_okq q := List.forall_mem_cons.mpr ⟨lw_p80, List.forall_mem_cons.mpr ⟨lw_p81, List.forall_mem_cons.mpr ⟨lw_p82, List.forall_mem_cons.mpr ⟨lw_p83, List.forall_mem_cons.mpr ⟨lw_p84, List.forall_mem_cons.mpr ⟨lw_p85, List.forall_mem_cons.mpr ⟨lw_p86, List.forall_mem_cons.mpr ⟨lw_p87, List.forall_mem_cons.mpr ⟨lw_p88, List.forall_mem_cons.mpr ⟨lw_p89, List.forall_mem_cons.mpr ⟨lw_p90, List.forall_mem_cons.mpr ⟨lw_p91, List.forall_mem_cons.mpr ⟨lw_p92, List.forall_mem_cons.mpr ⟨lw_p93, fun _ h => absurd h List.not_mem_nil⟩⟩⟩⟩⟩⟩⟩⟩⟩⟩⟩⟩⟩⟩
def lw_privs : List (MethodName × Nat) := lw_privs_1 ++ (lw_privs_2 ++ (lw_privs_3 ++ (lw_privs_4 ++ (lw_privs_5 ++ (lw_privs_6)))))
def lw_tbl : List Cond := k2_sels lw_privs ++ tables_1
theorem lw_privs_ok : ∀ q ∈ lw_privs, lw_okq q := by
  show ∀ q ∈ lw_privs_1 ++ (lw_privs_2 ++ (lw_privs_3 ++ (lw_privs_4 ++ (lw_privs_5 ++ (lw_privs_6))))), lw_okq q
  exact List.forall_mem_append.mpr ⟨lw_r1, List.forall_mem_append.mpr ⟨lw_r2, List.forall_mem_append.mpr ⟨lw_r3, List.forall_mem_append.mpr ⟨lw_r4, List.forall_mem_append.mpr ⟨lw_r5, lw_r6⟩⟩⟩⟩⟩
end
section
/-! The tables of this claim's classes for the small machine: printed by wip/whole/gen_tables.py. -/
def RX0 : String := "Specialiser$Bodies"
def TX0 : u_T := fun k => match k with
  | 0 => ("Specialiser$Bodies", "trees", "LSpecialiser$Trees;", true)
  | 1 => ("Specialiser$Bodies", "roots", "LSpecialiser$Row;", true)
  | 2 => ("Specialiser$Bodies", "params", "LSpecialiser$Row;", true)
  | _ => ("Specialiser$Bodies", "count", "I", false)
def tyX0 : Nat → FieldType := fun k => match k with
  | 0 => .object "Specialiser$Trees"
  | 1 => .object "Specialiser$Row"
  | 2 => .object "Specialiser$Row"
  | _ => .int
theorem nmX0 : ∀ a, a < 4 → ∀ b, b < 4 → a ≠ b → (TX0 a).2.1 ≠ (TX0 b).2.1 := by decide +kernel
theorem tyX0_ok : ∀ k, k < 4 → parseFieldDescriptor (TX0 k).2.2.1 = some (tyX0 k) := by decide +kernel
def RX1 : String := "Specialiser$LongRow"
def TX1 : u_T := fun k => match k with
  | _ => ("Specialiser$LongRow", "cells", "[J", true)
def tyX1 : Nat → FieldType := fun k => match k with
  | _ => .array .long
theorem nmX1 : ∀ a, a < 1 → ∀ b, b < 1 → a ≠ b → (TX1 a).2.1 ≠ (TX1 b).2.1 := by decide +kernel
theorem tyX1_ok : ∀ k, k < 1 → parseFieldDescriptor (TX1 k).2.2.1 = some (tyX1 k) := by decide +kernel
def RX2 : String := "Specialiser$Maker"
def TX2 : u_T := fun k => match k with
  | 0 => ("Specialiser$Maker", "runner", "LSpecialiser$Runner;", true)
  | 1 => ("Specialiser$Maker", "program", "LSpecialiser$Bodies;", false)
  | 2 => ("Specialiser$Maker", "text", "LSpecialiser$Trees;", false)
  | 3 => ("Specialiser$Maker", "versions", "LSpecialiser$Versions;", false)
  | 4 => ("Specialiser$Maker", "rests", "LSpecialiser$Trees;", false)
  | 5 => ("Specialiser$Maker", "areNumbers", "LSpecialiser$Row;", true)
  | 6 => ("Specialiser$Maker", "meanings", "LSpecialiser$Row;", true)
  | 7 => ("Specialiser$Maker", "wanted", "LSpecialiser$Row;", true)
  | 8 => ("Specialiser$Maker", "gone", "I", false)
  | 9 => ("Specialiser$Maker", "tried", "I", false)
  | _ => ("Specialiser$Maker", "triedWell", "I", false)
def tyX2 : Nat → FieldType := fun k => match k with
  | 0 => .object "Specialiser$Runner"
  | 1 => .object "Specialiser$Bodies"
  | 2 => .object "Specialiser$Trees"
  | 3 => .object "Specialiser$Versions"
  | 4 => .object "Specialiser$Trees"
  | 5 => .object "Specialiser$Row"
  | 6 => .object "Specialiser$Row"
  | 7 => .object "Specialiser$Row"
  | 8 => .int
  | 9 => .int
  | _ => .int
theorem nmX2 : ∀ a, a < 11 → ∀ b, b < 11 → a ≠ b → (TX2 a).2.1 ≠ (TX2 b).2.1 := by decide +kernel
theorem tyX2_ok : ∀ k, k < 11 → parseFieldDescriptor (TX2 k).2.2.1 = some (tyX2 k) := by decide +kernel
def RX3 : String := "Specialiser$Printer"
def TX3 : u_T := fun k => match k with
  | 0 => ("Specialiser$Printer", "bytes", "LSpecialiser$Row;", true)
  | 1 => ("Specialiser$Printer", "letNumbers", "LSpecialiser$Row;", true)
  | 2 => ("Specialiser$Printer", "versions", "LSpecialiser$Versions;", false)
  | 3 => ("Specialiser$Printer", "rests", "LSpecialiser$Trees;", false)
  | 4 => ("Specialiser$Printer", "writing", "Z", false)
  | 5 => ("Specialiser$Printer", "length", "I", false)
  | 6 => ("Specialiser$Printer", "params", "I", false)
  | _ => ("Specialiser$Printer", "lets", "I", false)
def tyX3 : Nat → FieldType := fun k => match k with
  | 0 => .object "Specialiser$Row"
  | 1 => .object "Specialiser$Row"
  | 2 => .object "Specialiser$Versions"
  | 3 => .object "Specialiser$Trees"
  | 4 => .boolean
  | 5 => .int
  | 6 => .int
  | _ => .int
theorem nmX3 : ∀ a, a < 8 → ∀ b, b < 8 → a ≠ b → (TX3 a).2.1 ≠ (TX3 b).2.1 := by decide +kernel
theorem tyX3_ok : ∀ k, k < 8 → parseFieldDescriptor (TX3 k).2.2.1 = some (tyX3 k) := by decide +kernel
def RX4 : String := "Specialiser$Reader"
def TX4 : u_T := fun k => match k with
  | 0 => ("Specialiser$Reader", "tokens", "LSpecialiser$Tokens;", true)
  | 1 => ("Specialiser$Reader", "text", "LSpecialiser$Bodies;", false)
  | 2 => ("Specialiser$Reader", "trees", "LSpecialiser$Trees;", false)
  | 3 => ("Specialiser$Reader", "index", "I", false)
  | 4 => ("Specialiser$Reader", "ahead", "I", false)
  | 5 => ("Specialiser$Reader", "fault", "I", false)
  | 6 => ("Specialiser$Reader", "faultToken", "I", false)
  | 7 => ("Specialiser$Reader", "functionNames", "LSpecialiser$LongRow;", true)
  | 8 => ("Specialiser$Reader", "nameCount", "I", false)
  | 9 => ("Specialiser$Reader", "scopeNames", "LSpecialiser$LongRow;", true)
  | 10 => ("Specialiser$Reader", "scopeSlots", "LSpecialiser$Row;", true)
  | 11 => ("Specialiser$Reader", "scopeCount", "I", false)
  | _ => ("Specialiser$Reader", "missing", "I", false)
def tyX4 : Nat → FieldType := fun k => match k with
  | 0 => .object "Specialiser$Tokens"
  | 1 => .object "Specialiser$Bodies"
  | 2 => .object "Specialiser$Trees"
  | 3 => .int
  | 4 => .int
  | 5 => .int
  | 6 => .int
  | 7 => .object "Specialiser$LongRow"
  | 8 => .int
  | 9 => .object "Specialiser$LongRow"
  | 10 => .object "Specialiser$Row"
  | 11 => .int
  | _ => .int
theorem nmX4 : ∀ a, a < 13 → ∀ b, b < 13 → a ≠ b → (TX4 a).2.1 ≠ (TX4 b).2.1 := by decide +kernel
theorem tyX4_ok : ∀ k, k < 13 → parseFieldDescriptor (TX4 k).2.2.1 = some (tyX4 k) := by decide +kernel
def RX5 : String := "Specialiser$Row"
def TX5 : u_T := fun k => match k with
  | _ => ("Specialiser$Row", "cells", "[I", true)
def tyX5 : Nat → FieldType := fun k => match k with
  | _ => .array .int
theorem nmX5 : ∀ a, a < 1 → ∀ b, b < 1 → a ≠ b → (TX5 a).2.1 ≠ (TX5 b).2.1 := by decide +kernel
theorem tyX5_ok : ∀ k, k < 1 → parseFieldDescriptor (TX5 k).2.2.1 = some (tyX5 k) := by decide +kernel
def RX6 : String := "Specialiser$Runner"
def TX6 : u_T := fun k => match k with
  | 0 => ("Specialiser$Runner", "nodes", "LSpecialiser$Row;", true)
  | 1 => ("Specialiser$Runner", "turns", "LSpecialiser$Row;", true)
  | 2 => ("Specialiser$Runner", "lefts", "LSpecialiser$Row;", true)
  | 3 => ("Specialiser$Runner", "frames", "LSpecialiser$Row;", true)
  | 4 => ("Specialiser$Runner", "slots", "LSpecialiser$Row;", true)
  | 5 => ("Specialiser$Runner", "bodies", "LSpecialiser$Bodies;", false)
  | 6 => ("Specialiser$Runner", "trees", "LSpecialiser$Trees;", false)
  | 7 => ("Specialiser$Runner", "limit", "I", false)
  | 8 => ("Specialiser$Runner", "depth", "I", false)
  | 9 => ("Specialiser$Runner", "steps", "I", false)
  | 10 => ("Specialiser$Runner", "deepest", "I", false)
  | 11 => ("Specialiser$Runner", "result", "I", false)
  | _ => ("Specialiser$Runner", "end", "I", false)
def tyX6 : Nat → FieldType := fun k => match k with
  | 0 => .object "Specialiser$Row"
  | 1 => .object "Specialiser$Row"
  | 2 => .object "Specialiser$Row"
  | 3 => .object "Specialiser$Row"
  | 4 => .object "Specialiser$Row"
  | 5 => .object "Specialiser$Bodies"
  | 6 => .object "Specialiser$Trees"
  | 7 => .int
  | 8 => .int
  | 9 => .int
  | 10 => .int
  | 11 => .int
  | _ => .int
theorem nmX6 : ∀ a, a < 13 → ∀ b, b < 13 → a ≠ b → (TX6 a).2.1 ≠ (TX6 b).2.1 := by decide +kernel
theorem tyX6_ok : ∀ k, k < 13 → parseFieldDescriptor (TX6 k).2.2.1 = some (tyX6 k) := by decide +kernel
def RX7 : String := "Specialiser$Tokens"
def TX7 : u_T := fun k => match k with
  | 0 => ("Specialiser$Tokens", "bytes", "LSpecialiser$Row;", true)
  | 1 => ("Specialiser$Tokens", "kinds", "LSpecialiser$Row;", true)
  | 2 => ("Specialiser$Tokens", "starts", "LSpecialiser$Row;", true)
  | 3 => ("Specialiser$Tokens", "values", "LSpecialiser$LongRow;", true)
  | 4 => ("Specialiser$Tokens", "length", "I", false)
  | _ => ("Specialiser$Tokens", "count", "I", false)
def tyX7 : Nat → FieldType := fun k => match k with
  | 0 => .object "Specialiser$Row"
  | 1 => .object "Specialiser$Row"
  | 2 => .object "Specialiser$Row"
  | 3 => .object "Specialiser$LongRow"
  | 4 => .int
  | _ => .int
theorem nmX7 : ∀ a, a < 6 → ∀ b, b < 6 → a ≠ b → (TX7 a).2.1 ≠ (TX7 b).2.1 := by decide +kernel
theorem tyX7_ok : ∀ k, k < 6 → parseFieldDescriptor (TX7 k).2.2.1 = some (tyX7 k) := by decide +kernel
def RX8 : String := "Specialiser$Trees"
def TX8 : u_T := fun k => match k with
  | 0 => ("Specialiser$Trees", "kinds", "LSpecialiser$Row;", true)
  | 1 => ("Specialiser$Trees", "values", "LSpecialiser$Row;", true)
  | 2 => ("Specialiser$Trees", "counts", "LSpecialiser$Row;", true)
  | 3 => ("Specialiser$Trees", "parts", "LSpecialiser$Row;", true)
  | 4 => ("Specialiser$Trees", "sizes", "LSpecialiser$Row;", true)
  | 5 => ("Specialiser$Trees", "lets", "LSpecialiser$Row;", true)
  | _ => ("Specialiser$Trees", "count", "I", false)
def tyX8 : Nat → FieldType := fun k => match k with
  | 0 => .object "Specialiser$Row"
  | 1 => .object "Specialiser$Row"
  | 2 => .object "Specialiser$Row"
  | 3 => .object "Specialiser$Row"
  | 4 => .object "Specialiser$Row"
  | 5 => .object "Specialiser$Row"
  | _ => .int
theorem nmX8 : ∀ a, a < 7 → ∀ b, b < 7 → a ≠ b → (TX8 a).2.1 ≠ (TX8 b).2.1 := by decide +kernel
theorem tyX8_ok : ∀ k, k < 7 → parseFieldDescriptor (TX8 k).2.2.1 = some (tyX8 k) := by decide +kernel
def RX9 : String := "Specialiser$Versions"
def TX9 : u_T := fun k => match k with
  | 0 => ("Specialiser$Versions", "bodies", "LSpecialiser$Bodies;", true)
  | 1 => ("Specialiser$Versions", "functions", "LSpecialiser$Row;", true)
  | 2 => ("Specialiser$Versions", "masks", "LSpecialiser$Row;", true)
  | _ => ("Specialiser$Versions", "numbers", "LSpecialiser$Row;", true)
def tyX9 : Nat → FieldType := fun k => match k with
  | 0 => .object "Specialiser$Bodies"
  | 1 => .object "Specialiser$Row"
  | 2 => .object "Specialiser$Row"
  | _ => .object "Specialiser$Row"
theorem nmX9 : ∀ a, a < 4 → ∀ b, b < 4 → a ≠ b → (TX9 a).2.1 ≠ (TX9 b).2.1 := by decide +kernel
theorem tyX9_ok : ∀ k, k < 4 → parseFieldDescriptor (TX9 k).2.2.1 = some (tyX9 k) := by decide +kernel
def RX10 : String := "Specialiser"
def TX10 : u_T := fun k => match k with
  | 0 => ("Specialiser", "tape", "LSpecialiser$Row;", true)
  | 1 => ("Specialiser", "tapeLength", "I", false)
  | 2 => ("Specialiser", "faultPlace", "I", false)
  | 3 => ("Specialiser", "tokens", "LSpecialiser$Tokens;", true)
  | 4 => ("Specialiser", "reader", "LSpecialiser$Reader;", true)
  | 5 => ("Specialiser", "program", "LSpecialiser$Bodies;", false)
  | 6 => ("Specialiser", "spareProgram", "LSpecialiser$Bodies;", false)
  | 7 => ("Specialiser", "versions", "LSpecialiser$Versions;", false)
  | 8 => ("Specialiser", "spareVersions", "LSpecialiser$Versions;", false)
  | 9 => ("Specialiser", "runner", "LSpecialiser$Runner;", true)
  | 10 => ("Specialiser", "maker", "LSpecialiser$Maker;", true)
  | 11 => ("Specialiser", "knownNumbers", "LSpecialiser$Row;", true)
  | 12 => ("Specialiser", "knownMask", "I", false)
  | 13 => ("Specialiser", "toldNumbers", "LSpecialiser$Row;", true)
  | 14 => ("Specialiser", "outBytes", "LSpecialiser$Row;", true)
  | 15 => ("Specialiser", "outLength", "I", false)
  | 16 => ("Specialiser", "printer", "LSpecialiser$Printer;", true)
  | 17 => ("Specialiser", "givenNumbers", "LSpecialiser$Row;", true)
  | 18 => ("Specialiser", "givenCount", "I", false)
  | _ => ("Specialiser", "ranNumbers", "LSpecialiser$Row;", true)
def tyX10 : Nat → FieldType := fun k => match k with
  | 0 => .object "Specialiser$Row"
  | 1 => .int
  | 2 => .int
  | 3 => .object "Specialiser$Tokens"
  | 4 => .object "Specialiser$Reader"
  | 5 => .object "Specialiser$Bodies"
  | 6 => .object "Specialiser$Bodies"
  | 7 => .object "Specialiser$Versions"
  | 8 => .object "Specialiser$Versions"
  | 9 => .object "Specialiser$Runner"
  | 10 => .object "Specialiser$Maker"
  | 11 => .object "Specialiser$Row"
  | 12 => .int
  | 13 => .object "Specialiser$Row"
  | 14 => .object "Specialiser$Row"
  | 15 => .int
  | 16 => .object "Specialiser$Printer"
  | 17 => .object "Specialiser$Row"
  | 18 => .int
  | _ => .object "Specialiser$Row"
theorem nmX10 : ∀ a, a < 20 → ∀ b, b < 20 → a ≠ b → (TX10 a).2.1 ≠ (TX10 b).2.1 := by decide +kernel
theorem tyX10_ok : ∀ k, k < 20 → parseFieldDescriptor (TX10 k).2.2.1 = some (tyX10 k) := by decide +kernel
def RX11 : String := "SpecialiserModel"
def TX11 : u_T := fun k => match k with
  | 0 => ("SpecialiserModel", "thrown", "I", false)
  | 1 => ("SpecialiserModel", "tape", "[I", true)
  | 2 => ("SpecialiserModel", "taped", "I", false)
  | 3 => ("SpecialiserModel", "at", "I", false)
  | 4 => ("SpecialiserModel", "token", "I", false)
  | 5 => ("SpecialiserModel", "tokenAt", "I", false)
  | 6 => ("SpecialiserModel", "tokenCount", "I", false)
  | 7 => ("SpecialiserModel", "key", "J", false)
  | 8 => ("SpecialiserModel", "amount", "I", false)
  | 9 => ("SpecialiserModel", "fault", "I", false)
  | 10 => ("SpecialiserModel", "faultAt", "I", false)
  | 11 => ("SpecialiserModel", "fnKey", "[J", true)
  | 12 => ("SpecialiserModel", "fnParams", "[I", true)
  | 13 => ("SpecialiserModel", "fnNames", "[I", true)
  | 14 => ("SpecialiserModel", "fnBody", "[I", true)
  | 15 => ("SpecialiserModel", "fnSize", "[I", true)
  | 16 => ("SpecialiserModel", "nameKey", "[J", true)
  | 17 => ("SpecialiserModel", "xKind", "[I", true)
  | 18 => ("SpecialiserModel", "xA", "[I", true)
  | 19 => ("SpecialiserModel", "xB", "[I", true)
  | 20 => ("SpecialiserModel", "xC", "[I", true)
  | 21 => ("SpecialiserModel", "xAt", "[I", true)
  | 22 => ("SpecialiserModel", "xKey", "[J", true)
  | 23 => ("SpecialiserModel", "argOf", "[I", true)
  | 24 => ("SpecialiserModel", "bankFns", "[I", true)
  | 25 => ("SpecialiserModel", "bank", "I", false)
  | 26 => ("SpecialiserModel", "fns", "I", false)
  | 27 => ("SpecialiserModel", "nodes", "I", false)
  | 28 => ("SpecialiserModel", "argsLaid", "I", false)
  | 29 => ("SpecialiserModel", "waiting", "[I", true)
  | 30 => ("SpecialiserModel", "waits", "I", false)
  | 31 => ("SpecialiserModel", "f", "I", false)
  | 32 => ("SpecialiserModel", "sy", "[I", true)
  | 33 => ("SpecialiserModel", "sa", "[I", true)
  | 34 => ("SpecialiserModel", "sw", "[I", true)
  | 35 => ("SpecialiserModel", "tasks", "I", false)
  | 36 => ("SpecialiserModel", "made", "[I", true)
  | 37 => ("SpecialiserModel", "makes", "I", false)
  | 38 => ("SpecialiserModel", "others", "I", false)
  | 39 => ("SpecialiserModel", "scope", "[I", true)
  | 40 => ("SpecialiserModel", "scoped", "I", false)
  | 41 => ("SpecialiserModel", "isProgram", "Z", false)
  | 42 => ("SpecialiserModel", "here", "I", false)
  | 43 => ("SpecialiserModel", "values", "[I", true)
  | 44 => ("SpecialiserModel", "valued", "I", false)
  | 45 => ("SpecialiserModel", "envs", "[I", true)
  | 46 => ("SpecialiserModel", "env", "I", false)
  | 47 => ("SpecialiserModel", "out", "I", false)
  | 48 => ("SpecialiserModel", "stepped", "I", false)
  | 49 => ("SpecialiserModel", "most", "I", false)
  | 50 => ("SpecialiserModel", "depth", "I", false)
  | 51 => ("SpecialiserModel", "deepest", "I", false)
  | 52 => ("SpecialiserModel", "end", "I", false)
  | 53 => ("SpecialiserModel", "vFn", "[I", true)
  | 54 => ("SpecialiserModel", "vMask", "[I", true)
  | 55 => ("SpecialiserModel", "vKnown", "[I", true)
  | 56 => ("SpecialiserModel", "vBody", "[I", true)
  | 57 => ("SpecialiserModel", "vSize", "[I", true)
  | 58 => ("SpecialiserModel", "vLets", "[I", true)
  | 59 => ("SpecialiserModel", "versions", "I", false)
  | 60 => ("SpecialiserModel", "expressions", "I", false)
  | 61 => ("SpecialiserModel", "tried", "I", false)
  | 62 => ("SpecialiserModel", "worked", "I", false)
  | 63 => ("SpecialiserModel", "vBank", "I", false)
  | 64 => ("SpecialiserModel", "mBank", "I", false)
  | 65 => ("SpecialiserModel", "mMany", "I", false)
  | 66 => ("SpecialiserModel", "mNodes", "I", false)
  | 67 => ("SpecialiserModel", "mArgs", "I", false)
  | 68 => ("SpecialiserModel", "mTried", "I", false)
  | 69 => ("SpecialiserModel", "mWorked", "I", false)
  | 70 => ("SpecialiserModel", "mLets", "I", false)
  | 71 => ("SpecialiserModel", "mGone", "I", false)
  | 72 => ("SpecialiserModel", "gone", "I", false)
  | 73 => ("SpecialiserModel", "tooMany", "Z", false)
  | 74 => ("SpecialiserModel", "ty", "[I", true)
  | 75 => ("SpecialiserModel", "tx", "[I", true)
  | 76 => ("SpecialiserModel", "todo", "I", false)
  | 77 => ("SpecialiserModel", "isNumber", "[Z", true)
  | 78 => ("SpecialiserModel", "became", "[I", true)
  | 79 => ("SpecialiserModel", "becomes", "I", false)
  | 80 => ("SpecialiserModel", "nameIsNumber", "[Z", true)
  | 81 => ("SpecialiserModel", "nameIs", "[I", true)
  | 82 => ("SpecialiserModel", "knownNow", "[I", true)
  | 83 => ("SpecialiserModel", "given4", "[I", true)
  | 84 => ("SpecialiserModel", "isKnown", "[Z", true)
  | 85 => ("SpecialiserModel", "known", "[I", true)
  | 86 => ("SpecialiserModel", "printed", "[I", true)
  | 87 => ("SpecialiserModel", "print", "[I", true)
  | 88 => ("SpecialiserModel", "prints", "I", false)
  | 89 => ("SpecialiserModel", "outSize", "I", false)
  | 90 => ("SpecialiserModel", "tl", "[J", true)
  | 91 => ("SpecialiserModel", "letNumber", "[I", true)
  | 92 => ("SpecialiserModel", "lets", "I", false)
  | 93 => ("SpecialiserModel", "params", "I", false)
  | 94 => ("SpecialiserModel", "gift", "[I", true)
  | 95 => ("SpecialiserModel", "given", "I", false)
  | 96 => ("SpecialiserModel", "gave", "I", false)
  | 97 => ("SpecialiserModel", "gaveSteps", "I", false)
  | _ => ("SpecialiserModel", "gaveDepth", "I", false)
def tyX11 : Nat → FieldType := fun k => match k with
  | 0 => .int
  | 1 => .array .int
  | 2 => .int
  | 3 => .int
  | 4 => .int
  | 5 => .int
  | 6 => .int
  | 7 => .long
  | 8 => .int
  | 9 => .int
  | 10 => .int
  | 11 => .array .long
  | 12 => .array .int
  | 13 => .array .int
  | 14 => .array .int
  | 15 => .array .int
  | 16 => .array .long
  | 17 => .array .int
  | 18 => .array .int
  | 19 => .array .int
  | 20 => .array .int
  | 21 => .array .int
  | 22 => .array .long
  | 23 => .array .int
  | 24 => .array .int
  | 25 => .int
  | 26 => .int
  | 27 => .int
  | 28 => .int
  | 29 => .array .int
  | 30 => .int
  | 31 => .int
  | 32 => .array .int
  | 33 => .array .int
  | 34 => .array .int
  | 35 => .int
  | 36 => .array .int
  | 37 => .int
  | 38 => .int
  | 39 => .array .int
  | 40 => .int
  | 41 => .boolean
  | 42 => .int
  | 43 => .array .int
  | 44 => .int
  | 45 => .array .int
  | 46 => .int
  | 47 => .int
  | 48 => .int
  | 49 => .int
  | 50 => .int
  | 51 => .int
  | 52 => .int
  | 53 => .array .int
  | 54 => .array .int
  | 55 => .array .int
  | 56 => .array .int
  | 57 => .array .int
  | 58 => .array .int
  | 59 => .int
  | 60 => .int
  | 61 => .int
  | 62 => .int
  | 63 => .int
  | 64 => .int
  | 65 => .int
  | 66 => .int
  | 67 => .int
  | 68 => .int
  | 69 => .int
  | 70 => .int
  | 71 => .int
  | 72 => .int
  | 73 => .boolean
  | 74 => .array .int
  | 75 => .array .int
  | 76 => .int
  | 77 => .array .boolean
  | 78 => .array .int
  | 79 => .int
  | 80 => .array .boolean
  | 81 => .array .int
  | 82 => .array .int
  | 83 => .array .int
  | 84 => .array .boolean
  | 85 => .array .int
  | 86 => .array .int
  | 87 => .array .int
  | 88 => .int
  | 89 => .int
  | 90 => .array .long
  | 91 => .array .int
  | 92 => .int
  | 93 => .int
  | 94 => .array .int
  | 95 => .int
  | 96 => .int
  | 97 => .int
  | _ => .int
theorem nmX11 : ∀ a, a < 99 → ∀ b, b < 99 → a ≠ b → (TX11 a).2.1 ≠ (TX11 b).2.1 := by decide +kernel
theorem tyX11_ok : ∀ k, k < 99 → parseFieldDescriptor (TX11 k).2.2.1 = some (tyX11 k) := by decide +kernel
abbrev vwCl : List vw_C := [(RX0, TX0, 4), (RX1, TX1, 1), (RX2, TX2, 11), (RX3, TX3, 8), (RX4, TX4, 13), (RX5, TX5, 1), (RX6, TX6, 13), (RX7, TX7, 6), (RX8, TX8, 7), (RX9, TX9, 4), (RX10, TX10, 20), (RX11, TX11, 99)]
def tb_m : List mi_M := [
  (⟨"SpecialiserLaw", "law", "([I)Z"⟩, code, 7, (some .boolean), []),
  (⟨"Specialiser", "<init>", "()V"⟩, prog_1_method_1_code, 1, none, []),
  (⟨"Specialiser$Row", "<init>", "(I)V"⟩, prog_7_method_1_code, 2, none, []),
  (⟨"Specialiser$Tokens", "<init>", "(LSpecialiser$Row;)V"⟩, prog_9_method_1_code, 2, none, []),
  (⟨"Specialiser$LongRow", "<init>", "(I)V"⟩, prog_3_method_1_code, 2, none, []),
  (⟨"Specialiser$Bodies", "<init>", "(II)V"⟩, prog_2_method_1_code, 3, none, []),
  (⟨"Specialiser$Trees", "<init>", "(I)V"⟩, prog_10_method_1_code, 2, none, []),
  (⟨"Specialiser$Reader", "<init>", "(LSpecialiser$Tokens;LSpecialiser$Bodies;)V"⟩, prog_6_method_1_code, 3, none, []),
  (⟨"Specialiser$Bodies", "trees", "()LSpecialiser$Trees;"⟩, prog_2_method_7_code, 1, (some (.object "Specialiser$Trees")), []),
  (⟨"Specialiser$Versions", "<init>", "()V"⟩, prog_11_method_1_code, 1, none, []),
  (⟨"Specialiser$Runner", "<init>", "(LSpecialiser$Bodies;)V"⟩, prog_8_method_1_code, 2, none, []),
  (⟨"Specialiser$Maker", "<init>", "(LSpecialiser$Runner;LSpecialiser$Bodies;LSpecialiser$Versions;)V"⟩, prog_4_method_1_code, 4, none, []),
  (⟨"Specialiser$Versions", "bodies", "()LSpecialiser$Bodies;"⟩, prog_11_method_7_code, 1, (some (.object "Specialiser$Bodies")), []),
  (⟨"Specialiser$Printer", "<init>", "(LSpecialiser$Row;LSpecialiser$Versions;)V"⟩, prog_5_method_1_code, 3, none, []),
  (⟨"Specialiser", "read", "()I"⟩, prog_1_method_5_code, 3, (some .int), []),
  (⟨"Specialiser$Tokens", "scan", "(I)V"⟩, prog_9_method_5_code, 3, none, []),
  (⟨"Specialiser$Row", "put", "(II)V"⟩, prog_7_method_3_code, 3, none, []),
  (⟨"Specialiser$Tokens", "scanOne", "(I)I"⟩, prog_9_method_6_code, 3, (some .int), []),
  (⟨"Specialiser$Row", "at", "(I)I"⟩, prog_7_method_2_code, 2, (some .int), []),
  (⟨"Specialiser$Tokens", "isLetter", "(I)Z"⟩, prog_9_method_9_code, 1, (some .boolean), []),
  (⟨"Specialiser$Tokens", "isDigit", "(I)Z"⟩, prog_9_method_10_code, 1, (some .boolean), []),
  (⟨"Specialiser$Tokens", "scanRow", "(I)I"⟩, prog_9_method_7_code, 10, (some .int), []),
  (⟨"Specialiser$Tokens", "wordKind", "(J)I"⟩, prog_9_method_11_code, 2, (some .int), []),
  (⟨"Specialiser$Tokens", "keep", "(IJI)I"⟩, prog_9_method_8_code, 5, (some .int), []),
  (⟨"Specialiser$LongRow", "put", "(IJ)V"⟩, prog_3_method_3_code, 4, none, []),
  (⟨"Specialiser$Tokens", "signKind", "(I)I"⟩, prog_9_method_12_code, 1, (some .int), []),
  (⟨"java/lang/Math", "max", "(II)I"⟩, prog_19_method_65_code, 2, (some .int), []),
  (⟨"Specialiser$Reader", "take", "(LSpecialiser$Bodies;)I"⟩, prog_6_method_3_code, 3, (some .int), []),
  (⟨"Specialiser$Bodies", "clear", "()V"⟩, prog_2_method_2_code, 1, none, []),
  (⟨"Specialiser$Trees", "clear", "()V"⟩, prog_10_method_2_code, 1, none, []),
  (⟨"Specialiser$Tokens", "kind", "(I)I"⟩, prog_9_method_2_code, 2, (some .int), []),
  (⟨"Specialiser$Reader", "takeFunction", "()V"⟩, prog_6_method_8_code, 4, none, []),
  (⟨"Specialiser$Bodies", "count", "()I"⟩, prog_2_method_6_code, 1, (some .int), []),
  (⟨"Specialiser$Tokens", "value", "(I)J"⟩, prog_9_method_4_code, 2, (some .long), []),
  (⟨"Specialiser$LongRow", "at", "(I)J"⟩, prog_3_method_2_code, 2, (some .long), []),
  (⟨"Specialiser$LongRow", "lastOf", "(JI)I"⟩, prog_3_method_4_code, 5, (some .int), []),
  (⟨"Specialiser$Reader", "takeNewName", "(ZZ)J"⟩, prog_6_method_7_code, 5, (some .long), []),
  (⟨"Specialiser$Reader", "faultAt", "(II)V"⟩, prog_6_method_4_code, 3, none, []),
  (⟨"Specialiser$Reader", "takeKind", "(I)V"⟩, prog_6_method_6_code, 2, none, []),
  (⟨"Specialiser$Reader", "refuse", "()V"⟩, prog_6_method_5_code, 1, none, []),
  (⟨"Specialiser$Reader", "takeParam", "()V"⟩, prog_6_method_9_code, 4, none, []),
  (⟨"Specialiser$Reader", "enter", "(JI)V"⟩, prog_6_method_10_code, 4, none, []),
  (⟨"Specialiser$Bodies", "add", "(I)I"⟩, prog_2_method_3_code, 2, (some .int), []),
  (⟨"Specialiser$Reader", "takeE", "(I)I"⟩, prog_6_method_11_code, 2, (some .int), []),
  (⟨"Specialiser$Reader", "refuseWithin", "()V"⟩, prog_6_method_12_code, 1, none, []),
  (⟨"Specialiser$Reader", "takeLet", "(I)I"⟩, prog_6_method_13_code, 6, (some .int), []),
  (⟨"Specialiser$Trees", "open", "(II)I"⟩, prog_10_method_4_code, 4, (some .int), []),
  (⟨"Specialiser$Trees", "append", "(II)V"⟩, prog_10_method_5_code, 4, none, []),
  (⟨"Specialiser$Reader", "takeIf", "(I)I"⟩, prog_6_method_14_code, 3, (some .int), []),
  (⟨"Specialiser$Reader", "takeComparison", "(I)I"⟩, prog_6_method_15_code, 4, (some .int), []),
  (⟨"Specialiser$Reader", "takeSum", "(I)I"⟩, prog_6_method_16_code, 4, (some .int), []),
  (⟨"Specialiser$Reader", "takeProduct", "(I)I"⟩, prog_6_method_17_code, 3, (some .int), []),
  (⟨"Specialiser$Reader", "takeAtom", "(I)I"⟩, prog_6_method_18_code, 3, (some .int), []),
  (⟨"Specialiser$Reader", "takeNumber", "(I)I"⟩, prog_6_method_19_code, 3, (some .int), []),
  (⟨"Specialiser$Reader", "takeCall", "(II)I"⟩, prog_6_method_21_code, 5, (some .int), []),
  (⟨"Specialiser$Reader", "nameAlone", "(I)I"⟩, prog_6_method_20_code, 3, (some .int), []),
  (⟨"Specialiser$Trees", "join", "(III)I"⟩, prog_10_method_6_code, 5, (some .int), []),
  (⟨"Specialiser$Bodies", "setRoot", "(II)V"⟩, prog_2_method_4_code, 3, none, []),
  (⟨"Specialiser$Reader", "leadCalls", "()V"⟩, prog_6_method_22_code, 3, none, []),
  (⟨"Specialiser$Trees", "count", "()I"⟩, prog_10_method_3_code, 1, (some .int), []),
  (⟨"Specialiser$Trees", "kind", "(I)I"⟩, prog_10_method_10_code, 2, (some .int), []),
  (⟨"Specialiser$Trees", "value", "(I)I"⟩, prog_10_method_11_code, 2, (some .int), []),
  (⟨"Specialiser$Reader", "leadCall", "(II)V"⟩, prog_6_method_23_code, 4, none, []),
  (⟨"Specialiser$Trees", "parts", "(I)I"⟩, prog_10_method_12_code, 2, (some .int), []),
  (⟨"Specialiser$Bodies", "params", "(I)I"⟩, prog_2_method_9_code, 2, (some .int), []),
  (⟨"Specialiser$Trees", "lead", "(II)V"⟩, prog_10_method_7_code, 3, none, []),
  (⟨"Specialiser$Reader", "faultPlace", "()I"⟩, prog_6_method_2_code, 1, (some .int), []),
  (⟨"Specialiser$Tokens", "start", "(I)I"⟩, prog_9_method_3_code, 2, (some .int), []),
  (⟨"Specialiser$Versions", "clear", "()V"⟩, prog_11_method_2_code, 1, none, []),
  (⟨"Specialiser", "place", "()I"⟩, prog_1_method_6_code, 1, (some .int), []),
  (⟨"Specialiser", "feed", "(IIIII)I"⟩, prog_1_method_2_code, 6, (some .int), []),
  (⟨"Specialiser", "feedFour", "(I)V"⟩, prog_1_method_3_code, 3, none, []),
  (⟨"Specialiser", "cut", "(I)I"⟩, prog_1_method_4_code, 3, (some .int), []),
  (⟨"Specialiser", "function", "(II)I"⟩, prog_1_method_7_code, 3, (some .int), []),
  (⟨"Specialiser$Bodies", "has", "(I)Z"⟩, prog_2_method_5_code, 2, (some .boolean), []),
  (⟨"Specialiser$Bodies", "expressions", "(I)I"⟩, prog_2_method_11_code, 2, (some .int), []),
  (⟨"Specialiser$Bodies", "root", "(I)I"⟩, prog_2_method_8_code, 2, (some .int), []),
  (⟨"Specialiser$Trees", "size", "(I)I"⟩, prog_10_method_14_code, 2, (some .int), []),
  (⟨"Specialiser$Bodies", "lets", "(I)I"⟩, prog_2_method_12_code, 2, (some .int), []),
  (⟨"Specialiser$Trees", "lets", "(I)I"⟩, prog_10_method_15_code, 2, (some .int), []),
  (⟨"Specialiser", "know", "(II)I"⟩, prog_1_method_8_code, 3, (some .int), []),
  (⟨"java/lang/Integer", "bitCount", "(I)I"⟩, prog_18_method_49_code, 1, (some .int), []),
  (⟨"Specialiser", "make", "(I)I"⟩, prog_1_method_9_code, 3, (some .int), []),
  (⟨"Specialiser$Bodies", "paramMask", "(I)I"⟩, prog_2_method_10_code, 2, (some .int), []),
  (⟨"Specialiser$Versions", "add", "(IILSpecialiser$Row;I)I"⟩, prog_11_method_3_code, 7, (some .int), []),
  (⟨"Specialiser$Versions", "isIn", "(II)Z"⟩, prog_11_method_6_code, 2, (some .boolean), []),
  (⟨"Specialiser$Maker", "fill", "(LSpecialiser$Bodies;LSpecialiser$Versions;)V"⟩, prog_4_method_5_code, 4, none, []),
  (⟨"Specialiser$Versions", "count", "()I"⟩, prog_11_method_8_code, 1, (some .int), []),
  (⟨"Specialiser$Maker", "bindParams", "(I)V"⟩, prog_4_method_6_code, 4, none, []),
  (⟨"Specialiser$Versions", "functionOf", "(I)I"⟩, prog_11_method_9_code, 2, (some .int), []),
  (⟨"Specialiser$Versions", "mask", "(I)I"⟩, prog_11_method_10_code, 2, (some .int), []),
  (⟨"Specialiser$Versions", "number", "(II)I"⟩, prog_11_method_11_code, 3, (some .int), []),
  (⟨"Specialiser$Maker", "bind", "(III)V"⟩, prog_4_method_7_code, 4, none, []),
  (⟨"Specialiser$Maker", "become", "(II)I"⟩, prog_4_method_8_code, 4, (some .int), []),
  (⟨"Specialiser$Maker", "becomeLet", "(II)I"⟩, prog_4_method_12_code, 6, (some .int), []),
  (⟨"Specialiser$Trees", "part", "(II)I"⟩, prog_10_method_13_code, 3, (some .int), []),
  (⟨"Specialiser$Maker", "isNumber", "(I)Z"⟩, prog_4_method_9_code, 2, (some .boolean), []),
  (⟨"Specialiser$Maker", "becomeIf", "(II)I"⟩, prog_4_method_11_code, 5, (some .int), []),
  (⟨"Specialiser$Maker", "becomeCall", "(II)I"⟩, prog_4_method_13_code, 6, (some .int), []),
  (⟨"Specialiser$Maker", "gatherWanted", "(I)I"⟩, prog_4_method_14_code, 5, (some .int), []),
  (⟨"Specialiser$Runner", "work", "(LSpecialiser$Bodies;ILSpecialiser$Row;I)I"⟩, prog_8_method_5_code, 8, (some .int), []),
  (⟨"Specialiser$Runner", "begin", "(II)V"⟩, prog_8_method_6_code, 3, none, []),
  (⟨"Specialiser$Runner", "finish", "(I)V"⟩, prog_8_method_7_code, 2, none, []),
  (⟨"Specialiser$Runner", "slot", "(I)I"⟩, prog_8_method_8_code, 2, (some .int), []),
  (⟨"Specialiser$Runner", "goOnLet", "(II)V"⟩, prog_8_method_9_code, 3, none, []),
  (⟨"Specialiser$Runner", "goOnIf", "(II)V"⟩, prog_8_method_10_code, 3, none, []),
  (⟨"Specialiser$Runner", "goOnCall", "(II)V"⟩, prog_8_method_12_code, 4, none, []),
  (⟨"Specialiser$Runner", "goOnSign", "(II)V"⟩, prog_8_method_11_code, 3, none, []),
  (⟨"Specialiser", "signed", "(III)I"⟩, prog_1_method_19_code, 3, (some .int), []),
  (⟨"Specialiser$Runner", "result", "()I"⟩, prog_8_method_4_code, 1, (some .int), []),
  (⟨"Specialiser$Trees", "turnIntoNumber", "(II)V"⟩, prog_10_method_8_code, 3, none, []),
  (⟨"Specialiser$Maker", "leadToVersion", "(III)V"⟩, prog_4_method_15_code, 6, none, []),
  (⟨"Specialiser$Versions", "find", "(IILSpecialiser$Row;)I"⟩, prog_11_method_4_code, 5, (some .int), []),
  (⟨"Specialiser$Versions", "agrees", "(IILSpecialiser$Row;)Z"⟩, prog_11_method_5_code, 5, (some .boolean), []),
  (⟨"Specialiser$Trees", "dropNumbers", "(I)V"⟩, prog_10_method_9_code, 5, none, []),
  (⟨"Specialiser$Maker", "becomeSign", "(II)I"⟩, prog_4_method_10_code, 6, (some .int), []),
  (⟨"Specialiser", "keepTold", "()V"⟩, prog_1_method_10_code, 1, none, []),
  (⟨"Specialiser$Versions", "expressions", "()I"⟩, prog_11_method_13_code, 3, (some .int), []),
  (⟨"Specialiser$Maker", "tried", "()I"⟩, prog_4_method_3_code, 1, (some .int), []),
  (⟨"Specialiser$Maker", "triedWell", "()I"⟩, prog_4_method_4_code, 1, (some .int), []),
  (⟨"Specialiser$Maker", "goneThrough", "()I"⟩, prog_4_method_2_code, 1, (some .int), []),
  (⟨"Specialiser", "version", "(II)I"⟩, prog_1_method_11_code, 3, (some .int), []),
  (⟨"Specialiser$Versions", "isNumber", "(I)Z"⟩, prog_11_method_12_code, 2, (some .boolean), []),
  (⟨"Specialiser", "told", "(I)I"⟩, prog_1_method_12_code, 2, (some .int), []),
  (⟨"Specialiser", "print", "()I"⟩, prog_1_method_13_code, 1, (some .int), []),
  (⟨"Specialiser$Printer", "showAll", "(LSpecialiser$Versions;Z)I"⟩, prog_5_method_2_code, 4, (some .int), []),
  (⟨"Specialiser$Printer", "showVersion", "(I)V"⟩, prog_5_method_6_code, 3, none, []),
  (⟨"Specialiser$Printer", "put", "(I)V"⟩, prog_5_method_3_code, 2, none, []),
  (⟨"Specialiser$Printer", "putNumber", "(I)V"⟩, prog_5_method_5_code, 4, none, []),
  (⟨"Specialiser$Printer", "putText", "(Ljava/lang/String;)V"⟩, prog_5_method_4_code, 3, none, []),
  (⟨"Specialiser$Printer", "show", "(II)V"⟩, prog_5_method_7_code, 3, none, []),
  (⟨"Specialiser$Printer", "showNumber", "(I)V"⟩, prog_5_method_8_code, 2, none, []),
  (⟨"Specialiser$Printer", "showName", "(I)V"⟩, prog_5_method_9_code, 2, none, []),
  (⟨"Specialiser$Printer", "showLet", "(II)V"⟩, prog_5_method_10_code, 4, none, []),
  (⟨"Specialiser$Printer", "showIf", "(II)V"⟩, prog_5_method_11_code, 3, none, []),
  (⟨"Specialiser$Printer", "showCall", "(II)V"⟩, prog_5_method_12_code, 4, none, []),
  (⟨"Specialiser$Printer", "showSign", "(II)V"⟩, prog_5_method_13_code, 3, none, []),
  (⟨"Specialiser$Printer", "signText", "(I)Ljava/lang/String;"⟩, prog_5_method_14_code, 1, (some (.object "java/lang/String")), []),
  (⟨"Specialiser", "out", "(I)I"⟩, prog_1_method_14_code, 2, (some .int), []),
  (⟨"Specialiser", "back", "()I"⟩, prog_1_method_15_code, 2, (some .int), []),
  (⟨"Specialiser", "give", "(I)I"⟩, prog_1_method_16_code, 2, (some .int), []),
  (⟨"Specialiser", "run", "(ZII)I"⟩, prog_1_method_17_code, 6, (some .int), []),
  (⟨"Specialiser$Runner", "steps", "()I"⟩, prog_8_method_2_code, 1, (some .int), []),
  (⟨"Specialiser$Runner", "deepest", "()I"⟩, prog_8_method_3_code, 1, (some .int), []),
  (⟨"Specialiser", "ran", "(I)I"⟩, prog_1_method_18_code, 2, (some .int), []),
  (⟨"SpecialiserModel", "<init>", "()V"⟩, prog_13_method_1_code, 1, none, []),
  (⟨"SpecialiserModel", "thrown", "()I"⟩, prog_13_method_2_code, 1, (some .int), []),
  (⟨"SpecialiserModel", "feed", "(IIIII)I"⟩, prog_13_method_4_code, 8, (some .int), []),
  (⟨"SpecialiserModel", "cut", "(I)I"⟩, prog_13_method_5_code, 3, (some .int), []),
  (⟨"SpecialiserModel", "within", "(JJJ)Z"⟩, prog_13_method_3_code, 6, (some .boolean), []),
  (⟨"SpecialiserModel", "read", "()I"⟩, prog_13_method_30_code, 1, (some .int), []),
  (⟨"SpecialiserModel", "next", "()V"⟩, prog_13_method_11_code, 2, none, []),
  (⟨"SpecialiserModel", "isRow", "(I)Z"⟩, prog_13_method_8_code, 1, (some .boolean), []),
  (⟨"SpecialiserModel", "isDigit", "(I)Z"⟩, prog_13_method_7_code, 1, (some .boolean), []),
  (⟨"SpecialiserModel", "row", "()V"⟩, prog_13_method_12_code, 8, none, []),
  (⟨"SpecialiserModel", "wordOf", "(J)I"⟩, prog_13_method_10_code, 2, (some .int), []),
  (⟨"SpecialiserModel", "packed", "(IIII)J"⟩, prog_13_method_9_code, 4, (some .long), []),
  (⟨"SpecialiserModel", "stop", "(II)V"⟩, prog_13_method_6_code, 3, none, []),
  (⟨"SpecialiserModel", "definition", "()V"⟩, prog_13_method_27_code, 3, none, []),
  (⟨"SpecialiserModel", "pass", "()V"⟩, prog_13_method_13_code, 1, none, []),
  (⟨"SpecialiserModel", "want", "(I)V"⟩, prog_13_method_14_code, 2, none, []),
  (⟨"SpecialiserModel", "name", "(Z)I"⟩, prog_13_method_16_code, 3, (some .int), []),
  (⟨"SpecialiserModel", "parse", "()V"⟩, prog_13_method_21_code, 3, none, []),
  (⟨"SpecialiserModel", "push", "(II)V"⟩, prog_13_method_17_code, 3, none, []),
  (⟨"SpecialiserModel", "onE", "()V"⟩, prog_13_method_23_code, 2, none, []),
  (⟨"SpecialiserModel", "begins", "()Z"⟩, prog_13_method_22_code, 1, (some .boolean), []),
  (⟨"SpecialiserModel", "node", "(II)I"⟩, prog_13_method_15_code, 4, (some .int), []),
  (⟨"SpecialiserModel", "onSum", "(II)V"⟩, prog_13_method_24_code, 6, none, []),
  (⟨"SpecialiserModel", "onAtom", "()V"⟩, prog_13_method_25_code, 4, none, []),
  (⟨"SpecialiserModel", "keep", "(I)V"⟩, prog_13_method_19_code, 2, none, []),
  (⟨"SpecialiserModel", "last", "()I"⟩, prog_13_method_20_code, 1, (some .int), []),
  (⟨"SpecialiserModel", "onRest", "(II)V"⟩, prog_13_method_26_code, 5, none, []),
  (⟨"SpecialiserModel", "judge", "()V"⟩, prog_13_method_28_code, 2, none, []),
  (⟨"SpecialiserModel", "onJudge", "(I)V"⟩, prog_13_method_29_code, 5, none, []),
  (⟨"SpecialiserModel", "place", "()I"⟩, prog_13_method_31_code, 1, (some .int), []),
  (⟨"SpecialiserModel", "function", "(II)I"⟩, prog_13_method_33_code, 4, (some .int), []),
  (⟨"SpecialiserModel", "isFn", "(I)Z"⟩, prog_13_method_32_code, 2, (some .boolean), []),
  (⟨"SpecialiserModel", "know", "(II)I"⟩, prog_13_method_47_code, 3, (some .int), []),
  (⟨"SpecialiserModel", "knownMany", "()I"⟩, prog_13_method_46_code, 3, (some .int), []),
  (⟨"SpecialiserModel", "make", "(I)I"⟩, prog_13_method_48_code, 6, (some .int), []),
  (⟨"SpecialiserModel", "versionOf", "(IIZ)I"⟩, prog_13_method_44_code, 8, (some .int), []),
  (⟨"SpecialiserModel", "makeVersion", "(I)V"⟩, prog_13_method_41_code, 6, none, []),
  (⟨"SpecialiserModel", "later", "(II)V"⟩, prog_13_method_40_code, 3, none, []),
  (⟨"SpecialiserModel", "onMaking", "(II)V"⟩, prog_13_method_42_code, 11, none, []),
  (⟨"SpecialiserModel", "onEv", "(I)V"⟩, prog_13_method_43_code, 3, none, []),
  (⟨"SpecialiserModel", "gives", "(ZI)V"⟩, prog_13_method_38_code, 3, none, []),
  (⟨"SpecialiserModel", "fresh", "(I)I"⟩, prog_13_method_37_code, 3, (some .int), []),
  (⟨"SpecialiserModel", "applied", "(III)I"⟩, prog_13_method_34_code, 3, (some .int), []),
  (⟨"SpecialiserModel", "nodeOf", "(I)I"⟩, prog_13_method_39_code, 3, (some .int), []),
  (⟨"SpecialiserModel", "onCalled", "(I)V"⟩, prog_13_method_45_code, 10, none, []),
  (⟨"SpecialiserModel", "goes", "(II)I"⟩, prog_13_method_35_code, 5, (some .int), []),
  (⟨"SpecialiserModel", "work", "(I)V"⟩, prog_13_method_36_code, 3, none, []),
  (⟨"SpecialiserModel", "version", "(II)I"⟩, prog_13_method_50_code, 4, (some .int), []),
  (⟨"SpecialiserModel", "leftOf", "(I)I"⟩, prog_13_method_49_code, 4, (some .int), []),
  (⟨"SpecialiserModel", "told", "(I)I"⟩, prog_13_method_51_code, 2, (some .int), []),
  (⟨"SpecialiserModel", "print", "()I"⟩, prog_13_method_59_code, 4, (some .int), []),
  (⟨"SpecialiserModel", "lay", "(I)V"⟩, prog_13_method_53_code, 2, none, []),
  (⟨"SpecialiserModel", "figures", "(I)V"⟩, prog_13_method_56_code, 3, none, []),
  (⟨"SpecialiserModel", "eight", "(IIIIII)J"⟩, prog_13_method_52_code, 6, (some .long), []),
  (⟨"SpecialiserModel", "layAll", "(J)V"⟩, prog_13_method_54_code, 5, none, []),
  (⟨"SpecialiserModel", "onExpression", "(I)V"⟩, prog_13_method_58_code, 4, none, []),
  (⟨"SpecialiserModel", "layNumber", "(I)V"⟩, prog_13_method_57_code, 2, none, []),
  (⟨"SpecialiserModel", "bytesLater", "(J)V"⟩, prog_13_method_55_code, 3, none, []),
  (⟨"SpecialiserModel", "out", "(I)I"⟩, prog_13_method_60_code, 2, (some .int), []),
  (⟨"SpecialiserModel", "back", "()I"⟩, prog_13_method_61_code, 2, (some .int), []),
  (⟨"SpecialiserModel", "give", "(I)I"⟩, prog_13_method_62_code, 2, (some .int), []),
  (⟨"SpecialiserModel", "run", "(ZII)I"⟩, prog_13_method_63_code, 8, (some .int), []),
  (⟨"SpecialiserModel", "ran", "(I)I"⟩, prog_13_method_64_code, 2, (some .int), []),
  (⟨"SpecialiserLaw", "feed", "(LSpecialiser;IIIII[J)I"⟩, method_3_code, 8, (some .int), [(0, 16, 19, 13)]),
  (⟨"SpecialiserLaw", "cut", "(LSpecialiser;I[J)I"⟩, method_4_code, 4, (some .int), [(0, 9, 12, 19)]),
  (⟨"SpecialiserLaw", "function", "(LSpecialiser;II[J)I"⟩, method_5_code, 5, (some .int), [(0, 10, 13, 25)]),
  (⟨"SpecialiserLaw", "know", "(LSpecialiser;II[J)I"⟩, method_6_code, 5, (some .int), [(0, 10, 13, 25)]),
  (⟨"SpecialiserLaw", "make", "(LSpecialiser;I[J)I"⟩, method_7_code, 4, (some .int), [(0, 9, 12, 13), (0, 9, 15, 25), (0, 9, 18, 33)]),
  (⟨"SpecialiserLaw", "version", "(LSpecialiser;II[J)I"⟩, method_8_code, 5, (some .int), [(0, 10, 13, 25)]),
  (⟨"SpecialiserLaw", "told", "(LSpecialiser;I[J)I"⟩, method_9_code, 4, (some .int), [(0, 9, 12, 25)]),
  (⟨"SpecialiserLaw", "print", "(LSpecialiser;[J)I"⟩, method_10_code, 3, (some .int), [(0, 8, 11, 13), (0, 8, 14, 33)]),
  (⟨"SpecialiserLaw", "out", "(LSpecialiser;I[J)I"⟩, method_11_code, 4, (some .int), [(0, 9, 12, 25)]),
  (⟨"SpecialiserLaw", "back", "(LSpecialiser;[J)I"⟩, method_12_code, 3, (some .int), [(0, 8, 11, 13)]),
  (⟨"SpecialiserLaw", "give", "(LSpecialiser;I[J)I"⟩, method_13_code, 4, (some .int), [(0, 9, 12, 13)]),
  (⟨"SpecialiserLaw", "run", "(LSpecialiser;ZII[J)I"⟩, method_14_code, 6, (some .int), [(0, 12, 15, 13), (0, 12, 19, 25), (0, 12, 23, 19)]),
  (⟨"SpecialiserLaw", "ran", "(LSpecialiser;I[J)I"⟩, method_15_code, 4, (some .int), [(0, 9, 12, 25)])]
def tb_m0 : mi_M := (⟨"X", "x", "()V"⟩, ⟨#[]⟩, 0, none, [])
def tb_own : List String := ["Specialiser$Bodies", "Specialiser$LongRow", "Specialiser$Maker", "Specialiser$Printer", "Specialiser$Reader", "Specialiser$Row", "Specialiser$Runner", "Specialiser$Tokens", "Specialiser$Trees", "Specialiser$Versions", "Specialiser", "SpecialiserModel", "SpecialiserLaw", "java/lang/Math", "java/lang/Integer"]
def tb_k : List Nat := [12, 10, 5, 7, 1, 0, 8, 4, 0, 9, 6, 2, 9, 3, 10, 7, 5, 7, 5, 7, 7, 7, 7, 7, 1, 7, 13, 4, 0, 8, 7, 4, 0, 7, 1, 1, 4, 4, 4, 4, 4, 4, 0, 4, 4, 4, 8, 8, 4, 4, 4, 4, 4, 4, 4, 4, 8, 0, 4, 8, 8, 8, 4, 8, 0, 8, 4, 7, 9, 10, 10, 10, 10, 10, 0, 0, 0, 8, 0, 8, 10, 14, 10, 0, 9, 9, 2, 9, 2, 9, 9, 9, 2, 2, 2, 8, 2, 2, 2, 2, 6, 6, 6, 6, 6, 6, 6, 6, 10, 6, 8, 2, 9, 9, 8, 2, 10, 9, 2, 2, 2, 10, 9, 10, 10, 3, 3, 3, 3, 3, 3, 3, 3, 3, 3, 3, 3, 3, 10, 10, 10, 10, 6, 6, 10, 11, 11, 11, 11, 11, 11, 11, 11, 11, 11, 11, 11, 11, 11, 11, 11, 11, 11, 11, 11, 11, 11, 11, 11, 11, 11, 11, 11, 11, 11, 11, 11, 11, 11, 11, 11, 11, 11, 11, 11, 11, 11, 11, 11, 11, 11, 11, 11, 11, 11, 11, 11, 11, 11, 11, 11, 11, 11, 11, 11, 11, 11, 11, 12, 12, 12, 12, 12, 12, 12, 12, 12, 12, 12, 12, 12]
def tb_in : List Bool := [false, true, true, true, true, true, true, true, false, true, true, true, false, true, false, false, false, false, false, false, false, false, false, false, false, false, false, false, false, false, false, false, false, false, false, false, false, false, false, false, false, false, false, false, false, false, false, false, false, false, false, false, false, false, false, false, false, false, false, false, false, false, false, false, false, false, false, false, false, false, false, false, false, false, false, false, false, false, false, false, false, false, false, false, false, false, false, false, false, false, false, false, false, false, false, false, false, false, false, false, false, false, false, false, false, false, false, false, false, false, false, false, false, false, false, false, false, false, false, false, false, false, false, false, false, false, false, false, false, false, false, false, false, false, false, false, false, false, false, false, false, false, false, false, false, true, false, false, false, false, false, false, false, false, false, false, false, false, false, false, false, false, false, false, false, false, false, false, false, false, false, false, false, false, false, false, false, false, false, false, false, false, false, false, false, false, false, false, false, false, false, false, false, false, false, false, false, false, false, false, false, false, false, false, false, false, false, false, false, false, false, false, false, false, false, false, false, false, false, false, false]
def tb_f : Nat → List (Nat × Nat × Nat × Bool) := fun c => match c with
  | 0 => [(12, 0, 0, false), (21, 0, 1, false), (25, 0, 2, false), (28, 0, 3, true)]
  | 1 => [(9, 1, 0, false)]
  | 2 => [(9, 2, 0, false), (15, 2, 1, true), (25, 2, 2, true), (29, 2, 3, true), (39, 2, 4, true), (47, 2, 5, false), (51, 2, 6, false), (54, 2, 7, false), (57, 2, 8, true), (61, 2, 9, true), (64, 2, 10, true)]
  | 3 => [(9, 3, 0, false), (20, 3, 1, false), (23, 3, 2, true), (39, 3, 3, true), (43, 3, 4, true), (47, 3, 5, true), (51, 3, 6, true), (54, 3, 7, true)]
  | 4 => [(9, 4, 0, false), (15, 4, 1, true), (25, 4, 2, true), (28, 4, 3, true), (32, 4, 4, true), (35, 4, 5, true), (38, 4, 6, true), (46, 4, 7, false), (50, 4, 8, true), (53, 4, 9, false), (59, 4, 10, false), (63, 4, 11, true), (66, 4, 12, true)]
  | 5 => [(7, 5, 0, false)]
  | 6 => [(14, 6, 0, false), (20, 6, 1, false), (23, 6, 2, false), (26, 6, 3, false), (29, 6, 4, false), (32, 6, 5, true), (42, 6, 6, true), (45, 6, 7, true), (49, 6, 8, true), (52, 6, 9, true), (55, 6, 10, true), (58, 6, 11, true), (61, 6, 12, true)]
  | 7 => [(9, 7, 0, false), (20, 7, 1, false), (23, 7, 2, false), (29, 7, 3, false), (33, 7, 4, true), (37, 7, 5, true)]
  | 8 => [(14, 8, 0, false), (20, 8, 1, false), (23, 8, 2, false), (26, 8, 3, false), (29, 8, 4, false), (32, 8, 5, false), (35, 8, 6, true)]
  | 9 => [(14, 9, 0, false), (25, 9, 1, false), (29, 9, 2, false), (32, 9, 3, false)]
  | 10 => [(14, 10, 0, false), (18, 10, 1, true), (22, 10, 2, true), (30, 10, 3, false), (39, 10, 5, true), (43, 10, 6, true), (51, 10, 4, false), (58, 10, 7, true), (62, 10, 8, true), (70, 10, 9, false), (79, 10, 10, false), (83, 10, 11, false), (86, 10, 12, true), (89, 10, 13, false), (93, 10, 14, false), (96, 10, 15, true), (104, 10, 16, false), (108, 10, 17, false), (111, 10, 18, true), (114, 10, 19, false)]
  | 11 => [(7, 11, 1, false), (13, 11, 10, true), (17, 11, 11, false), (21, 11, 12, false), (24, 11, 13, false), (27, 11, 14, false), (30, 11, 15, false), (33, 11, 16, false), (36, 11, 17, false), (39, 11, 18, false), (42, 11, 19, false), (45, 11, 20, false), (48, 11, 21, false), (51, 11, 22, false), (54, 11, 23, false), (57, 11, 24, false), (60, 11, 29, false), (63, 11, 32, false), (66, 11, 33, false), (69, 11, 34, false), (72, 11, 36, false), (75, 11, 39, false), (78, 11, 43, false), (81, 11, 45, false), (84, 11, 53, false), (87, 11, 54, false), (90, 11, 55, false), (93, 11, 56, false), (96, 11, 57, false), (99, 11, 58, false), (102, 11, 74, false), (105, 11, 75, false), (108, 11, 77, false), (112, 11, 78, false), (115, 11, 80, false), (118, 11, 81, false), (121, 11, 82, false), (124, 11, 83, false), (127, 11, 84, false), (130, 11, 85, false), (134, 11, 86, false), (137, 11, 87, false), (140, 11, 90, false), (143, 11, 91, false), (146, 11, 94, false), (149, 11, 0, true), (152, 11, 2, true), (159, 11, 9, true), (170, 11, 3, true), (173, 11, 5, true), (176, 11, 4, true), (179, 11, 6, true), (200, 11, 8, true), (207, 11, 7, true), (217, 11, 27, true), (220, 11, 31, true), (223, 11, 35, true), (229, 11, 37, true), (232, 11, 38, true), (266, 11, 30, true), (273, 11, 28, true), (276, 11, 25, true), (279, 11, 26, true), (285, 11, 40, true), (291, 11, 41, true), (295, 11, 42, true), (304, 11, 59, true), (307, 11, 60, true), (310, 11, 61, true), (313, 11, 62, true), (316, 11, 72, true), (324, 11, 44, true), (327, 11, 46, true), (330, 11, 48, true), (333, 11, 49, true), (336, 11, 50, true), (339, 11, 51, true), (342, 11, 52, true), (348, 11, 47, true), (355, 11, 64, true), (358, 11, 66, true), (361, 11, 73, true), (364, 11, 79, true), (371, 11, 76, true), (374, 11, 70, true), (396, 11, 71, true), (399, 11, 65, true), (402, 11, 68, true), (408, 11, 69, true), (415, 11, 67, true), (423, 11, 63, true), (436, 11, 95, true), (439, 11, 88, true), (463, 11, 93, true), (471, 11, 92, true), (477, 11, 89, true), (482, 11, 96, true), (485, 11, 97, true), (488, 11, 98, true)]
  | _ => []
def tb_n : Nat → List (Nat × Nat) := fun c => match c with
  | 0 => [(7, 8), (18, 5)]
  | 2 => [(42, 5)]
  | 3 => [(15, 5)]
  | 4 => [(41, 1), (56, 5)]
  | 6 => [(9, 5)]
  | 7 => [(15, 5), (26, 1)]
  | 8 => [(9, 5)]
  | 9 => [(9, 0), (20, 5)]
  | 10 => [(9, 5), (25, 7), (34, 0), (46, 4), (55, 9), (65, 6), (74, 2), (99, 3)]
  | 12 => [(8, 10), (62, 11)]
  | _ => []
def tb_c : Nat → List (Nat × Value) := fun c => match c with
  | 3 => [(78, .int (1000000000)), (129, .int (-2147483648))]
  | 6 => [(78, .int (40000))]
  | 7 => [(77, .long (10)), (83, .long (2147483647)), (88, .long (26982)), (90, .long (26990)), (92, .long (7103860)), (94, .long (1952998766)), (96, .long (1701606245))]
  | 10 => [(92, .int (40000))]
  | 11 => [(133, .int (40000)), (192, .long (100000000000)), (194, .long (10)), (196, .long (48)), (198, .long (2147483647)), (322, .long (2)), (418, .long (3)), (429, .long (9)), (434, .long (7)), (442, .long (255)), (447, .int (-2147483648)), (448, .int (2147483647)), (466, .long (41)), (480, .long (20000))]
  | 14 => [(265, .int (1431655765)), (266, .int (858993459)), (267, .int (252645135))]
  | _ => []
def tb_i : Nat → List (Nat × Nat × Nat × Nat) := fun c => match c with
  | 0 => [(1, 0, 3, 0), (9, 6, 2, 1), (20, 2, 2, 1), (32, 29, 0, 0), (35, 16, 0, 2), (39, 18, 0, 1), (43, 64, 0, 1), (45, 76, 0, 1), (48, 77, 0, 1), (51, 79, 0, 1)]
  | 1 => [(3, 0, 3, 0), (15, 34, 0, 1)]
  | 2 => [(3, 0, 3, 0), (19, 8, 0, 0), (33, 12, 0, 0), (44, 2, 2, 1), (67, 87, 0, 0), (71, 88, 0, 1), (74, 89, 0, 1), (78, 76, 0, 1), (81, 93, 0, 2), (85, 57, 0, 2), (89, 64, 0, 1), (92, 90, 0, 1), (95, 85, 1, 2), (99, 91, 0, 2), (102, 92, 0, 3), (106, 16, 0, 2), (116, 60, 0, 1), (121, 61, 0, 1), (124, 46, 0, 2), (127, 18, 0, 1), (130, 94, 0, 2), (133, 97, 0, 2), (136, 98, 0, 2), (139, 115, 0, 2), (142, 95, 0, 2), (145, 96, 0, 1), (149, 108, 4, 3), (153, 56, 0, 3), (156, 47, 0, 2), (159, 63, 0, 1), (162, 99, 0, 1), (165, 83, 0, 1), (168, 100, 0, 4), (174, 109, 0, 0), (177, 110, 0, 2), (180, 111, 0, 3), (183, 112, 0, 3), (187, 114, 0, 1), (190, 84, 0, 4), (194, 65, 0, 2)]
  | 3 => [(3, 0, 3, 0), (17, 2, 2, 1), (27, 12, 0, 0), (33, 8, 0, 0), (57, 87, 0, 0), (61, 126, 0, 1), (64, 16, 0, 2), (76, 127, 0, 1), (79, 64, 0, 1), (82, 128, 0, 1), (89, 129, 0, 1), (95, 76, 0, 1), (98, 130, 0, 2), (103, 60, 0, 1), (108, 61, 0, 1), (111, 131, 0, 1), (114, 132, 0, 1), (117, 133, 0, 2), (120, 134, 0, 2), (123, 135, 0, 2), (126, 136, 0, 2), (132, 18, 0, 1), (139, 95, 0, 2), (151, 63, 0, 1), (154, 137, 1, 1)]
  | 4 => [(3, 0, 3, 0), (19, 8, 0, 0), (43, 4, 2, 1), (58, 2, 2, 1), (69, 67, 0, 1), (75, 28, 0, 0), (78, 30, 0, 1), (81, 31, 0, 0), (84, 58, 0, 0), (87, 37, 0, 2), (91, 39, 0, 0), (94, 33, 0, 1), (98, 38, 0, 1), (101, 32, 0, 0), (105, 35, 0, 2), (109, 36, 0, 2), (113, 24, 0, 2), (117, 40, 0, 0), (120, 42, 0, 1), (123, 43, 0, 1), (126, 57, 0, 2), (129, 41, 0, 2), (133, 16, 0, 2), (135, 44, 0, 0), (138, 45, 0, 1), (141, 48, 0, 1), (144, 49, 0, 1), (147, 46, 0, 2), (153, 47, 0, 2), (156, 50, 0, 1), (159, 56, 0, 3), (163, 51, 0, 1), (166, 52, 0, 1), (169, 53, 0, 1), (172, 54, 0, 2), (175, 55, 0, 1), (178, 18, 0, 1), (181, 59, 0, 0), (182, 60, 0, 1), (183, 61, 0, 1), (185, 62, 0, 2), (188, 63, 0, 1), (191, 64, 0, 1), (194, 65, 0, 2)]
  | 5 => [(1, 0, 3, 0)]
  | 6 => [(3, 0, 3, 0), (11, 2, 2, 1), (36, 8, 0, 0), (64, 18, 0, 1), (68, 16, 0, 2), (72, 76, 0, 1), (75, 101, 0, 2), (79, 60, 0, 1), (84, 61, 0, 1), (87, 102, 0, 1), (90, 103, 0, 1), (93, 104, 0, 2), (96, 105, 0, 2), (99, 106, 0, 2), (102, 107, 0, 2), (105, 26, 1, 2), (111, 95, 0, 2), (114, 108, 4, 3), (118, 63, 0, 1)]
  | 7 => [(3, 0, 3, 0), (17, 2, 2, 1), (28, 4, 2, 1), (40, 18, 0, 1), (44, 34, 0, 1), (47, 16, 0, 2), (51, 17, 0, 1), (54, 26, 1, 2), (60, 19, 1, 1), (64, 20, 1, 1), (67, 21, 0, 1), (70, 23, 0, 3), (74, 25, 1, 1), (79, 22, 1, 1), (85, 24, 0, 2)]
  | 8 => [(3, 0, 3, 0), (11, 2, 2, 1), (39, 16, 0, 2), (43, 18, 0, 1), (47, 46, 0, 2), (51, 47, 0, 2), (54, 63, 0, 1), (56, 95, 0, 2), (59, 60, 0, 1)]
  | 9 => [(3, 0, 3, 0), (11, 5, 2, 2), (22, 2, 2, 1), (35, 28, 0, 0), (38, 81, 1, 1), (44, 42, 0, 1), (47, 16, 0, 2), (50, 85, 1, 2), (54, 18, 0, 1), (57, 87, 0, 0), (61, 89, 0, 1), (64, 90, 0, 1), (67, 113, 0, 3), (71, 32, 0, 0), (72, 8, 0, 0), (76, 76, 0, 1), (79, 60, 0, 1), (84, 75, 0, 1)]
  | 10 => [(3, 0, 3, 0), (11, 2, 2, 1), (27, 3, 2, 1), (36, 5, 2, 2), (48, 7, 2, 2), (57, 9, 2, 0), (67, 10, 2, 1), (76, 11, 2, 3), (101, 13, 2, 2), (124, 71, 0, 1), (127, 16, 0, 2), (135, 15, 0, 1), (138, 27, 0, 1), (142, 66, 0, 0), (145, 68, 0, 0), (148, 32, 0, 0), (151, 74, 0, 1), (160, 64, 0, 1), (164, 75, 0, 1), (167, 78, 0, 1), (172, 81, 1, 1), (181, 83, 0, 1), (184, 84, 0, 4), (188, 86, 0, 2), (192, 116, 0, 0), (195, 87, 0, 0), (196, 117, 0, 0), (198, 118, 0, 0), (201, 119, 0, 0), (204, 120, 0, 0), (207, 12, 0, 0), (213, 89, 0, 1), (216, 90, 0, 1), (219, 122, 0, 1), (222, 91, 0, 2), (228, 18, 0, 1), (233, 125, 0, 2), (252, 100, 0, 4), (256, 109, 0, 0), (259, 142, 0, 0), (262, 143, 0, 0)]
  | 11 => [(1, 0, 3, 0), (155, 149, 1, 3), (162, 153, 1, 1), (166, 156, 1, 4), (182, 152, 1, 1), (185, 154, 0, 0), (188, 157, 0, 2), (203, 155, 1, 1), (211, 151, 0, 0), (214, 159, 0, 0), (226, 163, 0, 2), (235, 160, 0, 1), (239, 164, 0, 0), (242, 167, 0, 2), (245, 171, 0, 2), (248, 165, 0, 0), (252, 166, 0, 2), (256, 168, 0, 0), (259, 170, 0, 0), (263, 169, 0, 1), (269, 161, 0, 1), (282, 162, 0, 0), (288, 173, 0, 1), (298, 158, 0, 0), (301, 172, 0, 0), (319, 176, 0, 1), (345, 191, 0, 1), (351, 187, 1, 3), (367, 186, 0, 1), (377, 182, 0, 2), (380, 183, 0, 2), (383, 188, 0, 1), (386, 184, 0, 1), (389, 185, 0, 2), (393, 189, 0, 1), (405, 190, 0, 2), (411, 180, 0, 3), (420, 178, 0, 0), (426, 181, 0, 1), (431, 193, 0, 1), (444, 196, 0, 1), (449, 197, 0, 1), (452, 198, 1, 6), (456, 199, 0, 1), (460, 201, 0, 1), (468, 202, 0, 1), (474, 200, 0, 1)]
  | 12 => [(7, 70, 0, 5), (15, 72, 0, 1), (21, 73, 0, 2), (27, 80, 0, 2), (30, 82, 0, 1), (35, 121, 0, 2), (38, 123, 0, 1), (41, 124, 0, 0), (45, 138, 0, 1), (48, 139, 0, 0), (51, 140, 0, 1), (54, 141, 0, 3), (58, 144, 0, 1), (61, 1, 2, 0), (64, 145, 2, 0), (65, 208, 5, 7), (70, 147, 0, 5), (71, 146, 0, 0), (74, 209, 5, 3), (77, 148, 0, 1), (78, 14, 0, 0), (81, 150, 0, 0), (82, 69, 0, 0), (85, 174, 0, 0), (86, 210, 5, 4), (89, 175, 0, 2), (90, 211, 5, 4), (92, 177, 0, 2), (93, 212, 5, 3), (95, 179, 0, 1), (96, 213, 5, 4), (98, 192, 0, 2), (99, 214, 5, 3), (101, 194, 0, 1), (102, 215, 5, 2), (105, 195, 0, 0), (106, 216, 5, 3), (108, 203, 0, 1), (109, 217, 5, 2), (111, 204, 0, 0), (112, 218, 5, 3), (114, 205, 0, 1), (115, 219, 5, 5), (118, 206, 0, 3), (119, 220, 5, 3), (121, 207, 0, 1)]
  | _ => []
def tb_t : List (Nat × String) := [(4587533, "java/lang/IllegalStateException"), (4718604, "java/lang/IllegalArgumentException"), (4784148, "java/lang/IndexOutOfBoundsException"), (5242889, "java/lang/IndexOutOfBoundsException"), (5373962, "java/lang/IllegalStateException"), (5373983, "java/lang/IndexOutOfBoundsException"), (6094864, "java/lang/UnsupportedOperationException"), (7929880, "java/lang/IndexOutOfBoundsException"), (8060938, "java/lang/IndexOutOfBoundsException"), (8126474, "java/lang/IllegalStateException"), (8126501, "java/lang/UnsupportedOperationException"), (9043980, "java/lang/IndexOutOfBoundsException"), (9109514, "java/lang/IllegalStateException"), (9175048, "java/lang/IllegalStateException"), (9240604, "java/lang/IllegalStateException"), (9240623, "java/lang/IndexOutOfBoundsException"), (9240657, "java/lang/IllegalArgumentException"), (9437193, "java/lang/IndexOutOfBoundsException")]
def tb_ti : List (Nat × Nat × String × String × Nat × Nat × Nat) := [(70, 13, "java/lang/IllegalStateException", "no room", 117, 119, 121), (72, 12, "java/lang/IllegalArgumentException", "not so many bytes", 130, 132, 134), (73, 20, "java/lang/IndexOutOfBoundsException", "no such function or what", 155, 157, 159), (80, 9, "java/lang/IndexOutOfBoundsException", "no such parameter", 155, 170, 159), (82, 10, "java/lang/IllegalStateException", "no program", 117, 177, 121), (82, 31, "java/lang/IndexOutOfBoundsException", "no such function", 155, 179, 159), (93, 16, "java/lang/UnsupportedOperationException", "too many expressions", 109, 111, 113), (121, 24, "java/lang/IndexOutOfBoundsException", "no such version or what", 155, 211, 159), (123, 10, "java/lang/IndexOutOfBoundsException", "no such what", 155, 226, 159), (124, 10, "java/lang/IllegalStateException", "no versions", 117, 231, 121), (124, 37, "java/lang/UnsupportedOperationException", "too long", 237, 239, 241), (138, 12, "java/lang/IndexOutOfBoundsException", "no such byte", 155, 242, 159), (139, 10, "java/lang/IllegalStateException", "too long", 117, 239, 121), (140, 8, "java/lang/IllegalStateException", "four are given", 117, 244, 121), (141, 28, "java/lang/IllegalStateException", "nothing to run", 117, 246, 121), (141, 47, "java/lang/IndexOutOfBoundsException", "no such function or version", 155, 248, 159), (141, 81, "java/lang/IllegalArgumentException", "steps or numbers given", 130, 250, 134), (144, 9, "java/lang/IndexOutOfBoundsException", "no such what", 155, 226, 159)]
def tb_h : List (Nat × List (String × Nat)) := [(13631499, [("java/lang/IllegalStateException", 19)]), (13697028, [("java/lang/IllegalArgumentException", 12)]), (13762565, [("java/lang/IndexOutOfBoundsException", 13)]), (13828101, [("java/lang/IndexOutOfBoundsException", 13)]), (13893636, [("java/lang/IllegalStateException", 12), ("java/lang/IndexOutOfBoundsException", 15), ("java/lang/UnsupportedOperationException", 18)]), (13959173, [("java/lang/IndexOutOfBoundsException", 13)]), (14024708, [("java/lang/IndexOutOfBoundsException", 12)]), (14090243, [("java/lang/IllegalStateException", 11), ("java/lang/UnsupportedOperationException", 14)]), (14155780, [("java/lang/IndexOutOfBoundsException", 12)]), (14221315, [("java/lang/IllegalStateException", 11)]), (14286852, [("java/lang/IllegalStateException", 12)]), (14352391, [("java/lang/IllegalArgumentException", 23), ("java/lang/IllegalStateException", 15), ("java/lang/IndexOutOfBoundsException", 19)]), (14417924, [("java/lang/IndexOutOfBoundsException", 12)])]
def tb_ft : Nat → Nat → FieldType := fun c k => match c with
  | 0 => tyX0 k
  | 1 => tyX1 k
  | 2 => tyX2 k
  | 3 => tyX3 k
  | 4 => tyX4 k
  | 5 => tyX5 k
  | 6 => tyX6 k
  | 7 => tyX7 k
  | 8 => tyX8 k
  | 9 => tyX9 k
  | 10 => tyX10 k
  | 11 => tyX11 k
  | _ => .int
def tb_nf : Nat → Nat := fun c => match c with
  | 0 => 4
  | 1 => 1
  | 2 => 11
  | 3 => 8
  | 4 => 13
  | 5 => 1
  | 6 => 13
  | 7 => 6
  | 8 => 7
  | 9 => 4
  | 10 => 20
  | 11 => 99
  | _ => 0
def tb_txt : List (List Nat) := [[110, 111, 32, 114, 111, 111, 109], [110, 111, 116, 32, 115, 111, 32, 109, 97, 110, 121, 32, 98, 121, 116, 101, 115], [110, 111, 32, 115, 117, 99, 104, 32, 102, 117, 110, 99, 116, 105, 111, 110, 32, 111, 114, 32, 119, 104, 97, 116], [110, 111, 32, 115, 117, 99, 104, 32, 112, 97, 114, 97, 109, 101, 116, 101, 114], [110, 111, 32, 112, 114, 111, 103, 114, 97, 109], [110, 111, 32, 115, 117, 99, 104, 32, 102, 117, 110, 99, 116, 105, 111, 110], [110, 111, 32, 115, 117, 99, 104, 32, 118, 101, 114, 115, 105, 111, 110, 32, 111, 114, 32, 119, 104, 97, 116], [110, 111, 32, 115, 117, 99, 104, 32, 119, 104, 97, 116], [110, 111, 32, 118, 101, 114, 115, 105, 111, 110, 115], [116, 111, 111, 32, 108, 111, 110, 103], [110, 111, 32, 115, 117, 99, 104, 32, 98, 121, 116, 101], [102, 111, 117, 114, 32, 97, 114, 101, 32, 103, 105, 118, 101, 110], [110, 111, 116, 104, 105, 110, 103, 32, 116, 111, 32, 114, 117, 110], [110, 111, 32, 115, 117, 99, 104, 32, 102, 117, 110, 99, 116, 105, 111, 110, 32, 111, 114, 32, 118, 101, 114, 115, 105, 111, 110], [115, 116, 101, 112, 115, 32, 111, 114, 32, 110, 117, 109, 98, 101, 114, 115, 32, 103, 105, 118, 101, 110], [116, 111, 111, 32, 109, 97, 110, 121, 32, 101, 120, 112, 114, 101, 115, 115, 105, 111, 110, 115], [], [44, 32], [41, 32, 61, 32], [59, 10], [40, 45, 50, 49, 52, 55, 52, 56, 51, 54, 52, 55, 32, 45, 32, 49, 41], [40, 108, 101, 116, 32, 120], [32, 61, 32], [32, 105, 110, 32], [40, 105, 102, 32], [32, 116, 104, 101, 110, 32], [32, 101, 108, 115, 101, 32], [32, 43, 32], [32, 45, 32], [32, 42, 32], [32, 60, 32], [32, 61, 61, 32]]
def tb_pr : Nat → List Value → Option Value := fun _ _ => none
def tb_P : mi_P := (fun j => tb_m.getD j tb_m0, fun j pc => mi_dec (tb_m.getD j tb_m0).2.1 pc, fun j ix => ((tb_f (tb_k.getD j 99)).lookup ix).map (fun q => (q.1, q.2.1, q.2.2 || tb_in.getD j false)), fun j ix => (tb_n (tb_k.getD j 99)).lookup ix, fun j ix => (tb_c (tb_k.getD j 99)).lookup ix, fun j ix => (tb_i (tb_k.getD j 99)).lookup ix, fun j pc => if pc < 65536 then tb_t.lookup (j * 65536 + pc) else none, fun j pc E => if pc < 65536 then (tb_h.lookup (j * 65536 + pc)).bind (fun l => l.lookup E) else none, tb_nf, tb_ft, fun j => tb_k.getD j 99, tb_pr)
end
section
/-! The tables hold: the words are among those of the Statement. -/
def tb_GT : List Cond := lw_tbl.filter mi_wk
theorem tb_lk {κ α : Type} [BEq κ] [LawfulBEq κ] {l : List (κ × α)} {a : κ} {v : α} (h : l.lookup a = some v) : (a, v) ∈ l := by
  induction l with
  | nil => cases h
  | cons q t ih =>
    obtain ⟨k, w⟩ := q
    rw [List.lookup_cons] at h
    cases hk : (a == k) with
    | true =>
      rw [hk] at h
      have e1 : a = k := by simpa using hk
      have e2 : w = v := Option.some.inj h
      rw [e1, ← e2]
      exact List.mem_cons_self
    | false =>
      rw [hk] at h
      exact List.mem_cons_of_mem _ (ih h)
/-- a list and hints to it, checked side by side -/
def tb_zc {α β : Type} (l : List α) (h : List β) (f : α → β → Bool) : Bool := match l, h with
  | [], _ => true
  | a :: l, b :: h => f a b && tb_zc l h f
  | _ :: _, [] => false
theorem tb_zc_ok {α β : Type} {f : α → β → Bool} : ∀ {l : List α} {h : List β}, tb_zc l h f = true → ∀ a ∈ l, ∃ b, f a b = true := by
  intro l
  induction l with
  | nil => intro h _ a ha; cases ha
  | cons a0 t ih =>
    intro h hz a ha
    cases h with
    | nil => cases hz
    | cons b0 u =>
      unfold tb_zc at hz
      rw [Bool.and_eq_true] at hz
      rcases List.mem_cons.mp ha with e | e
      · rw [e]; exact ⟨b0, hz.1⟩
      · exact ih hz.2 a e
def tb_tab : Nat → List Cond := fun s => match s with
  | 0 => k2_sels lw_privs
  | 1 => tables_1_1
  | 2 => tables_1_2
  | 3 => tables_1_3
  | 4 => tables_1_4
  | 5 => tables_1_5
  | 6 => tables_1_6
  | 7 => tables_1_7
  | 8 => tables_1_8
  | _ => []
theorem tb_tab_in : ∀ s : Nat, ∀ w ∈ tb_tab s, w ∈ lw_tbl := by
  intro s w h
  match s, h with
  | 0, h => exact List.mem_append_left _ h
  | 1, h => exact List.mem_append_right _ (List.mem_append_left _ h)
  | 2, h => exact List.mem_append_right _ (List.mem_append_right _ (List.mem_append_left _ h))
  | 3, h => exact List.mem_append_right _ (List.mem_append_right _ (List.mem_append_right _ (List.mem_append_left _ h)))
  | 4, h => exact List.mem_append_right _ (List.mem_append_right _ (List.mem_append_right _ (List.mem_append_right _ (List.mem_append_left _ h))))
  | 5, h => exact List.mem_append_right _ (List.mem_append_right _ (List.mem_append_right _ (List.mem_append_right _ (List.mem_append_right _ (List.mem_append_left _ h)))))
  | 6, h => exact List.mem_append_right _ (List.mem_append_right _ (List.mem_append_right _ (List.mem_append_right _ (List.mem_append_right _ (List.mem_append_right _ (List.mem_append_left _ h))))))
  | 7, h => exact List.mem_append_right _ (List.mem_append_right _ (List.mem_append_right _ (List.mem_append_right _ (List.mem_append_right _ (List.mem_append_right _ (List.mem_append_right _ (List.mem_append_left _ h)))))))
  | 8, h => exact List.mem_append_right _ (List.mem_append_right _ (List.mem_append_right _ (List.mem_append_right _ (List.mem_append_right _ (List.mem_append_right _ (List.mem_append_right _ (List.mem_append_right _ (h))))))))
  | k + 9, h => cases h
/-- the word stands at its hint, and stays true -/
def tb_w (x : Nat × Nat) (w : Cond) : Bool := decide ((tb_tab x.1)[x.2]? = some w) && mi_wk w
theorem tb_w_ok {x : Nat × Nat} {w : Cond} (h : tb_w x w = true) : w ∈ tb_GT := by
  unfold tb_w at h
  rw [Bool.and_eq_true] at h
  exact List.mem_filter.mpr ⟨tb_tab_in x.1 w (List.mem_of_getElem? (of_decide_eq_true h.1)), h.2⟩
def tb_fchk (c : Nat) (q : Nat × Nat × Nat × Bool) (x : Nat × Nat) : Bool := match vwCl[q.2.1]? with
  | some r => decide (q.2.2.1 < r.2.2) && (tb_w x (.fieldLink (tb_own.getD c "") q.1 (r.2.1 q.2.2.1).1 (r.2.1 q.2.2.1).2.1 (r.2.1 q.2.2.1).2.2.1) && (if q.2.2.2 = true then !(r.2.1 q.2.2.1).2.2.2 else decide ((r.2.1 q.2.2.1).1 = tb_own.getD c "")))
  | none => false
def tb_nchk (c : Nat) (q : Nat × Nat) (x : Nat × Nat) : Bool := match vwCl[q.2]? with
  | some r => decide (r.2.2 = tb_nf q.2) && tb_w x (.classLink (tb_own.getD c "") q.1 r.1)
  | none => false
def tb_cchk (c : Nat) (q : Nat × Value) (x : Nat × Nat) : Bool := match q.2 with
  | .int v => tb_w x (.constant (tb_own.getD c "") q.1 v)
  | .long v => tb_w x (.constantLong (tb_own.getD c "") q.1 v)
  | .retAddr _ => true
  | _ => false
def tb_fh : Nat → List (Nat × Nat) := fun c => match c with
  | 0 => [(1, 121), (1, 122), (1, 123), (1, 124)]
  | 1 => [(1, 59)]
  | 2 => [(2, 33), (2, 34), (2, 35), (2, 36), (2, 37), (2, 38), (2, 39), (2, 40), (2, 41), (2, 42), (2, 43)]
  | 3 => [(2, 78), (2, 79), (2, 80), (2, 81), (2, 82), (2, 83), (2, 84), (2, 85)]
  | 4 => [(1, 148), (1, 149), (1, 150), (1, 151), (1, 152), (1, 153), (1, 154), (1, 155), (1, 156), (1, 157), (1, 158), (1, 159), (1, 160)]
  | 5 => [(1, 40)]
  | 6 => [(1, 220), (1, 221), (1, 222), (1, 223), (1, 224), (1, 225), (1, 226), (1, 227), (1, 228), (1, 229), (1, 230), (1, 231), (1, 232)]
  | 7 => [(1, 64), (1, 65), (1, 66), (1, 67), (1, 68), (1, 69)]
  | 8 => [(1, 97), (1, 98), (1, 99), (1, 100), (1, 101), (1, 102), (1, 103)]
  | 9 => [(1, 198), (1, 199), (1, 200), (1, 201)]
  | 10 => [(2, 103), (2, 104), (2, 105), (2, 106), (2, 108), (2, 109), (2, 107), (2, 110), (2, 111), (2, 112), (2, 113), (2, 114), (2, 115), (2, 116), (2, 117), (2, 118), (2, 119), (2, 120), (2, 121), (2, 122)]
  | 11 => [(6, 49), (6, 58), (6, 59), (6, 60), (6, 61), (6, 62), (6, 63), (6, 64), (6, 65), (6, 66), (6, 67), (6, 68), (6, 69), (6, 70), (6, 71), (6, 72), (6, 77), (6, 80), (6, 81), (6, 82), (6, 84), (6, 87), (6, 91), (6, 93), (6, 101), (6, 102), (6, 103), (6, 104), (6, 105), (6, 106), (6, 122), (6, 123), (6, 125), (6, 126), (6, 128), (6, 129), (6, 130), (6, 131), (6, 132), (6, 133), (6, 134), (6, 135), (6, 138), (6, 139), (6, 142), (6, 48), (6, 50), (6, 57), (6, 51), (6, 53), (6, 52), (6, 54), (6, 56), (6, 55), (6, 75), (6, 79), (6, 83), (6, 85), (6, 86), (6, 78), (6, 76), (6, 73), (6, 74), (6, 88), (6, 89), (6, 90), (6, 107), (6, 108), (6, 109), (6, 110), (6, 120), (6, 92), (6, 94), (6, 96), (6, 97), (6, 98), (6, 99), (6, 100), (6, 95), (6, 112), (6, 114), (6, 121), (6, 127), (6, 124), (6, 118), (6, 119), (6, 113), (6, 116), (6, 117), (6, 115), (6, 111), (6, 143), (6, 136), (6, 141), (6, 140), (6, 137), (6, 144), (6, 145), (6, 146)]
  | _ => []
set_option maxRecDepth 100000 in
theorem tb_f_ok_0 : tb_zc (tb_f 0) (tb_fh 0) (tb_fchk 0) = true := by decide +kernel
set_option maxRecDepth 100000 in
theorem tb_f_ok_1 : tb_zc (tb_f 1) (tb_fh 1) (tb_fchk 1) = true := by decide +kernel
set_option maxRecDepth 100000 in
theorem tb_f_ok_2 : tb_zc (tb_f 2) (tb_fh 2) (tb_fchk 2) = true := by decide +kernel
set_option maxRecDepth 100000 in
theorem tb_f_ok_3 : tb_zc (tb_f 3) (tb_fh 3) (tb_fchk 3) = true := by decide +kernel
set_option maxRecDepth 100000 in
theorem tb_f_ok_4 : tb_zc (tb_f 4) (tb_fh 4) (tb_fchk 4) = true := by decide +kernel
set_option maxRecDepth 100000 in
theorem tb_f_ok_5 : tb_zc (tb_f 5) (tb_fh 5) (tb_fchk 5) = true := by decide +kernel
set_option maxRecDepth 100000 in
theorem tb_f_ok_6 : tb_zc (tb_f 6) (tb_fh 6) (tb_fchk 6) = true := by decide +kernel
set_option maxRecDepth 100000 in
theorem tb_f_ok_7 : tb_zc (tb_f 7) (tb_fh 7) (tb_fchk 7) = true := by decide +kernel
set_option maxRecDepth 100000 in
theorem tb_f_ok_8 : tb_zc (tb_f 8) (tb_fh 8) (tb_fchk 8) = true := by decide +kernel
set_option maxRecDepth 100000 in
theorem tb_f_ok_9 : tb_zc (tb_f 9) (tb_fh 9) (tb_fchk 9) = true := by decide +kernel
set_option maxRecDepth 100000 in
theorem tb_f_ok_10 : tb_zc (tb_f 10) (tb_fh 10) (tb_fchk 10) = true := by decide +kernel
set_option maxRecDepth 100000 in
theorem tb_f_ok_11 : tb_zc (tb_f 11) (tb_fh 11) (tb_fchk 11) = true := by decide +kernel
theorem tb_f_ok : ∀ c : Nat, tb_zc (tb_f c) (tb_fh c) (tb_fchk c) = true := by
  intro c
  match c with
  | 0 => exact tb_f_ok_0
  | 1 => exact tb_f_ok_1
  | 2 => exact tb_f_ok_2
  | 3 => exact tb_f_ok_3
  | 4 => exact tb_f_ok_4
  | 5 => exact tb_f_ok_5
  | 6 => exact tb_f_ok_6
  | 7 => exact tb_f_ok_7
  | 8 => exact tb_f_ok_8
  | 9 => exact tb_f_ok_9
  | 10 => exact tb_f_ok_10
  | 11 => exact tb_f_ok_11
  | 12 => exact rfl
  | 13 => exact rfl
  | 14 => exact rfl
  | c + 15 => rfl
def tb_nh : Nat → List (Nat × Nat) := fun c => match c with
  | 0 => [(1, 89), (1, 119)]
  | 2 => [(2, 31)]
  | 3 => [(2, 74)]
  | 4 => [(1, 144), (1, 146)]
  | 6 => [(1, 217)]
  | 7 => [(1, 51), (1, 53)]
  | 8 => [(1, 95)]
  | 9 => [(1, 194), (1, 196)]
  | 10 => [(1, 34), (1, 45), (1, 83), (1, 134), (1, 188), (1, 211), (2, 20), (2, 68)]
  | 12 => [(1, 26), (6, 41)]
  | _ => []
set_option maxRecDepth 100000 in
theorem tb_n_ok_0 : tb_zc (tb_n 0) (tb_nh 0) (tb_nchk 0) = true := by decide +kernel
set_option maxRecDepth 100000 in
theorem tb_n_ok_2 : tb_zc (tb_n 2) (tb_nh 2) (tb_nchk 2) = true := by decide +kernel
set_option maxRecDepth 100000 in
theorem tb_n_ok_3 : tb_zc (tb_n 3) (tb_nh 3) (tb_nchk 3) = true := by decide +kernel
set_option maxRecDepth 100000 in
theorem tb_n_ok_4 : tb_zc (tb_n 4) (tb_nh 4) (tb_nchk 4) = true := by decide +kernel
set_option maxRecDepth 100000 in
theorem tb_n_ok_6 : tb_zc (tb_n 6) (tb_nh 6) (tb_nchk 6) = true := by decide +kernel
set_option maxRecDepth 100000 in
theorem tb_n_ok_7 : tb_zc (tb_n 7) (tb_nh 7) (tb_nchk 7) = true := by decide +kernel
set_option maxRecDepth 100000 in
theorem tb_n_ok_8 : tb_zc (tb_n 8) (tb_nh 8) (tb_nchk 8) = true := by decide +kernel
set_option maxRecDepth 100000 in
theorem tb_n_ok_9 : tb_zc (tb_n 9) (tb_nh 9) (tb_nchk 9) = true := by decide +kernel
set_option maxRecDepth 100000 in
theorem tb_n_ok_10 : tb_zc (tb_n 10) (tb_nh 10) (tb_nchk 10) = true := by decide +kernel
set_option maxRecDepth 100000 in
theorem tb_n_ok_12 : tb_zc (tb_n 12) (tb_nh 12) (tb_nchk 12) = true := by decide +kernel
theorem tb_n_ok : ∀ c : Nat, tb_zc (tb_n c) (tb_nh c) (tb_nchk c) = true := by
  intro c
  match c with
  | 0 => exact tb_n_ok_0
  | 1 => exact rfl
  | 2 => exact tb_n_ok_2
  | 3 => exact tb_n_ok_3
  | 4 => exact tb_n_ok_4
  | 5 => exact rfl
  | 6 => exact tb_n_ok_6
  | 7 => exact tb_n_ok_7
  | 8 => exact tb_n_ok_8
  | 9 => exact tb_n_ok_9
  | 10 => exact tb_n_ok_10
  | 11 => exact rfl
  | 12 => exact tb_n_ok_12
  | 13 => exact rfl
  | 14 => exact rfl
  | c + 15 => rfl
def tb_ch : Nat → List (Nat × Nat) := fun c => match c with
  | 3 => [(5, 121), (5, 188)]
  | 6 => [(4, 213)]
  | 7 => [(2, 194), (2, 211), (2, 198), (2, 199), (2, 200), (2, 201), (2, 202)]
  | 10 => [(2, 67)]
  | 11 => [(6, 47), (7, 140), (7, 141), (7, 142), (7, 143), (7, 230), (7, 235), (8, 55), (8, 64), (8, 84), (8, 93), (8, 94), (8, 95), (8, 116)]
  | 14 => [(4, 88), (4, 89), (4, 90)]
  | _ => []
set_option maxRecDepth 100000 in
theorem tb_c_ok_3 : tb_zc (tb_c 3) (tb_ch 3) (tb_cchk 3) = true := by decide +kernel
set_option maxRecDepth 100000 in
theorem tb_c_ok_6 : tb_zc (tb_c 6) (tb_ch 6) (tb_cchk 6) = true := by decide +kernel
set_option maxRecDepth 100000 in
theorem tb_c_ok_7 : tb_zc (tb_c 7) (tb_ch 7) (tb_cchk 7) = true := by decide +kernel
set_option maxRecDepth 100000 in
theorem tb_c_ok_10 : tb_zc (tb_c 10) (tb_ch 10) (tb_cchk 10) = true := by decide +kernel
set_option maxRecDepth 100000 in
theorem tb_c_ok_11 : tb_zc (tb_c 11) (tb_ch 11) (tb_cchk 11) = true := by decide +kernel
set_option maxRecDepth 100000 in
theorem tb_c_ok_14 : tb_zc (tb_c 14) (tb_ch 14) (tb_cchk 14) = true := by decide +kernel
theorem tb_c_ok : ∀ c : Nat, tb_zc (tb_c c) (tb_ch c) (tb_cchk c) = true := by
  intro c
  match c with
  | 0 => exact rfl
  | 1 => exact rfl
  | 2 => exact rfl
  | 3 => exact tb_c_ok_3
  | 4 => exact rfl
  | 5 => exact rfl
  | 6 => exact tb_c_ok_6
  | 7 => exact tb_c_ok_7
  | 8 => exact rfl
  | 9 => exact rfl
  | 10 => exact tb_c_ok_10
  | 11 => exact tb_c_ok_11
  | 12 => exact rfl
  | 13 => exact rfl
  | 14 => exact tb_c_ok_14
  | c + 15 => rfl
end
section
/-! Calls' places, and what is called. -/
def tb_cchk2 (q : Nat × Nat) (x : (Nat × Nat) × (Nat × Nat) × (Nat × Nat)) : Bool :=
  tb_w x.1 (.initialized (mi_nm tb_P q.1).cls) && ((decide (mi_mx tb_P q.1 ≤ 45) && (decide ((mi_nm tb_P q.1).cls ≠ "java/lang/invoke/MethodHandle") && (decide ((mi_nm tb_P q.1).cls ≠ "java/lang/invoke/VarHandle") &&
  (match q.2 with
    | 0 => (mi_hh tb_P q.1).isEmpty && (tb_w x.2.1 (.instanceMethod (mi_nm tb_P q.1)) && (tb_w x.2.2 (.selects (mi_nm tb_P q.1).cls (mi_nm tb_P q.1) (mi_nm tb_P q.1)) && (match vwCl[mi_kc tb_P q.1]? with
      | some r => decide (r.1 = (mi_nm tb_P q.1).cls)
      | none => false)))
    | 1 => (mi_hh tb_P q.1).isEmpty && tb_w x.2.1 (.static (mi_nm tb_P q.1))
    | 2 => (mi_hh tb_P q.1).isEmpty && (tb_w x.2.1 (.instanceMethod (mi_nm tb_P q.1)) && (decide ((mi_nm tb_P q.1).name = "<init>") && (mi_rt tb_P q.1).isNone))
    | 4 => (mi_hh tb_P q.1).isEmpty && tb_w x.2.1 (.static (mi_nm tb_P q.1))
    | 5 => !(mi_hh tb_P q.1).isEmpty && tb_w x.2.1 (.static (mi_nm tb_P q.1))
    | _ => false)))))
def tb_cal_0 : List (Nat × Nat) := [(1, 2), (2, 2), (3, 2), (4, 2), (5, 2), (6, 2), (7, 2), (8, 0), (9, 2), (10, 2), (11, 2), (12, 0), (13, 2), (14, 0), (15, 0), (16, 0), (17, 0), (18, 0), (19, 1), (20, 1), (21, 0), (22, 1), (23, 0), (24, 0), (25, 1), (26, 1), (27, 0), (28, 0), (29, 0), (30, 0)]
def tb_calh_0 : List ((Nat × Nat) × (Nat × Nat) × (Nat × Nat)) := [((1, 1), (1, 29), (99, 0)), ((1, 2), (1, 37), (99, 0)), ((1, 3), (1, 48), (99, 0)), ((1, 4), (1, 56), (99, 0)), ((1, 5), (1, 86), (99, 0)), ((1, 6), (1, 92), (99, 0)), ((1, 7), (1, 137), (99, 0)), ((1, 5), (1, 141), (1, 142)), ((1, 8), (1, 191), (99, 0)), ((1, 9), (1, 214), (99, 0)), ((1, 10), (2, 23), (99, 0)), ((1, 8), (2, 28), (2, 29)), ((1, 11), (2, 71), (99, 0)), ((1, 1), (2, 165), (2, 166)), ((1, 3), (2, 169), (2, 170)), ((1, 2), (2, 173), (2, 174)), ((1, 3), (2, 178), (0, 0)), ((1, 2), (2, 181), (2, 182)), ((1, 3), (2, 185), (99, 0)), ((1, 3), (2, 188), (99, 0)), ((1, 3), (2, 192), (0, 1)), ((1, 3), (2, 196), (99, 0)), ((1, 3), (2, 205), (0, 2)), ((1, 4), (2, 208), (2, 209)), ((1, 3), (2, 213), (99, 0)), ((1, 18), (2, 216), (99, 0)), ((1, 7), (2, 219), (2, 220)), ((1, 5), (2, 223), (2, 224)), ((1, 6), (2, 227), (2, 228)), ((1, 3), (2, 231), (2, 232))]
set_option maxRecDepth 100000 in
theorem tb_cal_ok_0 : tb_zc tb_cal_0 tb_calh_0 tb_cchk2 = true := by decide +kernel
def tb_cal_1 : List (Nat × Nat) := [(31, 0), (32, 0), (33, 0), (34, 0), (35, 0), (36, 0), (37, 0), (38, 0), (39, 0), (40, 0), (41, 0), (42, 0), (43, 0), (44, 0), (45, 0), (46, 0), (47, 0), (48, 0), (49, 0), (50, 0), (51, 0), (52, 0), (53, 0), (54, 0), (55, 0), (56, 0), (57, 0), (58, 0), (59, 0), (60, 0)]
def tb_calh_1 : List ((Nat × Nat) × (Nat × Nat) × (Nat × Nat)) := [((1, 7), (2, 236), (0, 3)), ((1, 5), (2, 239), (3, 0)), ((1, 3), (3, 3), (3, 4)), ((1, 4), (3, 7), (3, 8)), ((1, 4), (3, 11), (3, 12)), ((1, 7), (3, 17), (0, 4)), ((1, 7), (3, 21), (0, 5)), ((1, 7), (3, 25), (0, 6)), ((1, 7), (3, 29), (0, 7)), ((1, 7), (3, 34), (0, 8)), ((1, 7), (3, 38), (0, 9)), ((1, 5), (3, 42), (3, 43)), ((1, 7), (3, 48), (0, 10)), ((1, 7), (3, 52), (0, 11)), ((1, 7), (3, 56), (0, 12)), ((1, 6), (3, 59), (3, 60)), ((1, 6), (3, 64), (3, 65)), ((1, 7), (3, 70), (0, 13)), ((1, 7), (3, 74), (0, 14)), ((1, 7), (3, 78), (0, 15)), ((1, 7), (3, 82), (0, 16)), ((1, 7), (3, 86), (0, 17)), ((1, 7), (3, 90), (0, 18)), ((1, 7), (3, 94), (0, 19)), ((1, 7), (3, 98), (0, 20)), ((1, 6), (3, 102), (3, 103)), ((1, 5), (3, 108), (3, 109)), ((1, 7), (3, 113), (0, 21)), ((1, 6), (3, 116), (3, 117)), ((1, 6), (3, 120), (3, 121))]
set_option maxRecDepth 100000 in
theorem tb_cal_ok_1 : tb_zc tb_cal_1 tb_calh_1 tb_cchk2 = true := by decide +kernel
def tb_cal_2 : List (Nat × Nat) := [(61, 0), (62, 0), (63, 0), (64, 0), (65, 0), (66, 0), (67, 0), (68, 0), (69, 0), (70, 0), (71, 0), (72, 0), (73, 0), (74, 0), (75, 0), (76, 0), (77, 0), (78, 0), (79, 0), (80, 0), (81, 1), (82, 0), (83, 0), (84, 0), (85, 1), (86, 0), (87, 0), (88, 0), (89, 0), (90, 0)]
def tb_calh_2 : List ((Nat × Nat) × (Nat × Nat) × (Nat × Nat)) := [((1, 6), (3, 124), (3, 125)), ((1, 7), (3, 129), (0, 22)), ((1, 6), (3, 132), (3, 133)), ((1, 5), (3, 136), (3, 137)), ((1, 6), (3, 141), (3, 142)), ((1, 7), (3, 145), (3, 146)), ((1, 3), (3, 149), (3, 150)), ((1, 8), (3, 153), (3, 154)), ((1, 1), (3, 159), (3, 160)), ((1, 1), (3, 167), (3, 168)), ((1, 1), (4, 1), (0, 24)), ((1, 1), (4, 9), (4, 10)), ((1, 1), (4, 33), (4, 34)), ((1, 5), (4, 37), (4, 38)), ((1, 5), (4, 58), (4, 59)), ((1, 5), (4, 62), (4, 63)), ((1, 6), (4, 66), (4, 67)), ((1, 5), (4, 70), (4, 71)), ((1, 6), (4, 74), (4, 75)), ((1, 1), (4, 81), (4, 82)), ((1, 20), (4, 86), (99, 0)), ((1, 1), (4, 96), (4, 97)), ((1, 5), (4, 102), (4, 103)), ((1, 8), (4, 107), (4, 108)), ((1, 8), (4, 114), (99, 0)), ((1, 10), (4, 118), (4, 119)), ((1, 8), (4, 122), (4, 123)), ((1, 10), (4, 128), (0, 25)), ((1, 8), (4, 131), (4, 132)), ((1, 8), (4, 136), (4, 137))]
set_option maxRecDepth 100000 in
theorem tb_cal_ok_2 : tb_zc tb_cal_2 tb_calh_2 tb_cchk2 = true := by decide +kernel
def tb_cal_3 : List (Nat × Nat) := [(91, 0), (92, 0), (93, 0), (94, 0), (95, 0), (96, 0), (97, 0), (98, 0), (99, 0), (100, 0), (101, 0), (102, 0), (103, 0), (104, 0), (105, 0), (106, 0), (107, 0), (108, 4), (109, 0), (110, 0), (111, 0), (112, 0), (113, 0), (114, 0), (115, 0), (116, 0), (117, 0), (118, 0), (119, 0), (120, 0)]
def tb_calh_3 : List ((Nat × Nat) × (Nat × Nat) × (Nat × Nat)) := [((1, 8), (4, 141), (4, 142)), ((1, 10), (4, 146), (0, 26)), ((1, 10), (4, 152), (0, 27)), ((1, 10), (4, 176), (0, 28)), ((1, 6), (4, 179), (4, 180)), ((1, 10), (4, 184), (0, 29)), ((1, 10), (4, 189), (0, 30)), ((1, 10), (4, 193), (0, 31)), ((1, 10), (4, 198), (0, 32)), ((1, 9), (4, 202), (4, 203)), ((1, 9), (4, 210), (0, 33)), ((1, 9), (4, 218), (0, 34)), ((1, 9), (4, 222), (0, 35)), ((1, 9), (4, 226), (0, 36)), ((1, 9), (4, 231), (0, 37)), ((1, 9), (4, 235), (0, 38)), ((1, 9), (5, 0), (0, 39)), ((1, 1), (5, 3), (99, 0)), ((1, 9), (5, 6), (5, 7)), ((1, 6), (5, 10), (5, 11)), ((1, 10), (5, 15), (0, 40)), ((1, 8), (5, 18), (5, 19)), ((1, 8), (5, 26), (0, 41)), ((1, 6), (5, 29), (5, 30)), ((1, 10), (5, 39), (0, 42)), ((1, 1), (5, 46), (0, 43)), ((1, 8), (5, 50), (5, 51)), ((1, 10), (5, 55), (5, 56)), ((1, 10), (5, 59), (5, 60)), ((1, 10), (5, 63), (5, 64))]
set_option maxRecDepth 100000 in
theorem tb_cal_ok_3 : tb_zc tb_cal_3 tb_calh_3 tb_cchk2 = true := by decide +kernel
def tb_cal_4 : List (Nat × Nat) := [(121, 0), (122, 0), (123, 0), (124, 0), (125, 0), (126, 0), (127, 0), (128, 0), (129, 0), (130, 0), (131, 0), (132, 0), (133, 0), (134, 0), (135, 0), (136, 0), (137, 1), (138, 0), (139, 0), (140, 0), (141, 0), (142, 0), (143, 0), (144, 0), (145, 2), (146, 0), (147, 0), (148, 0), (149, 1), (150, 0)]
def tb_calh_4 : List ((Nat × Nat) × (Nat × Nat) × (Nat × Nat)) := [((1, 1), (5, 70), (5, 71)), ((1, 8), (5, 78), (5, 79)), ((1, 1), (5, 89), (5, 90)), ((1, 1), (5, 98), (5, 99)), ((1, 11), (5, 103), (5, 104)), ((1, 11), (5, 109), (0, 44)), ((1, 11), (5, 114), (0, 45)), ((1, 11), (5, 119), (0, 46)), ((1, 11), (5, 126), (0, 47)), ((1, 11), (5, 180), (0, 48)), ((1, 11), (5, 186), (0, 49)), ((1, 11), (5, 192), (0, 50)), ((1, 11), (5, 197), (0, 51)), ((1, 11), (5, 205), (0, 52)), ((1, 11), (5, 212), (0, 53)), ((1, 11), (5, 217), (0, 54)), ((1, 11), (5, 220), (99, 0)), ((1, 1), (5, 235), (5, 236)), ((1, 1), (6, 3), (6, 4)), ((1, 1), (6, 10), (6, 11)), ((1, 1), (6, 18), (6, 19)), ((1, 9), (6, 27), (6, 28)), ((1, 9), (6, 31), (6, 32)), ((1, 1), (6, 38), (6, 39)), ((1, 12), (6, 44), (99, 0)), ((1, 12), (7, 108), (7, 109)), ((1, 12), (7, 112), (7, 113)), ((1, 12), (7, 116), (7, 117)), ((1, 12), (7, 120), (99, 0)), ((1, 12), (7, 123), (7, 124))]
set_option maxRecDepth 100000 in
theorem tb_cal_ok_4 : tb_zc tb_cal_4 tb_calh_4 tb_cchk2 = true := by decide +kernel
def tb_cal_5 : List (Nat × Nat) := [(151, 0), (152, 1), (153, 1), (154, 0), (155, 1), (156, 1), (157, 0), (158, 0), (159, 0), (160, 0), (161, 0), (162, 0), (163, 0), (164, 0), (165, 0), (166, 0), (167, 0), (168, 0), (169, 0), (170, 0), (171, 0), (172, 0), (173, 0), (174, 0), (175, 0), (176, 0), (177, 0), (178, 0), (179, 0), (180, 0)]
def tb_calh_5 : List ((Nat × Nat) × (Nat × Nat) × (Nat × Nat)) := [((1, 12), (7, 128), (0, 55)), ((1, 12), (7, 131), (99, 0)), ((1, 12), (7, 134), (99, 0)), ((1, 12), (7, 138), (0, 56)), ((1, 12), (7, 145), (99, 0)), ((1, 12), (7, 148), (99, 0)), ((1, 12), (7, 152), (0, 57)), ((1, 12), (7, 156), (0, 58)), ((1, 12), (7, 160), (0, 59)), ((1, 12), (7, 164), (0, 60)), ((1, 12), (7, 168), (0, 61)), ((1, 12), (7, 172), (0, 62)), ((1, 12), (7, 176), (0, 63)), ((1, 12), (7, 180), (0, 64)), ((1, 12), (7, 184), (0, 65)), ((1, 12), (7, 188), (0, 66)), ((1, 12), (7, 192), (0, 67)), ((1, 12), (7, 196), (0, 68)), ((1, 12), (7, 200), (0, 69)), ((1, 12), (7, 204), (0, 70)), ((1, 12), (7, 208), (0, 71)), ((1, 12), (7, 212), (0, 72)), ((1, 12), (7, 216), (0, 73)), ((1, 12), (7, 219), (7, 220)), ((1, 12), (7, 223), (7, 224)), ((1, 12), (7, 228), (0, 74)), ((1, 12), (7, 232), (7, 233)), ((1, 12), (7, 238), (0, 75)), ((1, 12), (8, 1), (8, 2)), ((1, 12), (8, 6), (0, 76))]
set_option maxRecDepth 100000 in
theorem tb_cal_ok_5 : tb_zc tb_cal_5 tb_calh_5 tb_cchk2 = true := by decide +kernel
def tb_cal_6 : List (Nat × Nat) := [(181, 0), (182, 0), (183, 0), (184, 0), (185, 0), (186, 0), (187, 1), (188, 0), (189, 0), (190, 0), (191, 0), (192, 0), (193, 0), (194, 0), (195, 0), (196, 0), (197, 0), (198, 1), (199, 0), (200, 0), (201, 0), (202, 0), (203, 0), (204, 0), (205, 0), (206, 0), (207, 0), (208, 5), (209, 5), (210, 5)]
def tb_calh_6 : List ((Nat × Nat) × (Nat × Nat) × (Nat × Nat)) := [((1, 12), (8, 10), (0, 77)), ((1, 12), (8, 14), (0, 78)), ((1, 12), (8, 18), (0, 79)), ((1, 12), (8, 22), (0, 80)), ((1, 12), (8, 26), (0, 81)), ((1, 12), (8, 30), (0, 82)), ((1, 12), (8, 33), (99, 0)), ((1, 12), (8, 37), (0, 83)), ((1, 12), (8, 41), (0, 84)), ((1, 12), (8, 45), (0, 85)), ((1, 12), (8, 49), (0, 86)), ((1, 12), (8, 52), (8, 53)), ((1, 12), (8, 58), (0, 87)), ((1, 12), (8, 61), (8, 62)), ((1, 12), (8, 66), (8, 67)), ((1, 12), (8, 71), (0, 88)), ((1, 12), (8, 75), (0, 89)), ((1, 12), (8, 78), (99, 0)), ((1, 12), (8, 82), (0, 90)), ((1, 12), (8, 87), (0, 91)), ((1, 12), (8, 91), (0, 92)), ((1, 12), (8, 98), (0, 93)), ((1, 12), (8, 101), (8, 102)), ((1, 12), (8, 105), (8, 106)), ((1, 12), (8, 109), (8, 110)), ((1, 12), (8, 113), (8, 114)), ((1, 12), (8, 118), (8, 119)), ((1, 0), (3, 163), (99, 0)), ((1, 0), (4, 5), (99, 0)), ((1, 0), (4, 29), (99, 0))]
set_option maxRecDepth 100000 in
theorem tb_cal_ok_6 : tb_zc tb_cal_6 tb_calh_6 tb_cchk2 = true := by decide +kernel
def tb_cal_7 : List (Nat × Nat) := [(211, 5), (212, 5), (213, 5), (214, 5), (215, 5), (216, 5), (217, 5), (218, 5), (219, 5), (220, 5)]
def tb_calh_7 : List ((Nat × Nat) × (Nat × Nat) × (Nat × Nat)) := [((1, 0), (4, 78), (99, 0)), ((1, 0), (4, 92), (99, 0)), ((1, 0), (5, 67), (99, 0)), ((1, 0), (5, 86), (99, 0)), ((1, 0), (5, 95), (99, 0)), ((1, 0), (5, 232), (99, 0)), ((1, 0), (6, 0), (99, 0)), ((1, 0), (6, 7), (99, 0)), ((1, 0), (6, 15), (99, 0)), ((1, 0), (6, 35), (99, 0))]
set_option maxRecDepth 100000 in
theorem tb_cal_ok_7 : tb_zc tb_cal_7 tb_calh_7 tb_cchk2 = true := by decide +kernel
def tb_cal : List (Nat × Nat) := tb_cal_0 ++ tb_cal_1 ++ tb_cal_2 ++ tb_cal_3 ++ tb_cal_4 ++ tb_cal_5 ++ tb_cal_6 ++ tb_cal_7
theorem tb_cal_ok : ∀ q ∈ tb_cal, ∃ x, tb_cchk2 q x = true := by
  intro q h
  unfold tb_cal at h
  simp only [List.mem_append] at h
  rcases h with ((((((h | h) | h) | h) | h) | h) | h) | h
  · exact tb_zc_ok tb_cal_ok_0 q h
  · exact tb_zc_ok tb_cal_ok_1 q h
  · exact tb_zc_ok tb_cal_ok_2 q h
  · exact tb_zc_ok tb_cal_ok_3 q h
  · exact tb_zc_ok tb_cal_ok_4 q h
  · exact tb_zc_ok tb_cal_ok_5 q h
  · exact tb_zc_ok tb_cal_ok_6 q h
  · exact tb_zc_ok tb_cal_ok_7 q h
set_option maxRecDepth 100000 in
theorem tb_cw_1 : (tb_tab 1)[30]? = some (mi_cw tb_P 1) := rfl
set_option maxRecDepth 100000 in
theorem tb_cw_2 : (tb_tab 1)[38]? = some (mi_cw tb_P 2) := rfl
set_option maxRecDepth 100000 in
theorem tb_cw_3 : (tb_tab 1)[49]? = some (mi_cw tb_P 3) := rfl
set_option maxRecDepth 100000 in
theorem tb_cw_4 : (tb_tab 1)[57]? = some (mi_cw tb_P 4) := rfl
set_option maxRecDepth 100000 in
theorem tb_cw_5 : (tb_tab 1)[87]? = some (mi_cw tb_P 5) := rfl
set_option maxRecDepth 100000 in
theorem tb_cw_6 : (tb_tab 1)[93]? = some (mi_cw tb_P 6) := rfl
set_option maxRecDepth 100000 in
theorem tb_cw_7 : (tb_tab 1)[138]? = some (mi_cw tb_P 7) := rfl
set_option maxRecDepth 100000 in
theorem tb_cw_8 : (tb_tab 1)[143]? = some (mi_cw tb_P 8) := rfl
set_option maxRecDepth 100000 in
theorem tb_cw_9 : (tb_tab 1)[192]? = some (mi_cw tb_P 9) := rfl
set_option maxRecDepth 100000 in
theorem tb_cw_10 : (tb_tab 1)[215]? = some (mi_cw tb_P 10) := rfl
set_option maxRecDepth 100000 in
theorem tb_cw_11 : (tb_tab 2)[24]? = some (mi_cw tb_P 11) := rfl
set_option maxRecDepth 100000 in
theorem tb_cw_12 : (tb_tab 2)[30]? = some (mi_cw tb_P 12) := rfl
set_option maxRecDepth 100000 in
theorem tb_cw_13 : (tb_tab 2)[72]? = some (mi_cw tb_P 13) := rfl
set_option maxRecDepth 100000 in
theorem tb_cw_14 : (tb_tab 2)[167]? = some (mi_cw tb_P 14) := rfl
set_option maxRecDepth 100000 in
theorem tb_cw_15 : (tb_tab 2)[171]? = some (mi_cw tb_P 15) := rfl
set_option maxRecDepth 100000 in
theorem tb_cw_16 : (tb_tab 2)[175]? = some (mi_cw tb_P 16) := rfl
set_option maxRecDepth 100000 in
theorem tb_cw_17 : (tb_tab 2)[179]? = some (mi_cw tb_P 17) := rfl
set_option maxRecDepth 100000 in
theorem tb_cw_18 : (tb_tab 2)[183]? = some (mi_cw tb_P 18) := rfl
set_option maxRecDepth 100000 in
theorem tb_cw_19 : (tb_tab 2)[186]? = some (mi_cw tb_P 19) := rfl
set_option maxRecDepth 100000 in
theorem tb_cw_20 : (tb_tab 2)[189]? = some (mi_cw tb_P 20) := rfl
set_option maxRecDepth 100000 in
theorem tb_cw_21 : (tb_tab 2)[193]? = some (mi_cw tb_P 21) := rfl
set_option maxRecDepth 100000 in
theorem tb_cw_22 : (tb_tab 2)[197]? = some (mi_cw tb_P 22) := rfl
set_option maxRecDepth 100000 in
theorem tb_cw_23 : (tb_tab 2)[206]? = some (mi_cw tb_P 23) := rfl
set_option maxRecDepth 100000 in
theorem tb_cw_24 : (tb_tab 2)[210]? = some (mi_cw tb_P 24) := rfl
set_option maxRecDepth 100000 in
theorem tb_cw_25 : (tb_tab 2)[214]? = some (mi_cw tb_P 25) := rfl
set_option maxRecDepth 100000 in
theorem tb_cw_26 : (tb_tab 2)[217]? = some (mi_cw tb_P 26) := rfl
set_option maxRecDepth 100000 in
theorem tb_cw_27 : (tb_tab 2)[221]? = some (mi_cw tb_P 27) := rfl
set_option maxRecDepth 100000 in
theorem tb_cw_28 : (tb_tab 2)[225]? = some (mi_cw tb_P 28) := rfl
set_option maxRecDepth 100000 in
theorem tb_cw_29 : (tb_tab 2)[229]? = some (mi_cw tb_P 29) := rfl
set_option maxRecDepth 100000 in
theorem tb_cw_30 : (tb_tab 2)[233]? = some (mi_cw tb_P 30) := rfl
set_option maxRecDepth 100000 in
theorem tb_cw_31 : (tb_tab 2)[237]? = some (mi_cw tb_P 31) := rfl
set_option maxRecDepth 100000 in
theorem tb_cw_32 : (tb_tab 3)[1]? = some (mi_cw tb_P 32) := rfl
set_option maxRecDepth 100000 in
theorem tb_cw_33 : (tb_tab 3)[5]? = some (mi_cw tb_P 33) := rfl
set_option maxRecDepth 100000 in
theorem tb_cw_34 : (tb_tab 3)[9]? = some (mi_cw tb_P 34) := rfl
set_option maxRecDepth 100000 in
theorem tb_cw_35 : (tb_tab 3)[13]? = some (mi_cw tb_P 35) := rfl
set_option maxRecDepth 100000 in
theorem tb_cw_36 : (tb_tab 3)[18]? = some (mi_cw tb_P 36) := rfl
set_option maxRecDepth 100000 in
theorem tb_cw_37 : (tb_tab 3)[22]? = some (mi_cw tb_P 37) := rfl
set_option maxRecDepth 100000 in
theorem tb_cw_38 : (tb_tab 3)[26]? = some (mi_cw tb_P 38) := rfl
set_option maxRecDepth 100000 in
theorem tb_cw_39 : (tb_tab 3)[30]? = some (mi_cw tb_P 39) := rfl
set_option maxRecDepth 100000 in
theorem tb_cw_40 : (tb_tab 3)[35]? = some (mi_cw tb_P 40) := rfl
set_option maxRecDepth 100000 in
theorem tb_cw_41 : (tb_tab 3)[39]? = some (mi_cw tb_P 41) := rfl
set_option maxRecDepth 100000 in
theorem tb_cw_42 : (tb_tab 3)[44]? = some (mi_cw tb_P 42) := rfl
set_option maxRecDepth 100000 in
theorem tb_cw_43 : (tb_tab 3)[49]? = some (mi_cw tb_P 43) := rfl
set_option maxRecDepth 100000 in
theorem tb_cw_44 : (tb_tab 3)[53]? = some (mi_cw tb_P 44) := rfl
set_option maxRecDepth 100000 in
theorem tb_cw_45 : (tb_tab 3)[57]? = some (mi_cw tb_P 45) := rfl
set_option maxRecDepth 100000 in
theorem tb_cw_46 : (tb_tab 3)[61]? = some (mi_cw tb_P 46) := rfl
set_option maxRecDepth 100000 in
theorem tb_cw_47 : (tb_tab 3)[66]? = some (mi_cw tb_P 47) := rfl
set_option maxRecDepth 100000 in
theorem tb_cw_48 : (tb_tab 3)[71]? = some (mi_cw tb_P 48) := rfl
set_option maxRecDepth 100000 in
theorem tb_cw_49 : (tb_tab 3)[75]? = some (mi_cw tb_P 49) := rfl
set_option maxRecDepth 100000 in
theorem tb_cw_50 : (tb_tab 3)[79]? = some (mi_cw tb_P 50) := rfl
set_option maxRecDepth 100000 in
theorem tb_cw_51 : (tb_tab 3)[83]? = some (mi_cw tb_P 51) := rfl
set_option maxRecDepth 100000 in
theorem tb_cw_52 : (tb_tab 3)[87]? = some (mi_cw tb_P 52) := rfl
set_option maxRecDepth 100000 in
theorem tb_cw_53 : (tb_tab 3)[91]? = some (mi_cw tb_P 53) := rfl
set_option maxRecDepth 100000 in
theorem tb_cw_54 : (tb_tab 3)[95]? = some (mi_cw tb_P 54) := rfl
set_option maxRecDepth 100000 in
theorem tb_cw_55 : (tb_tab 3)[99]? = some (mi_cw tb_P 55) := rfl
set_option maxRecDepth 100000 in
theorem tb_cw_56 : (tb_tab 3)[104]? = some (mi_cw tb_P 56) := rfl
set_option maxRecDepth 100000 in
theorem tb_cw_57 : (tb_tab 3)[110]? = some (mi_cw tb_P 57) := rfl
set_option maxRecDepth 100000 in
theorem tb_cw_58 : (tb_tab 3)[114]? = some (mi_cw tb_P 58) := rfl
set_option maxRecDepth 100000 in
theorem tb_cw_59 : (tb_tab 3)[118]? = some (mi_cw tb_P 59) := rfl
set_option maxRecDepth 100000 in
theorem tb_cw_60 : (tb_tab 3)[122]? = some (mi_cw tb_P 60) := rfl
set_option maxRecDepth 100000 in
theorem tb_cw_61 : (tb_tab 3)[126]? = some (mi_cw tb_P 61) := rfl
set_option maxRecDepth 100000 in
theorem tb_cw_62 : (tb_tab 3)[130]? = some (mi_cw tb_P 62) := rfl
set_option maxRecDepth 100000 in
theorem tb_cw_63 : (tb_tab 3)[134]? = some (mi_cw tb_P 63) := rfl
set_option maxRecDepth 100000 in
theorem tb_cw_64 : (tb_tab 3)[138]? = some (mi_cw tb_P 64) := rfl
set_option maxRecDepth 100000 in
theorem tb_cw_65 : (tb_tab 3)[143]? = some (mi_cw tb_P 65) := rfl
set_option maxRecDepth 100000 in
theorem tb_cw_66 : (tb_tab 3)[147]? = some (mi_cw tb_P 66) := rfl
set_option maxRecDepth 100000 in
theorem tb_cw_67 : (tb_tab 3)[151]? = some (mi_cw tb_P 67) := rfl
set_option maxRecDepth 100000 in
theorem tb_cw_68 : (tb_tab 3)[155]? = some (mi_cw tb_P 68) := rfl
set_option maxRecDepth 100000 in
theorem tb_cw_69 : (tb_tab 3)[161]? = some (mi_cw tb_P 69) := rfl
set_option maxRecDepth 100000 in
theorem tb_cw_70 : (tb_tab 3)[169]? = some (mi_cw tb_P 70) := rfl
set_option maxRecDepth 100000 in
theorem tb_cw_71 : (tb_tab 4)[2]? = some (mi_cw tb_P 71) := rfl
set_option maxRecDepth 100000 in
theorem tb_cw_72 : (tb_tab 4)[11]? = some (mi_cw tb_P 72) := rfl
set_option maxRecDepth 100000 in
theorem tb_cw_73 : (tb_tab 4)[35]? = some (mi_cw tb_P 73) := rfl
set_option maxRecDepth 100000 in
theorem tb_cw_74 : (tb_tab 4)[39]? = some (mi_cw tb_P 74) := rfl
set_option maxRecDepth 100000 in
theorem tb_cw_75 : (tb_tab 4)[60]? = some (mi_cw tb_P 75) := rfl
set_option maxRecDepth 100000 in
theorem tb_cw_76 : (tb_tab 4)[64]? = some (mi_cw tb_P 76) := rfl
set_option maxRecDepth 100000 in
theorem tb_cw_77 : (tb_tab 4)[68]? = some (mi_cw tb_P 77) := rfl
set_option maxRecDepth 100000 in
theorem tb_cw_78 : (tb_tab 4)[72]? = some (mi_cw tb_P 78) := rfl
set_option maxRecDepth 100000 in
theorem tb_cw_79 : (tb_tab 4)[76]? = some (mi_cw tb_P 79) := rfl
set_option maxRecDepth 100000 in
theorem tb_cw_80 : (tb_tab 4)[83]? = some (mi_cw tb_P 80) := rfl
set_option maxRecDepth 100000 in
theorem tb_cw_81 : (tb_tab 4)[87]? = some (mi_cw tb_P 81) := rfl
set_option maxRecDepth 100000 in
theorem tb_cw_82 : (tb_tab 4)[98]? = some (mi_cw tb_P 82) := rfl
set_option maxRecDepth 100000 in
theorem tb_cw_83 : (tb_tab 4)[104]? = some (mi_cw tb_P 83) := rfl
set_option maxRecDepth 100000 in
theorem tb_cw_84 : (tb_tab 4)[109]? = some (mi_cw tb_P 84) := rfl
set_option maxRecDepth 100000 in
theorem tb_cw_85 : (tb_tab 4)[115]? = some (mi_cw tb_P 85) := rfl
set_option maxRecDepth 100000 in
theorem tb_cw_86 : (tb_tab 4)[120]? = some (mi_cw tb_P 86) := rfl
set_option maxRecDepth 100000 in
theorem tb_cw_87 : (tb_tab 4)[124]? = some (mi_cw tb_P 87) := rfl
set_option maxRecDepth 100000 in
theorem tb_cw_88 : (tb_tab 4)[129]? = some (mi_cw tb_P 88) := rfl
set_option maxRecDepth 100000 in
theorem tb_cw_89 : (tb_tab 4)[133]? = some (mi_cw tb_P 89) := rfl
set_option maxRecDepth 100000 in
theorem tb_cw_90 : (tb_tab 4)[138]? = some (mi_cw tb_P 90) := rfl
set_option maxRecDepth 100000 in
theorem tb_cw_91 : (tb_tab 4)[143]? = some (mi_cw tb_P 91) := rfl
set_option maxRecDepth 100000 in
theorem tb_cw_92 : (tb_tab 4)[147]? = some (mi_cw tb_P 92) := rfl
set_option maxRecDepth 100000 in
theorem tb_cw_93 : (tb_tab 4)[153]? = some (mi_cw tb_P 93) := rfl
set_option maxRecDepth 100000 in
theorem tb_cw_94 : (tb_tab 4)[177]? = some (mi_cw tb_P 94) := rfl
set_option maxRecDepth 100000 in
theorem tb_cw_95 : (tb_tab 4)[181]? = some (mi_cw tb_P 95) := rfl
set_option maxRecDepth 100000 in
theorem tb_cw_96 : (tb_tab 4)[185]? = some (mi_cw tb_P 96) := rfl
set_option maxRecDepth 100000 in
theorem tb_cw_97 : (tb_tab 4)[190]? = some (mi_cw tb_P 97) := rfl
set_option maxRecDepth 100000 in
theorem tb_cw_98 : (tb_tab 4)[194]? = some (mi_cw tb_P 98) := rfl
set_option maxRecDepth 100000 in
theorem tb_cw_99 : (tb_tab 4)[199]? = some (mi_cw tb_P 99) := rfl
set_option maxRecDepth 100000 in
theorem tb_cw_100 : (tb_tab 4)[204]? = some (mi_cw tb_P 100) := rfl
set_option maxRecDepth 100000 in
theorem tb_cw_101 : (tb_tab 4)[211]? = some (mi_cw tb_P 101) := rfl
set_option maxRecDepth 100000 in
theorem tb_cw_102 : (tb_tab 4)[219]? = some (mi_cw tb_P 102) := rfl
set_option maxRecDepth 100000 in
theorem tb_cw_103 : (tb_tab 4)[223]? = some (mi_cw tb_P 103) := rfl
set_option maxRecDepth 100000 in
theorem tb_cw_104 : (tb_tab 4)[227]? = some (mi_cw tb_P 104) := rfl
set_option maxRecDepth 100000 in
theorem tb_cw_105 : (tb_tab 4)[232]? = some (mi_cw tb_P 105) := rfl
set_option maxRecDepth 100000 in
theorem tb_cw_106 : (tb_tab 4)[236]? = some (mi_cw tb_P 106) := rfl
set_option maxRecDepth 100000 in
theorem tb_cw_107 : (tb_tab 5)[1]? = some (mi_cw tb_P 107) := rfl
set_option maxRecDepth 100000 in
theorem tb_cw_108 : (tb_tab 5)[4]? = some (mi_cw tb_P 108) := rfl
set_option maxRecDepth 100000 in
theorem tb_cw_109 : (tb_tab 5)[8]? = some (mi_cw tb_P 109) := rfl
set_option maxRecDepth 100000 in
theorem tb_cw_110 : (tb_tab 5)[12]? = some (mi_cw tb_P 110) := rfl
set_option maxRecDepth 100000 in
theorem tb_cw_111 : (tb_tab 5)[16]? = some (mi_cw tb_P 111) := rfl
set_option maxRecDepth 100000 in
theorem tb_cw_112 : (tb_tab 5)[20]? = some (mi_cw tb_P 112) := rfl
set_option maxRecDepth 100000 in
theorem tb_cw_113 : (tb_tab 5)[27]? = some (mi_cw tb_P 113) := rfl
set_option maxRecDepth 100000 in
theorem tb_cw_114 : (tb_tab 5)[31]? = some (mi_cw tb_P 114) := rfl
set_option maxRecDepth 100000 in
theorem tb_cw_115 : (tb_tab 5)[40]? = some (mi_cw tb_P 115) := rfl
set_option maxRecDepth 100000 in
theorem tb_cw_116 : (tb_tab 5)[47]? = some (mi_cw tb_P 116) := rfl
set_option maxRecDepth 100000 in
theorem tb_cw_117 : (tb_tab 5)[52]? = some (mi_cw tb_P 117) := rfl
set_option maxRecDepth 100000 in
theorem tb_cw_118 : (tb_tab 5)[57]? = some (mi_cw tb_P 118) := rfl
set_option maxRecDepth 100000 in
theorem tb_cw_119 : (tb_tab 5)[61]? = some (mi_cw tb_P 119) := rfl
set_option maxRecDepth 100000 in
theorem tb_cw_120 : (tb_tab 5)[65]? = some (mi_cw tb_P 120) := rfl
set_option maxRecDepth 100000 in
theorem tb_cw_121 : (tb_tab 5)[72]? = some (mi_cw tb_P 121) := rfl
set_option maxRecDepth 100000 in
theorem tb_cw_122 : (tb_tab 5)[80]? = some (mi_cw tb_P 122) := rfl
set_option maxRecDepth 100000 in
theorem tb_cw_123 : (tb_tab 5)[91]? = some (mi_cw tb_P 123) := rfl
set_option maxRecDepth 100000 in
theorem tb_cw_124 : (tb_tab 5)[100]? = some (mi_cw tb_P 124) := rfl
set_option maxRecDepth 100000 in
theorem tb_cw_125 : (tb_tab 5)[105]? = some (mi_cw tb_P 125) := rfl
set_option maxRecDepth 100000 in
theorem tb_cw_126 : (tb_tab 5)[110]? = some (mi_cw tb_P 126) := rfl
set_option maxRecDepth 100000 in
theorem tb_cw_127 : (tb_tab 5)[115]? = some (mi_cw tb_P 127) := rfl
set_option maxRecDepth 100000 in
theorem tb_cw_128 : (tb_tab 5)[120]? = some (mi_cw tb_P 128) := rfl
set_option maxRecDepth 100000 in
theorem tb_cw_129 : (tb_tab 5)[127]? = some (mi_cw tb_P 129) := rfl
set_option maxRecDepth 100000 in
theorem tb_cw_130 : (tb_tab 5)[181]? = some (mi_cw tb_P 130) := rfl
set_option maxRecDepth 100000 in
theorem tb_cw_131 : (tb_tab 5)[187]? = some (mi_cw tb_P 131) := rfl
set_option maxRecDepth 100000 in
theorem tb_cw_132 : (tb_tab 5)[193]? = some (mi_cw tb_P 132) := rfl
set_option maxRecDepth 100000 in
theorem tb_cw_133 : (tb_tab 5)[198]? = some (mi_cw tb_P 133) := rfl
set_option maxRecDepth 100000 in
theorem tb_cw_134 : (tb_tab 5)[206]? = some (mi_cw tb_P 134) := rfl
set_option maxRecDepth 100000 in
theorem tb_cw_135 : (tb_tab 5)[213]? = some (mi_cw tb_P 135) := rfl
set_option maxRecDepth 100000 in
theorem tb_cw_136 : (tb_tab 5)[218]? = some (mi_cw tb_P 136) := rfl
set_option maxRecDepth 100000 in
theorem tb_cw_137 : (tb_tab 5)[221]? = some (mi_cw tb_P 137) := rfl
set_option maxRecDepth 100000 in
theorem tb_cw_138 : (tb_tab 5)[237]? = some (mi_cw tb_P 138) := rfl
set_option maxRecDepth 100000 in
theorem tb_cw_139 : (tb_tab 6)[5]? = some (mi_cw tb_P 139) := rfl
set_option maxRecDepth 100000 in
theorem tb_cw_140 : (tb_tab 6)[12]? = some (mi_cw tb_P 140) := rfl
set_option maxRecDepth 100000 in
theorem tb_cw_141 : (tb_tab 6)[20]? = some (mi_cw tb_P 141) := rfl
set_option maxRecDepth 100000 in
theorem tb_cw_142 : (tb_tab 6)[29]? = some (mi_cw tb_P 142) := rfl
set_option maxRecDepth 100000 in
theorem tb_cw_143 : (tb_tab 6)[33]? = some (mi_cw tb_P 143) := rfl
set_option maxRecDepth 100000 in
theorem tb_cw_144 : (tb_tab 6)[40]? = some (mi_cw tb_P 144) := rfl
set_option maxRecDepth 100000 in
theorem tb_cw_145 : (tb_tab 6)[45]? = some (mi_cw tb_P 145) := rfl
set_option maxRecDepth 100000 in
theorem tb_cw_146 : (tb_tab 7)[110]? = some (mi_cw tb_P 146) := rfl
set_option maxRecDepth 100000 in
theorem tb_cw_147 : (tb_tab 7)[114]? = some (mi_cw tb_P 147) := rfl
set_option maxRecDepth 100000 in
theorem tb_cw_148 : (tb_tab 7)[118]? = some (mi_cw tb_P 148) := rfl
set_option maxRecDepth 100000 in
theorem tb_cw_149 : (tb_tab 7)[121]? = some (mi_cw tb_P 149) := rfl
set_option maxRecDepth 100000 in
theorem tb_cw_150 : (tb_tab 7)[125]? = some (mi_cw tb_P 150) := rfl
set_option maxRecDepth 100000 in
theorem tb_cw_151 : (tb_tab 7)[129]? = some (mi_cw tb_P 151) := rfl
set_option maxRecDepth 100000 in
theorem tb_cw_152 : (tb_tab 7)[132]? = some (mi_cw tb_P 152) := rfl
set_option maxRecDepth 100000 in
theorem tb_cw_153 : (tb_tab 7)[135]? = some (mi_cw tb_P 153) := rfl
set_option maxRecDepth 100000 in
theorem tb_cw_154 : (tb_tab 7)[139]? = some (mi_cw tb_P 154) := rfl
set_option maxRecDepth 100000 in
theorem tb_cw_155 : (tb_tab 7)[146]? = some (mi_cw tb_P 155) := rfl
set_option maxRecDepth 100000 in
theorem tb_cw_156 : (tb_tab 7)[149]? = some (mi_cw tb_P 156) := rfl
set_option maxRecDepth 100000 in
theorem tb_cw_157 : (tb_tab 7)[153]? = some (mi_cw tb_P 157) := rfl
set_option maxRecDepth 100000 in
theorem tb_cw_158 : (tb_tab 7)[157]? = some (mi_cw tb_P 158) := rfl
set_option maxRecDepth 100000 in
theorem tb_cw_159 : (tb_tab 7)[161]? = some (mi_cw tb_P 159) := rfl
set_option maxRecDepth 100000 in
theorem tb_cw_160 : (tb_tab 7)[165]? = some (mi_cw tb_P 160) := rfl
set_option maxRecDepth 100000 in
theorem tb_cw_161 : (tb_tab 7)[169]? = some (mi_cw tb_P 161) := rfl
set_option maxRecDepth 100000 in
theorem tb_cw_162 : (tb_tab 7)[173]? = some (mi_cw tb_P 162) := rfl
set_option maxRecDepth 100000 in
theorem tb_cw_163 : (tb_tab 7)[177]? = some (mi_cw tb_P 163) := rfl
set_option maxRecDepth 100000 in
theorem tb_cw_164 : (tb_tab 7)[181]? = some (mi_cw tb_P 164) := rfl
set_option maxRecDepth 100000 in
theorem tb_cw_165 : (tb_tab 7)[185]? = some (mi_cw tb_P 165) := rfl
set_option maxRecDepth 100000 in
theorem tb_cw_166 : (tb_tab 7)[189]? = some (mi_cw tb_P 166) := rfl
set_option maxRecDepth 100000 in
theorem tb_cw_167 : (tb_tab 7)[193]? = some (mi_cw tb_P 167) := rfl
set_option maxRecDepth 100000 in
theorem tb_cw_168 : (tb_tab 7)[197]? = some (mi_cw tb_P 168) := rfl
set_option maxRecDepth 100000 in
theorem tb_cw_169 : (tb_tab 7)[201]? = some (mi_cw tb_P 169) := rfl
set_option maxRecDepth 100000 in
theorem tb_cw_170 : (tb_tab 7)[205]? = some (mi_cw tb_P 170) := rfl
set_option maxRecDepth 100000 in
theorem tb_cw_171 : (tb_tab 7)[209]? = some (mi_cw tb_P 171) := rfl
set_option maxRecDepth 100000 in
theorem tb_cw_172 : (tb_tab 7)[213]? = some (mi_cw tb_P 172) := rfl
set_option maxRecDepth 100000 in
theorem tb_cw_173 : (tb_tab 7)[217]? = some (mi_cw tb_P 173) := rfl
set_option maxRecDepth 100000 in
theorem tb_cw_174 : (tb_tab 7)[221]? = some (mi_cw tb_P 174) := rfl
set_option maxRecDepth 100000 in
theorem tb_cw_175 : (tb_tab 7)[225]? = some (mi_cw tb_P 175) := rfl
set_option maxRecDepth 100000 in
theorem tb_cw_176 : (tb_tab 7)[229]? = some (mi_cw tb_P 176) := rfl
set_option maxRecDepth 100000 in
theorem tb_cw_177 : (tb_tab 7)[234]? = some (mi_cw tb_P 177) := rfl
set_option maxRecDepth 100000 in
theorem tb_cw_178 : (tb_tab 7)[239]? = some (mi_cw tb_P 178) := rfl
set_option maxRecDepth 100000 in
theorem tb_cw_179 : (tb_tab 8)[3]? = some (mi_cw tb_P 179) := rfl
set_option maxRecDepth 100000 in
theorem tb_cw_180 : (tb_tab 8)[7]? = some (mi_cw tb_P 180) := rfl
set_option maxRecDepth 100000 in
theorem tb_cw_181 : (tb_tab 8)[11]? = some (mi_cw tb_P 181) := rfl
set_option maxRecDepth 100000 in
theorem tb_cw_182 : (tb_tab 8)[15]? = some (mi_cw tb_P 182) := rfl
set_option maxRecDepth 100000 in
theorem tb_cw_183 : (tb_tab 8)[19]? = some (mi_cw tb_P 183) := rfl
set_option maxRecDepth 100000 in
theorem tb_cw_184 : (tb_tab 8)[23]? = some (mi_cw tb_P 184) := rfl
set_option maxRecDepth 100000 in
theorem tb_cw_185 : (tb_tab 8)[27]? = some (mi_cw tb_P 185) := rfl
set_option maxRecDepth 100000 in
theorem tb_cw_186 : (tb_tab 8)[31]? = some (mi_cw tb_P 186) := rfl
set_option maxRecDepth 100000 in
theorem tb_cw_187 : (tb_tab 8)[34]? = some (mi_cw tb_P 187) := rfl
set_option maxRecDepth 100000 in
theorem tb_cw_188 : (tb_tab 8)[38]? = some (mi_cw tb_P 188) := rfl
set_option maxRecDepth 100000 in
theorem tb_cw_189 : (tb_tab 8)[42]? = some (mi_cw tb_P 189) := rfl
set_option maxRecDepth 100000 in
theorem tb_cw_190 : (tb_tab 8)[46]? = some (mi_cw tb_P 190) := rfl
set_option maxRecDepth 100000 in
theorem tb_cw_191 : (tb_tab 8)[50]? = some (mi_cw tb_P 191) := rfl
set_option maxRecDepth 100000 in
theorem tb_cw_192 : (tb_tab 8)[54]? = some (mi_cw tb_P 192) := rfl
set_option maxRecDepth 100000 in
theorem tb_cw_193 : (tb_tab 8)[59]? = some (mi_cw tb_P 193) := rfl
set_option maxRecDepth 100000 in
theorem tb_cw_194 : (tb_tab 8)[63]? = some (mi_cw tb_P 194) := rfl
set_option maxRecDepth 100000 in
theorem tb_cw_195 : (tb_tab 8)[68]? = some (mi_cw tb_P 195) := rfl
set_option maxRecDepth 100000 in
theorem tb_cw_196 : (tb_tab 8)[72]? = some (mi_cw tb_P 196) := rfl
set_option maxRecDepth 100000 in
theorem tb_cw_197 : (tb_tab 8)[76]? = some (mi_cw tb_P 197) := rfl
set_option maxRecDepth 100000 in
theorem tb_cw_198 : (tb_tab 8)[79]? = some (mi_cw tb_P 198) := rfl
set_option maxRecDepth 100000 in
theorem tb_cw_199 : (tb_tab 8)[83]? = some (mi_cw tb_P 199) := rfl
set_option maxRecDepth 100000 in
theorem tb_cw_200 : (tb_tab 8)[88]? = some (mi_cw tb_P 200) := rfl
set_option maxRecDepth 100000 in
theorem tb_cw_201 : (tb_tab 8)[92]? = some (mi_cw tb_P 201) := rfl
set_option maxRecDepth 100000 in
theorem tb_cw_202 : (tb_tab 8)[99]? = some (mi_cw tb_P 202) := rfl
set_option maxRecDepth 100000 in
theorem tb_cw_203 : (tb_tab 8)[103]? = some (mi_cw tb_P 203) := rfl
set_option maxRecDepth 100000 in
theorem tb_cw_204 : (tb_tab 8)[107]? = some (mi_cw tb_P 204) := rfl
set_option maxRecDepth 100000 in
theorem tb_cw_205 : (tb_tab 8)[111]? = some (mi_cw tb_P 205) := rfl
set_option maxRecDepth 100000 in
theorem tb_cw_206 : (tb_tab 8)[115]? = some (mi_cw tb_P 206) := rfl
set_option maxRecDepth 100000 in
theorem tb_cw_207 : (tb_tab 8)[120]? = some (mi_cw tb_P 207) := rfl
set_option maxRecDepth 100000 in
theorem tb_cw_208 : (tb_tab 3)[164]? = some (mi_cw tb_P 208) := rfl
set_option maxRecDepth 100000 in
theorem tb_cw_209 : (tb_tab 4)[6]? = some (mi_cw tb_P 209) := rfl
set_option maxRecDepth 100000 in
theorem tb_cw_210 : (tb_tab 4)[30]? = some (mi_cw tb_P 210) := rfl
set_option maxRecDepth 100000 in
theorem tb_cw_211 : (tb_tab 4)[79]? = some (mi_cw tb_P 211) := rfl
set_option maxRecDepth 100000 in
theorem tb_cw_212 : (tb_tab 4)[93]? = some (mi_cw tb_P 212) := rfl
set_option maxRecDepth 100000 in
theorem tb_cw_213 : (tb_tab 5)[68]? = some (mi_cw tb_P 213) := rfl
set_option maxRecDepth 100000 in
theorem tb_cw_214 : (tb_tab 5)[87]? = some (mi_cw tb_P 214) := rfl
set_option maxRecDepth 100000 in
theorem tb_cw_215 : (tb_tab 5)[96]? = some (mi_cw tb_P 215) := rfl
set_option maxRecDepth 100000 in
theorem tb_cw_216 : (tb_tab 5)[233]? = some (mi_cw tb_P 216) := rfl
set_option maxRecDepth 100000 in
theorem tb_cw_217 : (tb_tab 6)[1]? = some (mi_cw tb_P 217) := rfl
set_option maxRecDepth 100000 in
theorem tb_cw_218 : (tb_tab 6)[8]? = some (mi_cw tb_P 218) := rfl
set_option maxRecDepth 100000 in
theorem tb_cw_219 : (tb_tab 6)[16]? = some (mi_cw tb_P 219) := rfl
set_option maxRecDepth 100000 in
theorem tb_cw_220 : (tb_tab 6)[36]? = some (mi_cw tb_P 220) := rfl
theorem tb_cw : ∀ q ∈ tb_cal, mi_cw tb_P q.1 ∈ tb_GT := by
  have key : ∀ (s i : Nat) (w : Cond), (tb_tab s)[i]? = some w → mi_wk w = true → w ∈ tb_GT := fun s i w h k => List.mem_filter.mpr ⟨tb_tab_in s w (List.mem_of_getElem? h), k⟩
  intro q h
  unfold tb_cal at h
  simp only [List.mem_append] at h
  rcases h with ((((((h | h) | h) | h) | h) | h) | h) | h
  · simp only [tb_cal_0, List.mem_cons, List.not_mem_nil, or_false] at h
    rcases h with rfl | rfl | rfl | rfl | rfl | rfl | rfl | rfl | rfl | rfl | rfl | rfl | rfl | rfl | rfl | rfl | rfl | rfl | rfl | rfl | rfl | rfl | rfl | rfl | rfl | rfl | rfl | rfl | rfl | rfl
    · exact key _ _ _ tb_cw_1 rfl
    · exact key _ _ _ tb_cw_2 rfl
    · exact key _ _ _ tb_cw_3 rfl
    · exact key _ _ _ tb_cw_4 rfl
    · exact key _ _ _ tb_cw_5 rfl
    · exact key _ _ _ tb_cw_6 rfl
    · exact key _ _ _ tb_cw_7 rfl
    · exact key _ _ _ tb_cw_8 rfl
    · exact key _ _ _ tb_cw_9 rfl
    · exact key _ _ _ tb_cw_10 rfl
    · exact key _ _ _ tb_cw_11 rfl
    · exact key _ _ _ tb_cw_12 rfl
    · exact key _ _ _ tb_cw_13 rfl
    · exact key _ _ _ tb_cw_14 rfl
    · exact key _ _ _ tb_cw_15 rfl
    · exact key _ _ _ tb_cw_16 rfl
    · exact key _ _ _ tb_cw_17 rfl
    · exact key _ _ _ tb_cw_18 rfl
    · exact key _ _ _ tb_cw_19 rfl
    · exact key _ _ _ tb_cw_20 rfl
    · exact key _ _ _ tb_cw_21 rfl
    · exact key _ _ _ tb_cw_22 rfl
    · exact key _ _ _ tb_cw_23 rfl
    · exact key _ _ _ tb_cw_24 rfl
    · exact key _ _ _ tb_cw_25 rfl
    · exact key _ _ _ tb_cw_26 rfl
    · exact key _ _ _ tb_cw_27 rfl
    · exact key _ _ _ tb_cw_28 rfl
    · exact key _ _ _ tb_cw_29 rfl
    · exact key _ _ _ tb_cw_30 rfl
  · simp only [tb_cal_1, List.mem_cons, List.not_mem_nil, or_false] at h
    rcases h with rfl | rfl | rfl | rfl | rfl | rfl | rfl | rfl | rfl | rfl | rfl | rfl | rfl | rfl | rfl | rfl | rfl | rfl | rfl | rfl | rfl | rfl | rfl | rfl | rfl | rfl | rfl | rfl | rfl | rfl
    · exact key _ _ _ tb_cw_31 rfl
    · exact key _ _ _ tb_cw_32 rfl
    · exact key _ _ _ tb_cw_33 rfl
    · exact key _ _ _ tb_cw_34 rfl
    · exact key _ _ _ tb_cw_35 rfl
    · exact key _ _ _ tb_cw_36 rfl
    · exact key _ _ _ tb_cw_37 rfl
    · exact key _ _ _ tb_cw_38 rfl
    · exact key _ _ _ tb_cw_39 rfl
    · exact key _ _ _ tb_cw_40 rfl
    · exact key _ _ _ tb_cw_41 rfl
    · exact key _ _ _ tb_cw_42 rfl
    · exact key _ _ _ tb_cw_43 rfl
    · exact key _ _ _ tb_cw_44 rfl
    · exact key _ _ _ tb_cw_45 rfl
    · exact key _ _ _ tb_cw_46 rfl
    · exact key _ _ _ tb_cw_47 rfl
    · exact key _ _ _ tb_cw_48 rfl
    · exact key _ _ _ tb_cw_49 rfl
    · exact key _ _ _ tb_cw_50 rfl
    · exact key _ _ _ tb_cw_51 rfl
    · exact key _ _ _ tb_cw_52 rfl
    · exact key _ _ _ tb_cw_53 rfl
    · exact key _ _ _ tb_cw_54 rfl
    · exact key _ _ _ tb_cw_55 rfl
    · exact key _ _ _ tb_cw_56 rfl
    · exact key _ _ _ tb_cw_57 rfl
    · exact key _ _ _ tb_cw_58 rfl
    · exact key _ _ _ tb_cw_59 rfl
    · exact key _ _ _ tb_cw_60 rfl
  · simp only [tb_cal_2, List.mem_cons, List.not_mem_nil, or_false] at h
    rcases h with rfl | rfl | rfl | rfl | rfl | rfl | rfl | rfl | rfl | rfl | rfl | rfl | rfl | rfl | rfl | rfl | rfl | rfl | rfl | rfl | rfl | rfl | rfl | rfl | rfl | rfl | rfl | rfl | rfl | rfl
    · exact key _ _ _ tb_cw_61 rfl
    · exact key _ _ _ tb_cw_62 rfl
    · exact key _ _ _ tb_cw_63 rfl
    · exact key _ _ _ tb_cw_64 rfl
    · exact key _ _ _ tb_cw_65 rfl
    · exact key _ _ _ tb_cw_66 rfl
    · exact key _ _ _ tb_cw_67 rfl
    · exact key _ _ _ tb_cw_68 rfl
    · exact key _ _ _ tb_cw_69 rfl
    · exact key _ _ _ tb_cw_70 rfl
    · exact key _ _ _ tb_cw_71 rfl
    · exact key _ _ _ tb_cw_72 rfl
    · exact key _ _ _ tb_cw_73 rfl
    · exact key _ _ _ tb_cw_74 rfl
    · exact key _ _ _ tb_cw_75 rfl
    · exact key _ _ _ tb_cw_76 rfl
    · exact key _ _ _ tb_cw_77 rfl
    · exact key _ _ _ tb_cw_78 rfl
    · exact key _ _ _ tb_cw_79 rfl
    · exact key _ _ _ tb_cw_80 rfl
    · exact key _ _ _ tb_cw_81 rfl
    · exact key _ _ _ tb_cw_82 rfl
    · exact key _ _ _ tb_cw_83 rfl
    · exact key _ _ _ tb_cw_84 rfl
    · exact key _ _ _ tb_cw_85 rfl
    · exact key _ _ _ tb_cw_86 rfl
    · exact key _ _ _ tb_cw_87 rfl
    · exact key _ _ _ tb_cw_88 rfl
    · exact key _ _ _ tb_cw_89 rfl
    · exact key _ _ _ tb_cw_90 rfl
  · simp only [tb_cal_3, List.mem_cons, List.not_mem_nil, or_false] at h
    rcases h with rfl | rfl | rfl | rfl | rfl | rfl | rfl | rfl | rfl | rfl | rfl | rfl | rfl | rfl | rfl | rfl | rfl | rfl | rfl | rfl | rfl | rfl | rfl | rfl | rfl | rfl | rfl | rfl | rfl | rfl
    · exact key _ _ _ tb_cw_91 rfl
    · exact key _ _ _ tb_cw_92 rfl
    · exact key _ _ _ tb_cw_93 rfl
    · exact key _ _ _ tb_cw_94 rfl
    · exact key _ _ _ tb_cw_95 rfl
    · exact key _ _ _ tb_cw_96 rfl
    · exact key _ _ _ tb_cw_97 rfl
    · exact key _ _ _ tb_cw_98 rfl
    · exact key _ _ _ tb_cw_99 rfl
    · exact key _ _ _ tb_cw_100 rfl
    · exact key _ _ _ tb_cw_101 rfl
    · exact key _ _ _ tb_cw_102 rfl
    · exact key _ _ _ tb_cw_103 rfl
    · exact key _ _ _ tb_cw_104 rfl
    · exact key _ _ _ tb_cw_105 rfl
    · exact key _ _ _ tb_cw_106 rfl
    · exact key _ _ _ tb_cw_107 rfl
    · exact key _ _ _ tb_cw_108 rfl
    · exact key _ _ _ tb_cw_109 rfl
    · exact key _ _ _ tb_cw_110 rfl
    · exact key _ _ _ tb_cw_111 rfl
    · exact key _ _ _ tb_cw_112 rfl
    · exact key _ _ _ tb_cw_113 rfl
    · exact key _ _ _ tb_cw_114 rfl
    · exact key _ _ _ tb_cw_115 rfl
    · exact key _ _ _ tb_cw_116 rfl
    · exact key _ _ _ tb_cw_117 rfl
    · exact key _ _ _ tb_cw_118 rfl
    · exact key _ _ _ tb_cw_119 rfl
    · exact key _ _ _ tb_cw_120 rfl
  · simp only [tb_cal_4, List.mem_cons, List.not_mem_nil, or_false] at h
    rcases h with rfl | rfl | rfl | rfl | rfl | rfl | rfl | rfl | rfl | rfl | rfl | rfl | rfl | rfl | rfl | rfl | rfl | rfl | rfl | rfl | rfl | rfl | rfl | rfl | rfl | rfl | rfl | rfl | rfl | rfl
    · exact key _ _ _ tb_cw_121 rfl
    · exact key _ _ _ tb_cw_122 rfl
    · exact key _ _ _ tb_cw_123 rfl
    · exact key _ _ _ tb_cw_124 rfl
    · exact key _ _ _ tb_cw_125 rfl
    · exact key _ _ _ tb_cw_126 rfl
    · exact key _ _ _ tb_cw_127 rfl
    · exact key _ _ _ tb_cw_128 rfl
    · exact key _ _ _ tb_cw_129 rfl
    · exact key _ _ _ tb_cw_130 rfl
    · exact key _ _ _ tb_cw_131 rfl
    · exact key _ _ _ tb_cw_132 rfl
    · exact key _ _ _ tb_cw_133 rfl
    · exact key _ _ _ tb_cw_134 rfl
    · exact key _ _ _ tb_cw_135 rfl
    · exact key _ _ _ tb_cw_136 rfl
    · exact key _ _ _ tb_cw_137 rfl
    · exact key _ _ _ tb_cw_138 rfl
    · exact key _ _ _ tb_cw_139 rfl
    · exact key _ _ _ tb_cw_140 rfl
    · exact key _ _ _ tb_cw_141 rfl
    · exact key _ _ _ tb_cw_142 rfl
    · exact key _ _ _ tb_cw_143 rfl
    · exact key _ _ _ tb_cw_144 rfl
    · exact key _ _ _ tb_cw_145 rfl
    · exact key _ _ _ tb_cw_146 rfl
    · exact key _ _ _ tb_cw_147 rfl
    · exact key _ _ _ tb_cw_148 rfl
    · exact key _ _ _ tb_cw_149 rfl
    · exact key _ _ _ tb_cw_150 rfl
  · simp only [tb_cal_5, List.mem_cons, List.not_mem_nil, or_false] at h
    rcases h with rfl | rfl | rfl | rfl | rfl | rfl | rfl | rfl | rfl | rfl | rfl | rfl | rfl | rfl | rfl | rfl | rfl | rfl | rfl | rfl | rfl | rfl | rfl | rfl | rfl | rfl | rfl | rfl | rfl | rfl
    · exact key _ _ _ tb_cw_151 rfl
    · exact key _ _ _ tb_cw_152 rfl
    · exact key _ _ _ tb_cw_153 rfl
    · exact key _ _ _ tb_cw_154 rfl
    · exact key _ _ _ tb_cw_155 rfl
    · exact key _ _ _ tb_cw_156 rfl
    · exact key _ _ _ tb_cw_157 rfl
    · exact key _ _ _ tb_cw_158 rfl
    · exact key _ _ _ tb_cw_159 rfl
    · exact key _ _ _ tb_cw_160 rfl
    · exact key _ _ _ tb_cw_161 rfl
    · exact key _ _ _ tb_cw_162 rfl
    · exact key _ _ _ tb_cw_163 rfl
    · exact key _ _ _ tb_cw_164 rfl
    · exact key _ _ _ tb_cw_165 rfl
    · exact key _ _ _ tb_cw_166 rfl
    · exact key _ _ _ tb_cw_167 rfl
    · exact key _ _ _ tb_cw_168 rfl
    · exact key _ _ _ tb_cw_169 rfl
    · exact key _ _ _ tb_cw_170 rfl
    · exact key _ _ _ tb_cw_171 rfl
    · exact key _ _ _ tb_cw_172 rfl
    · exact key _ _ _ tb_cw_173 rfl
    · exact key _ _ _ tb_cw_174 rfl
    · exact key _ _ _ tb_cw_175 rfl
    · exact key _ _ _ tb_cw_176 rfl
    · exact key _ _ _ tb_cw_177 rfl
    · exact key _ _ _ tb_cw_178 rfl
    · exact key _ _ _ tb_cw_179 rfl
    · exact key _ _ _ tb_cw_180 rfl
  · simp only [tb_cal_6, List.mem_cons, List.not_mem_nil, or_false] at h
    rcases h with rfl | rfl | rfl | rfl | rfl | rfl | rfl | rfl | rfl | rfl | rfl | rfl | rfl | rfl | rfl | rfl | rfl | rfl | rfl | rfl | rfl | rfl | rfl | rfl | rfl | rfl | rfl | rfl | rfl | rfl
    · exact key _ _ _ tb_cw_181 rfl
    · exact key _ _ _ tb_cw_182 rfl
    · exact key _ _ _ tb_cw_183 rfl
    · exact key _ _ _ tb_cw_184 rfl
    · exact key _ _ _ tb_cw_185 rfl
    · exact key _ _ _ tb_cw_186 rfl
    · exact key _ _ _ tb_cw_187 rfl
    · exact key _ _ _ tb_cw_188 rfl
    · exact key _ _ _ tb_cw_189 rfl
    · exact key _ _ _ tb_cw_190 rfl
    · exact key _ _ _ tb_cw_191 rfl
    · exact key _ _ _ tb_cw_192 rfl
    · exact key _ _ _ tb_cw_193 rfl
    · exact key _ _ _ tb_cw_194 rfl
    · exact key _ _ _ tb_cw_195 rfl
    · exact key _ _ _ tb_cw_196 rfl
    · exact key _ _ _ tb_cw_197 rfl
    · exact key _ _ _ tb_cw_198 rfl
    · exact key _ _ _ tb_cw_199 rfl
    · exact key _ _ _ tb_cw_200 rfl
    · exact key _ _ _ tb_cw_201 rfl
    · exact key _ _ _ tb_cw_202 rfl
    · exact key _ _ _ tb_cw_203 rfl
    · exact key _ _ _ tb_cw_204 rfl
    · exact key _ _ _ tb_cw_205 rfl
    · exact key _ _ _ tb_cw_206 rfl
    · exact key _ _ _ tb_cw_207 rfl
    · exact key _ _ _ tb_cw_208 rfl
    · exact key _ _ _ tb_cw_209 rfl
    · exact key _ _ _ tb_cw_210 rfl
  · simp only [tb_cal_7, List.mem_cons, List.not_mem_nil, or_false] at h
    rcases h with rfl | rfl | rfl | rfl | rfl | rfl | rfl | rfl | rfl | rfl
    · exact key _ _ _ tb_cw_211 rfl
    · exact key _ _ _ tb_cw_212 rfl
    · exact key _ _ _ tb_cw_213 rfl
    · exact key _ _ _ tb_cw_214 rfl
    · exact key _ _ _ tb_cw_215 rfl
    · exact key _ _ _ tb_cw_216 rfl
    · exact key _ _ _ tb_cw_217 rfl
    · exact key _ _ _ tb_cw_218 rfl
    · exact key _ _ _ tb_cw_219 rfl
    · exact key _ _ _ tb_cw_220 rfl
def tb_host : String := "Specialiser"
def tb_obh : (Nat × Nat) × (Nat × Nat) := ((1, 32), (1, 33))
def tb_ichk (c : Nat) (q : Nat × Nat × Nat × Nat) (x : Nat × Nat) : Bool :=
  if q.2.2.1 = 6 then true else if q.2.2.1 = 3 then tb_w x (.methodLink (tb_own.getD c "") q.1 Lib.objectInit) && (tb_w tb_obh.1 (.instanceMethod Lib.objectInit) && tb_w tb_obh.2 (.code Lib.objectInit ⟨#[0xb1]⟩ 1 none))
  else tb_cal.contains (q.2.1, q.2.2.1) && (decide ((parseMethodDescriptor (mi_nm tb_P q.2.1).desc).map (fun d => d.parameters.length) = some q.2.2.2) &&
    (if q.2.2.1 = 4 then tb_w x (.methodLinkNest (tb_own.getD c "") q.1 (mi_nm tb_P q.2.1) tb_host) else tb_w x (.methodLink (tb_own.getD c "") q.1 (mi_nm tb_P q.2.1))))
def tb_ih : Nat → List (Nat × Nat) := fun c => match c with
  | 0 => [(1, 88), (1, 91), (1, 120), (2, 226), (3, 45), (3, 139), (4, 105), (4, 61), (4, 65), (4, 73)]
  | 1 => [(1, 58), (3, 14)]
  | 2 => [(2, 25), (2, 26), (2, 27), (2, 32), (4, 121), (4, 126), (4, 130), (4, 149), (4, 150), (5, 43), (4, 134), (4, 135), (4, 139), (4, 140), (4, 144), (4, 148), (4, 170), (4, 171), (4, 172), (4, 173), (4, 174), (4, 187), (4, 191), (5, 37), (4, 178), (4, 182), (5, 41), (5, 42), (4, 186), (4, 195), (4, 196), (4, 200), (4, 201), (5, 5), (5, 9), (5, 13), (5, 17), (5, 28), (5, 35), (5, 36)]
  | 3 => [(2, 73), (2, 75), (2, 76), (2, 77), (5, 106), (5, 107), (5, 116), (5, 112), (5, 111), (5, 117), (5, 124), (5, 177), (5, 178), (5, 182), (5, 183), (5, 184), (5, 190), (5, 195), (5, 203), (5, 210), (5, 215), (5, 194), (5, 201), (5, 214), (5, 219)]
  | 4 => [(1, 139), (1, 140), (1, 145), (1, 147), (3, 148), (2, 222), (2, 230), (2, 234), (3, 111), (3, 19), (3, 27), (3, 2), (3, 23), (2, 238), (3, 10), (3, 15), (3, 31), (3, 32), (3, 41), (3, 46), (3, 107), (3, 36), (3, 40), (3, 50), (3, 54), (3, 68), (3, 72), (3, 58), (3, 63), (3, 76), (3, 101), (3, 80), (3, 84), (3, 88), (3, 92), (3, 96), (3, 100), (3, 115), (3, 119), (3, 123), (3, 127), (3, 131), (3, 135), (3, 140)]
  | 5 => [(1, 39)]
  | 6 => [(1, 216), (1, 218), (1, 219), (4, 205), (4, 206), (4, 207), (4, 208), (4, 214), (4, 215), (4, 216), (4, 220), (4, 224), (4, 229), (4, 233), (4, 238), (4, 212), (4, 228), (5, 2), (4, 237)]
  | 7 => [(1, 50), (1, 52), (1, 55), (2, 180), (3, 6), (2, 172), (2, 176), (2, 215), (2, 184), (2, 187), (2, 190), (2, 203), (2, 212), (2, 195), (2, 207)]
  | 8 => [(1, 94), (1, 96), (3, 62), (3, 67), (3, 105), (3, 106), (5, 32), (5, 33), (5, 34)]
  | 9 => [(1, 193), (1, 195), (1, 197), (3, 156), (4, 110), (4, 111), (4, 112), (4, 113), (4, 116), (5, 21), (5, 22), (5, 23), (5, 24), (4, 125), (5, 81), (5, 82), (5, 83), (5, 53)]
  | 10 => [(1, 31), (1, 36), (1, 47), (1, 85), (1, 136), (1, 190), (1, 213), (2, 22), (2, 70), (3, 239), (4, 3), (2, 168), (2, 218), (3, 144), (3, 152), (3, 157), (4, 36), (4, 56), (4, 57), (4, 69), (4, 85), (4, 101), (4, 106), (4, 117), (5, 44), (5, 48), (5, 49), (5, 54), (5, 58), (5, 62), (5, 73), (5, 75), (5, 76), (5, 77), (5, 84), (5, 93), (5, 102), (6, 24), (6, 25), (6, 26), (6, 30)]
  | 11 => [(6, 46), (7, 119), (7, 133), (7, 147), (7, 130), (7, 136), (7, 150), (7, 144), (7, 126), (7, 158), (7, 174), (7, 162), (7, 178), (7, 190), (7, 206), (7, 182), (7, 186), (7, 194), (7, 202), (7, 198), (7, 166), (7, 170), (7, 214), (7, 154), (7, 210), (7, 226), (8, 47), (8, 32), (8, 28), (8, 12), (8, 16), (8, 35), (8, 20), (8, 24), (8, 39), (8, 43), (8, 4), (7, 236), (8, 8), (8, 56), (8, 69), (8, 73), (8, 77), (8, 80), (8, 89), (8, 96), (8, 85)]
  | 12 => [(3, 166), (4, 8), (4, 32), (4, 80), (4, 95), (5, 69), (5, 88), (5, 97), (5, 234), (6, 2), (6, 9), (6, 17), (6, 37), (1, 28), (6, 43), (3, 162), (7, 111), (7, 107), (4, 4), (7, 115), (2, 164), (7, 122), (3, 158), (7, 218), (4, 28), (7, 222), (4, 77), (7, 231), (4, 91), (8, 0), (5, 66), (8, 51), (5, 85), (8, 60), (5, 94), (8, 65), (5, 231), (8, 100), (5, 239), (8, 104), (6, 6), (8, 108), (6, 14), (8, 112), (6, 34), (8, 117)]
  | _ => []
set_option maxRecDepth 100000 in
theorem tb_i_ok_0 : tb_zc (tb_i 0) (tb_ih 0) (tb_ichk 0) = true := by decide +kernel
set_option maxRecDepth 100000 in
theorem tb_i_ok_1 : tb_zc (tb_i 1) (tb_ih 1) (tb_ichk 1) = true := by decide +kernel
set_option maxRecDepth 100000 in
theorem tb_i_ok_2 : tb_zc (tb_i 2) (tb_ih 2) (tb_ichk 2) = true := by decide +kernel
set_option maxRecDepth 100000 in
theorem tb_i_ok_3 : tb_zc (tb_i 3) (tb_ih 3) (tb_ichk 3) = true := by decide +kernel
set_option maxRecDepth 100000 in
theorem tb_i_ok_4 : tb_zc (tb_i 4) (tb_ih 4) (tb_ichk 4) = true := by decide +kernel
set_option maxRecDepth 100000 in
theorem tb_i_ok_5 : tb_zc (tb_i 5) (tb_ih 5) (tb_ichk 5) = true := by decide +kernel
set_option maxRecDepth 100000 in
theorem tb_i_ok_6 : tb_zc (tb_i 6) (tb_ih 6) (tb_ichk 6) = true := by decide +kernel
set_option maxRecDepth 100000 in
theorem tb_i_ok_7 : tb_zc (tb_i 7) (tb_ih 7) (tb_ichk 7) = true := by decide +kernel
set_option maxRecDepth 100000 in
theorem tb_i_ok_8 : tb_zc (tb_i 8) (tb_ih 8) (tb_ichk 8) = true := by decide +kernel
set_option maxRecDepth 100000 in
theorem tb_i_ok_9 : tb_zc (tb_i 9) (tb_ih 9) (tb_ichk 9) = true := by decide +kernel
set_option maxRecDepth 100000 in
theorem tb_i_ok_10 : tb_zc (tb_i 10) (tb_ih 10) (tb_ichk 10) = true := by decide +kernel
set_option maxRecDepth 100000 in
theorem tb_i_ok_11 : tb_zc (tb_i 11) (tb_ih 11) (tb_ichk 11) = true := by decide +kernel
set_option maxRecDepth 100000 in
theorem tb_i_ok_12 : tb_zc (tb_i 12) (tb_ih 12) (tb_ichk 12) = true := by decide +kernel
theorem tb_i_ok : ∀ c : Nat, tb_zc (tb_i c) (tb_ih c) (tb_ichk c) = true := by
  intro c
  match c with
  | 0 => exact tb_i_ok_0
  | 1 => exact tb_i_ok_1
  | 2 => exact tb_i_ok_2
  | 3 => exact tb_i_ok_3
  | 4 => exact tb_i_ok_4
  | 5 => exact tb_i_ok_5
  | 6 => exact tb_i_ok_6
  | 7 => exact tb_i_ok_7
  | 8 => exact tb_i_ok_8
  | 9 => exact tb_i_ok_9
  | 10 => exact tb_i_ok_10
  | 11 => exact tb_i_ok_11
  | 12 => exact tb_i_ok_12
  | 13 => exact rfl
  | 14 => exact rfl
  | c + 15 => rfl
end
section
/-! Throws, catches, classes, names; all of it together. -/
def tb_nms : List String := ["java/lang/RuntimeException", "java/lang/Exception"]
def tb_SK : List (String × Nat × String × Nat) := [("Specialiser", 119, "no room", 0), ("Specialiser", 132, "not so many bytes", 1), ("Specialiser", 157, "no such function or what", 2), ("Specialiser", 170, "no such parameter", 3), ("Specialiser", 177, "no program", 4), ("Specialiser", 179, "no such function", 5), ("Specialiser", 211, "no such version or what", 6), ("Specialiser", 226, "no such what", 7), ("Specialiser", 231, "no versions", 8), ("Specialiser", 239, "too long", 9), ("Specialiser", 242, "no such byte", 10), ("Specialiser", 244, "four are given", 11), ("Specialiser", 246, "nothing to run", 12), ("Specialiser", 248, "no such function or version", 13), ("Specialiser", 250, "steps or numbers given", 14), ("Specialiser$Maker", 111, "too many expressions", 15), ("Specialiser$Printer", 85, "", 16), ("Specialiser$Printer", 87, ", ", 17), ("Specialiser$Printer", 93, ") = ", 18), ("Specialiser$Printer", 101, ";\n", 19), ("Specialiser$Printer", 130, "(-2147483647 - 1)", 20), ("Specialiser$Printer", 135, "(let x", 21), ("Specialiser$Printer", 137, " = ", 22), ("Specialiser$Printer", 143, " in ", 23), ("Specialiser$Printer", 145, "(if ", 24), ("Specialiser$Printer", 147, " then ", 25), ("Specialiser$Printer", 149, " else ", 26), ("Specialiser$Printer", 158, " + ", 27), ("Specialiser$Printer", 160, " - ", 28), ("Specialiser$Printer", 162, " * ", 29), ("Specialiser$Printer", 164, " < ", 30), ("Specialiser$Printer", 166, " == ", 31)]
def tb_NC : List (String × String) := [("java/lang/IllegalArgumentException", "java/lang/IllegalStateException"), ("java/lang/IllegalArgumentException", "java/lang/IndexOutOfBoundsException"), ("java/lang/IllegalArgumentException", "java/lang/UnsupportedOperationException"), ("java/lang/IllegalStateException", "java/lang/IllegalArgumentException"), ("java/lang/IllegalStateException", "java/lang/IndexOutOfBoundsException"), ("java/lang/IllegalStateException", "java/lang/UnsupportedOperationException"), ("java/lang/IndexOutOfBoundsException", "java/lang/IllegalArgumentException"), ("java/lang/IndexOutOfBoundsException", "java/lang/IllegalStateException"), ("java/lang/IndexOutOfBoundsException", "java/lang/UnsupportedOperationException"), ("java/lang/UnsupportedOperationException", "java/lang/IllegalArgumentException"), ("java/lang/UnsupportedOperationException", "java/lang/IllegalStateException"), ("java/lang/UnsupportedOperationException", "java/lang/IndexOutOfBoundsException")]
theorem tb_tok_mk {j pc : Nat} {E own text : String} {ik is ic tt : Nat} (hown : (mi_nm tb_P j).cls = own) (h1 : (own, is, text, tt) ∈ tb_SK) (h2 : Bundle.fit E = true) (h3 : Cond.classLink own ik E ∈ tb_GT) (h4 : Cond.initialized E ∈ tb_GT) (h5 : (vx_atS own ic E tb_nms).all (fun w => decide (w ∈ lw_tbl) && (mi_wk w && vx_ot w)) = true) (h6 : (mi_hh tb_P j).isEmpty = true)
    (d0 : decode (mi_cd tb_P j) pc = .ok (.new ik, 3)) (d3 : decode (mi_cd tb_P j) (pc + 3) = .ok (.dup, 1)) (d4 : decode (mi_cd tb_P j) (pc + 4) = .ok (.ldc is, 2)) (d6 : decode (mi_cd tb_P j) (pc + 6) = .ok (.invokespecial ic, 3)) (d9 : decode (mi_cd tb_P j) (pc + 9) = .ok (.athrow, 1)) : mi_tok tb_GT tb_P tb_SK j pc E := by
  have h5 := List.all_eq_true.mp h5
  refine ⟨text, tb_nms, ik, is, ic, tt, by rw [hown]; exact h1, h2, by decide +kernel, by decide, by rw [hown]; exact h3, h4, ?_, ?_, h6, d0, d3, d4, d6, d9⟩
  · intro w hw
    rw [hown] at hw
    have h := h5 w hw
    rw [Bool.and_eq_true, Bool.and_eq_true] at h
    exact List.mem_filter.mpr ⟨of_decide_eq_true h.1, h.2.1⟩
  · intro w hw
    rw [hown] at hw
    rcases List.mem_cons.mp hw with e | hw
    · rw [e]; rfl
    · rcases List.mem_cons.mp hw with e | hw
      · rw [e]; rfl
      · have h := h5 w hw
        rw [Bool.and_eq_true, Bool.and_eq_true] at h
        exact h.2.2
set_option maxRecDepth 100000 in
theorem tb_at_0 : (vx_atS "Specialiser" 121 "java/lang/IllegalStateException" tb_nms).all (fun w => decide (w ∈ lw_tbl) && (mi_wk w && vx_ot w)) = true := by decide +kernel
set_option maxRecDepth 100000 in
theorem tb_at_1 : (vx_atS "Specialiser" 134 "java/lang/IllegalArgumentException" tb_nms).all (fun w => decide (w ∈ lw_tbl) && (mi_wk w && vx_ot w)) = true := by decide +kernel
set_option maxRecDepth 100000 in
theorem tb_at_2 : (vx_atS "Specialiser" 159 "java/lang/IndexOutOfBoundsException" tb_nms).all (fun w => decide (w ∈ lw_tbl) && (mi_wk w && vx_ot w)) = true := by decide +kernel
set_option maxRecDepth 100000 in
theorem tb_at_3 : (vx_atS "Specialiser" 241 "java/lang/UnsupportedOperationException" tb_nms).all (fun w => decide (w ∈ lw_tbl) && (mi_wk w && vx_ot w)) = true := by decide +kernel
set_option maxRecDepth 100000 in
theorem tb_at_4 : (vx_atS "Specialiser$Maker" 113 "java/lang/UnsupportedOperationException" tb_nms).all (fun w => decide (w ∈ lw_tbl) && (mi_wk w && vx_ot w)) = true := by decide +kernel
set_option maxRecDepth 100000 in
theorem tb_tok_0 : mi_tok tb_GT tb_P tb_SK 70 13 "java/lang/IllegalStateException" := tb_tok_mk (own := "Specialiser") (text := "no room") (ik := 117) (is := 119) (ic := 121) (tt := 0) rfl (by decide +kernel) (by decide +kernel) (tb_w_ok (x := (3, 170)) (by decide +kernel)) (tb_w_ok (x := (1, 16)) (by decide +kernel)) tb_at_0 rfl (by decide +kernel) (by decide +kernel) (by decide +kernel) (by decide +kernel) (by decide +kernel)
set_option maxRecDepth 100000 in
theorem tb_tok_1 : mi_tok tb_GT tb_P tb_SK 72 12 "java/lang/IllegalArgumentException" := tb_tok_mk (own := "Specialiser") (text := "not so many bytes") (ik := 130) (is := 132) (ic := 134) (tt := 1) rfl (by decide +kernel) (by decide +kernel) (tb_w_ok (x := (4, 12)) (by decide +kernel)) (tb_w_ok (x := (1, 17)) (by decide +kernel)) tb_at_1 rfl (by decide +kernel) (by decide +kernel) (by decide +kernel) (by decide +kernel) (by decide +kernel)
set_option maxRecDepth 100000 in
theorem tb_tok_2 : mi_tok tb_GT tb_P tb_SK 73 20 "java/lang/IndexOutOfBoundsException" := tb_tok_mk (own := "Specialiser") (text := "no such function or what") (ik := 155) (is := 157) (ic := 159) (tt := 2) rfl (by decide +kernel) (by decide +kernel) (tb_w_ok (x := (4, 40)) (by decide +kernel)) (tb_w_ok (x := (1, 19)) (by decide +kernel)) tb_at_2 rfl (by decide +kernel) (by decide +kernel) (by decide +kernel) (by decide +kernel) (by decide +kernel)
set_option maxRecDepth 100000 in
theorem tb_tok_3 : mi_tok tb_GT tb_P tb_SK 80 9 "java/lang/IndexOutOfBoundsException" := tb_tok_mk (own := "Specialiser") (text := "no such parameter") (ik := 155) (is := 170) (ic := 159) (tt := 3) rfl (by decide +kernel) (by decide +kernel) (tb_w_ok (x := (4, 40)) (by decide +kernel)) (tb_w_ok (x := (1, 19)) (by decide +kernel)) tb_at_2 rfl (by decide +kernel) (by decide +kernel) (by decide +kernel) (by decide +kernel) (by decide +kernel)
set_option maxRecDepth 100000 in
theorem tb_tok_4 : mi_tok tb_GT tb_P tb_SK 82 10 "java/lang/IllegalStateException" := tb_tok_mk (own := "Specialiser") (text := "no program") (ik := 117) (is := 177) (ic := 121) (tt := 4) rfl (by decide +kernel) (by decide +kernel) (tb_w_ok (x := (3, 170)) (by decide +kernel)) (tb_w_ok (x := (1, 16)) (by decide +kernel)) tb_at_0 rfl (by decide +kernel) (by decide +kernel) (by decide +kernel) (by decide +kernel) (by decide +kernel)
set_option maxRecDepth 100000 in
theorem tb_tok_5 : mi_tok tb_GT tb_P tb_SK 82 31 "java/lang/IndexOutOfBoundsException" := tb_tok_mk (own := "Specialiser") (text := "no such function") (ik := 155) (is := 179) (ic := 159) (tt := 5) rfl (by decide +kernel) (by decide +kernel) (tb_w_ok (x := (4, 40)) (by decide +kernel)) (tb_w_ok (x := (1, 19)) (by decide +kernel)) tb_at_2 rfl (by decide +kernel) (by decide +kernel) (by decide +kernel) (by decide +kernel) (by decide +kernel)
set_option maxRecDepth 100000 in
theorem tb_tok_6 : mi_tok tb_GT tb_P tb_SK 93 16 "java/lang/UnsupportedOperationException" := tb_tok_mk (own := "Specialiser$Maker") (text := "too many expressions") (ik := 109) (is := 111) (ic := 113) (tt := 15) rfl (by decide +kernel) (by decide +kernel) (tb_w_ok (x := (4, 154)) (by decide +kernel)) (tb_w_ok (x := (1, 21)) (by decide +kernel)) tb_at_4 rfl (by decide +kernel) (by decide +kernel) (by decide +kernel) (by decide +kernel) (by decide +kernel)
set_option maxRecDepth 100000 in
theorem tb_tok_7 : mi_tok tb_GT tb_P tb_SK 121 24 "java/lang/IndexOutOfBoundsException" := tb_tok_mk (own := "Specialiser") (text := "no such version or what") (ik := 155) (is := 211) (ic := 159) (tt := 6) rfl (by decide +kernel) (by decide +kernel) (tb_w_ok (x := (4, 40)) (by decide +kernel)) (tb_w_ok (x := (1, 19)) (by decide +kernel)) tb_at_2 rfl (by decide +kernel) (by decide +kernel) (by decide +kernel) (by decide +kernel) (by decide +kernel)
set_option maxRecDepth 100000 in
theorem tb_tok_8 : mi_tok tb_GT tb_P tb_SK 123 10 "java/lang/IndexOutOfBoundsException" := tb_tok_mk (own := "Specialiser") (text := "no such what") (ik := 155) (is := 226) (ic := 159) (tt := 7) rfl (by decide +kernel) (by decide +kernel) (tb_w_ok (x := (4, 40)) (by decide +kernel)) (tb_w_ok (x := (1, 19)) (by decide +kernel)) tb_at_2 rfl (by decide +kernel) (by decide +kernel) (by decide +kernel) (by decide +kernel) (by decide +kernel)
set_option maxRecDepth 100000 in
theorem tb_tok_9 : mi_tok tb_GT tb_P tb_SK 124 10 "java/lang/IllegalStateException" := tb_tok_mk (own := "Specialiser") (text := "no versions") (ik := 117) (is := 231) (ic := 121) (tt := 8) rfl (by decide +kernel) (by decide +kernel) (tb_w_ok (x := (3, 170)) (by decide +kernel)) (tb_w_ok (x := (1, 16)) (by decide +kernel)) tb_at_0 rfl (by decide +kernel) (by decide +kernel) (by decide +kernel) (by decide +kernel) (by decide +kernel)
set_option maxRecDepth 100000 in
theorem tb_tok_10 : mi_tok tb_GT tb_P tb_SK 124 37 "java/lang/UnsupportedOperationException" := tb_tok_mk (own := "Specialiser") (text := "too long") (ik := 237) (is := 239) (ic := 241) (tt := 9) rfl (by decide +kernel) (by decide +kernel) (tb_w_ok (x := (5, 228)) (by decide +kernel)) (tb_w_ok (x := (1, 21)) (by decide +kernel)) tb_at_3 rfl (by decide +kernel) (by decide +kernel) (by decide +kernel) (by decide +kernel) (by decide +kernel)
set_option maxRecDepth 100000 in
theorem tb_tok_11 : mi_tok tb_GT tb_P tb_SK 138 12 "java/lang/IndexOutOfBoundsException" := tb_tok_mk (own := "Specialiser") (text := "no such byte") (ik := 155) (is := 242) (ic := 159) (tt := 10) rfl (by decide +kernel) (by decide +kernel) (tb_w_ok (x := (4, 40)) (by decide +kernel)) (tb_w_ok (x := (1, 19)) (by decide +kernel)) tb_at_2 rfl (by decide +kernel) (by decide +kernel) (by decide +kernel) (by decide +kernel) (by decide +kernel)
set_option maxRecDepth 100000 in
theorem tb_tok_12 : mi_tok tb_GT tb_P tb_SK 139 10 "java/lang/IllegalStateException" := tb_tok_mk (own := "Specialiser") (text := "too long") (ik := 117) (is := 239) (ic := 121) (tt := 9) rfl (by decide +kernel) (by decide +kernel) (tb_w_ok (x := (3, 170)) (by decide +kernel)) (tb_w_ok (x := (1, 16)) (by decide +kernel)) tb_at_0 rfl (by decide +kernel) (by decide +kernel) (by decide +kernel) (by decide +kernel) (by decide +kernel)
set_option maxRecDepth 100000 in
theorem tb_tok_13 : mi_tok tb_GT tb_P tb_SK 140 8 "java/lang/IllegalStateException" := tb_tok_mk (own := "Specialiser") (text := "four are given") (ik := 117) (is := 244) (ic := 121) (tt := 11) rfl (by decide +kernel) (by decide +kernel) (tb_w_ok (x := (3, 170)) (by decide +kernel)) (tb_w_ok (x := (1, 16)) (by decide +kernel)) tb_at_0 rfl (by decide +kernel) (by decide +kernel) (by decide +kernel) (by decide +kernel) (by decide +kernel)
set_option maxRecDepth 100000 in
theorem tb_tok_14 : mi_tok tb_GT tb_P tb_SK 141 28 "java/lang/IllegalStateException" := tb_tok_mk (own := "Specialiser") (text := "nothing to run") (ik := 117) (is := 246) (ic := 121) (tt := 12) rfl (by decide +kernel) (by decide +kernel) (tb_w_ok (x := (3, 170)) (by decide +kernel)) (tb_w_ok (x := (1, 16)) (by decide +kernel)) tb_at_0 rfl (by decide +kernel) (by decide +kernel) (by decide +kernel) (by decide +kernel) (by decide +kernel)
set_option maxRecDepth 100000 in
theorem tb_tok_15 : mi_tok tb_GT tb_P tb_SK 141 47 "java/lang/IndexOutOfBoundsException" := tb_tok_mk (own := "Specialiser") (text := "no such function or version") (ik := 155) (is := 248) (ic := 159) (tt := 13) rfl (by decide +kernel) (by decide +kernel) (tb_w_ok (x := (4, 40)) (by decide +kernel)) (tb_w_ok (x := (1, 19)) (by decide +kernel)) tb_at_2 rfl (by decide +kernel) (by decide +kernel) (by decide +kernel) (by decide +kernel) (by decide +kernel)
set_option maxRecDepth 100000 in
theorem tb_tok_16 : mi_tok tb_GT tb_P tb_SK 141 81 "java/lang/IllegalArgumentException" := tb_tok_mk (own := "Specialiser") (text := "steps or numbers given") (ik := 130) (is := 250) (ic := 134) (tt := 14) rfl (by decide +kernel) (by decide +kernel) (tb_w_ok (x := (4, 12)) (by decide +kernel)) (tb_w_ok (x := (1, 17)) (by decide +kernel)) tb_at_1 rfl (by decide +kernel) (by decide +kernel) (by decide +kernel) (by decide +kernel) (by decide +kernel)
set_option maxRecDepth 100000 in
theorem tb_tok_17 : mi_tok tb_GT tb_P tb_SK 144 9 "java/lang/IndexOutOfBoundsException" := tb_tok_mk (own := "Specialiser") (text := "no such what") (ik := 155) (is := 226) (ic := 159) (tt := 7) rfl (by decide +kernel) (by decide +kernel) (tb_w_ok (x := (4, 40)) (by decide +kernel)) (tb_w_ok (x := (1, 19)) (by decide +kernel)) tb_at_2 rfl (by decide +kernel) (by decide +kernel) (by decide +kernel) (by decide +kernel) (by decide +kernel)
theorem tb_th_ok : ∀ j pc E, mi_th tb_P j pc = some E → mi_tok tb_GT tb_P tb_SK j pc E := by
  intro j pc E h
  have h : (if pc < 65536 then tb_t.lookup (j * 65536 + pc) else none) = some E := h
  split at h
  · next hpc =>
    have hm := tb_lk h
    simp only [tb_t, List.mem_cons, List.not_mem_nil, or_false, Prod.mk.injEq] at hm
    rcases hm with ⟨hk, rfl⟩ | ⟨hk, rfl⟩ | ⟨hk, rfl⟩ | ⟨hk, rfl⟩ | ⟨hk, rfl⟩ | ⟨hk, rfl⟩ | ⟨hk, rfl⟩ | ⟨hk, rfl⟩ | ⟨hk, rfl⟩ | ⟨hk, rfl⟩ | ⟨hk, rfl⟩ | ⟨hk, rfl⟩ | ⟨hk, rfl⟩ | ⟨hk, rfl⟩ | ⟨hk, rfl⟩ | ⟨hk, rfl⟩ | ⟨hk, rfl⟩ | ⟨hk, rfl⟩
    · obtain ⟨rfl, rfl⟩ : j = 70 ∧ pc = 13 := by omega
      exact tb_tok_0
    · obtain ⟨rfl, rfl⟩ : j = 72 ∧ pc = 12 := by omega
      exact tb_tok_1
    · obtain ⟨rfl, rfl⟩ : j = 73 ∧ pc = 20 := by omega
      exact tb_tok_2
    · obtain ⟨rfl, rfl⟩ : j = 80 ∧ pc = 9 := by omega
      exact tb_tok_3
    · obtain ⟨rfl, rfl⟩ : j = 82 ∧ pc = 10 := by omega
      exact tb_tok_4
    · obtain ⟨rfl, rfl⟩ : j = 82 ∧ pc = 31 := by omega
      exact tb_tok_5
    · obtain ⟨rfl, rfl⟩ : j = 93 ∧ pc = 16 := by omega
      exact tb_tok_6
    · obtain ⟨rfl, rfl⟩ : j = 121 ∧ pc = 24 := by omega
      exact tb_tok_7
    · obtain ⟨rfl, rfl⟩ : j = 123 ∧ pc = 10 := by omega
      exact tb_tok_8
    · obtain ⟨rfl, rfl⟩ : j = 124 ∧ pc = 10 := by omega
      exact tb_tok_9
    · obtain ⟨rfl, rfl⟩ : j = 124 ∧ pc = 37 := by omega
      exact tb_tok_10
    · obtain ⟨rfl, rfl⟩ : j = 138 ∧ pc = 12 := by omega
      exact tb_tok_11
    · obtain ⟨rfl, rfl⟩ : j = 139 ∧ pc = 10 := by omega
      exact tb_tok_12
    · obtain ⟨rfl, rfl⟩ : j = 140 ∧ pc = 8 := by omega
      exact tb_tok_13
    · obtain ⟨rfl, rfl⟩ : j = 141 ∧ pc = 28 := by omega
      exact tb_tok_14
    · obtain ⟨rfl, rfl⟩ : j = 141 ∧ pc = 47 := by omega
      exact tb_tok_15
    · obtain ⟨rfl, rfl⟩ : j = 141 ∧ pc = 81 := by omega
      exact tb_tok_16
    · obtain ⟨rfl, rfl⟩ : j = 144 ∧ pc = 9 := by omega
      exact tb_tok_17
  · cases h
set_option maxRecDepth 100000 in
theorem tb_cok_0 : mi_cok tb_GT tb_P tb_NC 208 11 "java/lang/IllegalStateException" 19 := by
  refine ⟨[], ⟨0, 16, 19, 13⟩, [], "java/lang/IllegalStateException", rfl, rfl, rfl, by decide, tb_w_ok (x := (3, 165)) (by decide +kernel), tb_w_ok (x := (3, 172)) (by decide +kernel), ?_⟩
  intro z hz
  cases hz
set_option maxRecDepth 100000 in
theorem tb_cok_1 : mi_cok tb_GT tb_P tb_NC 209 4 "java/lang/IllegalArgumentException" 12 := by
  refine ⟨[], ⟨0, 9, 12, 19⟩, [], "java/lang/IllegalArgumentException", rfl, rfl, rfl, by decide, tb_w_ok (x := (4, 7)) (by decide +kernel), tb_w_ok (x := (4, 14)) (by decide +kernel), ?_⟩
  intro z hz
  cases hz
set_option maxRecDepth 100000 in
theorem tb_cok_2 : mi_cok tb_GT tb_P tb_NC 210 5 "java/lang/IndexOutOfBoundsException" 13 := by
  refine ⟨[], ⟨0, 10, 13, 25⟩, [], "java/lang/IndexOutOfBoundsException", rfl, rfl, rfl, by decide, tb_w_ok (x := (4, 31)) (by decide +kernel), tb_w_ok (x := (4, 42)) (by decide +kernel), ?_⟩
  intro z hz
  cases hz
set_option maxRecDepth 100000 in
theorem tb_cok_3 : mi_cok tb_GT tb_P tb_NC 211 5 "java/lang/IndexOutOfBoundsException" 13 := by
  refine ⟨[], ⟨0, 10, 13, 25⟩, [], "java/lang/IndexOutOfBoundsException", rfl, rfl, rfl, by decide, tb_w_ok (x := (4, 31)) (by decide +kernel), tb_w_ok (x := (4, 42)) (by decide +kernel), ?_⟩
  intro z hz
  cases hz
set_option maxRecDepth 100000 in
theorem tb_cok_4 : mi_cok tb_GT tb_P tb_NC 212 4 "java/lang/IllegalStateException" 12 := by
  refine ⟨[], ⟨0, 9, 12, 13⟩, [⟨0, 9, 15, 25⟩, ⟨0, 9, 18, 33⟩], "java/lang/IllegalStateException", rfl, rfl, rfl, by decide, tb_w_ok (x := (3, 165)) (by decide +kernel), tb_w_ok (x := (3, 172)) (by decide +kernel), ?_⟩
  intro z hz
  cases hz
set_option maxRecDepth 100000 in
theorem tb_cok_5 : mi_cok tb_GT tb_P tb_NC 212 4 "java/lang/IndexOutOfBoundsException" 15 := by
  refine ⟨[⟨0, 9, 12, 13⟩], ⟨0, 9, 15, 25⟩, [⟨0, 9, 18, 33⟩], "java/lang/IndexOutOfBoundsException", rfl, rfl, rfl, by decide, tb_w_ok (x := (4, 31)) (by decide +kernel), tb_w_ok (x := (4, 42)) (by decide +kernel), ?_⟩
  intro z hz
  simp only [List.mem_cons, List.not_mem_nil, or_false] at hz
  rcases hz with rfl
  · exact Or.inr ⟨by decide, "java/lang/IllegalStateException", tb_w_ok (x := (3, 165)) (by decide +kernel), by decide +kernel⟩
set_option maxRecDepth 100000 in
theorem tb_cok_6 : mi_cok tb_GT tb_P tb_NC 212 4 "java/lang/UnsupportedOperationException" 18 := by
  refine ⟨[⟨0, 9, 12, 13⟩, ⟨0, 9, 15, 25⟩], ⟨0, 9, 18, 33⟩, [], "java/lang/UnsupportedOperationException", rfl, rfl, rfl, by decide, tb_w_ok (x := (4, 94)) (by decide +kernel), tb_w_ok (x := (4, 156)) (by decide +kernel), ?_⟩
  intro z hz
  simp only [List.mem_cons, List.not_mem_nil, or_false] at hz
  rcases hz with rfl | rfl
  · exact Or.inr ⟨by decide, "java/lang/IllegalStateException", tb_w_ok (x := (3, 165)) (by decide +kernel), by decide +kernel⟩
  · exact Or.inr ⟨by decide, "java/lang/IndexOutOfBoundsException", tb_w_ok (x := (4, 31)) (by decide +kernel), by decide +kernel⟩
set_option maxRecDepth 100000 in
theorem tb_cok_7 : mi_cok tb_GT tb_P tb_NC 213 5 "java/lang/IndexOutOfBoundsException" 13 := by
  refine ⟨[], ⟨0, 10, 13, 25⟩, [], "java/lang/IndexOutOfBoundsException", rfl, rfl, rfl, by decide, tb_w_ok (x := (4, 31)) (by decide +kernel), tb_w_ok (x := (4, 42)) (by decide +kernel), ?_⟩
  intro z hz
  cases hz
set_option maxRecDepth 100000 in
theorem tb_cok_8 : mi_cok tb_GT tb_P tb_NC 214 4 "java/lang/IndexOutOfBoundsException" 12 := by
  refine ⟨[], ⟨0, 9, 12, 25⟩, [], "java/lang/IndexOutOfBoundsException", rfl, rfl, rfl, by decide, tb_w_ok (x := (4, 31)) (by decide +kernel), tb_w_ok (x := (4, 42)) (by decide +kernel), ?_⟩
  intro z hz
  cases hz
set_option maxRecDepth 100000 in
theorem tb_cok_9 : mi_cok tb_GT tb_P tb_NC 215 3 "java/lang/IllegalStateException" 11 := by
  refine ⟨[], ⟨0, 8, 11, 13⟩, [⟨0, 8, 14, 33⟩], "java/lang/IllegalStateException", rfl, rfl, rfl, by decide, tb_w_ok (x := (3, 165)) (by decide +kernel), tb_w_ok (x := (3, 172)) (by decide +kernel), ?_⟩
  intro z hz
  cases hz
set_option maxRecDepth 100000 in
theorem tb_cok_10 : mi_cok tb_GT tb_P tb_NC 215 3 "java/lang/UnsupportedOperationException" 14 := by
  refine ⟨[⟨0, 8, 11, 13⟩], ⟨0, 8, 14, 33⟩, [], "java/lang/UnsupportedOperationException", rfl, rfl, rfl, by decide, tb_w_ok (x := (4, 94)) (by decide +kernel), tb_w_ok (x := (4, 156)) (by decide +kernel), ?_⟩
  intro z hz
  simp only [List.mem_cons, List.not_mem_nil, or_false] at hz
  rcases hz with rfl
  · exact Or.inr ⟨by decide, "java/lang/IllegalStateException", tb_w_ok (x := (3, 165)) (by decide +kernel), by decide +kernel⟩
set_option maxRecDepth 100000 in
theorem tb_cok_11 : mi_cok tb_GT tb_P tb_NC 216 4 "java/lang/IndexOutOfBoundsException" 12 := by
  refine ⟨[], ⟨0, 9, 12, 25⟩, [], "java/lang/IndexOutOfBoundsException", rfl, rfl, rfl, by decide, tb_w_ok (x := (4, 31)) (by decide +kernel), tb_w_ok (x := (4, 42)) (by decide +kernel), ?_⟩
  intro z hz
  cases hz
set_option maxRecDepth 100000 in
theorem tb_cok_12 : mi_cok tb_GT tb_P tb_NC 217 3 "java/lang/IllegalStateException" 11 := by
  refine ⟨[], ⟨0, 8, 11, 13⟩, [], "java/lang/IllegalStateException", rfl, rfl, rfl, by decide, tb_w_ok (x := (3, 165)) (by decide +kernel), tb_w_ok (x := (3, 172)) (by decide +kernel), ?_⟩
  intro z hz
  cases hz
set_option maxRecDepth 100000 in
theorem tb_cok_13 : mi_cok tb_GT tb_P tb_NC 218 4 "java/lang/IllegalStateException" 12 := by
  refine ⟨[], ⟨0, 9, 12, 13⟩, [], "java/lang/IllegalStateException", rfl, rfl, rfl, by decide, tb_w_ok (x := (3, 165)) (by decide +kernel), tb_w_ok (x := (3, 172)) (by decide +kernel), ?_⟩
  intro z hz
  cases hz
set_option maxRecDepth 100000 in
theorem tb_cok_14 : mi_cok tb_GT tb_P tb_NC 219 7 "java/lang/IllegalArgumentException" 23 := by
  refine ⟨[⟨0, 12, 15, 13⟩, ⟨0, 12, 19, 25⟩], ⟨0, 12, 23, 19⟩, [], "java/lang/IllegalArgumentException", rfl, rfl, rfl, by decide, tb_w_ok (x := (4, 7)) (by decide +kernel), tb_w_ok (x := (4, 14)) (by decide +kernel), ?_⟩
  intro z hz
  simp only [List.mem_cons, List.not_mem_nil, or_false] at hz
  rcases hz with rfl | rfl
  · exact Or.inr ⟨by decide, "java/lang/IllegalStateException", tb_w_ok (x := (3, 165)) (by decide +kernel), by decide +kernel⟩
  · exact Or.inr ⟨by decide, "java/lang/IndexOutOfBoundsException", tb_w_ok (x := (4, 31)) (by decide +kernel), by decide +kernel⟩
set_option maxRecDepth 100000 in
theorem tb_cok_15 : mi_cok tb_GT tb_P tb_NC 219 7 "java/lang/IllegalStateException" 15 := by
  refine ⟨[], ⟨0, 12, 15, 13⟩, [⟨0, 12, 19, 25⟩, ⟨0, 12, 23, 19⟩], "java/lang/IllegalStateException", rfl, rfl, rfl, by decide, tb_w_ok (x := (3, 165)) (by decide +kernel), tb_w_ok (x := (3, 172)) (by decide +kernel), ?_⟩
  intro z hz
  cases hz
set_option maxRecDepth 100000 in
theorem tb_cok_16 : mi_cok tb_GT tb_P tb_NC 219 7 "java/lang/IndexOutOfBoundsException" 19 := by
  refine ⟨[⟨0, 12, 15, 13⟩], ⟨0, 12, 19, 25⟩, [⟨0, 12, 23, 19⟩], "java/lang/IndexOutOfBoundsException", rfl, rfl, rfl, by decide, tb_w_ok (x := (4, 31)) (by decide +kernel), tb_w_ok (x := (4, 42)) (by decide +kernel), ?_⟩
  intro z hz
  simp only [List.mem_cons, List.not_mem_nil, or_false] at hz
  rcases hz with rfl
  · exact Or.inr ⟨by decide, "java/lang/IllegalStateException", tb_w_ok (x := (3, 165)) (by decide +kernel), by decide +kernel⟩
set_option maxRecDepth 100000 in
theorem tb_cok_17 : mi_cok tb_GT tb_P tb_NC 220 4 "java/lang/IndexOutOfBoundsException" 12 := by
  refine ⟨[], ⟨0, 9, 12, 25⟩, [], "java/lang/IndexOutOfBoundsException", rfl, rfl, rfl, by decide, tb_w_ok (x := (4, 31)) (by decide +kernel), tb_w_ok (x := (4, 42)) (by decide +kernel), ?_⟩
  intro z hz
  cases hz
theorem tb_ca_ok : ∀ j pc E hp, mi_ca tb_P j pc E = some hp → mi_cok tb_GT tb_P tb_NC j pc E hp := by
  intro j pc E hp h
  have h : (if pc < 65536 then (tb_h.lookup (j * 65536 + pc)).bind (fun l => l.lookup E) else none) = some hp := h
  split at h
  · next hpc =>
    obtain ⟨l, hl, hE⟩ := Option.bind_eq_some_iff.mp h
    have hm := tb_lk hl
    have hn := tb_lk hE
    simp only [tb_h, List.mem_cons, List.not_mem_nil, or_false, Prod.mk.injEq] at hm
    rcases hm with ⟨hk, rfl⟩ | ⟨hk, rfl⟩ | ⟨hk, rfl⟩ | ⟨hk, rfl⟩ | ⟨hk, rfl⟩ | ⟨hk, rfl⟩ | ⟨hk, rfl⟩ | ⟨hk, rfl⟩ | ⟨hk, rfl⟩ | ⟨hk, rfl⟩ | ⟨hk, rfl⟩ | ⟨hk, rfl⟩ | ⟨hk, rfl⟩
    · obtain ⟨rfl, rfl⟩ : j = 208 ∧ pc = 11 := by omega
      simp only [List.mem_cons, List.not_mem_nil, or_false, Prod.mk.injEq] at hn
      obtain ⟨rfl, rfl⟩ := hn
      exact tb_cok_0
    · obtain ⟨rfl, rfl⟩ : j = 209 ∧ pc = 4 := by omega
      simp only [List.mem_cons, List.not_mem_nil, or_false, Prod.mk.injEq] at hn
      obtain ⟨rfl, rfl⟩ := hn
      exact tb_cok_1
    · obtain ⟨rfl, rfl⟩ : j = 210 ∧ pc = 5 := by omega
      simp only [List.mem_cons, List.not_mem_nil, or_false, Prod.mk.injEq] at hn
      obtain ⟨rfl, rfl⟩ := hn
      exact tb_cok_2
    · obtain ⟨rfl, rfl⟩ : j = 211 ∧ pc = 5 := by omega
      simp only [List.mem_cons, List.not_mem_nil, or_false, Prod.mk.injEq] at hn
      obtain ⟨rfl, rfl⟩ := hn
      exact tb_cok_3
    · obtain ⟨rfl, rfl⟩ : j = 212 ∧ pc = 4 := by omega
      simp only [List.mem_cons, List.not_mem_nil, or_false, Prod.mk.injEq] at hn
      rcases hn with ⟨rfl, rfl⟩ | ⟨rfl, rfl⟩ | ⟨rfl, rfl⟩
      · exact tb_cok_4
      · exact tb_cok_5
      · exact tb_cok_6
    · obtain ⟨rfl, rfl⟩ : j = 213 ∧ pc = 5 := by omega
      simp only [List.mem_cons, List.not_mem_nil, or_false, Prod.mk.injEq] at hn
      obtain ⟨rfl, rfl⟩ := hn
      exact tb_cok_7
    · obtain ⟨rfl, rfl⟩ : j = 214 ∧ pc = 4 := by omega
      simp only [List.mem_cons, List.not_mem_nil, or_false, Prod.mk.injEq] at hn
      obtain ⟨rfl, rfl⟩ := hn
      exact tb_cok_8
    · obtain ⟨rfl, rfl⟩ : j = 215 ∧ pc = 3 := by omega
      simp only [List.mem_cons, List.not_mem_nil, or_false, Prod.mk.injEq] at hn
      rcases hn with ⟨rfl, rfl⟩ | ⟨rfl, rfl⟩
      · exact tb_cok_9
      · exact tb_cok_10
    · obtain ⟨rfl, rfl⟩ : j = 216 ∧ pc = 4 := by omega
      simp only [List.mem_cons, List.not_mem_nil, or_false, Prod.mk.injEq] at hn
      obtain ⟨rfl, rfl⟩ := hn
      exact tb_cok_11
    · obtain ⟨rfl, rfl⟩ : j = 217 ∧ pc = 3 := by omega
      simp only [List.mem_cons, List.not_mem_nil, or_false, Prod.mk.injEq] at hn
      obtain ⟨rfl, rfl⟩ := hn
      exact tb_cok_12
    · obtain ⟨rfl, rfl⟩ : j = 218 ∧ pc = 4 := by omega
      simp only [List.mem_cons, List.not_mem_nil, or_false, Prod.mk.injEq] at hn
      obtain ⟨rfl, rfl⟩ := hn
      exact tb_cok_13
    · obtain ⟨rfl, rfl⟩ : j = 219 ∧ pc = 7 := by omega
      simp only [List.mem_cons, List.not_mem_nil, or_false, Prod.mk.injEq] at hn
      rcases hn with ⟨rfl, rfl⟩ | ⟨rfl, rfl⟩ | ⟨rfl, rfl⟩
      · exact tb_cok_14
      · exact tb_cok_15
      · exact tb_cok_16
    · obtain ⟨rfl, rfl⟩ : j = 220 ∧ pc = 4 := by omega
      simp only [List.mem_cons, List.not_mem_nil, or_false, Prod.mk.injEq] at hn
      obtain ⟨rfl, rfl⟩ := hn
      exact tb_cok_17
  · cases h
set_option maxRecDepth 100000 in
theorem tb_u_0 : tb_zc (u_ws RX0 TX0 4) [(1, 125), (1, 127), (1, 129), (1, 131)] (fun w x => tb_w x w) = true := by decide +kernel
set_option maxRecDepth 100000 in
theorem tb_u_1 : tb_zc (u_ws RX1 TX1 1) [(1, 60)] (fun w x => tb_w x w) = true := by decide +kernel
set_option maxRecDepth 100000 in
theorem tb_u_2 : tb_zc (u_ws RX2 TX2 11) [(2, 44), (2, 46), (2, 48), (2, 50), (2, 52), (2, 54), (2, 56), (2, 58), (2, 60), (2, 62), (2, 64)] (fun w x => tb_w x w) = true := by decide +kernel
set_option maxRecDepth 100000 in
theorem tb_u_3 : tb_zc (u_ws RX3 TX3 8) [(2, 86), (2, 88), (2, 90), (2, 92), (2, 94), (2, 96), (2, 98), (2, 100)] (fun w x => tb_w x w) = true := by decide +kernel
set_option maxRecDepth 100000 in
theorem tb_u_4 : tb_zc (u_ws RX4 TX4 13) [(1, 161), (1, 163), (1, 165), (1, 167), (1, 169), (1, 171), (1, 173), (1, 175), (1, 177), (1, 179), (1, 181), (1, 183), (1, 185)] (fun w x => tb_w x w) = true := by decide +kernel
set_option maxRecDepth 100000 in
theorem tb_u_5 : tb_zc (u_ws RX5 TX5 1) [(1, 41)] (fun w x => tb_w x w) = true := by decide +kernel
set_option maxRecDepth 100000 in
theorem tb_u_6 : tb_zc (u_ws RX6 TX6 13) [(1, 233), (1, 235), (1, 237), (1, 239), (2, 1), (2, 3), (2, 5), (2, 7), (2, 9), (2, 11), (2, 13), (2, 15), (2, 17)] (fun w x => tb_w x w) = true := by decide +kernel
set_option maxRecDepth 100000 in
theorem tb_u_7 : tb_zc (u_ws RX7 TX7 6) [(1, 70), (1, 72), (1, 74), (1, 76), (1, 78), (1, 80)] (fun w x => tb_w x w) = true := by decide +kernel
set_option maxRecDepth 100000 in
theorem tb_u_8 : tb_zc (u_ws RX8 TX8 7) [(1, 104), (1, 106), (1, 108), (1, 110), (1, 112), (1, 114), (1, 116)] (fun w x => tb_w x w) = true := by decide +kernel
set_option maxRecDepth 100000 in
theorem tb_u_9 : tb_zc (u_ws RX9 TX9 4) [(1, 202), (1, 204), (1, 206), (1, 208)] (fun w x => tb_w x w) = true := by decide +kernel
set_option maxRecDepth 100000 in
theorem tb_u_10 : tb_zc (u_ws RX10 TX10 20) [(2, 123), (2, 125), (2, 127), (2, 129), (2, 131), (2, 133), (2, 135), (2, 137), (2, 139), (2, 141), (2, 143), (2, 145), (2, 147), (2, 149), (2, 151), (2, 153), (2, 155), (2, 157), (2, 159), (2, 161)] (fun w x => tb_w x w) = true := by decide +kernel
set_option maxRecDepth 100000 in
theorem tb_u_11 : tb_zc (u_ws RX11 TX11 99) [(6, 147), (6, 149), (6, 151), (6, 153), (6, 155), (6, 157), (6, 159), (6, 161), (6, 163), (6, 165), (6, 167), (6, 169), (6, 171), (6, 173), (6, 175), (6, 177), (6, 179), (6, 181), (6, 183), (6, 185), (6, 187), (6, 189), (6, 191), (6, 193), (6, 195), (6, 197), (6, 199), (6, 201), (6, 203), (6, 205), (6, 207), (6, 209), (6, 211), (6, 213), (6, 215), (6, 217), (6, 219), (6, 221), (6, 223), (6, 225), (6, 227), (6, 229), (6, 231), (6, 233), (6, 235), (6, 237), (6, 239), (7, 1), (7, 3), (7, 5), (7, 7), (7, 9), (7, 11), (7, 13), (7, 15), (7, 17), (7, 19), (7, 21), (7, 23), (7, 25), (7, 27), (7, 29), (7, 31), (7, 33), (7, 35), (7, 37), (7, 39), (7, 41), (7, 43), (7, 45), (7, 47), (7, 49), (7, 51), (7, 53), (7, 55), (7, 57), (7, 59), (7, 61), (7, 63), (7, 65), (7, 67), (7, 69), (7, 71), (7, 73), (7, 75), (7, 77), (7, 79), (7, 81), (7, 83), (7, 85), (7, 87), (7, 89), (7, 91), (7, 93), (7, 95), (7, 97), (7, 99), (7, 101), (7, 103)] (fun w x => tb_w x w) = true := by decide +kernel
theorem tb_cls_ok : mi_cls tb_GT vwCl tb_ft := by
  intro ci C T N h
  match ci, h with
  | 0, h => cases h; exact ⟨fun w hw => by obtain ⟨x, hx⟩ := tb_zc_ok tb_u_0 w hw; exact tb_w_ok hx, tyX0_ok, nmX0, tb_w_ok (x := (1, 84)) (by decide +kernel), tb_w_ok (x := (1, 5)) (by decide +kernel)⟩
  | 1, h => cases h; exact ⟨fun w hw => by obtain ⟨x, hx⟩ := tb_zc_ok tb_u_1 w hw; exact tb_w_ok hx, tyX1_ok, nmX1, tb_w_ok (x := (1, 54)) (by decide +kernel), tb_w_ok (x := (1, 4)) (by decide +kernel)⟩
  | 2, h => cases h; exact ⟨fun w hw => by obtain ⟨x, hx⟩ := tb_zc_ok tb_u_2 w hw; exact tb_w_ok hx, tyX2_ok, nmX2, tb_w_ok (x := (2, 21)) (by decide +kernel), tb_w_ok (x := (1, 10)) (by decide +kernel)⟩
  | 3, h => cases h; exact ⟨fun w hw => by obtain ⟨x, hx⟩ := tb_zc_ok tb_u_3 w hw; exact tb_w_ok hx, tyX3_ok, nmX3, tb_w_ok (x := (2, 69)) (by decide +kernel), tb_w_ok (x := (1, 11)) (by decide +kernel)⟩
  | 4, h => cases h; exact ⟨fun w hw => by obtain ⟨x, hx⟩ := tb_zc_ok tb_u_4 w hw; exact tb_w_ok hx, tyX4_ok, nmX4, tb_w_ok (x := (1, 135)) (by decide +kernel), tb_w_ok (x := (1, 7)) (by decide +kernel)⟩
  | 5, h => cases h; exact ⟨fun w hw => by obtain ⟨x, hx⟩ := tb_zc_ok tb_u_5 w hw; exact tb_w_ok hx, tyX5_ok, nmX5, tb_w_ok (x := (1, 35)) (by decide +kernel), tb_w_ok (x := (1, 2)) (by decide +kernel)⟩
  | 6, h => cases h; exact ⟨fun w hw => by obtain ⟨x, hx⟩ := tb_zc_ok tb_u_6 w hw; exact tb_w_ok hx, tyX6_ok, nmX6, tb_w_ok (x := (1, 212)) (by decide +kernel), tb_w_ok (x := (1, 9)) (by decide +kernel)⟩
  | 7, h => cases h; exact ⟨fun w hw => by obtain ⟨x, hx⟩ := tb_zc_ok tb_u_7 w hw; exact tb_w_ok hx, tyX7_ok, nmX7, tb_w_ok (x := (1, 46)) (by decide +kernel), tb_w_ok (x := (1, 3)) (by decide +kernel)⟩
  | 8, h => cases h; exact ⟨fun w hw => by obtain ⟨x, hx⟩ := tb_zc_ok tb_u_8 w hw; exact tb_w_ok hx, tyX8_ok, nmX8, tb_w_ok (x := (1, 90)) (by decide +kernel), tb_w_ok (x := (1, 6)) (by decide +kernel)⟩
  | 9, h => cases h; exact ⟨fun w hw => by obtain ⟨x, hx⟩ := tb_zc_ok tb_u_9 w hw; exact tb_w_ok hx, tyX9_ok, nmX9, tb_w_ok (x := (1, 189)) (by decide +kernel), tb_w_ok (x := (1, 8)) (by decide +kernel)⟩
  | 10, h => cases h; exact ⟨fun w hw => by obtain ⟨x, hx⟩ := tb_zc_ok tb_u_10 w hw; exact tb_w_ok hx, tyX10_ok, nmX10, tb_w_ok (x := (1, 27)) (by decide +kernel), tb_w_ok (x := (1, 1)) (by decide +kernel)⟩
  | 11, h => cases h; exact ⟨fun w hw => by obtain ⟨x, hx⟩ := tb_zc_ok tb_u_11 w hw; exact tb_w_ok hx, tyX11_ok, nmX11, tb_w_ok (x := (6, 42)) (by decide +kernel), tb_w_ok (x := (1, 12)) (by decide +kernel)⟩
  | k + 12, h => simp [vwCl] at h
set_option maxRecDepth 100000 in
theorem tb_sc : (List.range 15).all (fun c => (tb_c c).all (fun q => match q.2 with
  | .retAddr t => tb_SK.any (fun z => z.1 == tb_own.getD c "" && (z.2.1 == q.1 && z.2.2.2 == t))
  | _ => true)) = true := by decide +kernel
theorem tb_sc0 : ∀ c, 15 ≤ c → tb_c c = [] := by
  intro c h
  match c, h with
  | 0, h => omega
  | 1, h => omega
  | 2, h => omega
  | 3, h => omega
  | 4, h => omega
  | 5, h => omega
  | 6, h => omega
  | 7, h => omega
  | 8, h => omega
  | 9, h => omega
  | 10, h => omega
  | 11, h => omega
  | 12, h => omega
  | 13, h => omega
  | 14, h => omega
  | c + 15, h => rfl
def tb_nO : Nat := 15
def tb_nM : Nat := 221
set_option maxRecDepth 100000 in
theorem tb_names : (List.range tb_nM).all (fun j => decide ((mi_nm tb_P j).cls = tb_own.getD (tb_k.getD j 99) "") && (plainFor (mi_nm tb_P j) && (!(tb_in.getD j false) || decide ((mi_nm tb_P j).name = "<init>")))) = true := by decide +kernel
theorem tb_beyond : ∀ j, tb_nM ≤ j → tb_k.getD j 99 = 99 ∧ plainFor (mi_nm tb_P j) = true := by
  intro j h
  have h : 221 ≤ j := h
  have e1 : tb_k.getD j 99 = 99 := by
    rw [List.getD_eq_getElem?_getD, List.getElem?_eq_none (by show tb_k.length ≤ j; exact Nat.le_trans (by decide +kernel) h)]
    rfl
  refine ⟨e1, ?_⟩
  have e2 : tb_m.getD j tb_m0 = tb_m0 := by
    rw [List.getD_eq_getElem?_getD, List.getElem?_eq_none (by show tb_m.length ≤ j; exact Nat.le_trans (by decide +kernel) h)]
    rfl
  show plainFor (tb_m.getD j tb_m0).1 = true
  rw [e2]
  decide +kernel
theorem tb_own_of {j : Nat} (h : j < tb_nM) : (mi_nm tb_P j).cls = tb_own.getD (tb_k.getD j 99) "" ∧ plainFor (mi_nm tb_P j) = true ∧ (tb_in.getD j false = true → (mi_nm tb_P j).name = "<init>") := by
  have h1 := List.all_eq_true.mp tb_names j (List.mem_range.mpr h)
  simp only [Bool.and_eq_true, decide_eq_true_eq, Bool.or_eq_true, Bool.not_eq_true'] at h1
  refine ⟨h1.1, h1.2.1, fun z => ?_⟩
  rcases h1.2.2 with e | e
  · rw [z] at e; cases e
  · exact e
theorem tb_i_one {j ix k kind n : Nat} (hj : j < tb_nM) (h : mi_iv tb_P j ix = some (k, kind, n)) : mi_sok tb_GT vwCl tb_P (mi_nm tb_P j).cls ix k kind n := by
  obtain ⟨hown, -, -⟩ := tb_own_of hj
  have h : (tb_i (tb_k.getD j 99)).lookup ix = some (k, kind, n) := h
  obtain ⟨x, hx⟩ := tb_zc_ok (tb_i_ok (tb_k.getD j 99)) _ (tb_lk h)
  rw [hown]
  unfold tb_ichk at hx
  dsimp only at hx
  split at hx
  · next h6 => exact Or.inl h6
  next h6 =>
  split at hx
  · next h3 =>
    simp only [Bool.and_eq_true] at hx
    exact Or.inr (Or.inl ⟨h3, tb_w_ok hx.1, tb_w_ok hx.2.1, tb_w_ok hx.2.2⟩)
  · next h3 =>
    simp only [Bool.and_eq_true, decide_eq_true_eq] at hx
    obtain ⟨hc, hp, hl⟩ := hx
    have hm : (k, kind) ∈ tb_cal := by simpa using hc
    obtain ⟨y, hy⟩ := tb_cal_ok _ hm
    have hcw := tb_cw _ hm
    unfold tb_cchk2 at hy
    simp only [Bool.and_eq_true, decide_eq_true_eq] at hy
    obtain ⟨y1, y2, y3, y4, y5⟩ := hy
    refine Or.inr (Or.inr ⟨h3, ⟨y3, y4⟩, hp, tb_w_ok y1, hcw, y2, ?_⟩)
    match kind, y5, hl with
    | 0, y5, hl =>
      simp only [Bool.and_eq_true] at y5
      obtain ⟨z1, z2, z3, z4⟩ := y5
      refine Or.inl ⟨rfl, z1, tb_w_ok hl, tb_w_ok z2, tb_w_ok z3, ?_⟩
      split at z4
      · next r hr =>
        obtain ⟨C, T, N⟩ := r
        have e1 : C = (mi_nm tb_P k).cls := of_decide_eq_true z4
        rw [← e1]
        exact ⟨T, N, hr⟩
      · cases z4
    | 1, y5, hl =>
      simp only [Bool.and_eq_true] at y5
      exact Or.inr (Or.inl ⟨rfl, y5.1, tb_w_ok hl, tb_w_ok y5.2⟩)
    | 2, y5, hl =>
      simp only [Bool.and_eq_true, decide_eq_true_eq] at y5
      exact Or.inr (Or.inr (Or.inl ⟨rfl, y5.1, tb_w_ok hl, tb_w_ok y5.2.1, y5.2.2.1, Option.isNone_iff_eq_none.mp y5.2.2.2⟩))
    | 3, y5, hl => exact absurd rfl h3
    | 4, y5, hl =>
      simp only [Bool.and_eq_true] at y5
      exact Or.inr (Or.inr (Or.inr (Or.inl ⟨rfl, y5.1, ⟨tb_host, tb_w_ok hl⟩, tb_w_ok y5.2⟩)))
    | 5, y5, hl =>
      simp only [Bool.and_eq_true, Bool.not_eq_true'] at y5
      exact Or.inr (Or.inr (Or.inr (Or.inr ⟨rfl, y5.1, tb_w_ok hl, tb_w_ok y5.2⟩)))
    | q + 6, y5, hl => cases y5
theorem tb_plc {j : Nat} (hj : j < tb_nM) : mi_plc tb_GT vwCl tb_P j := by
  obtain ⟨hown, -, hini⟩ := tb_own_of hj
  unfold mi_plc
  rw [hown]
  refine ⟨fun ix ci k w h => ?_, fun ix ci h => ?_, fun ix x h => ?_, fun ix x h => ?_⟩
  · have h : ((tb_f (tb_k.getD j 99)).lookup ix).map (fun q => (q.1, q.2.1, q.2.2 || tb_in.getD j false)) = some (ci, k, w) := h
    obtain ⟨q, hq, e1⟩ := Option.map_eq_some_iff.mp h
    obtain ⟨ci', k', w'⟩ := q
    cases e1
    obtain ⟨x, hx⟩ := tb_zc_ok (tb_f_ok (tb_k.getD j 99)) _ (tb_lk hq)
    unfold tb_fchk at hx
    dsimp only at hx
    split at hx
    · next r hr =>
      obtain ⟨C, T, N⟩ := r
      simp only [Bool.and_eq_true, decide_eq_true_eq] at hx
      obtain ⟨a1, a2, a3⟩ := hx
      refine ⟨C, T, N, hr, a1, tb_w_ok a2, fun hw => ?_⟩
      cases w' with
      | true => simp only [if_true, Bool.not_eq_true'] at a3; exact Or.inl a3
      | false =>
        simp only [Bool.false_eq_true, if_false, decide_eq_true_eq] at a3
        simp only [Bool.false_or] at hw
        exact Or.inr ⟨by rw [decide_eq_true_eq]; exact hini hw, a3⟩
    · cases hx
  · obtain ⟨x, hx⟩ := tb_zc_ok (tb_n_ok (tb_k.getD j 99)) _ (tb_lk h)
    unfold tb_nchk at hx
    dsimp only at hx
    split at hx
    · next r hr =>
      obtain ⟨C, T, N⟩ := r
      simp only [Bool.and_eq_true, decide_eq_true_eq] at hx
      obtain ⟨a1, a2⟩ := hx
      subst a1
      exact ⟨C, T, hr, tb_w_ok a2⟩
    · cases hx
  · obtain ⟨y, hy⟩ := tb_zc_ok (tb_c_ok (tb_k.getD j 99)) _ (tb_lk h)
    exact tb_w_ok hy
  · obtain ⟨y, hy⟩ := tb_zc_ok (tb_c_ok (tb_k.getD j 99)) _ (tb_lk h)
    exact tb_w_ok hy
theorem tb_str_ok {j ix t : Nat} (hj : j < tb_nM) (h : mi_cs tb_P j ix = some (.retAddr t)) : ∃ text, ((mi_nm tb_P j).cls, ix, text, t) ∈ tb_SK := by
  obtain ⟨hown, -, -⟩ := tb_own_of hj
  have h : (tb_c (tb_k.getD j 99)).lookup ix = some (.retAddr t) := h
  have hm := tb_lk h
  by_cases hc : tb_k.getD j 99 < tb_nO
  · have h1 := List.all_eq_true.mp (List.all_eq_true.mp tb_sc _ (List.mem_range.mpr hc)) _ hm
    dsimp only at h1
    obtain ⟨z, hz, h2⟩ := List.any_eq_true.mp h1
    simp only [Bool.and_eq_true, beq_iff_eq] at h2
    obtain ⟨z1, z2, z3, z4⟩ := z
    obtain ⟨e1, e2, e3⟩ := h2
    dsimp only at e1 e2 e3
    rw [hown, ← e1, ← e2, ← e3]
    exact ⟨z3, hz⟩
  · rw [tb_sc0 _ (Nat.not_lt.mp hc)] at hm
    cases hm
/-- THE TABLES HOLD -/
theorem tb_ok : mi_ok tb_GT vwCl tb_P tb_SK tb_NC := by
  refine ⟨⟨tb_w_ok (x := (1, 44)) (by decide +kernel), tb_w_ok (x := (1, 63)) (by decide +kernel), tb_w_ok (x := (7, 106)) (by decide +kernel)⟩, tb_cls_ok, fun w hw => (List.mem_filter.mp hw).2, by decide +kernel, fun j => ?_⟩
  by_cases hj : j < tb_nM
  · exact ⟨tb_plc hj, fun pc i h => h, fun ix k kind n h => tb_i_one hj h, tb_th_ok j, tb_ca_ok j, (tb_own_of hj).2.1, fun ix t h => tb_str_ok hj h⟩
  · obtain ⟨e1, e2⟩ := tb_beyond j (Nat.not_lt.mp hj)
    refine ⟨⟨fun ix ci k w h => ?_, fun ix ci h => ?_, fun ix x h => ?_, fun ix x h => ?_⟩, fun pc i h => h, fun ix k kind n h => ?_, tb_th_ok j, tb_ca_ok j, e2, fun ix t h => ?_⟩
    · have h : ((tb_f (tb_k.getD j 99)).lookup ix).map (fun q => (q.1, q.2.1, q.2.2 || tb_in.getD j false)) = some (ci, k, w) := h
      rw [e1] at h
      cases h
    · have h : (tb_n (tb_k.getD j 99)).lookup ix = some ci := h
      rw [e1] at h
      cases h
    · have h : (tb_c (tb_k.getD j 99)).lookup ix = some (.int x) := h
      rw [e1] at h
      cases h
    · have h : (tb_c (tb_k.getD j 99)).lookup ix = some (.long x) := h
      rw [e1] at h
      cases h
    · have h : (tb_i (tb_k.getD j 99)).lookup ix = some (k, kind, n) := h
      rw [e1] at h
      cases h
    · have h : (tb_c (tb_k.getD j 99)).lookup ix = some (.retAddr t) := h
      rw [e1] at h
      cases h
end
section
/-! The claim out of one run of the small machine (the skeleton's own rows, with the launch's flag and the law's empty table said). -/
/-! THE CLAIM OUT OF ONE WALK OF THE LAW'S BODY. Your part is whole_start (and what it stands on); all else here is the same for every law, but numbers. -/
def R_law : String := "SpecialiserLaw"
def lw_P (b : Addr) (xs : List Int32) (args : Array Value) (s : State) : Prop := args = #[.ref b] ∧ s.IntsAt b xs ∧ xs.length ≤ 6 ∧ (Jvm.Cond.and given_1 narrow_1).before args s = true
def lw_Q (_ : Array Value) (s : State) (o : Outcome) (t : State) : Prop := o = .returned (some (.int 1)) ∧ Framed s o t [] 600002 7302232
def lw_Z (below : List Frame) (a : Array Value) (s : State) : State → Prop := fun t => ∃ o, t.status = .running ∧ Ended t below o ∧ lw_Q a s o t
/-- the law's own end, with 1 on the stack, nothing written that was there before, its room as the claim has it -/
theorem lw_ret {p : Program} {l : Launch} {e : Env} {s : State} {m : MethodId} {below : List Frame} {meth : Method} {c : Code} {b : Nat} (hx : p.tables.exec = Jvm.exec) (hb : c.code = code) (hr : meth.sig.returnType = ret) (hlocks : meth.locks = false) {pc : Nat} {H : Heap} {ls : Array Slot} (hdg : decode code pc = .ok (.ireturn, 1)) : W p l e room_1 s m #[Value.ref b] below meth c H [] 600002 7302232 (lw_Z below #[Value.ref b] s) (F0 m pc ls [.int 1]) := by
  intro T hT X
  obtain ⟨fs, hret, hrun, hended, hW, hframe⟩ := X.leave (v := some (.int 1)) (hlocks := hlocks) (fun h => by rw [hr] at h; cases h)
  have hmeth' : T.vm.method? m = some meth := X.method'
  refine ⟨T.setFrames fs, ?_, .returned (some (.int 1)), hrun, hended, rfl, ⟨_, rfl⟩, hW, hframe⟩
  jvm_step X.here [X.here.top, hx, hb, hdg, hmeth', hr, ret, narrow_b1]
  (try refine ⟨rfl, ?_⟩); (try refine ⟨rfl, ?_⟩)
  first | (intro acts; rw [hret _ acts rfl rfl rfl]) | rw [hret _ _ rfl rfl rfl]
  exact Steps.refl _
/-- what holds at the law's entry: the machine, the code, the tables' words (any of lw_tbl by 'hts w (by decide +kernel)'), the script of L ints xs at the cell b, what the Statement gives of the start (any of its parts by flat_of_before) -/
def lw_At (p : Program) (s : State) (m : MethodId) (meth : Method) (c : Code) (b L : Nat) (xs : Nat → Int32) : Prop :=
  p.tables.exec = Jvm.exec ∧ c.code = code ∧ meth.sig.returnType = ret ∧ c.maxLocals = 7 ∧ s.vm.findClass R_law = some m.cls ∧ (∀ w ∈ lw_tbl, w.before #[Value.ref b] s = true) ∧ va_X b L xs s s.heap ∧ b < s.heap.size ∧ meth.locks = false ∧ (Jvm.Cond.and given_1 narrow_1).before #[Value.ref b] s = true ∧ c.exceptionTable.toList = []
theorem tb_str {s : State} {A : Array Value} {own tx : String} {k : Nat} (h1 : (Cond.stringRef own k tx).before A s = true) (h2 : (Cond.exactly (.string own k) "java/lang/String").before A s = true) : ∃ a, vk_R own k tx a s := by
  obtain ⟨a, c, cell, k9, e1, -⟩ := Cond.exactly_spec h2
  exact ⟨a, vk_R.of h1 e1⟩
theorem tb_arr {s : State} {A : Array Value} {ty : FieldType} (h : (Cond.arrayClass ty).before A s = true) : ∃ cA : ClassId, ArrOfT s cA ty ∧ s.vm.findClass ("[" ++ ty.toString) = some cA := by
  obtain ⟨cA, kA, comp, h1, h2, h3⟩ := Cond.arrayClass_spec h
  exact ⟨cA, fun n z => ⟨fun k h => (by cases h), kA, h2, comp, h3⟩, h1⟩
def lw_pure : Prop := ∀ (L : Nat) (xs : Nat → Int32), L ≤ 6 → ∃ (fuel d : Nat) (h : mi_H), d ≤ 1200 ∧ mi_run tb_P L xs (mi_call tb_P L xs fuel d) 0 fuel 0 [(0, .ref 0)] [] (1, 0, fun _ => mi_dead) = some (.inl (some (.int 1)), h) ∧ h.1 ≤ 1 + 600002 ∧ h.2.1 ≤ 7302232
theorem tb_SK_ok {s : State} {A : Array Value} (hts : ∀ w ∈ lw_tbl, w.before A s = true) (hs : ∀ w ∈ flatC (Jvm.Cond.and given_1 narrow_1), w.before A s = true) : ∀ q ∈ tb_SK, ∃ a, vk_R q.1 q.2.1 q.2.2.1 a s := by
  intro q hq
  simp only [tb_SK, List.mem_cons, List.not_mem_nil, or_false] at hq
  rcases hq with rfl | rfl | rfl | rfl | rfl | rfl | rfl | rfl | rfl | rfl | rfl | rfl | rfl | rfl | rfl | rfl | rfl | rfl | rfl | rfl | rfl | rfl | rfl | rfl | rfl | rfl | rfl | rfl | rfl | rfl | rfl | rfl
  · exact tb_str (hts _ (tb_tab_in 3 _ (List.mem_of_getElem? (i := 212) (by decide +kernel)))) (hs _ (by decide +kernel))
  · exact tb_str (hts _ (tb_tab_in 4 _ (List.mem_of_getElem? (i := 21) (by decide +kernel)))) (hs _ (by decide +kernel))
  · exact tb_str (hts _ (tb_tab_in 4 _ (List.mem_of_getElem? (i := 49) (by decide +kernel)))) (hs _ (by decide +kernel))
  · exact tb_str (hts _ (tb_tab_in 4 _ (List.mem_of_getElem? (i := 84) (by decide +kernel)))) (hs _ (by decide +kernel))
  · exact tb_str (hts _ (tb_tab_in 4 _ (List.mem_of_getElem? (i := 99) (by decide +kernel)))) (hs _ (by decide +kernel))
  · exact tb_str (hts _ (tb_tab_in 4 _ (List.mem_of_getElem? (i := 100) (by decide +kernel)))) (hs _ (by decide +kernel))
  · exact tb_str (hts _ (tb_tab_in 5 _ (List.mem_of_getElem? (i := 74) (by decide +kernel)))) (hs _ (by decide +kernel))
  · exact tb_str (hts _ (tb_tab_in 5 _ (List.mem_of_getElem? (i := 92) (by decide +kernel)))) (hs _ (by decide +kernel))
  · exact tb_str (hts _ (tb_tab_in 5 _ (List.mem_of_getElem? (i := 101) (by decide +kernel)))) (hs _ (by decide +kernel))
  · exact tb_str (hts _ (tb_tab_in 5 _ (List.mem_of_getElem? (i := 229) (by decide +kernel)))) (hs _ (by decide +kernel))
  · exact tb_str (hts _ (tb_tab_in 5 _ (List.mem_of_getElem? (i := 238) (by decide +kernel)))) (hs _ (by decide +kernel))
  · exact tb_str (hts _ (tb_tab_in 6 _ (List.mem_of_getElem? (i := 13) (by decide +kernel)))) (hs _ (by decide +kernel))
  · exact tb_str (hts _ (tb_tab_in 6 _ (List.mem_of_getElem? (i := 21) (by decide +kernel)))) (hs _ (by decide +kernel))
  · exact tb_str (hts _ (tb_tab_in 6 _ (List.mem_of_getElem? (i := 22) (by decide +kernel)))) (hs _ (by decide +kernel))
  · exact tb_str (hts _ (tb_tab_in 6 _ (List.mem_of_getElem? (i := 23) (by decide +kernel)))) (hs _ (by decide +kernel))
  · exact tb_str (hts _ (tb_tab_in 4 _ (List.mem_of_getElem? (i := 163) (by decide +kernel)))) (hs _ (by decide +kernel))
  · exact tb_str (hts _ (tb_tab_in 5 _ (List.mem_of_getElem? (i := 122) (by decide +kernel)))) (hs _ (by decide +kernel))
  · exact tb_str (hts _ (tb_tab_in 5 _ (List.mem_of_getElem? (i := 123) (by decide +kernel)))) (hs _ (by decide +kernel))
  · exact tb_str (hts _ (tb_tab_in 5 _ (List.mem_of_getElem? (i := 176) (by decide +kernel)))) (hs _ (by decide +kernel))
  · exact tb_str (hts _ (tb_tab_in 5 _ (List.mem_of_getElem? (i := 227) (by decide +kernel)))) (hs _ (by decide +kernel))
  · exact tb_str (hts _ (tb_tab_in 5 _ (List.mem_of_getElem? (i := 189) (by decide +kernel)))) (hs _ (by decide +kernel))
  · exact tb_str (hts _ (tb_tab_in 5 _ (List.mem_of_getElem? (i := 199) (by decide +kernel)))) (hs _ (by decide +kernel))
  · exact tb_str (hts _ (tb_tab_in 5 _ (List.mem_of_getElem? (i := 200) (by decide +kernel)))) (hs _ (by decide +kernel))
  · exact tb_str (hts _ (tb_tab_in 5 _ (List.mem_of_getElem? (i := 202) (by decide +kernel)))) (hs _ (by decide +kernel))
  · exact tb_str (hts _ (tb_tab_in 5 _ (List.mem_of_getElem? (i := 207) (by decide +kernel)))) (hs _ (by decide +kernel))
  · exact tb_str (hts _ (tb_tab_in 5 _ (List.mem_of_getElem? (i := 208) (by decide +kernel)))) (hs _ (by decide +kernel))
  · exact tb_str (hts _ (tb_tab_in 5 _ (List.mem_of_getElem? (i := 209) (by decide +kernel)))) (hs _ (by decide +kernel))
  · exact tb_str (hts _ (tb_tab_in 5 _ (List.mem_of_getElem? (i := 222) (by decide +kernel)))) (hs _ (by decide +kernel))
  · exact tb_str (hts _ (tb_tab_in 5 _ (List.mem_of_getElem? (i := 223) (by decide +kernel)))) (hs _ (by decide +kernel))
  · exact tb_str (hts _ (tb_tab_in 5 _ (List.mem_of_getElem? (i := 224) (by decide +kernel)))) (hs _ (by decide +kernel))
  · exact tb_str (hts _ (tb_tab_in 5 _ (List.mem_of_getElem? (i := 225) (by decide +kernel)))) (hs _ (by decide +kernel))
  · exact tb_str (hts _ (tb_tab_in 5 _ (List.mem_of_getElem? (i := 226) (by decide +kernel)))) (hs _ (by decide +kernel))
set_option maxRecDepth 100000 in
theorem tb_SK_one : tb_SK.all (fun q => tb_SK.all (fun z => !(decide (q.2.2.2 = z.2.2.2)) || decide (q = z))) = true := by decide +kernel
theorem tb_adr {s : State} (h : ∀ q ∈ tb_SK, ∃ a, vk_R q.1 q.2.1 q.2.2.1 a s) : ∃ f : Nat → Nat, ∀ q ∈ tb_SK, vk_R q.1 q.2.1 q.2.2.1 (f q.2.2.2) s := by
  have hx : ∀ t : Nat, ∃ a : Nat, ∀ q ∈ tb_SK, q.2.2.2 = t → vk_R q.1 q.2.1 q.2.2.1 a s := by
    intro t
    by_cases hq : ∃ q, q ∈ tb_SK ∧ q.2.2.2 = t
    · obtain ⟨q, hm, rfl⟩ := hq
      obtain ⟨a, ha⟩ := h q hm
      refine ⟨a, fun z hz e1 => ?_⟩
      have h1 := List.all_eq_true.mp (List.all_eq_true.mp tb_SK_one q hm) z hz
      simp only [Bool.or_eq_true, Bool.not_eq_true', decide_eq_false_iff_not, decide_eq_true_eq] at h1
      rcases h1 with h1 | h1
      · exact absurd e1.symm h1
      · rw [← h1]; exact ha
    · exact ⟨0, fun z hz e1 => absurd ⟨z, hz, e1⟩ hq⟩
  exact ⟨fun t => Classical.choose (hx t), fun q hq => Classical.choose_spec (hx q.2.2.2) q hq rfl⟩
theorem tb_NC_ok {s : State} {A : Array Value} (hs : ∀ w ∈ flatC (Jvm.Cond.and given_1 narrow_1), w.before A s = true) : ∀ q ∈ tb_NC, va_Nc q.1 q.2 s := by
  intro q hq
  simp only [tb_NC, List.mem_cons, List.not_mem_nil, or_false] at hq
  rcases hq with rfl | rfl | rfl | rfl | rfl | rfl | rfl | rfl | rfl | rfl | rfl | rfl
  · exact va_Nc.of (hs _ (by decide +kernel))
  · exact va_Nc.of (hs _ (by decide +kernel))
  · exact va_Nc.of (hs _ (by decide +kernel))
  · exact va_Nc.of (hs _ (by decide +kernel))
  · exact va_Nc.of (hs _ (by decide +kernel))
  · exact va_Nc.of (hs _ (by decide +kernel))
  · exact va_Nc.of (hs _ (by decide +kernel))
  · exact va_Nc.of (hs _ (by decide +kernel))
  · exact va_Nc.of (hs _ (by decide +kernel))
  · exact va_Nc.of (hs _ (by decide +kernel))
  · exact va_Nc.of (hs _ (by decide +kernel))
  · exact va_Nc.of (hs _ (by decide +kernel))
theorem tb_K_ok {s : State} {A : Array Value} (hts : ∀ w ∈ lw_tbl, w.before A s = true) : ∃ (D : va_G) (tA : FieldType → ClassId), va_K D vwCl (mi_tys tA) s := by
  have hG : ∀ w ∈ tb_GT, w.before A s = true := fun w hw => hts w (List.mem_filter.mp hw).1
  obtain ⟨c0, i0, hK0⟩ := u_known (C := RX0) (T := TX0) (N := 4) (n := 4) hG (tb_cls_ok 0 _ _ _ rfl).1 (hG _ (tb_cls_ok 0 _ _ _ rfl).2.2.2.1)
  obtain ⟨c1, i1, hK1⟩ := u_known (C := RX1) (T := TX1) (N := 1) (n := 1) hG (tb_cls_ok 1 _ _ _ rfl).1 (hG _ (tb_cls_ok 1 _ _ _ rfl).2.2.2.1)
  obtain ⟨c2, i2, hK2⟩ := u_known (C := RX2) (T := TX2) (N := 11) (n := 11) hG (tb_cls_ok 2 _ _ _ rfl).1 (hG _ (tb_cls_ok 2 _ _ _ rfl).2.2.2.1)
  obtain ⟨c3, i3, hK3⟩ := u_known (C := RX3) (T := TX3) (N := 8) (n := 8) hG (tb_cls_ok 3 _ _ _ rfl).1 (hG _ (tb_cls_ok 3 _ _ _ rfl).2.2.2.1)
  obtain ⟨c4, i4, hK4⟩ := u_known (C := RX4) (T := TX4) (N := 13) (n := 13) hG (tb_cls_ok 4 _ _ _ rfl).1 (hG _ (tb_cls_ok 4 _ _ _ rfl).2.2.2.1)
  obtain ⟨c5, i5, hK5⟩ := u_known (C := RX5) (T := TX5) (N := 1) (n := 1) hG (tb_cls_ok 5 _ _ _ rfl).1 (hG _ (tb_cls_ok 5 _ _ _ rfl).2.2.2.1)
  obtain ⟨c6, i6, hK6⟩ := u_known (C := RX6) (T := TX6) (N := 13) (n := 13) hG (tb_cls_ok 6 _ _ _ rfl).1 (hG _ (tb_cls_ok 6 _ _ _ rfl).2.2.2.1)
  obtain ⟨c7, i7, hK7⟩ := u_known (C := RX7) (T := TX7) (N := 6) (n := 6) hG (tb_cls_ok 7 _ _ _ rfl).1 (hG _ (tb_cls_ok 7 _ _ _ rfl).2.2.2.1)
  obtain ⟨c8, i8, hK8⟩ := u_known (C := RX8) (T := TX8) (N := 7) (n := 7) hG (tb_cls_ok 8 _ _ _ rfl).1 (hG _ (tb_cls_ok 8 _ _ _ rfl).2.2.2.1)
  obtain ⟨c9, i9, hK9⟩ := u_known (C := RX9) (T := TX9) (N := 4) (n := 4) hG (tb_cls_ok 9 _ _ _ rfl).1 (hG _ (tb_cls_ok 9 _ _ _ rfl).2.2.2.1)
  obtain ⟨c10, i10, hK10⟩ := u_known (C := RX10) (T := TX10) (N := 20) (n := 20) hG (tb_cls_ok 10 _ _ _ rfl).1 (hG _ (tb_cls_ok 10 _ _ _ rfl).2.2.2.1)
  obtain ⟨c11, i11, hK11⟩ := u_known (C := RX11) (T := TX11) (N := 99) (n := 99) hG (tb_cls_ok 11 _ _ _ rfl).1 (hG _ (tb_cls_ok 11 _ _ _ rfl).2.2.2.1)
  obtain ⟨aI, hI⟩ := tb_arr (hG _ tb_ok.1.1)
  obtain ⟨aL, hJ⟩ := tb_arr (hG _ tb_ok.1.2.1)
  obtain ⟨aZ, hZ⟩ := tb_arr (hG _ tb_ok.1.2.2)
  refine ⟨(fun k => [c0, c1, c2, c3, c4, c5, c6, c7, c8, c9, c10, c11].getD k 0, fun k => [i0, i1, i2, i3, i4, i5, i6, i7, i8, i9, i10, i11].getD k (fun _ => 0)), fun ty => match ty with
    | .int => aI
    | .long => aL
    | _ => aZ, ?_, ?_⟩
  · intro k q hq
    match k, hq with
    | 0, hq => cases hq; exact hK0
    | 1, hq => cases hq; exact hK1
    | 2, hq => cases hq; exact hK2
    | 3, hq => cases hq; exact hK3
    | 4, hq => cases hq; exact hK4
    | 5, hq => cases hq; exact hK5
    | 6, hq => cases hq; exact hK6
    | 7, hq => cases hq; exact hK7
    | 8, hq => cases hq; exact hK8
    | 9, hq => cases hq; exact hK9
    | 10, hq => cases hq; exact hK10
    | 11, hq => cases hq; exact hK11
    | k + 12, hq => simp [vwCl] at hq
  · intro k q hq
    match k, hq with
    | 0, hq => cases hq; exact ⟨hI.1, hI.2⟩
    | 1, hq => cases hq; exact ⟨hJ.1, hJ.2⟩
    | 2, hq => cases hq; exact ⟨hZ.1, hZ.2⟩
    | k + 3, hq => simp [mi_tys] at hq
/-- no member of a text is called by the tables -/
def lw_text : Prop := ∀ (s : State) (A : Array Value) (f : Nat → Nat), (∀ w ∈ lw_tbl, w.before A s = true) → (∀ w ∈ flatC (Jvm.Cond.and given_1 narrow_1), w.before A s = true) → (∀ q ∈ tb_SK, vk_R q.1 q.2.1 q.2.2.1 (f (q.2.2.2 + 1)) s) → ∃ ZT : State → Prop, mi_sta s.heap.size ZT ∧ mi_prim f s.heap.size tb_GT tb_P ZT ∧ ZT s
theorem lw_text_ok : lw_text := by
  intro s A f _ _ _
  refine ⟨fun _ => True, fun _ _ _ _ _ _ _ _ => trivial, ?_, trivial⟩
  intro p l e R s m args below meth c Q j ix k n t pc as r v ls H locs cells slots _ _ _ _ _ _ _ _ _ _ _ _ _ hpr
  cases hpr
set_option maxHeartbeats 4000000 in
/-- THE LAW, from its entry, if the small machine has run it to 1 -/
theorem whole_start (hp : lw_pure) (hT : lw_text) {p : Program} {e : Env} {s : State} {m : MethodId} {below : List Frame} {meth : Method} {c : Code} (l : Launch) (htr : l.stackTraces = false) {b L : Nat} {xs : Nat → Int32} (hL : L ≤ 6) (C0 : lw_At p s m meth c b L xs) : W p l e room_1 s m #[Value.ref b] below meth c s.heap [] 0 0 (lw_Z below #[Value.ref b] s) (entryFrame m ([Value.ref b] : List Value).toArray 7) := by
  obtain ⟨hx, hb, hr, hml, hown, hts, hX, hbl, hlocks, hgv, htab⟩ := C0
  obtain ⟨fuel, d, h', hd, hrun, hc, hs⟩ := hp L xs hL
  obtain ⟨D, tA, hK⟩ := tb_K_ok hts
  have hsf := flat_of_before _ hgv
  have hG : ∀ w ∈ tb_GT, w.before #[Value.ref b] s = true := fun w hw => hts w (List.mem_filter.mp hw).1
  have hno : ∀ a : Nat, a < s.heap.size → ¬ (fun q => s.heap.size ≤ q) a := fun a h => Nat.not_le.mpr h
  obtain ⟨fa, hfa⟩ := tb_adr (tb_SK_ok hts hsf)
  obtain ⟨bb, hb0, hbt⟩ : ∃ bb : Nat → Nat, bb 0 = b ∧ ∀ t, bb (t + 1) = fa t := ⟨fun k => match k with
    | 0 => b
    | t + 1 => fa t, rfl, fun _ => rfl⟩
  have hSK : ∀ q ∈ tb_SK, vk_R q.1 q.2.1 q.2.2.1 (bb (q.2.2.2 + 1)) s := fun q hq => by rw [hbt]; exact hfa q hq
  obtain ⟨ZT, hZT, hprim, hZs⟩ := hT s _ bb hts hsf hSK
  have hZ : mi_Z bb s.heap.size tb_SK tb_NC ZT s := by
    refine ⟨vx_Zqof (hts _ (tb_tab_in 3 _ (List.mem_of_getElem? (i := 197) (by decide +kernel)))) (hts _ (tb_tab_in 1 _ (List.mem_of_getElem? (i := 13) (by decide +kernel)))) (hsf _ (by decide +kernel)) hno, vx_Zqof (hts _ (tb_tab_in 3 _ (List.mem_of_getElem? (i := 199) (by decide +kernel)))) (hts _ (tb_tab_in 1 _ (List.mem_of_getElem? (i := 13) (by decide +kernel)))) (hsf _ (by decide +kernel)) hno, hSK, tb_NC_ok hsf, hZs⟩
  have hl := lv_entry ([.ref b]) (n := 7) (Nat.le_of_ble_eq_true rfl)
  rw [lg_entry_eq]
  generalize (lg_sl ([.ref b]) ++ List.replicate (7 - (lg_sl ([.ref b])).length) Slot.unset).toArray = ls at hl ⊢
  have hl : lv_has ls (mi_mx tb_P 0) (mi_lm bb s.heap.size [(0, .ref 0)]) := by
    show lv_has ls _ [(0, .ref (bb 0))]
    rw [hb0]
    exact hl
  have hR : mi_R D vwCl tA bb s.heap.size (1, 0, fun _ => mi_dead) s.heap := ⟨rfl, Nat.le_refl _, fun k hk => by
    have hk : k + 1 < 1 := hk
    omega⟩
  refine mi_run_ok (R := room_1) (D := D) (cl := vwCl) (tA := tA) (GT := tb_GT) (P := tb_P) (j := 0) (d := d) (n0 := 1) (s0 := 0) (b := bb) (B := s.heap.size) (SK := tb_SK) (NC := tb_NC) (o := .inl (some (.int 1))) (h' := h') hZT hprim tb_ok hx hb hml htab hG hown (fun z => absurd z (by decide)) hK (by rw [hb0]; exact hX) (by rw [hb0]; exact hbl) (by rw [hb0]; exact hbl) hZ
    (by show 10 + d + 1 ≤ 2048; omega) (by show 200 + 64 * (d + 1) ≤ 84000; omega) (fun k as g o g' z => ⟨mi_sound hZT hprim tb_ok htr (by rw [hb0]; exact hbl) d k as g o g' z, mi_call_le d k as g o g' z⟩)
    (by show h'.1 ≤ 1 + 600002; omega) (by show h'.2.1 ≤ 0 + 7302232; omega) ?_ ?_ ?_ fuel 0 [(0, .ref 0)] [] _ hrun ls s.heap [] 0 0 hl hR va_S.rf rfl rfl
  · intro pc i st v ls H locs cells slots ho hi hv hR1 hS1 z1 z2
    cases ho
    have hdi := (mi_dec_ok ((tb_ok.2.2.2.2 0).2.1 pc i hi)).1
    have key : i = .ireturn ∧ st = [.int 1] := by
      unfold mi_ret at hv
      split at hv
      · split at hv
        · cases hv; exact ⟨rfl, rfl⟩
        · split at hv
          · cases hv; exact ⟨rfl, rfl⟩
          · cases hv
        · cases hv
      · split at hv <;> cases hv
      · split at hv <;> cases hv
      · split at hv <;> cases hv
      · split at hv <;> cases hv
      · cases hv
    obtain ⟨rfl, rfl⟩ := key
    refine va_forget hS1.2.2 (W.widen (k := 600002) (n := 7302232) (by omega) (by omega) ?_)
    exact lw_ret hx hb hr hlocks (hdi rfl)
  · intro pc E h1 ls H locs cells slots ho
    cases ho
  · intro pc E q9 ce ls H locs cells slots rest ho
    cases ho
set_option maxHeartbeats 4000000 in
theorem lw_walk (hp : lw_pure) (hT : lw_text) (l : Launch) (htr : l.stackTraces = false) (b : Addr) (xs : List Int32) : MetFree l x (headSpec (Jvm.Cond.code x code maxLocals ret :: tables_1) room_1) (lw_P b xs) (fun _ _ _ _ _ => True) lw_Q := by
  refine MetFree.of_bodyS (code := code) (maxLocals := maxLocals) (ret := ret) (by decide) ?_ ?_
  · intro args s m h hn
    obtain ⟨meth, c, h1, h2, h3, h4, h5, h6, -, -⟩ := Cond.code_spec hn (atoms_spec (ws := Jvm.Cond.code x code maxLocals ret :: tables_1) h _ List.mem_cons_self)
    exact ⟨meth, c, h1, h2, h3, h4, h5, h6⟩
  · intro p e s m args below meth c s₁ B hml0 hP _
    obtain ⟨rfl, hx, hbd, hgv⟩ := hP
    obtain ⟨scr, harrAt, hlist, hof, hsmall⟩ := hx
    obtain ⟨hcb, hkn, -, -⟩ := State.arrayAt?_spec harrAt
    have hown : s.vm.findClass R_law = some m.cls := findClass_of_methodNamed B.named
    have hts0 : ∀ c ∈ (Jvm.Cond.code x code maxLocals ret :: tables_1), c.before #[Value.ref b] s = true := atoms_spec (ws := Jvm.Cond.code x code maxLocals ret :: tables_1) B.pre
    have hts : ∀ w ∈ lw_tbl, w.before #[Value.ref b] s = true := k2_hts_sels lw_privs (fun w hw => hts0 w (List.mem_cons_of_mem _ hw)) lw_privs_ok
    have hml : c.maxLocals = 7 := B.maxLocals_eq (hts0 _ List.mem_cons_self)
    have htab : c.exceptionTable.toList = [] := by
      obtain ⟨meth9, c9, h1, h2, -, -, -, -, h7, -⟩ := Cond.code_spec B.named (hts0 _ List.mem_cons_self)
      cases Option.some.inj (h1.symm.trans B.method)
      cases Option.some.inj (h2.symm.trans (Stand.of_body B).code)
      rw [Array.isEmpty_iff.mp h7]
    have X₀ : Stand p l e room_1 s m #[Value.ref b] below meth c s₁ [] 0 0 := Stand.of_body B
    have hh0 : s₁.heap = s.heap := by rw [B.state]; rfl
    have hsz : scr.slots.size = xs.length := by rw [← Array.length_toList, hlist, List.length_map]
    have hval : ∀ j : Nat, j < xs.length → scr.slots[j]? = some (.int (xs.getD j 0)) := fun j hj => by
      rw [← Array.getElem?_toList, hlist]
      simp [hj]
    have hbl : b < s.heap.size := (Array.getElem?_eq_some_iff.mp hcb).1
    have hX : va_X b xs.length (fun j => xs.getD j 0) s s.heap := ⟨scr, hcb, hof, hkn, hsz, hval⟩
    have K : W p l e room_1 s m #[Value.ref b] below meth c s₁.heap [] 0 0 (lw_Z below #[Value.ref b] s) (entryFrame m ([Value.ref b] : List Value).toArray 7) := by
      rw [hh0]
      exact whole_start hp hT l htr hbd ⟨B.exec, B.bytes, B.returns, hml, hown, hts, hX, hbl, B.notSynchronized, hgv, htab⟩
    obtain ⟨t, a1, o, b1, b2, b3⟩ := K s₁ rfl X₀
    exact ⟨t, o, a1, b1, b2, b3⟩
theorem lw_pre_spec {args : Array Value} {s : State} (h : (Jvm.Cond.and given_1 narrow_1).before args s = true) (hr : rest_1_c.before args s = true) : ∃ (b : Addr) (xs : List Int32), lw_P b xs args s := by
  have hs := flat_of_before _ h
  have hq := flat_of_before _ hr
  have hc : (Cond.count 1).before args s = true := hs _ (by decide +kernel)
  have harr : (Cond.arrayOf (.arg 0) .int).before args s = true := hs _ (by decide +kernel)
  have hle : (Cond.le (.length (.arg 0)) (.int 6)).before args s = true := hs _ (by decide +kernel)
  have hlen : (Cond.isInt (.length (.arg 0))).before args s = true := hq _ (by decide +kernel)
  have hall : (Cond.all (.arg 0) (.isInt (.elem (.arg 0) (.index 0)))).before args s = true := hq _ (by decide +kernel)
  obtain ⟨b, xs, hb, hx⟩ := State.ints_of_pre rfl harr hlen hall
  have hsm : xs.length < 2 ^ 31 := hx.choose_spec.2.2.2
  have hev : (Term.length (.arg 0)).eval args s none [] s = some (.int xs.length.toInt32) := hx.length_eval hb
  have hv := Cond.le_ints hev (show (Term.int 6).eval args s none [] s = some (.int 6) from rfl)
  have hd : xs.length.toInt32 ≤ 6 := by
    simpa [Cond.before, Cond.holds, hv] using hle
  have hN : xs.length ≤ 6 := (Int32.ofNat_le_ofNat hsm (by decide)).mp (show Int32.ofNat xs.length ≤ Int32.ofNat 6 from hd)
  exact ⟨b, xs, Cond.one_arg hc (show args[0]? = some (.ref b) from hb), hx, hN, h⟩
theorem lw_comes (hp : lw_pure) (hT : lw_text) (l : Launch) (htr : l.stackTraces = false) : Comes l x (Jvm.Cond.code x code maxLocals ret :: tables_1) room_1 (fun tb e args s => Calls_1 tb e args s ∧ rest_1 tb e args s ∧ Pre_1 tb e args s)
    (fun _ _ args s o t => lw_Q args s o t) := by
  intro p e ha hc hk s m args below hf hfit hheap happ hpre
  obtain ⟨b, xs, hP⟩ := lw_pre_spec hpre.2.2 hpre.2.1
  obtain ⟨k, o, h1, h2, h3, hQ⟩ := lw_walk hp hT l htr b xs p e ha hc hk s m args below hf ((Spec.applies_iff_loose hf).mp happ).1 hP trivial
  exact ⟨k, o, h1, h2, h3, hQ⟩
theorem lw_frame {s t : State} {o : Outcome} {args : Array Value} (h : Framed s o t [] 600002 7302232) :
    Framed s o t (fieldLocs frame_1_writes args s ++ arrayLocs frame_1_arrays args s ++ staticLocs frame_1_statics s) 600002 7302232 := h
theorem lw_limb (hp : lw_pure) (hT : lw_text) (L : Cond) (hL : ∀ (args : Array Value) (s t : State), L.after args s (.returned (some (.int 1))) t = true) :
    ArmFor flags0 classFile x code maxLocals ret World_1 tables_1 room_1 Calls_1 rest_1 Pre_1
      (fun tb e a s o t => postC L tb e a s o t ∧ Framed s o t (fieldLocs frame_1_writes a s ++ arrayLocs frame_1_arrays a s ++ staticLocs frame_1_statics s) 600002 7302232) := by
  intro l hfl _ _ p e ha hc hk s m args below hf hfit hheap happ hpre
  have htr : l.stackTraces = false := by unfold Launch.stackTraces; rw [hfl]; decide +kernel
  obtain ⟨k, o, h1, h2, h3, rfl, hF⟩ := lw_comes hp hT l htr p e ha hc hk s m args below hf hfit hheap happ hpre
  exact ⟨k, _, h1, h2, h3, hL args s _, lw_frame hF⟩
theorem i_vc_open (hp : lw_pure) (hT : lw_text) : Claimed_1_1 ∧ Claimed_1_2 := ⟨lw_limb hp hT limb_1_1 (fun args s t => by simp [limb_1_1, Cond.after, Cond.holds, Cond.value]), lw_limb hp hT limb_1_2 (fun args s t => Cond.after_iff.mpr (by
  first | (rw [show limb_1_2 = Cond.eq .result (.int 1) from rfl, Cond.eq_ints (x := 1) (y := 1) rfl rfl]; simp; done) | (simp [limb_1_2, Cond.value, Term.eval]; done)))⟩
end
section
/-! Runs of the small machine over a script of which bounds alone are known: .float k is the script's int k (from 6 on: any int), .double k the same as a long. sy_ rows. -/
def sy_v (xs : Nat → Int32) (a v : Value) : Prop := match a with
  | .float k => ∃ x, v = .int x ∧ (k.toNat < 6 → x = xs k.toNat)
  | .double k => ∃ x : Int32, v = .long x.toInt64 ∧ (k.toNat < 6 → x = xs k.toNat)
  | .int y => v = .int y
  | .long y => v = .long y
  | .null => v = .null
  | .ref y => v = .ref y
  | .retAddr y => v = .retAddr y
def sy_s (xs : Nat → Int32) : List Value → List Value → Prop
  | [], t => t = []
  | a :: r, t => ∃ v w, t = v :: w ∧ sy_v xs a v ∧ sy_s xs r w
def sy_l (xs : Nat → Int32) : mi_L → mi_L → Prop
  | [], t => t = []
  | a :: r, t => ∃ v w, t = (a.1, v) :: w ∧ sy_v xs a.2 v ∧ sy_l xs r w
theorem sy_cat {xs : Nat → Int32} {a v : Value} (h : sy_v xs a v) : v.category = a.category := by
  cases a with
  | float k => obtain ⟨x, rfl, -⟩ := h; rfl
  | double k => obtain ⟨x, rfl, -⟩ := h; rfl
  | int y => cases h; rfl
  | long y => cases h; rfl
  | null => cases h; rfl
  | ref y => cases h; rfl
  | retAddr y => cases h; rfl
theorem sy_wt {xs : Nat → Int32} : ∀ {a t : List Value}, sy_s xs a t → mi_wt t = mi_wt a := by
  intro a
  induction a with
  | nil => intro t h; cases h; rfl
  | cons a r ih =>
    intro t h
    obtain ⟨v, w, rfl, hv, hr⟩ := h
    have h1 := ih hr
    unfold mi_wt at h1 ⊢
    simp only [List.map_cons, List.sum_cons, sy_cat hv, h1]
theorem sy_len {xs : Nat → Int32} : ∀ {a t : List Value}, sy_s xs a t → t.length = a.length := by
  intro a
  induction a with
  | nil => intro t h; cases h; rfl
  | cons a r ih =>
    intro t h
    obtain ⟨v, w, rfl, hv, hr⟩ := h
    simp only [List.length_cons, ih hr]
theorem sy_drop {xs : Nat → Int32} : ∀ {a t : List Value} (n : Nat), sy_s xs a t → sy_s xs (a.drop n) (t.drop n) := by
  intro a
  induction a with
  | nil => intro t n h; cases h; simp only [List.drop_nil]; rfl
  | cons a r ih =>
    intro t n h
    cases n with
    | zero => exact h
    | succ n =>
      obtain ⟨v, w, rfl, hv, hr⟩ := h
      exact ih n hr
theorem sy_take {xs : Nat → Int32} : ∀ {a t : List Value} (n : Nat), sy_s xs a t → sy_s xs (a.take n) (t.take n) := by
  intro a
  induction a with
  | nil => intro t n h; cases h; simp only [List.take_nil]; rfl
  | cons a r ih =>
    intro t n h
    cases n with
    | zero => rfl
    | succ n =>
      obtain ⟨v, w, rfl, hv, hr⟩ := h
      exact ⟨v, _, rfl, hv, ih n hr⟩
theorem sy_app {xs : Nat → Int32} : ∀ {a t a' t' : List Value}, sy_s xs a t → sy_s xs a' t' → sy_s xs (a ++ a') (t ++ t') := by
  intro a
  induction a with
  | nil => intro t a' t' h h'; cases h; exact h'
  | cons a r ih =>
    intro t a' t' h h'
    obtain ⟨v, w, rfl, hv, hr⟩ := h
    exact ⟨v, _, rfl, hv, ih hr h'⟩
theorem sy_rev {xs : Nat → Int32} : ∀ {a t : List Value}, sy_s xs a t → sy_s xs a.reverse t.reverse := by
  intro a
  induction a with
  | nil => intro t h; cases h; rfl
  | cons a r ih =>
    intro t h
    obtain ⟨v, w, rfl, hv, hr⟩ := h
    rw [List.reverse_cons, List.reverse_cons]
    exact sy_app (ih hr) ⟨v, [], rfl, hv, rfl⟩
theorem sy_lget {xs : Nat → Int32} {i : Nat} {a : Value} : ∀ {al l : mi_L}, sy_l xs al l → mi_lget al i = some a → ∃ v, mi_lget l i = some v ∧ sy_v xs a v := by
  intro al
  induction al with
  | nil => intro l h hg; cases hg
  | cons q r ih =>
    intro l h hg
    obtain ⟨v, w, rfl, hv, hr⟩ := h
    unfold mi_lget at hg ⊢
    rw [List.find?_cons] at hg ⊢
    cases hq : (q.1 == i) with
    | true =>
      simp only [hq, Option.map_some, Option.some.injEq] at hg ⊢
      subst hg
      exact ⟨v, rfl, hv⟩
    | false =>
      simp only [hq] at hg ⊢
      exact ih hr hg
theorem sy_filter {xs : Nat → Int32} {p : Nat × Value → Bool} (hp : ∀ n a v, a.category = v.category → p (n, a) = p (n, v)) : ∀ {al l : mi_L}, sy_l xs al l → sy_l xs (al.filter p) (l.filter p) := by
  intro al
  induction al with
  | nil => intro l h; cases h; rfl
  | cons q r ih =>
    intro l h
    obtain ⟨v, w, rfl, hv, hr⟩ := h
    have hq : p q = p (q.1, v) := hp q.1 q.2 v (sy_cat hv).symm
    rw [List.filter_cons, List.filter_cons, ← hq]
    cases hc : p q with
    | true => exact ⟨v, _, rfl, hv, ih hr⟩
    | false => exact ih hr
theorem sy_st1 {xs : Nat → Int32} {i : Nat} {a v : Value} {al l : mi_L} (hv : sy_v xs a v) (h : sy_l xs al l) : sy_l xs (mi_st1 al i a) (mi_st1 l i v) :=
  ⟨v, _, rfl, hv, sy_filter (fun n a v hc => by simp only [hc]) h⟩
theorem sy_st2 {xs : Nat → Int32} {i : Nat} {a v : Value} {al l : mi_L} (hv : sy_v xs a v) (h : sy_l xs al l) : sy_l xs (mi_st2 al i a) (mi_st2 l i v) :=
  ⟨v, _, rfl, hv, sy_filter (fun n a v hc => by simp only [hc]) h⟩
theorem sy_sub {xs : Nat → Int32} {i : Nat} {al l : mi_L} (h : sy_l xs al l) : sy_l xs (mi_sub al i) (mi_sub l i) :=
  sy_filter (fun n a v hc => by simp only [hc]) h
theorem sy_args {xs : Nat → Int32} : ∀ {a t : List Value} (i : Nat), sy_s xs a t → sy_l xs (lv_args i a) (lv_args i t) := by
  intro a
  induction a with
  | nil => intro t i h; cases h; rfl
  | cons a r ih =>
    intro t i h
    obtain ⟨v, w, rfl, hv, hr⟩ := h
    refine ⟨v, _, rfl, hv, ?_⟩
    rw [sy_cat hv]
    exact ih _ hr
/-- an array of ints of which its length alone is known; arrays of zeros as data (0 ints, 1 longs, else booleans) -/
def sy_hv (n : Nat) : mi_E := .inr (2000000, [.ref n])
def sy_za (k n : Nat) : FieldType × vp_A := if k = 0 then (.int, n, .inl (fun _ => 0)) else if k = 1 then (.long, n, .inr (.inl (fun _ => 0))) else (.boolean, n, .inl (fun _ => 0))
def sy_un (x : mi_E) : mi_E := match x with
  | .inr (c, [.ref k, .ref n]) => bif Nat.beq c 2000001 then .inl (sy_za k n) else .inr (c, [.ref k, .ref n])
  | x => x
def sy_good (x : mi_E) : Bool := match x with
  | .inr q => !(q.1 == 2000000)
  | .inl _ => true
def sy_obj (x : mi_E) : Bool := match x with
  | .inr q => Nat.blt q.1 1000000
  | .inl _ => false
theorem sy_un_obj {x : mi_E} (h : sy_obj x = true) : sy_un x = x := by
  unfold sy_un
  split
  · next c k n =>
    have h1 : Nat.blt c 1000000 = true := h
    have h2 : c < 1000000 := Nat.blt_eq.mp h1
    have h3 : Nat.beq c 2000001 = false := Bool.eq_false_iff.mpr (fun q => by have := Nat.eq_of_beq_eq_true q; omega)
    rw [h3]
    rfl
  · rfl
def sy_e (A y : mi_E) : Prop := (y = sy_un A ∧ sy_good (sy_un A) = true) ∨ ∃ (n : Nat) (f : Nat → Int32), A = sy_hv n ∧ y = .inl (.int, n, .inl f)
def sy_h (A h : mi_H) : Prop := h.1 = A.1 ∧ h.2.1 = A.2.1 ∧ ∀ a, a < A.1 → sy_e (A.2.2 a) (h.2.2 a)
theorem sy_get {A h : mi_H} {a : Nat} {x : mi_E} (H : sy_h A h) (hg : mi_get A a = some x) : ∃ y, mi_get h a = some y ∧ sy_e x y := by
  unfold mi_get at hg ⊢
  rw [H.1]
  split at hg
  · next hl => cases hg; rw [if_pos hl]; exact ⟨_, rfl, H.2.2 a hl⟩
  · cases hg
/-- what stands at a place, arrays of zeros as such -/
def sy_gt (A : mi_H) (a : Nat) : Option mi_E := match mi_get A a with
  | some x => some (sy_un x)
  | none => none
theorem sy_gt_g {A h : mi_H} {a : Nat} {x : mi_E} (H : sy_h A h) (hg : sy_gt A a = some x) (hx : sy_good x = true) : mi_get h a = some x := by
  unfold sy_gt at hg
  split at hg
  · next z hz =>
    cases hg
    obtain ⟨y, hy, he⟩ := sy_get H hz
    rcases he with ⟨rfl, -⟩ | ⟨n, f, rfl, rfl⟩
    · exact hy
    · exact absurd hx (by simp [sy_good, sy_un, sy_hv])
  · cases hg
theorem sy_set {A h : mi_H} {a : Nat} {x y : mi_E} (H : sy_h A h) (hx : sy_e x y) : sy_h (mi_set A a x) (mi_set h a y) := by
  refine ⟨H.1, H.2.1, fun j hj => ?_⟩
  show sy_e (if j = a then x else A.2.2 j) (if j = a then y else h.2.2 j)
  split
  · exact hx
  · exact H.2.2 j hj
theorem sy_push {A h : mi_H} {n : Nat} {x y : mi_E} (H : sy_h A h) (hx : sy_e x y) : sy_h (mi_push A n x) (mi_push h n y) := by
  refine ⟨congrArg (· + 1) H.1, congrArg (· + n) H.2.1, fun j hj => ?_⟩
  show sy_e (if j = A.1 then x else A.2.2 j) (if j = h.1 then y else h.2.2 j)
  rw [H.1]
  split
  · exact hx
  · have hj : j < A.1 + 1 := hj
    exact H.2.2 j (by omega)
theorem sy_inl (q : FieldType × vp_A) : sy_e (.inl q) (.inl q) := Or.inl ⟨rfl, rfl⟩
theorem sy_dead : sy_e mi_dead mi_dead := Or.inl ⟨rfl, rfl⟩
theorem sy_objs {x : mi_E} (h : sy_obj x = true) : sy_e x x := by
  refine Or.inl ⟨(sy_un_obj h).symm, ?_⟩
  rw [sy_un_obj h]
  cases x with
  | inl q => rfl
  | inr q =>
    have h1 : Nat.blt q.1 1000000 = true := h
    have h2 : q.1 < 1000000 := Nat.blt_eq.mp h1
    have h3 : q.1 ≠ 2000000 := by omega
    show (!(q.1 == 2000000)) = true
    simp [h3]
/-- the kinds of instructions -/
def sy_kd (i : Instr) : Nat := match i with
  | .iload_n _ | .iload _ | .lload_n _ | .lload _ | .aload_n _ | .aload _ | .istore_n _ | .istore _ | .lstore_n _ | .lstore _ | .astore_n _ | .astore _ | .iinc _ _ => 1
  | .goto _ | .if_icmp _ _ | .ifCond _ _ | .tableswitch _ _ _ _ | .lookupswitch _ _ => 2
  | .getfield _ | .putfield _ | .iaload | .laload | .baload | .iastore | .lastore | .bastore | .arraylength | .newarray _ | .new _ | .ldc _ | .ldc_w _ | .ldc2_w _ => 3
  | .ireturn | .lreturn | .areturn | .return_ => 4
  | .invokevirtual _ | .invokestatic _ | .invokespecial _ => 5
  | _ => 0
theorem sy_kd0 {i : Instr} {st r : List Value} (h : mi_pure i st = some r) : sy_kd i = 0 := by
  unfold mi_pure at h
  split at h <;> first | rfl | cases h
theorem sy_kd1 {nL : Nat} {i : Instr} {lv : mi_L} {st : List Value} {r : mi_L × List Value} (h : mi_loc nL i lv st = some r) : sy_kd i = 1 := by
  unfold mi_loc at h
  split at h <;> first | rfl | cases h
theorem sy_kd2 {i : Instr} {pc : Nat} {st : List Value} {r : Nat × List Value} (h : mi_jmp i pc st = some r) : sy_kd i = 2 := by
  unfold mi_jmp at h
  split at h <;> first | rfl | cases h
theorem sy_kd3 {P : mi_P} {L : Nat} {xs : Nat → Int32} {j : Nat} {i : Instr} {st : List Value} {g : mi_H} {r : List Value × mi_H} (h : mi_heap P L xs j i st g = some r) : sy_kd i = 3 := by
  unfold mi_heap at h
  split at h <;> first | rfl | cases h
theorem sy_kd4 {rt : Option FieldType} {i : Instr} {st : List Value} {r : Option Value} (h : mi_ret rt i st = some r) : sy_kd i = 4 := by
  unfold mi_ret at h
  split at h <;> first | rfl | cases h
section SyStep
variable {P : mi_P} {L : Nat} {xs : Nat → Int32} {call : mi_C} {j pc : Nat} {i : Instr} {lv : mi_L} {st : List Value} {g : mi_H}
theorem sy_no0 (h : sy_kd i ≠ 0) : mi_pure i st = none := by
  cases hq : mi_pure i st with
  | none => rfl
  | some r => exact absurd (sy_kd0 hq) h
theorem sy_no1 {nL : Nat} (h : sy_kd i ≠ 1) : mi_loc nL i lv st = none := by
  cases hq : mi_loc nL i lv st with
  | none => rfl
  | some r => exact absurd (sy_kd1 hq) h
theorem sy_no2 (h : sy_kd i ≠ 2) : mi_jmp i pc st = none := by
  cases hq : mi_jmp i pc st with
  | none => rfl
  | some r => exact absurd (sy_kd2 hq) h
theorem sy_no3 (h : sy_kd i ≠ 3) : mi_heap P L xs j i st g = none := by
  cases hq : mi_heap P L xs j i st g with
  | none => rfl
  | some r => exact absurd (sy_kd3 hq) h
theorem sy_no4 {rt : Option FieldType} (h : sy_kd i ≠ 4) : mi_ret rt i st = none := by
  cases hq : mi_ret rt i st with
  | none => rfl
  | some r => exact absurd (sy_kd4 hq) h
theorem sy_step0 (ht : mi_th P j pc = none) (hi : mi_is P j pc = some i) {r : List Value} (h : mi_pure i st = some r) : mi_step P L xs call j pc lv st g = some (.inl (pc + mi_len i, lv, r, g)) := by
  unfold mi_step
  simp only [ht, hi, h]
theorem sy_step1 (ht : mi_th P j pc = none) (hi : mi_is P j pc = some i) {r : mi_L × List Value} (h : mi_loc (mi_mx P j) i lv st = some r) : mi_step P L xs call j pc lv st g = some (.inl (pc + mi_len i, r.1, r.2, g)) := by
  have hk := sy_kd1 h
  unfold mi_step
  simp only [ht, hi, h, sy_no0 (st := st) (show sy_kd i ≠ 0 by rw [hk]; decide)]
theorem sy_step2 (ht : mi_th P j pc = none) (hi : mi_is P j pc = some i) {r : Nat × List Value} (h : mi_jmp i pc st = some r) : mi_step P L xs call j pc lv st g = some (.inl (r.1, lv, r.2, g)) := by
  have hk := sy_kd2 h
  unfold mi_step
  simp only [ht, hi, h, sy_no0 (st := st) (show sy_kd i ≠ 0 by rw [hk]; decide), sy_no1 (lv := lv) (st := st) (show sy_kd i ≠ 1 by rw [hk]; decide)]
theorem sy_step3 (ht : mi_th P j pc = none) (hi : mi_is P j pc = some i) {r : List Value × mi_H} (h : mi_heap P L xs j i st g = some r) : mi_step P L xs call j pc lv st g = some (.inl (pc + mi_len i, lv, r.1, r.2)) := by
  have hk := sy_kd3 h
  unfold mi_step
  simp only [ht, hi, h, sy_no0 (st := st) (show sy_kd i ≠ 0 by rw [hk]; decide), sy_no1 (lv := lv) (st := st) (show sy_kd i ≠ 1 by rw [hk]; decide), sy_no2 (st := st) (show sy_kd i ≠ 2 by rw [hk]; decide)]
theorem sy_step4 (ht : mi_th P j pc = none) (hi : mi_is P j pc = some i) {r : Option Value} (h : mi_ret (mi_rt P j) i st = some r) : mi_step P L xs call j pc lv st g = some (.inr (.inl r, g)) := by
  have hk := sy_kd4 h
  unfold mi_step
  simp only [ht, hi, h, sy_no0 (st := st) (show sy_kd i ≠ 0 by rw [hk]; decide), sy_no1 (lv := lv) (st := st) (show sy_kd i ≠ 1 by rw [hk]; decide), sy_no2 (st := st) (show sy_kd i ≠ 2 by rw [hk]; decide), sy_no3 (st := st) (show sy_kd i ≠ 3 by rw [hk]; decide)]
theorem sy_step5 (ht : mi_th P j pc = none) (hi : mi_is P j pc = some i) (hk : sy_kd i = 5) {q : mi_S} (h : mi_inv P call j i pc lv st g = some q) : mi_step P L xs call j pc lv st g = some q := by
  unfold mi_step
  simp only [ht, hi, h, sy_no0 (st := st) (show sy_kd i ≠ 0 by rw [hk]; decide), sy_no1 (lv := lv) (st := st) (show sy_kd i ≠ 1 by rw [hk]; decide), sy_no2 (st := st) (show sy_kd i ≠ 2 by rw [hk]; decide), sy_no3 (st := st) (show sy_kd i ≠ 3 by rw [hk]; decide), sy_no4 (st := st) (show sy_kd i ≠ 4 by rw [hk]; decide)]
end SyStep
end
section
/-! The steps of such runs. -/
/-- what is known: the script's first int's low four bits (below 16), its length (below 7), bounds of its ints -/
abbrev sy_V : Type := Nat × Nat × (Nat → Int × Int × Bool)
def sy_ok (V : sy_V) (L : Nat) (xs : Nat → Int32) : Prop := (V.1 < 16 → xs 0 &&& 15 = Int32.ofNat V.1) ∧ (V.2.1 < 7 → L = V.2.1) ∧ ∀ k, k < 6 → (V.2.2 k).1 ≤ (xs k).toInt ∧ (xs k).toInt ≤ (V.2.2 k).2.1
def sy_dec (k : ClassFile.Cond) (lo hi y : Int) : Option Bool := match k with
  | .eq => if lo = y ∧ hi = y then some true else if hi < y ∨ y < lo then some false else none
  | .ne => if lo = y ∧ hi = y then some false else if hi < y ∨ y < lo then some true else none
  | .lt => if hi < y then some true else if y ≤ lo then some false else none
  | .ge => if y ≤ lo then some true else if hi < y then some false else none
  | .gt => if y < lo then some true else if hi ≤ y then some false else none
  | .le => if hi ≤ y then some true else if y < lo then some false else none
theorem sy_dec_ok {k : ClassFile.Cond} {lo hi : Int} {x y : Int32} {b : Bool} (h : sy_dec k lo hi y.toInt = some b) (h1 : lo ≤ x.toInt) (h2 : x.toInt ≤ hi) : mi_cmp k x y = b := by
  have key : ∀ (p : Prop) [Decidable p], (p ↔ (b = true)) → decide p = b := by
    intro p _ hp
    cases b with
    | true => exact decide_eq_true (hp.mpr rfl)
    | false => exact decide_eq_false (fun q => by cases hp.mp q)
  cases k with
  | eq =>
    simp only [sy_dec] at h
    refine key _ ?_
    rw [← Int32.toInt_inj]
    split at h
    · cases h; simp only [iff_true]; omega
    · split at h
      · cases h; simp only [Bool.false_eq_true, iff_false]; omega
      · cases h
  | ne =>
    simp only [sy_dec] at h
    show (!decide (x = y)) = b
    rw [← Bool.not_not b]
    congr 1
    cases b with
    | true =>
      refine decide_eq_false ?_
      rw [← Int32.toInt_inj]
      split at h
      · cases h
      · split at h
        · omega
        · cases h
    | false =>
      refine decide_eq_true ?_
      rw [← Int32.toInt_inj]
      split at h
      · omega
      · split at h
        · cases h
        · cases h
  | lt =>
    simp only [sy_dec] at h
    refine key _ ?_
    rw [Int32.lt_iff_toInt_lt]
    split at h
    · cases h; simp only [iff_true]; omega
    · split at h
      · cases h; simp only [Bool.false_eq_true, iff_false]; omega
      · cases h
  | ge =>
    simp only [sy_dec] at h
    refine key _ ?_
    rw [Int32.le_iff_toInt_le]
    split at h
    · cases h; simp only [iff_true]; omega
    · split at h
      · cases h; simp only [Bool.false_eq_true, iff_false]; omega
      · cases h
  | gt =>
    simp only [sy_dec] at h
    refine key _ ?_
    rw [Int32.lt_iff_toInt_lt]
    split at h
    · cases h; simp only [iff_true]; omega
    · split at h
      · cases h; simp only [Bool.false_eq_true, iff_false]; omega
      · cases h
  | le =>
    simp only [sy_dec] at h
    refine key _ ?_
    rw [Int32.le_iff_toInt_le]
    split at h
    · cases h; simp only [iff_true]; omega
    · split at h
      · cases h; simp only [Bool.false_eq_true, iff_false]; omega
      · cases h
def sy_side (lo hi y : Int) : Option Int32 := if hi < y then some (-1) else if y < lo then some 1 else if lo = y ∧ hi = y then some 0 else none
theorem sy_side_ok {lo hi : Int} {x : Int32} {y : Int64} {c : Int32} (h : sy_side lo hi y.toInt = some c) (h1 : lo ≤ x.toInt) (h2 : x.toInt ≤ hi) : lg_cmp x.toInt64 y = c := by
  have hx : x.toInt64.toInt = x.toInt := Int32.toInt_toInt64 x
  unfold sy_side at h
  unfold lg_cmp
  simp only [gt_iff_lt, Int64.lt_iff_toInt_lt, ← Int64.toInt_inj, hx]
  split at h
  · cases h
    rw [if_neg (by omega), if_neg (by omega)]
  · split at h
    · cases h
      rw [if_pos (by omega)]
    · split at h
      · cases h
        rw [if_neg (by omega), if_pos (by omega)]
      · cases h
def sy_pure (V : sy_V) (i : Instr) (st : List Value) : Option (List Value) := match mi_pure i st with
  | some r => some r
  | none => match i, st with
    | .iand, .int y :: .float k :: r => if k = 0 ∧ y = 15 ∧ V.1 < 16 then some (.int (Int32.ofNat V.1) :: r) else some (.float 9 :: r)
    | .iushr, .int _ :: .float _ :: r => some (.float 9 :: r)
    | .ishr, .int _ :: .float _ :: r => some (.float 9 :: r)
    | .i2l, .float k :: r => some (.double k.toUInt64 :: r)
    | .lcmp, .long y :: .double k :: r => if k.toNat < 6 then (match sy_side (V.2.2 k.toNat).1 (V.2.2 k.toNat).2.1 y.toInt with
      | some c => some (.int c :: r)
      | none => none) else none
    | _, _ => none
theorem sy_top {xs : Nat → Int32} {x : Int32} : sy_v xs (.float 9) (.int x) := ⟨x, rfl, fun h => absurd h (by decide)⟩
set_option maxHeartbeats 4000000 in
theorem sy_pure_a {xs : Nat → Int32} {i : Instr} {a r t : List Value} (h : mi_pure i a = some r) (hs : sy_s xs a t) : ∃ w, mi_pure i t = some w ∧ sy_s xs r w := by
  unfold mi_pure at h
  split at h
  case h_27 =>
    obtain ⟨v, w, rfl, hv, hw⟩ := hs
    split at h
    · next hc =>
      cases h
      refine ⟨v :: v :: w, ?_, v, _, rfl, hv, v, _, rfl, hv, hw⟩
      show (if v.category = 1 then some (v :: v :: w) else none) = _
      rw [if_pos (by rw [sy_cat hv]; exact hc)]
    · cases h
  case h_28 =>
    obtain ⟨v, w, rfl, hv, hw⟩ := hs
    split at h
    · next hc =>
      cases h
      refine ⟨w, ?_, hw⟩
      show (if v.category = 1 then some w else none) = _
      rw [if_pos (by rw [sy_cat hv]; exact hc)]
    · cases h
  case h_29 =>
    obtain ⟨v, w, rfl, hv, u, z, rfl, hu, hz⟩ := hs
    split at h
    · next hc =>
      split at h
      · next hc2 =>
        cases h
        refine ⟨v :: u :: v :: u :: z, ?_, v, _, rfl, hv, u, _, rfl, hu, v, _, rfl, hv, u, _, rfl, hu, hz⟩
        show (if v.category = 1 then (if u.category = 1 then some (v :: u :: v :: u :: z) else none) else none) = _
        rw [if_pos (by rw [sy_cat hv]; exact hc), if_pos (by rw [sy_cat hu]; exact hc2)]
      · cases h
    · cases h
  case h_13 =>
    obtain ⟨v, w, rfl, hv, u, z, rfl, hu, hz⟩ := hs
    cases hv; cases hu
    split at h
    · cases h
    · next hc => cases h; exact ⟨_, if_neg hc, _, _, rfl, rfl, hz⟩
  case h_14 =>
    obtain ⟨v, w, rfl, hv, u, z, rfl, hu, hz⟩ := hs
    cases hv; cases hu
    split at h
    · cases h
    · next hc => cases h; exact ⟨_, if_neg hc, _, _, rfl, rfl, hz⟩
  all_goals first
    | (cases h; done)
    | (cases h; exact ⟨_, rfl, _, _, rfl, rfl, hs⟩)
    | (cases h; obtain ⟨v, w, rfl, hv, u, z, rfl, hu, hz⟩ := hs; cases hv; cases hu; exact ⟨_, rfl, _, _, rfl, rfl, hz⟩)
    | (cases h; obtain ⟨v, w, rfl, hv, hw⟩ := hs; cases hv; exact ⟨_, rfl, _, _, rfl, rfl, hw⟩)
theorem sy_pure_ok {V : sy_V} {L : Nat} {xs : Nat → Int32} (hV : sy_ok V L xs) {i : Instr} {a r t : List Value} (h : sy_pure V i a = some r) (hs : sy_s xs a t) : ∃ w, mi_pure i t = some w ∧ sy_s xs r w := by
  unfold sy_pure at h
  split at h
  · next r' hr => cases h; exact sy_pure_a hr hs
  · split at h
    · obtain ⟨v, w, rfl, hv, u, z, rfl, hu, hz⟩ := hs
      cases hv
      obtain ⟨x, rfl, hx⟩ := hu
      split at h
      · next hc =>
        cases h
        obtain ⟨rfl, rfl, h16⟩ := hc
        refine ⟨.int (x &&& 15) :: z, rfl, _, _, rfl, ?_, hz⟩
        have e1 := hx (by decide)
        have e2 := hV.1 h16
        show Value.int (x &&& 15) = Value.int (Int32.ofNat V.1)
        rw [e1, ← e2]
        rfl
      · cases h
        exact ⟨_, rfl, _, _, rfl, sy_top, hz⟩
    · obtain ⟨v, w, rfl, hv, u, z, rfl, hu, hz⟩ := hs
      cases hv
      obtain ⟨x, rfl, hx⟩ := hu
      cases h
      exact ⟨_, rfl, _, _, rfl, sy_top, hz⟩
    · obtain ⟨v, w, rfl, hv, u, z, rfl, hu, hz⟩ := hs
      cases hv
      obtain ⟨x, rfl, hx⟩ := hu
      cases h
      exact ⟨_, rfl, _, _, rfl, sy_top, hz⟩
    · obtain ⟨v, w, rfl, hv, hw⟩ := hs
      obtain ⟨x, rfl, hx⟩ := hv
      cases h
      exact ⟨_, rfl, _, _, rfl, ⟨x, rfl, fun h => by rw [UInt32.toNat_toUInt64] at h ⊢; exact hx h⟩, hw⟩
    · obtain ⟨v, w, rfl, hv, u, z, rfl, hu, hz⟩ := hs
      cases hv
      obtain ⟨x, rfl, hx⟩ := hu
      split at h
      · next hk =>
        split at h
        · next c hc =>
          cases h
          refine ⟨_, rfl, _, _, rfl, ?_, hz⟩
          have hb := hV.2.2 _ hk
          rw [← hx hk] at hb
          exact congrArg Value.int (sy_side_ok hc hb.1 hb.2)
        · cases h
      · cases h
    · cases h
def sy_loc (nL : Nat) (i : Instr) (lv : mi_L) (st : List Value) : Option (mi_L × List Value) := match mi_loc nL i lv st with
  | some q => some q
  | none => match i with
    | .iload_n k => match mi_lget lv (k : Nat) with
      | some (.float v) => some (lv, .float v :: st)
      | _ => none
    | .iload k => match mi_lget lv k with
      | some (.float v) => some (lv, .float v :: st)
      | _ => none
    | .lload_n k => match mi_lget lv (k : Nat) with
      | some (.double v) => some (lv, .double v :: st)
      | _ => none
    | .istore_n k => match st with
      | .float v :: r => if (k : Nat) < nL then some (mi_st1 lv (k : Nat) (.float v), r) else none
      | _ => none
    | .istore k => match st with
      | .float v :: r => if k < nL then some (mi_st1 lv k (.float v), r) else none
      | _ => none
    | _ => none
theorem sy_ld_a {xs : Nat → Int32} {k n : Nat} {al l : mi_L} {a t r : List Value} (h : mi_ld k al n a = some r) (hl : sy_l xs al l) (hs : sy_s xs a t) : ∃ w, mi_ld k l n t = some w ∧ sy_s xs r w := by
  unfold mi_ld at h
  split at h
  case h_6 => cases h
  all_goals
    next hg =>
    obtain ⟨v, hv, hr⟩ := sy_lget hl hg
    cases hr
    split at h
    · next hk =>
      cases h
      subst hk
      refine ⟨_, ?_, _, _, rfl, rfl, hs⟩
      unfold mi_ld
      rw [hv]
      rfl
    · cases h
theorem sy_sto_a {xs : Nat → Int32} {nL k n : Nat} {al l : mi_L} {a t : List Value} {r : mi_L × List Value} (h : mi_sto nL k al n a = some r) (hl : sy_l xs al l) (hs : sy_s xs a t) : ∃ w, mi_sto nL k l n t = some w ∧ sy_l xs r.1 w.1 ∧ sy_s xs r.2 w.2 := by
  unfold mi_sto at h
  split at h
  case h_6 => cases h
  case h_2 =>
    obtain ⟨v, w, rfl, hv, hw⟩ := hs
    cases hv
    split at h
    · next hc => cases h; exact ⟨_, if_pos hc, sy_st2 rfl hl, hw⟩
    · cases h
  all_goals
    obtain ⟨v, w, rfl, hv, hw⟩ := hs
    cases hv
    split at h
    · next hc => cases h; exact ⟨_, if_pos hc, sy_st1 rfl hl, hw⟩
    · cases h
theorem sy_loc_a {xs : Nat → Int32} {nL : Nat} {i : Instr} {al l : mi_L} {a t : List Value} {r : mi_L × List Value} (h : mi_loc nL i al a = some r) (hl : sy_l xs al l) (hs : sy_s xs a t) : ∃ w, mi_loc nL i l t = some w ∧ sy_l xs r.1 w.1 ∧ sy_s xs r.2 w.2 := by
  unfold mi_loc at h
  split at h
  case h_14 => cases h
  case h_13 =>
    obtain ⟨q, hq, e1⟩ := Option.map_eq_some_iff.mp h
    cases e1
    unfold mi_inc at hq
    split at hq
    · next x hg =>
      obtain ⟨v, hv, hr⟩ := sy_lget hl hg
      cases hr
      split at hq
      · next hc =>
        cases hq
        refine ⟨(mi_st1 l _ (.int _), t), ?_, sy_st1 rfl hl, hs⟩
        show (mi_inc _ _ _ _).map _ = _
        unfold mi_inc
        rw [hv]
        simp only [if_pos hc, Option.map_some]
      · cases hq
    · cases hq
  case h_7 => exact sy_sto_a h hl hs
  case h_8 => exact sy_sto_a h hl hs
  case h_9 => exact sy_sto_a h hl hs
  case h_10 => exact sy_sto_a h hl hs
  case h_11 => exact sy_sto_a h hl hs
  case h_12 => exact sy_sto_a h hl hs
  all_goals
    obtain ⟨q, hq, e1⟩ := Option.map_eq_some_iff.mp h
    cases e1
    obtain ⟨w, hw, hr⟩ := sy_ld_a hq hl hs
    refine ⟨(l, w), ?_, hl, hr⟩
    show (mi_ld _ _ _ _).map _ = _
    rw [hw]
    rfl
theorem sy_loc_ok {xs : Nat → Int32} {nL : Nat} {i : Instr} {al l : mi_L} {a t : List Value} {r : mi_L × List Value} (h : sy_loc nL i al a = some r) (hl : sy_l xs al l) (hs : sy_s xs a t) : ∃ w, mi_loc nL i l t = some w ∧ sy_l xs r.1 w.1 ∧ sy_s xs r.2 w.2 := by
  unfold sy_loc at h
  split at h
  · next q hq => cases h; exact sy_loc_a hq hl hs
  · split at h
    · split at h
      · next v hg =>
        cases h
        obtain ⟨u, hu, hr⟩ := sy_lget hl hg
        obtain ⟨x, rfl, hx⟩ := hr
        refine ⟨(l, .int x :: t), ?_, hl, _, _, rfl, ⟨x, rfl, hx⟩, hs⟩
        show (mi_ld 0 _ _ _).map _ = _
        unfold mi_ld
        rw [hu]
        rfl
      · cases h
    · split at h
      · next v hg =>
        cases h
        obtain ⟨u, hu, hr⟩ := sy_lget hl hg
        obtain ⟨x, rfl, hx⟩ := hr
        refine ⟨(l, .int x :: t), ?_, hl, _, _, rfl, ⟨x, rfl, hx⟩, hs⟩
        show (mi_ld 0 _ _ _).map _ = _
        unfold mi_ld
        rw [hu]
        rfl
      · cases h
    · split at h
      · next v hg =>
        cases h
        obtain ⟨u, hu, hr⟩ := sy_lget hl hg
        obtain ⟨x, rfl, hx⟩ := hr
        refine ⟨(l, .long x.toInt64 :: t), ?_, hl, _, _, rfl, ⟨x, rfl, hx⟩, hs⟩
        show (mi_ld 1 _ _ _).map _ = _
        unfold mi_ld
        rw [hu]
        rfl
      · cases h
    · split at h
      · split at h
        · next hc =>
          cases h
          obtain ⟨u, w, rfl, hu, hw⟩ := hs
          obtain ⟨x, rfl, hx⟩ := hu
          exact ⟨_, if_pos ⟨rfl, hc⟩, sy_st1 ⟨x, rfl, hx⟩ hl, hw⟩
        · cases h
      · cases h
    · split at h
      · split at h
        · next hc =>
          cases h
          obtain ⟨u, w, rfl, hu, hw⟩ := hs
          obtain ⟨x, rfl, hx⟩ := hu
          exact ⟨_, if_pos ⟨rfl, hc⟩, sy_st1 ⟨x, rfl, hx⟩ hl, hw⟩
        · cases h
      · cases h
    · cases h
def sy_jmp (V : sy_V) (i : Instr) (pc : Nat) (st : List Value) : Option (Nat × List Value) := match mi_jmp i pc st with
  | some q => some q
  | none => match i, st with
    | .if_icmp k off, .int y :: .float v :: r => if v.toNat < 6 then (match mi_tgt pc off, sy_dec k (V.2.2 v.toNat).1 (V.2.2 v.toNat).2.1 y.toInt with
      | some t, some b => some (if b = true then t else pc + 3, r)
      | _, _ => none) else none
    | .ifCond k off, .float v :: r => if v.toNat < 6 then (match mi_tgt pc off, sy_dec k (V.2.2 v.toNat).1 (V.2.2 v.toNat).2.1 (0 : Int32).toInt with
      | some t, some b => some (if b = true then t else pc + 3, r)
      | _, _ => none) else none
    | _, _ => none
theorem sy_jmp_a {xs : Nat → Int32} {i : Instr} {pc : Nat} {a t : List Value} {r : Nat × List Value} (h : mi_jmp i pc a = some r) (hs : sy_s xs a t) : ∃ w, mi_jmp i pc t = some w ∧ w.1 = r.1 ∧ sy_s xs r.2 w.2 := by
  unfold mi_jmp at h
  split at h
  · obtain ⟨n, hn, e1⟩ := Option.map_eq_some_iff.mp h
    cases e1
    refine ⟨(n, t), ?_, rfl, hs⟩
    show (mi_tgt _ _).map _ = _
    rw [hn]
    rfl
  · obtain ⟨n, hn, e1⟩ := Option.map_eq_some_iff.mp h
    cases e1
    obtain ⟨v, w, rfl, hv, u, z, rfl, hu, hz⟩ := hs
    cases hv; cases hu
    refine ⟨(_, z), ?_, rfl, hz⟩
    show (mi_tgt _ _).map _ = _
    rw [hn]
    rfl
  · obtain ⟨n, hn, e1⟩ := Option.map_eq_some_iff.mp h
    cases e1
    obtain ⟨v, w, rfl, hv, hw⟩ := hs
    cases hv
    refine ⟨(_, w), ?_, rfl, hw⟩
    show (mi_tgt _ _).map _ = _
    rw [hn]
    rfl
  · obtain ⟨v, w, rfl, hv, hw⟩ := hs
    cases hv
    split at h
    · next hc =>
      obtain ⟨n, hn, e1⟩ := Option.map_eq_some_iff.mp h
      cases e1
      refine ⟨(n, w), ?_, rfl, hw⟩
      unfold mi_jmp
      simp only [if_pos hc, hn, Option.map_some]
    · next hc =>
      split at h
      · next off ho =>
        obtain ⟨n, hn, e1⟩ := Option.map_eq_some_iff.mp h
        cases e1
        refine ⟨(n, w), ?_, rfl, hw⟩
        unfold mi_jmp
        simp only [if_neg hc, ho, hn, Option.map_some]
      · cases h
  · obtain ⟨v, w, rfl, hv, hw⟩ := hs
    cases hv
    split at h
    · next hc =>
      obtain ⟨n, hn, e1⟩ := Option.map_eq_some_iff.mp h
      cases e1
      refine ⟨(n, w), ?_, rfl, hw⟩
      unfold mi_jmp
      simp only [if_pos hc, hn, Option.map_some]
    · cases h
  · cases h
theorem sy_jmp_ok {V : sy_V} {L : Nat} {xs : Nat → Int32} (hV : sy_ok V L xs) {i : Instr} {pc : Nat} {a t : List Value} {r : Nat × List Value} (h : sy_jmp V i pc a = some r) (hs : sy_s xs a t) : ∃ w, mi_jmp i pc t = some w ∧ w.1 = r.1 ∧ sy_s xs r.2 w.2 := by
  unfold sy_jmp at h
  split at h
  · next q hq => cases h; exact sy_jmp_a hq hs
  · split at h
    · split at h
      · next hk =>
        split at h
        · next n b hn hb =>
          cases h
          obtain ⟨v, w, rfl, hv, u, z, rfl, hu, hz⟩ := hs
          cases hv
          obtain ⟨x, rfl, hx⟩ := hu
          have hB := hV.2.2 _ hk
          rw [← hx hk] at hB
          have hc := sy_dec_ok hb hB.1 hB.2
          refine ⟨(_, z), ?_, rfl, hz⟩
          show (mi_tgt _ _).map _ = _
          rw [hn, ← hc]
          rfl
        · cases h
      · cases h
    · split at h
      · next hk =>
        split at h
        · next n b hn hb =>
          cases h
          obtain ⟨v, w, rfl, hv, hw⟩ := hs
          obtain ⟨x, rfl, hx⟩ := hv
          have hB := hV.2.2 _ hk
          rw [← hx hk] at hB
          have hc := sy_dec_ok hb hB.1 hB.2
          refine ⟨(_, w), ?_, rfl, hw⟩
          show (mi_tgt _ _).map _ = _
          rw [hn, ← hc]
          rfl
        · cases h
      · cases h
    · cases h
end
section
/-! The steps in the heap, calls, whole runs over bounds. -/
def sy_pl (v : Value) : Bool := match v with
  | .float _ => false
  | .double _ => false
  | _ => true
theorem sy_pl_ok {xs : Nat → Int32} {v : Value} (h : sy_pl v = true) : sy_v xs v v := by
  cases v with
  | float k => cases h
  | double k => cases h
  | int y => rfl
  | long y => rfl
  | null => rfl
  | ref y => rfl
  | retAddr y => rfl
theorem sy_pl_eq {xs : Nat → Int32} {a v : Value} (h : sy_v xs a v) (hp : sy_pl a = true) : v = a := by
  cases a with
  | float k => cases hp
  | double k => cases hp
  | int y => exact h
  | long y => exact h
  | null => exact h
  | ref y => exact h
  | retAddr y => exact h
def sy_gd (h : mi_H) (a : Nat) : Bool := match mi_get h a with
  | some x => sy_obj x
  | none => false
theorem sy_gd_ok {A h : mi_H} {a : Nat} (H : sy_h A h) (hg : sy_gd A a = true) : mi_get h a = mi_get A a := by
  unfold sy_gd at hg
  split at hg
  · next x hx =>
    rw [hx]
    obtain ⟨y, hy, he⟩ := sy_get H hx
    rcases he with ⟨rfl, -⟩ | ⟨n, f, rfl, rfl⟩
    · rw [sy_un_obj hg] at hy; exact hy
    · exact absurd hg (by simp [sy_obj, sy_hv, Nat.blt])
  · cases hg
/-- steps in arrays -/
def sy_ai4 (a : Nat) (x : Int32) (h : mi_H) : Option Value := match sy_gt h a with
  | some (.inl (.int, n, .inl f)) => if a = 0 ∨ x < 0 ∨ n ≤ x.toNatClampNeg then none else some (.int (f x.toNatClampNeg))
  | _ => none
def sy_ai8 (a : Nat) (x : Int32) (h : mi_H) : Option Value := match sy_gt h a with
  | some (.inl (.long, n, .inr (.inl f))) => if a = 0 ∨ x < 0 ∨ n ≤ x.toNatClampNeg then none else some (.long (f x.toNatClampNeg))
  | _ => none
def sy_ai1 (a : Nat) (x : Int32) (h : mi_H) : Option Value := match sy_gt h a with
  | some (.inl (.boolean, n, .inl f)) => if a = 0 ∨ x < 0 ∨ n ≤ x.toNatClampNeg then none else some (.int (f x.toNatClampNeg))
  | _ => none
def sy_si4 (a : Nat) (x v : Int32) (h : mi_H) : Option mi_H := match sy_gt h a with
  | some (.inl (.int, n, .inl f)) => if a = 0 ∨ x < 0 ∨ n ≤ x.toNatClampNeg then none else some (mi_set h a (.inl (.int, n, .inl (upd f x.toNatClampNeg v))))
  | _ => none
def sy_si8 (a : Nat) (x : Int32) (v : Int64) (h : mi_H) : Option mi_H := match sy_gt h a with
  | some (.inl (.long, n, .inr (.inl f))) => if a = 0 ∨ x < 0 ∨ n ≤ x.toNatClampNeg then none else some (mi_set h a (.inl (.long, n, .inr (.inl (vp_updL f x.toNatClampNeg v)))))
  | _ => none
def sy_si1 (a : Nat) (x v : Int32) (h : mi_H) : Option mi_H := match sy_gt h a with
  | some (.inl (.boolean, n, .inl f)) => if a = 0 ∨ x < 0 ∨ n ≤ x.toNatClampNeg then none else if mi_fit .boolean (.int v) = true then some (mi_set h a (.inl (.boolean, n, .inl (upd f x.toNatClampNeg v)))) else none
  | _ => none
def sy_len4 (a : Nat) (h : mi_H) : Option Value := if a = 0 then none else match sy_gt h a with
  | some (.inl (.int, x)) => some (.int (Int32.ofNat x.1))
  | some (.inl (.long, x)) => some (.int (Int32.ofNat x.1))
  | some (.inl (.boolean, x)) => some (.int (Int32.ofNat x.1))
  | some (.inr (c, [.ref n])) => if c = 2000000 then some (.int (Int32.ofNat n)) else none
  | _ => none
def sy_sif (a : Nat) (x : Int32) (h : mi_H) : Option mi_H := match sy_gt h a with
  | some (.inl (.int, n, .inl _)) => if a = 0 ∨ x < 0 ∨ n ≤ x.toNatClampNeg then none else some (mi_set h a (sy_hv n))
  | some (.inr (c, [.ref n])) => if c = 2000000 then (if a = 0 ∨ x < 0 ∨ n ≤ x.toNatClampNeg then none else some h) else none
  | _ => none
def sy_zk (t : ArrayType) : Option Nat := match t with
  | .int => some 0
  | .long => some 1
  | .boolean => some 2
  | _ => none
def sy_heap (P : mi_P) (V : sy_V) (j : Nat) (i : Instr) (st : List Value) (h : mi_H) : Option (List Value × mi_H) := match i, st with
  | .getfield ix, .ref a :: r => if sy_gd h a = true then (match mi_get_f P j ix a h with
    | some v => if sy_pl v = true then some (v :: r, h) else none
    | none => none) else none
  | .putfield ix, v :: .ref a :: r => if sy_gd h a = true ∧ sy_pl v = true then (mi_put_f P j ix a v h).map (fun g => (r, g)) else none
  | .iaload, .int x :: .ref a :: r =>
    if a = 0 then (if x < 0 ∨ V.2.1 ≤ x.toNatClampNeg ∨ 6 ≤ x.toNatClampNeg ∨ 7 ≤ V.2.1 then none else
      some ((if (V.2.2 x.toNatClampNeg).1 = (V.2.2 x.toNatClampNeg).2.1 then .int (Int32.ofInt (V.2.2 x.toNatClampNeg).1) else .float (UInt32.ofNat x.toNatClampNeg)) :: r, h))
    else (sy_ai4 a x h).map (fun v => (v :: r, h))
  | .laload, .int x :: .ref a :: r => (sy_ai8 a x h).map (fun v => (v :: r, h))
  | .baload, .int x :: .ref a :: r => (sy_ai1 a x h).map (fun v => (v :: r, h))
  | .iastore, .int v :: .int x :: .ref a :: r => (sy_si4 a x v h).map (fun g => (r, g))
  | .iastore, .float _ :: .int x :: .ref a :: r => (sy_sif a x h).map (fun g => (r, g))
  | .lastore, .long v :: .int x :: .ref a :: r => (sy_si8 a x v h).map (fun g => (r, g))
  | .bastore, .int v :: .int x :: .ref a :: r => (sy_si1 a x v h).map (fun g => (r, g))
  | .arraylength, .ref a :: r =>
    if a = 0 then (if V.2.1 < 7 then some (.int (Int32.ofNat V.2.1) :: r, h) else none)
    else (sy_len4 a h).map (fun v => (v :: r, h))
  | .newarray t, .int n :: r => if n < 0 ∨ 536870912 < n.toNatClampNeg * 8 then none else (sy_zk t).map (fun k => (.ref h.1 :: r, mi_push h n.toNatClampNeg (.inr (2000001, [.ref k, .ref n.toNatClampNeg]))))
  | .new ix, r => (match mi_nw P j ix with
    | some ci => if 1000000 ≤ ci then none else some (.ref h.1 :: r, mi_push h (mi_nf P ci) (.inr (ci, mi_dfs (mi_ft P) ci (mi_nf P ci))))
    | none => none)
  | .ldc ix, r => (match mi_cs P j ix with
    | some (.int x) => some (.int x :: r, h)
    | some (.retAddr t) => some (.retAddr t :: r, h)
    | _ => none)
  | .ldc_w ix, r => (match mi_cs P j ix with
    | some (.int x) => some (.int x :: r, h)
    | _ => none)
  | .ldc2_w ix, r => (match mi_cs P j ix with
    | some (.long x) => some (.long x :: r, h)
    | _ => none)
  | _, _ => none
section SyHeap
variable {A h : mi_H} {a : Nat} {x : Int32}
theorem sy_ld_i4 {L : Nat} {xs : Nat → Int32} {v : Value} (H : sy_h A h) (hh : sy_ai4 a x A = some v) : mi_ld_i4 L xs a x h = some v ∧ sy_pl v = true := by
  unfold sy_ai4 at hh
  split at hh
  · next n f hg =>
    split at hh
    · cases hh
    · next hc =>
      cases hh
      refine ⟨?_, rfl⟩
      unfold mi_ld_i4
      rw [if_neg (fun q => hc (Or.inl q)), sy_gt_g H hg rfl]
      exact if_neg (fun q => hc (Or.inr q))
  · cases hh
theorem sy_ld_i8 {v : Value} (H : sy_h A h) (hh : sy_ai8 a x A = some v) : mi_ld_i8 a x h = some v ∧ sy_pl v = true := by
  unfold sy_ai8 at hh
  split at hh
  · next n f hg =>
    split at hh
    · cases hh
    · next hc =>
      cases hh
      refine ⟨?_, rfl⟩
      unfold mi_ld_i8
      rw [sy_gt_g H hg rfl]
      exact if_neg hc
  · cases hh
theorem sy_ld_i1 {v : Value} (H : sy_h A h) (hh : sy_ai1 a x A = some v) : mi_ld_i1 a x h = some v ∧ sy_pl v = true := by
  unfold sy_ai1 at hh
  split at hh
  · next n f hg =>
    split at hh
    · cases hh
    · next hc =>
      cases hh
      refine ⟨?_, rfl⟩
      unfold mi_ld_i1
      rw [sy_gt_g H hg rfl]
      exact if_neg hc
  · cases hh
theorem sy_as_i4 {v : Int32} {A' : mi_H} (H : sy_h A h) (hh : sy_si4 a x v A = some A') : ∃ h', mi_as_i4 a x v h = some h' ∧ sy_h A' h' := by
  unfold sy_si4 at hh
  split at hh
  · next n f hg =>
    split at hh
    · cases hh
    · next hc =>
      cases hh
      unfold mi_as_i4
      rw [sy_gt_g H hg rfl]
      exact ⟨_, if_neg hc, sy_set H (sy_inl _)⟩
  · cases hh
theorem sy_as_i8 {v : Int64} {A' : mi_H} (H : sy_h A h) (hh : sy_si8 a x v A = some A') : ∃ h', mi_as_i8 a x v h = some h' ∧ sy_h A' h' := by
  unfold sy_si8 at hh
  split at hh
  · next n f hg =>
    split at hh
    · cases hh
    · next hc =>
      cases hh
      unfold mi_as_i8
      rw [sy_gt_g H hg rfl]
      exact ⟨_, if_neg hc, sy_set H (sy_inl _)⟩
  · cases hh
theorem sy_as_i1 {v : Int32} {A' : mi_H} (H : sy_h A h) (hh : sy_si1 a x v A = some A') : ∃ h', mi_as_i1 a x v h = some h' ∧ sy_h A' h' := by
  unfold sy_si1 at hh
  split at hh
  · next n f hg =>
    split at hh
    · cases hh
    · next hc =>
      split at hh
      · next hf =>
        cases hh
        unfold mi_as_i1
        rw [sy_gt_g H hg rfl]
        exact ⟨_, by simp only [if_neg hc, if_pos hf], sy_set H (sy_inl _)⟩
      · cases hh
  · cases hh
theorem sy_hav {n c : Nat} (H : sy_h A h) (hg : sy_gt A a = some (.inr (c, [.ref n]))) (hc : c = 2000000) : A.2.2 a = sy_hv n ∧ ∃ f : Nat → Int32, mi_get h a = some (.inl (.int, n, .inl f)) := by
  unfold sy_gt at hg
  split at hg
  · next z hz =>
    obtain ⟨y, hy, he⟩ := sy_get H hz
    rcases he with ⟨-, e1⟩ | ⟨m, f, rfl, rfl⟩
    · have hg := Option.some.inj hg
      rw [hg] at e1
      subst hc
      exact absurd e1 (by simp [sy_good])
    · have e2 : sy_un (sy_hv m) = .inr (2000000, [.ref m]) := rfl
      have hg := Option.some.inj hg
      rw [e2] at hg
      have e3 := (Prod.mk.inj (Sum.inr.inj hg)).2
      have e5 : m = n := Value.ref.inj (List.cons.inj e3).1
      subst e5
      refine ⟨?_, f, hy⟩
      unfold mi_get at hz
      split at hz
      · exact Option.some.inj hz
      · cases hz
  · cases hg
theorem sy_alen {L : Nat} {v : Value} (H : sy_h A h) (hh : sy_len4 a A = some v) : mi_alen L a h = some v ∧ sy_pl v = true := by
  unfold sy_len4 at hh
  split at hh
  · cases hh
  · next ha =>
    unfold mi_alen
    rw [if_neg ha]
    split at hh
    · next n hg => rw [sy_gt_g H hg rfl]; cases hh; exact ⟨rfl, rfl⟩
    · next n hg => rw [sy_gt_g H hg rfl]; cases hh; exact ⟨rfl, rfl⟩
    · next n hg => rw [sy_gt_g H hg rfl]; cases hh; exact ⟨rfl, rfl⟩
    · next c n hg =>
      split at hh
      · next hc =>
        obtain ⟨-, f, hf⟩ := sy_hav H hg hc
        rw [hf]
        cases hh
        exact ⟨rfl, rfl⟩
      · cases hh
    · cases hh
theorem sy_asf {v : Int32} {A' : mi_H} (H : sy_h A h) (hh : sy_sif a x A = some A') : ∃ h', mi_as_i4 a x v h = some h' ∧ sy_h A' h' := by
  unfold sy_sif at hh
  split at hh
  · next n f hg =>
    split at hh
    · cases hh
    · next hc =>
      cases hh
      unfold mi_as_i4
      rw [sy_gt_g H hg rfl]
      exact ⟨_, if_neg hc, sy_set H (Or.inr ⟨n, _, rfl, rfl⟩)⟩
  · next c n hg =>
    split at hh
    · next hc0 =>
      split at hh
      · cases hh
      · next hc =>
        cases hh
        obtain ⟨hA, f, hf⟩ := sy_hav H hg hc0
        unfold mi_as_i4
        rw [hf]
        refine ⟨_, if_neg hc, H.1, H.2.1, fun b hb => ?_⟩
        show sy_e (A.2.2 b) (if b = a then _ else h.2.2 b)
        split
        · next e1 => rw [e1, hA]; exact Or.inr ⟨n, _, rfl, rfl⟩
        · exact H.2.2 b hb
    · cases hh
  · cases hh
theorem sy_zero {t : ArrayType} {k n : Nat} (hk : sy_zk t = some k) : ∃ q, mi_zero t n = some q ∧ sy_e (.inr (2000001, [.ref k, .ref n])) (.inl q) := by
  unfold sy_zk at hk
  split at hk
  · cases hk; exact ⟨_, rfl, Or.inl ⟨rfl, rfl⟩⟩
  · cases hk; exact ⟨_, rfl, Or.inl ⟨rfl, rfl⟩⟩
  · cases hk; exact ⟨_, rfl, Or.inl ⟨rfl, rfl⟩⟩
  · cases hk
end SyHeap
theorem sy_get_f {P : mi_P} {j ix a : Nat} {A h : mi_H} {v : Value} (H : sy_h A h) (hg : sy_gd A a = true) (hh : mi_get_f P j ix a A = some v) : mi_get_f P j ix a h = some v := by
  unfold mi_get_f at hh ⊢
  rw [sy_gd_ok H hg]
  exact hh
theorem sy_put_f {P : mi_P} {j ix a : Nat} {A h A' : mi_H} {v : Value} (H : sy_h A h) (hg : sy_gd A a = true) (hh : mi_put_f P j ix a v A = some A') : ∃ h', mi_put_f P j ix a v h = some h' ∧ sy_h A' h' := by
  unfold mi_put_f at hh ⊢
  rw [sy_gd_ok H hg]
  unfold sy_gd at hg
  split at hh
  · next ci fs cj k w h1 h2 =>
    rw [h1] at hg
    split at hh
    · next hc =>
      cases hh
      exact ⟨_, if_pos hc, sy_set H (sy_objs hg)⟩
    · cases hh
  · cases hh
set_option maxHeartbeats 4000000 in
theorem sy_heap_ok {P : mi_P} {V : sy_V} {L : Nat} {xs : Nat → Int32} (hV : sy_ok V L xs) {j : Nat} {i : Instr} {a t : List Value} {A h : mi_H} {r : List Value × mi_H} (hh : sy_heap P V j i a A = some r) (hs : sy_s xs a t) (H : sy_h A h) : ∃ w, mi_heap P L xs j i t h = some w ∧ sy_s xs r.1 w.1 ∧ sy_h r.2 w.2 := by
  unfold sy_heap at hh
  split at hh
  · obtain ⟨v, w, rfl, hv, hw⟩ := hs
    cases hv
    split at hh
    · next hg =>
      split at hh
      · next u hu =>
        split at hh
        · next hp =>
          cases hh
          refine ⟨(u :: w, h), ?_, ⟨u, w, rfl, sy_pl_ok hp, hw⟩, H⟩
          show (mi_get_f P j _ _ h).map _ = _
          rw [sy_get_f H hg hu]
          rfl
        · cases hh
      · cases hh
    · cases hh
  · obtain ⟨v, w, rfl, hv, u, z, rfl, hu, hz⟩ := hs
    cases hu
    split at hh
    · next hg =>
      obtain ⟨G, hG, e1⟩ := Option.map_eq_some_iff.mp hh
      cases e1
      obtain ⟨g, hg1, hg2⟩ := sy_put_f H hg.1 hG
      have hv1 := sy_pl_eq hv hg.2
      subst hv1
      refine ⟨(z, g), ?_, hz, hg2⟩
      show (mi_put_f P j _ _ _ h).map _ = _
      rw [hg1]
      rfl
    · cases hh
  · obtain ⟨v, w, rfl, hv, u, z, rfl, hu, hz⟩ := hs
    cases hv; cases hu
    rename_i x ad r
    split at hh
    · next ha =>
      subst ha
      split at hh
      · cases hh
      · next hc =>
        simp only [not_or, Nat.not_le] at hc
        obtain ⟨c1, c2, c3, c4⟩ := hc
        have hL := hV.2.1 c4
        cases hh
        refine ⟨(.int (xs x.toNatClampNeg) :: z, h), ?_, ⟨_, z, rfl, ?_, hz⟩, H⟩
        · show (mi_ld_i4 L xs 0 _ h).map _ = _
          unfold mi_ld_i4
          rw [if_pos rfl, if_neg]
          · rfl
          · rw [hL]
            intro hq
            rcases hq with hq | hq
            · exact c1 hq
            · omega
        · have hB := hV.2.2 _ c3
          split
          · next he =>
            show Value.int _ = Value.int _
            congr 1
            rw [← Int32.toInt_inj]
            rw [Int32.toInt_ofInt_of_le]
            · omega
            · have := Int32.le_toInt (xs x.toNatClampNeg); omega
            · have := Int32.toInt_lt (xs x.toNatClampNeg); omega
          · refine ⟨_, rfl, fun _ => ?_⟩
            congr 1
            rw [UInt32.toNat_ofNat']
            omega
    · next ha =>
      obtain ⟨v, hv, e1⟩ := Option.map_eq_some_iff.mp hh
      cases e1
      obtain ⟨h1, h2⟩ := sy_ld_i4 (L := L) (xs := xs) H hv
      refine ⟨(v :: z, h), ?_, ⟨v, z, rfl, sy_pl_ok h2, hz⟩, H⟩
      show (mi_ld_i4 L xs _ _ h).map _ = _
      rw [h1]
      rfl
  · obtain ⟨v, w, rfl, hv, u, z, rfl, hu, hz⟩ := hs
    cases hv; cases hu
    obtain ⟨v, hv, e1⟩ := Option.map_eq_some_iff.mp hh
    cases e1
    obtain ⟨h1, h2⟩ := sy_ld_i8 H hv
    refine ⟨(v :: z, h), ?_, ⟨v, z, rfl, sy_pl_ok h2, hz⟩, H⟩
    show (mi_ld_i8 _ _ h).map _ = _
    rw [h1]
    rfl
  · obtain ⟨v, w, rfl, hv, u, z, rfl, hu, hz⟩ := hs
    cases hv; cases hu
    obtain ⟨v, hv, e1⟩ := Option.map_eq_some_iff.mp hh
    cases e1
    obtain ⟨h1, h2⟩ := sy_ld_i1 H hv
    refine ⟨(v :: z, h), ?_, ⟨v, z, rfl, sy_pl_ok h2, hz⟩, H⟩
    show (mi_ld_i1 _ _ h).map _ = _
    rw [h1]
    rfl
  · obtain ⟨v, w, rfl, hv, u, z, rfl, hu, y, q, rfl, hy, hq⟩ := hs
    cases hv; cases hu; cases hy
    obtain ⟨G, hG, e1⟩ := Option.map_eq_some_iff.mp hh
    cases e1
    obtain ⟨g, h1, h2⟩ := sy_as_i4 H hG
    refine ⟨(q, g), ?_, hq, h2⟩
    show (mi_as_i4 _ _ _ h).map _ = _
    rw [h1]
    rfl
  · obtain ⟨v, w, rfl, hv, u, z, rfl, hu, y, q, rfl, hy, hq⟩ := hs
    obtain ⟨x, rfl, -⟩ := hv
    cases hu; cases hy
    obtain ⟨G, hG, e1⟩ := Option.map_eq_some_iff.mp hh
    cases e1
    obtain ⟨g, h1, h2⟩ := sy_asf (v := x) H hG
    refine ⟨(q, g), ?_, hq, h2⟩
    show (mi_as_i4 _ _ _ h).map _ = _
    rw [h1]
    rfl
  · obtain ⟨v, w, rfl, hv, u, z, rfl, hu, y, q, rfl, hy, hq⟩ := hs
    cases hv; cases hu; cases hy
    obtain ⟨G, hG, e1⟩ := Option.map_eq_some_iff.mp hh
    cases e1
    obtain ⟨g, h1, h2⟩ := sy_as_i8 H hG
    refine ⟨(q, g), ?_, hq, h2⟩
    show (mi_as_i8 _ _ _ h).map _ = _
    rw [h1]
    rfl
  · obtain ⟨v, w, rfl, hv, u, z, rfl, hu, y, q, rfl, hy, hq⟩ := hs
    cases hv; cases hu; cases hy
    obtain ⟨G, hG, e1⟩ := Option.map_eq_some_iff.mp hh
    cases e1
    obtain ⟨g, h1, h2⟩ := sy_as_i1 H hG
    refine ⟨(q, g), ?_, hq, h2⟩
    show (mi_as_i1 _ _ _ h).map _ = _
    rw [h1]
    rfl
  · obtain ⟨v, w, rfl, hv, hw⟩ := hs
    cases hv
    split at hh
    · next ha =>
      subst ha
      split at hh
      · next hc =>
        cases hh
        refine ⟨(.int (Int32.ofNat L) :: w, h), rfl, ⟨_, w, rfl, ?_, hw⟩, H⟩
        show Value.int _ = Value.int _
        rw [hV.2.1 hc]
      · cases hh
    · next ha =>
      obtain ⟨v, hv, e1⟩ := Option.map_eq_some_iff.mp hh
      cases e1
      obtain ⟨h1, h2⟩ := sy_alen (L := L) H hv
      refine ⟨(v :: w, h), ?_, ⟨v, w, rfl, sy_pl_ok h2, hw⟩, H⟩
      show (mi_alen L _ h).map _ = _
      rw [h1]
      rfl
  · obtain ⟨v, w, rfl, hv, hw⟩ := hs
    cases hv
    split at hh
    · cases hh
    · next hc =>
      obtain ⟨k, hk, e1⟩ := Option.map_eq_some_iff.mp hh
      cases e1
      obtain ⟨y, hy, he⟩ := sy_zero hk
      refine ⟨(.ref h.1 :: w, mi_push h _ (.inl y)), ?_, ⟨_, w, rfl, ?_, hw⟩, sy_push H he⟩
      · unfold mi_heap
        simp only [if_neg hc, hy, Option.map_some]
      · exact congrArg Value.ref H.1
  · split at hh
    · next ci hci =>
      split at hh
      · cases hh
      · next hc =>
        cases hh
        refine ⟨(.ref h.1 :: t, mi_push h (mi_nf P ci) (.inr (ci, mi_dfs (mi_ft P) ci (mi_nf P ci)))), ?_, ⟨_, t, rfl, ?_, hs⟩, sy_push H ?_⟩
        · show (mi_nw P j _).map _ = _
          rw [hci]
          rfl
        · exact congrArg Value.ref H.1
        · refine sy_objs ?_
          show Nat.blt ci 1000000 = true
          exact Nat.blt_eq.mpr (by omega)
    · cases hh
  · split at hh
    · next y hy =>
      cases hh
      refine ⟨(.int y :: t, h), ?_, ⟨_, t, rfl, rfl, hs⟩, H⟩
      unfold mi_heap
      simp only [hy]
    · next y hy =>
      cases hh
      refine ⟨(.retAddr y :: t, h), ?_, ⟨_, t, rfl, rfl, hs⟩, H⟩
      unfold mi_heap
      simp only [hy]
    · cases hh
  · split at hh
    · next y hy =>
      cases hh
      refine ⟨(.int y :: t, h), ?_, ⟨_, t, rfl, rfl, hs⟩, H⟩
      unfold mi_heap
      simp only [hy]
    · cases hh
  · split at hh
    · next y hy =>
      cases hh
      refine ⟨(.long y :: t, h), ?_, ⟨_, t, rfl, rfl, hs⟩, H⟩
      unfold mi_heap
      simp only [hy]
    · cases hh
  · cases hh
end
section
/-! Calls and whole runs over bounds. -/
def sy_hd (A : mi_H) (as : List Value) : Bool := match as with
  | .ref a :: _ => sy_gd A a
  | _ => true
/-- instructions as lists -/
abbrev sy_T : Type := Nat → Nat → Option Instr
def sy_tok (P : mi_P) (T : sy_T) : Prop := ∀ j pc i, T j pc = some i → mi_is P j pc = some i ∧ mi_th P j pc = none
def sy_inv (P : mi_P) (call : mi_C) (j : Nat) (i : Instr) (pc : Nat) (lv : mi_L) (st : List Value) (h : mi_H) : Option mi_S := match mi_site P j i with
  | some (_, kind, _, _) => if kind = 6 then none else mi_inv P call j i pc lv st h
  | none => none
def sy_O (xs : Nat → Int32) (o : mi_O) : Prop := ∀ v, o = .inl (some v) → sy_v xs v v
def sy_S (xs : Nat → Int32) (q q' : mi_S) : Prop := match q, q' with
  | .inl a, .inl b => b.1 = a.1 ∧ sy_l xs a.2.1 b.2.1 ∧ sy_s xs a.2.2.1 b.2.2.1 ∧ sy_h a.2.2.2 b.2.2.2
  | .inr a, .inr b => b.1 = a.1 ∧ sy_h a.2 b.2 ∧ sy_O xs a.1
  | _, _ => False
def sy_C (xs : Nat → Int32) (ac c : mi_C) : Prop := ∀ k as A o G, ac k as A = some (o, G) → ∀ vs h, sy_s xs as vs → sy_h A h → sy_hd A as = true ∧ sy_O xs o ∧ ∃ g, c k vs h = some (o, g) ∧ sy_h G g
theorem sy_cargs {xs : Nat → Int32} {kind n : Nat} {a t as r : List Value} (h : mi_cargs kind n a = some (as, r)) (hs : sy_s xs a t) : ∃ vs w, mi_cargs kind n t = some (vs, w) ∧ sy_s xs as vs ∧ sy_s xs r w := by
  unfold mi_cargs at h ⊢
  have hd := sy_drop n hs
  have ht := sy_take n hs
  split at h
  · next hk =>
    rw [if_pos hk]
    split at h
    · next x r' he =>
      rw [he] at hd
      obtain ⟨v, w, hv, hv2, hw⟩ := hd
      cases hv2
      cases h
      rw [hv]
      exact ⟨_, _, rfl, ⟨_, _, rfl, rfl, sy_rev ht⟩, hw⟩
    · cases h
  · next hk =>
    rw [if_neg hk]
    split at h
    · next hl =>
      cases h
      rw [if_pos (by rw [sy_len hs]; exact hl)]
      exact ⟨_, _, rfl, sy_rev ht, hd⟩
    · cases h
theorem sy_rc {xs : Nat → Int32} {P : mi_P} {k : Nat} {A h : mi_H} {as vs : List Value} (hr : mi_rc P k A as = true) (hd : sy_hd A as = true) (hs : sy_s xs as vs) (H : sy_h A h) : mi_rc P k h vs = true := by
  unfold mi_rc at hr
  split at hr
  · next a r =>
    obtain ⟨v, w, rfl, hv, hw⟩ := hs
    cases hv
    have hd : sy_gd A a = true := hd
    unfold mi_rc
    simp only [sy_gd_ok H hd]
    exact hr
  · cases hr
theorem sy_exc {xs : Nat → Int32} {P : mi_P} {j pc : Nat} {al l : mi_L} {E : String} {G g : mi_H} {q : mi_S} (h : mi_exc P j pc al E G = some q) (hl : sy_l xs al l) (H : sy_h G g) : ∃ q', mi_exc P j pc l E g = some q' ∧ sy_S xs q q' := by
  unfold mi_exc at h ⊢
  split at h
  · next hc =>
    split at h
    · next he => cases h; exact ⟨.inr (.inr E, g), if_pos he, rfl, H, fun v hv => by cases hv⟩
    · cases h
  · next hp hc =>
    split at h
    · next n hi =>
      split at h
      · next hn => cases h; exact ⟨.inl (_, mi_sub l _, [], g), if_pos hn, rfl, sy_sub hl, rfl, H⟩
      · cases h
    · next n hi =>
      split at h
      · next hn => cases h; exact ⟨.inl (_, mi_sub l _, [], g), if_pos hn, rfl, sy_sub hl, rfl, H⟩
      · cases h
    · cases h
theorem sy_inv_ok {xs : Nat → Int32} {P : mi_P} {ac c : mi_C} (hC : sy_C xs ac c) {j pc : Nat} {i : Instr} {al l : mi_L} {a t : List Value} {A h : mi_H} {q : mi_S} (hh : sy_inv P ac j i pc al a A = some q) (hl : sy_l xs al l) (hs : sy_s xs a t) (H : sy_h A h) : ∃ q', mi_inv P c j i pc l t h = some q' ∧ sy_S xs q q' := by
  unfold sy_inv at hh
  split at hh
  · next k0 kind n ix hsite =>
    split at hh
    · cases hh
    · next h6 =>
      unfold mi_inv at hh ⊢
      rw [hsite] at hh ⊢
      simp only [if_neg h6] at hh ⊢
      split at hh
      · next h3 =>
        rw [if_pos h3]
        split at hh
        · obtain ⟨v, w, rfl, hv, hw⟩ := hs
          cases hv
          split at hh
          · next hwt => cases hh; exact ⟨.inl (_, l, w, h), if_pos (by rw [sy_wt hw]; exact hwt), rfl, hl, hw, H⟩
          · cases hh
        · cases hh
      · next h3 =>
        rw [if_neg h3]
        split at hh
        · cases hh
        · next as r hca =>
          obtain ⟨vs, w, hcv, hsv, hsw⟩ := sy_cargs hca hs
          rw [hcv]
          simp only []
          split at hh
          · next hcond =>
            split at hh
            · cases hh
            · next v G hcall =>
              cases hh
              obtain ⟨hd, hO, g, hg, hG⟩ := hC _ _ _ _ _ hcall vs h hsv H
              refine ⟨.inl (_, l, v.toList ++ w, g), ?_, rfl, hl, ?_, hG⟩
              · rw [if_pos ⟨by rw [sy_wt hsw]; exact hcond.1, fun hk => sy_rc (hcond.2 hk) hd hsv H⟩, hg]
              · cases v with
                | none => exact hsw
                | some v => exact ⟨v, w, rfl, hO v rfl, hsw⟩
            · next E G hcall =>
              obtain ⟨hd, hO, g, hg, hG⟩ := hC _ _ _ _ _ hcall vs h hsv H
              split at hh
              · cases hh
              · next hk =>
                obtain ⟨q', h1, h2⟩ := sy_exc hh hl hG
                refine ⟨q', ?_, h2⟩
                rw [if_pos ⟨by rw [sy_wt hsw]; exact hcond.1, fun hk => sy_rc (hcond.2 hk) hd hsv H⟩, hg]
                simp only [if_neg hk]
                exact h1
          · cases hh
  · cases hh
def sy_step (P : mi_P) (T : sy_T) (V : sy_V) (call : mi_C) (j pc : Nat) (lv : mi_L) (st : List Value) (h : mi_H) : Option mi_S := match T j pc with
  | some i => (match sy_kd i with
    | 0 => (sy_pure V i st).map (fun r => .inl (pc + mi_len i, lv, r, h))
    | 1 => (sy_loc (mi_mx P j) i lv st).map (fun r => .inl (pc + mi_len i, r.1, r.2, h))
    | 2 => (sy_jmp V i pc st).map (fun r => .inl (r.1, lv, r.2, h))
    | 3 => (sy_heap P V j i st h).map (fun r => .inl (pc + mi_len i, lv, r.1, r.2))
    | 4 => (mi_ret (mi_rt P j) i st).map (fun r => .inr (.inl r, h))
    | 5 => sy_inv P call j i pc lv st h
    | _ => none)
  | none => (match mi_th P j pc with
    | some E => if st.isEmpty = true then some (.inr (.inr E, mi_push h 6 mi_dead)) else none
    | none => none)
theorem sy_ret {xs : Nat → Int32} {rt : Option FieldType} {i : Instr} {a t : List Value} {v : Option Value} (h : mi_ret rt i a = some v) (hs : sy_s xs a t) : mi_ret rt i t = some v ∧ sy_O xs (.inl v) := by
  have key : t = a ∧ sy_O xs (.inl v) := by
    unfold mi_ret at h
    split at h
    · obtain ⟨u, w, rfl, hu, hw⟩ := hs
      cases hu; cases hw
      refine ⟨rfl, fun z hz => ?_⟩
      cases hz
      split at h
      · cases h; rfl
      · split at h
        · cases h; rfl
        · cases h
      · cases h
    · obtain ⟨u, w, rfl, hu, hw⟩ := hs
      cases hu; cases hw
      refine ⟨rfl, fun z hz => ?_⟩
      cases hz
      split at h
      · cases h; rfl
      · cases h
    · obtain ⟨u, w, rfl, hu, hw⟩ := hs
      cases hu; cases hw
      refine ⟨rfl, fun z hz => ?_⟩
      cases hz
      split at h
      · cases h; rfl
      · cases h
    · obtain ⟨u, w, rfl, hu, hw⟩ := hs
      cases hu; cases hw
      refine ⟨rfl, fun z hz => ?_⟩
      cases hz
      split at h
      · cases h; rfl
      · cases h
    · cases hs
      refine ⟨rfl, fun z hz => ?_⟩
      cases hz
      split at h
      · cases h
      · cases h
    · cases h
  exact ⟨by rw [key.1]; exact h, key.2⟩
theorem sy_step_ok {V : sy_V} {L : Nat} {xs : Nat → Int32} (hV : sy_ok V L xs) {P : mi_P} {T : sy_T} (hT : sy_tok P T) {ac c : mi_C} (hC : sy_C xs ac c) {j pc : Nat} {al l : mi_L} {a t : List Value} {A h : mi_H} {q : mi_S} (hh : sy_step P T V ac j pc al a A = some q) (hl : sy_l xs al l) (hs : sy_s xs a t) (H : sy_h A h) : ∃ q', mi_step P L xs c j pc l t h = some q' ∧ sy_S xs q q' := by
  unfold sy_step at hh
  split at hh
  · next i hTi =>
    obtain ⟨hi, hE⟩ := hT _ _ _ hTi
    split at hh
    · obtain ⟨r, hr, e1⟩ := Option.map_eq_some_iff.mp hh
      cases e1
      obtain ⟨w, h1, h2⟩ := sy_pure_ok hV hr hs
      exact ⟨_, sy_step0 hE hi h1, rfl, hl, h2, H⟩
    · obtain ⟨r, hr, e1⟩ := Option.map_eq_some_iff.mp hh
      cases e1
      obtain ⟨w, h1, h2, h3⟩ := sy_loc_ok hr hl hs
      exact ⟨_, sy_step1 hE hi h1, rfl, h2, h3, H⟩
    · obtain ⟨r, hr, e1⟩ := Option.map_eq_some_iff.mp hh
      cases e1
      obtain ⟨w, h1, h2, h3⟩ := sy_jmp_ok hV hr hs
      exact ⟨_, sy_step2 hE hi h1, h2, hl, h3, H⟩
    · obtain ⟨r, hr, e1⟩ := Option.map_eq_some_iff.mp hh
      cases e1
      obtain ⟨w, h1, h2, h3⟩ := sy_heap_ok hV hr hs H
      exact ⟨_, sy_step3 hE hi h1, rfl, hl, h2, h3⟩
    · obtain ⟨r, hr, e1⟩ := Option.map_eq_some_iff.mp hh
      cases e1
      obtain ⟨h1, h2⟩ := sy_ret hr hs
      exact ⟨_, sy_step4 hE hi h1, rfl, H, h2⟩
    · next hk =>
      obtain ⟨q', h1, h2⟩ := sy_inv_ok hC hh hl hs H
      exact ⟨q', sy_step5 hE hi hk h1, h2⟩
    · cases hh
  · split at hh
    · next E hE =>
      split at hh
      · next he =>
        cases hh
        cases a with
        | nil =>
          cases hs
          refine ⟨.inr (.inr E, mi_push h 6 mi_dead), ?_, rfl, sy_push H sy_dead, fun v hv => by cases hv⟩
          unfold mi_step
          simp only [hE]
          rfl
        | cons a r => cases he
      · cases hh
    · cases hh
def sy_run (P : mi_P) (T : sy_T) (V : sy_V) (call : mi_C) (j : Nat) : Nat → Nat → mi_L → List Value → mi_H → Option (mi_O × mi_H)
  | 0, _, _, _, _ => none
  | n + 1, pc, lv, st, h => match sy_step P T V call j pc lv st h with
    | none => none
    | some (.inr o) => some o
    | some (.inl q) => sy_run P T V call j n q.1 q.2.1 q.2.2.1 q.2.2.2
def sy_call (P : mi_P) (T : sy_T) (V : sy_V) (fuel : Nat) : Nat → mi_C
  | 0, _, _, _ => none
  | d + 1, j, as, h => if mi_wt as ≤ mi_mx P j ∧ sy_hd h as = true then sy_run P T V (sy_call P T V fuel d) j fuel 0 (lv_args 0 as) [] h else none
theorem sy_run_ok {V : sy_V} {L : Nat} {xs : Nat → Int32} (hV : sy_ok V L xs) {P : mi_P} {T : sy_T} (hT : sy_tok P T) {ac c : mi_C} (hC : sy_C xs ac c) {j : Nat} : ∀ (n pc : Nat) (al l : mi_L) (a t : List Value) (A h : mi_H) (o : mi_O) (G : mi_H), sy_run P T V ac j n pc al a A = some (o, G) → sy_l xs al l → sy_s xs a t → sy_h A h → sy_O xs o ∧ ∃ g, mi_run P L xs c j n pc l t h = some (o, g) ∧ sy_h G g := by
  intro n
  induction n with
  | zero => intro pc al l a t A h o G hr; cases hr
  | succ n ih =>
    intro pc al l a t A h o G hr hl hs H
    unfold sy_run at hr
    split at hr
    · cases hr
    · next o' hq =>
      cases hr
      obtain ⟨q', h1, h2⟩ := sy_step_ok hV hT hC hq hl hs H
      cases q' with
      | inl b => exact absurd h2 (fun hf => hf)
      | inr b =>
        obtain ⟨e1, e2, e3⟩ := h2
        refine ⟨e3, b.2, ?_, e2⟩
        unfold mi_run
        rw [h1]
        have e1 : b.1 = o := e1
        rw [← e1]
    · next q hq =>
      obtain ⟨q', h1, h2⟩ := sy_step_ok hV hT hC hq hl hs H
      cases q' with
      | inr b => exact absurd h2 (fun hf => hf)
      | inl b =>
        obtain ⟨e1, e2, e3, e4⟩ := h2
        obtain ⟨h3, g, h4, h5⟩ := ih _ _ _ _ _ _ _ _ _ hr e2 e3 e4
        refine ⟨h3, g, ?_, h5⟩
        unfold mi_run
        rw [h1]
        simp only []
        rw [e1]
        exact h4
theorem sy_call_ok {V : sy_V} {L : Nat} {xs : Nat → Int32} (hV : sy_ok V L xs) {P : mi_P} {T : sy_T} (hT : sy_tok P T) {fuel : Nat} : ∀ d, sy_C xs (sy_call P T V fuel d) (mi_call P L xs fuel d) := by
  intro d
  induction d with
  | zero => intro k as A o G h; cases h
  | succ d ih =>
    intro k as A o G h vs g hs H
    unfold sy_call at h
    split at h
    · next hc =>
      obtain ⟨h1, g', h2, h3⟩ := sy_run_ok hV hT ih _ _ _ _ _ _ _ _ _ _ h (sy_args 0 hs) rfl H
      refine ⟨hc.2, h1, g', ?_, h3⟩
      unfold mi_call
      rw [if_pos (by rw [sy_wt hs]; exact hc.1)]
      exact h2
    · cases h
theorem mi_run_more {P : mi_P} {L : Nat} {xs : Nat → Int32} {c : mi_C} {j : Nat} : ∀ (n pc : Nat) (lv : mi_L) (st : List Value) (h : mi_H) (r : mi_O × mi_H), mi_run P L xs c j n pc lv st h = some r → mi_run P L xs c j (n + 1) pc lv st h = some r := by
  intro n
  induction n with
  | zero => intro pc lv st h r hr; cases hr
  | succ n ih =>
    intro pc lv st h r hr
    rw [mi_run] at hr
    rw [mi_run]
    split at hr
    · cases hr
    · next o ho => exact hr
    · next q hq => exact ih _ _ _ _ _ hr
/-- bounds cut in pieces -/
def sy_fork (f : Int → Int → Bool) : List Int → Int → Int → Bool
  | [], lo, hi => f lo hi
  | c :: r, lo, hi => f lo (c - 1) && sy_fork f r c hi
theorem sy_fork_ok {f : Int → Int → Bool} {x : Int} : ∀ (cs : List Int) (lo hi : Int), sy_fork f cs lo hi = true → lo ≤ x → x ≤ hi → ∃ a b, f a b = true ∧ a ≤ x ∧ x ≤ b := by
  intro cs
  induction cs with
  | nil => intro lo hi h h1 h2; exact ⟨lo, hi, h, h1, h2⟩
  | cons c r ih =>
    intro lo hi h h1 h2
    have h : (f lo (c - 1) && sy_fork f r c hi) = true := h
    rw [Bool.and_eq_true] at h
    by_cases hx : x ≤ c - 1
    · exact ⟨lo, c - 1, h.1, h1, hx⟩
    · exact ih c hi h.2 (by omega) h2
def sy_put (E : Nat → Int × Int × Bool) (k : Nat) (q : Int × Int × Bool) : Nat → Int × Int × Bool := fun j => if j = k then q else E j
/-- what is to be told at a place of the law before it goes on: the script's length, an int of it -/
def sy_ask (T : sy_T) (V : sy_V) (pc : Nat) (st : List Value) : Option (Option Nat) := match T 0 pc with
  | some .arraylength => (match st with
    | .ref a :: _ => if a = 0 ∧ ¬ V.2.1 < 7 then some none else none
    | _ => none)
  | some .iaload => (match st with
    | .int x :: .ref a :: _ => if a = 0 ∧ x.toNatClampNeg < 6 ∧ (V.2.2 x.toNatClampNeg).2.2 = false then some (some x.toNatClampNeg) else none
    | _ => none)
  | _ => none
def sy_law (P : mi_P) (T : sy_T) (call : sy_V → mi_C) (pol : Nat → Nat → List Int) (mc ms : Nat) : Nat → sy_V → Nat → mi_L → List Value → mi_H → Bool
  | 0, _, _, _, _, _ => false
  | n + 1, V, pc, lv, st, h => match sy_ask T V pc st with
    | some none => (List.range 7).all (fun l => sy_law P T call pol mc ms n (V.1, l, V.2.2) pc lv st h)
    | some (some k) => if k = 0 then (List.range 16).all (fun m => sy_law P T call pol mc ms n (m, V.2.1, sy_put V.2.2 0 (-2147483648, 2147483647, true)) pc lv st h)
      else sy_fork (fun lo hi => sy_law P T call pol mc ms n (V.1, V.2.1, sy_put V.2.2 k (lo, hi, true)) pc lv st h) (pol V.1 k) (-2147483648) 2147483647
    | none => match sy_step P T V (call V) 0 pc lv st h with
      | none => false
      | some (.inr o) => (match o.1 with
        | .inl (some (.int x)) => decide (x = 1) && (decide (o.2.1 ≤ mc) && decide (o.2.2.1 ≤ ms))
        | _ => false)
      | some (.inl q) => sy_law P T call pol mc ms n V q.1 q.2.1 q.2.2.1 q.2.2.2
theorem sy_and15 (x : Int32) : ∃ m, m < 16 ∧ x &&& 15 = Int32.ofNat m := by
  refine ⟨(x &&& 15).toBitVec.toNat, ?_, ?_⟩
  · have : (x &&& 15).toBitVec = x.toBitVec &&& 15#32 := rfl
    rw [this, BitVec.toNat_and]
    exact Nat.lt_of_le_of_lt Nat.and_le_right (by decide)
  · apply Int32.toBitVec.inj
    show _ = BitVec.ofNat 32 _
    rw [BitVec.ofNat_toNat]
    exact (BitVec.setWidth_eq _).symm
theorem sy_law_ok {P : mi_P} {T : sy_T} (hT : sy_tok P T) {L : Nat} {xs : Nat → Int32} (hL : L ≤ 6) {ac : sy_V → mi_C} {c : mi_C} (hC : ∀ V, sy_ok V L xs → sy_C xs (ac V) c) {pol : Nat → Nat → List Int} {mc ms : Nat} : ∀ (n : Nat) (V : sy_V) (pc : Nat) (al l : mi_L) (a t : List Value) (A h : mi_H), sy_law P T ac pol mc ms n V pc al a A = true → sy_ok V L xs → sy_l xs al l → sy_s xs a t → sy_h A h → ∃ g, mi_run P L xs c 0 n pc l t h = some (.inl (some (.int 1)), g) ∧ g.1 ≤ mc ∧ g.2.1 ≤ ms := by
  intro n
  induction n with
  | zero => intro V pc al l a t A h hr; cases hr
  | succ n ih =>
    intro V pc al l a t A h hr hV hl hs H
    unfold sy_law at hr
    split at hr
    · have h1 := List.all_eq_true.mp hr L (List.mem_range.mpr (by omega))
      obtain ⟨g, h2, h3⟩ := ih _ _ _ _ _ _ _ _ h1 ⟨hV.1, fun _ => rfl, hV.2.2⟩ hl hs H
      exact ⟨g, mi_run_more _ _ _ _ _ _ h2, h3⟩
    · next k hk =>
      split at hr
      · next hk0 =>
        obtain ⟨m, hm, he⟩ := sy_and15 (xs 0)
        have h1 := List.all_eq_true.mp hr m (List.mem_range.mpr hm)
        have hV1 : sy_ok (m, V.2.1, sy_put V.2.2 0 (-2147483648, 2147483647, true)) L xs := by
          refine ⟨fun _ => he, hV.2.1, fun k hk => ?_⟩
          show (sy_put V.2.2 0 (-2147483648, 2147483647, true) k).1 ≤ _ ∧ _ ≤ (sy_put V.2.2 0 (-2147483648, 2147483647, true) k).2.1
          unfold sy_put
          split
          · exact ⟨Int32.le_toInt _, by have := Int32.toInt_lt (xs k); show _ ≤ (2147483647 : Int); omega⟩
          · exact hV.2.2 k hk
        obtain ⟨g, h2, h3⟩ := ih _ _ _ _ _ _ _ _ h1 hV1 hl hs H
        exact ⟨g, mi_run_more _ _ _ _ _ _ h2, h3⟩
      · next hk0 =>
        obtain ⟨lo, hi, h1, h2, h3⟩ := sy_fork_ok (x := (xs k).toInt) _ _ _ hr (Int32.le_toInt _) (by have := Int32.toInt_lt (xs k); omega)
        have hV1 : sy_ok (V.1, V.2.1, sy_put V.2.2 k (lo, hi, true)) L xs := by
          refine ⟨hV.1, hV.2.1, fun q hq => ?_⟩
          show (sy_put V.2.2 k (lo, hi, true) q).1 ≤ _ ∧ _ ≤ (sy_put V.2.2 k (lo, hi, true) q).2.1
          unfold sy_put
          split
          · next e1 => subst e1; exact ⟨h2, h3⟩
          · exact hV.2.2 q hq
        obtain ⟨g, h4, h5⟩ := ih _ _ _ _ _ _ _ _ h1 hV1 hl hs H
        exact ⟨g, mi_run_more _ _ _ _ _ _ h4, h5⟩
    · split at hr
      · cases hr
      · next o ho =>
        split at hr
        · next x hx =>
          obtain ⟨q', h1, h2⟩ := sy_step_ok hV hT (hC V hV) ho hl hs H
          cases q' with
          | inl b => exact absurd h2 (fun hf => hf)
          | inr b =>
            obtain ⟨e1, e2, e3⟩ := h2
            simp only [Bool.and_eq_true, decide_eq_true_eq] at hr
            obtain ⟨rfl, h4, h5⟩ := hr
            refine ⟨b.2, ?_, by rw [e2.1]; exact h4, by rw [e2.2.1]; exact h5⟩
            unfold mi_run
            rw [h1]
            simp only []
            rw [← hx, ← e1]
        · cases hr
      · next q hq =>
        obtain ⟨q', h1, h2⟩ := sy_step_ok hV hT (hC V hV) hq hl hs H
        cases q' with
        | inr b => exact absurd h2 (fun hf => hf)
        | inl b =>
          obtain ⟨e1, e2, e3, e4⟩ := h2
          obtain ⟨g, h4, h5⟩ := ih _ _ _ _ _ _ _ _ hr hV e2 e3 e4
          refine ⟨g, ?_, h5⟩
          unfold mi_run
          rw [h1]
          simp only []
          rw [e1]
          exact h4
/-- the law's run up to a place -/
def sy_to (P : mi_P) (T : sy_T) (V : sy_V) (call : mi_C) (j stop : Nat) : Nat → Nat → mi_L → List Value → mi_H → Option (mi_L × List Value × mi_H)
  | 0, _, _, _, _ => none
  | n + 1, pc, lv, st, h => if pc = stop then some (lv, st, h) else match sy_step P T V call j pc lv st h with
    | some (.inl q) => sy_to P T V call j stop n q.1 q.2.1 q.2.2.1 q.2.2.2
    | _ => none
theorem sy_to_ok {V : sy_V} {L : Nat} {xs : Nat → Int32} (hV : sy_ok V L xs) {P : mi_P} {T : sy_T} (hT : sy_tok P T) {ac c : mi_C} (hC : sy_C xs ac c) {j stop : Nat} : ∀ (n pc : Nat) (al l : mi_L) (a t : List Value) (A h : mi_H) (q : mi_L × List Value × mi_H), sy_to P T V ac j stop n pc al a A = some q → sy_l xs al l → sy_s xs a t → sy_h A h → ∃ (l' : mi_L) (t' : List Value) (h' : mi_H), sy_l xs q.1 l' ∧ sy_s xs q.2.1 t' ∧ sy_h q.2.2 h' ∧ ∀ (k : Nat) (r : mi_O × mi_H), mi_run P L xs c j k stop l' t' h' = some r → mi_run P L xs c j (n + k) pc l t h = some r := by
  intro n
  induction n with
  | zero => intro pc al l a t A h q hr; cases hr
  | succ n ih =>
    intro pc al l a t A h q hr hl hs H
    unfold sy_to at hr
    split at hr
    · next hp =>
      cases hr
      subst hp
      refine ⟨l, t, h, hl, hs, H, fun k r hk => ?_⟩
      have key : ∀ m, mi_run P L xs c j (m + k) pc l t h = some r := by
        intro m
        induction m with
        | zero => rw [Nat.zero_add]; exact hk
        | succ m ihm => rw [Nat.succ_add]; exact mi_run_more _ _ _ _ _ _ ihm
      exact key _
    · split at hr
      · next q1 hq =>
        obtain ⟨q', h1, h2⟩ := sy_step_ok hV hT hC hq hl hs H
        cases q' with
        | inr b => exact absurd h2 (fun hf => hf)
        | inl b =>
          obtain ⟨e1, e2, e3, e4⟩ := h2
          obtain ⟨l', t', h', g1, g2, g3, g4⟩ := ih _ _ _ _ _ _ _ _ hr e2 e3 e4
          refine ⟨l', t', h', g1, g2, g3, fun k r hk => ?_⟩
          have g5 := g4 k r hk
          rw [Nat.succ_add]
          unfold mi_run
          rw [h1]
          simp only []
          rw [e1]
          exact g5
      · cases hr
end
section
/-! The instructions of all methods as lists: printed by wip/whole/gen_world.py. -/
/-- SpecialiserLaw.law([I)Z -/
def tb_I_0_0 : List (Nat × Instr) := [(0, .new 8), (3, .dup), (4, .invokespecial 61), (7, .astore_n 1), (8, .new 62), (11, .dup), (12, .invokespecial 64), (15, .astore_n 2), (16, .iconst 1), (17, .newarray .long), (19, .astore_n 3), (20, .iconst 0), (21, .istore 4), (23, .iload 4), (25, .aload_n 0), (26, .arraylength), (27, .bipush 6), (29, .isub), (30, .if_icmp .gt 946), (33, .aload_n 0), (34, .iload 4), (36, .iaload), (37, .bipush 15), (39, .iand), (40, .tableswitch 930 0 14 #[76, 180, 236, 249, 262, 330, 398, 454, 522, 578, 622, 678, 722, 778, 874]), (116, .aload_n 1), (117, .aload_n 0), (118, .iload 4), (120, .iconst 1), (121, .iadd), (122, .iaload), (123, .aload_n 0), (124, .iload 4), (126, .iconst 2), (127, .iadd), (128, .iaload), (129, .aload_n 0), (130, .iload 4), (132, .iconst 3), (133, .iadd)]
def tb_I_0_1 : List (Nat × Instr) := [(134, .iaload), (135, .aload_n 0), (136, .iload 4), (138, .iconst 4), (139, .iadd), (140, .iaload), (141, .aload_n 0), (142, .iload 4), (144, .iconst 5), (145, .iadd), (146, .iaload), (147, .aload_n 3), (148, .invokestatic 65), (151, .istore 5), (153, .aload_n 2), (154, .aload_n 0), (155, .iload 4), (157, .iconst 1), (158, .iadd), (159, .iaload), (160, .aload_n 0), (161, .iload 4), (163, .iconst 2), (164, .iadd), (165, .iaload), (166, .aload_n 0), (167, .iload 4), (169, .iconst 3), (170, .iadd), (171, .iaload), (172, .aload_n 0), (173, .iload 4), (175, .iconst 4), (176, .iadd), (177, .iaload), (178, .aload_n 0), (179, .iload 4), (181, .iconst 5), (182, .iadd), (183, .iaload)]
def tb_I_0_2 : List (Nat × Instr) := [(184, .invokevirtual 70), (187, .istore 6), (189, .aload_n 2), (190, .invokevirtual 71), (193, .iload 5), (195, .if_icmp .eq 5), (198, .iconst 0), (199, .ireturn), (200, .iload 5), (202, .ifCond .ne 15), (205, .aload_n 3), (206, .iconst 0), (207, .laload), (208, .iload 6), (210, .i2l), (211, .lcmp), (212, .ifCond .eq 5), (215, .iconst 0), (216, .ireturn), (217, .goto 753), (220, .aload_n 1), (221, .aload_n 0), (222, .iload 4), (224, .iconst 1), (225, .iadd), (226, .iaload), (227, .aload_n 3), (228, .invokestatic 74), (231, .istore 5), (233, .aload_n 2), (234, .aload_n 0), (235, .iload 4), (237, .iconst 1), (238, .iadd), (239, .iaload), (240, .invokevirtual 77), (243, .istore 6), (245, .aload_n 2), (246, .invokevirtual 71), (249, .iload 5)]
def tb_I_0_3 : List (Nat × Instr) := [(251, .if_icmp .eq 5), (254, .iconst 0), (255, .ireturn), (256, .iload 5), (258, .ifCond .ne 15), (261, .aload_n 3), (262, .iconst 0), (263, .laload), (264, .iload 6), (266, .i2l), (267, .lcmp), (268, .ifCond .eq 5), (271, .iconst 0), (272, .ireturn), (273, .goto 697), (276, .aload_n 1), (277, .invokevirtual 78), (280, .aload_n 2), (281, .invokevirtual 81), (284, .if_icmp .eq 686), (287, .iconst 0), (288, .ireturn), (289, .aload_n 1), (290, .invokevirtual 82), (293, .aload_n 2), (294, .invokevirtual 85), (297, .if_icmp .eq 673), (300, .iconst 0), (301, .ireturn), (302, .aload_n 1), (303, .aload_n 0), (304, .iload 4), (306, .iconst 1), (307, .iadd), (308, .iaload), (309, .aload_n 0), (310, .iload 4), (312, .iconst 2), (313, .iadd), (314, .iaload)]
def tb_I_0_4 : List (Nat × Instr) := [(315, .aload_n 3), (316, .invokestatic 86), (319, .istore 5), (321, .aload_n 2), (322, .aload_n 0), (323, .iload 4), (325, .iconst 1), (326, .iadd), (327, .iaload), (328, .aload_n 0), (329, .iload 4), (331, .iconst 2), (332, .iadd), (333, .iaload), (334, .invokevirtual 89), (337, .istore 6), (339, .aload_n 2), (340, .invokevirtual 71), (343, .iload 5), (345, .if_icmp .eq 5), (348, .iconst 0), (349, .ireturn), (350, .iload 5), (352, .ifCond .ne 15), (355, .aload_n 3), (356, .iconst 0), (357, .laload), (358, .iload 6), (360, .i2l), (361, .lcmp), (362, .ifCond .eq 5), (365, .iconst 0), (366, .ireturn), (367, .goto 603), (370, .aload_n 1), (371, .aload_n 0), (372, .iload 4), (374, .iconst 1), (375, .iadd), (376, .iaload)]
def tb_I_0_5 : List (Nat × Instr) := [(377, .aload_n 0), (378, .iload 4), (380, .iconst 2), (381, .iadd), (382, .iaload), (383, .aload_n 3), (384, .invokestatic 90), (387, .istore 5), (389, .aload_n 2), (390, .aload_n 0), (391, .iload 4), (393, .iconst 1), (394, .iadd), (395, .iaload), (396, .aload_n 0), (397, .iload 4), (399, .iconst 2), (400, .iadd), (401, .iaload), (402, .invokevirtual 92), (405, .istore 6), (407, .aload_n 2), (408, .invokevirtual 71), (411, .iload 5), (413, .if_icmp .eq 5), (416, .iconst 0), (417, .ireturn), (418, .iload 5), (420, .ifCond .ne 15), (423, .aload_n 3), (424, .iconst 0), (425, .laload), (426, .iload 6), (428, .i2l), (429, .lcmp), (430, .ifCond .eq 5), (433, .iconst 0), (434, .ireturn), (435, .goto 535), (438, .aload_n 1)]
def tb_I_0_6 : List (Nat × Instr) := [(439, .aload_n 0), (440, .iload 4), (442, .iconst 1), (443, .iadd), (444, .iaload), (445, .aload_n 3), (446, .invokestatic 93), (449, .istore 5), (451, .aload_n 2), (452, .aload_n 0), (453, .iload 4), (455, .iconst 1), (456, .iadd), (457, .iaload), (458, .invokevirtual 95), (461, .istore 6), (463, .aload_n 2), (464, .invokevirtual 71), (467, .iload 5), (469, .if_icmp .eq 5), (472, .iconst 0), (473, .ireturn), (474, .iload 5), (476, .ifCond .ne 15), (479, .aload_n 3), (480, .iconst 0), (481, .laload), (482, .iload 6), (484, .i2l), (485, .lcmp), (486, .ifCond .eq 5), (489, .iconst 0), (490, .ireturn), (491, .goto 479), (494, .aload_n 1), (495, .aload_n 0), (496, .iload 4), (498, .iconst 1), (499, .iadd), (500, .iaload)]
def tb_I_0_7 : List (Nat × Instr) := [(501, .aload_n 0), (502, .iload 4), (504, .iconst 2), (505, .iadd), (506, .iaload), (507, .aload_n 3), (508, .invokestatic 96), (511, .istore 5), (513, .aload_n 2), (514, .aload_n 0), (515, .iload 4), (517, .iconst 1), (518, .iadd), (519, .iaload), (520, .aload_n 0), (521, .iload 4), (523, .iconst 2), (524, .iadd), (525, .iaload), (526, .invokevirtual 98), (529, .istore 6), (531, .aload_n 2), (532, .invokevirtual 71), (535, .iload 5), (537, .if_icmp .eq 5), (540, .iconst 0), (541, .ireturn), (542, .iload 5), (544, .ifCond .ne 15), (547, .aload_n 3), (548, .iconst 0), (549, .laload), (550, .iload 6), (552, .i2l), (553, .lcmp), (554, .ifCond .eq 5), (557, .iconst 0), (558, .ireturn), (559, .goto 411), (562, .aload_n 1)]
def tb_I_0_8 : List (Nat × Instr) := [(563, .aload_n 0), (564, .iload 4), (566, .iconst 1), (567, .iadd), (568, .iaload), (569, .aload_n 3), (570, .invokestatic 99), (573, .istore 5), (575, .aload_n 2), (576, .aload_n 0), (577, .iload 4), (579, .iconst 1), (580, .iadd), (581, .iaload), (582, .invokevirtual 101), (585, .istore 6), (587, .aload_n 2), (588, .invokevirtual 71), (591, .iload 5), (593, .if_icmp .eq 5), (596, .iconst 0), (597, .ireturn), (598, .iload 5), (600, .ifCond .ne 15), (603, .aload_n 3), (604, .iconst 0), (605, .laload), (606, .iload 6), (608, .i2l), (609, .lcmp), (610, .ifCond .eq 5), (613, .iconst 0), (614, .ireturn), (615, .goto 355), (618, .aload_n 1), (619, .aload_n 3), (620, .invokestatic 102), (623, .istore 5), (625, .aload_n 2), (626, .invokevirtual 105)]
def tb_I_0_9 : List (Nat × Instr) := [(629, .istore 6), (631, .aload_n 2), (632, .invokevirtual 71), (635, .iload 5), (637, .if_icmp .eq 5), (640, .iconst 0), (641, .ireturn), (642, .iload 5), (644, .ifCond .ne 15), (647, .aload_n 3), (648, .iconst 0), (649, .laload), (650, .iload 6), (652, .i2l), (653, .lcmp), (654, .ifCond .eq 5), (657, .iconst 0), (658, .ireturn), (659, .goto 311), (662, .aload_n 1), (663, .aload_n 0), (664, .iload 4), (666, .iconst 1), (667, .iadd), (668, .iaload), (669, .aload_n 3), (670, .invokestatic 106), (673, .istore 5), (675, .aload_n 2), (676, .aload_n 0), (677, .iload 4), (679, .iconst 1), (680, .iadd), (681, .iaload), (682, .invokevirtual 108), (685, .istore 6), (687, .aload_n 2), (688, .invokevirtual 71), (691, .iload 5), (693, .if_icmp .eq 5)]
def tb_I_0_10 : List (Nat × Instr) := [(696, .iconst 0), (697, .ireturn), (698, .iload 5), (700, .ifCond .ne 15), (703, .aload_n 3), (704, .iconst 0), (705, .laload), (706, .iload 6), (708, .i2l), (709, .lcmp), (710, .ifCond .eq 5), (713, .iconst 0), (714, .ireturn), (715, .goto 255), (718, .aload_n 1), (719, .aload_n 3), (720, .invokestatic 109), (723, .istore 5), (725, .aload_n 2), (726, .invokevirtual 111), (729, .istore 6), (731, .aload_n 2), (732, .invokevirtual 71), (735, .iload 5), (737, .if_icmp .eq 5), (740, .iconst 0), (741, .ireturn), (742, .iload 5), (744, .ifCond .ne 15), (747, .aload_n 3), (748, .iconst 0), (749, .laload), (750, .iload 6), (752, .i2l), (753, .lcmp), (754, .ifCond .eq 5), (757, .iconst 0), (758, .ireturn), (759, .goto 211), (762, .aload_n 1)]
def tb_I_0_11 : List (Nat × Instr) := [(763, .aload_n 0), (764, .iload 4), (766, .iconst 1), (767, .iadd), (768, .iaload), (769, .aload_n 3), (770, .invokestatic 112), (773, .istore 5), (775, .aload_n 2), (776, .aload_n 0), (777, .iload 4), (779, .iconst 1), (780, .iadd), (781, .iaload), (782, .invokevirtual 114), (785, .istore 6), (787, .aload_n 2), (788, .invokevirtual 71), (791, .iload 5), (793, .if_icmp .eq 5), (796, .iconst 0), (797, .ireturn), (798, .iload 5), (800, .ifCond .ne 15), (803, .aload_n 3), (804, .iconst 0), (805, .laload), (806, .iload 6), (808, .i2l), (809, .lcmp), (810, .ifCond .eq 5), (813, .iconst 0), (814, .ireturn), (815, .goto 155), (818, .aload_n 1), (819, .aload_n 0), (820, .iload 4), (822, .iconst 1), (823, .iadd), (824, .iaload)]
def tb_I_0_12 : List (Nat × Instr) := [(825, .ifCond .eq 7), (828, .iconst 1), (829, .goto 4), (832, .iconst 0), (833, .aload_n 0), (834, .iload 4), (836, .iconst 2), (837, .iadd), (838, .iaload), (839, .aload_n 0), (840, .iload 4), (842, .iconst 3), (843, .iadd), (844, .iaload), (845, .aload_n 3), (846, .invokestatic 115), (849, .istore 5), (851, .aload_n 2), (852, .aload_n 0), (853, .iload 4), (855, .iconst 1), (856, .iadd), (857, .iaload), (858, .ifCond .eq 7), (861, .iconst 1), (862, .goto 4), (865, .iconst 0), (866, .aload_n 0), (867, .iload 4), (869, .iconst 2), (870, .iadd), (871, .iaload), (872, .aload_n 0), (873, .iload 4), (875, .iconst 3), (876, .iadd), (877, .iaload), (878, .invokevirtual 118), (881, .istore 6), (883, .aload_n 2)]
def tb_I_0_13 : List (Nat × Instr) := [(884, .invokevirtual 71), (887, .iload 5), (889, .if_icmp .eq 5), (892, .iconst 0), (893, .ireturn), (894, .iload 5), (896, .ifCond .ne 15), (899, .aload_n 3), (900, .iconst 0), (901, .laload), (902, .iload 6), (904, .i2l), (905, .lcmp), (906, .ifCond .eq 5), (909, .iconst 0), (910, .ireturn), (911, .goto 59), (914, .aload_n 1), (915, .aload_n 0), (916, .iload 4), (918, .iconst 1), (919, .iadd), (920, .iaload), (921, .aload_n 3), (922, .invokestatic 119), (925, .istore 5), (927, .aload_n 2), (928, .aload_n 0), (929, .iload 4), (931, .iconst 1), (932, .iadd), (933, .iaload), (934, .invokevirtual 121), (937, .istore 6), (939, .aload_n 2), (940, .invokevirtual 71), (943, .iload 5), (945, .if_icmp .eq 5), (948, .iconst 0), (949, .ireturn)]
def tb_I_0_14 : List (Nat × Instr) := [(950, .iload 5), (952, .ifCond .ne 15), (955, .aload_n 3), (956, .iconst 0), (957, .laload), (958, .iload 6), (960, .i2l), (961, .lcmp), (962, .ifCond .eq 5), (965, .iconst 0), (966, .ireturn), (967, .goto 3), (970, .iinc 4 6), (973, .goto (-950)), (976, .iconst 1), (977, .ireturn)]
/-- Specialiser.<init>()V -/
def tb_I_1_0 : List (Nat × Instr) := [(0, .aload_n 0), (1, .invokespecial 3), (4, .aload_n 0), (5, .new 9), (8, .dup), (9, .sipush 8000), (12, .invokespecial 11), (15, .putfield 14), (18, .aload_n 0), (19, .iconst 0), (20, .putfield 18), (23, .aload_n 0), (24, .iconst (-1)), (25, .putfield 22), (28, .aload_n 0), (29, .new 25), (32, .dup), (33, .aload_n 0), (34, .getfield 14), (37, .invokespecial 27), (40, .putfield 30), (43, .aload_n 0), (44, .new 34), (47, .dup), (48, .sipush 1500), (51, .bipush 48), (53, .invokespecial 36), (56, .putfield 39), (59, .aload_n 0), (60, .new 34), (63, .dup), (64, .sipush 1500), (67, .bipush 48), (69, .invokespecial 36), (72, .putfield 43), (75, .aload_n 0), (76, .new 46), (79, .dup), (80, .aload_n 0), (81, .getfield 30)]
def tb_I_1_1 : List (Nat × Instr) := [(84, .aload_n 0), (85, .getfield 43), (88, .invokespecial 48), (91, .putfield 51), (94, .aload_n 0), (95, .new 55), (98, .dup), (99, .invokespecial 57), (102, .putfield 58), (105, .aload_n 0), (106, .new 55), (109, .dup), (110, .invokespecial 57), (113, .putfield 62), (116, .aload_n 0), (117, .new 65), (120, .dup), (121, .aload_n 0), (122, .getfield 39), (125, .invokespecial 67), (128, .putfield 70), (131, .aload_n 0), (132, .new 74), (135, .dup), (136, .aload_n 0), (137, .getfield 70), (140, .aload_n 0), (141, .getfield 39), (144, .aload_n 0), (145, .getfield 62), (148, .invokespecial 76), (151, .putfield 79), (154, .aload_n 0), (155, .new 9), (158, .dup), (159, .iconst 4), (160, .invokespecial 11), (163, .putfield 83), (166, .aload_n 0), (167, .iconst 0)]
def tb_I_1_2 : List (Nat × Instr) := [(168, .putfield 86), (171, .aload_n 0), (172, .new 9), (175, .dup), (176, .iconst 5), (177, .invokespecial 11), (180, .putfield 89), (183, .aload_n 0), (184, .new 9), (187, .dup), (188, .ldc 92), (190, .invokespecial 11), (193, .putfield 93), (196, .aload_n 0), (197, .iconst 0), (198, .putfield 96), (201, .aload_n 0), (202, .new 99), (205, .dup), (206, .aload_n 0), (207, .getfield 93), (210, .aload_n 0), (211, .getfield 58), (214, .invokespecial 101), (217, .putfield 104), (220, .aload_n 0), (221, .new 9), (224, .dup), (225, .iconst 4), (226, .invokespecial 11), (229, .putfield 108), (232, .aload_n 0), (233, .iconst 0), (234, .putfield 111), (237, .aload_n 0), (238, .new 9), (241, .dup), (242, .iconst 3), (243, .invokespecial 11), (246, .putfield 114)]
def tb_I_1_3 : List (Nat × Instr) := [(249, .return_)]
/-- Specialiser$Row.<init>(I)V -/
def tb_I_2_0 : List (Nat × Instr) := [(0, .aload_n 0), (1, .invokespecial 1), (4, .aload_n 0), (5, .iload_n 1), (6, .ifCond .ge 7), (9, .iconst 0), (10, .goto 4), (13, .iload_n 1), (14, .newarray .int), (16, .putfield 7), (19, .return_)]
/-- Specialiser$Tokens.<init>(LSpecialiser$Row;)V -/
def tb_I_3_0 : List (Nat × Instr) := [(0, .aload_n 0), (1, .invokespecial 3), (4, .aload_n 0), (5, .aload_n 1), (6, .putfield 9), (9, .aload_n 0), (10, .new 15), (13, .dup), (14, .sipush 1501), (17, .invokespecial 17), (20, .putfield 20), (23, .aload_n 0), (24, .new 15), (27, .dup), (28, .sipush 1501), (31, .invokespecial 17), (34, .putfield 23), (37, .aload_n 0), (38, .new 26), (41, .dup), (42, .sipush 1501), (45, .invokespecial 28), (48, .putfield 29), (51, .aload_n 0), (52, .iconst 0), (53, .putfield 33), (56, .aload_n 0), (57, .iconst 0), (58, .putfield 37), (61, .return_)]
/-- Specialiser$LongRow.<init>(I)V -/
def tb_I_4_0 : List (Nat × Instr) := [(0, .aload_n 0), (1, .invokespecial 3), (4, .aload_n 0), (5, .iload_n 1), (6, .ifCond .ge 7), (9, .iconst 0), (10, .goto 4), (13, .iload_n 1), (14, .newarray .long), (16, .putfield 9), (19, .return_)]
/-- Specialiser$Bodies.<init>(II)V -/
def tb_I_5_0 : List (Nat × Instr) := [(0, .aload_n 0), (1, .invokespecial 1), (4, .aload_n 0), (5, .new 7), (8, .dup), (9, .iload_n 1), (10, .invokespecial 9), (13, .putfield 12), (16, .aload_n 0), (17, .new 18), (20, .dup), (21, .iload_n 2), (22, .invokespecial 20), (25, .putfield 21), (28, .aload_n 0), (29, .new 18), (32, .dup), (33, .iload_n 2), (34, .invokespecial 20), (37, .putfield 25), (40, .aload_n 0), (41, .iconst 0), (42, .putfield 28), (45, .return_)]
/-- Specialiser$Trees.<init>(I)V -/
def tb_I_6_0 : List (Nat × Instr) := [(0, .aload_n 0), (1, .invokespecial 3), (4, .aload_n 0), (5, .new 9), (8, .dup), (9, .iload_n 1), (10, .invokespecial 11), (13, .putfield 14), (16, .aload_n 0), (17, .new 9), (20, .dup), (21, .iload_n 1), (22, .invokespecial 11), (25, .putfield 20), (28, .aload_n 0), (29, .new 9), (32, .dup), (33, .iload_n 1), (34, .invokespecial 11), (37, .putfield 23), (40, .aload_n 0), (41, .new 9), (44, .dup), (45, .iload_n 1), (46, .iconst 4), (47, .imul), (48, .invokespecial 11), (51, .putfield 26), (54, .aload_n 0), (55, .new 9), (58, .dup), (59, .iload_n 1), (60, .invokespecial 11), (63, .putfield 29), (66, .aload_n 0), (67, .new 9), (70, .dup), (71, .iload_n 1), (72, .invokespecial 11), (75, .putfield 32)]
def tb_I_6_1 : List (Nat × Instr) := [(78, .aload_n 0), (79, .iconst 0), (80, .putfield 35), (83, .return_)]
/-- Specialiser$Reader.<init>(LSpecialiser$Tokens;LSpecialiser$Bodies;)V -/
def tb_I_7_0 : List (Nat × Instr) := [(0, .aload_n 0), (1, .invokespecial 3), (4, .aload_n 0), (5, .aload_n 1), (6, .putfield 9), (9, .aload_n 0), (10, .aload_n 2), (11, .putfield 15), (14, .aload_n 0), (15, .aload_n 2), (16, .invokevirtual 19), (19, .putfield 25), (22, .aload_n 0), (23, .iconst 0), (24, .putfield 28), (27, .aload_n 0), (28, .bipush 20), (30, .putfield 32), (33, .aload_n 0), (34, .iconst 0), (35, .putfield 35), (38, .aload_n 0), (39, .iconst 0), (40, .putfield 38), (43, .aload_n 0), (44, .new 41), (47, .dup), (48, .bipush 48), (50, .invokespecial 43), (53, .putfield 46), (56, .aload_n 0), (57, .iconst 0), (58, .putfield 50), (61, .aload_n 0), (62, .new 41), (65, .dup), (66, .bipush 16), (68, .invokespecial 43), (71, .putfield 53), (74, .aload_n 0)]
def tb_I_7_1 : List (Nat × Instr) := [(75, .new 56), (78, .dup), (79, .bipush 16), (81, .invokespecial 58), (84, .putfield 59), (87, .aload_n 0), (88, .iconst 0), (89, .putfield 63), (92, .aload_n 0), (93, .iconst (-1)), (94, .putfield 66), (97, .return_)]
/-- Specialiser$Bodies.trees()LSpecialiser$Trees; -/
def tb_I_8_0 : List (Nat × Instr) := [(0, .aload_n 0), (1, .getfield 12), (4, .areturn)]
/-- Specialiser$Versions.<init>()V -/
def tb_I_9_0 : List (Nat × Instr) := [(0, .aload_n 0), (1, .invokespecial 3), (4, .aload_n 0), (5, .new 9), (8, .dup), (9, .sipush 1000), (12, .bipush 78), (14, .invokespecial 11), (17, .putfield 14), (20, .aload_n 0), (21, .new 20), (24, .dup), (25, .bipush 78), (27, .invokespecial 22), (30, .putfield 25), (33, .aload_n 0), (34, .new 20), (37, .dup), (38, .bipush 78), (40, .invokespecial 22), (43, .putfield 29), (46, .aload_n 0), (47, .new 20), (50, .dup), (51, .sipush 312), (54, .invokespecial 22), (57, .putfield 32), (60, .return_)]
/-- Specialiser$Runner.<init>(LSpecialiser$Bodies;)V -/
def tb_I_10_0 : List (Nat × Instr) := [(0, .aload_n 0), (1, .invokespecial 3), (4, .aload_n 0), (5, .new 9), (8, .dup), (9, .sipush 161), (12, .invokespecial 11), (15, .putfield 14), (18, .aload_n 0), (19, .new 9), (22, .dup), (23, .sipush 161), (26, .invokespecial 11), (29, .putfield 20), (32, .aload_n 0), (33, .new 9), (36, .dup), (37, .sipush 161), (40, .invokespecial 11), (43, .putfield 23), (46, .aload_n 0), (47, .new 9), (50, .dup), (51, .sipush 161), (54, .invokespecial 11), (57, .putfield 26), (60, .aload_n 0), (61, .new 9), (64, .dup), (65, .sipush 2576), (68, .invokespecial 11), (71, .putfield 29), (74, .aload_n 0), (75, .aload_n 1), (76, .putfield 32), (79, .aload_n 0), (80, .aload_n 1), (81, .invokevirtual 36), (84, .putfield 42), (87, .aload_n 0)]
def tb_I_10_1 : List (Nat × Instr) := [(88, .iconst 0), (89, .putfield 45), (92, .aload_n 0), (93, .iconst 0), (94, .putfield 49), (97, .aload_n 0), (98, .iconst 0), (99, .putfield 52), (102, .aload_n 0), (103, .iconst 0), (104, .putfield 55), (107, .aload_n 0), (108, .iconst 0), (109, .putfield 58), (112, .aload_n 0), (113, .iconst 0), (114, .putfield 61), (117, .return_)]
/-- Specialiser$Maker.<init>(LSpecialiser$Runner;LSpecialiser$Bodies;LSpecialiser$Versions;)V -/
def tb_I_11_0 : List (Nat × Instr) := [(0, .aload_n 0), (1, .invokespecial 3), (4, .aload_n 0), (5, .aload_n 1), (6, .putfield 9), (9, .aload_n 0), (10, .aload_n 2), (11, .putfield 15), (14, .aload_n 0), (15, .aload_n 2), (16, .invokevirtual 19), (19, .putfield 25), (22, .aload_n 0), (23, .aload_n 3), (24, .putfield 29), (27, .aload_n 0), (28, .aload_n 3), (29, .invokevirtual 33), (32, .invokevirtual 19), (35, .putfield 39), (38, .aload_n 0), (39, .new 42), (42, .dup), (43, .bipush 16), (45, .invokespecial 44), (48, .putfield 47), (51, .aload_n 0), (52, .new 42), (55, .dup), (56, .bipush 16), (58, .invokespecial 44), (61, .putfield 51), (64, .aload_n 0), (65, .new 42), (68, .dup), (69, .iconst 4), (70, .invokespecial 44), (73, .putfield 54), (76, .aload_n 0), (77, .iconst 0)]
def tb_I_11_1 : List (Nat × Instr) := [(78, .putfield 57), (81, .aload_n 0), (82, .iconst 0), (83, .putfield 61), (86, .aload_n 0), (87, .iconst 0), (88, .putfield 64), (91, .return_)]
/-- Specialiser$Versions.bodies()LSpecialiser$Bodies; -/
def tb_I_12_0 : List (Nat × Instr) := [(0, .aload_n 0), (1, .getfield 14), (4, .areturn)]
/-- Specialiser$Printer.<init>(LSpecialiser$Row;LSpecialiser$Versions;)V -/
def tb_I_13_0 : List (Nat × Instr) := [(0, .aload_n 0), (1, .invokespecial 3), (4, .aload_n 0), (5, .aload_n 1), (6, .putfield 9), (9, .aload_n 0), (10, .new 15), (13, .dup), (14, .bipush 16), (16, .invokespecial 17), (19, .putfield 20), (22, .aload_n 0), (23, .aload_n 2), (24, .putfield 23), (27, .aload_n 0), (28, .aload_n 2), (29, .invokevirtual 27), (32, .invokevirtual 33), (35, .putfield 39), (38, .aload_n 0), (39, .iconst 0), (40, .putfield 43), (43, .aload_n 0), (44, .iconst 0), (45, .putfield 47), (48, .aload_n 0), (49, .iconst 0), (50, .putfield 51), (53, .aload_n 0), (54, .iconst 0), (55, .putfield 54), (58, .return_)]
/-- Specialiser.read()I -/
def tb_I_14_0 : List (Nat × Instr) := [(0, .aload_n 0), (1, .getfield 30), (4, .aload_n 0), (5, .getfield 18), (8, .invokevirtual 135), (11, .aload_n 0), (12, .iconst 0), (13, .putfield 18), (16, .aload_n 0), (17, .getfield 51), (20, .aload_n 0), (21, .getfield 43), (24, .invokevirtual 138), (27, .istore_n 1), (28, .aload_n 0), (29, .aload_n 0), (30, .getfield 51), (33, .invokevirtual 142), (36, .putfield 22), (39, .iload_n 1), (40, .ifCond .eq 6), (43, .iload_n 1), (44, .ineg), (45, .ireturn), (46, .aload_n 0), (47, .getfield 39), (50, .astore_n 2), (51, .aload_n 0), (52, .aload_n 0), (53, .getfield 43), (56, .putfield 39), (59, .aload_n 0), (60, .aload_n 2), (61, .putfield 43), (64, .aload_n 0), (65, .getfield 58), (68, .invokevirtual 145), (71, .aload_n 0), (72, .getfield 39), (75, .invokevirtual 148)]
def tb_I_14_1 : List (Nat × Instr) := [(78, .ireturn)]
/-- Specialiser$Tokens.scan(I)V -/
def tb_I_15_0 : List (Nat × Instr) := [(0, .aload_n 0), (1, .iload_n 1), (2, .putfield 33), (5, .aload_n 0), (6, .iconst 0), (7, .putfield 37), (10, .iconst 0), (11, .istore_n 2), (12, .iload_n 2), (13, .aload_n 0), (14, .getfield 33), (17, .if_icmp .ge 40), (20, .aload_n 0), (21, .getfield 37), (24, .sipush 1501), (27, .if_icmp .ge 30), (30, .aload_n 0), (31, .getfield 23), (34, .aload_n 0), (35, .getfield 37), (38, .iload_n 2), (39, .invokevirtual 47), (42, .iload_n 2), (43, .iconst 1), (44, .aload_n 0), (45, .iload_n 2), (46, .invokevirtual 51), (49, .invokestatic 54), (52, .iadd), (53, .istore_n 2), (54, .goto (-42)), (57, .return_)]
/-- Specialiser$Row.put(II)V -/
def tb_I_16_0 : List (Nat × Instr) := [(0, .iload_n 1), (1, .ifCond .lt 19), (4, .iload_n 1), (5, .aload_n 0), (6, .getfield 7), (9, .arraylength), (10, .if_icmp .ge 10), (13, .aload_n 0), (14, .getfield 7), (17, .iload_n 1), (18, .iload_n 2), (19, .iastore), (20, .return_)]
/-- Specialiser$Tokens.scanOne(I)I -/
def tb_I_17_0 : List (Nat × Instr) := [(0, .aload_n 0), (1, .getfield 9), (4, .iload_n 1), (5, .invokevirtual 40), (8, .istore_n 2), (9, .iload_n 2), (10, .bipush 32), (12, .if_icmp .eq 9), (15, .iload_n 2), (16, .bipush 10), (18, .if_icmp .ne 5), (21, .iconst 1), (22, .ireturn), (23, .iload_n 2), (24, .invokestatic 60), (27, .ifCond .ne 10), (30, .iload_n 2), (31, .invokestatic 64), (34, .ifCond .eq 9), (37, .aload_n 0), (38, .iload_n 1), (39, .invokevirtual 67), (42, .ireturn), (43, .iload_n 2), (44, .bipush 61), (46, .if_icmp .ne 37), (49, .iload_n 1), (50, .iconst 1), (51, .iadd), (52, .aload_n 0), (53, .getfield 33), (56, .if_icmp .ge 27), (59, .aload_n 0), (60, .getfield 9), (63, .iload_n 1), (64, .iconst 1), (65, .iadd), (66, .invokevirtual 40), (69, .bipush 61), (71, .if_icmp .ne 12)]
def tb_I_17_1 : List (Nat × Instr) := [(74, .aload_n 0), (75, .bipush 10), (77, .lconst 0), (78, .iconst 2), (79, .invokevirtual 70), (82, .ireturn), (83, .aload_n 0), (84, .iload_n 2), (85, .invokestatic 74), (88, .lconst 0), (89, .iconst 1), (90, .invokevirtual 70), (93, .ireturn)]
/-- Specialiser$Row.at(I)I -/
def tb_I_18_0 : List (Nat × Instr) := [(0, .iload_n 1), (1, .ifCond .lt 21), (4, .iload_n 1), (5, .aload_n 0), (6, .getfield 7), (9, .arraylength), (10, .if_icmp .ge 12), (13, .aload_n 0), (14, .getfield 7), (17, .iload_n 1), (18, .iaload), (19, .goto 4), (22, .iconst 0), (23, .ireturn)]
/-- Specialiser$Tokens.isLetter(I)Z -/
def tb_I_19_0 : List (Nat × Instr) := [(0, .iload_n 0), (1, .bipush 97), (3, .if_icmp .lt 13), (6, .iload_n 0), (7, .bipush 122), (9, .if_icmp .gt 7), (12, .iconst 1), (13, .goto 4), (16, .iconst 0), (17, .ireturn)]
/-- Specialiser$Tokens.isDigit(I)Z -/
def tb_I_20_0 : List (Nat × Instr) := [(0, .iload_n 0), (1, .bipush 48), (3, .if_icmp .lt 13), (6, .iload_n 0), (7, .bipush 57), (9, .if_icmp .gt 7), (12, .iconst 1), (13, .goto 4), (16, .iconst 0), (17, .ireturn)]
/-- Specialiser$Tokens.scanRow(I)I -/
def tb_I_21_0 : List (Nat × Instr) := [(0, .lconst 0), (1, .lstore_n 2), (2, .lconst 0), (3, .lstore 4), (5, .iconst 1), (6, .istore 6), (8, .iload_n 1), (9, .istore 7), (11, .iload 7), (13, .aload_n 0), (14, .getfield 33), (17, .if_icmp .ge 94), (20, .aload_n 0), (21, .getfield 9), (24, .iload 7), (26, .invokevirtual 40), (29, .invokestatic 60), (32, .ifCond .ne 18), (35, .aload_n 0), (36, .getfield 9), (39, .iload 7), (41, .invokevirtual 40), (44, .invokestatic 64), (47, .ifCond .eq 64), (50, .aload_n 0), (51, .getfield 9), (54, .iload 7), (56, .invokevirtual 40), (59, .istore 8), (61, .lload_n 2), (62, .bipush 8), (64, .lshl), (65, .iload 8), (67, .i2l), (68, .lor), (69, .lstore_n 2), (70, .lload 4), (72, .ldc2_w 77), (75, .lmul), (76, .iload 8)]
def tb_I_21_1 : List (Nat × Instr) := [(78, .bipush 48), (80, .isub), (81, .i2l), (82, .ladd), (83, .lstore 4), (85, .iload 6), (87, .ifCond .eq 15), (90, .iload 8), (92, .invokestatic 64), (95, .ifCond .eq 7), (98, .iconst 1), (99, .goto 4), (102, .iconst 0), (103, .istore 6), (105, .iinc 7 1), (108, .goto (-97)), (111, .iload 7), (113, .iload_n 1), (114, .isub), (115, .istore 8), (117, .aload_n 0), (118, .getfield 9), (121, .iload_n 1), (122, .invokevirtual 40), (125, .invokestatic 60), (128, .ifCond .eq 34), (131, .iload 8), (133, .bipush 8), (135, .if_icmp .gt 17), (138, .aload_n 0), (139, .lload_n 2), (140, .invokestatic 79), (143, .lload_n 2), (144, .iload 8), (146, .invokevirtual 70), (149, .goto 12), (152, .aload_n 0), (153, .bipush 19), (155, .lconst 0), (156, .iload 8)]
def tb_I_21_2 : List (Nat × Instr) := [(158, .invokevirtual 70), (161, .ireturn), (162, .iload 6), (164, .ifCond .eq 23), (167, .iload 8), (169, .bipush 10), (171, .if_icmp .gt 16), (174, .lload 4), (176, .ldc2_w 83), (179, .lcmp), (180, .ifCond .gt 7), (183, .iconst 1), (184, .goto 4), (187, .iconst 0), (188, .istore 9), (190, .iload 9), (192, .ifCond .eq 15), (195, .aload_n 0), (196, .iconst 1), (197, .lload 4), (199, .iload 8), (201, .invokevirtual 70), (204, .goto 12), (207, .aload_n 0), (208, .bipush 19), (210, .lconst 0), (211, .iload 8), (213, .invokevirtual 70), (216, .ireturn)]
/-- Specialiser$Tokens.wordKind(J)I -/
def tb_I_22_0 : List (Nat × Instr) := [(0, .lload_n 0), (1, .ldc2_w 88), (4, .lcmp), (5, .ifCond .ne 5), (8, .iconst 4), (9, .ireturn), (10, .lload_n 0), (11, .ldc2_w 90), (14, .lcmp), (15, .ifCond .ne 6), (18, .bipush 13), (20, .ireturn), (21, .lload_n 0), (22, .ldc2_w 92), (25, .lcmp), (26, .ifCond .ne 5), (29, .iconst 3), (30, .ireturn), (31, .lload_n 0), (32, .ldc2_w 94), (35, .lcmp), (36, .ifCond .ne 6), (39, .bipush 11), (41, .ireturn), (42, .lload_n 0), (43, .ldc2_w 96), (46, .lcmp), (47, .ifCond .ne 8), (50, .bipush 12), (52, .goto 4), (55, .iconst 2), (56, .ireturn)]
/-- Specialiser$Tokens.keep(IJI)I -/
def tb_I_23_0 : List (Nat × Instr) := [(0, .aload_n 0), (1, .getfield 20), (4, .aload_n 0), (5, .getfield 37), (8, .iload_n 1), (9, .invokevirtual 47), (12, .aload_n 0), (13, .getfield 29), (16, .aload_n 0), (17, .getfield 37), (20, .lload_n 2), (21, .invokevirtual 85), (24, .aload_n 0), (25, .dup), (26, .getfield 37), (29, .iconst 1), (30, .iadd), (31, .putfield 37), (34, .iload 4), (36, .ireturn)]
/-- Specialiser$LongRow.put(IJ)V -/
def tb_I_24_0 : List (Nat × Instr) := [(0, .iload_n 1), (1, .ifCond .lt 19), (4, .iload_n 1), (5, .aload_n 0), (6, .getfield 9), (9, .arraylength), (10, .if_icmp .ge 10), (13, .aload_n 0), (14, .getfield 9), (17, .iload_n 1), (18, .lload_n 2), (19, .lastore), (20, .return_)]
/-- Specialiser$Tokens.signKind(I)I -/
def tb_I_25_0 : List (Nat × Instr) := [(0, .iload_n 0), (1, .tableswitch 130 40 61 #[106, 109, 124, 118, 112, 121, 130, 130, 130, 130, 130, 130, 130, 130, 130, 130, 130, 130, 130, 115, 127, 103]), (104, .bipush 14), (106, .ireturn), (107, .bipush 15), (109, .ireturn), (110, .bipush 16), (112, .ireturn), (113, .bipush 17), (115, .ireturn), (116, .bipush 18), (118, .ireturn), (119, .bipush 6), (121, .ireturn), (122, .bipush 7), (124, .ireturn), (125, .bipush 8), (127, .ireturn), (128, .bipush 9), (130, .ireturn), (131, .bipush 19), (133, .ireturn)]
/-- java/lang/Math.max(II)I -/
def tb_I_26_0 : List (Nat × Instr) := [(0, .iload_n 0), (1, .iload_n 1), (2, .if_icmp .lt 7), (5, .iload_n 0), (6, .goto 4), (9, .iload_n 1), (10, .ireturn)]
/-- Specialiser$Reader.take(LSpecialiser$Bodies;)I -/
def tb_I_27_0 : List (Nat × Instr) := [(0, .aload_n 0), (1, .aload_n 1), (2, .putfield 15), (5, .aload_n 0), (6, .aload_n 1), (7, .invokevirtual 19), (10, .putfield 25), (13, .aload_n 0), (14, .getfield 15), (17, .invokevirtual 75), (20, .aload_n 0), (21, .iconst 0), (22, .putfield 28), (25, .aload_n 0), (26, .aload_n 0), (27, .getfield 9), (30, .iconst 0), (31, .invokevirtual 78), (34, .putfield 32), (37, .aload_n 0), (38, .iconst 0), (39, .putfield 35), (42, .aload_n 0), (43, .iconst (-1)), (44, .putfield 66), (47, .aload_n 0), (48, .invokevirtual 81), (51, .iconst 0), (52, .istore_n 2), (53, .iload_n 2), (54, .sipush 1500), (57, .if_icmp .ge 22), (60, .aload_n 0), (61, .getfield 32), (64, .bipush 20), (66, .if_icmp .eq 13), (69, .aload_n 0), (70, .invokevirtual 81), (73, .iinc 2 1), (76, .goto (-23))]
def tb_I_27_1 : List (Nat × Instr) := [(79, .aload_n 0), (80, .getfield 35), (83, .ifCond .ne 7), (86, .aload_n 0), (87, .invokevirtual 84), (90, .aload_n 0), (91, .getfield 35), (94, .ireturn)]
/-- Specialiser$Bodies.clear()V -/
def tb_I_28_0 : List (Nat × Instr) := [(0, .aload_n 0), (1, .getfield 12), (4, .invokevirtual 32), (7, .aload_n 0), (8, .iconst 0), (9, .putfield 28), (12, .return_)]
/-- Specialiser$Trees.clear()V -/
def tb_I_29_0 : List (Nat × Instr) := [(0, .aload_n 0), (1, .iconst 0), (2, .putfield 35), (5, .return_)]
/-- Specialiser$Tokens.kind(I)I -/
def tb_I_30_0 : List (Nat × Instr) := [(0, .iload_n 1), (1, .aload_n 0), (2, .getfield 37), (5, .if_icmp .ge 14), (8, .aload_n 0), (9, .getfield 20), (12, .iload_n 1), (13, .invokevirtual 40), (16, .goto 5), (19, .bipush 20), (21, .ireturn)]
/-- Specialiser$Reader.takeFunction()V -/
def tb_I_31_0 : List (Nat × Instr) := [(0, .aload_n 0), (1, .getfield 15), (4, .invokevirtual 101), (7, .istore_n 1), (8, .aload_n 0), (9, .getfield 46), (12, .aload_n 0), (13, .getfield 9), (16, .aload_n 0), (17, .getfield 28), (20, .invokevirtual 94), (23, .iload_n 1), (24, .invokevirtual 105), (27, .iconst (-1)), (28, .if_icmp .eq 7), (31, .iconst 1), (32, .goto 4), (35, .iconst 0), (36, .istore_n 2), (37, .aload_n 0), (38, .getfield 46), (41, .iload_n 1), (42, .aload_n 0), (43, .iload_n 2), (44, .iload_n 1), (45, .bipush 48), (47, .if_icmp .lt 7), (50, .iconst 1), (51, .goto 4), (54, .iconst 0), (55, .invokevirtual 109), (58, .invokevirtual 113), (61, .aload_n 0), (62, .iconst 0), (63, .putfield 50), (66, .aload_n 0), (67, .iconst 0), (68, .putfield 63), (71, .aload_n 0), (72, .bipush 15)]
def tb_I_31_1 : List (Nat × Instr) := [(74, .invokevirtual 98), (77, .aload_n 0), (78, .getfield 32), (81, .bipush 16), (83, .if_icmp .eq 41), (86, .aload_n 0), (87, .invokevirtual 117), (90, .iconst 0), (91, .istore_n 3), (92, .iload_n 3), (93, .sipush 1500), (96, .if_icmp .ge 28), (99, .aload_n 0), (100, .getfield 32), (103, .bipush 17), (105, .if_icmp .ne 19), (108, .aload_n 0), (109, .bipush 17), (111, .invokevirtual 98), (114, .aload_n 0), (115, .invokevirtual 117), (118, .iinc 3 1), (121, .goto (-29)), (124, .aload_n 0), (125, .bipush 16), (127, .invokevirtual 98), (130, .aload_n 0), (131, .bipush 14), (133, .invokevirtual 98), (136, .aload_n 0), (137, .getfield 15), (140, .aload_n 0), (141, .getfield 50), (144, .invokevirtual 120), (147, .istore_n 3), (148, .aload_n 0), (149, .getfield 15), (152, .iload_n 3), (153, .aload_n 0), (154, .iconst 0)]
def tb_I_31_2 : List (Nat × Instr) := [(155, .invokevirtual 123), (158, .invokevirtual 126), (161, .aload_n 0), (162, .bipush 18), (164, .invokevirtual 98), (167, .return_)]
/-- Specialiser$Bodies.count()I -/
def tb_I_32_0 : List (Nat × Instr) := [(0, .aload_n 0), (1, .getfield 28), (4, .ireturn)]
/-- Specialiser$Tokens.value(I)J -/
def tb_I_33_0 : List (Nat × Instr) := [(0, .aload_n 0), (1, .getfield 29), (4, .iload_n 1), (5, .invokevirtual 44), (8, .lreturn)]
/-- Specialiser$LongRow.at(I)J -/
def tb_I_34_0 : List (Nat × Instr) := [(0, .iload_n 1), (1, .ifCond .lt 21), (4, .iload_n 1), (5, .aload_n 0), (6, .getfield 9), (9, .arraylength), (10, .if_icmp .ge 12), (13, .aload_n 0), (14, .getfield 9), (17, .iload_n 1), (18, .laload), (19, .goto 4), (22, .lconst 0), (23, .lreturn)]
/-- Specialiser$LongRow.lastOf(JI)I -/
def tb_I_35_0 : List (Nat × Instr) := [(0, .iload_n 3), (1, .iconst 1), (2, .isub), (3, .istore 4), (5, .iload 4), (7, .ifCond .lt 23), (10, .aload_n 0), (11, .iload 4), (13, .invokevirtual 15), (16, .lload_n 1), (17, .lcmp), (18, .ifCond .ne 6), (21, .iload 4), (23, .ireturn), (24, .iinc 4 (-1)), (27, .goto (-22)), (30, .iconst (-1)), (31, .ireturn)]
/-- Specialiser$Reader.takeNewName(ZZ)J -/
def tb_I_36_0 : List (Nat × Instr) := [(0, .aload_n 0), (1, .getfield 9), (4, .aload_n 0), (5, .getfield 28), (8, .invokevirtual 94), (11, .lstore_n 3), (12, .aload_n 0), (13, .getfield 32), (16, .iconst 2), (17, .if_icmp .ne 19), (20, .iload_n 1), (21, .ifCond .eq 15), (24, .aload_n 0), (25, .iconst 3), (26, .aload_n 0), (27, .getfield 28), (30, .invokevirtual 87), (33, .goto 25), (36, .aload_n 0), (37, .getfield 32), (40, .iconst 2), (41, .if_icmp .ne 17), (44, .iload_n 2), (45, .ifCond .eq 13), (48, .aload_n 0), (49, .bipush 6), (51, .aload_n 0), (52, .getfield 28), (55, .invokevirtual 87), (58, .aload_n 0), (59, .iconst 2), (60, .invokevirtual 98), (63, .lload_n 3), (64, .lreturn)]
/-- Specialiser$Reader.faultAt(II)V -/
def tb_I_37_0 : List (Nat × Instr) := [(0, .aload_n 0), (1, .getfield 35), (4, .ifCond .ne 19), (7, .aload_n 0), (8, .iload_n 1), (9, .putfield 35), (12, .aload_n 0), (13, .iload_n 2), (14, .putfield 38), (17, .aload_n 0), (18, .bipush 20), (20, .putfield 32), (23, .return_)]
/-- Specialiser$Reader.takeKind(I)V -/
def tb_I_38_0 : List (Nat × Instr) := [(0, .aload_n 0), (1, .getfield 32), (4, .iload_n 1), (5, .if_icmp .eq 10), (8, .aload_n 0), (9, .invokevirtual 91), (12, .goto 51), (15, .aload_n 0), (16, .getfield 28), (19, .sipush 1500), (22, .if_icmp .lt 16), (25, .aload_n 0), (26, .bipush 6), (28, .aload_n 0), (29, .getfield 28), (32, .invokevirtual 87), (35, .goto 28), (38, .aload_n 0), (39, .dup), (40, .getfield 28), (43, .iconst 1), (44, .iadd), (45, .putfield 28), (48, .aload_n 0), (49, .aload_n 0), (50, .getfield 9), (53, .aload_n 0), (54, .getfield 28), (57, .invokevirtual 78), (60, .putfield 32), (63, .return_)]
/-- Specialiser$Reader.refuse()V -/
def tb_I_39_0 : List (Nat × Instr) := [(0, .aload_n 0), (1, .aload_n 0), (2, .getfield 32), (5, .bipush 19), (7, .if_icmp .ne 7), (10, .iconst 1), (11, .goto 4), (14, .iconst 2), (15, .aload_n 0), (16, .getfield 28), (19, .invokevirtual 87), (22, .return_)]
/-- Specialiser$Reader.takeParam()V -/
def tb_I_40_0 : List (Nat × Instr) := [(0, .aload_n 0), (1, .getfield 53), (4, .aload_n 0), (5, .getfield 9), (8, .aload_n 0), (9, .getfield 28), (12, .invokevirtual 94), (15, .aload_n 0), (16, .getfield 63), (19, .invokevirtual 105), (22, .iconst (-1)), (23, .if_icmp .eq 7), (26, .iconst 1), (27, .goto 4), (30, .iconst 0), (31, .istore_n 1), (32, .aload_n 0), (33, .iload_n 1), (34, .aload_n 0), (35, .getfield 50), (38, .iconst 4), (39, .if_icmp .lt 7), (42, .iconst 1), (43, .goto 4), (46, .iconst 0), (47, .invokevirtual 109), (50, .lstore_n 2), (51, .aload_n 0), (52, .lload_n 2), (53, .aload_n 0), (54, .getfield 50), (57, .invokevirtual 129), (60, .aload_n 0), (61, .dup), (62, .getfield 50), (65, .iconst 1), (66, .iadd), (67, .putfield 50), (70, .return_)]
/-- Specialiser$Reader.enter(JI)V -/
def tb_I_41_0 : List (Nat × Instr) := [(0, .aload_n 0), (1, .getfield 53), (4, .aload_n 0), (5, .getfield 63), (8, .lload_n 1), (9, .invokevirtual 113), (12, .aload_n 0), (13, .getfield 59), (16, .aload_n 0), (17, .getfield 63), (20, .iload_n 3), (21, .invokevirtual 133), (24, .aload_n 0), (25, .dup), (26, .getfield 63), (29, .iconst 1), (30, .iadd), (31, .putfield 63), (34, .return_)]
/-- Specialiser$Bodies.add(I)I -/
def tb_I_42_0 : List (Nat × Instr) := [(0, .aload_n 0), (1, .getfield 25), (4, .aload_n 0), (5, .getfield 28), (8, .iload_n 1), (9, .invokevirtual 35), (12, .aload_n 0), (13, .dup), (14, .getfield 28), (17, .iconst 1), (18, .iadd), (19, .putfield 28), (22, .aload_n 0), (23, .getfield 28), (26, .iconst 1), (27, .isub), (28, .ireturn)]
/-- Specialiser$Reader.takeE(I)I -/
def tb_I_43_0 : List (Nat × Instr) := [(0, .iload_n 1), (1, .bipush 24), (3, .if_icmp .lt 9), (6, .aload_n 0), (7, .invokevirtual 135), (10, .iconst 0), (11, .ireturn), (12, .aload_n 0), (13, .getfield 32), (16, .lookupswitch 40 #[(3, 28), (4, 34)]), (44, .aload_n 0), (45, .iload_n 1), (46, .invokevirtual 138), (49, .ireturn), (50, .aload_n 0), (51, .iload_n 1), (52, .invokevirtual 141), (55, .ireturn), (56, .aload_n 0), (57, .iload_n 1), (58, .invokevirtual 144), (61, .ireturn)]
/-- Specialiser$Reader.refuseWithin()V -/
def tb_I_44_0 : List (Nat × Instr) := [(0, .aload_n 0), (1, .getfield 32), (4, .tableswitch 89 1 15 #[76, 76, 76, 76, 89, 89, 76, 89, 89, 89, 89, 89, 89, 89, 76]), (80, .aload_n 0), (81, .bipush 6), (83, .aload_n 0), (84, .getfield 28), (87, .invokevirtual 87), (90, .goto 7), (93, .aload_n 0), (94, .invokevirtual 91), (97, .return_)]
/-- Specialiser$Reader.takeLet(I)I -/
def tb_I_45_0 : List (Nat × Instr) := [(0, .aload_n 0), (1, .iconst 3), (2, .invokevirtual 98), (5, .aload_n 0), (6, .iconst 0), (7, .aload_n 0), (8, .getfield 50), (11, .bipush 16), (13, .if_icmp .lt 7), (16, .iconst 1), (17, .goto 4), (20, .iconst 0), (21, .invokevirtual 109), (24, .lstore_n 2), (25, .aload_n 0), (26, .getfield 50), (29, .istore 4), (31, .aload_n 0), (32, .dup), (33, .getfield 50), (36, .iconst 1), (37, .iadd), (38, .putfield 50), (41, .aload_n 0), (42, .bipush 14), (44, .invokevirtual 98), (47, .aload_n 0), (48, .getfield 25), (51, .iconst 3), (52, .iload 4), (54, .invokevirtual 147), (57, .istore 5), (59, .aload_n 0), (60, .getfield 25), (63, .iload 5), (65, .aload_n 0), (66, .iload_n 1), (67, .iconst 1), (68, .iadd), (69, .invokevirtual 123)]
def tb_I_45_1 : List (Nat × Instr) := [(72, .invokevirtual 153), (75, .aload_n 0), (76, .bipush 13), (78, .invokevirtual 98), (81, .aload_n 0), (82, .lload_n 2), (83, .iload 4), (85, .invokevirtual 129), (88, .aload_n 0), (89, .getfield 25), (92, .iload 5), (94, .aload_n 0), (95, .iload_n 1), (96, .iconst 1), (97, .iadd), (98, .invokevirtual 123), (101, .invokevirtual 153), (104, .aload_n 0), (105, .dup), (106, .getfield 63), (109, .iconst 1), (110, .isub), (111, .putfield 63), (114, .iload 5), (116, .ireturn)]
/-- Specialiser$Trees.open(II)I -/
def tb_I_46_0 : List (Nat × Instr) := [(0, .aload_n 0), (1, .getfield 35), (4, .istore_n 3), (5, .aload_n 0), (6, .dup), (7, .getfield 35), (10, .iconst 1), (11, .iadd), (12, .putfield 35), (15, .aload_n 0), (16, .getfield 14), (19, .iload_n 3), (20, .iload_n 1), (21, .invokevirtual 39), (24, .aload_n 0), (25, .getfield 20), (28, .iload_n 3), (29, .iload_n 2), (30, .invokevirtual 39), (33, .aload_n 0), (34, .getfield 23), (37, .iload_n 3), (38, .iconst 0), (39, .invokevirtual 39), (42, .aload_n 0), (43, .getfield 29), (46, .iload_n 3), (47, .iconst 1), (48, .invokevirtual 39), (51, .aload_n 0), (52, .getfield 32), (55, .iload_n 3), (56, .iload_n 1), (57, .iconst 3), (58, .if_icmp .ne 7), (61, .iconst 1), (62, .goto 4), (65, .iconst 0), (66, .invokevirtual 39), (69, .iload_n 3)]
def tb_I_46_1 : List (Nat × Instr) := [(70, .ireturn)]
/-- Specialiser$Trees.append(II)V -/
def tb_I_47_0 : List (Nat × Instr) := [(0, .aload_n 0), (1, .getfield 23), (4, .iload_n 1), (5, .invokevirtual 43), (8, .istore_n 3), (9, .iload_n 3), (10, .iconst 4), (11, .if_icmp .ge 16), (14, .aload_n 0), (15, .getfield 26), (18, .iload_n 1), (19, .iconst 4), (20, .imul), (21, .iload_n 3), (22, .iadd), (23, .iload_n 2), (24, .invokevirtual 39), (27, .aload_n 0), (28, .getfield 23), (31, .iload_n 1), (32, .iload_n 3), (33, .iconst 1), (34, .iadd), (35, .invokevirtual 39), (38, .aload_n 0), (39, .getfield 29), (42, .iload_n 1), (43, .aload_n 0), (44, .getfield 29), (47, .iload_n 1), (48, .invokevirtual 43), (51, .aload_n 0), (52, .getfield 29), (55, .iload_n 2), (56, .invokevirtual 43), (59, .iadd), (60, .invokevirtual 39), (63, .aload_n 0), (64, .getfield 32), (67, .iload_n 1)]
def tb_I_47_1 : List (Nat × Instr) := [(68, .aload_n 0), (69, .getfield 32), (72, .iload_n 1), (73, .invokevirtual 43), (76, .aload_n 0), (77, .getfield 32), (80, .iload_n 2), (81, .invokevirtual 43), (84, .iadd), (85, .invokevirtual 39), (88, .return_)]
/-- Specialiser$Reader.takeIf(I)I -/
def tb_I_48_0 : List (Nat × Instr) := [(0, .aload_n 0), (1, .getfield 25), (4, .iconst 4), (5, .iconst 0), (6, .invokevirtual 147), (9, .istore_n 2), (10, .aload_n 0), (11, .iconst 4), (12, .invokevirtual 98), (15, .aload_n 0), (16, .getfield 25), (19, .iload_n 2), (20, .aload_n 0), (21, .iload_n 1), (22, .iconst 1), (23, .iadd), (24, .invokevirtual 123), (27, .invokevirtual 153), (30, .aload_n 0), (31, .bipush 11), (33, .invokevirtual 98), (36, .aload_n 0), (37, .getfield 25), (40, .iload_n 2), (41, .aload_n 0), (42, .iload_n 1), (43, .iconst 1), (44, .iadd), (45, .invokevirtual 123), (48, .invokevirtual 153), (51, .aload_n 0), (52, .bipush 12), (54, .invokevirtual 98), (57, .aload_n 0), (58, .getfield 25), (61, .iload_n 2), (62, .aload_n 0), (63, .iload_n 1), (64, .iconst 1), (65, .iadd)]
def tb_I_48_1 : List (Nat × Instr) := [(66, .invokevirtual 123), (69, .invokevirtual 153), (72, .iload_n 2), (73, .ireturn)]
/-- Specialiser$Reader.takeComparison(I)I -/
def tb_I_49_0 : List (Nat × Instr) := [(0, .aload_n 0), (1, .iload_n 1), (2, .invokevirtual 156), (5, .istore_n 2), (6, .aload_n 0), (7, .getfield 32), (10, .istore_n 3), (11, .iload_n 3), (12, .bipush 9), (14, .if_icmp .eq 11), (17, .iload_n 3), (18, .bipush 10), (20, .if_icmp .eq 5), (23, .iload_n 2), (24, .ireturn), (25, .aload_n 0), (26, .iload_n 3), (27, .invokevirtual 98), (30, .aload_n 0), (31, .getfield 25), (34, .iload_n 3), (35, .iload_n 2), (36, .aload_n 0), (37, .iload_n 1), (38, .invokevirtual 156), (41, .invokevirtual 159), (44, .ireturn)]
/-- Specialiser$Reader.takeSum(I)I -/
def tb_I_50_0 : List (Nat × Instr) := [(0, .aload_n 0), (1, .iload_n 1), (2, .invokevirtual 163), (5, .istore_n 2), (6, .aload_n 0), (7, .getfield 32), (10, .istore_n 3), (11, .iload_n 3), (12, .bipush 6), (14, .if_icmp .eq 11), (17, .iload_n 3), (18, .bipush 7), (20, .if_icmp .eq 5), (23, .iload_n 2), (24, .ireturn), (25, .aload_n 0), (26, .iload_n 3), (27, .invokevirtual 98), (30, .aload_n 0), (31, .getfield 25), (34, .iload_n 3), (35, .iload_n 2), (36, .aload_n 0), (37, .iload_n 1), (38, .invokevirtual 163), (41, .invokevirtual 159), (44, .ireturn)]
/-- Specialiser$Reader.takeProduct(I)I -/
def tb_I_51_0 : List (Nat × Instr) := [(0, .aload_n 0), (1, .iload_n 1), (2, .invokevirtual 166), (5, .istore_n 2), (6, .aload_n 0), (7, .getfield 32), (10, .bipush 8), (12, .if_icmp .eq 5), (15, .iload_n 2), (16, .ireturn), (17, .aload_n 0), (18, .bipush 8), (20, .invokevirtual 98), (23, .aload_n 0), (24, .getfield 25), (27, .bipush 8), (29, .iload_n 2), (30, .aload_n 0), (31, .iload_n 1), (32, .invokevirtual 166), (35, .invokevirtual 159), (38, .ireturn)]
/-- Specialiser$Reader.takeAtom(I)I -/
def tb_I_52_0 : List (Nat × Instr) := [(0, .aload_n 0), (1, .getfield 32), (4, .lookupswitch 123 #[(1, 56), (2, 62), (7, 44), (15, 101)]), (48, .aload_n 0), (49, .bipush 7), (51, .invokevirtual 98), (54, .aload_n 0), (55, .iconst (-1)), (56, .invokevirtual 169), (59, .ireturn), (60, .aload_n 0), (61, .iconst 1), (62, .invokevirtual 169), (65, .ireturn), (66, .aload_n 0), (67, .iconst 2), (68, .invokevirtual 98), (71, .aload_n 0), (72, .getfield 32), (75, .bipush 15), (77, .if_icmp .ne 17), (80, .aload_n 0), (81, .aload_n 0), (82, .getfield 28), (85, .iconst 1), (86, .isub), (87, .iload_n 1), (88, .invokevirtual 172), (91, .goto 13), (94, .aload_n 0), (95, .aload_n 0), (96, .getfield 28), (99, .iconst 1), (100, .isub), (101, .invokevirtual 175), (104, .ireturn), (105, .aload_n 0), (106, .bipush 15), (108, .invokevirtual 98), (111, .aload_n 0)]
def tb_I_52_1 : List (Nat × Instr) := [(112, .iload_n 1), (113, .iconst 1), (114, .iadd), (115, .invokevirtual 123), (118, .istore_n 2), (119, .aload_n 0), (120, .bipush 16), (122, .invokevirtual 98), (125, .iload_n 2), (126, .ireturn), (127, .aload_n 0), (128, .invokevirtual 91), (131, .iconst 0), (132, .ireturn)]
/-- Specialiser$Reader.takeNumber(I)I -/
def tb_I_53_0 : List (Nat × Instr) := [(0, .aload_n 0), (1, .getfield 9), (4, .aload_n 0), (5, .getfield 28), (8, .invokevirtual 94), (11, .l2i), (12, .istore_n 2), (13, .aload_n 0), (14, .iconst 1), (15, .invokevirtual 98), (18, .aload_n 0), (19, .getfield 25), (22, .iconst 1), (23, .iload_n 1), (24, .iload_n 2), (25, .imul), (26, .invokevirtual 147), (29, .ireturn)]
/-- Specialiser$Reader.takeCall(II)I -/
def tb_I_54_0 : List (Nat × Instr) := [(0, .aload_n 0), (1, .getfield 25), (4, .iconst 5), (5, .iload_n 1), (6, .invokevirtual 147), (9, .istore_n 3), (10, .aload_n 0), (11, .bipush 15), (13, .invokevirtual 98), (16, .aload_n 0), (17, .getfield 32), (20, .bipush 16), (22, .if_icmp .eq 65), (25, .aload_n 0), (26, .getfield 25), (29, .iload_n 3), (30, .aload_n 0), (31, .iload_n 2), (32, .iconst 1), (33, .iadd), (34, .invokevirtual 123), (37, .invokevirtual 153), (40, .iconst 0), (41, .istore 4), (43, .iload 4), (45, .sipush 1500), (48, .if_icmp .ge 39), (51, .aload_n 0), (52, .getfield 32), (55, .bipush 17), (57, .if_icmp .ne 30), (60, .aload_n 0), (61, .bipush 17), (63, .invokevirtual 98), (66, .aload_n 0), (67, .getfield 25), (70, .iload_n 3), (71, .aload_n 0), (72, .iload_n 2), (73, .iconst 1)]
def tb_I_54_1 : List (Nat × Instr) := [(74, .iadd), (75, .invokevirtual 123), (78, .invokevirtual 153), (81, .iinc 4 1), (84, .goto (-41)), (87, .aload_n 0), (88, .bipush 16), (90, .invokevirtual 98), (93, .iload_n 3), (94, .ireturn)]
/-- Specialiser$Reader.nameAlone(I)I -/
def tb_I_55_0 : List (Nat × Instr) := [(0, .aload_n 0), (1, .getfield 53), (4, .aload_n 0), (5, .getfield 9), (8, .iload_n 1), (9, .invokevirtual 94), (12, .aload_n 0), (13, .getfield 63), (16, .invokevirtual 105), (19, .istore_n 2), (20, .iload_n 2), (21, .iconst (-1)), (22, .if_icmp .ne 16), (25, .aload_n 0), (26, .getfield 66), (29, .iconst (-1)), (30, .if_icmp .ne 8), (33, .aload_n 0), (34, .iload_n 1), (35, .putfield 66), (38, .aload_n 0), (39, .getfield 25), (42, .iconst 2), (43, .aload_n 0), (44, .getfield 59), (47, .iload_n 2), (48, .invokevirtual 178), (51, .invokevirtual 147), (54, .ireturn)]
/-- Specialiser$Trees.join(III)I -/
def tb_I_56_0 : List (Nat × Instr) := [(0, .aload_n 0), (1, .iload_n 1), (2, .iconst 0), (3, .invokevirtual 47), (6, .istore 4), (8, .aload_n 0), (9, .iload 4), (11, .iload_n 2), (12, .invokevirtual 51), (15, .aload_n 0), (16, .iload 4), (18, .iload_n 3), (19, .invokevirtual 51), (22, .iload 4), (24, .ireturn)]
/-- Specialiser$Bodies.setRoot(II)V -/
def tb_I_57_0 : List (Nat × Instr) := [(0, .aload_n 0), (1, .getfield 21), (4, .iload_n 1), (5, .iload_n 2), (6, .invokevirtual 35), (9, .return_)]
/-- Specialiser$Reader.leadCalls()V -/
def tb_I_58_0 : List (Nat × Instr) := [(0, .aload_n 0), (1, .getfield 66), (4, .iconst (-1)), (5, .if_icmp .ne 9), (8, .sipush 1500), (11, .goto 7), (14, .aload_n 0), (15, .getfield 66), (18, .istore_n 1), (19, .iconst 0), (20, .istore_n 2), (21, .iload_n 2), (22, .aload_n 0), (23, .getfield 25), (26, .invokevirtual 181), (29, .if_icmp .ge 53), (32, .aload_n 0), (33, .getfield 35), (36, .ifCond .ne 46), (39, .aload_n 0), (40, .getfield 25), (43, .iload_n 2), (44, .invokevirtual 182), (47, .iconst 5), (48, .if_icmp .ne 28), (51, .aload_n 0), (52, .getfield 25), (55, .iload_n 2), (56, .invokevirtual 183), (59, .iload_n 1), (60, .if_icmp .ge 16), (63, .aload_n 0), (64, .iload_n 2), (65, .aload_n 0), (66, .getfield 25), (69, .iload_n 2), (70, .invokevirtual 183), (73, .invokevirtual 185), (76, .iinc 2 1), (79, .goto (-58))]
def tb_I_58_1 : List (Nat × Instr) := [(82, .aload_n 0), (83, .getfield 66), (86, .iconst (-1)), (87, .if_icmp .eq 12), (90, .aload_n 0), (91, .iconst 4), (92, .aload_n 0), (93, .getfield 66), (96, .invokevirtual 87), (99, .return_)]
/-- Specialiser$Trees.count()I -/
def tb_I_59_0 : List (Nat × Instr) := [(0, .aload_n 0), (1, .getfield 35), (4, .ireturn)]
/-- Specialiser$Trees.kind(I)I -/
def tb_I_60_0 : List (Nat × Instr) := [(0, .aload_n 0), (1, .getfield 14), (4, .iload_n 1), (5, .invokevirtual 43), (8, .ireturn)]
/-- Specialiser$Trees.value(I)I -/
def tb_I_61_0 : List (Nat × Instr) := [(0, .aload_n 0), (1, .getfield 20), (4, .iload_n 1), (5, .invokevirtual 43), (8, .ireturn)]
/-- Specialiser$Reader.leadCall(II)V -/
def tb_I_62_0 : List (Nat × Instr) := [(0, .aload_n 0), (1, .getfield 46), (4, .aload_n 0), (5, .getfield 9), (8, .iload_n 2), (9, .invokevirtual 94), (12, .aload_n 0), (13, .getfield 15), (16, .invokevirtual 101), (19, .invokevirtual 105), (22, .istore_n 3), (23, .iload_n 3), (24, .iconst (-1)), (25, .if_icmp .ne 12), (28, .aload_n 0), (29, .iconst 4), (30, .iload_n 2), (31, .invokevirtual 87), (34, .goto 28), (37, .aload_n 0), (38, .getfield 25), (41, .iload_n 1), (42, .invokevirtual 188), (45, .aload_n 0), (46, .getfield 15), (49, .iload_n 3), (50, .invokevirtual 191), (53, .if_icmp .eq 9), (56, .aload_n 0), (57, .iconst 5), (58, .iload_n 2), (59, .invokevirtual 87), (62, .aload_n 0), (63, .getfield 25), (66, .iload_n 1), (67, .iload_n 3), (68, .invokevirtual 194), (71, .return_)]
/-- Specialiser$Trees.parts(I)I -/
def tb_I_63_0 : List (Nat × Instr) := [(0, .aload_n 0), (1, .getfield 23), (4, .iload_n 1), (5, .invokevirtual 43), (8, .ireturn)]
/-- Specialiser$Bodies.params(I)I -/
def tb_I_64_0 : List (Nat × Instr) := [(0, .aload_n 0), (1, .getfield 25), (4, .iload_n 1), (5, .invokevirtual 39), (8, .ireturn)]
/-- Specialiser$Trees.lead(II)V -/
def tb_I_65_0 : List (Nat × Instr) := [(0, .aload_n 0), (1, .getfield 20), (4, .iload_n 1), (5, .iload_n 2), (6, .invokevirtual 39), (9, .return_)]
/-- Specialiser$Reader.faultPlace()I -/
def tb_I_66_0 : List (Nat × Instr) := [(0, .aload_n 0), (1, .getfield 35), (4, .ifCond .ne 7), (7, .iconst (-1)), (8, .goto 14), (11, .aload_n 0), (12, .getfield 9), (15, .aload_n 0), (16, .getfield 38), (19, .invokevirtual 69), (22, .ireturn)]
/-- Specialiser$Tokens.start(I)I -/
def tb_I_67_0 : List (Nat × Instr) := [(0, .iload_n 1), (1, .aload_n 0), (2, .getfield 37), (5, .if_icmp .ge 14), (8, .aload_n 0), (9, .getfield 23), (12, .iload_n 1), (13, .invokevirtual 40), (16, .goto 7), (19, .aload_n 0), (20, .getfield 33), (23, .ireturn)]
/-- Specialiser$Versions.clear()V -/
def tb_I_68_0 : List (Nat × Instr) := [(0, .aload_n 0), (1, .getfield 14), (4, .invokevirtual 35), (7, .return_)]
/-- Specialiser.place()I -/
def tb_I_69_0 : List (Nat × Instr) := [(0, .aload_n 0), (1, .getfield 22), (4, .ireturn)]
/-- Specialiser.feed(IIIII)I -/
def tb_I_70_0 : List (Nat × Instr) := [(0, .aload_n 0), (1, .getfield 18), (4, .bipush 20), (6, .iadd), (7, .sipush 8000), (10, .if_icmp .le 13), (23, .aload_n 0), (24, .iload_n 1), (25, .invokevirtual 124), (28, .aload_n 0), (29, .iload_n 2), (30, .invokevirtual 124), (33, .aload_n 0), (34, .iload_n 3), (35, .invokevirtual 124), (38, .aload_n 0), (39, .iload 4), (41, .invokevirtual 124), (44, .aload_n 0), (45, .iload 5), (47, .invokevirtual 124), (50, .aload_n 0), (51, .getfield 18), (54, .ireturn)]
/-- Specialiser.feedFour(I)V -/
def tb_I_71_0 : List (Nat × Instr) := [(0, .bipush 24), (2, .istore_n 2), (3, .iload_n 2), (4, .ifCond .lt 37), (7, .aload_n 0), (8, .getfield 14), (11, .aload_n 0), (12, .getfield 18), (15, .iload_n 1), (16, .iload_n 2), (17, .iushr), (18, .sipush 255), (21, .iand), (22, .invokevirtual 127), (25, .aload_n 0), (26, .dup), (27, .getfield 18), (30, .iconst 1), (31, .iadd), (32, .putfield 18), (35, .iinc 2 (-8)), (38, .goto (-35)), (41, .return_)]
/-- Specialiser.cut(I)I -/
def tb_I_72_0 : List (Nat × Instr) := [(0, .iload_n 1), (1, .ifCond .lt 11), (4, .iload_n 1), (5, .aload_n 0), (6, .getfield 18), (9, .if_icmp .le 13), (22, .aload_n 0), (23, .getfield 18), (26, .iload_n 1), (27, .isub), (28, .istore_n 2), (29, .aload_n 0), (30, .iload_n 1), (31, .putfield 18), (34, .iload_n 2), (35, .ireturn)]
/-- Specialiser.function(II)I -/
def tb_I_73_0 : List (Nat × Instr) := [(0, .aload_n 0), (1, .getfield 39), (4, .iload_n 1), (5, .invokevirtual 151), (8, .ifCond .eq 12), (11, .iload_n 2), (12, .ifCond .lt 8), (15, .iload_n 2), (16, .iconst 2), (17, .if_icmp .le 13), (30, .iload_n 2), (31, .lookupswitch 43 #[(0, 25), (1, 34)]), (56, .aload_n 0), (57, .getfield 39), (60, .iload_n 1), (61, .invokevirtual 160), (64, .ireturn), (65, .aload_n 0), (66, .getfield 39), (69, .iload_n 1), (70, .invokevirtual 164), (73, .ireturn), (74, .aload_n 0), (75, .getfield 39), (78, .iload_n 1), (79, .invokevirtual 167), (82, .ireturn)]
/-- Specialiser$Bodies.has(I)Z -/
def tb_I_74_0 : List (Nat × Instr) := [(0, .iload_n 1), (1, .ifCond .lt 15), (4, .iload_n 1), (5, .aload_n 0), (6, .getfield 28), (9, .if_icmp .ge 7), (12, .iconst 1), (13, .goto 4), (16, .iconst 0), (17, .ireturn)]
/-- Specialiser$Bodies.expressions(I)I -/
def tb_I_75_0 : List (Nat × Instr) := [(0, .aload_n 0), (1, .getfield 12), (4, .aload_n 0), (5, .iload_n 1), (6, .invokevirtual 45), (9, .invokevirtual 48), (12, .ireturn)]
/-- Specialiser$Bodies.root(I)I -/
def tb_I_76_0 : List (Nat × Instr) := [(0, .aload_n 0), (1, .getfield 21), (4, .iload_n 1), (5, .invokevirtual 39), (8, .ireturn)]
/-- Specialiser$Trees.size(I)I -/
def tb_I_77_0 : List (Nat × Instr) := [(0, .aload_n 0), (1, .getfield 29), (4, .iload_n 1), (5, .invokevirtual 43), (8, .ireturn)]
/-- Specialiser$Bodies.lets(I)I -/
def tb_I_78_0 : List (Nat × Instr) := [(0, .aload_n 0), (1, .getfield 12), (4, .aload_n 0), (5, .iload_n 1), (6, .invokevirtual 45), (9, .invokevirtual 51), (12, .ireturn)]
/-- Specialiser$Trees.lets(I)I -/
def tb_I_79_0 : List (Nat × Instr) := [(0, .aload_n 0), (1, .getfield 32), (4, .iload_n 1), (5, .invokevirtual 43), (8, .ireturn)]
/-- Specialiser.know(II)I -/
def tb_I_80_0 : List (Nat × Instr) := [(0, .iload_n 1), (1, .ifCond .lt 8), (4, .iload_n 1), (5, .iconst 4), (6, .if_icmp .lt 13), (19, .aload_n 0), (20, .dup), (21, .getfield 86), (24, .iconst 1), (25, .iload_n 1), (26, .ishl), (27, .ior), (28, .putfield 86), (31, .aload_n 0), (32, .getfield 83), (35, .iload_n 1), (36, .iload_n 2), (37, .invokevirtual 127), (40, .aload_n 0), (41, .getfield 86), (44, .invokestatic 172), (47, .ireturn)]
/-- java/lang/Integer.bitCount(I)I -/
def tb_I_81_0 : List (Nat × Instr) := [(0, .iload_n 0), (1, .iload_n 0), (2, .iconst 1), (3, .iushr), (4, .ldc_w 265), (7, .iand), (8, .isub), (9, .istore_n 0), (10, .iload_n 0), (11, .ldc_w 266), (14, .iand), (15, .iload_n 0), (16, .iconst 2), (17, .iushr), (18, .ldc_w 266), (21, .iand), (22, .iadd), (23, .istore_n 0), (24, .iload_n 0), (25, .iload_n 0), (26, .iconst 4), (27, .iushr), (28, .iadd), (29, .ldc_w 267), (32, .iand), (33, .istore_n 0), (34, .iload_n 0), (35, .iload_n 0), (36, .bipush 8), (38, .iushr), (39, .iadd), (40, .istore_n 0), (41, .iload_n 0), (42, .iload_n 0), (43, .bipush 16), (45, .iushr), (46, .iadd), (47, .istore_n 0), (48, .iload_n 0), (49, .bipush 63)]
def tb_I_81_1 : List (Nat × Instr) := [(51, .iand), (52, .ireturn)]
/-- Specialiser.make(I)I -/
def tb_I_82_0 : List (Nat × Instr) := [(0, .aload_n 0), (1, .getfield 39), (4, .invokevirtual 148), (7, .ifCond .ne 13), (20, .aload_n 0), (21, .getfield 39), (24, .iload_n 1), (25, .invokevirtual 151), (28, .ifCond .ne 13), (41, .aload_n 0), (42, .getfield 62), (45, .invokevirtual 145), (48, .aload_n 0), (49, .getfield 62), (52, .iload_n 1), (53, .aload_n 0), (54, .getfield 86), (57, .aload_n 0), (58, .getfield 39), (61, .iload_n 1), (62, .invokevirtual 181), (65, .iand), (66, .aload_n 0), (67, .getfield 83), (70, .aload_n 0), (71, .getfield 39), (74, .iload_n 1), (75, .invokevirtual 160), (78, .invokevirtual 184), (81, .pop), (82, .aload_n 0), (83, .getfield 79), (86, .aload_n 0), (87, .getfield 39), (90, .aload_n 0), (91, .getfield 62), (94, .invokevirtual 188), (97, .aload_n 0), (98, .getfield 58), (101, .astore_n 2)]
def tb_I_82_1 : List (Nat × Instr) := [(102, .aload_n 0), (103, .aload_n 0), (104, .getfield 62), (107, .putfield 58), (110, .aload_n 0), (111, .aload_n 2), (112, .putfield 62), (115, .aload_n 0), (116, .iconst 0), (117, .putfield 86), (120, .aload_n 0), (121, .invokevirtual 192), (124, .aload_n 0), (125, .getfield 58), (128, .invokevirtual 195), (131, .ireturn)]
/-- Specialiser$Bodies.paramMask(I)I -/
def tb_I_83_0 : List (Nat × Instr) := [(0, .iconst 1), (1, .aload_n 0), (2, .iload_n 1), (3, .invokevirtual 43), (6, .ishl), (7, .iconst 1), (8, .isub), (9, .ireturn)]
/-- Specialiser$Versions.add(IILSpecialiser$Row;I)I -/
def tb_I_84_0 : List (Nat × Instr) := [(0, .aload_n 0), (1, .getfield 14), (4, .iload 4), (6, .iload_n 2), (7, .invokestatic 38), (10, .isub), (11, .invokevirtual 44), (14, .istore 5), (16, .aload_n 0), (17, .getfield 25), (20, .iload 5), (22, .iload_n 1), (23, .invokevirtual 47), (26, .aload_n 0), (27, .getfield 29), (30, .iload 5), (32, .iload_n 2), (33, .invokevirtual 47), (36, .iconst 0), (37, .istore 6), (39, .iload 6), (41, .iconst 4), (42, .if_icmp .ge 42), (45, .aload_n 0), (46, .getfield 32), (49, .iload 5), (51, .iconst 4), (52, .imul), (53, .iload 6), (55, .iadd), (56, .iload_n 2), (57, .iload 6), (59, .invokestatic 50), (62, .ifCond .eq 12), (65, .aload_n 3), (66, .iload 6), (68, .invokevirtual 54), (71, .goto 4), (74, .iconst 0), (75, .invokevirtual 47)]
def tb_I_84_1 : List (Nat × Instr) := [(78, .iinc 6 1), (81, .goto (-42)), (84, .iload 5), (86, .ireturn)]
/-- Specialiser$Versions.isIn(II)Z -/
def tb_I_85_0 : List (Nat × Instr) := [(0, .iload_n 0), (1, .iload_n 1), (2, .ishr), (3, .iconst 1), (4, .iand), (5, .iconst 1), (6, .if_icmp .ne 7), (9, .iconst 1), (10, .goto 4), (13, .iconst 0), (14, .ireturn)]
/-- Specialiser$Maker.fill(LSpecialiser$Bodies;LSpecialiser$Versions;)V -/
def tb_I_86_0 : List (Nat × Instr) := [(0, .aload_n 0), (1, .aload_n 1), (2, .putfield 15), (5, .aload_n 0), (6, .aload_n 1), (7, .invokevirtual 19), (10, .putfield 25), (13, .aload_n 0), (14, .aload_n 2), (15, .putfield 29), (18, .aload_n 0), (19, .aload_n 2), (20, .invokevirtual 33), (23, .invokevirtual 19), (26, .putfield 39), (29, .aload_n 0), (30, .iconst 0), (31, .putfield 57), (34, .aload_n 0), (35, .iconst 0), (36, .putfield 61), (39, .aload_n 0), (40, .iconst 0), (41, .putfield 64), (44, .iconst 0), (45, .istore_n 3), (46, .iload_n 3), (47, .bipush 78), (49, .if_icmp .ge 56), (52, .iload_n 3), (53, .aload_n 0), (54, .getfield 29), (57, .invokevirtual 67), (60, .if_icmp .ge 45), (63, .aload_n 0), (64, .iload_n 3), (65, .invokevirtual 71), (68, .aload_n 0), (69, .getfield 29), (72, .invokevirtual 33)]
def tb_I_86_1 : List (Nat × Instr) := [(75, .iload_n 3), (76, .aload_n 0), (77, .aload_n 0), (78, .getfield 15), (81, .aload_n 0), (82, .getfield 29), (85, .iload_n 3), (86, .invokevirtual 74), (89, .invokevirtual 78), (92, .iconst 0), (93, .invokevirtual 81), (96, .invokevirtual 85), (99, .iinc 3 1), (102, .goto (-56)), (105, .return_)]
/-- Specialiser$Versions.count()I -/
def tb_I_87_0 : List (Nat × Instr) := [(0, .aload_n 0), (1, .getfield 14), (4, .invokevirtual 71), (7, .ireturn)]
/-- Specialiser$Maker.bindParams(I)V -/
def tb_I_88_0 : List (Nat × Instr) := [(0, .iconst 0), (1, .istore_n 2), (2, .iconst 0), (3, .istore_n 3), (4, .iload_n 3), (5, .aload_n 0), (6, .getfield 15), (9, .aload_n 0), (10, .getfield 29), (13, .iload_n 1), (14, .invokevirtual 74), (17, .invokevirtual 89), (20, .if_icmp .ge 52), (23, .aload_n 0), (24, .getfield 29), (27, .iload_n 1), (28, .invokevirtual 92), (31, .iload_n 3), (32, .invokestatic 95), (35, .ifCond .eq 21), (38, .aload_n 0), (39, .iload_n 3), (40, .iconst 1), (41, .aload_n 0), (42, .getfield 29), (45, .iload_n 1), (46, .iload_n 3), (47, .invokevirtual 99), (50, .invokevirtual 102), (53, .goto 13), (56, .aload_n 0), (57, .iload_n 3), (58, .iconst 0), (59, .iload_n 2), (60, .invokevirtual 102), (63, .iinc 2 1), (66, .iinc 3 1), (69, .goto (-65)), (72, .return_)]
/-- Specialiser$Versions.functionOf(I)I -/
def tb_I_89_0 : List (Nat × Instr) := [(0, .aload_n 0), (1, .getfield 25), (4, .iload_n 1), (5, .invokevirtual 54), (8, .ireturn)]
/-- Specialiser$Versions.mask(I)I -/
def tb_I_90_0 : List (Nat × Instr) := [(0, .aload_n 0), (1, .getfield 29), (4, .iload_n 1), (5, .invokevirtual 54), (8, .ireturn)]
/-- Specialiser$Versions.number(II)I -/
def tb_I_91_0 : List (Nat × Instr) := [(0, .aload_n 0), (1, .getfield 32), (4, .iload_n 1), (5, .iconst 4), (6, .imul), (7, .iload_n 2), (8, .iadd), (9, .invokevirtual 54), (12, .ireturn)]
/-- Specialiser$Maker.bind(III)V -/
def tb_I_92_0 : List (Nat × Instr) := [(0, .aload_n 0), (1, .getfield 47), (4, .iload_n 1), (5, .iload_n 2), (6, .invokevirtual 106), (9, .aload_n 0), (10, .getfield 51), (13, .iload_n 1), (14, .iload_n 3), (15, .invokevirtual 106), (18, .return_)]
/-- Specialiser$Maker.become(II)I -/
def tb_I_93_0 : List (Nat × Instr) := [(0, .aload_n 0), (1, .getfield 57), (4, .sipush 1000), (7, .if_icmp .ge 9), (10, .iload_n 2), (11, .bipush 96), (13, .if_icmp .lt 13), (26, .aload_n 0), (27, .dup), (28, .getfield 57), (31, .iconst 1), (32, .iadd), (33, .putfield 57), (36, .aload_n 0), (37, .getfield 25), (40, .iload_n 1), (41, .invokevirtual 116), (44, .tableswitch 116 1 5 #[36, 53, 95, 102, 109]), (80, .aload_n 0), (81, .getfield 39), (84, .iconst 1), (85, .aload_n 0), (86, .getfield 25), (89, .iload_n 1), (90, .invokevirtual 121), (93, .invokevirtual 124), (96, .ireturn), (97, .aload_n 0), (98, .getfield 25), (101, .iload_n 1), (102, .invokevirtual 121), (105, .istore_n 3), (106, .aload_n 0), (107, .getfield 39), (110, .aload_n 0), (111, .getfield 47), (114, .iload_n 3), (115, .invokevirtual 127), (118, .iconst 1), (119, .if_icmp .ne 7)]
def tb_I_93_1 : List (Nat × Instr) := [(122, .iconst 1), (123, .goto 4), (126, .iconst 2), (127, .aload_n 0), (128, .getfield 51), (131, .iload_n 3), (132, .invokevirtual 127), (135, .invokevirtual 124), (138, .ireturn), (139, .aload_n 0), (140, .iload_n 1), (141, .iload_n 2), (142, .invokevirtual 130), (145, .ireturn), (146, .aload_n 0), (147, .iload_n 1), (148, .iload_n 2), (149, .invokevirtual 133), (152, .ireturn), (153, .aload_n 0), (154, .iload_n 1), (155, .iload_n 2), (156, .invokevirtual 136), (159, .ireturn), (160, .aload_n 0), (161, .iload_n 1), (162, .iload_n 2), (163, .invokevirtual 139), (166, .ireturn)]
/-- Specialiser$Maker.becomeLet(II)I -/
def tb_I_94_0 : List (Nat × Instr) := [(0, .aload_n 0), (1, .getfield 25), (4, .iload_n 1), (5, .invokevirtual 121), (8, .istore_n 3), (9, .aload_n 0), (10, .aload_n 0), (11, .getfield 25), (14, .iload_n 1), (15, .iconst 0), (16, .invokevirtual 142), (19, .iload_n 2), (20, .iconst 1), (21, .iadd), (22, .invokevirtual 81), (25, .istore 4), (27, .aload_n 0), (28, .iload 4), (30, .invokevirtual 145), (33, .ifCond .eq 35), (36, .aload_n 0), (37, .iload_n 3), (38, .iconst 1), (39, .aload_n 0), (40, .getfield 39), (43, .iload 4), (45, .invokevirtual 121), (48, .invokevirtual 102), (51, .aload_n 0), (52, .aload_n 0), (53, .getfield 25), (56, .iload_n 1), (57, .iconst 1), (58, .invokevirtual 142), (61, .iload_n 2), (62, .iconst 1), (63, .iadd), (64, .invokevirtual 81), (67, .ireturn), (68, .aload_n 0)]
def tb_I_94_1 : List (Nat × Instr) := [(69, .iload_n 3), (70, .iconst 0), (71, .iload_n 3), (72, .invokevirtual 102), (75, .aload_n 0), (76, .getfield 39), (79, .iconst 3), (80, .iload_n 3), (81, .invokevirtual 124), (84, .istore 5), (86, .aload_n 0), (87, .getfield 39), (90, .iload 5), (92, .iload 4), (94, .invokevirtual 156), (97, .aload_n 0), (98, .getfield 39), (101, .iload 5), (103, .aload_n 0), (104, .aload_n 0), (105, .getfield 25), (108, .iload_n 1), (109, .iconst 1), (110, .invokevirtual 142), (113, .iload_n 2), (114, .iconst 1), (115, .iadd), (116, .invokevirtual 81), (119, .invokevirtual 156), (122, .iload 5), (124, .ireturn)]
/-- Specialiser$Trees.part(II)I -/
def tb_I_95_0 : List (Nat × Instr) := [(0, .iload_n 2), (1, .ifCond .lt 23), (4, .iload_n 2), (5, .iconst 4), (6, .if_icmp .ge 18), (9, .aload_n 0), (10, .getfield 26), (13, .iload_n 1), (14, .iconst 4), (15, .imul), (16, .iload_n 2), (17, .iadd), (18, .invokevirtual 43), (21, .goto 4), (24, .iconst 0), (25, .ireturn)]
/-- Specialiser$Maker.isNumber(I)Z -/
def tb_I_96_0 : List (Nat × Instr) := [(0, .aload_n 0), (1, .getfield 39), (4, .iload_n 1), (5, .invokevirtual 116), (8, .iconst 1), (9, .if_icmp .ne 7), (12, .iconst 1), (13, .goto 4), (16, .iconst 0), (17, .ireturn)]
/-- Specialiser$Maker.becomeIf(II)I -/
def tb_I_97_0 : List (Nat × Instr) := [(0, .aload_n 0), (1, .aload_n 0), (2, .getfield 25), (5, .iload_n 1), (6, .iconst 0), (7, .invokevirtual 142), (10, .iload_n 2), (11, .iconst 1), (12, .iadd), (13, .invokevirtual 81), (16, .istore_n 3), (17, .aload_n 0), (18, .iload_n 3), (19, .invokevirtual 145), (22, .ifCond .eq 35), (25, .aload_n 0), (26, .aload_n 0), (27, .getfield 25), (30, .iload_n 1), (31, .aload_n 0), (32, .getfield 39), (35, .iload_n 3), (36, .invokevirtual 121), (39, .ifCond .ne 7), (42, .iconst 2), (43, .goto 4), (46, .iconst 1), (47, .invokevirtual 142), (50, .iload_n 2), (51, .iconst 1), (52, .iadd), (53, .invokevirtual 81), (56, .ireturn), (57, .aload_n 0), (58, .getfield 39), (61, .iconst 4), (62, .iconst 0), (63, .invokevirtual 124), (66, .istore 4), (68, .aload_n 0)]
def tb_I_97_1 : List (Nat × Instr) := [(69, .getfield 39), (72, .iload 4), (74, .iload_n 3), (75, .invokevirtual 156), (78, .aload_n 0), (79, .getfield 39), (82, .iload 4), (84, .aload_n 0), (85, .aload_n 0), (86, .getfield 25), (89, .iload_n 1), (90, .iconst 1), (91, .invokevirtual 142), (94, .iload_n 2), (95, .iconst 1), (96, .iadd), (97, .invokevirtual 81), (100, .invokevirtual 156), (103, .aload_n 0), (104, .getfield 39), (107, .iload 4), (109, .aload_n 0), (110, .aload_n 0), (111, .getfield 25), (114, .iload_n 1), (115, .iconst 2), (116, .invokevirtual 142), (119, .iload_n 2), (120, .iconst 1), (121, .iadd), (122, .invokevirtual 81), (125, .invokevirtual 156), (128, .iload 4), (130, .ireturn)]
/-- Specialiser$Maker.becomeCall(II)I -/
def tb_I_98_0 : List (Nat × Instr) := [(0, .aload_n 0), (1, .getfield 39), (4, .iconst 5), (5, .iconst 0), (6, .invokevirtual 124), (9, .istore_n 3), (10, .iconst 0), (11, .istore 4), (13, .iload 4), (15, .iconst 4), (16, .if_icmp .ge 47), (19, .iload 4), (21, .aload_n 0), (22, .getfield 25), (25, .iload_n 1), (26, .invokevirtual 159), (29, .if_icmp .ge 34), (32, .aload_n 0), (33, .getfield 39), (36, .iload_n 3), (37, .aload_n 0), (38, .aload_n 0), (39, .getfield 25), (42, .iload_n 1), (43, .iload 4), (45, .invokevirtual 142), (48, .iload_n 2), (49, .iconst 1), (50, .iadd), (51, .invokevirtual 81), (54, .invokevirtual 156), (57, .iinc 4 1), (60, .goto (-47)), (63, .aload_n 0), (64, .getfield 25), (67, .iload_n 1), (68, .invokevirtual 121), (71, .istore 4), (73, .aload_n 0), (74, .iload_n 3)]
def tb_I_98_1 : List (Nat × Instr) := [(75, .invokevirtual 162), (78, .istore 5), (80, .iload 5), (82, .aload_n 0), (83, .getfield 15), (86, .iload 4), (88, .invokevirtual 165), (91, .if_icmp .ne 64), (94, .aload_n 0), (95, .dup), (96, .getfield 61), (99, .iconst 1), (100, .iadd), (101, .putfield 61), (104, .aload_n 0), (105, .getfield 9), (108, .aload_n 0), (109, .getfield 15), (112, .iload 4), (114, .aload_n 0), (115, .getfield 54), (118, .sipush 500), (121, .invokevirtual 168), (124, .iconst 1), (125, .if_icmp .ne 30), (128, .aload_n 0), (129, .dup), (130, .getfield 64), (133, .iconst 1), (134, .iadd), (135, .putfield 64), (138, .aload_n 0), (139, .getfield 39), (142, .iload_n 3), (143, .aload_n 0), (144, .getfield 9), (147, .invokevirtual 174), (150, .invokevirtual 177), (153, .iload_n 3), (154, .ireturn)]
def tb_I_98_2 : List (Nat × Instr) := [(155, .aload_n 0), (156, .iload_n 3), (157, .iload 4), (159, .iload 5), (161, .invokevirtual 180), (164, .iload_n 3), (165, .ireturn)]
/-- Specialiser$Maker.gatherWanted(I)I -/
def tb_I_99_0 : List (Nat × Instr) := [(0, .iconst 0), (1, .istore_n 2), (2, .iconst 0), (3, .istore_n 3), (4, .iload_n 3), (5, .iconst 4), (6, .if_icmp .ge 64), (9, .iload_n 3), (10, .aload_n 0), (11, .getfield 39), (14, .iload_n 1), (15, .invokevirtual 159), (18, .if_icmp .ge 52), (21, .aload_n 0), (22, .getfield 39), (25, .iload_n 1), (26, .iload_n 3), (27, .invokevirtual 142), (30, .istore 4), (32, .aload_n 0), (33, .iload 4), (35, .invokevirtual 145), (38, .ifCond .eq 26), (41, .iload_n 2), (42, .iconst 1), (43, .iload_n 3), (44, .ishl), (45, .ior), (46, .istore_n 2), (47, .aload_n 0), (48, .getfield 54), (51, .iload_n 3), (52, .aload_n 0), (53, .getfield 39), (56, .iload 4), (58, .invokevirtual 121), (61, .invokevirtual 106), (64, .iinc 3 1), (67, .goto (-63)), (70, .iload_n 2)]
def tb_I_99_1 : List (Nat × Instr) := [(71, .ireturn)]
/-- Specialiser$Runner.work(LSpecialiser$Bodies;ILSpecialiser$Row;I)I -/
def tb_I_100_0 : List (Nat × Instr) := [(0, .aload_n 0), (1, .aload_n 1), (2, .putfield 32), (5, .aload_n 0), (6, .aload_n 1), (7, .invokevirtual 36), (10, .putfield 42), (13, .aload_n 0), (14, .iload 4), (16, .putfield 45), (19, .aload_n 0), (20, .iconst 0), (21, .putfield 49), (24, .aload_n 0), (25, .iconst 0), (26, .putfield 52), (29, .aload_n 0), (30, .iconst 0), (31, .putfield 55), (34, .aload_n 0), (35, .iconst 0), (36, .putfield 61), (39, .iconst 0), (40, .istore 5), (42, .iload 5), (44, .iconst 4), (45, .if_icmp .ge 24), (48, .aload_n 0), (49, .getfield 29), (52, .iload 5), (54, .aload_n 3), (55, .iload 5), (57, .invokevirtual 64), (60, .invokevirtual 68), (63, .iinc 5 1), (66, .goto (-24)), (69, .aload_n 0), (70, .aload_n 1), (71, .iload_n 2), (72, .invokevirtual 72)]
def tb_I_100_1 : List (Nat × Instr) := [(75, .iconst 0), (76, .invokevirtual 75), (79, .iconst 0), (80, .istore 5), (82, .iload 5), (84, .ldc 78), (86, .if_icmp .ge 184), (89, .aload_n 0), (90, .getfield 61), (93, .ifCond .ne 177), (96, .aload_n 0), (97, .getfield 14), (100, .aload_n 0), (101, .getfield 49), (104, .invokevirtual 64), (107, .istore 6), (109, .aload_n 0), (110, .getfield 20), (113, .aload_n 0), (114, .getfield 49), (117, .invokevirtual 64), (120, .istore 7), (122, .aload_n 0), (123, .getfield 20), (126, .aload_n 0), (127, .getfield 49), (130, .iload 7), (132, .iconst 1), (133, .iadd), (134, .invokevirtual 68), (137, .aload_n 0), (138, .getfield 42), (141, .iload 6), (143, .invokevirtual 79), (146, .tableswitch 110 1 5 #[34, 50, 77, 88, 99]), (180, .aload_n 0), (181, .aload_n 0), (182, .getfield 42), (185, .iload 6), (187, .invokevirtual 84)]
def tb_I_100_2 : List (Nat × Instr) := [(190, .invokevirtual 87), (193, .goto 71), (196, .aload_n 0), (197, .aload_n 0), (198, .getfield 29), (201, .aload_n 0), (202, .aload_n 0), (203, .getfield 42), (206, .iload 6), (208, .invokevirtual 84), (211, .invokevirtual 90), (214, .invokevirtual 64), (217, .invokevirtual 87), (220, .goto 44), (223, .aload_n 0), (224, .iload 6), (226, .iload 7), (228, .invokevirtual 93), (231, .goto 33), (234, .aload_n 0), (235, .iload 6), (237, .iload 7), (239, .invokevirtual 96), (242, .goto 22), (245, .aload_n 0), (246, .iload 6), (248, .iload 7), (250, .invokevirtual 99), (253, .goto 11), (256, .aload_n 0), (257, .iload 6), (259, .iload 7), (261, .invokevirtual 102), (264, .iinc 5 1), (267, .goto (-185)), (270, .aload_n 0), (271, .getfield 61), (274, .ireturn)]
/-- Specialiser$Runner.begin(II)V -/
def tb_I_101_0 : List (Nat × Instr) := [(0, .aload_n 0), (1, .getfield 52), (4, .aload_n 0), (5, .getfield 45), (8, .if_icmp .lt 9), (11, .aload_n 0), (12, .iconst 2), (13, .putfield 61), (16, .return_), (17, .aload_n 0), (18, .getfield 49), (21, .sipush 160), (24, .if_icmp .lt 9), (27, .aload_n 0), (28, .iconst 3), (29, .putfield 61), (32, .return_), (33, .aload_n 0), (34, .dup), (35, .getfield 52), (38, .iconst 1), (39, .iadd), (40, .putfield 52), (43, .aload_n 0), (44, .dup), (45, .getfield 49), (48, .iconst 1), (49, .iadd), (50, .putfield 49), (53, .aload_n 0), (54, .aload_n 0), (55, .getfield 55), (58, .aload_n 0), (59, .getfield 49), (62, .invokestatic 105), (65, .putfield 55), (68, .aload_n 0), (69, .getfield 14), (72, .aload_n 0), (73, .getfield 49)]
def tb_I_101_1 : List (Nat × Instr) := [(76, .iload_n 1), (77, .invokevirtual 68), (80, .aload_n 0), (81, .getfield 20), (84, .aload_n 0), (85, .getfield 49), (88, .iconst 0), (89, .invokevirtual 68), (92, .aload_n 0), (93, .getfield 26), (96, .aload_n 0), (97, .getfield 49), (100, .iload_n 2), (101, .invokevirtual 68), (104, .return_)]
/-- Specialiser$Runner.finish(I)V -/
def tb_I_102_0 : List (Nat × Instr) := [(0, .aload_n 0), (1, .iload_n 1), (2, .putfield 58), (5, .aload_n 0), (6, .dup), (7, .getfield 49), (10, .iconst 1), (11, .isub), (12, .putfield 49), (15, .aload_n 0), (16, .getfield 49), (19, .ifCond .ne 8), (22, .aload_n 0), (23, .iconst 1), (24, .putfield 61), (27, .return_)]
/-- Specialiser$Runner.slot(I)I -/
def tb_I_103_0 : List (Nat × Instr) := [(0, .aload_n 0), (1, .getfield 26), (4, .aload_n 0), (5, .getfield 49), (8, .invokevirtual 64), (11, .bipush 16), (13, .imul), (14, .iload_n 1), (15, .iadd), (16, .ireturn)]
/-- Specialiser$Runner.goOnLet(II)V -/
def tb_I_104_0 : List (Nat × Instr) := [(0, .iload_n 2), (1, .ifCond .ne 30), (4, .aload_n 0), (5, .aload_n 0), (6, .getfield 42), (9, .iload_n 1), (10, .iconst 0), (11, .invokevirtual 111), (14, .aload_n 0), (15, .getfield 26), (18, .aload_n 0), (19, .getfield 49), (22, .invokevirtual 64), (25, .invokevirtual 75), (28, .goto 66), (31, .iload_n 2), (32, .iconst 1), (33, .if_icmp .ne 53), (36, .aload_n 0), (37, .getfield 29), (40, .aload_n 0), (41, .aload_n 0), (42, .getfield 42), (45, .iload_n 1), (46, .invokevirtual 84), (49, .invokevirtual 90), (52, .aload_n 0), (53, .getfield 58), (56, .invokevirtual 68), (59, .aload_n 0), (60, .aload_n 0), (61, .getfield 42), (64, .iload_n 1), (65, .iconst 1), (66, .invokevirtual 111), (69, .aload_n 0), (70, .getfield 26), (73, .aload_n 0), (74, .getfield 49), (77, .invokevirtual 64)]
def tb_I_104_1 : List (Nat × Instr) := [(80, .invokevirtual 75), (83, .goto 11), (86, .aload_n 0), (87, .aload_n 0), (88, .getfield 58), (91, .invokevirtual 87), (94, .return_)]
/-- Specialiser$Runner.goOnIf(II)V -/
def tb_I_105_0 : List (Nat × Instr) := [(0, .iload_n 2), (1, .ifCond .ne 30), (4, .aload_n 0), (5, .aload_n 0), (6, .getfield 42), (9, .iload_n 1), (10, .iconst 0), (11, .invokevirtual 111), (14, .aload_n 0), (15, .getfield 26), (18, .aload_n 0), (19, .getfield 49), (22, .invokevirtual 64), (25, .invokevirtual 75), (28, .goto 54), (31, .iload_n 2), (32, .iconst 1), (33, .if_icmp .ne 41), (36, .aload_n 0), (37, .aload_n 0), (38, .getfield 42), (41, .iload_n 1), (42, .aload_n 0), (43, .getfield 58), (46, .ifCond .ne 7), (49, .iconst 2), (50, .goto 4), (53, .iconst 1), (54, .invokevirtual 111), (57, .aload_n 0), (58, .getfield 26), (61, .aload_n 0), (62, .getfield 49), (65, .invokevirtual 64), (68, .invokevirtual 75), (71, .goto 11), (74, .aload_n 0), (75, .aload_n 0), (76, .getfield 58), (79, .invokevirtual 87)]
def tb_I_105_1 : List (Nat × Instr) := [(82, .return_)]
/-- Specialiser$Runner.goOnCall(II)V -/
def tb_I_106_0 : List (Nat × Instr) := [(0, .aload_n 0), (1, .getfield 42), (4, .iload_n 1), (5, .invokevirtual 118), (8, .istore_n 3), (9, .iload_n 2), (10, .iload_n 3), (11, .if_icmp .le 12), (14, .aload_n 0), (15, .aload_n 0), (16, .getfield 58), (19, .invokevirtual 87), (22, .return_), (23, .iload_n 2), (24, .ifCond .le 25), (27, .aload_n 0), (28, .getfield 29), (31, .aload_n 0), (32, .getfield 49), (35, .bipush 16), (37, .imul), (38, .iload_n 2), (39, .iadd), (40, .iconst 1), (41, .isub), (42, .aload_n 0), (43, .getfield 58), (46, .invokevirtual 68), (49, .iload_n 2), (50, .iload_n 3), (51, .if_icmp .ge 30), (54, .aload_n 0), (55, .aload_n 0), (56, .getfield 42), (59, .iload_n 1), (60, .iload_n 2), (61, .invokevirtual 111), (64, .aload_n 0), (65, .getfield 26), (68, .aload_n 0)]
def tb_I_106_1 : List (Nat × Instr) := [(69, .getfield 49), (72, .invokevirtual 64), (75, .invokevirtual 75), (78, .goto 26), (81, .aload_n 0), (82, .aload_n 0), (83, .getfield 32), (86, .aload_n 0), (87, .getfield 42), (90, .iload_n 1), (91, .invokevirtual 84), (94, .invokevirtual 72), (97, .aload_n 0), (98, .getfield 49), (101, .invokevirtual 75), (104, .return_)]
/-- Specialiser$Runner.goOnSign(II)V -/
def tb_I_107_0 : List (Nat × Instr) := [(0, .iload_n 2), (1, .ifCond .ne 30), (4, .aload_n 0), (5, .aload_n 0), (6, .getfield 42), (9, .iload_n 1), (10, .iconst 0), (11, .invokevirtual 111), (14, .aload_n 0), (15, .getfield 26), (18, .aload_n 0), (19, .getfield 49), (22, .invokevirtual 64), (25, .invokevirtual 75), (28, .goto 80), (31, .iload_n 2), (32, .iconst 1), (33, .if_icmp .ne 45), (36, .aload_n 0), (37, .getfield 23), (40, .aload_n 0), (41, .getfield 49), (44, .aload_n 0), (45, .getfield 58), (48, .invokevirtual 68), (51, .aload_n 0), (52, .aload_n 0), (53, .getfield 42), (56, .iload_n 1), (57, .iconst 1), (58, .invokevirtual 111), (61, .aload_n 0), (62, .getfield 26), (65, .aload_n 0), (66, .getfield 49), (69, .invokevirtual 64), (72, .invokevirtual 75), (75, .goto 33), (78, .aload_n 0), (79, .aload_n 0)]
def tb_I_107_1 : List (Nat × Instr) := [(80, .getfield 42), (83, .iload_n 1), (84, .invokevirtual 79), (87, .aload_n 0), (88, .getfield 23), (91, .aload_n 0), (92, .getfield 49), (95, .invokevirtual 64), (98, .aload_n 0), (99, .getfield 58), (102, .invokestatic 114), (105, .invokevirtual 87), (108, .return_)]
/-- Specialiser.signed(III)I -/
def tb_I_108_0 : List (Nat × Instr) := [(0, .iload_n 0), (1, .tableswitch 54 6 9 #[31, 35, 39, 43]), (32, .iload_n 1), (33, .iload_n 2), (34, .iadd), (35, .ireturn), (36, .iload_n 1), (37, .iload_n 2), (38, .isub), (39, .ireturn), (40, .iload_n 1), (41, .iload_n 2), (42, .imul), (43, .ireturn), (44, .iload_n 1), (45, .iload_n 2), (46, .if_icmp .ge 7), (49, .iconst 1), (50, .goto 4), (53, .iconst 0), (54, .ireturn), (55, .iload_n 1), (56, .iload_n 2), (57, .if_icmp .ne 7), (60, .iconst 1), (61, .goto 4), (64, .iconst 0), (65, .ireturn)]
/-- Specialiser$Runner.result()I -/
def tb_I_109_0 : List (Nat × Instr) := [(0, .aload_n 0), (1, .getfield 58), (4, .ireturn)]
/-- Specialiser$Trees.turnIntoNumber(II)V -/
def tb_I_110_0 : List (Nat × Instr) := [(0, .aload_n 0), (1, .getfield 14), (4, .iload_n 1), (5, .iconst 1), (6, .invokevirtual 39), (9, .aload_n 0), (10, .getfield 20), (13, .iload_n 1), (14, .iload_n 2), (15, .invokevirtual 39), (18, .aload_n 0), (19, .getfield 23), (22, .iload_n 1), (23, .iconst 0), (24, .invokevirtual 39), (27, .aload_n 0), (28, .getfield 29), (31, .iload_n 1), (32, .iconst 1), (33, .invokevirtual 39), (36, .aload_n 0), (37, .getfield 32), (40, .iload_n 1), (41, .iconst 0), (42, .invokevirtual 39), (45, .return_)]
/-- Specialiser$Maker.leadToVersion(III)V -/
def tb_I_111_0 : List (Nat × Instr) := [(0, .aload_n 0), (1, .getfield 29), (4, .iload_n 2), (5, .iload_n 3), (6, .aload_n 0), (7, .getfield 54), (10, .invokevirtual 183), (13, .istore 4), (15, .iload 4), (17, .iconst (-1)), (18, .if_icmp .ne 15), (21, .aload_n 0), (22, .getfield 29), (25, .invokevirtual 67), (28, .bipush 30), (30, .if_icmp .ge 7), (33, .iconst 1), (34, .goto 4), (37, .iconst 0), (38, .istore 5), (40, .iload 5), (42, .ifCond .eq 14), (45, .aload_n 0), (46, .getfield 39), (49, .iload_n 1), (50, .invokevirtual 187), (53, .goto 18), (56, .aload_n 0), (57, .getfield 29), (60, .iload_n 2), (61, .iconst 0), (62, .aload_n 0), (63, .getfield 54), (66, .invokevirtual 183), (69, .istore 4), (71, .iload 4), (73, .iconst (-1)), (74, .if_icmp .ne 35), (77, .aload_n 0), (78, .getfield 29)]
def tb_I_111_1 : List (Nat × Instr) := [(81, .iload_n 2), (82, .iload 5), (84, .ifCond .eq 7), (87, .iload_n 3), (88, .goto 4), (91, .iconst 0), (92, .aload_n 0), (93, .getfield 54), (96, .aload_n 0), (97, .getfield 15), (100, .iload_n 2), (101, .invokevirtual 89), (104, .invokevirtual 190), (107, .istore 4), (109, .aload_n 0), (110, .getfield 39), (113, .iload_n 1), (114, .iload 4), (116, .invokevirtual 194), (119, .return_)]
/-- Specialiser$Versions.find(IILSpecialiser$Row;)I -/
def tb_I_112_0 : List (Nat × Instr) := [(0, .iconst 0), (1, .istore 4), (3, .iload 4), (5, .aload_n 0), (6, .invokevirtual 57), (9, .if_icmp .ge 43), (12, .aload_n 0), (13, .iload 4), (15, .invokevirtual 61), (18, .iload_n 1), (19, .if_icmp .ne 27), (22, .aload_n 0), (23, .iload 4), (25, .invokevirtual 64), (28, .iload_n 2), (29, .if_icmp .ne 17), (32, .aload_n 0), (33, .iload 4), (35, .iload_n 2), (36, .aload_n 3), (37, .invokevirtual 67), (40, .ifCond .eq 6), (43, .iload 4), (45, .ireturn), (46, .iinc 4 1), (49, .goto (-46)), (52, .iconst (-1)), (53, .ireturn)]
/-- Specialiser$Versions.agrees(IILSpecialiser$Row;)Z -/
def tb_I_113_0 : List (Nat × Instr) := [(0, .iconst 0), (1, .istore 4), (3, .iload 4), (5, .iconst 4), (6, .if_icmp .ge 42), (9, .iload_n 2), (10, .iload 4), (12, .invokestatic 50), (15, .ifCond .eq 27), (18, .aload_n 0), (19, .getfield 32), (22, .iload_n 1), (23, .iconst 4), (24, .imul), (25, .iload 4), (27, .iadd), (28, .invokevirtual 54), (31, .aload_n 3), (32, .iload 4), (34, .invokevirtual 54), (37, .if_icmp .eq 5), (40, .iconst 0), (41, .ireturn), (42, .iinc 4 1), (45, .goto (-42)), (48, .iconst 1), (49, .ireturn)]
/-- Specialiser$Trees.dropNumbers(I)V -/
def tb_I_114_0 : List (Nat × Instr) := [(0, .iconst 0), (1, .istore_n 2), (2, .iconst 0), (3, .istore_n 3), (4, .iload_n 3), (5, .aload_n 0), (6, .iload_n 1), (7, .invokevirtual 54), (10, .if_icmp .ge 65), (13, .aload_n 0), (14, .iload_n 1), (15, .iload_n 3), (16, .invokevirtual 56), (19, .istore 4), (21, .aload_n 0), (22, .iload 4), (24, .invokevirtual 59), (27, .iconst 1), (28, .if_icmp .ne 24), (31, .aload_n 0), (32, .getfield 29), (35, .iload_n 1), (36, .aload_n 0), (37, .getfield 29), (40, .iload_n 1), (41, .invokevirtual 43), (44, .iconst 1), (45, .isub), (46, .invokevirtual 39), (49, .goto 20), (52, .aload_n 0), (53, .getfield 26), (56, .iload_n 1), (57, .iconst 4), (58, .imul), (59, .iload_n 2), (60, .iadd), (61, .iload 4), (63, .invokevirtual 39), (66, .iinc 2 1)]
def tb_I_114_1 : List (Nat × Instr) := [(69, .iinc 3 1), (72, .goto (-68)), (75, .aload_n 0), (76, .getfield 23), (79, .iload_n 1), (80, .iload_n 2), (81, .invokevirtual 39), (84, .return_)]
/-- Specialiser$Maker.becomeSign(II)I -/
def tb_I_115_0 : List (Nat × Instr) := [(0, .aload_n 0), (1, .aload_n 0), (2, .getfield 25), (5, .iload_n 1), (6, .iconst 0), (7, .invokevirtual 142), (10, .iload_n 2), (11, .iconst 1), (12, .iadd), (13, .invokevirtual 81), (16, .istore_n 3), (17, .aload_n 0), (18, .aload_n 0), (19, .getfield 25), (22, .iload_n 1), (23, .iconst 1), (24, .invokevirtual 142), (27, .iload_n 2), (28, .iconst 1), (29, .iadd), (30, .invokevirtual 81), (33, .istore 4), (35, .aload_n 0), (36, .getfield 25), (39, .iload_n 1), (40, .invokevirtual 116), (43, .istore 5), (45, .aload_n 0), (46, .iload_n 3), (47, .invokevirtual 145), (50, .ifCond .eq 43), (53, .aload_n 0), (54, .iload 4), (56, .invokevirtual 145), (59, .ifCond .eq 34), (62, .aload_n 0), (63, .getfield 39), (66, .iconst 1), (67, .iload 5), (69, .aload_n 0)]
def tb_I_115_1 : List (Nat × Instr) := [(70, .getfield 39), (73, .iload_n 3), (74, .invokevirtual 121), (77, .aload_n 0), (78, .getfield 39), (81, .iload 4), (83, .invokevirtual 121), (86, .invokestatic 149), (89, .invokevirtual 124), (92, .ireturn), (93, .aload_n 0), (94, .getfield 39), (97, .iload 5), (99, .iload_n 3), (100, .iload 4), (102, .invokevirtual 153), (105, .ireturn)]
/-- Specialiser.keepTold()V -/
def tb_I_116_0 : List (Nat × Instr) := [(0, .aload_n 0), (1, .getfield 89), (4, .iconst 0), (5, .aload_n 0), (6, .getfield 58), (9, .invokevirtual 195), (12, .invokevirtual 127), (15, .aload_n 0), (16, .getfield 89), (19, .iconst 1), (20, .aload_n 0), (21, .getfield 58), (24, .invokevirtual 196), (27, .invokevirtual 127), (30, .aload_n 0), (31, .getfield 89), (34, .iconst 2), (35, .aload_n 0), (36, .getfield 79), (39, .invokevirtual 198), (42, .invokevirtual 127), (45, .aload_n 0), (46, .getfield 89), (49, .iconst 3), (50, .aload_n 0), (51, .getfield 79), (54, .invokevirtual 201), (57, .invokevirtual 127), (60, .aload_n 0), (61, .getfield 89), (64, .iconst 4), (65, .aload_n 0), (66, .getfield 79), (69, .invokevirtual 204), (72, .invokevirtual 127), (75, .return_)]
/-- Specialiser$Versions.expressions()I -/
def tb_I_117_0 : List (Nat × Instr) := [(0, .iconst 0), (1, .istore_n 1), (2, .iconst 0), (3, .istore_n 2), (4, .iload_n 2), (5, .aload_n 0), (6, .invokevirtual 57), (9, .if_icmp .ge 20), (12, .iload_n 1), (13, .aload_n 0), (14, .getfield 14), (17, .iload_n 2), (18, .invokevirtual 84), (21, .iadd), (22, .istore_n 1), (23, .iinc 2 1), (26, .goto (-22)), (29, .iload_n 1), (30, .ireturn)]
/-- Specialiser$Maker.tried()I -/
def tb_I_118_0 : List (Nat × Instr) := [(0, .aload_n 0), (1, .getfield 61), (4, .ireturn)]
/-- Specialiser$Maker.triedWell()I -/
def tb_I_119_0 : List (Nat × Instr) := [(0, .aload_n 0), (1, .getfield 64), (4, .ireturn)]
/-- Specialiser$Maker.goneThrough()I -/
def tb_I_120_0 : List (Nat × Instr) := [(0, .aload_n 0), (1, .getfield 57), (4, .ireturn)]
/-- Specialiser.version(II)I -/
def tb_I_121_0 : List (Nat × Instr) := [(0, .aload_n 0), (1, .getfield 58), (4, .invokevirtual 207), (7, .iload_n 1), (8, .invokevirtual 151), (11, .ifCond .eq 13), (14, .iload_n 2), (15, .ifCond .lt 9), (18, .iload_n 2), (19, .bipush 9), (21, .if_icmp .le 13), (34, .iload_n 2), (35, .tableswitch 108 0 5 #[37, 46, 55, 67, 79, 91]), (72, .aload_n 0), (73, .getfield 58), (76, .iload_n 1), (77, .invokevirtual 213), (80, .ireturn), (81, .aload_n 0), (82, .getfield 58), (85, .iload_n 1), (86, .invokevirtual 216), (89, .ireturn), (90, .aload_n 0), (91, .getfield 58), (94, .invokevirtual 207), (97, .iload_n 1), (98, .invokevirtual 160), (101, .ireturn), (102, .aload_n 0), (103, .getfield 58), (106, .invokevirtual 207), (109, .iload_n 1), (110, .invokevirtual 164), (113, .ireturn), (114, .aload_n 0), (115, .getfield 58), (118, .invokevirtual 207), (121, .iload_n 1), (122, .invokevirtual 167)]
def tb_I_121_1 : List (Nat × Instr) := [(125, .ireturn), (126, .aload_n 0), (127, .getfield 58), (130, .iload_n 1), (131, .invokevirtual 219), (134, .ifCond .eq 7), (137, .iconst 1), (138, .goto 4), (141, .iconst 0), (142, .ireturn), (143, .aload_n 0), (144, .getfield 58), (147, .iload_n 1), (148, .iload_n 2), (149, .bipush 6), (151, .isub), (152, .invokevirtual 222), (155, .ireturn)]
/-- Specialiser$Versions.isNumber(I)Z -/
def tb_I_122_0 : List (Nat × Instr) := [(0, .aload_n 0), (1, .getfield 14), (4, .invokevirtual 72), (7, .aload_n 0), (8, .getfield 14), (11, .iload_n 1), (12, .invokevirtual 76), (15, .invokevirtual 79), (18, .iconst 1), (19, .if_icmp .ne 7), (22, .iconst 1), (23, .goto 4), (26, .iconst 0), (27, .ireturn)]
/-- Specialiser.told(I)I -/
def tb_I_123_0 : List (Nat × Instr) := [(0, .iload_n 1), (1, .ifCond .lt 9), (4, .iload_n 1), (5, .bipush 7), (7, .if_icmp .le 13), (20, .iload_n 1), (21, .tableswitch 45 5 7 #[27, 35, 40]), (48, .aload_n 0), (49, .getfield 86), (52, .invokestatic 172), (55, .ireturn), (56, .aload_n 0), (57, .getfield 111), (60, .ireturn), (61, .aload_n 0), (62, .getfield 18), (65, .ireturn), (66, .aload_n 0), (67, .getfield 89), (70, .iload_n 1), (71, .invokevirtual 228), (74, .ireturn)]
/-- Specialiser.print()I -/
def tb_I_124_0 : List (Nat × Instr) := [(0, .aload_n 0), (1, .getfield 58), (4, .invokevirtual 195), (7, .ifCond .ne 13), (20, .aload_n 0), (21, .getfield 104), (24, .aload_n 0), (25, .getfield 58), (28, .iconst 0), (29, .invokevirtual 233), (32, .ldc 92), (34, .if_icmp .le 13), (47, .aload_n 0), (48, .aload_n 0), (49, .getfield 104), (52, .aload_n 0), (53, .getfield 58), (56, .iconst 1), (57, .invokevirtual 233), (60, .putfield 96), (63, .aload_n 0), (64, .getfield 96), (67, .ireturn)]
/-- Specialiser$Printer.showAll(LSpecialiser$Versions;Z)I -/
def tb_I_125_0 : List (Nat × Instr) := [(0, .aload_n 0), (1, .aload_n 1), (2, .putfield 23), (5, .aload_n 0), (6, .aload_n 1), (7, .invokevirtual 27), (10, .invokevirtual 33), (13, .putfield 39), (16, .aload_n 0), (17, .iload_n 2), (18, .putfield 43), (21, .aload_n 0), (22, .iconst 0), (23, .putfield 47), (26, .iconst 0), (27, .istore_n 3), (28, .iload_n 3), (29, .aload_n 0), (30, .getfield 23), (33, .invokevirtual 57), (36, .if_icmp .ge 14), (39, .aload_n 0), (40, .iload_n 3), (41, .invokevirtual 61), (44, .iinc 3 1), (47, .goto (-19)), (50, .aload_n 0), (51, .getfield 47), (54, .ireturn)]
/-- Specialiser$Printer.showVersion(I)V -/
def tb_I_126_0 : List (Nat × Instr) := [(0, .aload_n 0), (1, .aload_n 0), (2, .getfield 23), (5, .invokevirtual 27), (8, .iload_n 1), (9, .invokevirtual 79), (12, .putfield 51), (15, .aload_n 0), (16, .iconst 0), (17, .putfield 54), (20, .aload_n 0), (21, .bipush 118), (23, .invokevirtual 76), (26, .aload_n 0), (27, .iload_n 1), (28, .invokevirtual 82), (31, .aload_n 0), (32, .bipush 40), (34, .invokevirtual 76), (37, .iconst 0), (38, .istore_n 2), (39, .iload_n 2), (40, .aload_n 0), (41, .getfield 51), (44, .if_icmp .ge 32), (47, .aload_n 0), (48, .iload_n 2), (49, .ifCond .ne 8), (52, .ldc 85), (54, .goto 5), (57, .ldc 87), (59, .invokevirtual 89), (62, .aload_n 0), (63, .bipush 97), (65, .iload_n 2), (66, .iadd), (67, .invokevirtual 76), (70, .iinc 2 1), (73, .goto (-34)), (76, .aload_n 0)]
def tb_I_126_1 : List (Nat × Instr) := [(77, .ldc 93), (79, .invokevirtual 89), (82, .aload_n 0), (83, .aload_n 0), (84, .getfield 23), (87, .invokevirtual 27), (90, .iload_n 1), (91, .invokevirtual 95), (94, .iconst 0), (95, .invokevirtual 98), (98, .aload_n 0), (99, .ldc 101), (101, .invokevirtual 89), (104, .return_)]
/-- Specialiser$Printer.put(I)V -/
def tb_I_127_0 : List (Nat × Instr) := [(0, .aload_n 0), (1, .getfield 43), (4, .ifCond .eq 15), (7, .aload_n 0), (8, .getfield 9), (11, .aload_n 0), (12, .getfield 47), (15, .iload_n 1), (16, .invokevirtual 64), (19, .aload_n 0), (20, .dup), (21, .getfield 47), (24, .iconst 1), (25, .iadd), (26, .putfield 47), (29, .return_)]
/-- Specialiser$Printer.putNumber(I)V -/
def tb_I_128_0 : List (Nat × Instr) := [(0, .iload_n 1), (1, .ifCond .ge 8), (4, .iload_n 1), (5, .ineg), (6, .goto 4), (9, .iload_n 1), (10, .istore_n 2), (11, .iload_n 1), (12, .ifCond .ge 9), (15, .aload_n 0), (16, .bipush 45), (18, .invokevirtual 76), (21, .ldc 78), (23, .istore_n 3), (24, .iload_n 3), (25, .ifCond .le 34), (28, .iload_n 2), (29, .iload_n 3), (30, .if_icmp .ge 8), (33, .iload_n 3), (34, .iconst 1), (35, .if_icmp .ne 16), (38, .aload_n 0), (39, .bipush 48), (41, .iload_n 2), (42, .iload_n 3), (43, .idiv), (44, .bipush 10), (46, .irem), (47, .iadd), (48, .invokevirtual 76), (51, .iload_n 3), (52, .bipush 10), (54, .idiv), (55, .istore_n 3), (56, .goto (-32)), (59, .return_)]
/-- Specialiser$Printer.putText(Ljava/lang/String;)V -/
def tb_I_129_0 : List (Nat × Instr) := [(0, .iconst 0), (1, .istore_n 2), (2, .iload_n 2), (3, .aload_n 1), (4, .invokevirtual 68), (7, .if_icmp .ge 18), (10, .aload_n 0), (11, .aload_n 1), (12, .iload_n 2), (13, .invokevirtual 72), (16, .invokevirtual 76), (19, .iinc 2 1), (22, .goto (-20)), (25, .return_)]
/-- Specialiser$Printer.show(II)V -/
def tb_I_130_0 : List (Nat × Instr) := [(0, .iload_n 2), (1, .bipush 96), (3, .if_icmp .lt 4), (6, .return_), (7, .aload_n 0), (8, .getfield 39), (11, .iload_n 1), (12, .invokevirtual 103), (15, .tableswitch 90 1 5 #[33, 48, 63, 72, 81]), (48, .aload_n 0), (49, .aload_n 0), (50, .getfield 39), (53, .iload_n 1), (54, .invokevirtual 108), (57, .invokevirtual 111), (60, .goto 51), (63, .aload_n 0), (64, .aload_n 0), (65, .getfield 39), (68, .iload_n 1), (69, .invokevirtual 108), (72, .invokevirtual 114), (75, .goto 36), (78, .aload_n 0), (79, .iload_n 1), (80, .iload_n 2), (81, .invokevirtual 117), (84, .goto 27), (87, .aload_n 0), (88, .iload_n 1), (89, .iload_n 2), (90, .invokevirtual 120), (93, .goto 18), (96, .aload_n 0), (97, .iload_n 1), (98, .iload_n 2), (99, .invokevirtual 123), (102, .goto 9), (105, .aload_n 0), (106, .iload_n 1)]
def tb_I_130_1 : List (Nat × Instr) := [(107, .iload_n 2), (108, .invokevirtual 126), (111, .return_)]
/-- Specialiser$Printer.showNumber(I)V -/
def tb_I_131_0 : List (Nat × Instr) := [(0, .iload_n 1), (1, .ldc 129), (3, .if_icmp .ne 12), (6, .aload_n 0), (7, .ldc 130), (9, .invokevirtual 89), (12, .goto 8), (15, .aload_n 0), (16, .iload_n 1), (17, .invokevirtual 82), (20, .return_)]
/-- Specialiser$Printer.showName(I)V -/
def tb_I_132_0 : List (Nat × Instr) := [(0, .iload_n 1), (1, .aload_n 0), (2, .getfield 51), (5, .if_icmp .ge 14), (8, .aload_n 0), (9, .bipush 97), (11, .iload_n 1), (12, .iadd), (13, .invokevirtual 76), (16, .goto 21), (19, .aload_n 0), (20, .bipush 120), (22, .invokevirtual 76), (25, .aload_n 0), (26, .aload_n 0), (27, .getfield 20), (30, .iload_n 1), (31, .invokevirtual 132), (34, .invokevirtual 82), (37, .return_)]
/-- Specialiser$Printer.showLet(II)V -/
def tb_I_133_0 : List (Nat × Instr) := [(0, .aload_n 0), (1, .getfield 39), (4, .iload_n 1), (5, .invokevirtual 108), (8, .istore_n 3), (9, .aload_n 0), (10, .ldc 135), (12, .invokevirtual 89), (15, .aload_n 0), (16, .aload_n 0), (17, .getfield 54), (20, .invokevirtual 82), (23, .aload_n 0), (24, .ldc 137), (26, .invokevirtual 89), (29, .aload_n 0), (30, .getfield 20), (33, .iload_n 3), (34, .aload_n 0), (35, .getfield 54), (38, .invokevirtual 64), (41, .aload_n 0), (42, .dup), (43, .getfield 54), (46, .iconst 1), (47, .iadd), (48, .putfield 54), (51, .aload_n 0), (52, .aload_n 0), (53, .getfield 39), (56, .iload_n 1), (57, .iconst 0), (58, .invokevirtual 139), (61, .iload_n 2), (62, .iconst 1), (63, .iadd), (64, .invokevirtual 98), (67, .aload_n 0), (68, .ldc 143), (70, .invokevirtual 89)]
def tb_I_133_1 : List (Nat × Instr) := [(73, .aload_n 0), (74, .aload_n 0), (75, .getfield 39), (78, .iload_n 1), (79, .iconst 1), (80, .invokevirtual 139), (83, .iload_n 2), (84, .iconst 1), (85, .iadd), (86, .invokevirtual 98), (89, .aload_n 0), (90, .bipush 41), (92, .invokevirtual 76), (95, .return_)]
/-- Specialiser$Printer.showIf(II)V -/
def tb_I_134_0 : List (Nat × Instr) := [(0, .aload_n 0), (1, .ldc 145), (3, .invokevirtual 89), (6, .aload_n 0), (7, .aload_n 0), (8, .getfield 39), (11, .iload_n 1), (12, .iconst 0), (13, .invokevirtual 139), (16, .iload_n 2), (17, .iconst 1), (18, .iadd), (19, .invokevirtual 98), (22, .aload_n 0), (23, .ldc 147), (25, .invokevirtual 89), (28, .aload_n 0), (29, .aload_n 0), (30, .getfield 39), (33, .iload_n 1), (34, .iconst 1), (35, .invokevirtual 139), (38, .iload_n 2), (39, .iconst 1), (40, .iadd), (41, .invokevirtual 98), (44, .aload_n 0), (45, .ldc 149), (47, .invokevirtual 89), (50, .aload_n 0), (51, .aload_n 0), (52, .getfield 39), (55, .iload_n 1), (56, .iconst 2), (57, .invokevirtual 139), (60, .iload_n 2), (61, .iconst 1), (62, .iadd), (63, .invokevirtual 98), (66, .aload_n 0)]
def tb_I_134_1 : List (Nat × Instr) := [(67, .bipush 41), (69, .invokevirtual 76), (72, .return_)]
/-- Specialiser$Printer.showCall(II)V -/
def tb_I_135_0 : List (Nat × Instr) := [(0, .aload_n 0), (1, .bipush 118), (3, .invokevirtual 76), (6, .aload_n 0), (7, .aload_n 0), (8, .getfield 39), (11, .iload_n 1), (12, .invokevirtual 108), (15, .invokevirtual 82), (18, .aload_n 0), (19, .bipush 40), (21, .invokevirtual 76), (24, .iconst 0), (25, .istore_n 3), (26, .iload_n 3), (27, .iconst 4), (28, .if_icmp .ge 52), (31, .iload_n 3), (32, .aload_n 0), (33, .getfield 39), (36, .iload_n 1), (37, .invokevirtual 151), (40, .if_icmp .ge 40), (43, .aload_n 0), (44, .iload_n 3), (45, .ifCond .ne 8), (48, .ldc 85), (50, .goto 5), (53, .ldc 87), (55, .invokevirtual 89), (58, .aload_n 0), (59, .aload_n 0), (60, .getfield 39), (63, .iload_n 1), (64, .iload_n 3), (65, .invokevirtual 139), (68, .iload_n 2), (69, .iconst 1), (70, .iadd), (71, .invokevirtual 98)]
def tb_I_135_1 : List (Nat × Instr) := [(74, .iinc 3 1), (77, .goto (-51)), (80, .aload_n 0), (81, .bipush 41), (83, .invokevirtual 76), (86, .return_)]
/-- Specialiser$Printer.showSign(II)V -/
def tb_I_136_0 : List (Nat × Instr) := [(0, .aload_n 0), (1, .bipush 40), (3, .invokevirtual 76), (6, .aload_n 0), (7, .aload_n 0), (8, .getfield 39), (11, .iload_n 1), (12, .iconst 0), (13, .invokevirtual 139), (16, .iload_n 2), (17, .iconst 1), (18, .iadd), (19, .invokevirtual 98), (22, .aload_n 0), (23, .aload_n 0), (24, .getfield 39), (27, .iload_n 1), (28, .invokevirtual 103), (31, .invokestatic 154), (34, .invokevirtual 89), (37, .aload_n 0), (38, .aload_n 0), (39, .getfield 39), (42, .iload_n 1), (43, .iconst 1), (44, .invokevirtual 139), (47, .iload_n 2), (48, .iconst 1), (49, .iadd), (50, .invokevirtual 98), (53, .aload_n 0), (54, .bipush 41), (56, .invokevirtual 76), (59, .return_)]
/-- Specialiser$Printer.signText(I)Ljava/lang/String; -/
def tb_I_137_0 : List (Nat × Instr) := [(0, .iload_n 0), (1, .tableswitch 43 6 9 #[31, 34, 37, 40]), (32, .ldc 158), (34, .areturn), (35, .ldc 160), (37, .areturn), (38, .ldc 162), (40, .areturn), (41, .ldc 164), (43, .areturn), (44, .ldc 166), (46, .areturn)]
/-- Specialiser.out(I)I -/
def tb_I_138_0 : List (Nat × Instr) := [(0, .iload_n 1), (1, .ifCond .lt 11), (4, .iload_n 1), (5, .aload_n 0), (6, .getfield 96), (9, .if_icmp .lt 13), (22, .aload_n 0), (23, .getfield 93), (26, .iload_n 1), (27, .invokevirtual 228), (30, .ireturn)]
/-- Specialiser.back()I -/
def tb_I_139_0 : List (Nat × Instr) := [(0, .aload_n 0), (1, .getfield 96), (4, .sipush 8000), (7, .if_icmp .le 13), (20, .iconst 0), (21, .istore_n 1), (22, .iload_n 1), (23, .aload_n 0), (24, .getfield 96), (27, .if_icmp .ge 25), (30, .aload_n 0), (31, .getfield 14), (34, .iload_n 1), (35, .aload_n 0), (36, .getfield 93), (39, .iload_n 1), (40, .invokevirtual 228), (43, .invokevirtual 127), (46, .iinc 1 1), (49, .goto (-27)), (52, .aload_n 0), (53, .aload_n 0), (54, .getfield 96), (57, .putfield 18), (60, .aload_n 0), (61, .getfield 18), (64, .ireturn)]
/-- Specialiser.give(I)I -/
def tb_I_140_0 : List (Nat × Instr) := [(0, .aload_n 0), (1, .getfield 111), (4, .iconst 4), (5, .if_icmp .lt 13), (18, .aload_n 0), (19, .getfield 108), (22, .aload_n 0), (23, .getfield 111), (26, .iload_n 1), (27, .invokevirtual 127), (30, .aload_n 0), (31, .dup), (32, .getfield 111), (35, .iconst 1), (36, .iadd), (37, .putfield 111), (40, .aload_n 0), (41, .getfield 111), (44, .ireturn)]
/-- Specialiser.run(ZII)I -/
def tb_I_141_0 : List (Nat × Instr) := [(0, .iload_n 1), (1, .ifCond .eq 13), (4, .aload_n 0), (5, .getfield 58), (8, .invokevirtual 207), (11, .goto 7), (14, .aload_n 0), (15, .getfield 39), (18, .astore 4), (20, .aload 4), (22, .invokevirtual 148), (25, .ifCond .ne 13), (38, .aload 4), (40, .iload_n 2), (41, .invokevirtual 151), (44, .ifCond .ne 13), (57, .iload_n 3), (58, .ifCond .lt 23), (61, .iload_n 3), (62, .sipush 20000), (65, .if_icmp .gt 16), (68, .aload_n 0), (69, .getfield 111), (72, .aload 4), (74, .iload_n 2), (75, .invokevirtual 160), (78, .if_icmp .eq 13), (91, .aload_n 0), (92, .iconst 0), (93, .putfield 111), (96, .aload_n 0), (97, .getfield 70), (100, .aload 4), (102, .iload_n 2), (103, .aload_n 0), (104, .getfield 108), (107, .iload_n 3), (108, .invokevirtual 252), (111, .istore 5), (113, .aload_n 0)]
def tb_I_141_1 : List (Nat × Instr) := [(114, .getfield 114), (117, .iconst 0), (118, .iload 5), (120, .iconst 1), (121, .if_icmp .ne 13), (124, .aload_n 0), (125, .getfield 70), (128, .invokevirtual 256), (131, .goto 4), (134, .iconst 0), (135, .invokevirtual 127), (138, .aload_n 0), (139, .getfield 114), (142, .iconst 1), (143, .aload_n 0), (144, .getfield 70), (147, .invokevirtual 259), (150, .invokevirtual 127), (153, .aload_n 0), (154, .getfield 114), (157, .iconst 2), (158, .aload_n 0), (159, .getfield 70), (162, .invokevirtual 262), (165, .invokevirtual 127), (168, .iload 5), (170, .ireturn)]
/-- Specialiser$Runner.steps()I -/
def tb_I_142_0 : List (Nat × Instr) := [(0, .aload_n 0), (1, .getfield 52), (4, .ireturn)]
/-- Specialiser$Runner.deepest()I -/
def tb_I_143_0 : List (Nat × Instr) := [(0, .aload_n 0), (1, .getfield 55), (4, .ireturn)]
/-- Specialiser.ran(I)I -/
def tb_I_144_0 : List (Nat × Instr) := [(0, .iload_n 1), (1, .ifCond .lt 8), (4, .iload_n 1), (5, .iconst 2), (6, .if_icmp .le 13), (19, .aload_n 0), (20, .getfield 114), (23, .iload_n 1), (24, .invokevirtual 228), (27, .ireturn)]
/-- SpecialiserModel.<init>()V -/
def tb_I_145_0 : List (Nat × Instr) := [(0, .aload_n 0), (1, .invokespecial 1), (4, .aload_n 0), (5, .sipush 8000), (8, .newarray .int), (10, .putfield 7), (13, .aload_n 0), (14, .iconst (-1)), (15, .putfield 13), (18, .aload_n 0), (19, .bipush 96), (21, .newarray .long), (23, .putfield 17), (26, .aload_n 0), (27, .bipush 96), (29, .newarray .int), (31, .putfield 21), (34, .aload_n 0), (35, .bipush 96), (37, .newarray .int), (39, .putfield 24), (42, .aload_n 0), (43, .bipush 96), (45, .newarray .int), (47, .putfield 27), (50, .aload_n 0), (51, .bipush 96), (53, .newarray .int), (55, .putfield 30), (58, .aload_n 0), (59, .sipush 1536), (62, .newarray .long), (64, .putfield 33), (67, .aload_n 0), (68, .sipush 15010), (71, .newarray .int), (73, .putfield 36), (76, .aload_n 0), (77, .sipush 15010), (80, .newarray .int)]
def tb_I_145_1 : List (Nat × Instr) := [(82, .putfield 39), (85, .aload_n 0), (86, .sipush 15010), (89, .newarray .int), (91, .putfield 42), (94, .aload_n 0), (95, .sipush 15010), (98, .newarray .int), (100, .putfield 45), (103, .aload_n 0), (104, .sipush 15010), (107, .newarray .int), (109, .putfield 48), (112, .aload_n 0), (113, .sipush 15010), (116, .newarray .long), (118, .putfield 51), (121, .aload_n 0), (122, .sipush 15010), (125, .newarray .int), (127, .putfield 54), (130, .aload_n 0), (131, .iconst 2), (132, .newarray .int), (134, .putfield 57), (137, .aload_n 0), (138, .sipush 1600), (141, .newarray .int), (143, .putfield 60), (146, .aload_n 0), (147, .sipush 4000), (150, .newarray .int), (152, .putfield 63), (155, .aload_n 0), (156, .sipush 4000), (159, .newarray .int), (161, .putfield 66), (164, .aload_n 0), (165, .sipush 4000), (168, .newarray .int)]
def tb_I_145_2 : List (Nat × Instr) := [(170, .putfield 69), (173, .aload_n 0), (174, .sipush 1600), (177, .newarray .int), (179, .putfield 72), (182, .aload_n 0), (183, .bipush 16), (185, .newarray .int), (187, .putfield 75), (190, .aload_n 0), (191, .sipush 4000), (194, .newarray .int), (196, .putfield 78), (199, .aload_n 0), (200, .sipush 2640), (203, .newarray .int), (205, .putfield 81), (208, .aload_n 0), (209, .sipush 160), (212, .newarray .int), (214, .putfield 84), (217, .aload_n 0), (218, .sipush 160), (221, .newarray .int), (223, .putfield 87), (226, .aload_n 0), (227, .sipush 640), (230, .newarray .int), (232, .putfield 90), (235, .aload_n 0), (236, .sipush 160), (239, .newarray .int), (241, .putfield 93), (244, .aload_n 0), (245, .sipush 160), (248, .newarray .int), (250, .putfield 96), (253, .aload_n 0), (254, .sipush 160), (257, .newarray .int)]
def tb_I_145_3 : List (Nat × Instr) := [(259, .putfield 99), (262, .aload_n 0), (263, .sipush 4000), (266, .newarray .int), (268, .putfield 102), (271, .aload_n 0), (272, .sipush 4000), (275, .newarray .int), (277, .putfield 105), (280, .aload_n 0), (281, .sipush 4000), (284, .newarray .boolean), (286, .putfield 108), (289, .aload_n 0), (290, .sipush 4000), (293, .newarray .int), (295, .putfield 112), (298, .aload_n 0), (299, .bipush 16), (301, .newarray .boolean), (303, .putfield 115), (306, .aload_n 0), (307, .bipush 16), (309, .newarray .int), (311, .putfield 118), (314, .aload_n 0), (315, .iconst 4), (316, .newarray .int), (318, .putfield 121), (321, .aload_n 0), (322, .iconst 4), (323, .newarray .int), (325, .putfield 124), (328, .aload_n 0), (329, .iconst 4), (330, .newarray .boolean), (332, .putfield 127), (335, .aload_n 0), (336, .iconst 4), (337, .newarray .int)]
def tb_I_145_4 : List (Nat × Instr) := [(339, .putfield 130), (342, .aload_n 0), (343, .ldc 133), (345, .newarray .int), (347, .putfield 134), (350, .aload_n 0), (351, .ldc 133), (353, .newarray .int), (355, .putfield 137), (358, .aload_n 0), (359, .sipush 4000), (362, .newarray .long), (364, .putfield 140), (367, .aload_n 0), (368, .bipush 16), (370, .newarray .int), (372, .putfield 143), (375, .aload_n 0), (376, .iconst 4), (377, .newarray .int), (379, .putfield 146), (382, .return_)]
/-- SpecialiserModel.thrown()I -/
def tb_I_146_0 : List (Nat × Instr) := [(0, .aload_n 0), (1, .getfield 149), (4, .ireturn)]
/-- SpecialiserModel.feed(IIIII)I -/
def tb_I_147_0 : List (Nat × Instr) := [(0, .aload_n 0), (1, .aload_n 0), (2, .getfield 152), (5, .bipush 20), (7, .iadd), (8, .sipush 8000), (11, .if_icmp .le 7), (14, .iconst 1), (15, .goto 4), (18, .iconst 0), (19, .putfield 149), (22, .aload_n 0), (23, .getfield 149), (26, .ifCond .le 5), (29, .iconst 0), (30, .ireturn), (31, .iconst 0), (32, .istore 6), (34, .iload 6), (36, .bipush 20), (38, .if_icmp .ge 93), (41, .iload 6), (43, .iconst 4), (44, .if_icmp .ge 7), (47, .iload_n 1), (48, .goto 39), (51, .iload 6), (53, .bipush 8), (55, .if_icmp .ge 7), (58, .iload_n 2), (59, .goto 28), (62, .iload 6), (64, .bipush 12), (66, .if_icmp .ge 7), (69, .iload_n 3), (70, .goto 17), (73, .iload 6), (75, .bipush 16), (77, .if_icmp .ge 8), (80, .iload 4)]
def tb_I_147_1 : List (Nat × Instr) := [(82, .goto 5), (85, .iload 5), (87, .istore 7), (89, .aload_n 0), (90, .getfield 7), (93, .aload_n 0), (94, .getfield 152), (97, .iload 7), (99, .bipush 24), (101, .bipush 8), (103, .iload 6), (105, .iconst 4), (106, .irem), (107, .imul), (108, .isub), (109, .ishr), (110, .sipush 255), (113, .iand), (114, .iastore), (115, .aload_n 0), (116, .dup), (117, .getfield 152), (120, .iconst 1), (121, .iadd), (122, .putfield 152), (125, .iinc 6 1), (128, .goto (-94)), (131, .aload_n 0), (132, .getfield 152), (135, .ireturn)]
/-- SpecialiserModel.cut(I)I -/
def tb_I_148_0 : List (Nat × Instr) := [(0, .aload_n 0), (1, .iload_n 1), (2, .i2l), (3, .lconst 0), (4, .aload_n 0), (5, .getfield 152), (8, .i2l), (9, .invokestatic 155), (12, .ifCond .eq 7), (15, .iconst 0), (16, .goto 4), (19, .iconst 1), (20, .putfield 149), (23, .aload_n 0), (24, .getfield 149), (27, .ifCond .le 5), (30, .iconst 0), (31, .ireturn), (32, .aload_n 0), (33, .getfield 152), (36, .iload_n 1), (37, .isub), (38, .istore_n 2), (39, .aload_n 0), (40, .iload_n 1), (41, .putfield 152), (44, .iload_n 2), (45, .ireturn)]
/-- SpecialiserModel.within(JJJ)Z -/
def tb_I_149_0 : List (Nat × Instr) := [(0, .lload_n 0), (1, .lload_n 2), (2, .lcmp), (3, .ifCond .lt 14), (6, .lload_n 0), (7, .lload 4), (9, .lcmp), (10, .ifCond .gt 7), (13, .iconst 1), (14, .goto 4), (17, .iconst 0), (18, .ireturn)]
/-- SpecialiserModel.read()I -/
def tb_I_150_0 : List (Nat × Instr) := [(0, .aload_n 0), (1, .iconst 0), (2, .putfield 149), (5, .aload_n 0), (6, .aload_n 0), (7, .getfield 291), (10, .ifCond .eq 12), (13, .iconst 1), (14, .aload_n 0), (15, .getfield 295), (18, .isub), (19, .goto 7), (22, .aload_n 0), (23, .getfield 295), (26, .putfield 276), (29, .aload_n 0), (30, .iconst 0), (31, .putfield 279), (34, .aload_n 0), (35, .sipush 1501), (38, .aload_n 0), (39, .getfield 276), (42, .imul), (43, .putfield 217), (46, .aload_n 0), (47, .sipush 1501), (50, .aload_n 0), (51, .getfield 276), (54, .imul), (55, .putfield 273), (58, .aload_n 0), (59, .iconst 0), (60, .putfield 266), (63, .aload_n 0), (64, .iconst 0), (65, .putfield 170), (68, .aload_n 0), (69, .iconst 0), (70, .putfield 179), (73, .aload_n 0)]
def tb_I_150_1 : List (Nat × Instr) := [(74, .iconst 0), (75, .putfield 159), (78, .aload_n 0), (79, .iconst (-1)), (80, .putfield 13), (83, .aload_n 0), (84, .invokevirtual 211), (87, .aload_n 0), (88, .invokevirtual 298), (91, .aload_n 0), (92, .getfield 159), (95, .ifCond .ne 19), (98, .aload_n 0), (99, .getfield 176), (102, .bipush 23), (104, .if_icmp .eq 10), (107, .aload_n 0), (108, .invokevirtual 298), (111, .goto (-20)), (114, .aload_n 0), (115, .bipush 48), (117, .aload_n 0), (118, .getfield 276), (121, .imul), (122, .putfield 220), (125, .aload_n 0), (126, .getfield 220), (129, .bipush 48), (131, .aload_n 0), (132, .getfield 276), (135, .imul), (136, .aload_n 0), (137, .getfield 279), (140, .iadd), (141, .if_icmp .ge 27), (144, .aload_n 0), (145, .getfield 159), (148, .ifCond .ne 20), (151, .aload_n 0), (152, .invokevirtual 301)]
def tb_I_150_2 : List (Nat × Instr) := [(155, .aload_n 0), (156, .dup), (157, .getfield 220), (160, .iconst 1), (161, .iadd), (162, .putfield 220), (165, .goto (-40)), (168, .aload_n 0), (169, .iconst 0), (170, .putfield 152), (173, .aload_n 0), (174, .getfield 159), (177, .ifCond .eq 9), (180, .aload_n 0), (181, .getfield 159), (184, .ineg), (185, .ireturn), (186, .aload_n 0), (187, .aload_n 0), (188, .getfield 276), (191, .putfield 295), (194, .aload_n 0), (195, .getfield 57), (198, .aload_n 0), (199, .getfield 295), (202, .aload_n 0), (203, .getfield 279), (206, .iastore), (207, .aload_n 0), (208, .iconst 1), (209, .putfield 291), (212, .aload_n 0), (213, .iconst 0), (214, .putfield 304), (217, .aload_n 0), (218, .iconst 0), (219, .putfield 307), (222, .aload_n 0), (223, .iconst 0), (224, .putfield 310)]
def tb_I_150_3 : List (Nat × Instr) := [(227, .aload_n 0), (228, .iconst 0), (229, .putfield 313), (232, .aload_n 0), (233, .iconst 0), (234, .putfield 316), (237, .aload_n 0), (238, .getfield 279), (241, .ireturn)]
/-- SpecialiserModel.next()V -/
def tb_I_151_0 : List (Nat × Instr) := [(0, .aload_n 0), (1, .getfield 170), (4, .aload_n 0), (5, .getfield 152), (8, .if_icmp .ge 44), (11, .aload_n 0), (12, .getfield 7), (15, .aload_n 0), (16, .getfield 170), (19, .iaload), (20, .bipush 32), (22, .if_icmp .eq 17), (25, .aload_n 0), (26, .getfield 7), (29, .aload_n 0), (30, .getfield 170), (33, .iaload), (34, .bipush 10), (36, .if_icmp .ne 16), (39, .aload_n 0), (40, .dup), (41, .getfield 170), (44, .iconst 1), (45, .iadd), (46, .putfield 170), (49, .goto (-49)), (52, .aload_n 0), (53, .aload_n 0), (54, .getfield 170), (57, .putfield 173), (60, .aload_n 0), (61, .getfield 170), (64, .aload_n 0), (65, .getfield 152), (68, .if_icmp .ne 10), (71, .aload_n 0), (72, .bipush 23), (74, .putfield 176), (77, .return_), (78, .aload_n 0)]
def tb_I_151_1 : List (Nat × Instr) := [(79, .dup), (80, .getfield 179), (83, .iconst 1), (84, .iadd), (85, .putfield 179), (88, .aload_n 0), (89, .getfield 7), (92, .aload_n 0), (93, .getfield 170), (96, .iaload), (97, .istore_n 1), (98, .iload_n 1), (99, .invokestatic 182), (102, .ifCond .eq 8), (105, .aload_n 0), (106, .invokevirtual 185), (109, .return_), (110, .aload_n 0), (111, .dup), (112, .getfield 170), (115, .iconst 1), (116, .iadd), (117, .putfield 170), (120, .iload_n 1), (121, .bipush 61), (123, .if_icmp .ne 45), (126, .aload_n 0), (127, .getfield 170), (130, .aload_n 0), (131, .getfield 152), (134, .if_icmp .ge 34), (137, .aload_n 0), (138, .getfield 7), (141, .aload_n 0), (142, .getfield 170), (145, .iaload), (146, .bipush 61), (148, .if_icmp .ne 20), (151, .aload_n 0), (152, .dup)]
def tb_I_151_2 : List (Nat × Instr) := [(153, .getfield 170), (156, .iconst 1), (157, .iadd), (158, .putfield 170), (161, .aload_n 0), (162, .bipush 12), (164, .putfield 176), (167, .return_), (168, .aload_n 0), (169, .iload_n 1), (170, .bipush 61), (172, .if_icmp .ne 8), (175, .bipush 13), (177, .goto 92), (180, .iload_n 1), (181, .bipush 40), (183, .if_icmp .ne 8), (186, .bipush 14), (188, .goto 81), (191, .iload_n 1), (192, .bipush 41), (194, .if_icmp .ne 8), (197, .bipush 15), (199, .goto 70), (202, .iload_n 1), (203, .bipush 44), (205, .if_icmp .ne 8), (208, .bipush 16), (210, .goto 59), (213, .iload_n 1), (214, .bipush 59), (216, .if_icmp .ne 8), (219, .bipush 17), (221, .goto 48), (224, .iload_n 1), (225, .bipush 43), (227, .if_icmp .ne 8), (230, .bipush 19), (232, .goto 37), (235, .iload_n 1)]
def tb_I_151_3 : List (Nat × Instr) := [(236, .bipush 45), (238, .if_icmp .ne 8), (241, .bipush 20), (243, .goto 26), (246, .iload_n 1), (247, .bipush 42), (249, .if_icmp .ne 8), (252, .bipush 21), (254, .goto 15), (257, .iload_n 1), (258, .bipush 60), (260, .if_icmp .ne 8), (263, .bipush 22), (265, .goto 4), (268, .iconst 0), (269, .putfield 176), (272, .aload_n 0), (273, .getfield 176), (276, .ifCond .ne 12), (279, .aload_n 0), (280, .iconst 1), (281, .aload_n 0), (282, .getfield 173), (285, .invokevirtual 188), (288, .return_)]
/-- SpecialiserModel.isRow(I)Z -/
def tb_I_152_0 : List (Nat × Instr) := [(0, .iload_n 0), (1, .invokestatic 162), (4, .ifCond .ne 15), (7, .iload_n 0), (8, .bipush 97), (10, .if_icmp .lt 13), (13, .iload_n 0), (14, .bipush 122), (16, .if_icmp .gt 7), (19, .iconst 1), (20, .goto 4), (23, .iconst 0), (24, .ireturn)]
/-- SpecialiserModel.isDigit(I)Z -/
def tb_I_153_0 : List (Nat × Instr) := [(0, .iload_n 0), (1, .bipush 48), (3, .if_icmp .lt 13), (6, .iload_n 0), (7, .bipush 57), (9, .if_icmp .gt 7), (12, .iconst 1), (13, .goto 4), (16, .iconst 0), (17, .ireturn)]
/-- SpecialiserModel.row()V -/
def tb_I_154_0 : List (Nat × Instr) := [(0, .iconst 1), (1, .istore_n 1), (2, .lconst 0), (3, .lstore_n 2), (4, .lconst 0), (5, .lstore 4), (7, .aload_n 0), (8, .getfield 170), (11, .aload_n 0), (12, .getfield 152), (15, .if_icmp .ge 109), (18, .aload_n 0), (19, .getfield 7), (22, .aload_n 0), (23, .getfield 170), (26, .iaload), (27, .invokestatic 182), (30, .ifCond .eq 94), (33, .iload_n 1), (34, .ifCond .eq 22), (37, .aload_n 0), (38, .getfield 7), (41, .aload_n 0), (42, .getfield 170), (45, .iaload), (46, .invokestatic 162), (49, .ifCond .eq 7), (52, .iconst 1), (53, .goto 4), (56, .iconst 0), (57, .istore_n 1), (58, .lload_n 2), (59, .bipush 8), (61, .lshl), (62, .aload_n 0), (63, .getfield 7), (66, .aload_n 0), (67, .getfield 170), (70, .iaload), (71, .i2l)]
def tb_I_154_1 : List (Nat × Instr) := [(72, .lor), (73, .lstore_n 2), (74, .lload 4), (76, .ldc2_w 192), (79, .lcmp), (80, .ifCond .le 8), (83, .lload 4), (85, .goto 24), (88, .ldc2_w 194), (91, .lload 4), (93, .lmul), (94, .aload_n 0), (95, .getfield 7), (98, .aload_n 0), (99, .getfield 170), (102, .iaload), (103, .i2l), (104, .ladd), (105, .ldc2_w 196), (108, .lsub), (109, .lstore 4), (111, .aload_n 0), (112, .dup), (113, .getfield 170), (116, .iconst 1), (117, .iadd), (118, .putfield 170), (121, .goto (-114)), (124, .aload_n 0), (125, .getfield 170), (128, .aload_n 0), (129, .getfield 173), (132, .isub), (133, .istore 6), (135, .aload_n 0), (136, .getfield 7), (139, .aload_n 0), (140, .getfield 173), (143, .iaload), (144, .invokestatic 162)]
def tb_I_154_2 : List (Nat × Instr) := [(147, .ifCond .eq 43), (150, .aload_n 0), (151, .iload_n 1), (152, .ifCond .eq 24), (155, .iload 6), (157, .bipush 10), (159, .if_icmp .gt 17), (162, .lload 4), (164, .ldc2_w 198), (167, .lcmp), (168, .ifCond .gt 8), (171, .bipush 11), (173, .goto 4), (176, .iconst 0), (177, .putfield 176), (180, .aload_n 0), (181, .lload 4), (183, .l2i), (184, .putfield 200), (187, .goto 51), (190, .iload 6), (192, .iconst 4), (193, .if_icmp .gt 10), (196, .lload_n 2), (197, .invokestatic 203), (200, .goto 4), (203, .iconst 0), (204, .istore 7), (206, .aload_n 0), (207, .iload 7), (209, .ifCond .le 8), (212, .iload 7), (214, .goto 16), (217, .iload 6), (219, .bipush 8), (221, .if_icmp .gt 8), (224, .bipush 10), (226, .goto 4), (229, .iconst 0), (230, .putfield 176)]
def tb_I_154_3 : List (Nat × Instr) := [(233, .aload_n 0), (234, .lload_n 2), (235, .putfield 207), (238, .aload_n 0), (239, .getfield 176), (242, .ifCond .ne 12), (245, .aload_n 0), (246, .iconst 1), (247, .aload_n 0), (248, .getfield 173), (251, .invokevirtual 188), (254, .return_)]
/-- SpecialiserModel.wordOf(J)I -/
def tb_I_155_0 : List (Nat × Instr) := [(0, .lload_n 0), (1, .iconst 0), (2, .iconst 0), (3, .bipush 105), (5, .bipush 102), (7, .invokestatic 166), (10, .lcmp), (11, .ifCond .ne 7), (14, .iconst 2), (15, .goto 82), (18, .lload_n 0), (19, .bipush 116), (21, .bipush 104), (23, .bipush 101), (25, .bipush 110), (27, .invokestatic 166), (30, .lcmp), (31, .ifCond .ne 7), (34, .iconst 3), (35, .goto 62), (38, .lload_n 0), (39, .bipush 101), (41, .bipush 108), (43, .bipush 115), (45, .bipush 101), (47, .invokestatic 166), (50, .lcmp), (51, .ifCond .ne 7), (54, .iconst 4), (55, .goto 42), (58, .lload_n 0), (59, .iconst 0), (60, .bipush 108), (62, .bipush 101), (64, .bipush 116), (66, .invokestatic 166), (69, .lcmp), (70, .ifCond .ne 7), (73, .iconst 5), (74, .goto 23)]
def tb_I_155_1 : List (Nat × Instr) := [(77, .lload_n 0), (78, .iconst 0), (79, .iconst 0), (80, .bipush 105), (82, .bipush 110), (84, .invokestatic 166), (87, .lcmp), (88, .ifCond .ne 8), (91, .bipush 6), (93, .goto 4), (96, .iconst 0), (97, .ireturn)]
/-- SpecialiserModel.packed(IIII)J -/
def tb_I_156_0 : List (Nat × Instr) := [(0, .iload_n 0), (1, .i2l), (2, .bipush 24), (4, .lshl), (5, .iload_n 1), (6, .bipush 16), (8, .ishl), (9, .i2l), (10, .lor), (11, .iload_n 2), (12, .bipush 8), (14, .ishl), (15, .i2l), (16, .lor), (17, .iload_n 3), (18, .i2l), (19, .lor), (20, .lreturn)]
/-- SpecialiserModel.stop(II)V -/
def tb_I_157_0 : List (Nat × Instr) := [(0, .aload_n 0), (1, .getfield 159), (4, .ifCond .ne 13), (7, .aload_n 0), (8, .iload_n 1), (9, .putfield 159), (12, .aload_n 0), (13, .iload_n 2), (14, .putfield 13), (17, .return_)]
/-- SpecialiserModel.definition()V -/
def tb_I_158_0 : List (Nat × Instr) := [(0, .aload_n 0), (1, .getfield 159), (4, .ifCond .ne 21), (7, .aload_n 0), (8, .getfield 176), (11, .bipush 10), (13, .if_icmp .eq 12), (16, .aload_n 0), (17, .iconst 2), (18, .aload_n 0), (19, .getfield 173), (22, .invokevirtual 188), (25, .bipush 48), (27, .aload_n 0), (28, .getfield 276), (31, .imul), (32, .istore_n 1), (33, .iload_n 1), (34, .bipush 48), (36, .aload_n 0), (37, .getfield 276), (40, .imul), (41, .aload_n 0), (42, .getfield 279), (45, .iadd), (46, .if_icmp .ge 39), (49, .aload_n 0), (50, .getfield 159), (53, .ifCond .ne 32), (56, .aload_n 0), (57, .getfield 17), (60, .iload_n 1), (61, .laload), (62, .aload_n 0), (63, .getfield 207), (66, .lcmp), (67, .ifCond .ne 12), (70, .aload_n 0), (71, .iconst 3), (72, .aload_n 0)]
def tb_I_158_1 : List (Nat × Instr) := [(73, .getfield 173), (76, .invokevirtual 188), (79, .iinc 1 1), (82, .goto (-49)), (85, .aload_n 0), (86, .getfield 159), (89, .ifCond .ne 22), (92, .aload_n 0), (93, .getfield 279), (96, .bipush 48), (98, .if_icmp .ne 13), (101, .aload_n 0), (102, .bipush 6), (104, .aload_n 0), (105, .getfield 173), (108, .invokevirtual 188), (111, .aload_n 0), (112, .getfield 159), (115, .ifCond .eq 4), (118, .return_), (119, .aload_n 0), (120, .bipush 48), (122, .aload_n 0), (123, .getfield 276), (126, .imul), (127, .aload_n 0), (128, .getfield 279), (131, .iadd), (132, .putfield 220), (135, .aload_n 0), (136, .getfield 17), (139, .aload_n 0), (140, .getfield 220), (143, .aload_n 0), (144, .getfield 207), (147, .lastore), (148, .aload_n 0), (149, .getfield 21), (152, .aload_n 0), (153, .getfield 220)]
def tb_I_158_2 : List (Nat × Instr) := [(156, .iconst 0), (157, .iastore), (158, .aload_n 0), (159, .getfield 24), (162, .aload_n 0), (163, .getfield 220), (166, .iconst 0), (167, .iastore), (168, .aload_n 0), (169, .dup), (170, .getfield 279), (173, .iconst 1), (174, .iadd), (175, .putfield 279), (178, .aload_n 0), (179, .invokevirtual 214), (182, .aload_n 0), (183, .bipush 14), (185, .invokevirtual 235), (188, .aload_n 0), (189, .getfield 159), (192, .ifCond .ne 16), (195, .aload_n 0), (196, .getfield 176), (199, .bipush 15), (201, .if_icmp .eq 7), (204, .iconst 1), (205, .goto 4), (208, .iconst 0), (209, .istore_n 1), (210, .iload_n 1), (211, .ifCond .eq 62), (214, .aload_n 0), (215, .iconst 1), (216, .invokevirtual 269), (219, .istore_n 2), (220, .aload_n 0), (221, .getfield 159), (224, .ifCond .ne 16), (227, .aload_n 0)]
def tb_I_158_3 : List (Nat × Instr) := [(228, .getfield 21), (231, .aload_n 0), (232, .getfield 220), (235, .dup2), (236, .iaload), (237, .iconst 1), (238, .iadd), (239, .iastore), (240, .aload_n 0), (241, .getfield 159), (244, .ifCond .ne 16), (247, .aload_n 0), (248, .getfield 176), (251, .bipush 16), (253, .if_icmp .ne 7), (256, .iconst 1), (257, .goto 4), (260, .iconst 0), (261, .istore_n 1), (262, .iload_n 1), (263, .ifCond .eq 7), (266, .aload_n 0), (267, .invokevirtual 214), (270, .goto (-60)), (273, .aload_n 0), (274, .bipush 15), (276, .invokevirtual 235), (279, .aload_n 0), (280, .bipush 13), (282, .invokevirtual 235), (285, .aload_n 0), (286, .getfield 217), (289, .istore_n 2), (290, .aload_n 0), (291, .getfield 159), (294, .ifCond .ne 7), (297, .aload_n 0), (298, .invokevirtual 282), (301, .aload_n 0), (302, .getfield 27)]
def tb_I_158_4 : List (Nat × Instr) := [(305, .aload_n 0), (306, .getfield 220), (309, .aload_n 0), (310, .getfield 72), (313, .iconst 0), (314, .iaload), (315, .iastore), (316, .aload_n 0), (317, .getfield 30), (320, .aload_n 0), (321, .getfield 220), (324, .aload_n 0), (325, .getfield 217), (328, .iload_n 2), (329, .isub), (330, .iastore), (331, .aload_n 0), (332, .bipush 17), (334, .invokevirtual 235), (337, .return_)]
/-- SpecialiserModel.pass()V -/
def tb_I_159_0 : List (Nat × Instr) := [(0, .aload_n 0), (1, .getfield 159), (4, .ifCond .ne 23), (7, .aload_n 0), (8, .getfield 179), (11, .sipush 1500), (14, .if_icmp .le 13), (17, .aload_n 0), (18, .bipush 6), (20, .aload_n 0), (21, .getfield 173), (24, .invokevirtual 188), (27, .aload_n 0), (28, .getfield 159), (31, .ifCond .ne 7), (34, .aload_n 0), (35, .invokevirtual 211), (38, .return_)]
/-- SpecialiserModel.want(I)V -/
def tb_I_160_0 : List (Nat × Instr) := [(0, .aload_n 0), (1, .getfield 159), (4, .ifCond .ne 20), (7, .aload_n 0), (8, .getfield 176), (11, .iload_n 1), (12, .if_icmp .eq 12), (15, .aload_n 0), (16, .iconst 2), (17, .aload_n 0), (18, .getfield 173), (21, .invokevirtual 188), (24, .aload_n 0), (25, .invokevirtual 214), (28, .return_)]
/-- SpecialiserModel.name(Z)I -/
def tb_I_161_0 : List (Nat × Instr) := [(0, .aload_n 0), (1, .getfield 159), (4, .ifCond .ne 21), (7, .aload_n 0), (8, .getfield 176), (11, .bipush 10), (13, .if_icmp .eq 12), (16, .aload_n 0), (17, .iconst 2), (18, .aload_n 0), (19, .getfield 173), (22, .invokevirtual 188), (25, .iconst 0), (26, .istore_n 2), (27, .iload_n 2), (28, .aload_n 0), (29, .getfield 21), (32, .aload_n 0), (33, .getfield 220), (36, .iaload), (37, .if_icmp .ge 51), (40, .iload_n 1), (41, .ifCond .eq 47), (44, .aload_n 0), (45, .getfield 159), (48, .ifCond .ne 40), (51, .aload_n 0), (52, .getfield 33), (55, .bipush 16), (57, .aload_n 0), (58, .getfield 220), (61, .imul), (62, .iload_n 2), (63, .iadd), (64, .laload), (65, .aload_n 0), (66, .getfield 207), (69, .lcmp), (70, .ifCond .ne 12), (73, .aload_n 0)]
def tb_I_161_1 : List (Nat × Instr) := [(74, .iconst 3), (75, .aload_n 0), (76, .getfield 173), (79, .invokevirtual 188), (82, .iinc 2 1), (85, .goto (-58)), (88, .aload_n 0), (89, .getfield 159), (92, .ifCond .ne 44), (95, .iload_n 1), (96, .ifCond .eq 16), (99, .aload_n 0), (100, .getfield 21), (103, .aload_n 0), (104, .getfield 220), (107, .iaload), (108, .iconst 4), (109, .if_icmp .eq 17), (112, .aload_n 0), (113, .getfield 24), (116, .aload_n 0), (117, .getfield 220), (120, .iaload), (121, .bipush 16), (123, .if_icmp .ne 13), (126, .aload_n 0), (127, .bipush 6), (129, .aload_n 0), (130, .getfield 173), (133, .invokevirtual 188), (136, .aload_n 0), (137, .getfield 159), (140, .ifCond .eq 5), (143, .iconst 0), (144, .ireturn), (145, .aload_n 0), (146, .getfield 24), (149, .aload_n 0), (150, .getfield 220), (153, .iaload)]
def tb_I_161_2 : List (Nat × Instr) := [(154, .istore_n 2), (155, .aload_n 0), (156, .getfield 33), (159, .bipush 16), (161, .aload_n 0), (162, .getfield 220), (165, .imul), (166, .iload_n 2), (167, .iadd), (168, .aload_n 0), (169, .getfield 207), (172, .lastore), (173, .aload_n 0), (174, .getfield 24), (177, .aload_n 0), (178, .getfield 220), (181, .dup2), (182, .iaload), (183, .iconst 1), (184, .iadd), (185, .iastore), (186, .aload_n 0), (187, .invokevirtual 214), (190, .iload_n 2), (191, .ireturn)]
/-- SpecialiserModel.parse()V -/
def tb_I_162_0 : List (Nat × Instr) := [(0, .aload_n 0), (1, .iconst 0), (2, .putfield 223), (5, .aload_n 0), (6, .iconst 0), (7, .putfield 229), (10, .aload_n 0), (11, .iconst 0), (12, .putfield 232), (15, .aload_n 0), (16, .iconst 4), (17, .iconst 0), (18, .invokevirtual 226), (21, .aload_n 0), (22, .getfield 223), (25, .ifCond .le 89), (28, .aload_n 0), (29, .getfield 159), (32, .ifCond .ne 82), (35, .aload_n 0), (36, .dup), (37, .getfield 223), (40, .iconst 1), (41, .isub), (42, .putfield 223), (45, .aload_n 0), (46, .getfield 63), (49, .aload_n 0), (50, .getfield 223), (53, .iaload), (54, .istore_n 1), (55, .aload_n 0), (56, .getfield 66), (59, .aload_n 0), (60, .getfield 223), (63, .iaload), (64, .istore_n 2), (65, .iload_n 1), (66, .iconst 1), (67, .if_icmp .ne 11)]
def tb_I_162_1 : List (Nat × Instr) := [(70, .aload_n 0), (71, .iload_n 2), (72, .invokevirtual 235), (75, .goto 36), (78, .iload_n 1), (79, .iconst 4), (80, .if_icmp .ne 10), (83, .aload_n 0), (84, .invokevirtual 239), (87, .goto 24), (90, .iload_n 1), (91, .bipush 12), (93, .if_icmp .gt 12), (96, .aload_n 0), (97, .iload_n 1), (98, .iload_n 2), (99, .invokevirtual 242), (102, .goto 9), (105, .aload_n 0), (106, .iload_n 1), (107, .iload_n 2), (108, .invokevirtual 245), (111, .goto (-90)), (114, .return_)]
/-- SpecialiserModel.push(II)V -/
def tb_I_163_0 : List (Nat × Instr) := [(0, .aload_n 0), (1, .getfield 223), (4, .sipush 4000), (7, .if_icmp .ge 33), (10, .aload_n 0), (11, .getfield 63), (14, .aload_n 0), (15, .getfield 223), (18, .iload_n 1), (19, .iastore), (20, .aload_n 0), (21, .getfield 66), (24, .aload_n 0), (25, .getfield 223), (28, .iload_n 2), (29, .iastore), (30, .aload_n 0), (31, .dup), (32, .getfield 223), (35, .iconst 1), (36, .iadd), (37, .putfield 223), (40, .return_)]
/-- SpecialiserModel.onE()V -/
def tb_I_164_0 : List (Nat × Instr) := [(0, .aload_n 0), (1, .invokevirtual 248), (4, .ifCond .ne 13), (7, .aload_n 0), (8, .iconst 2), (9, .aload_n 0), (10, .getfield 173), (13, .invokevirtual 188), (16, .return_), (17, .aload_n 0), (18, .getfield 232), (21, .bipush 24), (23, .if_icmp .ne 14), (26, .aload_n 0), (27, .bipush 6), (29, .aload_n 0), (30, .getfield 173), (33, .invokevirtual 188), (36, .return_), (37, .aload_n 0), (38, .dup), (39, .getfield 232), (42, .iconst 1), (43, .iadd), (44, .putfield 232), (47, .aload_n 0), (48, .iconst 5), (49, .iconst 0), (50, .invokevirtual 226), (53, .aload_n 0), (54, .getfield 176), (57, .iconst 5), (58, .if_icmp .ne 74), (61, .aload_n 0), (62, .iconst 3), (63, .aload_n 0), (64, .getfield 173), (67, .invokevirtual 252), (70, .istore_n 1), (71, .aload_n 0)]
def tb_I_164_1 : List (Nat × Instr) := [(72, .bipush 18), (74, .iload_n 1), (75, .invokevirtual 226), (78, .aload_n 0), (79, .bipush 16), (81, .iload_n 1), (82, .invokevirtual 226), (85, .aload_n 0), (86, .iconst 4), (87, .iconst 0), (88, .invokevirtual 226), (91, .aload_n 0), (92, .iconst 1), (93, .bipush 6), (95, .invokevirtual 226), (98, .aload_n 0), (99, .bipush 15), (101, .iload_n 1), (102, .invokevirtual 226), (105, .aload_n 0), (106, .iconst 4), (107, .iconst 0), (108, .invokevirtual 226), (111, .aload_n 0), (112, .iconst 1), (113, .bipush 13), (115, .invokevirtual 226), (118, .aload_n 0), (119, .bipush 13), (121, .iload_n 1), (122, .invokevirtual 226), (125, .aload_n 0), (126, .invokevirtual 214), (129, .goto 100), (132, .aload_n 0), (133, .getfield 176), (136, .iconst 2), (137, .if_icmp .ne 78), (140, .aload_n 0), (141, .iconst 2)]
def tb_I_164_2 : List (Nat × Instr) := [(142, .aload_n 0), (143, .getfield 173), (146, .invokevirtual 252), (149, .istore_n 1), (150, .aload_n 0), (151, .bipush 18), (153, .iload_n 1), (154, .invokevirtual 226), (157, .aload_n 0), (158, .bipush 17), (160, .iload_n 1), (161, .invokevirtual 226), (164, .aload_n 0), (165, .iconst 4), (166, .iconst 0), (167, .invokevirtual 226), (170, .aload_n 0), (171, .iconst 1), (172, .iconst 4), (173, .invokevirtual 226), (176, .aload_n 0), (177, .bipush 16), (179, .iload_n 1), (180, .invokevirtual 226), (183, .aload_n 0), (184, .iconst 4), (185, .iconst 0), (186, .invokevirtual 226), (189, .aload_n 0), (190, .iconst 1), (191, .iconst 3), (192, .invokevirtual 226), (195, .aload_n 0), (196, .bipush 15), (198, .iload_n 1), (199, .invokevirtual 226), (202, .aload_n 0), (203, .iconst 4), (204, .iconst 0), (205, .invokevirtual 226)]
def tb_I_164_3 : List (Nat × Instr) := [(208, .aload_n 0), (209, .invokevirtual 214), (212, .goto 17), (215, .aload_n 0), (216, .bipush 11), (218, .iconst 0), (219, .invokevirtual 226), (222, .aload_n 0), (223, .bipush 6), (225, .iconst 0), (226, .invokevirtual 226), (229, .return_)]
/-- SpecialiserModel.begins()Z -/
def tb_I_165_0 : List (Nat × Instr) := [(0, .aload_n 0), (1, .getfield 176), (4, .iconst 5), (5, .if_icmp .eq 47), (8, .aload_n 0), (9, .getfield 176), (12, .iconst 2), (13, .if_icmp .eq 39), (16, .aload_n 0), (17, .getfield 176), (20, .bipush 11), (22, .if_icmp .eq 30), (25, .aload_n 0), (26, .getfield 176), (29, .bipush 20), (31, .if_icmp .eq 21), (34, .aload_n 0), (35, .getfield 176), (38, .bipush 10), (40, .if_icmp .eq 12), (43, .aload_n 0), (44, .getfield 176), (47, .bipush 14), (49, .if_icmp .ne 7), (52, .iconst 1), (53, .goto 4), (56, .iconst 0), (57, .ireturn)]
/-- SpecialiserModel.node(II)I -/
def tb_I_166_0 : List (Nat × Instr) := [(0, .aload_n 0), (1, .getfield 217), (4, .sipush 3003), (7, .if_icmp .ge 10), (10, .aload_n 0), (11, .getfield 217), (14, .goto 6), (17, .sipush 3003), (20, .istore_n 3), (21, .aload_n 0), (22, .iload_n 3), (23, .iconst 1), (24, .iadd), (25, .putfield 217), (28, .aload_n 0), (29, .getfield 36), (32, .iload_n 3), (33, .iload_n 1), (34, .iastore), (35, .aload_n 0), (36, .getfield 48), (39, .iload_n 3), (40, .iload_n 2), (41, .iastore), (42, .iload_n 3), (43, .ireturn)]
/-- SpecialiserModel.onSum(II)V -/
def tb_I_167_0 : List (Nat × Instr) := [(0, .iload_n 1), (1, .iconst 5), (2, .if_icmp .ne 16), (5, .aload_n 0), (6, .dup), (7, .getfield 232), (10, .iconst 1), (11, .isub), (12, .putfield 232), (15, .goto 233), (18, .iload_n 1), (19, .bipush 6), (21, .if_icmp .ne 20), (24, .aload_n 0), (25, .bipush 7), (27, .iconst 0), (28, .invokevirtual 226), (31, .aload_n 0), (32, .bipush 8), (34, .iconst 0), (35, .invokevirtual 226), (38, .goto 210), (41, .iload_n 1), (42, .bipush 8), (44, .if_icmp .ne 20), (47, .aload_n 0), (48, .bipush 9), (50, .iconst 0), (51, .invokevirtual 226), (54, .aload_n 0), (55, .bipush 10), (57, .iconst 0), (58, .invokevirtual 226), (61, .goto 187), (64, .iload_n 1), (65, .bipush 10), (67, .if_icmp .ne 10), (70, .aload_n 0), (71, .invokevirtual 256), (74, .goto 174)]
def tb_I_167_1 : List (Nat × Instr) := [(77, .iload_n 1), (78, .bipush 12), (80, .if_icmp .ne 62), (83, .aload_n 0), (84, .invokevirtual 259), (87, .istore_n 3), (88, .aload_n 0), (89, .invokevirtual 259), (92, .istore 4), (94, .aload_n 0), (95, .iconst 1), (96, .aload_n 0), (97, .getfield 48), (100, .iload 4), (102, .iaload), (103, .invokevirtual 252), (106, .istore 5), (108, .aload_n 0), (109, .getfield 39), (112, .iload 5), (114, .iload 4), (116, .iastore), (117, .aload_n 0), (118, .getfield 42), (121, .iload 5), (123, .iload_n 3), (124, .iastore), (125, .aload_n 0), (126, .getfield 45), (129, .iload 5), (131, .iload_n 2), (132, .iastore), (133, .aload_n 0), (134, .iload 5), (136, .invokevirtual 263), (139, .goto 109), (142, .iload_n 1), (143, .bipush 11), (145, .if_icmp .ne 24), (148, .aload_n 0)]
def tb_I_167_2 : List (Nat × Instr) := [(149, .getfield 176), (152, .bipush 22), (154, .if_icmp .eq 51), (157, .aload_n 0), (158, .getfield 176), (161, .bipush 12), (163, .if_icmp .ne 85), (166, .goto 39), (169, .iload_n 1), (170, .bipush 7), (172, .if_icmp .ne 24), (175, .aload_n 0), (176, .getfield 176), (179, .bipush 19), (181, .if_icmp .eq 24), (184, .aload_n 0), (185, .getfield 176), (188, .bipush 20), (190, .if_icmp .ne 58), (193, .goto 12), (196, .aload_n 0), (197, .getfield 176), (200, .bipush 21), (202, .if_icmp .ne 46), (205, .aload_n 0), (206, .bipush 12), (208, .aload_n 0), (209, .getfield 176), (212, .invokevirtual 226), (215, .aload_n 0), (216, .iload_n 1), (217, .bipush 11), (219, .if_icmp .ne 8), (222, .bipush 6), (224, .goto 16), (227, .iload_n 1), (228, .bipush 7), (230, .if_icmp .ne 8), (233, .bipush 8), (235, .goto 5)]
def tb_I_167_3 : List (Nat × Instr) := [(238, .bipush 10), (240, .iconst 0), (241, .invokevirtual 226), (244, .aload_n 0), (245, .invokevirtual 214), (248, .return_)]
/-- SpecialiserModel.onAtom()V -/
def tb_I_168_0 : List (Nat × Instr) := [(0, .aload_n 0), (1, .getfield 173), (4, .istore_n 1), (5, .aload_n 0), (6, .getfield 176), (9, .bipush 11), (11, .if_icmp .eq 12), (14, .aload_n 0), (15, .getfield 176), (18, .bipush 20), (20, .if_icmp .ne 99), (23, .aload_n 0), (24, .getfield 176), (27, .bipush 20), (29, .if_icmp .ne 7), (32, .iconst 1), (33, .goto 4), (36, .iconst 0), (37, .istore_n 2), (38, .iload_n 2), (39, .ifCond .eq 7), (42, .aload_n 0), (43, .invokevirtual 214), (46, .aload_n 0), (47, .getfield 159), (50, .ifCond .ne 21), (53, .aload_n 0), (54, .getfield 176), (57, .bipush 11), (59, .if_icmp .eq 12), (62, .aload_n 0), (63, .iconst 2), (64, .aload_n 0), (65, .getfield 173), (68, .invokevirtual 188), (71, .aload_n 0), (72, .getfield 159), (75, .ifCond .ne 41), (78, .aload_n 0), (79, .iconst 5)]
def tb_I_168_1 : List (Nat × Instr) := [(80, .iload_n 1), (81, .invokevirtual 252), (84, .istore_n 3), (85, .aload_n 0), (86, .getfield 39), (89, .iload_n 3), (90, .iload_n 2), (91, .ifCond .eq 11), (94, .aload_n 0), (95, .getfield 200), (98, .ineg), (99, .goto 7), (102, .aload_n 0), (103, .getfield 200), (106, .iastore), (107, .aload_n 0), (108, .iload_n 3), (109, .invokevirtual 263), (112, .aload_n 0), (113, .invokevirtual 214), (116, .goto 167), (119, .aload_n 0), (120, .getfield 176), (123, .bipush 10), (125, .if_icmp .ne 120), (128, .aload_n 0), (129, .bipush 7), (131, .iload_n 1), (132, .invokevirtual 252), (135, .istore_n 2), (136, .aload_n 0), (137, .getfield 51), (140, .iload_n 2), (141, .aload_n 0), (142, .getfield 207), (145, .lastore), (146, .aload_n 0), (147, .invokevirtual 214), (150, .aload_n 0), (151, .getfield 159)]
def tb_I_168_2 : List (Nat × Instr) := [(154, .ifCond .ne 83), (157, .aload_n 0), (158, .getfield 176), (161, .bipush 14), (163, .if_icmp .ne 74), (166, .aload_n 0), (167, .getfield 36), (170, .iload_n 2), (171, .bipush 8), (173, .iastore), (174, .aload_n 0), (175, .getfield 42), (178, .iload_n 2), (179, .aload_n 0), (180, .getfield 266), (183, .iastore), (184, .aload_n 0), (185, .invokevirtual 214), (188, .aload_n 0), (189, .getfield 159), (192, .ifCond .ne 28), (195, .aload_n 0), (196, .getfield 176), (199, .bipush 15), (201, .if_icmp .eq 19), (204, .aload_n 0), (205, .bipush 20), (207, .iload_n 2), (208, .invokevirtual 226), (211, .aload_n 0), (212, .iconst 4), (213, .iconst 0), (214, .invokevirtual 226), (217, .goto 25), (220, .aload_n 0), (221, .bipush 21), (223, .iload_n 2), (224, .invokevirtual 226), (227, .aload_n 0), (228, .iconst 1)]
def tb_I_168_3 : List (Nat × Instr) := [(229, .bipush 15), (231, .invokevirtual 226), (234, .goto 8), (237, .aload_n 0), (238, .iload_n 2), (239, .invokevirtual 263), (242, .goto 41), (245, .aload_n 0), (246, .getfield 176), (249, .bipush 14), (251, .if_icmp .ne 23), (254, .aload_n 0), (255, .iconst 1), (256, .bipush 15), (258, .invokevirtual 226), (261, .aload_n 0), (262, .iconst 4), (263, .iconst 0), (264, .invokevirtual 226), (267, .aload_n 0), (268, .invokevirtual 214), (271, .goto 12), (274, .aload_n 0), (275, .iconst 2), (276, .aload_n 0), (277, .getfield 173), (280, .invokevirtual 188), (283, .return_)]
/-- SpecialiserModel.keep(I)V -/
def tb_I_169_0 : List (Nat × Instr) := [(0, .aload_n 0), (1, .getfield 229), (4, .sipush 1600), (7, .if_icmp .ge 23), (10, .aload_n 0), (11, .getfield 72), (14, .aload_n 0), (15, .getfield 229), (18, .iload_n 1), (19, .iastore), (20, .aload_n 0), (21, .dup), (22, .getfield 229), (25, .iconst 1), (26, .iadd), (27, .putfield 229), (30, .return_)]
/-- SpecialiserModel.last()I -/
def tb_I_170_0 : List (Nat × Instr) := [(0, .aload_n 0), (1, .dup), (2, .getfield 229), (5, .aload_n 0), (6, .getfield 229), (9, .ifCond .le 7), (12, .iconst 1), (13, .goto 4), (16, .iconst 0), (17, .isub), (18, .putfield 229), (21, .aload_n 0), (22, .getfield 72), (25, .aload_n 0), (26, .getfield 229), (29, .iaload), (30, .ireturn)]
/-- SpecialiserModel.onRest(II)V -/
def tb_I_171_0 : List (Nat × Instr) := [(0, .iload_n 1), (1, .tableswitch 177 13 20 #[47, 177, 61, 74, 87, 100, 177, 108]), (48, .aload_n 0), (49, .getfield 45), (52, .iload_n 2), (53, .aload_n 0), (54, .iconst 0), (55, .invokevirtual 269), (58, .iastore), (59, .goto 202), (62, .aload_n 0), (63, .getfield 39), (66, .iload_n 2), (67, .aload_n 0), (68, .invokevirtual 259), (71, .iastore), (72, .goto 189), (75, .aload_n 0), (76, .getfield 42), (79, .iload_n 2), (80, .aload_n 0), (81, .invokevirtual 259), (84, .iastore), (85, .goto 176), (88, .aload_n 0), (89, .getfield 45), (92, .iload_n 2), (93, .aload_n 0), (94, .invokevirtual 259), (97, .iastore), (98, .goto 163), (101, .aload_n 0), (102, .iload_n 2), (103, .invokevirtual 263), (106, .goto 155), (109, .aload_n 0), (110, .getfield 60), (113, .aload_n 0), (114, .getfield 266), (117, .aload_n 0)]
def tb_I_171_1 : List (Nat × Instr) := [(118, .invokevirtual 259), (121, .iastore), (122, .aload_n 0), (123, .dup), (124, .getfield 266), (127, .iconst 1), (128, .iadd), (129, .putfield 266), (132, .aload_n 0), (133, .getfield 176), (136, .bipush 16), (138, .if_icmp .ne 23), (141, .aload_n 0), (142, .bipush 20), (144, .iload_n 2), (145, .invokevirtual 226), (148, .aload_n 0), (149, .iconst 4), (150, .iconst 0), (151, .invokevirtual 226), (154, .aload_n 0), (155, .invokevirtual 214), (158, .goto 103), (161, .aload_n 0), (162, .bipush 21), (164, .iload_n 2), (165, .invokevirtual 226), (168, .aload_n 0), (169, .iconst 1), (170, .bipush 15), (172, .invokevirtual 226), (175, .goto 86), (178, .aload_n 0), (179, .getfield 42), (182, .iload_n 2), (183, .iaload), (184, .istore_n 3), (185, .aload_n 0), (186, .getfield 39), (189, .iload_n 2)]
def tb_I_171_2 : List (Nat × Instr) := [(190, .aload_n 0), (191, .getfield 273), (194, .iastore), (195, .aload_n 0), (196, .getfield 42), (199, .iload_n 2), (200, .aload_n 0), (201, .getfield 266), (204, .iload_n 3), (205, .isub), (206, .iastore), (207, .iload_n 3), (208, .istore 4), (210, .iload 4), (212, .aload_n 0), (213, .getfield 266), (216, .if_icmp .ge 35), (219, .aload_n 0), (220, .getfield 54), (223, .aload_n 0), (224, .getfield 273), (227, .aload_n 0), (228, .getfield 60), (231, .iload 4), (233, .iaload), (234, .iastore), (235, .aload_n 0), (236, .dup), (237, .getfield 273), (240, .iconst 1), (241, .iadd), (242, .putfield 273), (245, .iinc 4 1), (248, .goto (-38)), (251, .aload_n 0), (252, .iload_n 3), (253, .putfield 266), (256, .aload_n 0), (257, .iload_n 2), (258, .invokevirtual 263)]
def tb_I_171_3 : List (Nat × Instr) := [(261, .return_)]
/-- SpecialiserModel.judge()V -/
def tb_I_172_0 : List (Nat × Instr) := [(0, .aload_n 0), (1, .iconst 0), (2, .putfield 285), (5, .iconst 0), (6, .istore_n 1), (7, .iload_n 1), (8, .aload_n 0), (9, .getfield 21), (12, .aload_n 0), (13, .getfield 220), (16, .iaload), (17, .if_icmp .ge 26), (20, .aload_n 0), (21, .getfield 75), (24, .iload_n 1), (25, .iload_n 1), (26, .iastore), (27, .aload_n 0), (28, .dup), (29, .getfield 285), (32, .iconst 1), (33, .iadd), (34, .putfield 285), (37, .iinc 1 1), (40, .goto (-33)), (43, .aload_n 0), (44, .iconst 0), (45, .putfield 223), (48, .aload_n 0), (49, .iconst 1), (50, .aload_n 0), (51, .getfield 27), (54, .aload_n 0), (55, .getfield 220), (58, .iaload), (59, .invokevirtual 226), (62, .aload_n 0), (63, .getfield 223), (66, .ifCond .le 105), (69, .aload_n 0)]
def tb_I_172_1 : List (Nat × Instr) := [(70, .getfield 159), (73, .ifCond .ne 98), (76, .aload_n 0), (77, .dup), (78, .getfield 223), (81, .iconst 1), (82, .isub), (83, .putfield 223), (86, .aload_n 0), (87, .getfield 66), (90, .aload_n 0), (91, .getfield 223), (94, .iaload), (95, .istore_n 1), (96, .aload_n 0), (97, .getfield 63), (100, .aload_n 0), (101, .getfield 223), (104, .iaload), (105, .iconst 1), (106, .if_icmp .ne 11), (109, .aload_n 0), (110, .iload_n 1), (111, .invokevirtual 288), (114, .goto 54), (117, .aload_n 0), (118, .getfield 63), (121, .aload_n 0), (122, .getfield 223), (125, .iaload), (126, .iconst 3), (127, .if_icmp .ne 31), (130, .aload_n 0), (131, .getfield 75), (134, .aload_n 0), (135, .getfield 285), (138, .aload_n 0), (139, .getfield 45), (142, .iload_n 1), (143, .iaload)]
def tb_I_172_2 : List (Nat × Instr) := [(144, .iastore), (145, .aload_n 0), (146, .dup), (147, .getfield 285), (150, .iconst 1), (151, .iadd), (152, .putfield 285), (155, .goto 13), (158, .aload_n 0), (159, .dup), (160, .getfield 285), (163, .iconst 1), (164, .isub), (165, .putfield 285), (168, .goto (-106)), (171, .return_)]
/-- SpecialiserModel.onJudge(I)V -/
def tb_I_173_0 : List (Nat × Instr) := [(0, .aload_n 0), (1, .getfield 36), (4, .iload_n 1), (5, .iaload), (6, .tableswitch 376 1 8 #[130, 155, 191, 376, 376, 376, 46, 228]), (52, .iconst (-1)), (53, .istore_n 2), (54, .iconst 0), (55, .istore_n 3), (56, .iload_n 3), (57, .aload_n 0), (58, .getfield 285), (61, .if_icmp .ge 49), (64, .aload_n 0), (65, .getfield 33), (68, .bipush 16), (70, .aload_n 0), (71, .getfield 220), (74, .imul), (75, .aload_n 0), (76, .getfield 75), (79, .iload_n 3), (80, .iaload), (81, .iadd), (82, .laload), (83, .aload_n 0), (84, .getfield 51), (87, .iload_n 1), (88, .laload), (89, .lcmp), (90, .ifCond .ne 12), (93, .aload_n 0), (94, .getfield 75), (97, .iload_n 3), (98, .iaload), (99, .goto 4), (102, .iload_n 2), (103, .istore_n 2), (104, .iinc 3 1), (107, .goto (-51))]
def tb_I_173_1 : List (Nat × Instr) := [(110, .iload_n 2), (111, .iconst (-1)), (112, .if_icmp .ne 14), (115, .aload_n 0), (116, .iconst 4), (117, .aload_n 0), (118, .getfield 48), (121, .iload_n 1), (122, .iaload), (123, .invokevirtual 188), (126, .aload_n 0), (127, .getfield 39), (130, .iload_n 1), (131, .iload_n 2), (132, .iastore), (133, .goto 249), (136, .aload_n 0), (137, .iconst 1), (138, .aload_n 0), (139, .getfield 42), (142, .iload_n 1), (143, .iaload), (144, .invokevirtual 226), (147, .aload_n 0), (148, .iconst 1), (149, .aload_n 0), (150, .getfield 39), (153, .iload_n 1), (154, .iaload), (155, .invokevirtual 226), (158, .goto 224), (161, .aload_n 0), (162, .iconst 1), (163, .aload_n 0), (164, .getfield 45), (167, .iload_n 1), (168, .iaload), (169, .invokevirtual 226), (172, .aload_n 0), (173, .iconst 1)]
def tb_I_173_2 : List (Nat × Instr) := [(174, .aload_n 0), (175, .getfield 42), (178, .iload_n 1), (179, .iaload), (180, .invokevirtual 226), (183, .aload_n 0), (184, .iconst 1), (185, .aload_n 0), (186, .getfield 39), (189, .iload_n 1), (190, .iaload), (191, .invokevirtual 226), (194, .goto 188), (197, .aload_n 0), (198, .iconst 4), (199, .iload_n 1), (200, .invokevirtual 226), (203, .aload_n 0), (204, .iconst 1), (205, .aload_n 0), (206, .getfield 42), (209, .iload_n 1), (210, .iaload), (211, .invokevirtual 226), (214, .aload_n 0), (215, .iconst 3), (216, .iload_n 1), (217, .invokevirtual 226), (220, .aload_n 0), (221, .iconst 1), (222, .aload_n 0), (223, .getfield 39), (226, .iload_n 1), (227, .iaload), (228, .invokevirtual 226), (231, .goto 151), (234, .iconst (-1)), (235, .istore_n 3), (236, .bipush 48), (238, .aload_n 0)]
def tb_I_173_3 : List (Nat × Instr) := [(239, .getfield 276), (242, .imul), (243, .istore 4), (245, .iload 4), (247, .bipush 48), (249, .aload_n 0), (250, .getfield 276), (253, .imul), (254, .aload_n 0), (255, .getfield 279), (258, .iadd), (259, .if_icmp .ge 33), (262, .aload_n 0), (263, .getfield 17), (266, .iload 4), (268, .laload), (269, .aload_n 0), (270, .getfield 51), (273, .iload_n 1), (274, .laload), (275, .lcmp), (276, .ifCond .ne 8), (279, .iload 4), (281, .goto 4), (284, .iload_n 3), (285, .istore_n 3), (286, .iinc 4 1), (289, .goto (-44)), (292, .iload_n 3), (293, .iconst (-1)), (294, .if_icmp .eq 18), (297, .aload_n 0), (298, .getfield 21), (301, .iload_n 3), (302, .iaload), (303, .aload_n 0), (304, .getfield 42), (307, .iload_n 1), (308, .iaload), (309, .if_icmp .eq 23)]
def tb_I_173_4 : List (Nat × Instr) := [(312, .aload_n 0), (313, .iload_n 3), (314, .iconst (-1)), (315, .if_icmp .ne 7), (318, .iconst 4), (319, .goto 4), (322, .iconst 5), (323, .aload_n 0), (324, .getfield 48), (327, .iload_n 1), (328, .iaload), (329, .invokevirtual 188), (332, .aload_n 0), (333, .getfield 45), (336, .iload_n 1), (337, .iload_n 3), (338, .iastore), (339, .aload_n 0), (340, .getfield 42), (343, .iload_n 1), (344, .iaload), (345, .iconst 1), (346, .isub), (347, .istore 4), (349, .iload 4), (351, .ifCond .lt 28), (354, .aload_n 0), (355, .iconst 1), (356, .aload_n 0), (357, .getfield 54), (360, .aload_n 0), (361, .getfield 39), (364, .iload_n 1), (365, .iaload), (366, .iload 4), (368, .iadd), (369, .iaload), (370, .invokevirtual 226), (373, .iinc 4 (-1)), (376, .goto (-27))]
def tb_I_173_5 : List (Nat × Instr) := [(379, .goto 3), (382, .return_)]
/-- SpecialiserModel.place()I -/
def tb_I_174_0 : List (Nat × Instr) := [(0, .aload_n 0), (1, .iconst 0), (2, .putfield 149), (5, .aload_n 0), (6, .getfield 13), (9, .ireturn)]
/-- SpecialiserModel.function(II)I -/
def tb_I_175_0 : List (Nat × Instr) := [(0, .aload_n 0), (1, .aload_n 0), (2, .iload_n 1), (3, .invokevirtual 319), (6, .ifCond .eq 19), (9, .iload_n 2), (10, .i2l), (11, .lconst 0), (12, .ldc2_w 322), (15, .invokestatic 155), (18, .ifCond .eq 7), (21, .iconst 0), (22, .goto 4), (25, .iconst 1), (26, .putfield 149), (29, .aload_n 0), (30, .getfield 149), (33, .ifCond .le 5), (36, .iconst 0), (37, .ireturn), (38, .bipush 48), (40, .aload_n 0), (41, .getfield 295), (44, .imul), (45, .iload_n 1), (46, .iadd), (47, .istore_n 3), (48, .iload_n 2), (49, .ifCond .ne 12), (52, .aload_n 0), (53, .getfield 21), (56, .iload_n 3), (57, .iaload), (58, .goto 30), (61, .iload_n 2), (62, .iconst 1), (63, .if_icmp .ne 12), (66, .aload_n 0), (67, .getfield 30), (70, .iload_n 3)]
def tb_I_175_1 : List (Nat × Instr) := [(71, .iaload), (72, .goto 16), (75, .aload_n 0), (76, .getfield 24), (79, .iload_n 3), (80, .iaload), (81, .aload_n 0), (82, .getfield 21), (85, .iload_n 3), (86, .iaload), (87, .isub), (88, .ireturn)]
/-- SpecialiserModel.isFn(I)Z -/
def tb_I_176_0 : List (Nat × Instr) := [(0, .aload_n 0), (1, .getfield 291), (4, .ifCond .eq 28), (7, .iload_n 1), (8, .i2l), (9, .lconst 0), (10, .aload_n 0), (11, .getfield 57), (14, .aload_n 0), (15, .getfield 295), (18, .iaload), (19, .iconst 1), (20, .isub), (21, .i2l), (22, .invokestatic 155), (25, .ifCond .eq 7), (28, .iconst 1), (29, .goto 4), (32, .iconst 0), (33, .ireturn)]
/-- SpecialiserModel.know(II)I -/
def tb_I_177_0 : List (Nat × Instr) := [(0, .aload_n 0), (1, .iload_n 1), (2, .i2l), (3, .lconst 0), (4, .ldc2_w 418), (7, .invokestatic 155), (10, .ifCond .eq 7), (13, .iconst 0), (14, .goto 4), (17, .iconst 1), (18, .putfield 149), (21, .aload_n 0), (22, .getfield 149), (25, .ifCond .le 5), (28, .iconst 0), (29, .ireturn), (30, .aload_n 0), (31, .getfield 127), (34, .iload_n 1), (35, .iconst 1), (36, .bastore), (37, .aload_n 0), (38, .getfield 130), (41, .iload_n 1), (42, .iload_n 2), (43, .iastore), (44, .aload_n 0), (45, .invokevirtual 420), (48, .ireturn)]
/-- SpecialiserModel.knownMany()I -/
def tb_I_178_0 : List (Nat × Instr) := [(0, .iconst 0), (1, .istore_n 1), (2, .iconst 0), (3, .istore_n 2), (4, .iload_n 2), (5, .iconst 4), (6, .if_icmp .ge 26), (9, .iload_n 1), (10, .aload_n 0), (11, .getfield 127), (14, .iload_n 2), (15, .baload), (16, .ifCond .eq 7), (19, .iconst 1), (20, .goto 4), (23, .iconst 0), (24, .iadd), (25, .istore_n 1), (26, .iinc 2 1), (29, .goto (-25)), (32, .iload_n 1), (33, .ireturn)]
/-- SpecialiserModel.make(I)I -/
def tb_I_179_0 : List (Nat × Instr) := [(0, .aload_n 0), (1, .aload_n 0), (2, .getfield 291), (5, .ifCond .ne 7), (8, .iconst 1), (9, .goto 16), (12, .aload_n 0), (13, .iload_n 1), (14, .invokevirtual 319), (17, .ifCond .ne 7), (20, .iconst 2), (21, .goto 4), (24, .iconst 0), (25, .putfield 149), (28, .aload_n 0), (29, .getfield 149), (32, .ifCond .le 5), (35, .iconst 0), (36, .ireturn), (37, .bipush 48), (39, .aload_n 0), (40, .getfield 295), (43, .imul), (44, .iload_n 1), (45, .iadd), (46, .istore_n 2), (47, .aload_n 0), (48, .iconst 1), (49, .aload_n 0), (50, .getfield 423), (53, .isub), (54, .putfield 355), (57, .aload_n 0), (58, .iconst 0), (59, .putfield 399), (62, .aload_n 0), (63, .iconst 0), (64, .putfield 358), (67, .aload_n 0), (68, .sipush 3004)]
def tb_I_179_1 : List (Nat × Instr) := [(71, .sipush 6002), (74, .aload_n 0), (75, .getfield 355), (78, .imul), (79, .iadd), (80, .putfield 415), (83, .aload_n 0), (84, .iconst 0), (85, .putfield 402), (88, .aload_n 0), (89, .iconst 0), (90, .putfield 408), (93, .aload_n 0), (94, .iconst 0), (95, .putfield 396), (98, .aload_n 0), (99, .iconst 0), (100, .putfield 361), (103, .iconst 0), (104, .istore_n 3), (105, .iconst 0), (106, .istore 4), (108, .iload 4), (110, .aload_n 0), (111, .getfield 21), (114, .iload_n 2), (115, .iaload), (116, .if_icmp .ge 44), (119, .iload_n 3), (120, .aload_n 0), (121, .getfield 127), (124, .iload 4), (126, .baload), (127, .ifCond .eq 10), (130, .iconst 1), (131, .iload 4), (133, .ishl), (134, .goto 4), (137, .iconst 0), (138, .ior)]
def tb_I_179_2 : List (Nat × Instr) := [(139, .istore_n 3), (140, .aload_n 0), (141, .getfield 121), (144, .iload 4), (146, .aload_n 0), (147, .getfield 130), (150, .iload 4), (152, .iaload), (153, .iastore), (154, .iinc 4 1), (157, .goto (-49)), (160, .aload_n 0), (161, .iload_n 2), (162, .iload_n 3), (163, .iconst 1), (164, .invokevirtual 411), (167, .istore 4), (169, .iconst 0), (170, .istore 5), (172, .iload 5), (174, .aload_n 0), (175, .getfield 399), (178, .if_icmp .ge 30), (181, .aload_n 0), (182, .getfield 361), (185, .ifCond .ne 23), (188, .aload_n 0), (189, .bipush 80), (191, .aload_n 0), (192, .getfield 355), (195, .imul), (196, .iload 5), (198, .iadd), (199, .invokevirtual 426), (202, .iinc 5 1), (205, .goto (-33)), (208, .aload_n 0), (209, .getfield 361), (212, .ifCond .eq 10), (215, .aload_n 0)]
def tb_I_179_3 : List (Nat × Instr) := [(216, .iconst 3), (217, .putfield 149), (220, .iconst 0), (221, .ireturn), (222, .aload_n 0), (223, .aload_n 0), (224, .getfield 355), (227, .putfield 423), (230, .aload_n 0), (231, .aload_n 0), (232, .getfield 399), (235, .putfield 304), (238, .aload_n 0), (239, .aload_n 0), (240, .getfield 358), (243, .putfield 307), (246, .aload_n 0), (247, .aload_n 0), (248, .getfield 402), (251, .putfield 310), (254, .aload_n 0), (255, .aload_n 0), (256, .getfield 408), (259, .putfield 313), (262, .aload_n 0), (263, .aload_n 0), (264, .getfield 396), (267, .putfield 316), (270, .iconst 0), (271, .istore 5), (273, .iload 5), (275, .iconst 4), (276, .if_icmp .ge 17), (279, .aload_n 0), (280, .getfield 127), (283, .iload 5), (285, .iconst 0), (286, .bastore), (287, .iinc 5 1), (290, .goto (-17))]
def tb_I_179_4 : List (Nat × Instr) := [(293, .aload_n 0), (294, .getfield 304), (297, .ireturn)]
/-- SpecialiserModel.versionOf(IIZ)I -/
def tb_I_180_0 : List (Nat × Instr) := [(0, .bipush 80), (2, .aload_n 0), (3, .getfield 355), (6, .imul), (7, .istore 4), (9, .iload 4), (11, .istore 5), (13, .iload 5), (15, .iload 4), (17, .aload_n 0), (18, .getfield 399), (21, .iadd), (22, .if_icmp .ge 104), (25, .aload_n 0), (26, .getfield 84), (29, .iload 5), (31, .iaload), (32, .iload_n 1), (33, .if_icmp .ne 18), (36, .aload_n 0), (37, .getfield 87), (40, .iload 5), (42, .iaload), (43, .iload_n 2), (44, .if_icmp .ne 7), (47, .iconst 1), (48, .goto 4), (51, .iconst 0), (52, .istore 6), (54, .iconst 0), (55, .istore 7), (57, .iload 7), (59, .iconst 4), (60, .if_icmp .ge 52), (63, .iload 6), (65, .ifCond .eq 38), (68, .iload_n 2), (69, .iload 7), (71, .ishr), (72, .iconst 1)]
def tb_I_180_1 : List (Nat × Instr) := [(73, .iand), (74, .ifCond .eq 25), (77, .aload_n 0), (78, .getfield 90), (81, .iconst 4), (82, .iload 5), (84, .imul), (85, .iload 7), (87, .iadd), (88, .iaload), (89, .aload_n 0), (90, .getfield 121), (93, .iload 7), (95, .iaload), (96, .if_icmp .ne 7), (99, .iconst 1), (100, .goto 4), (103, .iconst 0), (104, .istore 6), (106, .iinc 7 1), (109, .goto (-52)), (112, .iload 6), (114, .ifCond .eq 6), (117, .iload 5), (119, .ireturn), (120, .iinc 5 1), (123, .goto (-110)), (126, .iload_n 3), (127, .ifCond .ne 14), (130, .aload_n 0), (131, .getfield 399), (134, .bipush 30), (136, .if_icmp .lt 5), (139, .iconst (-1)), (140, .ireturn), (141, .iload 4), (143, .aload_n 0), (144, .getfield 399), (147, .iadd), (148, .istore 5)]
def tb_I_180_2 : List (Nat × Instr) := [(150, .aload_n 0), (151, .dup), (152, .getfield 399), (155, .iconst 1), (156, .iadd), (157, .putfield 399), (160, .aload_n 0), (161, .getfield 84), (164, .iload 5), (166, .iload_n 1), (167, .iastore), (168, .aload_n 0), (169, .getfield 87), (172, .iload 5), (174, .iload_n 2), (175, .iastore), (176, .iconst 0), (177, .istore 6), (179, .iload 6), (181, .iconst 4), (182, .if_icmp .ge 42), (185, .aload_n 0), (186, .getfield 90), (189, .iconst 4), (190, .iload 5), (192, .imul), (193, .iload 6), (195, .iadd), (196, .iload_n 2), (197, .iload 6), (199, .ishr), (200, .iconst 1), (201, .iand), (202, .iconst 1), (203, .if_icmp .ne 13), (206, .aload_n 0), (207, .getfield 121), (210, .iload 6), (212, .iaload), (213, .goto 4)]
def tb_I_180_3 : List (Nat × Instr) := [(216, .iconst 0), (217, .iastore), (218, .iinc 6 1), (221, .goto (-42)), (224, .iload 5), (226, .ireturn)]
/-- SpecialiserModel.makeVersion(I)V -/
def tb_I_181_0 : List (Nat × Instr) := [(0, .aload_n 0), (1, .getfield 84), (4, .iload_n 1), (5, .iaload), (6, .istore_n 2), (7, .iconst 0), (8, .istore_n 3), (9, .iconst 0), (10, .istore 4), (12, .iload 4), (14, .aload_n 0), (15, .getfield 21), (18, .iload_n 2), (19, .iaload), (20, .if_icmp .ge 80), (23, .aload_n 0), (24, .getfield 87), (27, .iload_n 1), (28, .iaload), (29, .iload 4), (31, .ishr), (32, .iconst 1), (33, .iand), (34, .iconst 1), (35, .if_icmp .ne 7), (38, .iconst 1), (39, .goto 4), (42, .iconst 0), (43, .istore 5), (45, .aload_n 0), (46, .getfield 115), (49, .iload 4), (51, .iload 5), (53, .bastore), (54, .aload_n 0), (55, .getfield 118), (58, .iload 4), (60, .iload 5), (62, .ifCond .eq 17), (65, .aload_n 0)]
def tb_I_181_1 : List (Nat × Instr) := [(66, .getfield 90), (69, .iconst 4), (70, .iload_n 1), (71, .imul), (72, .iload 4), (74, .iadd), (75, .iaload), (76, .goto 4), (79, .iload_n 3), (80, .iastore), (81, .iload_n 3), (82, .iload 5), (84, .ifCond .eq 7), (87, .iconst 0), (88, .goto 4), (91, .iconst 1), (92, .iadd), (93, .istore_n 3), (94, .iinc 4 1), (97, .goto (-85)), (100, .aload_n 0), (101, .getfield 358), (104, .istore 4), (106, .aload_n 0), (107, .iconst 0), (108, .putfield 374), (111, .aload_n 0), (112, .iconst 0), (113, .putfield 371), (116, .aload_n 0), (117, .iconst 0), (118, .putfield 364), (121, .aload_n 0), (122, .iconst 1), (123, .aload_n 0), (124, .getfield 27), (127, .iload_n 2), (128, .iaload), (129, .invokevirtual 377), (132, .aload_n 0)]
def tb_I_181_2 : List (Nat × Instr) := [(133, .getfield 371), (136, .ifCond .le 45), (139, .aload_n 0), (140, .getfield 361), (143, .ifCond .ne 38), (146, .aload_n 0), (147, .dup), (148, .getfield 371), (151, .iconst 1), (152, .isub), (153, .putfield 371), (156, .aload_n 0), (157, .aload_n 0), (158, .getfield 102), (161, .aload_n 0), (162, .getfield 371), (165, .iaload), (166, .aload_n 0), (167, .getfield 105), (170, .aload_n 0), (171, .getfield 371), (174, .iaload), (175, .invokevirtual 380), (178, .goto (-46)), (181, .aload_n 0), (182, .getfield 361), (185, .ifCond .ne 14), (188, .aload_n 0), (189, .getfield 93), (192, .iload_n 1), (193, .aload_n 0), (194, .iconst 0), (195, .invokevirtual 383), (198, .iastore), (199, .aload_n 0), (200, .getfield 96), (203, .iload_n 1), (204, .aload_n 0), (205, .getfield 358), (208, .iload 4)]
def tb_I_181_3 : List (Nat × Instr) := [(210, .isub), (211, .iastore), (212, .aload_n 0), (213, .getfield 99), (216, .iload_n 1), (217, .aload_n 0), (218, .getfield 374), (221, .iastore), (222, .return_)]
/-- SpecialiserModel.later(II)V -/
def tb_I_182_0 : List (Nat × Instr) := [(0, .aload_n 0), (1, .getfield 371), (4, .sipush 4000), (7, .if_icmp .ge 33), (10, .aload_n 0), (11, .getfield 102), (14, .aload_n 0), (15, .getfield 371), (18, .iload_n 1), (19, .iastore), (20, .aload_n 0), (21, .getfield 105), (24, .aload_n 0), (25, .getfield 371), (28, .iload_n 2), (29, .iastore), (30, .aload_n 0), (31, .dup), (32, .getfield 371), (35, .iconst 1), (36, .iadd), (37, .putfield 371), (40, .return_)]
/-- SpecialiserModel.onMaking(II)V -/
def tb_I_183_0 : List (Nat × Instr) := [(0, .iload_n 1), (1, .tableswitch 560 1 6 #[39, 47, 188, 278, 470, 364]), (40, .aload_n 0), (41, .iload_n 2), (42, .invokevirtual 386), (45, .goto 521), (48, .aload_n 0), (49, .dup), (50, .getfield 364), (53, .iconst 2), (54, .isub), (55, .putfield 364), (58, .aload_n 0), (59, .getfield 108), (62, .aload_n 0), (63, .getfield 364), (66, .baload), (67, .ifCond .eq 54), (70, .aload_n 0), (71, .getfield 108), (74, .aload_n 0), (75, .getfield 364), (78, .iconst 1), (79, .iadd), (80, .baload), (81, .ifCond .eq 40), (84, .aload_n 0), (85, .iconst 1), (86, .aload_n 0), (87, .getfield 45), (90, .iload_n 2), (91, .iaload), (92, .aload_n 0), (93, .getfield 112), (96, .aload_n 0), (97, .getfield 364), (100, .iaload), (101, .aload_n 0), (102, .getfield 112), (105, .aload_n 0)]
def tb_I_183_1 : List (Nat × Instr) := [(106, .getfield 364), (109, .iconst 1), (110, .iadd), (111, .iaload), (112, .invokestatic 351), (115, .invokevirtual 389), (118, .goto 448), (121, .aload_n 0), (122, .aload_n 0), (123, .getfield 364), (126, .invokevirtual 383), (129, .istore_n 3), (130, .aload_n 0), (131, .aload_n 0), (132, .getfield 364), (135, .iconst 1), (136, .iadd), (137, .invokevirtual 383), (140, .istore 4), (142, .aload_n 0), (143, .iconst 1), (144, .invokevirtual 367), (147, .istore 5), (149, .aload_n 0), (150, .getfield 39), (153, .iload 5), (155, .iload_n 3), (156, .iastore), (157, .aload_n 0), (158, .getfield 42), (161, .iload 5), (163, .iload 4), (165, .iastore), (166, .aload_n 0), (167, .getfield 45), (170, .iload 5), (172, .aload_n 0), (173, .getfield 45), (176, .iload_n 2), (177, .iaload)]
def tb_I_183_2 : List (Nat × Instr) := [(178, .iastore), (179, .aload_n 0), (180, .iconst 0), (181, .iload 5), (183, .invokevirtual 389), (186, .goto 380), (189, .aload_n 0), (190, .getfield 108), (193, .aload_n 0), (194, .getfield 364), (197, .iconst 1), (198, .isub), (199, .baload), (200, .ifCond .eq 48), (203, .aload_n 0), (204, .dup), (205, .getfield 364), (208, .iconst 1), (209, .isub), (210, .putfield 364), (213, .aload_n 0), (214, .iconst 1), (215, .aload_n 0), (216, .getfield 112), (219, .aload_n 0), (220, .getfield 364), (223, .iaload), (224, .ifCond .ne 12), (227, .aload_n 0), (228, .getfield 45), (231, .iload_n 2), (232, .iaload), (233, .goto 9), (236, .aload_n 0), (237, .getfield 42), (240, .iload_n 2), (241, .iaload), (242, .invokevirtual 377), (245, .goto 321), (248, .aload_n 0)]
def tb_I_183_3 : List (Nat × Instr) := [(249, .iconst 4), (250, .iload_n 2), (251, .invokevirtual 377), (254, .aload_n 0), (255, .iconst 1), (256, .aload_n 0), (257, .getfield 45), (260, .iload_n 2), (261, .iaload), (262, .invokevirtual 377), (265, .aload_n 0), (266, .iconst 1), (267, .aload_n 0), (268, .getfield 42), (271, .iload_n 2), (272, .iaload), (273, .invokevirtual 377), (276, .goto 290), (279, .aload_n 0), (280, .dup), (281, .getfield 364), (284, .iconst 3), (285, .isub), (286, .putfield 364), (289, .aload_n 0), (290, .aload_n 0), (291, .getfield 364), (294, .invokevirtual 383), (297, .istore_n 3), (298, .aload_n 0), (299, .aload_n 0), (300, .getfield 364), (303, .iconst 1), (304, .iadd), (305, .invokevirtual 383), (308, .istore 4), (310, .aload_n 0), (311, .aload_n 0), (312, .getfield 364), (315, .iconst 2)]
def tb_I_183_4 : List (Nat × Instr) := [(316, .iadd), (317, .invokevirtual 383), (320, .istore 5), (322, .aload_n 0), (323, .iconst 2), (324, .invokevirtual 367), (327, .istore 6), (329, .aload_n 0), (330, .getfield 39), (333, .iload 6), (335, .iload_n 3), (336, .iastore), (337, .aload_n 0), (338, .getfield 42), (341, .iload 6), (343, .iload 4), (345, .iastore), (346, .aload_n 0), (347, .getfield 45), (350, .iload 6), (352, .iload 5), (354, .iastore), (355, .aload_n 0), (356, .iconst 0), (357, .iload 6), (359, .invokevirtual 389), (362, .goto 204), (365, .aload_n 0), (366, .getfield 108), (369, .aload_n 0), (370, .getfield 364), (373, .iconst 1), (374, .isub), (375, .baload), (376, .istore 7), (378, .aload_n 0), (379, .getfield 115), (382, .aload_n 0), (383, .getfield 45), (386, .iload_n 2)]
def tb_I_183_5 : List (Nat × Instr) := [(387, .iaload), (388, .iload 7), (390, .bastore), (391, .aload_n 0), (392, .getfield 118), (395, .aload_n 0), (396, .getfield 45), (399, .iload_n 2), (400, .iaload), (401, .iload 7), (403, .ifCond .eq 17), (406, .aload_n 0), (407, .getfield 112), (410, .aload_n 0), (411, .getfield 364), (414, .iconst 1), (415, .isub), (416, .iaload), (417, .goto 9), (420, .aload_n 0), (421, .getfield 45), (424, .iload_n 2), (425, .iaload), (426, .iastore), (427, .aload_n 0), (428, .dup), (429, .getfield 364), (432, .iload 7), (434, .ifCond .eq 7), (437, .iconst 1), (438, .goto 4), (441, .iconst 0), (442, .isub), (443, .putfield 364), (446, .iload 7), (448, .ifCond .ne 9), (451, .aload_n 0), (452, .iconst 5), (453, .iload_n 2), (454, .invokevirtual 377)]
def tb_I_183_6 : List (Nat × Instr) := [(457, .aload_n 0), (458, .iconst 1), (459, .aload_n 0), (460, .getfield 42), (463, .iload_n 2), (464, .iaload), (465, .invokevirtual 377), (468, .goto 98), (471, .aload_n 0), (472, .dup), (473, .getfield 364), (476, .iconst 2), (477, .isub), (478, .putfield 364), (481, .aload_n 0), (482, .aload_n 0), (483, .getfield 364), (486, .invokevirtual 383), (489, .istore 8), (491, .aload_n 0), (492, .aload_n 0), (493, .getfield 364), (496, .iconst 1), (497, .iadd), (498, .invokevirtual 383), (501, .istore 9), (503, .aload_n 0), (504, .iconst 3), (505, .invokevirtual 367), (508, .istore 10), (510, .aload_n 0), (511, .getfield 39), (514, .iload 10), (516, .iload 8), (518, .iastore), (519, .aload_n 0), (520, .getfield 42), (523, .iload 10), (525, .iload 9), (527, .iastore)]
def tb_I_183_7 : List (Nat × Instr) := [(528, .aload_n 0), (529, .getfield 45), (532, .iload 10), (534, .aload_n 0), (535, .getfield 45), (538, .iload_n 2), (539, .iaload), (540, .iastore), (541, .aload_n 0), (542, .dup), (543, .getfield 374), (546, .iconst 1), (547, .iadd), (548, .putfield 374), (551, .aload_n 0), (552, .iconst 0), (553, .iload 10), (555, .invokevirtual 389), (558, .goto 8), (561, .aload_n 0), (562, .iload_n 2), (563, .invokevirtual 393), (566, .return_)]
/-- SpecialiserModel.onEv(I)V -/
def tb_I_184_0 : List (Nat × Instr) := [(0, .aload_n 0), (1, .getfield 396), (4, .sipush 1000), (7, .if_icmp .ne 9), (10, .aload_n 0), (11, .iconst 1), (12, .putfield 361), (15, .return_), (16, .aload_n 0), (17, .dup), (18, .getfield 396), (21, .iconst 1), (22, .iadd), (23, .putfield 396), (26, .aload_n 0), (27, .getfield 36), (30, .iload_n 1), (31, .iaload), (32, .tableswitch 196 1 7 #[124, 155, 175, 196, 44, 196, 58]), (76, .aload_n 0), (77, .iconst 1), (78, .aload_n 0), (79, .getfield 39), (82, .iload_n 1), (83, .iaload), (84, .invokevirtual 389), (87, .goto 185), (90, .aload_n 0), (91, .getfield 115), (94, .aload_n 0), (95, .getfield 39), (98, .iload_n 1), (99, .iaload), (100, .baload), (101, .ifCond .eq 22), (104, .aload_n 0), (105, .iconst 1), (106, .aload_n 0), (107, .getfield 118), (110, .aload_n 0)]
def tb_I_184_1 : List (Nat × Instr) := [(111, .getfield 39), (114, .iload_n 1), (115, .iaload), (116, .iaload), (117, .invokevirtual 389), (120, .goto 152), (123, .aload_n 0), (124, .bipush 7), (126, .invokevirtual 367), (129, .istore_n 2), (130, .aload_n 0), (131, .getfield 39), (134, .iload_n 2), (135, .aload_n 0), (136, .getfield 118), (139, .aload_n 0), (140, .getfield 39), (143, .iload_n 1), (144, .iaload), (145, .iaload), (146, .iastore), (147, .aload_n 0), (148, .iconst 0), (149, .iload_n 2), (150, .invokevirtual 389), (153, .goto 119), (156, .aload_n 0), (157, .iconst 2), (158, .iload_n 1), (159, .invokevirtual 377), (162, .aload_n 0), (163, .iconst 1), (164, .aload_n 0), (165, .getfield 42), (168, .iload_n 1), (169, .iaload), (170, .invokevirtual 377), (173, .aload_n 0), (174, .iconst 1), (175, .aload_n 0)]
def tb_I_184_2 : List (Nat × Instr) := [(176, .getfield 39), (179, .iload_n 1), (180, .iaload), (181, .invokevirtual 377), (184, .goto 88), (187, .aload_n 0), (188, .iconst 3), (189, .iload_n 1), (190, .invokevirtual 377), (193, .aload_n 0), (194, .iconst 1), (195, .aload_n 0), (196, .getfield 39), (199, .iload_n 1), (200, .iaload), (201, .invokevirtual 377), (204, .goto 68), (207, .aload_n 0), (208, .bipush 6), (210, .iload_n 1), (211, .invokevirtual 377), (214, .aload_n 0), (215, .iconst 1), (216, .aload_n 0), (217, .getfield 39), (220, .iload_n 1), (221, .iaload), (222, .invokevirtual 377), (225, .goto 47), (228, .aload_n 0), (229, .bipush 7), (231, .iload_n 1), (232, .invokevirtual 377), (235, .aload_n 0), (236, .getfield 42), (239, .iload_n 1), (240, .iaload), (241, .iconst 1), (242, .isub), (243, .istore_n 2)]
def tb_I_184_3 : List (Nat × Instr) := [(244, .iload_n 2), (245, .ifCond .lt 27), (248, .aload_n 0), (249, .iconst 1), (250, .aload_n 0), (251, .getfield 54), (254, .aload_n 0), (255, .getfield 39), (258, .iload_n 1), (259, .iaload), (260, .iload_n 2), (261, .iadd), (262, .iaload), (263, .invokevirtual 377), (266, .iinc 2 (-1)), (269, .goto (-25)), (272, .return_)]
/-- SpecialiserModel.gives(ZI)V -/
def tb_I_185_0 : List (Nat × Instr) := [(0, .aload_n 0), (1, .getfield 108), (4, .aload_n 0), (5, .getfield 364), (8, .iload_n 1), (9, .bastore), (10, .aload_n 0), (11, .getfield 112), (14, .aload_n 0), (15, .getfield 364), (18, .iload_n 2), (19, .iastore), (20, .aload_n 0), (21, .dup), (22, .getfield 364), (25, .iconst 1), (26, .iadd), (27, .putfield 364), (30, .return_)]
/-- SpecialiserModel.fresh(I)I -/
def tb_I_186_0 : List (Nat × Instr) := [(0, .sipush 3004), (3, .sipush 6002), (6, .aload_n 0), (7, .getfield 355), (10, .imul), (11, .iadd), (12, .aload_n 0), (13, .getfield 358), (16, .iadd), (17, .istore_n 2), (18, .aload_n 0), (19, .getfield 358), (22, .sipush 6000), (25, .if_icmp .lt 25), (28, .aload_n 0), (29, .iconst 1), (30, .putfield 361), (33, .sipush 3004), (36, .sipush 6002), (39, .aload_n 0), (40, .getfield 355), (43, .imul), (44, .iadd), (45, .sipush 6000), (48, .iadd), (49, .ireturn), (50, .aload_n 0), (51, .dup), (52, .getfield 358), (55, .iconst 1), (56, .iadd), (57, .putfield 358), (60, .aload_n 0), (61, .getfield 36), (64, .iload_n 2), (65, .iload_n 1), (66, .iastore), (67, .iload_n 2), (68, .ireturn)]
/-- SpecialiserModel.applied(III)I -/
def tb_I_187_0 : List (Nat × Instr) := [(0, .iload_n 0), (1, .bipush 19), (3, .if_icmp .ne 9), (6, .iload_n 1), (7, .iload_n 2), (8, .iadd), (9, .goto 56), (12, .iload_n 0), (13, .bipush 20), (15, .if_icmp .ne 9), (18, .iload_n 1), (19, .iload_n 2), (20, .isub), (21, .goto 44), (24, .iload_n 0), (25, .bipush 21), (27, .if_icmp .ne 9), (30, .iload_n 1), (31, .iload_n 2), (32, .imul), (33, .goto 32), (36, .iload_n 0), (37, .bipush 22), (39, .if_icmp .ne 16), (42, .iload_n 1), (43, .iload_n 2), (44, .if_icmp .ge 7), (47, .iconst 1), (48, .goto 17), (51, .iconst 0), (52, .goto 13), (55, .iload_n 1), (56, .iload_n 2), (57, .if_icmp .ne 7), (60, .iconst 1), (61, .goto 4), (64, .iconst 0), (65, .ireturn)]
/-- SpecialiserModel.nodeOf(I)I -/
def tb_I_188_0 : List (Nat × Instr) := [(0, .aload_n 0), (1, .getfield 108), (4, .iload_n 1), (5, .baload), (6, .ifCond .ne 10), (9, .aload_n 0), (10, .getfield 112), (13, .iload_n 1), (14, .iaload), (15, .ireturn), (16, .aload_n 0), (17, .iconst 5), (18, .invokevirtual 367), (21, .istore_n 2), (22, .aload_n 0), (23, .getfield 39), (26, .iload_n 2), (27, .aload_n 0), (28, .getfield 112), (31, .iload_n 1), (32, .iaload), (33, .iastore), (34, .iload_n 2), (35, .ireturn)]
/-- SpecialiserModel.onCalled(I)V -/
def tb_I_189_0 : List (Nat × Instr) := [(0, .aload_n 0), (1, .getfield 42), (4, .iload_n 1), (5, .iaload), (6, .istore_n 2), (7, .aload_n 0), (8, .dup), (9, .getfield 364), (12, .iload_n 2), (13, .isub), (14, .putfield 364), (17, .aload_n 0), (18, .getfield 364), (21, .istore_n 3), (22, .iconst 0), (23, .istore 4), (25, .iconst 0), (26, .istore 5), (28, .iload 5), (30, .iload_n 2), (31, .if_icmp .ge 50), (34, .iload 4), (36, .aload_n 0), (37, .getfield 108), (40, .iload_n 3), (41, .iload 5), (43, .iadd), (44, .baload), (45, .ifCond .eq 10), (48, .iconst 1), (49, .iload 5), (51, .ishl), (52, .goto 4), (55, .iconst 0), (56, .ior), (57, .istore 4), (59, .aload_n 0), (60, .getfield 121), (63, .iload 5), (65, .aload_n 0)]
def tb_I_189_1 : List (Nat × Instr) := [(66, .getfield 112), (69, .iload_n 3), (70, .iload 5), (72, .iadd), (73, .iaload), (74, .iastore), (75, .iinc 5 1), (78, .goto (-50)), (81, .iload 4), (83, .iconst 1), (84, .iload_n 2), (85, .ishl), (86, .iconst 1), (87, .isub), (88, .if_icmp .ne 86), (91, .iconst 0), (92, .istore 5), (94, .iload 5), (96, .iload_n 2), (97, .if_icmp .ge 25), (100, .aload_n 0), (101, .getfield 81), (104, .iload 5), (106, .aload_n 0), (107, .getfield 112), (110, .iload_n 3), (111, .iload 5), (113, .iadd), (114, .iaload), (115, .iastore), (116, .iinc 5 1), (119, .goto (-25)), (122, .aload_n 0), (123, .dup), (124, .getfield 402), (127, .iconst 1), (128, .iadd), (129, .putfield 402), (132, .aload_n 0), (133, .aload_n 0)]
def tb_I_189_2 : List (Nat × Instr) := [(134, .getfield 27), (137, .aload_n 0), (138, .getfield 45), (141, .iload_n 1), (142, .iaload), (143, .iaload), (144, .sipush 500), (147, .invokevirtual 405), (150, .iconst 1), (151, .if_icmp .ne 23), (154, .aload_n 0), (155, .dup), (156, .getfield 408), (159, .iconst 1), (160, .iadd), (161, .putfield 408), (164, .aload_n 0), (165, .iconst 1), (166, .aload_n 0), (167, .getfield 348), (170, .invokevirtual 389), (173, .return_), (174, .aload_n 0), (175, .aload_n 0), (176, .getfield 45), (179, .iload_n 1), (180, .iaload), (181, .iload 4), (183, .iconst 0), (184, .invokevirtual 411), (187, .istore 5), (189, .iload 5), (191, .iconst (-1)), (192, .if_icmp .ne 20), (195, .iconst 0), (196, .istore 4), (198, .aload_n 0), (199, .aload_n 0), (200, .getfield 45), (203, .iload_n 1)]
def tb_I_189_3 : List (Nat × Instr) := [(204, .iaload), (205, .iconst 0), (206, .iconst 1), (207, .invokevirtual 411), (210, .istore 5), (212, .iconst 0), (213, .istore 6), (215, .aload_n 0), (216, .getfield 124), (219, .astore 7), (221, .iconst 0), (222, .istore 8), (224, .iload 8), (226, .iload_n 2), (227, .if_icmp .ge 35), (230, .iload 4), (232, .iload 8), (234, .ishr), (235, .iconst 1), (236, .iand), (237, .ifCond .ne 19), (240, .aload 7), (242, .iload 6), (244, .aload_n 0), (245, .iload_n 3), (246, .iload 8), (248, .iadd), (249, .invokevirtual 383), (252, .iastore), (253, .iinc 6 1), (256, .iinc 8 1), (259, .goto (-35)), (262, .aload_n 0), (263, .bipush 8), (265, .invokevirtual 367), (268, .istore 8), (270, .aload_n 0), (271, .getfield 39), (274, .iload 8), (276, .aload_n 0)]
def tb_I_189_4 : List (Nat × Instr) := [(277, .getfield 415), (280, .iastore), (281, .aload_n 0), (282, .getfield 42), (285, .iload 8), (287, .iload 6), (289, .iastore), (290, .aload_n 0), (291, .getfield 45), (294, .iload 8), (296, .iload 5), (298, .iastore), (299, .iconst 0), (300, .istore 9), (302, .iload 9), (304, .iload 6), (306, .if_icmp .ge 33), (309, .aload_n 0), (310, .getfield 54), (313, .aload_n 0), (314, .getfield 415), (317, .aload 7), (319, .iload 9), (321, .iaload), (322, .iastore), (323, .aload_n 0), (324, .dup), (325, .getfield 415), (328, .iconst 1), (329, .iadd), (330, .putfield 415), (333, .iinc 9 1), (336, .goto (-34)), (339, .aload_n 0), (340, .iconst 0), (341, .iload 8), (343, .invokevirtual 389), (346, .return_)]
/-- SpecialiserModel.goes(II)I -/
def tb_I_190_0 : List (Nat × Instr) := [(0, .aload_n 0), (1, .iconst 0), (2, .putfield 223), (5, .aload_n 0), (6, .iconst 0), (7, .putfield 324), (10, .aload_n 0), (11, .iconst 0), (12, .putfield 327), (15, .aload_n 0), (16, .iconst 0), (17, .putfield 330), (20, .aload_n 0), (21, .iload_n 2), (22, .putfield 333), (25, .aload_n 0), (26, .iconst 0), (27, .putfield 336), (30, .aload_n 0), (31, .iconst 0), (32, .putfield 339), (35, .aload_n 0), (36, .iconst 0), (37, .putfield 342), (40, .aload_n 0), (41, .iconst 1), (42, .iload_n 1), (43, .invokevirtual 226), (46, .aload_n 0), (47, .getfield 223), (50, .ifCond .le 366), (53, .aload_n 0), (54, .getfield 342), (57, .ifCond .ne 359), (60, .aload_n 0), (61, .dup), (62, .getfield 223), (65, .iconst 1), (66, .isub), (67, .putfield 223)]
def tb_I_190_1 : List (Nat × Instr) := [(70, .aload_n 0), (71, .getfield 66), (74, .aload_n 0), (75, .getfield 223), (78, .iaload), (79, .istore_n 3), (80, .aload_n 0), (81, .getfield 63), (84, .aload_n 0), (85, .getfield 223), (88, .iaload), (89, .tableswitch 314 1 8 #[47, 55, 314, 68, 94, 128, 158, 195]), (136, .aload_n 0), (137, .iload_n 3), (138, .invokevirtual 345), (141, .goto 272), (144, .aload_n 0), (145, .dup), (146, .getfield 336), (149, .iconst 1), (150, .isub), (151, .putfield 336), (154, .goto 259), (157, .aload_n 0), (158, .getfield 78), (161, .aload_n 0), (162, .getfield 324), (165, .aload_n 0), (166, .getfield 348), (169, .iastore), (170, .aload_n 0), (171, .dup), (172, .getfield 324), (175, .iconst 1), (176, .iadd), (177, .putfield 324), (180, .goto 233), (183, .aload_n 0), (184, .dup), (185, .getfield 324)]
def tb_I_190_2 : List (Nat × Instr) := [(188, .iconst 1), (189, .isub), (190, .putfield 324), (193, .aload_n 0), (194, .iload_n 3), (195, .aload_n 0), (196, .getfield 78), (199, .aload_n 0), (200, .getfield 324), (203, .iaload), (204, .aload_n 0), (205, .getfield 348), (208, .invokestatic 351), (211, .putfield 348), (214, .goto 199), (217, .aload_n 0), (218, .iconst 1), (219, .aload_n 0), (220, .getfield 348), (223, .ifCond .ne 12), (226, .aload_n 0), (227, .getfield 45), (230, .iload_n 3), (231, .iaload), (232, .goto 9), (235, .aload_n 0), (236, .getfield 42), (239, .iload_n 3), (240, .iaload), (241, .invokevirtual 226), (244, .goto 169), (247, .aload_n 0), (248, .getfield 81), (251, .bipush 16), (253, .aload_n 0), (254, .getfield 327), (257, .imul), (258, .aload_n 0), (259, .getfield 45), (262, .iload_n 3)]
def tb_I_190_3 : List (Nat × Instr) := [(263, .iaload), (264, .iadd), (265, .aload_n 0), (266, .getfield 348), (269, .iastore), (270, .aload_n 0), (271, .iconst 1), (272, .aload_n 0), (273, .getfield 42), (276, .iload_n 3), (277, .iaload), (278, .invokevirtual 226), (281, .goto 132), (284, .aload_n 0), (285, .dup), (286, .getfield 327), (289, .iconst 1), (290, .iadd), (291, .putfield 327), (294, .aload_n 0), (295, .dup), (296, .getfield 324), (299, .aload_n 0), (300, .getfield 42), (303, .iload_n 3), (304, .iaload), (305, .isub), (306, .putfield 324), (309, .iconst 0), (310, .istore 4), (312, .iload 4), (314, .aload_n 0), (315, .getfield 42), (318, .iload_n 3), (319, .iaload), (320, .if_icmp .ge 36), (323, .aload_n 0), (324, .getfield 81), (327, .bipush 16), (329, .aload_n 0)]
def tb_I_190_4 : List (Nat × Instr) := [(330, .getfield 327), (333, .imul), (334, .iload 4), (336, .iadd), (337, .aload_n 0), (338, .getfield 78), (341, .aload_n 0), (342, .getfield 324), (345, .iload 4), (347, .iadd), (348, .iaload), (349, .iastore), (350, .iinc 4 1), (353, .goto (-41)), (356, .aload_n 0), (357, .bipush 9), (359, .iload_n 3), (360, .invokevirtual 226), (363, .aload_n 0), (364, .iconst 1), (365, .iload_n 3), (366, .sipush 3004), (369, .if_icmp .ge 17), (372, .aload_n 0), (373, .getfield 27), (376, .aload_n 0), (377, .getfield 45), (380, .iload_n 3), (381, .iaload), (382, .iaload), (383, .goto 14), (386, .aload_n 0), (387, .getfield 93), (390, .aload_n 0), (391, .getfield 45), (394, .iload_n 3), (395, .iaload), (396, .iaload), (397, .invokevirtual 226), (400, .goto 13)]
def tb_I_190_5 : List (Nat × Instr) := [(403, .aload_n 0), (404, .dup), (405, .getfield 327), (408, .iconst 1), (409, .isub), (410, .putfield 327), (413, .goto (-367)), (416, .aload_n 0), (417, .getfield 342), (420, .ifCond .ne 7), (423, .iconst 1), (424, .goto 7), (427, .aload_n 0), (428, .getfield 342), (431, .ireturn)]
/-- SpecialiserModel.work(I)V -/
def tb_I_191_0 : List (Nat × Instr) := [(0, .aload_n 0), (1, .aload_n 0), (2, .getfield 330), (5, .aload_n 0), (6, .getfield 333), (9, .if_icmp .ne 7), (12, .iconst 2), (13, .goto 18), (16, .aload_n 0), (17, .getfield 336), (20, .sipush 160), (23, .if_icmp .ne 7), (26, .iconst 3), (27, .goto 4), (30, .iconst 0), (31, .putfield 342), (34, .aload_n 0), (35, .getfield 342), (38, .ifCond .eq 4), (41, .return_), (42, .aload_n 0), (43, .dup), (44, .getfield 330), (47, .iconst 1), (48, .iadd), (49, .putfield 330), (52, .aload_n 0), (53, .dup), (54, .getfield 336), (57, .iconst 1), (58, .iadd), (59, .putfield 336), (62, .aload_n 0), (63, .aload_n 0), (64, .getfield 336), (67, .aload_n 0), (68, .getfield 339), (71, .if_icmp .le 10), (74, .aload_n 0), (75, .getfield 336)]
def tb_I_191_1 : List (Nat × Instr) := [(78, .goto 7), (81, .aload_n 0), (82, .getfield 339), (85, .putfield 339), (88, .aload_n 0), (89, .iconst 2), (90, .iconst 0), (91, .invokevirtual 226), (94, .aload_n 0), (95, .getfield 36), (98, .iload_n 1), (99, .iaload), (100, .tableswitch 167 1 7 #[83, 125, 146, 167, 44, 167, 57]), (144, .aload_n 0), (145, .aload_n 0), (146, .getfield 39), (149, .iload_n 1), (150, .iaload), (151, .putfield 348), (154, .goto 163), (157, .aload_n 0), (158, .aload_n 0), (159, .getfield 81), (162, .bipush 16), (164, .aload_n 0), (165, .getfield 327), (168, .imul), (169, .aload_n 0), (170, .getfield 39), (173, .iload_n 1), (174, .iaload), (175, .iadd), (176, .iaload), (177, .putfield 348), (180, .goto 137), (183, .aload_n 0), (184, .iconst 5), (185, .aload_n 0), (186, .getfield 45), (189, .iload_n 1)]
def tb_I_191_2 : List (Nat × Instr) := [(190, .iaload), (191, .invokevirtual 226), (194, .aload_n 0), (195, .iconst 1), (196, .aload_n 0), (197, .getfield 42), (200, .iload_n 1), (201, .iaload), (202, .invokevirtual 226), (205, .aload_n 0), (206, .iconst 4), (207, .iconst 0), (208, .invokevirtual 226), (211, .aload_n 0), (212, .iconst 1), (213, .aload_n 0), (214, .getfield 39), (217, .iload_n 1), (218, .iaload), (219, .invokevirtual 226), (222, .goto 95), (225, .aload_n 0), (226, .bipush 6), (228, .iload_n 1), (229, .invokevirtual 226), (232, .aload_n 0), (233, .iconst 1), (234, .aload_n 0), (235, .getfield 39), (238, .iload_n 1), (239, .iaload), (240, .invokevirtual 226), (243, .goto 74), (246, .aload_n 0), (247, .bipush 7), (249, .iload_n 1), (250, .invokevirtual 226), (253, .aload_n 0), (254, .iconst 1), (255, .aload_n 0)]
def tb_I_191_3 : List (Nat × Instr) := [(256, .getfield 39), (259, .iload_n 1), (260, .iaload), (261, .invokevirtual 226), (264, .goto 53), (267, .aload_n 0), (268, .bipush 8), (270, .iload_n 1), (271, .invokevirtual 226), (274, .aload_n 0), (275, .getfield 42), (278, .iload_n 1), (279, .iaload), (280, .iconst 1), (281, .isub), (282, .istore_n 2), (283, .iload_n 2), (284, .ifCond .lt 33), (287, .aload_n 0), (288, .iconst 4), (289, .iconst 0), (290, .invokevirtual 226), (293, .aload_n 0), (294, .iconst 1), (295, .aload_n 0), (296, .getfield 54), (299, .aload_n 0), (300, .getfield 39), (303, .iload_n 1), (304, .iaload), (305, .iload_n 2), (306, .iadd), (307, .iaload), (308, .invokevirtual 226), (311, .iinc 2 (-1)), (314, .goto (-31)), (317, .return_)]
/-- SpecialiserModel.version(II)I -/
def tb_I_192_0 : List (Nat × Instr) := [(0, .aload_n 0), (1, .iload_n 1), (2, .i2l), (3, .lconst 0), (4, .aload_n 0), (5, .getfield 304), (8, .iconst 1), (9, .isub), (10, .i2l), (11, .invokestatic 155), (14, .ifCond .eq 19), (17, .iload_n 2), (18, .i2l), (19, .lconst 0), (20, .ldc2_w 429), (23, .invokestatic 155), (26, .ifCond .eq 7), (29, .iconst 0), (30, .goto 4), (33, .iconst 1), (34, .putfield 149), (37, .aload_n 0), (38, .getfield 149), (41, .ifCond .le 5), (44, .iconst 0), (45, .ireturn), (46, .bipush 80), (48, .aload_n 0), (49, .getfield 423), (52, .imul), (53, .iload_n 1), (54, .iadd), (55, .istore_n 3), (56, .iload_n 2), (57, .tableswitch 97 0 5 #[39, 49, 56, 62, 69, 76]), (96, .aload_n 0), (97, .getfield 84), (100, .iload_n 3), (101, .iaload), (102, .bipush 48)]
def tb_I_192_1 : List (Nat × Instr) := [(104, .irem), (105, .ireturn), (106, .aload_n 0), (107, .getfield 87), (110, .iload_n 3), (111, .iaload), (112, .ireturn), (113, .aload_n 0), (114, .iload_n 3), (115, .invokevirtual 431), (118, .ireturn), (119, .aload_n 0), (120, .getfield 96), (123, .iload_n 3), (124, .iaload), (125, .ireturn), (126, .aload_n 0), (127, .getfield 99), (130, .iload_n 3), (131, .iaload), (132, .ireturn), (133, .aload_n 0), (134, .getfield 36), (137, .aload_n 0), (138, .getfield 93), (141, .iload_n 3), (142, .iaload), (143, .iaload), (144, .iconst 5), (145, .if_icmp .ne 7), (148, .iconst 1), (149, .goto 4), (152, .iconst 0), (153, .ireturn), (154, .aload_n 0), (155, .getfield 90), (158, .iconst 4), (159, .iload_n 3), (160, .imul), (161, .iload_n 2)]
def tb_I_192_2 : List (Nat × Instr) := [(162, .iadd), (163, .bipush 6), (165, .isub), (166, .iaload), (167, .ireturn)]
/-- SpecialiserModel.leftOf(I)I -/
def tb_I_193_0 : List (Nat × Instr) := [(0, .aload_n 0), (1, .getfield 21), (4, .aload_n 0), (5, .getfield 84), (8, .iload_n 1), (9, .iaload), (10, .iaload), (11, .istore_n 2), (12, .iconst 0), (13, .istore_n 3), (14, .iload_n 3), (15, .iconst 4), (16, .if_icmp .ge 22), (19, .iload_n 2), (20, .aload_n 0), (21, .getfield 87), (24, .iload_n 1), (25, .iaload), (26, .iload_n 3), (27, .ishr), (28, .iconst 1), (29, .iand), (30, .isub), (31, .istore_n 2), (32, .iinc 3 1), (35, .goto (-21)), (38, .iload_n 2), (39, .ireturn)]
/-- SpecialiserModel.told(I)I -/
def tb_I_194_0 : List (Nat × Instr) := [(0, .aload_n 0), (1, .iload_n 1), (2, .i2l), (3, .lconst 0), (4, .ldc2_w 434), (7, .invokestatic 155), (10, .ifCond .eq 7), (13, .iconst 0), (14, .goto 4), (17, .iconst 1), (18, .putfield 149), (21, .aload_n 0), (22, .getfield 149), (25, .ifCond .le 5), (28, .iconst 0), (29, .ireturn), (30, .iload_n 1), (31, .ifCond .ne 10), (34, .aload_n 0), (35, .getfield 304), (38, .goto 80), (41, .iload_n 1), (42, .iconst 1), (43, .if_icmp .ne 10), (46, .aload_n 0), (47, .getfield 307), (50, .goto 68), (53, .iload_n 1), (54, .iconst 2), (55, .if_icmp .ne 10), (58, .aload_n 0), (59, .getfield 310), (62, .goto 56), (65, .iload_n 1), (66, .iconst 3), (67, .if_icmp .ne 10), (70, .aload_n 0), (71, .getfield 313), (74, .goto 44), (77, .iload_n 1)]
def tb_I_194_1 : List (Nat × Instr) := [(78, .iconst 4), (79, .if_icmp .ne 10), (82, .aload_n 0), (83, .getfield 316), (86, .goto 32), (89, .iload_n 1), (90, .iconst 5), (91, .if_icmp .ne 10), (94, .aload_n 0), (95, .invokevirtual 420), (98, .goto 20), (101, .iload_n 1), (102, .bipush 6), (104, .if_icmp .ne 10), (107, .aload_n 0), (108, .getfield 436), (111, .goto 7), (114, .aload_n 0), (115, .getfield 152), (118, .ireturn)]
/-- SpecialiserModel.print()I -/
def tb_I_195_0 : List (Nat × Instr) := [(0, .aload_n 0), (1, .aload_n 0), (2, .getfield 304), (5, .ifCond .ne 7), (8, .iconst 1), (9, .goto 4), (12, .iconst 0), (13, .putfield 149), (16, .aload_n 0), (17, .getfield 149), (20, .ifCond .le 5), (23, .iconst 0), (24, .ireturn), (25, .aload_n 0), (26, .iconst 0), (27, .putfield 439), (30, .iconst 0), (31, .istore_n 1), (32, .iload_n 1), (33, .aload_n 0), (34, .getfield 304), (37, .if_icmp .ge 209), (40, .aload_n 0), (41, .getfield 439), (44, .ldc 133), (46, .if_icmp .gt 200), (49, .bipush 80), (51, .aload_n 0), (52, .getfield 423), (55, .imul), (56, .iload_n 1), (57, .iadd), (58, .istore_n 2), (59, .aload_n 0), (60, .aload_n 0), (61, .iload_n 2), (62, .invokevirtual 431), (65, .putfield 463), (68, .aload_n 0), (69, .iconst 0)]
def tb_I_195_1 : List (Nat × Instr) := [(70, .putfield 471), (73, .aload_n 0), (74, .bipush 118), (76, .invokevirtual 444), (79, .aload_n 0), (80, .iload_n 1), (81, .invokevirtual 449), (84, .aload_n 0), (85, .bipush 40), (87, .invokevirtual 444), (90, .iconst 0), (91, .istore_n 3), (92, .iload_n 3), (93, .aload_n 0), (94, .getfield 463), (97, .if_icmp .ge 36), (100, .iload_n 3), (101, .ifCond .le 18), (104, .aload_n 0), (105, .iconst 0), (106, .iconst 0), (107, .iconst 0), (108, .iconst 0), (109, .bipush 44), (111, .bipush 32), (113, .invokestatic 452), (116, .invokevirtual 456), (119, .aload_n 0), (120, .bipush 97), (122, .iload_n 3), (123, .iadd), (124, .invokevirtual 444), (127, .iinc 3 1), (130, .goto (-38)), (133, .aload_n 0), (134, .iconst 0), (135, .iconst 0), (136, .bipush 41), (138, .bipush 32), (140, .bipush 61)]
def tb_I_195_2 : List (Nat × Instr) := [(142, .bipush 32), (144, .invokestatic 452), (147, .invokevirtual 456), (150, .aload_n 0), (151, .iconst 0), (152, .putfield 371), (155, .aload_n 0), (156, .iconst 2), (157, .aload_n 0), (158, .getfield 93), (161, .iload_n 2), (162, .iaload), (163, .invokevirtual 377), (166, .aload_n 0), (167, .getfield 371), (170, .ifCond .le 58), (173, .aload_n 0), (174, .dup), (175, .getfield 371), (178, .iconst 1), (179, .isub), (180, .putfield 371), (183, .aload_n 0), (184, .getfield 102), (187, .aload_n 0), (188, .getfield 371), (191, .iaload), (192, .iconst 1), (193, .if_icmp .ne 19), (196, .aload_n 0), (197, .aload_n 0), (198, .getfield 140), (201, .aload_n 0), (202, .getfield 371), (205, .laload), (206, .invokevirtual 456), (209, .goto (-43)), (212, .aload_n 0), (213, .aload_n 0), (214, .getfield 105)]
def tb_I_195_3 : List (Nat × Instr) := [(217, .aload_n 0), (218, .getfield 371), (221, .iaload), (222, .invokevirtual 474), (225, .goto (-59)), (228, .aload_n 0), (229, .bipush 59), (231, .invokevirtual 444), (234, .aload_n 0), (235, .bipush 10), (237, .invokevirtual 444), (240, .iinc 1 1), (243, .goto (-211)), (246, .aload_n 0), (247, .getfield 439), (250, .ldc 133), (252, .if_icmp .le 10), (255, .aload_n 0), (256, .iconst 2), (257, .putfield 149), (260, .iconst 0), (261, .ireturn), (262, .iconst 0), (263, .istore_n 1), (264, .iload_n 1), (265, .aload_n 0), (266, .getfield 439), (269, .if_icmp .ge 21), (272, .aload_n 0), (273, .getfield 134), (276, .iload_n 1), (277, .aload_n 0), (278, .getfield 137), (281, .iload_n 1), (282, .iaload), (283, .iastore), (284, .iinc 1 1), (287, .goto (-23)), (290, .aload_n 0), (291, .aload_n 0)]
def tb_I_195_4 : List (Nat × Instr) := [(292, .getfield 439), (295, .putfield 477), (298, .aload_n 0), (299, .getfield 477), (302, .ireturn)]
/-- SpecialiserModel.lay(I)V -/
def tb_I_196_0 : List (Nat × Instr) := [(0, .aload_n 0), (1, .getfield 439), (4, .ldc 133), (6, .if_icmp .ge 13), (9, .aload_n 0), (10, .getfield 137), (13, .aload_n 0), (14, .getfield 439), (17, .iload_n 1), (18, .iastore), (19, .aload_n 0), (20, .dup), (21, .getfield 439), (24, .iconst 1), (25, .iadd), (26, .putfield 439), (29, .return_)]
/-- SpecialiserModel.figures(I)V -/
def tb_I_197_0 : List (Nat × Instr) := [(0, .iconst 1), (1, .istore_n 2), (2, .iload_n 1), (3, .iload_n 2), (4, .idiv), (5, .bipush 9), (7, .if_icmp .le 11), (10, .iload_n 2), (11, .bipush 10), (13, .imul), (14, .istore_n 2), (15, .goto (-13)), (18, .iload_n 2), (19, .ifCond .le 24), (22, .aload_n 0), (23, .bipush 48), (25, .iload_n 1), (26, .iload_n 2), (27, .idiv), (28, .bipush 10), (30, .irem), (31, .iadd), (32, .invokevirtual 444), (35, .iload_n 2), (36, .bipush 10), (38, .idiv), (39, .istore_n 2), (40, .goto (-22)), (43, .return_)]
/-- SpecialiserModel.eight(IIIIII)J -/
def tb_I_198_0 : List (Nat × Instr) := [(0, .iload_n 0), (1, .i2l), (2, .bipush 40), (4, .lshl), (5, .iload_n 1), (6, .i2l), (7, .bipush 32), (9, .lshl), (10, .lor), (11, .iload_n 2), (12, .i2l), (13, .bipush 24), (15, .lshl), (16, .lor), (17, .iload_n 3), (18, .bipush 16), (20, .ishl), (21, .i2l), (22, .lor), (23, .iload 4), (25, .bipush 8), (27, .ishl), (28, .i2l), (29, .lor), (30, .iload 5), (32, .i2l), (33, .lor), (34, .lreturn)]
/-- SpecialiserModel.layAll(J)V -/
def tb_I_199_0 : List (Nat × Instr) := [(0, .bipush 56), (2, .istore_n 3), (3, .iload_n 3), (4, .ifCond .lt 30), (7, .lload_n 1), (8, .iload_n 3), (9, .lshr), (10, .ldc2_w 442), (13, .land), (14, .l2i), (15, .istore 4), (17, .iload 4), (19, .ifCond .eq 9), (22, .aload_n 0), (23, .iload 4), (25, .invokevirtual 444), (28, .iinc 3 (-8)), (31, .goto (-28)), (34, .return_)]
/-- SpecialiserModel.onExpression(I)V -/
def tb_I_200_0 : List (Nat × Instr) := [(0, .aload_n 0), (1, .getfield 36), (4, .iload_n 1), (5, .iaload), (6, .tableswitch 439 1 7 #[108, 224, 322, 439, 42, 439, 55]), (48, .aload_n 0), (49, .aload_n 0), (50, .getfield 39), (53, .iload_n 1), (54, .iaload), (55, .invokevirtual 460), (58, .goto 475), (61, .aload_n 0), (62, .getfield 39), (65, .iload_n 1), (66, .iaload), (67, .aload_n 0), (68, .getfield 463), (71, .if_icmp .ge 19), (74, .aload_n 0), (75, .bipush 97), (77, .aload_n 0), (78, .getfield 39), (81, .iload_n 1), (82, .iaload), (83, .iadd), (84, .invokevirtual 444), (87, .goto 446), (90, .aload_n 0), (91, .bipush 120), (93, .invokevirtual 444), (96, .aload_n 0), (97, .aload_n 0), (98, .getfield 143), (101, .aload_n 0), (102, .getfield 39), (105, .iload_n 1), (106, .iaload), (107, .iaload), (108, .invokevirtual 449)]
def tb_I_200_1 : List (Nat × Instr) := [(111, .goto 422), (114, .aload_n 0), (115, .getfield 45), (118, .iload_n 1), (119, .iaload), (120, .istore_n 2), (121, .aload_n 0), (122, .bipush 40), (124, .invokevirtual 444), (127, .aload_n 0), (128, .ldc2_w 466), (131, .invokevirtual 468), (134, .aload_n 0), (135, .iconst 2), (136, .aload_n 0), (137, .getfield 42), (140, .iload_n 1), (141, .iaload), (142, .invokevirtual 377), (145, .aload_n 0), (146, .iload_n 2), (147, .bipush 12), (149, .if_icmp .ne 19), (152, .iconst 0), (153, .iconst 0), (154, .bipush 32), (156, .bipush 61), (158, .bipush 61), (160, .bipush 32), (162, .invokestatic 452), (165, .goto 48), (168, .iconst 0), (169, .iconst 0), (170, .iconst 0), (171, .bipush 32), (173, .iload_n 2), (174, .bipush 19), (176, .if_icmp .ne 8), (179, .bipush 43), (181, .goto 27)]
def tb_I_200_2 : List (Nat × Instr) := [(184, .iload_n 2), (185, .bipush 20), (187, .if_icmp .ne 8), (190, .bipush 45), (192, .goto 16), (195, .iload_n 2), (196, .bipush 21), (198, .if_icmp .ne 8), (201, .bipush 42), (203, .goto 5), (206, .bipush 60), (208, .bipush 32), (210, .invokestatic 452), (213, .invokevirtual 468), (216, .aload_n 0), (217, .iconst 2), (218, .aload_n 0), (219, .getfield 39), (222, .iload_n 1), (223, .iaload), (224, .invokevirtual 377), (227, .goto 306), (230, .aload_n 0), (231, .iconst 0), (232, .iconst 0), (233, .bipush 40), (235, .bipush 105), (237, .bipush 102), (239, .bipush 32), (241, .invokestatic 452), (244, .invokevirtual 456), (247, .aload_n 0), (248, .ldc2_w 466), (251, .invokevirtual 468), (254, .aload_n 0), (255, .iconst 2), (256, .aload_n 0), (257, .getfield 45), (260, .iload_n 1), (261, .iaload)]
def tb_I_200_3 : List (Nat × Instr) := [(262, .invokevirtual 377), (265, .aload_n 0), (266, .bipush 32), (268, .bipush 101), (270, .bipush 108), (272, .bipush 115), (274, .bipush 101), (276, .bipush 32), (278, .invokestatic 452), (281, .invokevirtual 468), (284, .aload_n 0), (285, .iconst 2), (286, .aload_n 0), (287, .getfield 42), (290, .iload_n 1), (291, .iaload), (292, .invokevirtual 377), (295, .aload_n 0), (296, .bipush 32), (298, .bipush 116), (300, .bipush 104), (302, .bipush 101), (304, .bipush 110), (306, .bipush 32), (308, .invokestatic 452), (311, .invokevirtual 468), (314, .aload_n 0), (315, .iconst 2), (316, .aload_n 0), (317, .getfield 39), (320, .iload_n 1), (321, .iaload), (322, .invokevirtual 377), (325, .goto 208), (328, .aload_n 0), (329, .getfield 143), (332, .aload_n 0), (333, .getfield 45), (336, .iload_n 1), (337, .iaload)]
def tb_I_200_4 : List (Nat × Instr) := [(338, .aload_n 0), (339, .getfield 471), (342, .iastore), (343, .aload_n 0), (344, .bipush 40), (346, .bipush 108), (348, .bipush 101), (350, .bipush 116), (352, .bipush 32), (354, .bipush 120), (356, .invokestatic 452), (359, .invokevirtual 456), (362, .aload_n 0), (363, .aload_n 0), (364, .getfield 471), (367, .invokevirtual 449), (370, .aload_n 0), (371, .dup), (372, .getfield 471), (375, .iconst 1), (376, .iadd), (377, .putfield 471), (380, .aload_n 0), (381, .iconst 0), (382, .iconst 0), (383, .iconst 0), (384, .bipush 32), (386, .bipush 61), (388, .bipush 32), (390, .invokestatic 452), (393, .invokevirtual 456), (396, .aload_n 0), (397, .ldc2_w 466), (400, .invokevirtual 468), (403, .aload_n 0), (404, .iconst 2), (405, .aload_n 0), (406, .getfield 42), (409, .iload_n 1), (410, .iaload)]
def tb_I_200_5 : List (Nat × Instr) := [(411, .invokevirtual 377), (414, .aload_n 0), (415, .iconst 0), (416, .iconst 0), (417, .bipush 32), (419, .bipush 105), (421, .bipush 110), (423, .bipush 32), (425, .invokestatic 452), (428, .invokevirtual 468), (431, .aload_n 0), (432, .iconst 2), (433, .aload_n 0), (434, .getfield 39), (437, .iload_n 1), (438, .iaload), (439, .invokevirtual 377), (442, .goto 91), (445, .aload_n 0), (446, .bipush 118), (448, .invokevirtual 444), (451, .aload_n 0), (452, .aload_n 0), (453, .getfield 45), (456, .iload_n 1), (457, .iaload), (458, .bipush 80), (460, .irem), (461, .invokevirtual 449), (464, .aload_n 0), (465, .bipush 40), (467, .invokevirtual 444), (470, .aload_n 0), (471, .ldc2_w 466), (474, .invokevirtual 468), (477, .aload_n 0), (478, .getfield 42), (481, .iload_n 1), (482, .iaload), (483, .iconst 1)]
def tb_I_200_6 : List (Nat × Instr) := [(484, .isub), (485, .istore_n 3), (486, .iload_n 3), (487, .ifCond .lt 46), (490, .aload_n 0), (491, .iconst 2), (492, .aload_n 0), (493, .getfield 54), (496, .aload_n 0), (497, .getfield 39), (500, .iload_n 1), (501, .iaload), (502, .iload_n 3), (503, .iadd), (504, .iaload), (505, .invokevirtual 377), (508, .iload_n 3), (509, .ifCond .le 18), (512, .aload_n 0), (513, .iconst 0), (514, .iconst 0), (515, .iconst 0), (516, .iconst 0), (517, .bipush 44), (519, .bipush 32), (521, .invokestatic 452), (524, .invokevirtual 468), (527, .iinc 3 (-1)), (530, .goto (-44)), (533, .return_)]
/-- SpecialiserModel.layNumber(I)V -/
def tb_I_201_0 : List (Nat × Instr) := [(0, .iload_n 1), (1, .ldc_w 447), (4, .if_icmp .ne 48), (7, .aload_n 0), (8, .bipush 40), (10, .invokevirtual 444), (13, .aload_n 0), (14, .bipush 45), (16, .invokevirtual 444), (19, .aload_n 0), (20, .ldc_w 448), (23, .invokevirtual 449), (26, .aload_n 0), (27, .iconst 0), (28, .iconst 0), (29, .bipush 32), (31, .bipush 45), (33, .bipush 32), (35, .bipush 49), (37, .invokestatic 452), (40, .invokevirtual 456), (43, .aload_n 0), (44, .bipush 41), (46, .invokevirtual 444), (49, .goto 27), (52, .iload_n 1), (53, .ifCond .ge 9), (56, .aload_n 0), (57, .bipush 45), (59, .invokevirtual 444), (62, .aload_n 0), (63, .iload_n 1), (64, .ifCond .ge 8), (67, .iload_n 1), (68, .ineg), (69, .goto 4), (72, .iload_n 1), (73, .invokevirtual 449), (76, .return_)]
/-- SpecialiserModel.bytesLater(J)V -/
def tb_I_202_0 : List (Nat × Instr) := [(0, .aload_n 0), (1, .getfield 371), (4, .sipush 4000), (7, .if_icmp .ge 19), (10, .aload_n 0), (11, .getfield 140), (14, .aload_n 0), (15, .getfield 371), (18, .lload_n 1), (19, .lastore), (20, .aload_n 0), (21, .iconst 1), (22, .iconst 0), (23, .invokevirtual 377), (26, .return_)]
/-- SpecialiserModel.out(I)I -/
def tb_I_203_0 : List (Nat × Instr) := [(0, .aload_n 0), (1, .iload_n 1), (2, .i2l), (3, .lconst 0), (4, .aload_n 0), (5, .getfield 477), (8, .iconst 1), (9, .isub), (10, .i2l), (11, .invokestatic 155), (14, .ifCond .eq 7), (17, .iconst 0), (18, .goto 4), (21, .iconst 1), (22, .putfield 149), (25, .aload_n 0), (26, .getfield 149), (29, .ifCond .le 7), (32, .iconst 0), (33, .goto 9), (36, .aload_n 0), (37, .getfield 134), (40, .iload_n 1), (41, .iaload), (42, .ireturn)]
/-- SpecialiserModel.back()I -/
def tb_I_204_0 : List (Nat × Instr) := [(0, .aload_n 0), (1, .aload_n 0), (2, .getfield 477), (5, .sipush 8000), (8, .if_icmp .le 7), (11, .iconst 1), (12, .goto 4), (15, .iconst 0), (16, .putfield 149), (19, .aload_n 0), (20, .getfield 149), (23, .ifCond .le 5), (26, .iconst 0), (27, .ireturn), (28, .iconst 0), (29, .istore_n 1), (30, .iload_n 1), (31, .aload_n 0), (32, .getfield 477), (35, .if_icmp .ge 21), (38, .aload_n 0), (39, .getfield 7), (42, .iload_n 1), (43, .aload_n 0), (44, .getfield 134), (47, .iload_n 1), (48, .iaload), (49, .iastore), (50, .iinc 1 1), (53, .goto (-23)), (56, .aload_n 0), (57, .aload_n 0), (58, .getfield 477), (61, .putfield 152), (64, .aload_n 0), (65, .getfield 152), (68, .ireturn)]
/-- SpecialiserModel.give(I)I -/
def tb_I_205_0 : List (Nat × Instr) := [(0, .aload_n 0), (1, .aload_n 0), (2, .getfield 436), (5, .iconst 4), (6, .if_icmp .ne 7), (9, .iconst 1), (10, .goto 4), (13, .iconst 0), (14, .putfield 149), (17, .aload_n 0), (18, .getfield 149), (21, .ifCond .le 5), (24, .iconst 0), (25, .ireturn), (26, .aload_n 0), (27, .getfield 146), (30, .aload_n 0), (31, .getfield 436), (34, .iload_n 1), (35, .iastore), (36, .aload_n 0), (37, .dup), (38, .getfield 436), (41, .iconst 1), (42, .iadd), (43, .putfield 436), (46, .aload_n 0), (47, .getfield 436), (50, .ireturn)]
/-- SpecialiserModel.run(ZII)I -/
def tb_I_206_0 : List (Nat × Instr) := [(0, .iload_n 1), (1, .ifCond .eq 19), (4, .iload_n 2), (5, .i2l), (6, .lconst 0), (7, .aload_n 0), (8, .getfield 304), (11, .iconst 1), (12, .isub), (13, .i2l), (14, .invokestatic 155), (17, .goto 8), (20, .aload_n 0), (21, .iload_n 2), (22, .invokevirtual 319), (25, .istore 4), (27, .iload 4), (29, .ifCond .ne 7), (32, .iconst 0), (33, .goto 28), (36, .iload_n 1), (37, .ifCond .eq 15), (40, .bipush 80), (42, .aload_n 0), (43, .getfield 423), (46, .imul), (47, .iload_n 2), (48, .iadd), (49, .goto 12), (52, .bipush 48), (54, .aload_n 0), (55, .getfield 295), (58, .imul), (59, .iload_n 2), (60, .iadd), (61, .istore 5), (63, .iload 4), (65, .ifCond .ne 7), (68, .iconst 0), (69, .goto 23)]
def tb_I_206_1 : List (Nat × Instr) := [(72, .iload_n 1), (73, .ifCond .eq 12), (76, .aload_n 0), (77, .iload 5), (79, .invokevirtual 431), (82, .goto 10), (85, .aload_n 0), (86, .getfield 21), (89, .iload 5), (91, .iaload), (92, .istore 6), (94, .aload_n 0), (95, .aload_n 0), (96, .getfield 291), (99, .ifCond .eq 14), (102, .iload_n 1), (103, .ifCond .eq 14), (106, .aload_n 0), (107, .getfield 304), (110, .ifCond .ne 7), (113, .iconst 1), (114, .goto 38), (117, .iload 4), (119, .ifCond .ne 7), (122, .iconst 2), (123, .goto 29), (126, .iload_n 3), (127, .i2l), (128, .lconst 0), (129, .ldc2_w 480), (132, .invokestatic 155), (135, .ifCond .eq 12), (138, .aload_n 0), (139, .getfield 436), (142, .iload 6), (144, .if_icmp .eq 7), (147, .iconst 3), (148, .goto 4), (151, .iconst 0), (152, .putfield 149)]
def tb_I_206_2 : List (Nat × Instr) := [(155, .aload_n 0), (156, .getfield 149), (159, .ifCond .le 5), (162, .iconst 0), (163, .ireturn), (164, .iconst 0), (165, .istore 7), (167, .iload 7), (169, .aload_n 0), (170, .getfield 436), (173, .if_icmp .ge 23), (176, .aload_n 0), (177, .getfield 81), (180, .iload 7), (182, .aload_n 0), (183, .getfield 146), (186, .iload 7), (188, .iaload), (189, .iastore), (190, .iinc 7 1), (193, .goto (-26)), (196, .aload_n 0), (197, .iconst 0), (198, .putfield 436), (201, .aload_n 0), (202, .iload_n 1), (203, .ifCond .eq 13), (206, .aload_n 0), (207, .getfield 93), (210, .iload 5), (212, .iaload), (213, .goto 10), (216, .aload_n 0), (217, .getfield 27), (220, .iload 5), (222, .iaload), (223, .iload_n 3), (224, .invokevirtual 405), (227, .istore 7), (229, .aload_n 0)]
def tb_I_206_3 : List (Nat × Instr) := [(230, .iload 7), (232, .iconst 1), (233, .if_icmp .ne 10), (236, .aload_n 0), (237, .getfield 348), (240, .goto 4), (243, .iconst 0), (244, .putfield 482), (247, .aload_n 0), (248, .aload_n 0), (249, .getfield 330), (252, .putfield 485), (255, .aload_n 0), (256, .aload_n 0), (257, .getfield 339), (260, .putfield 488), (263, .iload 7), (265, .ireturn)]
/-- SpecialiserModel.ran(I)I -/
def tb_I_207_0 : List (Nat × Instr) := [(0, .aload_n 0), (1, .iload_n 1), (2, .i2l), (3, .lconst 0), (4, .ldc2_w 322), (7, .invokestatic 155), (10, .ifCond .eq 7), (13, .iconst 0), (14, .goto 4), (17, .iconst 1), (18, .putfield 149), (21, .aload_n 0), (22, .getfield 149), (25, .ifCond .le 7), (28, .iconst 0), (29, .goto 30), (32, .iload_n 1), (33, .ifCond .ne 10), (36, .aload_n 0), (37, .getfield 482), (40, .goto 19), (43, .iload_n 1), (44, .iconst 1), (45, .if_icmp .ne 10), (48, .aload_n 0), (49, .getfield 485), (52, .goto 7), (55, .aload_n 0), (56, .getfield 488), (59, .ireturn)]
/-- SpecialiserLaw.feed(LSpecialiser;IIIII[J)I -/
def tb_I_208_0 : List (Nat × Instr) := [(0, .aload 6), (2, .iconst 0), (3, .aload_n 0), (4, .iload_n 1), (5, .iload_n 2), (6, .iload_n 3), (7, .iload 4), (9, .iload 5), (11, .invokevirtual 7), (14, .i2l), (15, .lastore), (16, .goto 7), (19, .astore 7), (21, .iconst 1), (22, .ireturn), (23, .iconst 0), (24, .ireturn)]
/-- SpecialiserLaw.cut(LSpecialiser;I[J)I -/
def tb_I_209_0 : List (Nat × Instr) := [(0, .aload_n 2), (1, .iconst 0), (2, .aload_n 0), (3, .iload_n 1), (4, .invokevirtual 15), (7, .i2l), (8, .lastore), (9, .goto 6), (12, .astore_n 3), (13, .iconst 1), (14, .ireturn), (15, .iconst 0), (16, .ireturn)]
/-- SpecialiserLaw.function(LSpecialiser;II[J)I -/
def tb_I_210_0 : List (Nat × Instr) := [(0, .aload_n 3), (1, .iconst 0), (2, .aload_n 0), (3, .iload_n 1), (4, .iload_n 2), (5, .invokevirtual 21), (8, .i2l), (9, .lastore), (10, .goto 7), (13, .astore 4), (15, .iconst 1), (16, .ireturn), (17, .iconst 0), (18, .ireturn)]
/-- SpecialiserLaw.know(LSpecialiser;II[J)I -/
def tb_I_211_0 : List (Nat × Instr) := [(0, .aload_n 3), (1, .iconst 0), (2, .aload_n 0), (3, .iload_n 1), (4, .iload_n 2), (5, .invokevirtual 27), (8, .i2l), (9, .lastore), (10, .goto 7), (13, .astore 4), (15, .iconst 1), (16, .ireturn), (17, .iconst 0), (18, .ireturn)]
/-- SpecialiserLaw.make(LSpecialiser;I[J)I -/
def tb_I_212_0 : List (Nat × Instr) := [(0, .aload_n 2), (1, .iconst 0), (2, .aload_n 0), (3, .iload_n 1), (4, .invokevirtual 30), (7, .i2l), (8, .lastore), (9, .goto 12), (12, .astore_n 3), (13, .iconst 1), (14, .ireturn), (15, .astore_n 3), (16, .iconst 2), (17, .ireturn), (18, .astore_n 3), (19, .iconst 3), (20, .ireturn), (21, .iconst 0), (22, .ireturn)]
/-- SpecialiserLaw.version(LSpecialiser;II[J)I -/
def tb_I_213_0 : List (Nat × Instr) := [(0, .aload_n 3), (1, .iconst 0), (2, .aload_n 0), (3, .iload_n 1), (4, .iload_n 2), (5, .invokevirtual 35), (8, .i2l), (9, .lastore), (10, .goto 7), (13, .astore 4), (15, .iconst 1), (16, .ireturn), (17, .iconst 0), (18, .ireturn)]
/-- SpecialiserLaw.told(LSpecialiser;I[J)I -/
def tb_I_214_0 : List (Nat × Instr) := [(0, .aload_n 2), (1, .iconst 0), (2, .aload_n 0), (3, .iload_n 1), (4, .invokevirtual 38), (7, .i2l), (8, .lastore), (9, .goto 6), (12, .astore_n 3), (13, .iconst 1), (14, .ireturn), (15, .iconst 0), (16, .ireturn)]
/-- SpecialiserLaw.print(LSpecialiser;[J)I -/
def tb_I_215_0 : List (Nat × Instr) := [(0, .aload_n 1), (1, .iconst 0), (2, .aload_n 0), (3, .invokevirtual 41), (6, .i2l), (7, .lastore), (8, .goto 9), (11, .astore_n 2), (12, .iconst 1), (13, .ireturn), (14, .astore_n 2), (15, .iconst 2), (16, .ireturn), (17, .iconst 0), (18, .ireturn)]
/-- SpecialiserLaw.out(LSpecialiser;I[J)I -/
def tb_I_216_0 : List (Nat × Instr) := [(0, .aload_n 2), (1, .iconst 0), (2, .aload_n 0), (3, .iload_n 1), (4, .invokevirtual 45), (7, .i2l), (8, .lastore), (9, .goto 6), (12, .astore_n 3), (13, .iconst 1), (14, .ireturn), (15, .iconst 0), (16, .ireturn)]
/-- SpecialiserLaw.back(LSpecialiser;[J)I -/
def tb_I_217_0 : List (Nat × Instr) := [(0, .aload_n 1), (1, .iconst 0), (2, .aload_n 0), (3, .invokevirtual 48), (6, .i2l), (7, .lastore), (8, .goto 6), (11, .astore_n 2), (12, .iconst 1), (13, .ireturn), (14, .iconst 0), (15, .ireturn)]
/-- SpecialiserLaw.give(LSpecialiser;I[J)I -/
def tb_I_218_0 : List (Nat × Instr) := [(0, .aload_n 2), (1, .iconst 0), (2, .aload_n 0), (3, .iload_n 1), (4, .invokevirtual 51), (7, .i2l), (8, .lastore), (9, .goto 6), (12, .astore_n 3), (13, .iconst 1), (14, .ireturn), (15, .iconst 0), (16, .ireturn)]
/-- SpecialiserLaw.run(LSpecialiser;ZII[J)I -/
def tb_I_219_0 : List (Nat × Instr) := [(0, .aload 4), (2, .iconst 0), (3, .aload_n 0), (4, .iload_n 1), (5, .iload_n 2), (6, .iload_n 3), (7, .invokevirtual 54), (10, .i2l), (11, .lastore), (12, .goto 15), (15, .astore 5), (17, .iconst 1), (18, .ireturn), (19, .astore 5), (21, .iconst 2), (22, .ireturn), (23, .astore 5), (25, .iconst 3), (26, .ireturn), (27, .iconst 0), (28, .ireturn)]
/-- SpecialiserLaw.ran(LSpecialiser;I[J)I -/
def tb_I_220_0 : List (Nat × Instr) := [(0, .aload_n 2), (1, .iconst 0), (2, .aload_n 0), (3, .iload_n 1), (4, .invokevirtual 58), (7, .i2l), (8, .lastore), (9, .goto 6), (12, .astore_n 3), (13, .iconst 1), (14, .ireturn), (15, .iconst 0), (16, .ireturn)]
def tb_Ils : List (List (Nat × List (Nat × Instr))) := [[(950, tb_I_0_14), (884, tb_I_0_13), (825, tb_I_0_12), (763, tb_I_0_11), (696, tb_I_0_10), (629, tb_I_0_9), (563, tb_I_0_8), (501, tb_I_0_7), (439, tb_I_0_6), (377, tb_I_0_5), (315, tb_I_0_4), (251, tb_I_0_3), (184, tb_I_0_2), (134, tb_I_0_1), (0, tb_I_0_0)], [(249, tb_I_1_3), (168, tb_I_1_2), (84, tb_I_1_1), (0, tb_I_1_0)], [(0, tb_I_2_0)], [(0, tb_I_3_0)], [(0, tb_I_4_0)], [(0, tb_I_5_0)], [(78, tb_I_6_1), (0, tb_I_6_0)], [(75, tb_I_7_1), (0, tb_I_7_0)], [(0, tb_I_8_0)], [(0, tb_I_9_0)], [(88, tb_I_10_1), (0, tb_I_10_0)], [(78, tb_I_11_1), (0, tb_I_11_0)], [(0, tb_I_12_0)], [(0, tb_I_13_0)], [(78, tb_I_14_1), (0, tb_I_14_0)], [(0, tb_I_15_0)], [(0, tb_I_16_0)], [(74, tb_I_17_1), (0, tb_I_17_0)], [(0, tb_I_18_0)], [(0, tb_I_19_0)], [(0, tb_I_20_0)], [(158, tb_I_21_2), (78, tb_I_21_1), (0, tb_I_21_0)], [(0, tb_I_22_0)], [(0, tb_I_23_0)], [(0, tb_I_24_0)], [(0, tb_I_25_0)], [(0, tb_I_26_0)], [(79, tb_I_27_1), (0, tb_I_27_0)], [(0, tb_I_28_0)], [(0, tb_I_29_0)], [(0, tb_I_30_0)], [(155, tb_I_31_2), (74, tb_I_31_1), (0, tb_I_31_0)], [(0, tb_I_32_0)], [(0, tb_I_33_0)], [(0, tb_I_34_0)], [(0, tb_I_35_0)], [(0, tb_I_36_0)], [(0, tb_I_37_0)], [(0, tb_I_38_0)], [(0, tb_I_39_0)], [(0, tb_I_40_0)], [(0, tb_I_41_0)], [(0, tb_I_42_0)], [(0, tb_I_43_0)], [(0, tb_I_44_0)], [(72, tb_I_45_1), (0, tb_I_45_0)], [(70, tb_I_46_1), (0, tb_I_46_0)], [(68, tb_I_47_1), (0, tb_I_47_0)], [(66, tb_I_48_1), (0, tb_I_48_0)], [(0, tb_I_49_0)], [(0, tb_I_50_0)], [(0, tb_I_51_0)], [(112, tb_I_52_1), (0, tb_I_52_0)], [(0, tb_I_53_0)], [(74, tb_I_54_1), (0, tb_I_54_0)], [(0, tb_I_55_0)], [(0, tb_I_56_0)], [(0, tb_I_57_0)], [(82, tb_I_58_1), (0, tb_I_58_0)], [(0, tb_I_59_0)], [(0, tb_I_60_0)], [(0, tb_I_61_0)], [(0, tb_I_62_0)], [(0, tb_I_63_0)], [(0, tb_I_64_0)], [(0, tb_I_65_0)], [(0, tb_I_66_0)], [(0, tb_I_67_0)], [(0, tb_I_68_0)], [(0, tb_I_69_0)], [(0, tb_I_70_0)], [(0, tb_I_71_0)], [(0, tb_I_72_0)], [(0, tb_I_73_0)], [(0, tb_I_74_0)], [(0, tb_I_75_0)], [(0, tb_I_76_0)], [(0, tb_I_77_0)], [(0, tb_I_78_0)], [(0, tb_I_79_0)], [(0, tb_I_80_0)], [(51, tb_I_81_1), (0, tb_I_81_0)], [(102, tb_I_82_1), (0, tb_I_82_0)], [(0, tb_I_83_0)], [(78, tb_I_84_1), (0, tb_I_84_0)], [(0, tb_I_85_0)], [(75, tb_I_86_1), (0, tb_I_86_0)], [(0, tb_I_87_0)], [(0, tb_I_88_0)], [(0, tb_I_89_0)], [(0, tb_I_90_0)], [(0, tb_I_91_0)], [(0, tb_I_92_0)], [(122, tb_I_93_1), (0, tb_I_93_0)], [(69, tb_I_94_1), (0, tb_I_94_0)], [(0, tb_I_95_0)], [(0, tb_I_96_0)], [(69, tb_I_97_1), (0, tb_I_97_0)], [(155, tb_I_98_2), (75, tb_I_98_1), (0, tb_I_98_0)], [(71, tb_I_99_1), (0, tb_I_99_0)], [(190, tb_I_100_2), (75, tb_I_100_1), (0, tb_I_100_0)], [(76, tb_I_101_1), (0, tb_I_101_0)], [(0, tb_I_102_0)], [(0, tb_I_103_0)], [(80, tb_I_104_1), (0, tb_I_104_0)], [(82, tb_I_105_1), (0, tb_I_105_0)], [(69, tb_I_106_1), (0, tb_I_106_0)], [(80, tb_I_107_1), (0, tb_I_107_0)], [(0, tb_I_108_0)], [(0, tb_I_109_0)], [(0, tb_I_110_0)], [(81, tb_I_111_1), (0, tb_I_111_0)], [(0, tb_I_112_0)], [(0, tb_I_113_0)], [(69, tb_I_114_1), (0, tb_I_114_0)], [(70, tb_I_115_1), (0, tb_I_115_0)], [(0, tb_I_116_0)], [(0, tb_I_117_0)], [(0, tb_I_118_0)], [(0, tb_I_119_0)], [(0, tb_I_120_0)], [(125, tb_I_121_1), (0, tb_I_121_0)], [(0, tb_I_122_0)], [(0, tb_I_123_0)], [(0, tb_I_124_0)], [(0, tb_I_125_0)], [(77, tb_I_126_1), (0, tb_I_126_0)], [(0, tb_I_127_0)], [(0, tb_I_128_0)], [(0, tb_I_129_0)], [(107, tb_I_130_1), (0, tb_I_130_0)], [(0, tb_I_131_0)], [(0, tb_I_132_0)], [(73, tb_I_133_1), (0, tb_I_133_0)], [(67, tb_I_134_1), (0, tb_I_134_0)], [(74, tb_I_135_1), (0, tb_I_135_0)], [(0, tb_I_136_0)], [(0, tb_I_137_0)], [(0, tb_I_138_0)], [(0, tb_I_139_0)], [(0, tb_I_140_0)], [(114, tb_I_141_1), (0, tb_I_141_0)], [(0, tb_I_142_0)], [(0, tb_I_143_0)], [(0, tb_I_144_0)], [(339, tb_I_145_4), (259, tb_I_145_3), (170, tb_I_145_2), (82, tb_I_145_1), (0, tb_I_145_0)], [(0, tb_I_146_0)], [(82, tb_I_147_1), (0, tb_I_147_0)], [(0, tb_I_148_0)], [(0, tb_I_149_0)], [(227, tb_I_150_3), (155, tb_I_150_2), (74, tb_I_150_1), (0, tb_I_150_0)], [(236, tb_I_151_3), (153, tb_I_151_2), (79, tb_I_151_1), (0, tb_I_151_0)], [(0, tb_I_152_0)], [(0, tb_I_153_0)], [(233, tb_I_154_3), (147, tb_I_154_2), (72, tb_I_154_1), (0, tb_I_154_0)], [(77, tb_I_155_1), (0, tb_I_155_0)], [(0, tb_I_156_0)], [(0, tb_I_157_0)], [(305, tb_I_158_4), (228, tb_I_158_3), (156, tb_I_158_2), (73, tb_I_158_1), (0, tb_I_158_0)], [(0, tb_I_159_0)], [(0, tb_I_160_0)], [(154, tb_I_161_2), (74, tb_I_161_1), (0, tb_I_161_0)], [(70, tb_I_162_1), (0, tb_I_162_0)], [(0, tb_I_163_0)], [(208, tb_I_164_3), (142, tb_I_164_2), (72, tb_I_164_1), (0, tb_I_164_0)], [(0, tb_I_165_0)], [(0, tb_I_166_0)], [(238, tb_I_167_3), (149, tb_I_167_2), (77, tb_I_167_1), (0, tb_I_167_0)], [(229, tb_I_168_3), (154, tb_I_168_2), (80, tb_I_168_1), (0, tb_I_168_0)], [(0, tb_I_169_0)], [(0, tb_I_170_0)], [(261, tb_I_171_3), (190, tb_I_171_2), (118, tb_I_171_1), (0, tb_I_171_0)], [(144, tb_I_172_2), (70, tb_I_172_1), (0, tb_I_172_0)], [(379, tb_I_173_5), (312, tb_I_173_4), (239, tb_I_173_3), (174, tb_I_173_2), (110, tb_I_173_1), (0, tb_I_173_0)], [(0, tb_I_174_0)], [(71, tb_I_175_1), (0, tb_I_175_0)], [(0, tb_I_176_0)], [(0, tb_I_177_0)], [(0, tb_I_178_0)], [(293, tb_I_179_4), (216, tb_I_179_3), (139, tb_I_179_2), (71, tb_I_179_1), (0, tb_I_179_0)], [(216, tb_I_180_3), (150, tb_I_180_2), (73, tb_I_180_1), (0, tb_I_180_0)], [(210, tb_I_181_3), (133, tb_I_181_2), (66, tb_I_181_1), (0, tb_I_181_0)], [(0, tb_I_182_0)], [(528, tb_I_183_7), (457, tb_I_183_6), (387, tb_I_183_5), (316, tb_I_183_4), (249, tb_I_183_3), (178, tb_I_183_2), (106, tb_I_183_1), (0, tb_I_183_0)], [(244, tb_I_184_3), (176, tb_I_184_2), (111, tb_I_184_1), (0, tb_I_184_0)], [(0, tb_I_185_0)], [(0, tb_I_186_0)], [(0, tb_I_187_0)], [(0, tb_I_188_0)], [(277, tb_I_189_4), (204, tb_I_189_3), (134, tb_I_189_2), (66, tb_I_189_1), (0, tb_I_189_0)], [(403, tb_I_190_5), (330, tb_I_190_4), (263, tb_I_190_3), (188, tb_I_190_2), (70, tb_I_190_1), (0, tb_I_190_0)], [(256, tb_I_191_3), (190, tb_I_191_2), (78, tb_I_191_1), (0, tb_I_191_0)], [(162, tb_I_192_2), (104, tb_I_192_1), (0, tb_I_192_0)], [(0, tb_I_193_0)], [(78, tb_I_194_1), (0, tb_I_194_0)], [(292, tb_I_195_4), (217, tb_I_195_3), (142, tb_I_195_2), (70, tb_I_195_1), (0, tb_I_195_0)], [(0, tb_I_196_0)], [(0, tb_I_197_0)], [(0, tb_I_198_0)], [(0, tb_I_199_0)], [(484, tb_I_200_6), (411, tb_I_200_5), (338, tb_I_200_4), (262, tb_I_200_3), (184, tb_I_200_2), (111, tb_I_200_1), (0, tb_I_200_0)], [(0, tb_I_201_0)], [(0, tb_I_202_0)], [(0, tb_I_203_0)], [(0, tb_I_204_0)], [(0, tb_I_205_0)], [(230, tb_I_206_3), (155, tb_I_206_2), (72, tb_I_206_1), (0, tb_I_206_0)], [(0, tb_I_207_0)], [(0, tb_I_208_0)], [(0, tb_I_209_0)], [(0, tb_I_210_0)], [(0, tb_I_211_0)], [(0, tb_I_212_0)], [(0, tb_I_213_0)], [(0, tb_I_214_0)], [(0, tb_I_215_0)], [(0, tb_I_216_0)], [(0, tb_I_217_0)], [(0, tb_I_218_0)], [(0, tb_I_219_0)], [(0, tb_I_220_0)]]
noncomputable def sy_find (n : Nat) (l : List (Nat × Instr)) : Option Instr := List.rec none (fun q _ ih => bif Nat.beq q.1 n then some q.2 else ih) l
noncomputable def sy_pick (n : Nat) (l : List (Nat × List (Nat × Instr))) : List (Nat × Instr) := List.rec [] (fun q _ ih => bif Nat.ble q.1 n then q.2 else ih) l
theorem sy_find_mem {n : Nat} {i : Instr} : ∀ {l : List (Nat × Instr)}, sy_find n l = some i → (n, i) ∈ l := by
  intro l
  induction l with
  | nil => intro h; cases h
  | cons q r ih =>
    intro h
    have h : (bif Nat.beq q.1 n then some q.2 else sy_find n r) = some i := h
    cases hb : Nat.beq q.1 n with
    | true =>
      rw [hb] at h
      have e1 : q.2 = i := Option.some.inj h
      have e2 : q.1 = n := Nat.eq_of_beq_eq_true hb
      rw [← e1, ← e2]
      exact List.mem_cons_self
    | false =>
      rw [hb] at h
      exact List.mem_cons_of_mem _ (ih h)
theorem sy_pick_mem {n : Nat} : ∀ {l : List (Nat × List (Nat × Instr))}, sy_pick n l = [] ∨ ∃ k, (k, sy_pick n l) ∈ l := by
  intro l
  induction l with
  | nil => exact Or.inl rfl
  | cons q r ih =>
    have h : sy_pick n (q :: r) = (bif Nat.ble q.1 n then q.2 else sy_pick n r) := rfl
    rw [h]
    cases hb : Nat.ble q.1 n with
    | true => exact Or.inr ⟨q.1, List.mem_cons_self⟩
    | false =>
      rcases ih with h1 | ⟨k, h1⟩
      · exact Or.inl h1
      · exact Or.inr ⟨k, List.mem_cons_of_mem _ h1⟩
noncomputable def tb_T : sy_T := fun j pc => sy_find pc (sy_pick pc (tb_Ils.getD j []))
def tb_chk (j : Nat) (q : Nat × Instr) : Bool := decide (mi_dec (mi_cd tb_P j) q.1 = some q.2) && (mi_th tb_P j q.1).isNone
def tb_ok1 (j : Nat) : Bool := (tb_Ils.getD j []).all (fun q => q.2.all (tb_chk j))
end
section
/-! The lists are right (0). -/
set_option maxRecDepth 100000 in
theorem tb_c_0_0 : tb_I_0_0.all (tb_chk 0) = true := by decide +kernel
set_option maxRecDepth 100000 in
theorem tb_c_0_1 : tb_I_0_1.all (tb_chk 0) = true := by decide +kernel
set_option maxRecDepth 100000 in
theorem tb_c_0_2 : tb_I_0_2.all (tb_chk 0) = true := by decide +kernel
set_option maxRecDepth 100000 in
theorem tb_c_0_3 : tb_I_0_3.all (tb_chk 0) = true := by decide +kernel
set_option maxRecDepth 100000 in
theorem tb_c_0_4 : tb_I_0_4.all (tb_chk 0) = true := by decide +kernel
set_option maxRecDepth 100000 in
theorem tb_c_0_5 : tb_I_0_5.all (tb_chk 0) = true := by decide +kernel
set_option maxRecDepth 100000 in
theorem tb_c_0_6 : tb_I_0_6.all (tb_chk 0) = true := by decide +kernel
set_option maxRecDepth 100000 in
theorem tb_c_0_7 : tb_I_0_7.all (tb_chk 0) = true := by decide +kernel
set_option maxRecDepth 100000 in
theorem tb_c_0_8 : tb_I_0_8.all (tb_chk 0) = true := by decide +kernel
set_option maxRecDepth 100000 in
theorem tb_c_0_9 : tb_I_0_9.all (tb_chk 0) = true := by decide +kernel
set_option maxRecDepth 100000 in
theorem tb_c_0_10 : tb_I_0_10.all (tb_chk 0) = true := by decide +kernel
set_option maxRecDepth 100000 in
theorem tb_c_0_11 : tb_I_0_11.all (tb_chk 0) = true := by decide +kernel
set_option maxRecDepth 100000 in
theorem tb_c_0_12 : tb_I_0_12.all (tb_chk 0) = true := by decide +kernel
set_option maxRecDepth 100000 in
theorem tb_c_0_13 : tb_I_0_13.all (tb_chk 0) = true := by decide +kernel
set_option maxRecDepth 100000 in
theorem tb_c_0_14 : tb_I_0_14.all (tb_chk 0) = true := by decide +kernel
set_option maxRecDepth 100000 in
theorem tb_c_1_0 : tb_I_1_0.all (tb_chk 1) = true := by decide +kernel
set_option maxRecDepth 100000 in
theorem tb_c_1_1 : tb_I_1_1.all (tb_chk 1) = true := by decide +kernel
set_option maxRecDepth 100000 in
theorem tb_c_1_2 : tb_I_1_2.all (tb_chk 1) = true := by decide +kernel
set_option maxRecDepth 100000 in
theorem tb_c_1_3 : tb_I_1_3.all (tb_chk 1) = true := by decide +kernel
set_option maxRecDepth 100000 in
theorem tb_c_2_0 : tb_I_2_0.all (tb_chk 2) = true := by decide +kernel
set_option maxRecDepth 100000 in
theorem tb_c_3_0 : tb_I_3_0.all (tb_chk 3) = true := by decide +kernel
set_option maxRecDepth 100000 in
theorem tb_c_4_0 : tb_I_4_0.all (tb_chk 4) = true := by decide +kernel
set_option maxRecDepth 100000 in
theorem tb_c_5_0 : tb_I_5_0.all (tb_chk 5) = true := by decide +kernel
set_option maxRecDepth 100000 in
theorem tb_c_6_0 : tb_I_6_0.all (tb_chk 6) = true := by decide +kernel
set_option maxRecDepth 100000 in
theorem tb_c_6_1 : tb_I_6_1.all (tb_chk 6) = true := by decide +kernel
set_option maxRecDepth 100000 in
theorem tb_c_7_0 : tb_I_7_0.all (tb_chk 7) = true := by decide +kernel
set_option maxRecDepth 100000 in
theorem tb_c_7_1 : tb_I_7_1.all (tb_chk 7) = true := by decide +kernel
set_option maxRecDepth 100000 in
theorem tb_c_8_0 : tb_I_8_0.all (tb_chk 8) = true := by decide +kernel
set_option maxRecDepth 100000 in
theorem tb_c_9_0 : tb_I_9_0.all (tb_chk 9) = true := by decide +kernel
set_option maxRecDepth 100000 in
theorem tb_c_10_0 : tb_I_10_0.all (tb_chk 10) = true := by decide +kernel
set_option maxRecDepth 100000 in
theorem tb_c_10_1 : tb_I_10_1.all (tb_chk 10) = true := by decide +kernel
set_option maxRecDepth 100000 in
theorem tb_c_11_0 : tb_I_11_0.all (tb_chk 11) = true := by decide +kernel
set_option maxRecDepth 100000 in
theorem tb_c_11_1 : tb_I_11_1.all (tb_chk 11) = true := by decide +kernel
set_option maxRecDepth 100000 in
theorem tb_c_12_0 : tb_I_12_0.all (tb_chk 12) = true := by decide +kernel
set_option maxRecDepth 100000 in
theorem tb_c_13_0 : tb_I_13_0.all (tb_chk 13) = true := by decide +kernel
set_option maxRecDepth 100000 in
theorem tb_c_14_0 : tb_I_14_0.all (tb_chk 14) = true := by decide +kernel
set_option maxRecDepth 100000 in
theorem tb_c_14_1 : tb_I_14_1.all (tb_chk 14) = true := by decide +kernel
set_option maxRecDepth 100000 in
theorem tb_c_15_0 : tb_I_15_0.all (tb_chk 15) = true := by decide +kernel
set_option maxRecDepth 100000 in
theorem tb_c_16_0 : tb_I_16_0.all (tb_chk 16) = true := by decide +kernel
set_option maxRecDepth 100000 in
theorem tb_c_17_0 : tb_I_17_0.all (tb_chk 17) = true := by decide +kernel
set_option maxRecDepth 100000 in
theorem tb_c_17_1 : tb_I_17_1.all (tb_chk 17) = true := by decide +kernel
set_option maxRecDepth 100000 in
theorem tb_c_18_0 : tb_I_18_0.all (tb_chk 18) = true := by decide +kernel
set_option maxRecDepth 100000 in
theorem tb_c_19_0 : tb_I_19_0.all (tb_chk 19) = true := by decide +kernel
set_option maxRecDepth 100000 in
theorem tb_c_20_0 : tb_I_20_0.all (tb_chk 20) = true := by decide +kernel
set_option maxRecDepth 100000 in
theorem tb_c_21_0 : tb_I_21_0.all (tb_chk 21) = true := by decide +kernel
set_option maxRecDepth 100000 in
theorem tb_c_21_1 : tb_I_21_1.all (tb_chk 21) = true := by decide +kernel
set_option maxRecDepth 100000 in
theorem tb_c_21_2 : tb_I_21_2.all (tb_chk 21) = true := by decide +kernel
set_option maxRecDepth 100000 in
theorem tb_c_22_0 : tb_I_22_0.all (tb_chk 22) = true := by decide +kernel
set_option maxRecDepth 100000 in
theorem tb_c_23_0 : tb_I_23_0.all (tb_chk 23) = true := by decide +kernel
set_option maxRecDepth 100000 in
theorem tb_c_24_0 : tb_I_24_0.all (tb_chk 24) = true := by decide +kernel
set_option maxRecDepth 100000 in
theorem tb_c_25_0 : tb_I_25_0.all (tb_chk 25) = true := by decide +kernel
set_option maxRecDepth 100000 in
theorem tb_c_26_0 : tb_I_26_0.all (tb_chk 26) = true := by decide +kernel
set_option maxRecDepth 100000 in
theorem tb_c_27_0 : tb_I_27_0.all (tb_chk 27) = true := by decide +kernel
set_option maxRecDepth 100000 in
theorem tb_c_27_1 : tb_I_27_1.all (tb_chk 27) = true := by decide +kernel
set_option maxRecDepth 100000 in
theorem tb_c_28_0 : tb_I_28_0.all (tb_chk 28) = true := by decide +kernel
set_option maxRecDepth 100000 in
theorem tb_c_29_0 : tb_I_29_0.all (tb_chk 29) = true := by decide +kernel
set_option maxRecDepth 100000 in
theorem tb_c_30_0 : tb_I_30_0.all (tb_chk 30) = true := by decide +kernel
set_option maxRecDepth 100000 in
theorem tb_c_31_0 : tb_I_31_0.all (tb_chk 31) = true := by decide +kernel
set_option maxRecDepth 100000 in
theorem tb_c_31_1 : tb_I_31_1.all (tb_chk 31) = true := by decide +kernel
set_option maxRecDepth 100000 in
theorem tb_c_31_2 : tb_I_31_2.all (tb_chk 31) = true := by decide +kernel
set_option maxRecDepth 100000 in
theorem tb_c_32_0 : tb_I_32_0.all (tb_chk 32) = true := by decide +kernel
set_option maxRecDepth 100000 in
theorem tb_c_33_0 : tb_I_33_0.all (tb_chk 33) = true := by decide +kernel
set_option maxRecDepth 100000 in
theorem tb_c_34_0 : tb_I_34_0.all (tb_chk 34) = true := by decide +kernel
end
section
/-! The lists are right (1). -/
set_option maxRecDepth 100000 in
theorem tb_c_35_0 : tb_I_35_0.all (tb_chk 35) = true := by decide +kernel
set_option maxRecDepth 100000 in
theorem tb_c_36_0 : tb_I_36_0.all (tb_chk 36) = true := by decide +kernel
set_option maxRecDepth 100000 in
theorem tb_c_37_0 : tb_I_37_0.all (tb_chk 37) = true := by decide +kernel
set_option maxRecDepth 100000 in
theorem tb_c_38_0 : tb_I_38_0.all (tb_chk 38) = true := by decide +kernel
set_option maxRecDepth 100000 in
theorem tb_c_39_0 : tb_I_39_0.all (tb_chk 39) = true := by decide +kernel
set_option maxRecDepth 100000 in
theorem tb_c_40_0 : tb_I_40_0.all (tb_chk 40) = true := by decide +kernel
set_option maxRecDepth 100000 in
theorem tb_c_41_0 : tb_I_41_0.all (tb_chk 41) = true := by decide +kernel
set_option maxRecDepth 100000 in
theorem tb_c_42_0 : tb_I_42_0.all (tb_chk 42) = true := by decide +kernel
set_option maxRecDepth 100000 in
theorem tb_c_43_0 : tb_I_43_0.all (tb_chk 43) = true := by decide +kernel
set_option maxRecDepth 100000 in
theorem tb_c_44_0 : tb_I_44_0.all (tb_chk 44) = true := by decide +kernel
set_option maxRecDepth 100000 in
theorem tb_c_45_0 : tb_I_45_0.all (tb_chk 45) = true := by decide +kernel
set_option maxRecDepth 100000 in
theorem tb_c_45_1 : tb_I_45_1.all (tb_chk 45) = true := by decide +kernel
set_option maxRecDepth 100000 in
theorem tb_c_46_0 : tb_I_46_0.all (tb_chk 46) = true := by decide +kernel
set_option maxRecDepth 100000 in
theorem tb_c_46_1 : tb_I_46_1.all (tb_chk 46) = true := by decide +kernel
set_option maxRecDepth 100000 in
theorem tb_c_47_0 : tb_I_47_0.all (tb_chk 47) = true := by decide +kernel
set_option maxRecDepth 100000 in
theorem tb_c_47_1 : tb_I_47_1.all (tb_chk 47) = true := by decide +kernel
set_option maxRecDepth 100000 in
theorem tb_c_48_0 : tb_I_48_0.all (tb_chk 48) = true := by decide +kernel
set_option maxRecDepth 100000 in
theorem tb_c_48_1 : tb_I_48_1.all (tb_chk 48) = true := by decide +kernel
set_option maxRecDepth 100000 in
theorem tb_c_49_0 : tb_I_49_0.all (tb_chk 49) = true := by decide +kernel
set_option maxRecDepth 100000 in
theorem tb_c_50_0 : tb_I_50_0.all (tb_chk 50) = true := by decide +kernel
set_option maxRecDepth 100000 in
theorem tb_c_51_0 : tb_I_51_0.all (tb_chk 51) = true := by decide +kernel
set_option maxRecDepth 100000 in
theorem tb_c_52_0 : tb_I_52_0.all (tb_chk 52) = true := by decide +kernel
set_option maxRecDepth 100000 in
theorem tb_c_52_1 : tb_I_52_1.all (tb_chk 52) = true := by decide +kernel
set_option maxRecDepth 100000 in
theorem tb_c_53_0 : tb_I_53_0.all (tb_chk 53) = true := by decide +kernel
set_option maxRecDepth 100000 in
theorem tb_c_54_0 : tb_I_54_0.all (tb_chk 54) = true := by decide +kernel
set_option maxRecDepth 100000 in
theorem tb_c_54_1 : tb_I_54_1.all (tb_chk 54) = true := by decide +kernel
set_option maxRecDepth 100000 in
theorem tb_c_55_0 : tb_I_55_0.all (tb_chk 55) = true := by decide +kernel
set_option maxRecDepth 100000 in
theorem tb_c_56_0 : tb_I_56_0.all (tb_chk 56) = true := by decide +kernel
set_option maxRecDepth 100000 in
theorem tb_c_57_0 : tb_I_57_0.all (tb_chk 57) = true := by decide +kernel
set_option maxRecDepth 100000 in
theorem tb_c_58_0 : tb_I_58_0.all (tb_chk 58) = true := by decide +kernel
set_option maxRecDepth 100000 in
theorem tb_c_58_1 : tb_I_58_1.all (tb_chk 58) = true := by decide +kernel
set_option maxRecDepth 100000 in
theorem tb_c_59_0 : tb_I_59_0.all (tb_chk 59) = true := by decide +kernel
set_option maxRecDepth 100000 in
theorem tb_c_60_0 : tb_I_60_0.all (tb_chk 60) = true := by decide +kernel
set_option maxRecDepth 100000 in
theorem tb_c_61_0 : tb_I_61_0.all (tb_chk 61) = true := by decide +kernel
set_option maxRecDepth 100000 in
theorem tb_c_62_0 : tb_I_62_0.all (tb_chk 62) = true := by decide +kernel
set_option maxRecDepth 100000 in
theorem tb_c_63_0 : tb_I_63_0.all (tb_chk 63) = true := by decide +kernel
set_option maxRecDepth 100000 in
theorem tb_c_64_0 : tb_I_64_0.all (tb_chk 64) = true := by decide +kernel
set_option maxRecDepth 100000 in
theorem tb_c_65_0 : tb_I_65_0.all (tb_chk 65) = true := by decide +kernel
set_option maxRecDepth 100000 in
theorem tb_c_66_0 : tb_I_66_0.all (tb_chk 66) = true := by decide +kernel
set_option maxRecDepth 100000 in
theorem tb_c_67_0 : tb_I_67_0.all (tb_chk 67) = true := by decide +kernel
set_option maxRecDepth 100000 in
theorem tb_c_68_0 : tb_I_68_0.all (tb_chk 68) = true := by decide +kernel
set_option maxRecDepth 100000 in
theorem tb_c_69_0 : tb_I_69_0.all (tb_chk 69) = true := by decide +kernel
set_option maxRecDepth 100000 in
theorem tb_c_70_0 : tb_I_70_0.all (tb_chk 70) = true := by decide +kernel
set_option maxRecDepth 100000 in
theorem tb_c_71_0 : tb_I_71_0.all (tb_chk 71) = true := by decide +kernel
set_option maxRecDepth 100000 in
theorem tb_c_72_0 : tb_I_72_0.all (tb_chk 72) = true := by decide +kernel
set_option maxRecDepth 100000 in
theorem tb_c_73_0 : tb_I_73_0.all (tb_chk 73) = true := by decide +kernel
set_option maxRecDepth 100000 in
theorem tb_c_74_0 : tb_I_74_0.all (tb_chk 74) = true := by decide +kernel
set_option maxRecDepth 100000 in
theorem tb_c_75_0 : tb_I_75_0.all (tb_chk 75) = true := by decide +kernel
set_option maxRecDepth 100000 in
theorem tb_c_76_0 : tb_I_76_0.all (tb_chk 76) = true := by decide +kernel
set_option maxRecDepth 100000 in
theorem tb_c_77_0 : tb_I_77_0.all (tb_chk 77) = true := by decide +kernel
set_option maxRecDepth 100000 in
theorem tb_c_78_0 : tb_I_78_0.all (tb_chk 78) = true := by decide +kernel
set_option maxRecDepth 100000 in
theorem tb_c_79_0 : tb_I_79_0.all (tb_chk 79) = true := by decide +kernel
set_option maxRecDepth 100000 in
theorem tb_c_80_0 : tb_I_80_0.all (tb_chk 80) = true := by decide +kernel
set_option maxRecDepth 100000 in
theorem tb_c_81_0 : tb_I_81_0.all (tb_chk 81) = true := by decide +kernel
set_option maxRecDepth 100000 in
theorem tb_c_81_1 : tb_I_81_1.all (tb_chk 81) = true := by decide +kernel
set_option maxRecDepth 100000 in
theorem tb_c_82_0 : tb_I_82_0.all (tb_chk 82) = true := by decide +kernel
set_option maxRecDepth 100000 in
theorem tb_c_82_1 : tb_I_82_1.all (tb_chk 82) = true := by decide +kernel
set_option maxRecDepth 100000 in
theorem tb_c_83_0 : tb_I_83_0.all (tb_chk 83) = true := by decide +kernel
set_option maxRecDepth 100000 in
theorem tb_c_84_0 : tb_I_84_0.all (tb_chk 84) = true := by decide +kernel
set_option maxRecDepth 100000 in
theorem tb_c_84_1 : tb_I_84_1.all (tb_chk 84) = true := by decide +kernel
set_option maxRecDepth 100000 in
theorem tb_c_85_0 : tb_I_85_0.all (tb_chk 85) = true := by decide +kernel
set_option maxRecDepth 100000 in
theorem tb_c_86_0 : tb_I_86_0.all (tb_chk 86) = true := by decide +kernel
set_option maxRecDepth 100000 in
theorem tb_c_86_1 : tb_I_86_1.all (tb_chk 86) = true := by decide +kernel
end
section
/-! The lists are right (2). -/
set_option maxRecDepth 100000 in
theorem tb_c_87_0 : tb_I_87_0.all (tb_chk 87) = true := by decide +kernel
set_option maxRecDepth 100000 in
theorem tb_c_88_0 : tb_I_88_0.all (tb_chk 88) = true := by decide +kernel
set_option maxRecDepth 100000 in
theorem tb_c_89_0 : tb_I_89_0.all (tb_chk 89) = true := by decide +kernel
set_option maxRecDepth 100000 in
theorem tb_c_90_0 : tb_I_90_0.all (tb_chk 90) = true := by decide +kernel
set_option maxRecDepth 100000 in
theorem tb_c_91_0 : tb_I_91_0.all (tb_chk 91) = true := by decide +kernel
set_option maxRecDepth 100000 in
theorem tb_c_92_0 : tb_I_92_0.all (tb_chk 92) = true := by decide +kernel
set_option maxRecDepth 100000 in
theorem tb_c_93_0 : tb_I_93_0.all (tb_chk 93) = true := by decide +kernel
set_option maxRecDepth 100000 in
theorem tb_c_93_1 : tb_I_93_1.all (tb_chk 93) = true := by decide +kernel
set_option maxRecDepth 100000 in
theorem tb_c_94_0 : tb_I_94_0.all (tb_chk 94) = true := by decide +kernel
set_option maxRecDepth 100000 in
theorem tb_c_94_1 : tb_I_94_1.all (tb_chk 94) = true := by decide +kernel
set_option maxRecDepth 100000 in
theorem tb_c_95_0 : tb_I_95_0.all (tb_chk 95) = true := by decide +kernel
set_option maxRecDepth 100000 in
theorem tb_c_96_0 : tb_I_96_0.all (tb_chk 96) = true := by decide +kernel
set_option maxRecDepth 100000 in
theorem tb_c_97_0 : tb_I_97_0.all (tb_chk 97) = true := by decide +kernel
set_option maxRecDepth 100000 in
theorem tb_c_97_1 : tb_I_97_1.all (tb_chk 97) = true := by decide +kernel
set_option maxRecDepth 100000 in
theorem tb_c_98_0 : tb_I_98_0.all (tb_chk 98) = true := by decide +kernel
set_option maxRecDepth 100000 in
theorem tb_c_98_1 : tb_I_98_1.all (tb_chk 98) = true := by decide +kernel
set_option maxRecDepth 100000 in
theorem tb_c_98_2 : tb_I_98_2.all (tb_chk 98) = true := by decide +kernel
set_option maxRecDepth 100000 in
theorem tb_c_99_0 : tb_I_99_0.all (tb_chk 99) = true := by decide +kernel
set_option maxRecDepth 100000 in
theorem tb_c_99_1 : tb_I_99_1.all (tb_chk 99) = true := by decide +kernel
set_option maxRecDepth 100000 in
theorem tb_c_100_0 : tb_I_100_0.all (tb_chk 100) = true := by decide +kernel
set_option maxRecDepth 100000 in
theorem tb_c_100_1 : tb_I_100_1.all (tb_chk 100) = true := by decide +kernel
set_option maxRecDepth 100000 in
theorem tb_c_100_2 : tb_I_100_2.all (tb_chk 100) = true := by decide +kernel
set_option maxRecDepth 100000 in
theorem tb_c_101_0 : tb_I_101_0.all (tb_chk 101) = true := by decide +kernel
set_option maxRecDepth 100000 in
theorem tb_c_101_1 : tb_I_101_1.all (tb_chk 101) = true := by decide +kernel
set_option maxRecDepth 100000 in
theorem tb_c_102_0 : tb_I_102_0.all (tb_chk 102) = true := by decide +kernel
set_option maxRecDepth 100000 in
theorem tb_c_103_0 : tb_I_103_0.all (tb_chk 103) = true := by decide +kernel
set_option maxRecDepth 100000 in
theorem tb_c_104_0 : tb_I_104_0.all (tb_chk 104) = true := by decide +kernel
set_option maxRecDepth 100000 in
theorem tb_c_104_1 : tb_I_104_1.all (tb_chk 104) = true := by decide +kernel
set_option maxRecDepth 100000 in
theorem tb_c_105_0 : tb_I_105_0.all (tb_chk 105) = true := by decide +kernel
set_option maxRecDepth 100000 in
theorem tb_c_105_1 : tb_I_105_1.all (tb_chk 105) = true := by decide +kernel
set_option maxRecDepth 100000 in
theorem tb_c_106_0 : tb_I_106_0.all (tb_chk 106) = true := by decide +kernel
set_option maxRecDepth 100000 in
theorem tb_c_106_1 : tb_I_106_1.all (tb_chk 106) = true := by decide +kernel
set_option maxRecDepth 100000 in
theorem tb_c_107_0 : tb_I_107_0.all (tb_chk 107) = true := by decide +kernel
set_option maxRecDepth 100000 in
theorem tb_c_107_1 : tb_I_107_1.all (tb_chk 107) = true := by decide +kernel
set_option maxRecDepth 100000 in
theorem tb_c_108_0 : tb_I_108_0.all (tb_chk 108) = true := by decide +kernel
set_option maxRecDepth 100000 in
theorem tb_c_109_0 : tb_I_109_0.all (tb_chk 109) = true := by decide +kernel
set_option maxRecDepth 100000 in
theorem tb_c_110_0 : tb_I_110_0.all (tb_chk 110) = true := by decide +kernel
set_option maxRecDepth 100000 in
theorem tb_c_111_0 : tb_I_111_0.all (tb_chk 111) = true := by decide +kernel
set_option maxRecDepth 100000 in
theorem tb_c_111_1 : tb_I_111_1.all (tb_chk 111) = true := by decide +kernel
set_option maxRecDepth 100000 in
theorem tb_c_112_0 : tb_I_112_0.all (tb_chk 112) = true := by decide +kernel
set_option maxRecDepth 100000 in
theorem tb_c_113_0 : tb_I_113_0.all (tb_chk 113) = true := by decide +kernel
set_option maxRecDepth 100000 in
theorem tb_c_114_0 : tb_I_114_0.all (tb_chk 114) = true := by decide +kernel
set_option maxRecDepth 100000 in
theorem tb_c_114_1 : tb_I_114_1.all (tb_chk 114) = true := by decide +kernel
set_option maxRecDepth 100000 in
theorem tb_c_115_0 : tb_I_115_0.all (tb_chk 115) = true := by decide +kernel
set_option maxRecDepth 100000 in
theorem tb_c_115_1 : tb_I_115_1.all (tb_chk 115) = true := by decide +kernel
set_option maxRecDepth 100000 in
theorem tb_c_116_0 : tb_I_116_0.all (tb_chk 116) = true := by decide +kernel
set_option maxRecDepth 100000 in
theorem tb_c_117_0 : tb_I_117_0.all (tb_chk 117) = true := by decide +kernel
set_option maxRecDepth 100000 in
theorem tb_c_118_0 : tb_I_118_0.all (tb_chk 118) = true := by decide +kernel
set_option maxRecDepth 100000 in
theorem tb_c_119_0 : tb_I_119_0.all (tb_chk 119) = true := by decide +kernel
set_option maxRecDepth 100000 in
theorem tb_c_120_0 : tb_I_120_0.all (tb_chk 120) = true := by decide +kernel
set_option maxRecDepth 100000 in
theorem tb_c_121_0 : tb_I_121_0.all (tb_chk 121) = true := by decide +kernel
set_option maxRecDepth 100000 in
theorem tb_c_121_1 : tb_I_121_1.all (tb_chk 121) = true := by decide +kernel
set_option maxRecDepth 100000 in
theorem tb_c_122_0 : tb_I_122_0.all (tb_chk 122) = true := by decide +kernel
set_option maxRecDepth 100000 in
theorem tb_c_123_0 : tb_I_123_0.all (tb_chk 123) = true := by decide +kernel
set_option maxRecDepth 100000 in
theorem tb_c_124_0 : tb_I_124_0.all (tb_chk 124) = true := by decide +kernel
set_option maxRecDepth 100000 in
theorem tb_c_125_0 : tb_I_125_0.all (tb_chk 125) = true := by decide +kernel
set_option maxRecDepth 100000 in
theorem tb_c_126_0 : tb_I_126_0.all (tb_chk 126) = true := by decide +kernel
set_option maxRecDepth 100000 in
theorem tb_c_126_1 : tb_I_126_1.all (tb_chk 126) = true := by decide +kernel
set_option maxRecDepth 100000 in
theorem tb_c_127_0 : tb_I_127_0.all (tb_chk 127) = true := by decide +kernel
set_option maxRecDepth 100000 in
theorem tb_c_128_0 : tb_I_128_0.all (tb_chk 128) = true := by decide +kernel
set_option maxRecDepth 100000 in
theorem tb_c_129_0 : tb_I_129_0.all (tb_chk 129) = true := by decide +kernel
set_option maxRecDepth 100000 in
theorem tb_c_130_0 : tb_I_130_0.all (tb_chk 130) = true := by decide +kernel
set_option maxRecDepth 100000 in
theorem tb_c_130_1 : tb_I_130_1.all (tb_chk 130) = true := by decide +kernel
end
section
/-! The lists are right (3). -/
set_option maxRecDepth 100000 in
theorem tb_c_131_0 : tb_I_131_0.all (tb_chk 131) = true := by decide +kernel
set_option maxRecDepth 100000 in
theorem tb_c_132_0 : tb_I_132_0.all (tb_chk 132) = true := by decide +kernel
set_option maxRecDepth 100000 in
theorem tb_c_133_0 : tb_I_133_0.all (tb_chk 133) = true := by decide +kernel
set_option maxRecDepth 100000 in
theorem tb_c_133_1 : tb_I_133_1.all (tb_chk 133) = true := by decide +kernel
set_option maxRecDepth 100000 in
theorem tb_c_134_0 : tb_I_134_0.all (tb_chk 134) = true := by decide +kernel
set_option maxRecDepth 100000 in
theorem tb_c_134_1 : tb_I_134_1.all (tb_chk 134) = true := by decide +kernel
set_option maxRecDepth 100000 in
theorem tb_c_135_0 : tb_I_135_0.all (tb_chk 135) = true := by decide +kernel
set_option maxRecDepth 100000 in
theorem tb_c_135_1 : tb_I_135_1.all (tb_chk 135) = true := by decide +kernel
set_option maxRecDepth 100000 in
theorem tb_c_136_0 : tb_I_136_0.all (tb_chk 136) = true := by decide +kernel
set_option maxRecDepth 100000 in
theorem tb_c_137_0 : tb_I_137_0.all (tb_chk 137) = true := by decide +kernel
set_option maxRecDepth 100000 in
theorem tb_c_138_0 : tb_I_138_0.all (tb_chk 138) = true := by decide +kernel
set_option maxRecDepth 100000 in
theorem tb_c_139_0 : tb_I_139_0.all (tb_chk 139) = true := by decide +kernel
set_option maxRecDepth 100000 in
theorem tb_c_140_0 : tb_I_140_0.all (tb_chk 140) = true := by decide +kernel
set_option maxRecDepth 100000 in
theorem tb_c_141_0 : tb_I_141_0.all (tb_chk 141) = true := by decide +kernel
set_option maxRecDepth 100000 in
theorem tb_c_141_1 : tb_I_141_1.all (tb_chk 141) = true := by decide +kernel
set_option maxRecDepth 100000 in
theorem tb_c_142_0 : tb_I_142_0.all (tb_chk 142) = true := by decide +kernel
set_option maxRecDepth 100000 in
theorem tb_c_143_0 : tb_I_143_0.all (tb_chk 143) = true := by decide +kernel
set_option maxRecDepth 100000 in
theorem tb_c_144_0 : tb_I_144_0.all (tb_chk 144) = true := by decide +kernel
set_option maxRecDepth 100000 in
theorem tb_c_145_0 : tb_I_145_0.all (tb_chk 145) = true := by decide +kernel
set_option maxRecDepth 100000 in
theorem tb_c_145_1 : tb_I_145_1.all (tb_chk 145) = true := by decide +kernel
set_option maxRecDepth 100000 in
theorem tb_c_145_2 : tb_I_145_2.all (tb_chk 145) = true := by decide +kernel
set_option maxRecDepth 100000 in
theorem tb_c_145_3 : tb_I_145_3.all (tb_chk 145) = true := by decide +kernel
set_option maxRecDepth 100000 in
theorem tb_c_145_4 : tb_I_145_4.all (tb_chk 145) = true := by decide +kernel
set_option maxRecDepth 100000 in
theorem tb_c_146_0 : tb_I_146_0.all (tb_chk 146) = true := by decide +kernel
set_option maxRecDepth 100000 in
theorem tb_c_147_0 : tb_I_147_0.all (tb_chk 147) = true := by decide +kernel
set_option maxRecDepth 100000 in
theorem tb_c_147_1 : tb_I_147_1.all (tb_chk 147) = true := by decide +kernel
set_option maxRecDepth 100000 in
theorem tb_c_148_0 : tb_I_148_0.all (tb_chk 148) = true := by decide +kernel
set_option maxRecDepth 100000 in
theorem tb_c_149_0 : tb_I_149_0.all (tb_chk 149) = true := by decide +kernel
set_option maxRecDepth 100000 in
theorem tb_c_150_0 : tb_I_150_0.all (tb_chk 150) = true := by decide +kernel
set_option maxRecDepth 100000 in
theorem tb_c_150_1 : tb_I_150_1.all (tb_chk 150) = true := by decide +kernel
set_option maxRecDepth 100000 in
theorem tb_c_150_2 : tb_I_150_2.all (tb_chk 150) = true := by decide +kernel
set_option maxRecDepth 100000 in
theorem tb_c_150_3 : tb_I_150_3.all (tb_chk 150) = true := by decide +kernel
set_option maxRecDepth 100000 in
theorem tb_c_151_0 : tb_I_151_0.all (tb_chk 151) = true := by decide +kernel
set_option maxRecDepth 100000 in
theorem tb_c_151_1 : tb_I_151_1.all (tb_chk 151) = true := by decide +kernel
set_option maxRecDepth 100000 in
theorem tb_c_151_2 : tb_I_151_2.all (tb_chk 151) = true := by decide +kernel
set_option maxRecDepth 100000 in
theorem tb_c_151_3 : tb_I_151_3.all (tb_chk 151) = true := by decide +kernel
set_option maxRecDepth 100000 in
theorem tb_c_152_0 : tb_I_152_0.all (tb_chk 152) = true := by decide +kernel
set_option maxRecDepth 100000 in
theorem tb_c_153_0 : tb_I_153_0.all (tb_chk 153) = true := by decide +kernel
set_option maxRecDepth 100000 in
theorem tb_c_154_0 : tb_I_154_0.all (tb_chk 154) = true := by decide +kernel
set_option maxRecDepth 100000 in
theorem tb_c_154_1 : tb_I_154_1.all (tb_chk 154) = true := by decide +kernel
set_option maxRecDepth 100000 in
theorem tb_c_154_2 : tb_I_154_2.all (tb_chk 154) = true := by decide +kernel
set_option maxRecDepth 100000 in
theorem tb_c_154_3 : tb_I_154_3.all (tb_chk 154) = true := by decide +kernel
set_option maxRecDepth 100000 in
theorem tb_c_155_0 : tb_I_155_0.all (tb_chk 155) = true := by decide +kernel
set_option maxRecDepth 100000 in
theorem tb_c_155_1 : tb_I_155_1.all (tb_chk 155) = true := by decide +kernel
set_option maxRecDepth 100000 in
theorem tb_c_156_0 : tb_I_156_0.all (tb_chk 156) = true := by decide +kernel
set_option maxRecDepth 100000 in
theorem tb_c_157_0 : tb_I_157_0.all (tb_chk 157) = true := by decide +kernel
set_option maxRecDepth 100000 in
theorem tb_c_158_0 : tb_I_158_0.all (tb_chk 158) = true := by decide +kernel
set_option maxRecDepth 100000 in
theorem tb_c_158_1 : tb_I_158_1.all (tb_chk 158) = true := by decide +kernel
set_option maxRecDepth 100000 in
theorem tb_c_158_2 : tb_I_158_2.all (tb_chk 158) = true := by decide +kernel
set_option maxRecDepth 100000 in
theorem tb_c_158_3 : tb_I_158_3.all (tb_chk 158) = true := by decide +kernel
set_option maxRecDepth 100000 in
theorem tb_c_158_4 : tb_I_158_4.all (tb_chk 158) = true := by decide +kernel
set_option maxRecDepth 100000 in
theorem tb_c_159_0 : tb_I_159_0.all (tb_chk 159) = true := by decide +kernel
set_option maxRecDepth 100000 in
theorem tb_c_160_0 : tb_I_160_0.all (tb_chk 160) = true := by decide +kernel
set_option maxRecDepth 100000 in
theorem tb_c_161_0 : tb_I_161_0.all (tb_chk 161) = true := by decide +kernel
set_option maxRecDepth 100000 in
theorem tb_c_161_1 : tb_I_161_1.all (tb_chk 161) = true := by decide +kernel
set_option maxRecDepth 100000 in
theorem tb_c_161_2 : tb_I_161_2.all (tb_chk 161) = true := by decide +kernel
set_option maxRecDepth 100000 in
theorem tb_c_162_0 : tb_I_162_0.all (tb_chk 162) = true := by decide +kernel
set_option maxRecDepth 100000 in
theorem tb_c_162_1 : tb_I_162_1.all (tb_chk 162) = true := by decide +kernel
set_option maxRecDepth 100000 in
theorem tb_c_163_0 : tb_I_163_0.all (tb_chk 163) = true := by decide +kernel
set_option maxRecDepth 100000 in
theorem tb_c_164_0 : tb_I_164_0.all (tb_chk 164) = true := by decide +kernel
set_option maxRecDepth 100000 in
theorem tb_c_164_1 : tb_I_164_1.all (tb_chk 164) = true := by decide +kernel
set_option maxRecDepth 100000 in
theorem tb_c_164_2 : tb_I_164_2.all (tb_chk 164) = true := by decide +kernel
set_option maxRecDepth 100000 in
theorem tb_c_164_3 : tb_I_164_3.all (tb_chk 164) = true := by decide +kernel
end
section
/-! The lists are right (4). -/
set_option maxRecDepth 100000 in
theorem tb_c_165_0 : tb_I_165_0.all (tb_chk 165) = true := by decide +kernel
set_option maxRecDepth 100000 in
theorem tb_c_166_0 : tb_I_166_0.all (tb_chk 166) = true := by decide +kernel
set_option maxRecDepth 100000 in
theorem tb_c_167_0 : tb_I_167_0.all (tb_chk 167) = true := by decide +kernel
set_option maxRecDepth 100000 in
theorem tb_c_167_1 : tb_I_167_1.all (tb_chk 167) = true := by decide +kernel
set_option maxRecDepth 100000 in
theorem tb_c_167_2 : tb_I_167_2.all (tb_chk 167) = true := by decide +kernel
set_option maxRecDepth 100000 in
theorem tb_c_167_3 : tb_I_167_3.all (tb_chk 167) = true := by decide +kernel
set_option maxRecDepth 100000 in
theorem tb_c_168_0 : tb_I_168_0.all (tb_chk 168) = true := by decide +kernel
set_option maxRecDepth 100000 in
theorem tb_c_168_1 : tb_I_168_1.all (tb_chk 168) = true := by decide +kernel
set_option maxRecDepth 100000 in
theorem tb_c_168_2 : tb_I_168_2.all (tb_chk 168) = true := by decide +kernel
set_option maxRecDepth 100000 in
theorem tb_c_168_3 : tb_I_168_3.all (tb_chk 168) = true := by decide +kernel
set_option maxRecDepth 100000 in
theorem tb_c_169_0 : tb_I_169_0.all (tb_chk 169) = true := by decide +kernel
set_option maxRecDepth 100000 in
theorem tb_c_170_0 : tb_I_170_0.all (tb_chk 170) = true := by decide +kernel
set_option maxRecDepth 100000 in
theorem tb_c_171_0 : tb_I_171_0.all (tb_chk 171) = true := by decide +kernel
set_option maxRecDepth 100000 in
theorem tb_c_171_1 : tb_I_171_1.all (tb_chk 171) = true := by decide +kernel
set_option maxRecDepth 100000 in
theorem tb_c_171_2 : tb_I_171_2.all (tb_chk 171) = true := by decide +kernel
set_option maxRecDepth 100000 in
theorem tb_c_171_3 : tb_I_171_3.all (tb_chk 171) = true := by decide +kernel
set_option maxRecDepth 100000 in
theorem tb_c_172_0 : tb_I_172_0.all (tb_chk 172) = true := by decide +kernel
set_option maxRecDepth 100000 in
theorem tb_c_172_1 : tb_I_172_1.all (tb_chk 172) = true := by decide +kernel
set_option maxRecDepth 100000 in
theorem tb_c_172_2 : tb_I_172_2.all (tb_chk 172) = true := by decide +kernel
set_option maxRecDepth 100000 in
theorem tb_c_173_0 : tb_I_173_0.all (tb_chk 173) = true := by decide +kernel
set_option maxRecDepth 100000 in
theorem tb_c_173_1 : tb_I_173_1.all (tb_chk 173) = true := by decide +kernel
set_option maxRecDepth 100000 in
theorem tb_c_173_2 : tb_I_173_2.all (tb_chk 173) = true := by decide +kernel
set_option maxRecDepth 100000 in
theorem tb_c_173_3 : tb_I_173_3.all (tb_chk 173) = true := by decide +kernel
set_option maxRecDepth 100000 in
theorem tb_c_173_4 : tb_I_173_4.all (tb_chk 173) = true := by decide +kernel
set_option maxRecDepth 100000 in
theorem tb_c_173_5 : tb_I_173_5.all (tb_chk 173) = true := by decide +kernel
set_option maxRecDepth 100000 in
theorem tb_c_174_0 : tb_I_174_0.all (tb_chk 174) = true := by decide +kernel
set_option maxRecDepth 100000 in
theorem tb_c_175_0 : tb_I_175_0.all (tb_chk 175) = true := by decide +kernel
set_option maxRecDepth 100000 in
theorem tb_c_175_1 : tb_I_175_1.all (tb_chk 175) = true := by decide +kernel
set_option maxRecDepth 100000 in
theorem tb_c_176_0 : tb_I_176_0.all (tb_chk 176) = true := by decide +kernel
set_option maxRecDepth 100000 in
theorem tb_c_177_0 : tb_I_177_0.all (tb_chk 177) = true := by decide +kernel
set_option maxRecDepth 100000 in
theorem tb_c_178_0 : tb_I_178_0.all (tb_chk 178) = true := by decide +kernel
set_option maxRecDepth 100000 in
theorem tb_c_179_0 : tb_I_179_0.all (tb_chk 179) = true := by decide +kernel
set_option maxRecDepth 100000 in
theorem tb_c_179_1 : tb_I_179_1.all (tb_chk 179) = true := by decide +kernel
set_option maxRecDepth 100000 in
theorem tb_c_179_2 : tb_I_179_2.all (tb_chk 179) = true := by decide +kernel
set_option maxRecDepth 100000 in
theorem tb_c_179_3 : tb_I_179_3.all (tb_chk 179) = true := by decide +kernel
set_option maxRecDepth 100000 in
theorem tb_c_179_4 : tb_I_179_4.all (tb_chk 179) = true := by decide +kernel
set_option maxRecDepth 100000 in
theorem tb_c_180_0 : tb_I_180_0.all (tb_chk 180) = true := by decide +kernel
set_option maxRecDepth 100000 in
theorem tb_c_180_1 : tb_I_180_1.all (tb_chk 180) = true := by decide +kernel
set_option maxRecDepth 100000 in
theorem tb_c_180_2 : tb_I_180_2.all (tb_chk 180) = true := by decide +kernel
set_option maxRecDepth 100000 in
theorem tb_c_180_3 : tb_I_180_3.all (tb_chk 180) = true := by decide +kernel
set_option maxRecDepth 100000 in
theorem tb_c_181_0 : tb_I_181_0.all (tb_chk 181) = true := by decide +kernel
set_option maxRecDepth 100000 in
theorem tb_c_181_1 : tb_I_181_1.all (tb_chk 181) = true := by decide +kernel
set_option maxRecDepth 100000 in
theorem tb_c_181_2 : tb_I_181_2.all (tb_chk 181) = true := by decide +kernel
set_option maxRecDepth 100000 in
theorem tb_c_181_3 : tb_I_181_3.all (tb_chk 181) = true := by decide +kernel
set_option maxRecDepth 100000 in
theorem tb_c_182_0 : tb_I_182_0.all (tb_chk 182) = true := by decide +kernel
set_option maxRecDepth 100000 in
theorem tb_c_183_0 : tb_I_183_0.all (tb_chk 183) = true := by decide +kernel
set_option maxRecDepth 100000 in
theorem tb_c_183_1 : tb_I_183_1.all (tb_chk 183) = true := by decide +kernel
set_option maxRecDepth 100000 in
theorem tb_c_183_2 : tb_I_183_2.all (tb_chk 183) = true := by decide +kernel
set_option maxRecDepth 100000 in
theorem tb_c_183_3 : tb_I_183_3.all (tb_chk 183) = true := by decide +kernel
set_option maxRecDepth 100000 in
theorem tb_c_183_4 : tb_I_183_4.all (tb_chk 183) = true := by decide +kernel
set_option maxRecDepth 100000 in
theorem tb_c_183_5 : tb_I_183_5.all (tb_chk 183) = true := by decide +kernel
set_option maxRecDepth 100000 in
theorem tb_c_183_6 : tb_I_183_6.all (tb_chk 183) = true := by decide +kernel
set_option maxRecDepth 100000 in
theorem tb_c_183_7 : tb_I_183_7.all (tb_chk 183) = true := by decide +kernel
set_option maxRecDepth 100000 in
theorem tb_c_184_0 : tb_I_184_0.all (tb_chk 184) = true := by decide +kernel
set_option maxRecDepth 100000 in
theorem tb_c_184_1 : tb_I_184_1.all (tb_chk 184) = true := by decide +kernel
set_option maxRecDepth 100000 in
theorem tb_c_184_2 : tb_I_184_2.all (tb_chk 184) = true := by decide +kernel
set_option maxRecDepth 100000 in
theorem tb_c_184_3 : tb_I_184_3.all (tb_chk 184) = true := by decide +kernel
set_option maxRecDepth 100000 in
theorem tb_c_185_0 : tb_I_185_0.all (tb_chk 185) = true := by decide +kernel
set_option maxRecDepth 100000 in
theorem tb_c_186_0 : tb_I_186_0.all (tb_chk 186) = true := by decide +kernel
set_option maxRecDepth 100000 in
theorem tb_c_187_0 : tb_I_187_0.all (tb_chk 187) = true := by decide +kernel
set_option maxRecDepth 100000 in
theorem tb_c_188_0 : tb_I_188_0.all (tb_chk 188) = true := by decide +kernel
set_option maxRecDepth 100000 in
theorem tb_c_189_0 : tb_I_189_0.all (tb_chk 189) = true := by decide +kernel
set_option maxRecDepth 100000 in
theorem tb_c_189_1 : tb_I_189_1.all (tb_chk 189) = true := by decide +kernel
end
section
/-! The lists are right (5). -/
set_option maxRecDepth 100000 in
theorem tb_c_189_2 : tb_I_189_2.all (tb_chk 189) = true := by decide +kernel
set_option maxRecDepth 100000 in
theorem tb_c_189_3 : tb_I_189_3.all (tb_chk 189) = true := by decide +kernel
set_option maxRecDepth 100000 in
theorem tb_c_189_4 : tb_I_189_4.all (tb_chk 189) = true := by decide +kernel
set_option maxRecDepth 100000 in
theorem tb_c_190_0 : tb_I_190_0.all (tb_chk 190) = true := by decide +kernel
set_option maxRecDepth 100000 in
theorem tb_c_190_1 : tb_I_190_1.all (tb_chk 190) = true := by decide +kernel
set_option maxRecDepth 100000 in
theorem tb_c_190_2 : tb_I_190_2.all (tb_chk 190) = true := by decide +kernel
set_option maxRecDepth 100000 in
theorem tb_c_190_3 : tb_I_190_3.all (tb_chk 190) = true := by decide +kernel
set_option maxRecDepth 100000 in
theorem tb_c_190_4 : tb_I_190_4.all (tb_chk 190) = true := by decide +kernel
set_option maxRecDepth 100000 in
theorem tb_c_190_5 : tb_I_190_5.all (tb_chk 190) = true := by decide +kernel
set_option maxRecDepth 100000 in
theorem tb_c_191_0 : tb_I_191_0.all (tb_chk 191) = true := by decide +kernel
set_option maxRecDepth 100000 in
theorem tb_c_191_1 : tb_I_191_1.all (tb_chk 191) = true := by decide +kernel
set_option maxRecDepth 100000 in
theorem tb_c_191_2 : tb_I_191_2.all (tb_chk 191) = true := by decide +kernel
set_option maxRecDepth 100000 in
theorem tb_c_191_3 : tb_I_191_3.all (tb_chk 191) = true := by decide +kernel
set_option maxRecDepth 100000 in
theorem tb_c_192_0 : tb_I_192_0.all (tb_chk 192) = true := by decide +kernel
set_option maxRecDepth 100000 in
theorem tb_c_192_1 : tb_I_192_1.all (tb_chk 192) = true := by decide +kernel
set_option maxRecDepth 100000 in
theorem tb_c_192_2 : tb_I_192_2.all (tb_chk 192) = true := by decide +kernel
set_option maxRecDepth 100000 in
theorem tb_c_193_0 : tb_I_193_0.all (tb_chk 193) = true := by decide +kernel
set_option maxRecDepth 100000 in
theorem tb_c_194_0 : tb_I_194_0.all (tb_chk 194) = true := by decide +kernel
set_option maxRecDepth 100000 in
theorem tb_c_194_1 : tb_I_194_1.all (tb_chk 194) = true := by decide +kernel
set_option maxRecDepth 100000 in
theorem tb_c_195_0 : tb_I_195_0.all (tb_chk 195) = true := by decide +kernel
set_option maxRecDepth 100000 in
theorem tb_c_195_1 : tb_I_195_1.all (tb_chk 195) = true := by decide +kernel
set_option maxRecDepth 100000 in
theorem tb_c_195_2 : tb_I_195_2.all (tb_chk 195) = true := by decide +kernel
set_option maxRecDepth 100000 in
theorem tb_c_195_3 : tb_I_195_3.all (tb_chk 195) = true := by decide +kernel
set_option maxRecDepth 100000 in
theorem tb_c_195_4 : tb_I_195_4.all (tb_chk 195) = true := by decide +kernel
set_option maxRecDepth 100000 in
theorem tb_c_196_0 : tb_I_196_0.all (tb_chk 196) = true := by decide +kernel
set_option maxRecDepth 100000 in
theorem tb_c_197_0 : tb_I_197_0.all (tb_chk 197) = true := by decide +kernel
set_option maxRecDepth 100000 in
theorem tb_c_198_0 : tb_I_198_0.all (tb_chk 198) = true := by decide +kernel
set_option maxRecDepth 100000 in
theorem tb_c_199_0 : tb_I_199_0.all (tb_chk 199) = true := by decide +kernel
set_option maxRecDepth 100000 in
theorem tb_c_200_0 : tb_I_200_0.all (tb_chk 200) = true := by decide +kernel
set_option maxRecDepth 100000 in
theorem tb_c_200_1 : tb_I_200_1.all (tb_chk 200) = true := by decide +kernel
set_option maxRecDepth 100000 in
theorem tb_c_200_2 : tb_I_200_2.all (tb_chk 200) = true := by decide +kernel
set_option maxRecDepth 100000 in
theorem tb_c_200_3 : tb_I_200_3.all (tb_chk 200) = true := by decide +kernel
set_option maxRecDepth 100000 in
theorem tb_c_200_4 : tb_I_200_4.all (tb_chk 200) = true := by decide +kernel
set_option maxRecDepth 100000 in
theorem tb_c_200_5 : tb_I_200_5.all (tb_chk 200) = true := by decide +kernel
set_option maxRecDepth 100000 in
theorem tb_c_200_6 : tb_I_200_6.all (tb_chk 200) = true := by decide +kernel
set_option maxRecDepth 100000 in
theorem tb_c_201_0 : tb_I_201_0.all (tb_chk 201) = true := by decide +kernel
set_option maxRecDepth 100000 in
theorem tb_c_202_0 : tb_I_202_0.all (tb_chk 202) = true := by decide +kernel
set_option maxRecDepth 100000 in
theorem tb_c_203_0 : tb_I_203_0.all (tb_chk 203) = true := by decide +kernel
set_option maxRecDepth 100000 in
theorem tb_c_204_0 : tb_I_204_0.all (tb_chk 204) = true := by decide +kernel
set_option maxRecDepth 100000 in
theorem tb_c_205_0 : tb_I_205_0.all (tb_chk 205) = true := by decide +kernel
set_option maxRecDepth 100000 in
theorem tb_c_206_0 : tb_I_206_0.all (tb_chk 206) = true := by decide +kernel
set_option maxRecDepth 100000 in
theorem tb_c_206_1 : tb_I_206_1.all (tb_chk 206) = true := by decide +kernel
set_option maxRecDepth 100000 in
theorem tb_c_206_2 : tb_I_206_2.all (tb_chk 206) = true := by decide +kernel
set_option maxRecDepth 100000 in
theorem tb_c_206_3 : tb_I_206_3.all (tb_chk 206) = true := by decide +kernel
set_option maxRecDepth 100000 in
theorem tb_c_207_0 : tb_I_207_0.all (tb_chk 207) = true := by decide +kernel
set_option maxRecDepth 100000 in
theorem tb_c_208_0 : tb_I_208_0.all (tb_chk 208) = true := by decide +kernel
set_option maxRecDepth 100000 in
theorem tb_c_209_0 : tb_I_209_0.all (tb_chk 209) = true := by decide +kernel
set_option maxRecDepth 100000 in
theorem tb_c_210_0 : tb_I_210_0.all (tb_chk 210) = true := by decide +kernel
set_option maxRecDepth 100000 in
theorem tb_c_211_0 : tb_I_211_0.all (tb_chk 211) = true := by decide +kernel
set_option maxRecDepth 100000 in
theorem tb_c_212_0 : tb_I_212_0.all (tb_chk 212) = true := by decide +kernel
set_option maxRecDepth 100000 in
theorem tb_c_213_0 : tb_I_213_0.all (tb_chk 213) = true := by decide +kernel
set_option maxRecDepth 100000 in
theorem tb_c_214_0 : tb_I_214_0.all (tb_chk 214) = true := by decide +kernel
set_option maxRecDepth 100000 in
theorem tb_c_215_0 : tb_I_215_0.all (tb_chk 215) = true := by decide +kernel
set_option maxRecDepth 100000 in
theorem tb_c_216_0 : tb_I_216_0.all (tb_chk 216) = true := by decide +kernel
set_option maxRecDepth 100000 in
theorem tb_c_217_0 : tb_I_217_0.all (tb_chk 217) = true := by decide +kernel
set_option maxRecDepth 100000 in
theorem tb_c_218_0 : tb_I_218_0.all (tb_chk 218) = true := by decide +kernel
set_option maxRecDepth 100000 in
theorem tb_c_219_0 : tb_I_219_0.all (tb_chk 219) = true := by decide +kernel
set_option maxRecDepth 100000 in
theorem tb_c_220_0 : tb_I_220_0.all (tb_chk 220) = true := by decide +kernel
end
section
/-! The lists together; the world after both constructors. -/
theorem tb_j_0 : tb_ok1 0 = true := by
  have h : tb_ok1 0 = (tb_I_0_14.all (tb_chk 0) && (tb_I_0_13.all (tb_chk 0) && (tb_I_0_12.all (tb_chk 0) && (tb_I_0_11.all (tb_chk 0) && (tb_I_0_10.all (tb_chk 0) && (tb_I_0_9.all (tb_chk 0) && (tb_I_0_8.all (tb_chk 0) && (tb_I_0_7.all (tb_chk 0) && (tb_I_0_6.all (tb_chk 0) && (tb_I_0_5.all (tb_chk 0) && (tb_I_0_4.all (tb_chk 0) && (tb_I_0_3.all (tb_chk 0) && (tb_I_0_2.all (tb_chk 0) && (tb_I_0_1.all (tb_chk 0) && (tb_I_0_0.all (tb_chk 0) && true))))))))))))))) := rfl
  rw [h, tb_c_0_14, tb_c_0_13, tb_c_0_12, tb_c_0_11, tb_c_0_10, tb_c_0_9, tb_c_0_8, tb_c_0_7, tb_c_0_6, tb_c_0_5, tb_c_0_4, tb_c_0_3, tb_c_0_2, tb_c_0_1, tb_c_0_0]
  rfl
theorem tb_j_1 : tb_ok1 1 = true := by
  have h : tb_ok1 1 = (tb_I_1_3.all (tb_chk 1) && (tb_I_1_2.all (tb_chk 1) && (tb_I_1_1.all (tb_chk 1) && (tb_I_1_0.all (tb_chk 1) && true)))) := rfl
  rw [h, tb_c_1_3, tb_c_1_2, tb_c_1_1, tb_c_1_0]
  rfl
theorem tb_j_2 : tb_ok1 2 = true := by
  have h : tb_ok1 2 = (tb_I_2_0.all (tb_chk 2) && true) := rfl
  rw [h, tb_c_2_0]
  rfl
theorem tb_j_3 : tb_ok1 3 = true := by
  have h : tb_ok1 3 = (tb_I_3_0.all (tb_chk 3) && true) := rfl
  rw [h, tb_c_3_0]
  rfl
theorem tb_j_4 : tb_ok1 4 = true := by
  have h : tb_ok1 4 = (tb_I_4_0.all (tb_chk 4) && true) := rfl
  rw [h, tb_c_4_0]
  rfl
theorem tb_j_5 : tb_ok1 5 = true := by
  have h : tb_ok1 5 = (tb_I_5_0.all (tb_chk 5) && true) := rfl
  rw [h, tb_c_5_0]
  rfl
theorem tb_j_6 : tb_ok1 6 = true := by
  have h : tb_ok1 6 = (tb_I_6_1.all (tb_chk 6) && (tb_I_6_0.all (tb_chk 6) && true)) := rfl
  rw [h, tb_c_6_1, tb_c_6_0]
  rfl
theorem tb_j_7 : tb_ok1 7 = true := by
  have h : tb_ok1 7 = (tb_I_7_1.all (tb_chk 7) && (tb_I_7_0.all (tb_chk 7) && true)) := rfl
  rw [h, tb_c_7_1, tb_c_7_0]
  rfl
theorem tb_j_8 : tb_ok1 8 = true := by
  have h : tb_ok1 8 = (tb_I_8_0.all (tb_chk 8) && true) := rfl
  rw [h, tb_c_8_0]
  rfl
theorem tb_j_9 : tb_ok1 9 = true := by
  have h : tb_ok1 9 = (tb_I_9_0.all (tb_chk 9) && true) := rfl
  rw [h, tb_c_9_0]
  rfl
theorem tb_j_10 : tb_ok1 10 = true := by
  have h : tb_ok1 10 = (tb_I_10_1.all (tb_chk 10) && (tb_I_10_0.all (tb_chk 10) && true)) := rfl
  rw [h, tb_c_10_1, tb_c_10_0]
  rfl
theorem tb_j_11 : tb_ok1 11 = true := by
  have h : tb_ok1 11 = (tb_I_11_1.all (tb_chk 11) && (tb_I_11_0.all (tb_chk 11) && true)) := rfl
  rw [h, tb_c_11_1, tb_c_11_0]
  rfl
theorem tb_j_12 : tb_ok1 12 = true := by
  have h : tb_ok1 12 = (tb_I_12_0.all (tb_chk 12) && true) := rfl
  rw [h, tb_c_12_0]
  rfl
theorem tb_j_13 : tb_ok1 13 = true := by
  have h : tb_ok1 13 = (tb_I_13_0.all (tb_chk 13) && true) := rfl
  rw [h, tb_c_13_0]
  rfl
theorem tb_j_14 : tb_ok1 14 = true := by
  have h : tb_ok1 14 = (tb_I_14_1.all (tb_chk 14) && (tb_I_14_0.all (tb_chk 14) && true)) := rfl
  rw [h, tb_c_14_1, tb_c_14_0]
  rfl
theorem tb_j_15 : tb_ok1 15 = true := by
  have h : tb_ok1 15 = (tb_I_15_0.all (tb_chk 15) && true) := rfl
  rw [h, tb_c_15_0]
  rfl
theorem tb_j_16 : tb_ok1 16 = true := by
  have h : tb_ok1 16 = (tb_I_16_0.all (tb_chk 16) && true) := rfl
  rw [h, tb_c_16_0]
  rfl
theorem tb_j_17 : tb_ok1 17 = true := by
  have h : tb_ok1 17 = (tb_I_17_1.all (tb_chk 17) && (tb_I_17_0.all (tb_chk 17) && true)) := rfl
  rw [h, tb_c_17_1, tb_c_17_0]
  rfl
theorem tb_j_18 : tb_ok1 18 = true := by
  have h : tb_ok1 18 = (tb_I_18_0.all (tb_chk 18) && true) := rfl
  rw [h, tb_c_18_0]
  rfl
theorem tb_j_19 : tb_ok1 19 = true := by
  have h : tb_ok1 19 = (tb_I_19_0.all (tb_chk 19) && true) := rfl
  rw [h, tb_c_19_0]
  rfl
theorem tb_j_20 : tb_ok1 20 = true := by
  have h : tb_ok1 20 = (tb_I_20_0.all (tb_chk 20) && true) := rfl
  rw [h, tb_c_20_0]
  rfl
theorem tb_j_21 : tb_ok1 21 = true := by
  have h : tb_ok1 21 = (tb_I_21_2.all (tb_chk 21) && (tb_I_21_1.all (tb_chk 21) && (tb_I_21_0.all (tb_chk 21) && true))) := rfl
  rw [h, tb_c_21_2, tb_c_21_1, tb_c_21_0]
  rfl
theorem tb_j_22 : tb_ok1 22 = true := by
  have h : tb_ok1 22 = (tb_I_22_0.all (tb_chk 22) && true) := rfl
  rw [h, tb_c_22_0]
  rfl
theorem tb_j_23 : tb_ok1 23 = true := by
  have h : tb_ok1 23 = (tb_I_23_0.all (tb_chk 23) && true) := rfl
  rw [h, tb_c_23_0]
  rfl
theorem tb_j_24 : tb_ok1 24 = true := by
  have h : tb_ok1 24 = (tb_I_24_0.all (tb_chk 24) && true) := rfl
  rw [h, tb_c_24_0]
  rfl
theorem tb_j_25 : tb_ok1 25 = true := by
  have h : tb_ok1 25 = (tb_I_25_0.all (tb_chk 25) && true) := rfl
  rw [h, tb_c_25_0]
  rfl
theorem tb_j_26 : tb_ok1 26 = true := by
  have h : tb_ok1 26 = (tb_I_26_0.all (tb_chk 26) && true) := rfl
  rw [h, tb_c_26_0]
  rfl
theorem tb_j_27 : tb_ok1 27 = true := by
  have h : tb_ok1 27 = (tb_I_27_1.all (tb_chk 27) && (tb_I_27_0.all (tb_chk 27) && true)) := rfl
  rw [h, tb_c_27_1, tb_c_27_0]
  rfl
theorem tb_j_28 : tb_ok1 28 = true := by
  have h : tb_ok1 28 = (tb_I_28_0.all (tb_chk 28) && true) := rfl
  rw [h, tb_c_28_0]
  rfl
theorem tb_j_29 : tb_ok1 29 = true := by
  have h : tb_ok1 29 = (tb_I_29_0.all (tb_chk 29) && true) := rfl
  rw [h, tb_c_29_0]
  rfl
theorem tb_j_30 : tb_ok1 30 = true := by
  have h : tb_ok1 30 = (tb_I_30_0.all (tb_chk 30) && true) := rfl
  rw [h, tb_c_30_0]
  rfl
theorem tb_j_31 : tb_ok1 31 = true := by
  have h : tb_ok1 31 = (tb_I_31_2.all (tb_chk 31) && (tb_I_31_1.all (tb_chk 31) && (tb_I_31_0.all (tb_chk 31) && true))) := rfl
  rw [h, tb_c_31_2, tb_c_31_1, tb_c_31_0]
  rfl
theorem tb_j_32 : tb_ok1 32 = true := by
  have h : tb_ok1 32 = (tb_I_32_0.all (tb_chk 32) && true) := rfl
  rw [h, tb_c_32_0]
  rfl
theorem tb_j_33 : tb_ok1 33 = true := by
  have h : tb_ok1 33 = (tb_I_33_0.all (tb_chk 33) && true) := rfl
  rw [h, tb_c_33_0]
  rfl
theorem tb_j_34 : tb_ok1 34 = true := by
  have h : tb_ok1 34 = (tb_I_34_0.all (tb_chk 34) && true) := rfl
  rw [h, tb_c_34_0]
  rfl
theorem tb_j_35 : tb_ok1 35 = true := by
  have h : tb_ok1 35 = (tb_I_35_0.all (tb_chk 35) && true) := rfl
  rw [h, tb_c_35_0]
  rfl
theorem tb_j_36 : tb_ok1 36 = true := by
  have h : tb_ok1 36 = (tb_I_36_0.all (tb_chk 36) && true) := rfl
  rw [h, tb_c_36_0]
  rfl
theorem tb_j_37 : tb_ok1 37 = true := by
  have h : tb_ok1 37 = (tb_I_37_0.all (tb_chk 37) && true) := rfl
  rw [h, tb_c_37_0]
  rfl
theorem tb_j_38 : tb_ok1 38 = true := by
  have h : tb_ok1 38 = (tb_I_38_0.all (tb_chk 38) && true) := rfl
  rw [h, tb_c_38_0]
  rfl
theorem tb_j_39 : tb_ok1 39 = true := by
  have h : tb_ok1 39 = (tb_I_39_0.all (tb_chk 39) && true) := rfl
  rw [h, tb_c_39_0]
  rfl
theorem tb_j_40 : tb_ok1 40 = true := by
  have h : tb_ok1 40 = (tb_I_40_0.all (tb_chk 40) && true) := rfl
  rw [h, tb_c_40_0]
  rfl
theorem tb_j_41 : tb_ok1 41 = true := by
  have h : tb_ok1 41 = (tb_I_41_0.all (tb_chk 41) && true) := rfl
  rw [h, tb_c_41_0]
  rfl
theorem tb_j_42 : tb_ok1 42 = true := by
  have h : tb_ok1 42 = (tb_I_42_0.all (tb_chk 42) && true) := rfl
  rw [h, tb_c_42_0]
  rfl
theorem tb_j_43 : tb_ok1 43 = true := by
  have h : tb_ok1 43 = (tb_I_43_0.all (tb_chk 43) && true) := rfl
  rw [h, tb_c_43_0]
  rfl
theorem tb_j_44 : tb_ok1 44 = true := by
  have h : tb_ok1 44 = (tb_I_44_0.all (tb_chk 44) && true) := rfl
  rw [h, tb_c_44_0]
  rfl
theorem tb_j_45 : tb_ok1 45 = true := by
  have h : tb_ok1 45 = (tb_I_45_1.all (tb_chk 45) && (tb_I_45_0.all (tb_chk 45) && true)) := rfl
  rw [h, tb_c_45_1, tb_c_45_0]
  rfl
theorem tb_j_46 : tb_ok1 46 = true := by
  have h : tb_ok1 46 = (tb_I_46_1.all (tb_chk 46) && (tb_I_46_0.all (tb_chk 46) && true)) := rfl
  rw [h, tb_c_46_1, tb_c_46_0]
  rfl
theorem tb_j_47 : tb_ok1 47 = true := by
  have h : tb_ok1 47 = (tb_I_47_1.all (tb_chk 47) && (tb_I_47_0.all (tb_chk 47) && true)) := rfl
  rw [h, tb_c_47_1, tb_c_47_0]
  rfl
theorem tb_j_48 : tb_ok1 48 = true := by
  have h : tb_ok1 48 = (tb_I_48_1.all (tb_chk 48) && (tb_I_48_0.all (tb_chk 48) && true)) := rfl
  rw [h, tb_c_48_1, tb_c_48_0]
  rfl
theorem tb_j_49 : tb_ok1 49 = true := by
  have h : tb_ok1 49 = (tb_I_49_0.all (tb_chk 49) && true) := rfl
  rw [h, tb_c_49_0]
  rfl
theorem tb_j_50 : tb_ok1 50 = true := by
  have h : tb_ok1 50 = (tb_I_50_0.all (tb_chk 50) && true) := rfl
  rw [h, tb_c_50_0]
  rfl
theorem tb_j_51 : tb_ok1 51 = true := by
  have h : tb_ok1 51 = (tb_I_51_0.all (tb_chk 51) && true) := rfl
  rw [h, tb_c_51_0]
  rfl
theorem tb_j_52 : tb_ok1 52 = true := by
  have h : tb_ok1 52 = (tb_I_52_1.all (tb_chk 52) && (tb_I_52_0.all (tb_chk 52) && true)) := rfl
  rw [h, tb_c_52_1, tb_c_52_0]
  rfl
theorem tb_j_53 : tb_ok1 53 = true := by
  have h : tb_ok1 53 = (tb_I_53_0.all (tb_chk 53) && true) := rfl
  rw [h, tb_c_53_0]
  rfl
theorem tb_j_54 : tb_ok1 54 = true := by
  have h : tb_ok1 54 = (tb_I_54_1.all (tb_chk 54) && (tb_I_54_0.all (tb_chk 54) && true)) := rfl
  rw [h, tb_c_54_1, tb_c_54_0]
  rfl
theorem tb_j_55 : tb_ok1 55 = true := by
  have h : tb_ok1 55 = (tb_I_55_0.all (tb_chk 55) && true) := rfl
  rw [h, tb_c_55_0]
  rfl
theorem tb_j_56 : tb_ok1 56 = true := by
  have h : tb_ok1 56 = (tb_I_56_0.all (tb_chk 56) && true) := rfl
  rw [h, tb_c_56_0]
  rfl
theorem tb_j_57 : tb_ok1 57 = true := by
  have h : tb_ok1 57 = (tb_I_57_0.all (tb_chk 57) && true) := rfl
  rw [h, tb_c_57_0]
  rfl
theorem tb_j_58 : tb_ok1 58 = true := by
  have h : tb_ok1 58 = (tb_I_58_1.all (tb_chk 58) && (tb_I_58_0.all (tb_chk 58) && true)) := rfl
  rw [h, tb_c_58_1, tb_c_58_0]
  rfl
theorem tb_j_59 : tb_ok1 59 = true := by
  have h : tb_ok1 59 = (tb_I_59_0.all (tb_chk 59) && true) := rfl
  rw [h, tb_c_59_0]
  rfl
theorem tb_j_60 : tb_ok1 60 = true := by
  have h : tb_ok1 60 = (tb_I_60_0.all (tb_chk 60) && true) := rfl
  rw [h, tb_c_60_0]
  rfl
theorem tb_j_61 : tb_ok1 61 = true := by
  have h : tb_ok1 61 = (tb_I_61_0.all (tb_chk 61) && true) := rfl
  rw [h, tb_c_61_0]
  rfl
theorem tb_j_62 : tb_ok1 62 = true := by
  have h : tb_ok1 62 = (tb_I_62_0.all (tb_chk 62) && true) := rfl
  rw [h, tb_c_62_0]
  rfl
theorem tb_j_63 : tb_ok1 63 = true := by
  have h : tb_ok1 63 = (tb_I_63_0.all (tb_chk 63) && true) := rfl
  rw [h, tb_c_63_0]
  rfl
theorem tb_j_64 : tb_ok1 64 = true := by
  have h : tb_ok1 64 = (tb_I_64_0.all (tb_chk 64) && true) := rfl
  rw [h, tb_c_64_0]
  rfl
theorem tb_j_65 : tb_ok1 65 = true := by
  have h : tb_ok1 65 = (tb_I_65_0.all (tb_chk 65) && true) := rfl
  rw [h, tb_c_65_0]
  rfl
theorem tb_j_66 : tb_ok1 66 = true := by
  have h : tb_ok1 66 = (tb_I_66_0.all (tb_chk 66) && true) := rfl
  rw [h, tb_c_66_0]
  rfl
theorem tb_j_67 : tb_ok1 67 = true := by
  have h : tb_ok1 67 = (tb_I_67_0.all (tb_chk 67) && true) := rfl
  rw [h, tb_c_67_0]
  rfl
theorem tb_j_68 : tb_ok1 68 = true := by
  have h : tb_ok1 68 = (tb_I_68_0.all (tb_chk 68) && true) := rfl
  rw [h, tb_c_68_0]
  rfl
theorem tb_j_69 : tb_ok1 69 = true := by
  have h : tb_ok1 69 = (tb_I_69_0.all (tb_chk 69) && true) := rfl
  rw [h, tb_c_69_0]
  rfl
theorem tb_j_70 : tb_ok1 70 = true := by
  have h : tb_ok1 70 = (tb_I_70_0.all (tb_chk 70) && true) := rfl
  rw [h, tb_c_70_0]
  rfl
theorem tb_j_71 : tb_ok1 71 = true := by
  have h : tb_ok1 71 = (tb_I_71_0.all (tb_chk 71) && true) := rfl
  rw [h, tb_c_71_0]
  rfl
theorem tb_j_72 : tb_ok1 72 = true := by
  have h : tb_ok1 72 = (tb_I_72_0.all (tb_chk 72) && true) := rfl
  rw [h, tb_c_72_0]
  rfl
theorem tb_j_73 : tb_ok1 73 = true := by
  have h : tb_ok1 73 = (tb_I_73_0.all (tb_chk 73) && true) := rfl
  rw [h, tb_c_73_0]
  rfl
theorem tb_j_74 : tb_ok1 74 = true := by
  have h : tb_ok1 74 = (tb_I_74_0.all (tb_chk 74) && true) := rfl
  rw [h, tb_c_74_0]
  rfl
theorem tb_j_75 : tb_ok1 75 = true := by
  have h : tb_ok1 75 = (tb_I_75_0.all (tb_chk 75) && true) := rfl
  rw [h, tb_c_75_0]
  rfl
theorem tb_j_76 : tb_ok1 76 = true := by
  have h : tb_ok1 76 = (tb_I_76_0.all (tb_chk 76) && true) := rfl
  rw [h, tb_c_76_0]
  rfl
theorem tb_j_77 : tb_ok1 77 = true := by
  have h : tb_ok1 77 = (tb_I_77_0.all (tb_chk 77) && true) := rfl
  rw [h, tb_c_77_0]
  rfl
theorem tb_j_78 : tb_ok1 78 = true := by
  have h : tb_ok1 78 = (tb_I_78_0.all (tb_chk 78) && true) := rfl
  rw [h, tb_c_78_0]
  rfl
theorem tb_j_79 : tb_ok1 79 = true := by
  have h : tb_ok1 79 = (tb_I_79_0.all (tb_chk 79) && true) := rfl
  rw [h, tb_c_79_0]
  rfl
theorem tb_j_80 : tb_ok1 80 = true := by
  have h : tb_ok1 80 = (tb_I_80_0.all (tb_chk 80) && true) := rfl
  rw [h, tb_c_80_0]
  rfl
theorem tb_j_81 : tb_ok1 81 = true := by
  have h : tb_ok1 81 = (tb_I_81_1.all (tb_chk 81) && (tb_I_81_0.all (tb_chk 81) && true)) := rfl
  rw [h, tb_c_81_1, tb_c_81_0]
  rfl
theorem tb_j_82 : tb_ok1 82 = true := by
  have h : tb_ok1 82 = (tb_I_82_1.all (tb_chk 82) && (tb_I_82_0.all (tb_chk 82) && true)) := rfl
  rw [h, tb_c_82_1, tb_c_82_0]
  rfl
theorem tb_j_83 : tb_ok1 83 = true := by
  have h : tb_ok1 83 = (tb_I_83_0.all (tb_chk 83) && true) := rfl
  rw [h, tb_c_83_0]
  rfl
theorem tb_j_84 : tb_ok1 84 = true := by
  have h : tb_ok1 84 = (tb_I_84_1.all (tb_chk 84) && (tb_I_84_0.all (tb_chk 84) && true)) := rfl
  rw [h, tb_c_84_1, tb_c_84_0]
  rfl
theorem tb_j_85 : tb_ok1 85 = true := by
  have h : tb_ok1 85 = (tb_I_85_0.all (tb_chk 85) && true) := rfl
  rw [h, tb_c_85_0]
  rfl
theorem tb_j_86 : tb_ok1 86 = true := by
  have h : tb_ok1 86 = (tb_I_86_1.all (tb_chk 86) && (tb_I_86_0.all (tb_chk 86) && true)) := rfl
  rw [h, tb_c_86_1, tb_c_86_0]
  rfl
theorem tb_j_87 : tb_ok1 87 = true := by
  have h : tb_ok1 87 = (tb_I_87_0.all (tb_chk 87) && true) := rfl
  rw [h, tb_c_87_0]
  rfl
theorem tb_j_88 : tb_ok1 88 = true := by
  have h : tb_ok1 88 = (tb_I_88_0.all (tb_chk 88) && true) := rfl
  rw [h, tb_c_88_0]
  rfl
theorem tb_j_89 : tb_ok1 89 = true := by
  have h : tb_ok1 89 = (tb_I_89_0.all (tb_chk 89) && true) := rfl
  rw [h, tb_c_89_0]
  rfl
theorem tb_j_90 : tb_ok1 90 = true := by
  have h : tb_ok1 90 = (tb_I_90_0.all (tb_chk 90) && true) := rfl
  rw [h, tb_c_90_0]
  rfl
theorem tb_j_91 : tb_ok1 91 = true := by
  have h : tb_ok1 91 = (tb_I_91_0.all (tb_chk 91) && true) := rfl
  rw [h, tb_c_91_0]
  rfl
theorem tb_j_92 : tb_ok1 92 = true := by
  have h : tb_ok1 92 = (tb_I_92_0.all (tb_chk 92) && true) := rfl
  rw [h, tb_c_92_0]
  rfl
theorem tb_j_93 : tb_ok1 93 = true := by
  have h : tb_ok1 93 = (tb_I_93_1.all (tb_chk 93) && (tb_I_93_0.all (tb_chk 93) && true)) := rfl
  rw [h, tb_c_93_1, tb_c_93_0]
  rfl
theorem tb_j_94 : tb_ok1 94 = true := by
  have h : tb_ok1 94 = (tb_I_94_1.all (tb_chk 94) && (tb_I_94_0.all (tb_chk 94) && true)) := rfl
  rw [h, tb_c_94_1, tb_c_94_0]
  rfl
theorem tb_j_95 : tb_ok1 95 = true := by
  have h : tb_ok1 95 = (tb_I_95_0.all (tb_chk 95) && true) := rfl
  rw [h, tb_c_95_0]
  rfl
theorem tb_j_96 : tb_ok1 96 = true := by
  have h : tb_ok1 96 = (tb_I_96_0.all (tb_chk 96) && true) := rfl
  rw [h, tb_c_96_0]
  rfl
theorem tb_j_97 : tb_ok1 97 = true := by
  have h : tb_ok1 97 = (tb_I_97_1.all (tb_chk 97) && (tb_I_97_0.all (tb_chk 97) && true)) := rfl
  rw [h, tb_c_97_1, tb_c_97_0]
  rfl
theorem tb_j_98 : tb_ok1 98 = true := by
  have h : tb_ok1 98 = (tb_I_98_2.all (tb_chk 98) && (tb_I_98_1.all (tb_chk 98) && (tb_I_98_0.all (tb_chk 98) && true))) := rfl
  rw [h, tb_c_98_2, tb_c_98_1, tb_c_98_0]
  rfl
theorem tb_j_99 : tb_ok1 99 = true := by
  have h : tb_ok1 99 = (tb_I_99_1.all (tb_chk 99) && (tb_I_99_0.all (tb_chk 99) && true)) := rfl
  rw [h, tb_c_99_1, tb_c_99_0]
  rfl
theorem tb_j_100 : tb_ok1 100 = true := by
  have h : tb_ok1 100 = (tb_I_100_2.all (tb_chk 100) && (tb_I_100_1.all (tb_chk 100) && (tb_I_100_0.all (tb_chk 100) && true))) := rfl
  rw [h, tb_c_100_2, tb_c_100_1, tb_c_100_0]
  rfl
theorem tb_j_101 : tb_ok1 101 = true := by
  have h : tb_ok1 101 = (tb_I_101_1.all (tb_chk 101) && (tb_I_101_0.all (tb_chk 101) && true)) := rfl
  rw [h, tb_c_101_1, tb_c_101_0]
  rfl
theorem tb_j_102 : tb_ok1 102 = true := by
  have h : tb_ok1 102 = (tb_I_102_0.all (tb_chk 102) && true) := rfl
  rw [h, tb_c_102_0]
  rfl
theorem tb_j_103 : tb_ok1 103 = true := by
  have h : tb_ok1 103 = (tb_I_103_0.all (tb_chk 103) && true) := rfl
  rw [h, tb_c_103_0]
  rfl
theorem tb_j_104 : tb_ok1 104 = true := by
  have h : tb_ok1 104 = (tb_I_104_1.all (tb_chk 104) && (tb_I_104_0.all (tb_chk 104) && true)) := rfl
  rw [h, tb_c_104_1, tb_c_104_0]
  rfl
theorem tb_j_105 : tb_ok1 105 = true := by
  have h : tb_ok1 105 = (tb_I_105_1.all (tb_chk 105) && (tb_I_105_0.all (tb_chk 105) && true)) := rfl
  rw [h, tb_c_105_1, tb_c_105_0]
  rfl
theorem tb_j_106 : tb_ok1 106 = true := by
  have h : tb_ok1 106 = (tb_I_106_1.all (tb_chk 106) && (tb_I_106_0.all (tb_chk 106) && true)) := rfl
  rw [h, tb_c_106_1, tb_c_106_0]
  rfl
theorem tb_j_107 : tb_ok1 107 = true := by
  have h : tb_ok1 107 = (tb_I_107_1.all (tb_chk 107) && (tb_I_107_0.all (tb_chk 107) && true)) := rfl
  rw [h, tb_c_107_1, tb_c_107_0]
  rfl
theorem tb_j_108 : tb_ok1 108 = true := by
  have h : tb_ok1 108 = (tb_I_108_0.all (tb_chk 108) && true) := rfl
  rw [h, tb_c_108_0]
  rfl
theorem tb_j_109 : tb_ok1 109 = true := by
  have h : tb_ok1 109 = (tb_I_109_0.all (tb_chk 109) && true) := rfl
  rw [h, tb_c_109_0]
  rfl
theorem tb_j_110 : tb_ok1 110 = true := by
  have h : tb_ok1 110 = (tb_I_110_0.all (tb_chk 110) && true) := rfl
  rw [h, tb_c_110_0]
  rfl
theorem tb_j_111 : tb_ok1 111 = true := by
  have h : tb_ok1 111 = (tb_I_111_1.all (tb_chk 111) && (tb_I_111_0.all (tb_chk 111) && true)) := rfl
  rw [h, tb_c_111_1, tb_c_111_0]
  rfl
theorem tb_j_112 : tb_ok1 112 = true := by
  have h : tb_ok1 112 = (tb_I_112_0.all (tb_chk 112) && true) := rfl
  rw [h, tb_c_112_0]
  rfl
theorem tb_j_113 : tb_ok1 113 = true := by
  have h : tb_ok1 113 = (tb_I_113_0.all (tb_chk 113) && true) := rfl
  rw [h, tb_c_113_0]
  rfl
theorem tb_j_114 : tb_ok1 114 = true := by
  have h : tb_ok1 114 = (tb_I_114_1.all (tb_chk 114) && (tb_I_114_0.all (tb_chk 114) && true)) := rfl
  rw [h, tb_c_114_1, tb_c_114_0]
  rfl
theorem tb_j_115 : tb_ok1 115 = true := by
  have h : tb_ok1 115 = (tb_I_115_1.all (tb_chk 115) && (tb_I_115_0.all (tb_chk 115) && true)) := rfl
  rw [h, tb_c_115_1, tb_c_115_0]
  rfl
theorem tb_j_116 : tb_ok1 116 = true := by
  have h : tb_ok1 116 = (tb_I_116_0.all (tb_chk 116) && true) := rfl
  rw [h, tb_c_116_0]
  rfl
theorem tb_j_117 : tb_ok1 117 = true := by
  have h : tb_ok1 117 = (tb_I_117_0.all (tb_chk 117) && true) := rfl
  rw [h, tb_c_117_0]
  rfl
theorem tb_j_118 : tb_ok1 118 = true := by
  have h : tb_ok1 118 = (tb_I_118_0.all (tb_chk 118) && true) := rfl
  rw [h, tb_c_118_0]
  rfl
theorem tb_j_119 : tb_ok1 119 = true := by
  have h : tb_ok1 119 = (tb_I_119_0.all (tb_chk 119) && true) := rfl
  rw [h, tb_c_119_0]
  rfl
theorem tb_j_120 : tb_ok1 120 = true := by
  have h : tb_ok1 120 = (tb_I_120_0.all (tb_chk 120) && true) := rfl
  rw [h, tb_c_120_0]
  rfl
theorem tb_j_121 : tb_ok1 121 = true := by
  have h : tb_ok1 121 = (tb_I_121_1.all (tb_chk 121) && (tb_I_121_0.all (tb_chk 121) && true)) := rfl
  rw [h, tb_c_121_1, tb_c_121_0]
  rfl
theorem tb_j_122 : tb_ok1 122 = true := by
  have h : tb_ok1 122 = (tb_I_122_0.all (tb_chk 122) && true) := rfl
  rw [h, tb_c_122_0]
  rfl
theorem tb_j_123 : tb_ok1 123 = true := by
  have h : tb_ok1 123 = (tb_I_123_0.all (tb_chk 123) && true) := rfl
  rw [h, tb_c_123_0]
  rfl
theorem tb_j_124 : tb_ok1 124 = true := by
  have h : tb_ok1 124 = (tb_I_124_0.all (tb_chk 124) && true) := rfl
  rw [h, tb_c_124_0]
  rfl
theorem tb_j_125 : tb_ok1 125 = true := by
  have h : tb_ok1 125 = (tb_I_125_0.all (tb_chk 125) && true) := rfl
  rw [h, tb_c_125_0]
  rfl
theorem tb_j_126 : tb_ok1 126 = true := by
  have h : tb_ok1 126 = (tb_I_126_1.all (tb_chk 126) && (tb_I_126_0.all (tb_chk 126) && true)) := rfl
  rw [h, tb_c_126_1, tb_c_126_0]
  rfl
theorem tb_j_127 : tb_ok1 127 = true := by
  have h : tb_ok1 127 = (tb_I_127_0.all (tb_chk 127) && true) := rfl
  rw [h, tb_c_127_0]
  rfl
theorem tb_j_128 : tb_ok1 128 = true := by
  have h : tb_ok1 128 = (tb_I_128_0.all (tb_chk 128) && true) := rfl
  rw [h, tb_c_128_0]
  rfl
theorem tb_j_129 : tb_ok1 129 = true := by
  have h : tb_ok1 129 = (tb_I_129_0.all (tb_chk 129) && true) := rfl
  rw [h, tb_c_129_0]
  rfl
theorem tb_j_130 : tb_ok1 130 = true := by
  have h : tb_ok1 130 = (tb_I_130_1.all (tb_chk 130) && (tb_I_130_0.all (tb_chk 130) && true)) := rfl
  rw [h, tb_c_130_1, tb_c_130_0]
  rfl
theorem tb_j_131 : tb_ok1 131 = true := by
  have h : tb_ok1 131 = (tb_I_131_0.all (tb_chk 131) && true) := rfl
  rw [h, tb_c_131_0]
  rfl
theorem tb_j_132 : tb_ok1 132 = true := by
  have h : tb_ok1 132 = (tb_I_132_0.all (tb_chk 132) && true) := rfl
  rw [h, tb_c_132_0]
  rfl
theorem tb_j_133 : tb_ok1 133 = true := by
  have h : tb_ok1 133 = (tb_I_133_1.all (tb_chk 133) && (tb_I_133_0.all (tb_chk 133) && true)) := rfl
  rw [h, tb_c_133_1, tb_c_133_0]
  rfl
theorem tb_j_134 : tb_ok1 134 = true := by
  have h : tb_ok1 134 = (tb_I_134_1.all (tb_chk 134) && (tb_I_134_0.all (tb_chk 134) && true)) := rfl
  rw [h, tb_c_134_1, tb_c_134_0]
  rfl
theorem tb_j_135 : tb_ok1 135 = true := by
  have h : tb_ok1 135 = (tb_I_135_1.all (tb_chk 135) && (tb_I_135_0.all (tb_chk 135) && true)) := rfl
  rw [h, tb_c_135_1, tb_c_135_0]
  rfl
theorem tb_j_136 : tb_ok1 136 = true := by
  have h : tb_ok1 136 = (tb_I_136_0.all (tb_chk 136) && true) := rfl
  rw [h, tb_c_136_0]
  rfl
theorem tb_j_137 : tb_ok1 137 = true := by
  have h : tb_ok1 137 = (tb_I_137_0.all (tb_chk 137) && true) := rfl
  rw [h, tb_c_137_0]
  rfl
theorem tb_j_138 : tb_ok1 138 = true := by
  have h : tb_ok1 138 = (tb_I_138_0.all (tb_chk 138) && true) := rfl
  rw [h, tb_c_138_0]
  rfl
theorem tb_j_139 : tb_ok1 139 = true := by
  have h : tb_ok1 139 = (tb_I_139_0.all (tb_chk 139) && true) := rfl
  rw [h, tb_c_139_0]
  rfl
theorem tb_j_140 : tb_ok1 140 = true := by
  have h : tb_ok1 140 = (tb_I_140_0.all (tb_chk 140) && true) := rfl
  rw [h, tb_c_140_0]
  rfl
theorem tb_j_141 : tb_ok1 141 = true := by
  have h : tb_ok1 141 = (tb_I_141_1.all (tb_chk 141) && (tb_I_141_0.all (tb_chk 141) && true)) := rfl
  rw [h, tb_c_141_1, tb_c_141_0]
  rfl
theorem tb_j_142 : tb_ok1 142 = true := by
  have h : tb_ok1 142 = (tb_I_142_0.all (tb_chk 142) && true) := rfl
  rw [h, tb_c_142_0]
  rfl
theorem tb_j_143 : tb_ok1 143 = true := by
  have h : tb_ok1 143 = (tb_I_143_0.all (tb_chk 143) && true) := rfl
  rw [h, tb_c_143_0]
  rfl
theorem tb_j_144 : tb_ok1 144 = true := by
  have h : tb_ok1 144 = (tb_I_144_0.all (tb_chk 144) && true) := rfl
  rw [h, tb_c_144_0]
  rfl
theorem tb_j_145 : tb_ok1 145 = true := by
  have h : tb_ok1 145 = (tb_I_145_4.all (tb_chk 145) && (tb_I_145_3.all (tb_chk 145) && (tb_I_145_2.all (tb_chk 145) && (tb_I_145_1.all (tb_chk 145) && (tb_I_145_0.all (tb_chk 145) && true))))) := rfl
  rw [h, tb_c_145_4, tb_c_145_3, tb_c_145_2, tb_c_145_1, tb_c_145_0]
  rfl
theorem tb_j_146 : tb_ok1 146 = true := by
  have h : tb_ok1 146 = (tb_I_146_0.all (tb_chk 146) && true) := rfl
  rw [h, tb_c_146_0]
  rfl
theorem tb_j_147 : tb_ok1 147 = true := by
  have h : tb_ok1 147 = (tb_I_147_1.all (tb_chk 147) && (tb_I_147_0.all (tb_chk 147) && true)) := rfl
  rw [h, tb_c_147_1, tb_c_147_0]
  rfl
theorem tb_j_148 : tb_ok1 148 = true := by
  have h : tb_ok1 148 = (tb_I_148_0.all (tb_chk 148) && true) := rfl
  rw [h, tb_c_148_0]
  rfl
theorem tb_j_149 : tb_ok1 149 = true := by
  have h : tb_ok1 149 = (tb_I_149_0.all (tb_chk 149) && true) := rfl
  rw [h, tb_c_149_0]
  rfl
theorem tb_j_150 : tb_ok1 150 = true := by
  have h : tb_ok1 150 = (tb_I_150_3.all (tb_chk 150) && (tb_I_150_2.all (tb_chk 150) && (tb_I_150_1.all (tb_chk 150) && (tb_I_150_0.all (tb_chk 150) && true)))) := rfl
  rw [h, tb_c_150_3, tb_c_150_2, tb_c_150_1, tb_c_150_0]
  rfl
theorem tb_j_151 : tb_ok1 151 = true := by
  have h : tb_ok1 151 = (tb_I_151_3.all (tb_chk 151) && (tb_I_151_2.all (tb_chk 151) && (tb_I_151_1.all (tb_chk 151) && (tb_I_151_0.all (tb_chk 151) && true)))) := rfl
  rw [h, tb_c_151_3, tb_c_151_2, tb_c_151_1, tb_c_151_0]
  rfl
theorem tb_j_152 : tb_ok1 152 = true := by
  have h : tb_ok1 152 = (tb_I_152_0.all (tb_chk 152) && true) := rfl
  rw [h, tb_c_152_0]
  rfl
theorem tb_j_153 : tb_ok1 153 = true := by
  have h : tb_ok1 153 = (tb_I_153_0.all (tb_chk 153) && true) := rfl
  rw [h, tb_c_153_0]
  rfl
theorem tb_j_154 : tb_ok1 154 = true := by
  have h : tb_ok1 154 = (tb_I_154_3.all (tb_chk 154) && (tb_I_154_2.all (tb_chk 154) && (tb_I_154_1.all (tb_chk 154) && (tb_I_154_0.all (tb_chk 154) && true)))) := rfl
  rw [h, tb_c_154_3, tb_c_154_2, tb_c_154_1, tb_c_154_0]
  rfl
theorem tb_j_155 : tb_ok1 155 = true := by
  have h : tb_ok1 155 = (tb_I_155_1.all (tb_chk 155) && (tb_I_155_0.all (tb_chk 155) && true)) := rfl
  rw [h, tb_c_155_1, tb_c_155_0]
  rfl
theorem tb_j_156 : tb_ok1 156 = true := by
  have h : tb_ok1 156 = (tb_I_156_0.all (tb_chk 156) && true) := rfl
  rw [h, tb_c_156_0]
  rfl
theorem tb_j_157 : tb_ok1 157 = true := by
  have h : tb_ok1 157 = (tb_I_157_0.all (tb_chk 157) && true) := rfl
  rw [h, tb_c_157_0]
  rfl
theorem tb_j_158 : tb_ok1 158 = true := by
  have h : tb_ok1 158 = (tb_I_158_4.all (tb_chk 158) && (tb_I_158_3.all (tb_chk 158) && (tb_I_158_2.all (tb_chk 158) && (tb_I_158_1.all (tb_chk 158) && (tb_I_158_0.all (tb_chk 158) && true))))) := rfl
  rw [h, tb_c_158_4, tb_c_158_3, tb_c_158_2, tb_c_158_1, tb_c_158_0]
  rfl
theorem tb_j_159 : tb_ok1 159 = true := by
  have h : tb_ok1 159 = (tb_I_159_0.all (tb_chk 159) && true) := rfl
  rw [h, tb_c_159_0]
  rfl
theorem tb_j_160 : tb_ok1 160 = true := by
  have h : tb_ok1 160 = (tb_I_160_0.all (tb_chk 160) && true) := rfl
  rw [h, tb_c_160_0]
  rfl
theorem tb_j_161 : tb_ok1 161 = true := by
  have h : tb_ok1 161 = (tb_I_161_2.all (tb_chk 161) && (tb_I_161_1.all (tb_chk 161) && (tb_I_161_0.all (tb_chk 161) && true))) := rfl
  rw [h, tb_c_161_2, tb_c_161_1, tb_c_161_0]
  rfl
theorem tb_j_162 : tb_ok1 162 = true := by
  have h : tb_ok1 162 = (tb_I_162_1.all (tb_chk 162) && (tb_I_162_0.all (tb_chk 162) && true)) := rfl
  rw [h, tb_c_162_1, tb_c_162_0]
  rfl
theorem tb_j_163 : tb_ok1 163 = true := by
  have h : tb_ok1 163 = (tb_I_163_0.all (tb_chk 163) && true) := rfl
  rw [h, tb_c_163_0]
  rfl
theorem tb_j_164 : tb_ok1 164 = true := by
  have h : tb_ok1 164 = (tb_I_164_3.all (tb_chk 164) && (tb_I_164_2.all (tb_chk 164) && (tb_I_164_1.all (tb_chk 164) && (tb_I_164_0.all (tb_chk 164) && true)))) := rfl
  rw [h, tb_c_164_3, tb_c_164_2, tb_c_164_1, tb_c_164_0]
  rfl
theorem tb_j_165 : tb_ok1 165 = true := by
  have h : tb_ok1 165 = (tb_I_165_0.all (tb_chk 165) && true) := rfl
  rw [h, tb_c_165_0]
  rfl
theorem tb_j_166 : tb_ok1 166 = true := by
  have h : tb_ok1 166 = (tb_I_166_0.all (tb_chk 166) && true) := rfl
  rw [h, tb_c_166_0]
  rfl
theorem tb_j_167 : tb_ok1 167 = true := by
  have h : tb_ok1 167 = (tb_I_167_3.all (tb_chk 167) && (tb_I_167_2.all (tb_chk 167) && (tb_I_167_1.all (tb_chk 167) && (tb_I_167_0.all (tb_chk 167) && true)))) := rfl
  rw [h, tb_c_167_3, tb_c_167_2, tb_c_167_1, tb_c_167_0]
  rfl
theorem tb_j_168 : tb_ok1 168 = true := by
  have h : tb_ok1 168 = (tb_I_168_3.all (tb_chk 168) && (tb_I_168_2.all (tb_chk 168) && (tb_I_168_1.all (tb_chk 168) && (tb_I_168_0.all (tb_chk 168) && true)))) := rfl
  rw [h, tb_c_168_3, tb_c_168_2, tb_c_168_1, tb_c_168_0]
  rfl
theorem tb_j_169 : tb_ok1 169 = true := by
  have h : tb_ok1 169 = (tb_I_169_0.all (tb_chk 169) && true) := rfl
  rw [h, tb_c_169_0]
  rfl
theorem tb_j_170 : tb_ok1 170 = true := by
  have h : tb_ok1 170 = (tb_I_170_0.all (tb_chk 170) && true) := rfl
  rw [h, tb_c_170_0]
  rfl
theorem tb_j_171 : tb_ok1 171 = true := by
  have h : tb_ok1 171 = (tb_I_171_3.all (tb_chk 171) && (tb_I_171_2.all (tb_chk 171) && (tb_I_171_1.all (tb_chk 171) && (tb_I_171_0.all (tb_chk 171) && true)))) := rfl
  rw [h, tb_c_171_3, tb_c_171_2, tb_c_171_1, tb_c_171_0]
  rfl
theorem tb_j_172 : tb_ok1 172 = true := by
  have h : tb_ok1 172 = (tb_I_172_2.all (tb_chk 172) && (tb_I_172_1.all (tb_chk 172) && (tb_I_172_0.all (tb_chk 172) && true))) := rfl
  rw [h, tb_c_172_2, tb_c_172_1, tb_c_172_0]
  rfl
theorem tb_j_173 : tb_ok1 173 = true := by
  have h : tb_ok1 173 = (tb_I_173_5.all (tb_chk 173) && (tb_I_173_4.all (tb_chk 173) && (tb_I_173_3.all (tb_chk 173) && (tb_I_173_2.all (tb_chk 173) && (tb_I_173_1.all (tb_chk 173) && (tb_I_173_0.all (tb_chk 173) && true)))))) := rfl
  rw [h, tb_c_173_5, tb_c_173_4, tb_c_173_3, tb_c_173_2, tb_c_173_1, tb_c_173_0]
  rfl
theorem tb_j_174 : tb_ok1 174 = true := by
  have h : tb_ok1 174 = (tb_I_174_0.all (tb_chk 174) && true) := rfl
  rw [h, tb_c_174_0]
  rfl
theorem tb_j_175 : tb_ok1 175 = true := by
  have h : tb_ok1 175 = (tb_I_175_1.all (tb_chk 175) && (tb_I_175_0.all (tb_chk 175) && true)) := rfl
  rw [h, tb_c_175_1, tb_c_175_0]
  rfl
theorem tb_j_176 : tb_ok1 176 = true := by
  have h : tb_ok1 176 = (tb_I_176_0.all (tb_chk 176) && true) := rfl
  rw [h, tb_c_176_0]
  rfl
theorem tb_j_177 : tb_ok1 177 = true := by
  have h : tb_ok1 177 = (tb_I_177_0.all (tb_chk 177) && true) := rfl
  rw [h, tb_c_177_0]
  rfl
theorem tb_j_178 : tb_ok1 178 = true := by
  have h : tb_ok1 178 = (tb_I_178_0.all (tb_chk 178) && true) := rfl
  rw [h, tb_c_178_0]
  rfl
theorem tb_j_179 : tb_ok1 179 = true := by
  have h : tb_ok1 179 = (tb_I_179_4.all (tb_chk 179) && (tb_I_179_3.all (tb_chk 179) && (tb_I_179_2.all (tb_chk 179) && (tb_I_179_1.all (tb_chk 179) && (tb_I_179_0.all (tb_chk 179) && true))))) := rfl
  rw [h, tb_c_179_4, tb_c_179_3, tb_c_179_2, tb_c_179_1, tb_c_179_0]
  rfl
theorem tb_j_180 : tb_ok1 180 = true := by
  have h : tb_ok1 180 = (tb_I_180_3.all (tb_chk 180) && (tb_I_180_2.all (tb_chk 180) && (tb_I_180_1.all (tb_chk 180) && (tb_I_180_0.all (tb_chk 180) && true)))) := rfl
  rw [h, tb_c_180_3, tb_c_180_2, tb_c_180_1, tb_c_180_0]
  rfl
theorem tb_j_181 : tb_ok1 181 = true := by
  have h : tb_ok1 181 = (tb_I_181_3.all (tb_chk 181) && (tb_I_181_2.all (tb_chk 181) && (tb_I_181_1.all (tb_chk 181) && (tb_I_181_0.all (tb_chk 181) && true)))) := rfl
  rw [h, tb_c_181_3, tb_c_181_2, tb_c_181_1, tb_c_181_0]
  rfl
theorem tb_j_182 : tb_ok1 182 = true := by
  have h : tb_ok1 182 = (tb_I_182_0.all (tb_chk 182) && true) := rfl
  rw [h, tb_c_182_0]
  rfl
theorem tb_j_183 : tb_ok1 183 = true := by
  have h : tb_ok1 183 = (tb_I_183_7.all (tb_chk 183) && (tb_I_183_6.all (tb_chk 183) && (tb_I_183_5.all (tb_chk 183) && (tb_I_183_4.all (tb_chk 183) && (tb_I_183_3.all (tb_chk 183) && (tb_I_183_2.all (tb_chk 183) && (tb_I_183_1.all (tb_chk 183) && (tb_I_183_0.all (tb_chk 183) && true)))))))) := rfl
  rw [h, tb_c_183_7, tb_c_183_6, tb_c_183_5, tb_c_183_4, tb_c_183_3, tb_c_183_2, tb_c_183_1, tb_c_183_0]
  rfl
theorem tb_j_184 : tb_ok1 184 = true := by
  have h : tb_ok1 184 = (tb_I_184_3.all (tb_chk 184) && (tb_I_184_2.all (tb_chk 184) && (tb_I_184_1.all (tb_chk 184) && (tb_I_184_0.all (tb_chk 184) && true)))) := rfl
  rw [h, tb_c_184_3, tb_c_184_2, tb_c_184_1, tb_c_184_0]
  rfl
theorem tb_j_185 : tb_ok1 185 = true := by
  have h : tb_ok1 185 = (tb_I_185_0.all (tb_chk 185) && true) := rfl
  rw [h, tb_c_185_0]
  rfl
theorem tb_j_186 : tb_ok1 186 = true := by
  have h : tb_ok1 186 = (tb_I_186_0.all (tb_chk 186) && true) := rfl
  rw [h, tb_c_186_0]
  rfl
theorem tb_j_187 : tb_ok1 187 = true := by
  have h : tb_ok1 187 = (tb_I_187_0.all (tb_chk 187) && true) := rfl
  rw [h, tb_c_187_0]
  rfl
theorem tb_j_188 : tb_ok1 188 = true := by
  have h : tb_ok1 188 = (tb_I_188_0.all (tb_chk 188) && true) := rfl
  rw [h, tb_c_188_0]
  rfl
theorem tb_j_189 : tb_ok1 189 = true := by
  have h : tb_ok1 189 = (tb_I_189_4.all (tb_chk 189) && (tb_I_189_3.all (tb_chk 189) && (tb_I_189_2.all (tb_chk 189) && (tb_I_189_1.all (tb_chk 189) && (tb_I_189_0.all (tb_chk 189) && true))))) := rfl
  rw [h, tb_c_189_4, tb_c_189_3, tb_c_189_2, tb_c_189_1, tb_c_189_0]
  rfl
theorem tb_j_190 : tb_ok1 190 = true := by
  have h : tb_ok1 190 = (tb_I_190_5.all (tb_chk 190) && (tb_I_190_4.all (tb_chk 190) && (tb_I_190_3.all (tb_chk 190) && (tb_I_190_2.all (tb_chk 190) && (tb_I_190_1.all (tb_chk 190) && (tb_I_190_0.all (tb_chk 190) && true)))))) := rfl
  rw [h, tb_c_190_5, tb_c_190_4, tb_c_190_3, tb_c_190_2, tb_c_190_1, tb_c_190_0]
  rfl
theorem tb_j_191 : tb_ok1 191 = true := by
  have h : tb_ok1 191 = (tb_I_191_3.all (tb_chk 191) && (tb_I_191_2.all (tb_chk 191) && (tb_I_191_1.all (tb_chk 191) && (tb_I_191_0.all (tb_chk 191) && true)))) := rfl
  rw [h, tb_c_191_3, tb_c_191_2, tb_c_191_1, tb_c_191_0]
  rfl
theorem tb_j_192 : tb_ok1 192 = true := by
  have h : tb_ok1 192 = (tb_I_192_2.all (tb_chk 192) && (tb_I_192_1.all (tb_chk 192) && (tb_I_192_0.all (tb_chk 192) && true))) := rfl
  rw [h, tb_c_192_2, tb_c_192_1, tb_c_192_0]
  rfl
theorem tb_j_193 : tb_ok1 193 = true := by
  have h : tb_ok1 193 = (tb_I_193_0.all (tb_chk 193) && true) := rfl
  rw [h, tb_c_193_0]
  rfl
theorem tb_j_194 : tb_ok1 194 = true := by
  have h : tb_ok1 194 = (tb_I_194_1.all (tb_chk 194) && (tb_I_194_0.all (tb_chk 194) && true)) := rfl
  rw [h, tb_c_194_1, tb_c_194_0]
  rfl
theorem tb_j_195 : tb_ok1 195 = true := by
  have h : tb_ok1 195 = (tb_I_195_4.all (tb_chk 195) && (tb_I_195_3.all (tb_chk 195) && (tb_I_195_2.all (tb_chk 195) && (tb_I_195_1.all (tb_chk 195) && (tb_I_195_0.all (tb_chk 195) && true))))) := rfl
  rw [h, tb_c_195_4, tb_c_195_3, tb_c_195_2, tb_c_195_1, tb_c_195_0]
  rfl
theorem tb_j_196 : tb_ok1 196 = true := by
  have h : tb_ok1 196 = (tb_I_196_0.all (tb_chk 196) && true) := rfl
  rw [h, tb_c_196_0]
  rfl
theorem tb_j_197 : tb_ok1 197 = true := by
  have h : tb_ok1 197 = (tb_I_197_0.all (tb_chk 197) && true) := rfl
  rw [h, tb_c_197_0]
  rfl
theorem tb_j_198 : tb_ok1 198 = true := by
  have h : tb_ok1 198 = (tb_I_198_0.all (tb_chk 198) && true) := rfl
  rw [h, tb_c_198_0]
  rfl
theorem tb_j_199 : tb_ok1 199 = true := by
  have h : tb_ok1 199 = (tb_I_199_0.all (tb_chk 199) && true) := rfl
  rw [h, tb_c_199_0]
  rfl
theorem tb_j_200 : tb_ok1 200 = true := by
  have h : tb_ok1 200 = (tb_I_200_6.all (tb_chk 200) && (tb_I_200_5.all (tb_chk 200) && (tb_I_200_4.all (tb_chk 200) && (tb_I_200_3.all (tb_chk 200) && (tb_I_200_2.all (tb_chk 200) && (tb_I_200_1.all (tb_chk 200) && (tb_I_200_0.all (tb_chk 200) && true))))))) := rfl
  rw [h, tb_c_200_6, tb_c_200_5, tb_c_200_4, tb_c_200_3, tb_c_200_2, tb_c_200_1, tb_c_200_0]
  rfl
theorem tb_j_201 : tb_ok1 201 = true := by
  have h : tb_ok1 201 = (tb_I_201_0.all (tb_chk 201) && true) := rfl
  rw [h, tb_c_201_0]
  rfl
theorem tb_j_202 : tb_ok1 202 = true := by
  have h : tb_ok1 202 = (tb_I_202_0.all (tb_chk 202) && true) := rfl
  rw [h, tb_c_202_0]
  rfl
theorem tb_j_203 : tb_ok1 203 = true := by
  have h : tb_ok1 203 = (tb_I_203_0.all (tb_chk 203) && true) := rfl
  rw [h, tb_c_203_0]
  rfl
theorem tb_j_204 : tb_ok1 204 = true := by
  have h : tb_ok1 204 = (tb_I_204_0.all (tb_chk 204) && true) := rfl
  rw [h, tb_c_204_0]
  rfl
theorem tb_j_205 : tb_ok1 205 = true := by
  have h : tb_ok1 205 = (tb_I_205_0.all (tb_chk 205) && true) := rfl
  rw [h, tb_c_205_0]
  rfl
theorem tb_j_206 : tb_ok1 206 = true := by
  have h : tb_ok1 206 = (tb_I_206_3.all (tb_chk 206) && (tb_I_206_2.all (tb_chk 206) && (tb_I_206_1.all (tb_chk 206) && (tb_I_206_0.all (tb_chk 206) && true)))) := rfl
  rw [h, tb_c_206_3, tb_c_206_2, tb_c_206_1, tb_c_206_0]
  rfl
theorem tb_j_207 : tb_ok1 207 = true := by
  have h : tb_ok1 207 = (tb_I_207_0.all (tb_chk 207) && true) := rfl
  rw [h, tb_c_207_0]
  rfl
theorem tb_j_208 : tb_ok1 208 = true := by
  have h : tb_ok1 208 = (tb_I_208_0.all (tb_chk 208) && true) := rfl
  rw [h, tb_c_208_0]
  rfl
theorem tb_j_209 : tb_ok1 209 = true := by
  have h : tb_ok1 209 = (tb_I_209_0.all (tb_chk 209) && true) := rfl
  rw [h, tb_c_209_0]
  rfl
theorem tb_j_210 : tb_ok1 210 = true := by
  have h : tb_ok1 210 = (tb_I_210_0.all (tb_chk 210) && true) := rfl
  rw [h, tb_c_210_0]
  rfl
theorem tb_j_211 : tb_ok1 211 = true := by
  have h : tb_ok1 211 = (tb_I_211_0.all (tb_chk 211) && true) := rfl
  rw [h, tb_c_211_0]
  rfl
theorem tb_j_212 : tb_ok1 212 = true := by
  have h : tb_ok1 212 = (tb_I_212_0.all (tb_chk 212) && true) := rfl
  rw [h, tb_c_212_0]
  rfl
theorem tb_j_213 : tb_ok1 213 = true := by
  have h : tb_ok1 213 = (tb_I_213_0.all (tb_chk 213) && true) := rfl
  rw [h, tb_c_213_0]
  rfl
theorem tb_j_214 : tb_ok1 214 = true := by
  have h : tb_ok1 214 = (tb_I_214_0.all (tb_chk 214) && true) := rfl
  rw [h, tb_c_214_0]
  rfl
theorem tb_j_215 : tb_ok1 215 = true := by
  have h : tb_ok1 215 = (tb_I_215_0.all (tb_chk 215) && true) := rfl
  rw [h, tb_c_215_0]
  rfl
theorem tb_j_216 : tb_ok1 216 = true := by
  have h : tb_ok1 216 = (tb_I_216_0.all (tb_chk 216) && true) := rfl
  rw [h, tb_c_216_0]
  rfl
theorem tb_j_217 : tb_ok1 217 = true := by
  have h : tb_ok1 217 = (tb_I_217_0.all (tb_chk 217) && true) := rfl
  rw [h, tb_c_217_0]
  rfl
theorem tb_j_218 : tb_ok1 218 = true := by
  have h : tb_ok1 218 = (tb_I_218_0.all (tb_chk 218) && true) := rfl
  rw [h, tb_c_218_0]
  rfl
theorem tb_j_219 : tb_ok1 219 = true := by
  have h : tb_ok1 219 = (tb_I_219_0.all (tb_chk 219) && true) := rfl
  rw [h, tb_c_219_0]
  rfl
theorem tb_j_220 : tb_ok1 220 = true := by
  have h : tb_ok1 220 = (tb_I_220_0.all (tb_chk 220) && true) := rfl
  rw [h, tb_c_220_0]
  rfl
theorem tb_g_0 : ∀ i, i < 16 → tb_ok1 (0 + i) = true ∨ 221 ≤ 0 + i := by
  intro i hi
  match i, hi with
  | 0, _ => exact Or.inl tb_j_0
  | 1, _ => exact Or.inl tb_j_1
  | 2, _ => exact Or.inl tb_j_2
  | 3, _ => exact Or.inl tb_j_3
  | 4, _ => exact Or.inl tb_j_4
  | 5, _ => exact Or.inl tb_j_5
  | 6, _ => exact Or.inl tb_j_6
  | 7, _ => exact Or.inl tb_j_7
  | 8, _ => exact Or.inl tb_j_8
  | 9, _ => exact Or.inl tb_j_9
  | 10, _ => exact Or.inl tb_j_10
  | 11, _ => exact Or.inl tb_j_11
  | 12, _ => exact Or.inl tb_j_12
  | 13, _ => exact Or.inl tb_j_13
  | 14, _ => exact Or.inl tb_j_14
  | 15, _ => exact Or.inl tb_j_15
  | i + 16, h => omega
theorem tb_g_1 : ∀ i, i < 16 → tb_ok1 (16 + i) = true ∨ 221 ≤ 16 + i := by
  intro i hi
  match i, hi with
  | 0, _ => exact Or.inl tb_j_16
  | 1, _ => exact Or.inl tb_j_17
  | 2, _ => exact Or.inl tb_j_18
  | 3, _ => exact Or.inl tb_j_19
  | 4, _ => exact Or.inl tb_j_20
  | 5, _ => exact Or.inl tb_j_21
  | 6, _ => exact Or.inl tb_j_22
  | 7, _ => exact Or.inl tb_j_23
  | 8, _ => exact Or.inl tb_j_24
  | 9, _ => exact Or.inl tb_j_25
  | 10, _ => exact Or.inl tb_j_26
  | 11, _ => exact Or.inl tb_j_27
  | 12, _ => exact Or.inl tb_j_28
  | 13, _ => exact Or.inl tb_j_29
  | 14, _ => exact Or.inl tb_j_30
  | 15, _ => exact Or.inl tb_j_31
  | i + 16, h => omega
theorem tb_g_2 : ∀ i, i < 16 → tb_ok1 (32 + i) = true ∨ 221 ≤ 32 + i := by
  intro i hi
  match i, hi with
  | 0, _ => exact Or.inl tb_j_32
  | 1, _ => exact Or.inl tb_j_33
  | 2, _ => exact Or.inl tb_j_34
  | 3, _ => exact Or.inl tb_j_35
  | 4, _ => exact Or.inl tb_j_36
  | 5, _ => exact Or.inl tb_j_37
  | 6, _ => exact Or.inl tb_j_38
  | 7, _ => exact Or.inl tb_j_39
  | 8, _ => exact Or.inl tb_j_40
  | 9, _ => exact Or.inl tb_j_41
  | 10, _ => exact Or.inl tb_j_42
  | 11, _ => exact Or.inl tb_j_43
  | 12, _ => exact Or.inl tb_j_44
  | 13, _ => exact Or.inl tb_j_45
  | 14, _ => exact Or.inl tb_j_46
  | 15, _ => exact Or.inl tb_j_47
  | i + 16, h => omega
theorem tb_g_3 : ∀ i, i < 16 → tb_ok1 (48 + i) = true ∨ 221 ≤ 48 + i := by
  intro i hi
  match i, hi with
  | 0, _ => exact Or.inl tb_j_48
  | 1, _ => exact Or.inl tb_j_49
  | 2, _ => exact Or.inl tb_j_50
  | 3, _ => exact Or.inl tb_j_51
  | 4, _ => exact Or.inl tb_j_52
  | 5, _ => exact Or.inl tb_j_53
  | 6, _ => exact Or.inl tb_j_54
  | 7, _ => exact Or.inl tb_j_55
  | 8, _ => exact Or.inl tb_j_56
  | 9, _ => exact Or.inl tb_j_57
  | 10, _ => exact Or.inl tb_j_58
  | 11, _ => exact Or.inl tb_j_59
  | 12, _ => exact Or.inl tb_j_60
  | 13, _ => exact Or.inl tb_j_61
  | 14, _ => exact Or.inl tb_j_62
  | 15, _ => exact Or.inl tb_j_63
  | i + 16, h => omega
theorem tb_g_4 : ∀ i, i < 16 → tb_ok1 (64 + i) = true ∨ 221 ≤ 64 + i := by
  intro i hi
  match i, hi with
  | 0, _ => exact Or.inl tb_j_64
  | 1, _ => exact Or.inl tb_j_65
  | 2, _ => exact Or.inl tb_j_66
  | 3, _ => exact Or.inl tb_j_67
  | 4, _ => exact Or.inl tb_j_68
  | 5, _ => exact Or.inl tb_j_69
  | 6, _ => exact Or.inl tb_j_70
  | 7, _ => exact Or.inl tb_j_71
  | 8, _ => exact Or.inl tb_j_72
  | 9, _ => exact Or.inl tb_j_73
  | 10, _ => exact Or.inl tb_j_74
  | 11, _ => exact Or.inl tb_j_75
  | 12, _ => exact Or.inl tb_j_76
  | 13, _ => exact Or.inl tb_j_77
  | 14, _ => exact Or.inl tb_j_78
  | 15, _ => exact Or.inl tb_j_79
  | i + 16, h => omega
theorem tb_g_5 : ∀ i, i < 16 → tb_ok1 (80 + i) = true ∨ 221 ≤ 80 + i := by
  intro i hi
  match i, hi with
  | 0, _ => exact Or.inl tb_j_80
  | 1, _ => exact Or.inl tb_j_81
  | 2, _ => exact Or.inl tb_j_82
  | 3, _ => exact Or.inl tb_j_83
  | 4, _ => exact Or.inl tb_j_84
  | 5, _ => exact Or.inl tb_j_85
  | 6, _ => exact Or.inl tb_j_86
  | 7, _ => exact Or.inl tb_j_87
  | 8, _ => exact Or.inl tb_j_88
  | 9, _ => exact Or.inl tb_j_89
  | 10, _ => exact Or.inl tb_j_90
  | 11, _ => exact Or.inl tb_j_91
  | 12, _ => exact Or.inl tb_j_92
  | 13, _ => exact Or.inl tb_j_93
  | 14, _ => exact Or.inl tb_j_94
  | 15, _ => exact Or.inl tb_j_95
  | i + 16, h => omega
theorem tb_g_6 : ∀ i, i < 16 → tb_ok1 (96 + i) = true ∨ 221 ≤ 96 + i := by
  intro i hi
  match i, hi with
  | 0, _ => exact Or.inl tb_j_96
  | 1, _ => exact Or.inl tb_j_97
  | 2, _ => exact Or.inl tb_j_98
  | 3, _ => exact Or.inl tb_j_99
  | 4, _ => exact Or.inl tb_j_100
  | 5, _ => exact Or.inl tb_j_101
  | 6, _ => exact Or.inl tb_j_102
  | 7, _ => exact Or.inl tb_j_103
  | 8, _ => exact Or.inl tb_j_104
  | 9, _ => exact Or.inl tb_j_105
  | 10, _ => exact Or.inl tb_j_106
  | 11, _ => exact Or.inl tb_j_107
  | 12, _ => exact Or.inl tb_j_108
  | 13, _ => exact Or.inl tb_j_109
  | 14, _ => exact Or.inl tb_j_110
  | 15, _ => exact Or.inl tb_j_111
  | i + 16, h => omega
theorem tb_g_7 : ∀ i, i < 16 → tb_ok1 (112 + i) = true ∨ 221 ≤ 112 + i := by
  intro i hi
  match i, hi with
  | 0, _ => exact Or.inl tb_j_112
  | 1, _ => exact Or.inl tb_j_113
  | 2, _ => exact Or.inl tb_j_114
  | 3, _ => exact Or.inl tb_j_115
  | 4, _ => exact Or.inl tb_j_116
  | 5, _ => exact Or.inl tb_j_117
  | 6, _ => exact Or.inl tb_j_118
  | 7, _ => exact Or.inl tb_j_119
  | 8, _ => exact Or.inl tb_j_120
  | 9, _ => exact Or.inl tb_j_121
  | 10, _ => exact Or.inl tb_j_122
  | 11, _ => exact Or.inl tb_j_123
  | 12, _ => exact Or.inl tb_j_124
  | 13, _ => exact Or.inl tb_j_125
  | 14, _ => exact Or.inl tb_j_126
  | 15, _ => exact Or.inl tb_j_127
  | i + 16, h => omega
theorem tb_g_8 : ∀ i, i < 16 → tb_ok1 (128 + i) = true ∨ 221 ≤ 128 + i := by
  intro i hi
  match i, hi with
  | 0, _ => exact Or.inl tb_j_128
  | 1, _ => exact Or.inl tb_j_129
  | 2, _ => exact Or.inl tb_j_130
  | 3, _ => exact Or.inl tb_j_131
  | 4, _ => exact Or.inl tb_j_132
  | 5, _ => exact Or.inl tb_j_133
  | 6, _ => exact Or.inl tb_j_134
  | 7, _ => exact Or.inl tb_j_135
  | 8, _ => exact Or.inl tb_j_136
  | 9, _ => exact Or.inl tb_j_137
  | 10, _ => exact Or.inl tb_j_138
  | 11, _ => exact Or.inl tb_j_139
  | 12, _ => exact Or.inl tb_j_140
  | 13, _ => exact Or.inl tb_j_141
  | 14, _ => exact Or.inl tb_j_142
  | 15, _ => exact Or.inl tb_j_143
  | i + 16, h => omega
theorem tb_g_9 : ∀ i, i < 16 → tb_ok1 (144 + i) = true ∨ 221 ≤ 144 + i := by
  intro i hi
  match i, hi with
  | 0, _ => exact Or.inl tb_j_144
  | 1, _ => exact Or.inl tb_j_145
  | 2, _ => exact Or.inl tb_j_146
  | 3, _ => exact Or.inl tb_j_147
  | 4, _ => exact Or.inl tb_j_148
  | 5, _ => exact Or.inl tb_j_149
  | 6, _ => exact Or.inl tb_j_150
  | 7, _ => exact Or.inl tb_j_151
  | 8, _ => exact Or.inl tb_j_152
  | 9, _ => exact Or.inl tb_j_153
  | 10, _ => exact Or.inl tb_j_154
  | 11, _ => exact Or.inl tb_j_155
  | 12, _ => exact Or.inl tb_j_156
  | 13, _ => exact Or.inl tb_j_157
  | 14, _ => exact Or.inl tb_j_158
  | 15, _ => exact Or.inl tb_j_159
  | i + 16, h => omega
theorem tb_g_10 : ∀ i, i < 16 → tb_ok1 (160 + i) = true ∨ 221 ≤ 160 + i := by
  intro i hi
  match i, hi with
  | 0, _ => exact Or.inl tb_j_160
  | 1, _ => exact Or.inl tb_j_161
  | 2, _ => exact Or.inl tb_j_162
  | 3, _ => exact Or.inl tb_j_163
  | 4, _ => exact Or.inl tb_j_164
  | 5, _ => exact Or.inl tb_j_165
  | 6, _ => exact Or.inl tb_j_166
  | 7, _ => exact Or.inl tb_j_167
  | 8, _ => exact Or.inl tb_j_168
  | 9, _ => exact Or.inl tb_j_169
  | 10, _ => exact Or.inl tb_j_170
  | 11, _ => exact Or.inl tb_j_171
  | 12, _ => exact Or.inl tb_j_172
  | 13, _ => exact Or.inl tb_j_173
  | 14, _ => exact Or.inl tb_j_174
  | 15, _ => exact Or.inl tb_j_175
  | i + 16, h => omega
theorem tb_g_11 : ∀ i, i < 16 → tb_ok1 (176 + i) = true ∨ 221 ≤ 176 + i := by
  intro i hi
  match i, hi with
  | 0, _ => exact Or.inl tb_j_176
  | 1, _ => exact Or.inl tb_j_177
  | 2, _ => exact Or.inl tb_j_178
  | 3, _ => exact Or.inl tb_j_179
  | 4, _ => exact Or.inl tb_j_180
  | 5, _ => exact Or.inl tb_j_181
  | 6, _ => exact Or.inl tb_j_182
  | 7, _ => exact Or.inl tb_j_183
  | 8, _ => exact Or.inl tb_j_184
  | 9, _ => exact Or.inl tb_j_185
  | 10, _ => exact Or.inl tb_j_186
  | 11, _ => exact Or.inl tb_j_187
  | 12, _ => exact Or.inl tb_j_188
  | 13, _ => exact Or.inl tb_j_189
  | 14, _ => exact Or.inl tb_j_190
  | 15, _ => exact Or.inl tb_j_191
  | i + 16, h => omega
theorem tb_g_12 : ∀ i, i < 16 → tb_ok1 (192 + i) = true ∨ 221 ≤ 192 + i := by
  intro i hi
  match i, hi with
  | 0, _ => exact Or.inl tb_j_192
  | 1, _ => exact Or.inl tb_j_193
  | 2, _ => exact Or.inl tb_j_194
  | 3, _ => exact Or.inl tb_j_195
  | 4, _ => exact Or.inl tb_j_196
  | 5, _ => exact Or.inl tb_j_197
  | 6, _ => exact Or.inl tb_j_198
  | 7, _ => exact Or.inl tb_j_199
  | 8, _ => exact Or.inl tb_j_200
  | 9, _ => exact Or.inl tb_j_201
  | 10, _ => exact Or.inl tb_j_202
  | 11, _ => exact Or.inl tb_j_203
  | 12, _ => exact Or.inl tb_j_204
  | 13, _ => exact Or.inl tb_j_205
  | 14, _ => exact Or.inl tb_j_206
  | 15, _ => exact Or.inl tb_j_207
  | i + 16, h => omega
theorem tb_g_13 : ∀ i, i < 16 → tb_ok1 (208 + i) = true ∨ 221 ≤ 208 + i := by
  intro i hi
  match i, hi with
  | 0, _ => exact Or.inl tb_j_208
  | 1, _ => exact Or.inl tb_j_209
  | 2, _ => exact Or.inl tb_j_210
  | 3, _ => exact Or.inl tb_j_211
  | 4, _ => exact Or.inl tb_j_212
  | 5, _ => exact Or.inl tb_j_213
  | 6, _ => exact Or.inl tb_j_214
  | 7, _ => exact Or.inl tb_j_215
  | 8, _ => exact Or.inl tb_j_216
  | 9, _ => exact Or.inl tb_j_217
  | 10, _ => exact Or.inl tb_j_218
  | 11, _ => exact Or.inl tb_j_219
  | 12, _ => exact Or.inl tb_j_220
  | 13, _ => exact Or.inr (by omega)
  | 14, _ => exact Or.inr (by omega)
  | 15, _ => exact Or.inr (by omega)
  | i + 16, h => omega
theorem tb_ok1_all : ∀ j, tb_ok1 j = true := by
  intro j
  have hout : 221 ≤ j → tb_ok1 j = true := by
    intro hj
    unfold tb_ok1
    rw [List.getD_eq_getElem?_getD, List.getElem?_eq_none (by have hl : tb_Ils.length = 221 := rfl
                                                              omega)]
    rfl
  by_cases hj : 221 ≤ j
  · exact hout hj
  · have e : j = 16 * (j / 16) + j % 16 := by omega
    have hm : j % 16 < 16 := Nat.mod_lt _ (by decide)
    have hd : j / 16 < 14 := by omega
    generalize j / 16 = g at e hd
    generalize j % 16 = i at e hm
    subst e
    match g, hd with
    | 0, _ => exact (tb_g_0 i hm).elim (fun h => h) hout
    | 1, _ => exact (tb_g_1 i hm).elim (fun h => h) hout
    | 2, _ => exact (tb_g_2 i hm).elim (fun h => h) hout
    | 3, _ => exact (tb_g_3 i hm).elim (fun h => h) hout
    | 4, _ => exact (tb_g_4 i hm).elim (fun h => h) hout
    | 5, _ => exact (tb_g_5 i hm).elim (fun h => h) hout
    | 6, _ => exact (tb_g_6 i hm).elim (fun h => h) hout
    | 7, _ => exact (tb_g_7 i hm).elim (fun h => h) hout
    | 8, _ => exact (tb_g_8 i hm).elim (fun h => h) hout
    | 9, _ => exact (tb_g_9 i hm).elim (fun h => h) hout
    | 10, _ => exact (tb_g_10 i hm).elim (fun h => h) hout
    | 11, _ => exact (tb_g_11 i hm).elim (fun h => h) hout
    | 12, _ => exact (tb_g_12 i hm).elim (fun h => h) hout
    | 13, _ => exact (tb_g_13 i hm).elim (fun h => h) hout
    | g + 14, h => omega
theorem tb_T_ok : sy_tok tb_P tb_T := by
  intro j pc i h
  have h : sy_find pc (sy_pick pc (tb_Ils.getD j [])) = some i := h
  rcases sy_pick_mem (n := pc) (l := tb_Ils.getD j []) with h1 | ⟨k, h1⟩
  · rw [h1] at h; cases h
  · have h2 := List.all_eq_true.mp (tb_ok1_all j) _ h1
    have h3 := List.all_eq_true.mp h2 _ (sy_find_mem h)
    unfold tb_chk at h3
    simp only [Bool.and_eq_true, decide_eq_true_eq, Option.isNone_iff_eq_none] at h3
    exact h3
end
section
/-! The world after both constructors. -/
def w0_e (a : Nat) : mi_E := (bif Nat.ble 90 a then (bif Nat.ble 135 a then (bif Nat.ble 158 a then (bif Nat.ble 169 a then (bif Nat.ble 175 a then (bif Nat.ble 178 a then (bif Nat.ble 179 a then (bif Nat.ble 180 a then (.inr (2000001, [.ref 1, .ref 1])) else (.inr (2000001, [.ref 0, .ref 4]))) else (.inr (2000001, [.ref 0, .ref 16]))) else (bif Nat.ble 176 a then (bif Nat.ble 177 a then (.inr (2000001, [.ref 1, .ref 4000])) else (.inr (2000001, [.ref 0, .ref 40000]))) else (.inr (2000001, [.ref 0, .ref 40000])))) else (bif Nat.ble 172 a then (bif Nat.ble 173 a then (bif Nat.ble 174 a then (.inr (2000001, [.ref 0, .ref 4])) else (.inr (2000001, [.ref 2, .ref 4]))) else (.inr (2000001, [.ref 0, .ref 4]))) else (bif Nat.ble 170 a then (bif Nat.ble 171 a then (.inr (2000001, [.ref 0, .ref 4])) else (.inr (2000001, [.ref 0, .ref 16]))) else (.inr (2000001, [.ref 2, .ref 16]))))) else (bif Nat.ble 163 a then (bif Nat.ble 166 a then (bif Nat.ble 167 a then (bif Nat.ble 168 a then (.inr (2000001, [.ref 0, .ref 4000])) else (.inr (2000001, [.ref 2, .ref 4000]))) else (.inr (2000001, [.ref 0, .ref 4000]))) else (bif Nat.ble 164 a then (bif Nat.ble 165 a then (.inr (2000001, [.ref 0, .ref 4000])) else (.inr (2000001, [.ref 0, .ref 160]))) else (.inr (2000001, [.ref 0, .ref 160])))) else (bif Nat.ble 160 a then (bif Nat.ble 161 a then (bif Nat.ble 162 a then (.inr (2000001, [.ref 0, .ref 160])) else (.inr (2000001, [.ref 0, .ref 640]))) else (.inr (2000001, [.ref 0, .ref 160]))) else (bif Nat.ble 159 a then (.inr (2000001, [.ref 0, .ref 160])) else (.inr (2000001, [.ref 0, .ref 2640])))))) else (bif Nat.ble 146 a then (bif Nat.ble 152 a then (bif Nat.ble 155 a then (bif Nat.ble 156 a then (bif Nat.ble 157 a then (.inr (2000001, [.ref 0, .ref 4000])) else (.inr (2000001, [.ref 0, .ref 16]))) else (.inr (2000001, [.ref 0, .ref 1600]))) else (bif Nat.ble 153 a then (bif Nat.ble 154 a then (.inr (2000001, [.ref 0, .ref 4000])) else (.inr (2000001, [.ref 0, .ref 4000]))) else (.inr (2000001, [.ref 0, .ref 4000])))) else (bif Nat.ble 149 a then (bif Nat.ble 150 a then (bif Nat.ble 151 a then (.inr (2000001, [.ref 0, .ref 1600])) else (.inr (2000001, [.ref 0, .ref 2]))) else (.inr (2000001, [.ref 0, .ref 15010]))) else (bif Nat.ble 147 a then (bif Nat.ble 148 a then (.inr (2000001, [.ref 1, .ref 15010])) else (.inr (2000001, [.ref 0, .ref 15010]))) else (.inr (2000001, [.ref 0, .ref 15010]))))) else (bif Nat.ble 140 a then (bif Nat.ble 143 a then (bif Nat.ble 144 a then (bif Nat.ble 145 a then (.inr (2000001, [.ref 0, .ref 15010])) else (.inr (2000001, [.ref 0, .ref 15010]))) else (.inr (2000001, [.ref 0, .ref 15010]))) else (bif Nat.ble 141 a then (bif Nat.ble 142 a then (.inr (2000001, [.ref 1, .ref 1536])) else (.inr (2000001, [.ref 0, .ref 96]))) else (.inr (2000001, [.ref 0, .ref 96])))) else (bif Nat.ble 137 a then (bif Nat.ble 138 a then (bif Nat.ble 139 a then (.inr (2000001, [.ref 0, .ref 96])) else (.inr (2000001, [.ref 0, .ref 96]))) else (.inr (2000001, [.ref 1, .ref 96]))) else (bif Nat.ble 136 a then (.inr (2000001, [.ref 0, .ref 8000])) else (.inr (11, [.int 0, .ref 136, .int 0, .int 0, .int 0, .int 0, .int 0, .long 0, .int 0, .int 0, .int (-1), .ref 137, .ref 138, .ref 139, .ref 140, .ref 141, .ref 142, .ref 143, .ref 144, .ref 145, .ref 146, .ref 147, .ref 148, .ref 149, .ref 150, .int 0, .int 0, .int 0, .int 0, .ref 151, .int 0, .int 0, .ref 152, .ref 153, .ref 154, .int 0, .ref 155, .int 0, .int 0, .ref 156, .int 0, .int 0, .int 0, .ref 157, .int 0, .ref 158, .int 0, .int 0, .int 0, .int 0, .int 0, .int 0, .int 0, .ref 159, .ref 160, .ref 161, .ref 162, .ref 163, .ref 164, .int 0, .int 0, .int 0, .int 0, .int 0, .int 0, .int 0, .int 0, .int 0, .int 0, .int 0, .int 0, .int 0, .int 0, .int 0, .ref 165, .ref 166, .int 0, .ref 167, .ref 168, .int 0, .ref 169, .ref 170, .ref 171, .ref 172, .ref 173, .ref 174, .ref 175, .ref 176, .int 0, .int 0, .ref 177, .ref 178, .int 0, .int 0, .ref 179, .int 0, .int 0, .int 0, .int 0]))))))) else (bif Nat.ble 112 a then (bif Nat.ble 123 a then (bif Nat.ble 129 a then (bif Nat.ble 132 a then (bif Nat.ble 133 a then (bif Nat.ble 134 a then (.inr (2000001, [.ref 0, .ref 3])) else (.inr (5, [.ref 134]))) else (.inr (2000001, [.ref 0, .ref 4]))) else (bif Nat.ble 130 a then (bif Nat.ble 131 a then (.inr (5, [.ref 132])) else (.inr (2000001, [.ref 0, .ref 16]))) else (.inr (5, [.ref 130])))) else (bif Nat.ble 126 a then (bif Nat.ble 127 a then (bif Nat.ble 128 a then (.inr (3, [.ref 126, .ref 129, .ref 54, .ref 56, .int 0, .int 0, .int 0, .int 0])) else (.inr (2000001, [.ref 0, .ref 40000]))) else (.inr (5, [.ref 127]))) else (bif Nat.ble 124 a then (bif Nat.ble 125 a then (.inr (2000001, [.ref 0, .ref 5])) else (.inr (5, [.ref 125]))) else (.inr (2000001, [.ref 0, .ref 4]))))) else (bif Nat.ble 117 a then (bif Nat.ble 120 a then (bif Nat.ble 121 a then (bif Nat.ble 122 a then (.inr (5, [.ref 123])) else (.inr (2000001, [.ref 0, .ref 4]))) else (.inr (5, [.ref 121]))) else (bif Nat.ble 118 a then (bif Nat.ble 119 a then (.inr (2000001, [.ref 0, .ref 16])) else (.inr (5, [.ref 119]))) else (.inr (2000001, [.ref 0, .ref 16])))) else (bif Nat.ble 114 a then (bif Nat.ble 115 a then (bif Nat.ble 116 a then (.inr (5, [.ref 117])) else (.inr (2, [.ref 104, .ref 11, .ref 12, .ref 79, .ref 81, .ref 116, .ref 118, .ref 120, .int 0, .int 0, .int 0]))) else (.inr (2000001, [.ref 0, .ref 2576]))) else (bif Nat.ble 113 a then (.inr (5, [.ref 114])) else (.inr (2000001, [.ref 0, .ref 161])))))) else (bif Nat.ble 101 a then (bif Nat.ble 106 a then (bif Nat.ble 109 a then (bif Nat.ble 110 a then (bif Nat.ble 111 a then (.inr (5, [.ref 112])) else (.inr (2000001, [.ref 0, .ref 161]))) else (.inr (5, [.ref 110]))) else (bif Nat.ble 107 a then (bif Nat.ble 108 a then (.inr (2000001, [.ref 0, .ref 161])) else (.inr (5, [.ref 108]))) else (.inr (2000001, [.ref 0, .ref 161])))) else (bif Nat.ble 103 a then (bif Nat.ble 104 a then (bif Nat.ble 105 a then (.inr (5, [.ref 106])) else (.inr (6, [.ref 105, .ref 107, .ref 109, .ref 111, .ref 113, .ref 11, .ref 12, .int 0, .int 0, .int 0, .int 0, .int 0, .int 0]))) else (.inr (2000001, [.ref 0, .ref 312]))) else (bif Nat.ble 102 a then (.inr (5, [.ref 103])) else (.inr (2000001, [.ref 0, .ref 78]))))) else (bif Nat.ble 95 a then (bif Nat.ble 98 a then (bif Nat.ble 99 a then (bif Nat.ble 100 a then (.inr (5, [.ref 101])) else (.inr (2000001, [.ref 0, .ref 78]))) else (.inr (5, [.ref 99]))) else (bif Nat.ble 96 a then (bif Nat.ble 97 a then (.inr (2000001, [.ref 0, .ref 78])) else (.inr (5, [.ref 97]))) else (.inr (2000001, [.ref 0, .ref 78])))) else (bif Nat.ble 92 a then (bif Nat.ble 93 a then (bif Nat.ble 94 a then (.inr (5, [.ref 95])) else (.inr (2000001, [.ref 0, .ref 1000]))) else (.inr (5, [.ref 93]))) else (bif Nat.ble 91 a then (.inr (2000001, [.ref 0, .ref 1000])) else (.inr (5, [.ref 91])))))))) else (bif Nat.ble 45 a then (bif Nat.ble 67 a then (bif Nat.ble 78 a then (bif Nat.ble 84 a then (bif Nat.ble 87 a then (bif Nat.ble 88 a then (bif Nat.ble 89 a then (.inr (2000001, [.ref 0, .ref 4000])) else (.inr (5, [.ref 89]))) else (.inr (2000001, [.ref 0, .ref 1000]))) else (bif Nat.ble 85 a then (bif Nat.ble 86 a then (.inr (5, [.ref 87])) else (.inr (2000001, [.ref 0, .ref 1000]))) else (.inr (5, [.ref 85])))) else (bif Nat.ble 81 a then (bif Nat.ble 82 a then (bif Nat.ble 83 a then (.inr (2000001, [.ref 0, .ref 1000])) else (.inr (5, [.ref 83]))) else (.inr (8, [.ref 82, .ref 84, .ref 86, .ref 88, .ref 90, .ref 92, .int 0]))) else (bif Nat.ble 79 a then (bif Nat.ble 80 a then (.inr (0, [.ref 81, .ref 94, .ref 96, .int 0])) else (.inr (9, [.ref 80, .ref 98, .ref 100, .ref 102]))) else (.inr (2000001, [.ref 0, .ref 312]))))) else (bif Nat.ble 72 a then (bif Nat.ble 75 a then (bif Nat.ble 76 a then (bif Nat.ble 77 a then (.inr (5, [.ref 78])) else (.inr (2000001, [.ref 0, .ref 78]))) else (.inr (5, [.ref 76]))) else (bif Nat.ble 73 a then (bif Nat.ble 74 a then (.inr (2000001, [.ref 0, .ref 78])) else (.inr (5, [.ref 74]))) else (.inr (2000001, [.ref 0, .ref 78])))) else (bif Nat.ble 69 a then (bif Nat.ble 70 a then (bif Nat.ble 71 a then (.inr (5, [.ref 72])) else (.inr (2000001, [.ref 0, .ref 78]))) else (.inr (5, [.ref 70]))) else (bif Nat.ble 68 a then (.inr (2000001, [.ref 0, .ref 1000])) else (.inr (5, [.ref 68])))))) else (bif Nat.ble 56 a then (bif Nat.ble 61 a then (bif Nat.ble 64 a then (bif Nat.ble 65 a then (bif Nat.ble 66 a then (.inr (2000001, [.ref 0, .ref 1000])) else (.inr (5, [.ref 66]))) else (.inr (2000001, [.ref 0, .ref 4000]))) else (bif Nat.ble 62 a then (bif Nat.ble 63 a then (.inr (5, [.ref 64])) else (.inr (2000001, [.ref 0, .ref 1000]))) else (.inr (5, [.ref 62])))) else (bif Nat.ble 58 a then (bif Nat.ble 59 a then (bif Nat.ble 60 a then (.inr (2000001, [.ref 0, .ref 1000])) else (.inr (5, [.ref 60]))) else (.inr (2000001, [.ref 0, .ref 1000]))) else (bif Nat.ble 57 a then (.inr (5, [.ref 58])) else (.inr (8, [.ref 57, .ref 59, .ref 61, .ref 63, .ref 65, .ref 67, .int 0]))))) else (bif Nat.ble 50 a then (bif Nat.ble 53 a then (bif Nat.ble 54 a then (bif Nat.ble 55 a then (.inr (0, [.ref 56, .ref 69, .ref 71, .int 0])) else (.inr (9, [.ref 55, .ref 73, .ref 75, .ref 77]))) else (.inr (2000001, [.ref 0, .ref 16]))) else (bif Nat.ble 51 a then (bif Nat.ble 52 a then (.inr (5, [.ref 53])) else (.inr (2000001, [.ref 1, .ref 16]))) else (.inr (1, [.ref 51])))) else (bif Nat.ble 47 a then (bif Nat.ble 48 a then (bif Nat.ble 49 a then (.inr (2000001, [.ref 1, .ref 48])) else (.inr (1, [.ref 49]))) else (.inr (4, [.ref 4, .ref 29, .ref 30, .int 0, .int 20, .int 0, .int 0, .ref 48, .int 0, .ref 50, .ref 52, .int 0, .int (-1)]))) else (bif Nat.ble 46 a then (.inr (2000001, [.ref 0, .ref 48])) else (.inr (5, [.ref 46]))))))) else (bif Nat.ble 22 a then (bif Nat.ble 33 a then (bif Nat.ble 39 a then (bif Nat.ble 42 a then (bif Nat.ble 43 a then (bif Nat.ble 44 a then (.inr (2000001, [.ref 0, .ref 48])) else (.inr (5, [.ref 44]))) else (.inr (2000001, [.ref 0, .ref 1500]))) else (bif Nat.ble 40 a then (bif Nat.ble 41 a then (.inr (5, [.ref 42])) else (.inr (2000001, [.ref 0, .ref 1500]))) else (.inr (5, [.ref 40])))) else (bif Nat.ble 36 a then (bif Nat.ble 37 a then (bif Nat.ble 38 a then (.inr (2000001, [.ref 0, .ref 6000])) else (.inr (5, [.ref 38]))) else (.inr (2000001, [.ref 0, .ref 1500]))) else (bif Nat.ble 34 a then (bif Nat.ble 35 a then (.inr (5, [.ref 36])) else (.inr (2000001, [.ref 0, .ref 1500]))) else (.inr (5, [.ref 34]))))) else (bif Nat.ble 27 a then (bif Nat.ble 30 a then (bif Nat.ble 31 a then (bif Nat.ble 32 a then (.inr (2000001, [.ref 0, .ref 1500])) else (.inr (5, [.ref 32]))) else (.inr (8, [.ref 31, .ref 33, .ref 35, .ref 37, .ref 39, .ref 41, .int 0]))) else (bif Nat.ble 28 a then (bif Nat.ble 29 a then (.inr (0, [.ref 30, .ref 43, .ref 45, .int 0])) else (.inr (2000001, [.ref 0, .ref 48]))) else (.inr (5, [.ref 28])))) else (bif Nat.ble 24 a then (bif Nat.ble 25 a then (bif Nat.ble 26 a then (.inr (2000001, [.ref 0, .ref 48])) else (.inr (5, [.ref 26]))) else (.inr (2000001, [.ref 0, .ref 1500]))) else (bif Nat.ble 23 a then (.inr (5, [.ref 24])) else (.inr (2000001, [.ref 0, .ref 1500])))))) else (bif Nat.ble 11 a then (bif Nat.ble 16 a then (bif Nat.ble 19 a then (bif Nat.ble 20 a then (bif Nat.ble 21 a then (.inr (5, [.ref 22])) else (.inr (2000001, [.ref 0, .ref 6000]))) else (.inr (5, [.ref 20]))) else (bif Nat.ble 17 a then (bif Nat.ble 18 a then (.inr (2000001, [.ref 0, .ref 1500])) else (.inr (5, [.ref 18]))) else (.inr (2000001, [.ref 0, .ref 1500])))) else (bif Nat.ble 13 a then (bif Nat.ble 14 a then (bif Nat.ble 15 a then (.inr (5, [.ref 16])) else (.inr (2000001, [.ref 0, .ref 1500]))) else (.inr (5, [.ref 14]))) else (bif Nat.ble 12 a then (.inr (8, [.ref 13, .ref 15, .ref 17, .ref 19, .ref 21, .ref 23, .int 0])) else (.inr (0, [.ref 12, .ref 25, .ref 27, .int 0]))))) else (bif Nat.ble 5 a then (bif Nat.ble 8 a then (bif Nat.ble 9 a then (bif Nat.ble 10 a then (.inr (2000001, [.ref 1, .ref 1501])) else (.inr (1, [.ref 10]))) else (.inr (2000001, [.ref 0, .ref 1501]))) else (bif Nat.ble 6 a then (bif Nat.ble 7 a then (.inr (5, [.ref 8])) else (.inr (2000001, [.ref 0, .ref 1501]))) else (.inr (5, [.ref 6])))) else (bif Nat.ble 2 a then (bif Nat.ble 3 a then (bif Nat.ble 4 a then (.inr (7, [.ref 2, .ref 5, .ref 7, .ref 9, .int 0, .int 0])) else (.inr (2000001, [.ref 0, .ref 8000]))) else (.inr (5, [.ref 3]))) else (bif Nat.ble 1 a then (.inr (10, [.ref 2, .int 0, .int (-1), .ref 4, .ref 47, .ref 11, .ref 29, .ref 54, .ref 79, .ref 104, .ref 115, .ref 122, .int 0, .ref 124, .ref 126, .int 0, .ref 128, .ref 131, .int 0, .ref 133])) else mi_dead)))))))
def w0 : mi_H := (181, 341045, w0_e)
def w0_l : mi_L := [(4, .int 0), (3, .ref 180), (2, .ref 135), (1, .ref 1), (0, .ref 0)]
def w0_V : sy_V := (16, 7, fun _ => (-2147483648, 2147483647, false))
def w0_same (x y : mi_E) : Bool := match x, y with
  | .inr p, .inr q => decide (p = q)
  | _, _ => false
noncomputable def w0_go : Option (mi_L × List Value × mi_H) := sy_to tb_P tb_T w0_V (sy_call tb_P tb_T w0_V 2000 20) 0 23 100 0 [(0, .ref 0)] [] (1, 0, fun _ => mi_dead)
noncomputable def w0_chk : Bool := match w0_go with
  | some q => decide (q.1 = w0_l) && (q.2.1.isEmpty && (decide (q.2.2.1 = 181) && (decide (q.2.2.2.1 = 341045) && (List.range 181).all (fun a => w0_same (q.2.2.2.2 a) (w0_e a)))))
  | none => false
set_option maxRecDepth 100000 in
theorem w0_ok : w0_chk = true := by decide +kernel
theorem w0_same_ok {x y : mi_E} (h : w0_same x y = true) : x = y := by
  unfold w0_same at h
  split at h
  · exact congrArg Sum.inr (of_decide_eq_true h)
  · cases h
theorem w0_V_ok (L : Nat) (xs : Nat → Int32) : sy_ok w0_V L xs := by
  refine ⟨fun h => absurd h (by decide), fun h => absurd h (by decide), fun k _ => ⟨Int32.le_toInt _, ?_⟩⟩
  have := Int32.toInt_lt (xs k)
  show _ ≤ (2147483647 : Int)
  omega
theorem w0_sy_l {xs : Nat → Int32} : ∀ {l : mi_L}, sy_l xs w0_l l → l = w0_l := by
  intro l h
  unfold w0_l at h ⊢
  obtain ⟨v0, r0, rfl, h0, v1, r1, rfl, h1, v2, r2, rfl, h2, v3, r3, rfl, h3, v4, r4, rfl, h4, rfl⟩ := h
  cases h0; cases h1; cases h2; cases h3; cases h4
  rfl
/-- both constructors have run: the law stands at its loop, over the world w0 -/
theorem w0_start (L : Nat) (xs : Nat → Int32) : ∃ h : mi_H, sy_h w0 h ∧ ∀ (d : Nat) (hd : d = 20) (k : Nat) (r : mi_O × mi_H), mi_run tb_P L xs (mi_call tb_P L xs 2000 d) 0 k 23 w0_l [] h = some r → mi_run tb_P L xs (mi_call tb_P L xs 2000 d) 0 (100 + k) 0 [(0, .ref 0)] [] (1, 0, fun _ => mi_dead) = some r := by
  have h := w0_ok
  unfold w0_chk at h
  split at h
  · next q hq =>
    simp only [Bool.and_eq_true, decide_eq_true_eq] at h
    obtain ⟨e1, e2, e3, e4, e5⟩ := h
    obtain ⟨l', t', h', g1, g2, g3, g4⟩ := sy_to_ok (w0_V_ok L xs) tb_T_ok (sy_call_ok (w0_V_ok L xs) tb_T_ok 20) 100 0 [(0, .ref 0)] [(0, .ref 0)] [] [] (1, 0, fun _ => mi_dead) (1, 0, fun _ => mi_dead) q hq ⟨.ref 0, [], rfl, rfl, rfl⟩ rfl ⟨rfl, rfl, fun a _ => sy_dead⟩
    rw [e1] at g1
    have e6 := w0_sy_l g1
    subst e6
    have e7 : q.2.1 = [] := List.isEmpty_iff.mp e2
    rw [e7] at g2
    have g2 : t' = [] := g2
    subst g2
    refine ⟨h', ⟨g3.1.trans e3, g3.2.1.trans e4, fun a ha => ?_⟩, fun d hd k r hk => by subst hd; exact g4 k r hk⟩
    have ha : a < 181 := ha
    have h1 := List.all_eq_true.mp e5 a (List.mem_range.mpr ha)
    have h2 := w0_same_ok h1
    have h3 := g3.2.2 a (by rw [e3]; exact ha)
    rw [h2] at h3
    exact h3
  · cases h
end
section
/-! p1: one call on a new object, over bounds, by the kernel. -/
def p1_pol (m k : Nat) : List Int := match m, k with
  | 1, 1 => [0, 1]
  | 4, 1 => [0]
  | 5, 1 => [0, 1, 2, 3, 4]
  | 7, 1 => [0, 1]
  | 8, 1 => [0, 1, 2, 3, 4, 5, 6, 7, 8]
  | 10, 1 => [0, 1]
  | 13, 1 => [0, 1]
  | 13, 2 => [0, 1]
  | 14, 1 => [0, 1, 2, 3]
  | _, _ => []
noncomputable def p1_go (V : sy_V) : Bool := sy_law tb_P tb_T (fun V => sy_call tb_P tb_T V 2000 20) p1_pol 600003 7302232 1900 V 23 w0_l [] w0
set_option maxRecDepth 100000 in
theorem p1_ok : p1_go w0_V = true := by decide +kernel
end
section
/-! p1: the claim. -/
theorem p1_pure : lw_pure := by
  intro L xs hL
  obtain ⟨h, H, hgo⟩ := w0_start L xs
  have hl : sy_l xs w0_l w0_l := ⟨.int 0, _, rfl, rfl, .ref 180, _, rfl, rfl, .ref 135, _, rfl, rfl, .ref 1, _, rfl, rfl, .ref 0, _, rfl, rfl, rfl⟩
  obtain ⟨g, h1, h2, h3⟩ := sy_law_ok tb_T_ok hL (c := mi_call tb_P L xs 2000 20) (fun V hV => sy_call_ok hV tb_T_ok 20) 1900 w0_V 23 w0_l w0_l [] [] w0 h p1_ok (w0_V_ok L xs) hl rfl H
  exact ⟨2000, 20, g, by decide, hgo 20 rfl 1900 _ h1, by omega, h3⟩
theorem i_vc : Claimed_1_1 ∧ Claimed_1_2 := i_vc_open p1_pure lw_text_ok
end
