section
/-! ===== BEGIN words of one list among another's, by their places ===== -/
theorem goodIn_r {big : List Cond} (ws : List Cond) (ps : List Nat) (hp : ws = ps.filterMap (fun i => big[i]?)) (h : ws.all goodWord = true) : GoodIn big ws := by
  intro w hw
  have h1 := List.all_eq_true.mp h w hw
  rw [hp] at hw
  obtain ⟨i, -, hi⟩ := List.mem_filterMap.mp hw
  have hm : w ∈ big := by first | exact List.mem_of_getElem? hi | exact List.getElem?_mem hi
  exact ⟨hm, good_of_word h1⟩
theorem goodIn_app {big a b : List Cond} (ha : GoodIn big a) (hb : GoodIn big b) : GoodIn big (a ++ b) := fun w h => (List.mem_append.mp h).elim (ha w) (hb w)
theorem goodIn_ca {big a b : List Cond} {c : Cond} (ha : GoodIn big (c :: a)) (hb : GoodIn big b) : GoodIn big (c :: (a ++ b)) := fun w h => (List.mem_cons.mp h).elim (fun e => ha w (List.mem_cons.mpr (Or.inl e))) (fun h => (List.mem_append.mp h).elim (fun h => ha w (List.mem_cons.mpr (Or.inr h))) (hb w))
theorem goodIn_sub {big ws : List Cond} (hm : ∀ w ∈ ws, w ∈ big) (h : ws.all goodWord = true) : GoodIn big ws := fun w hw => ⟨hm w hw, good_of_word (List.all_eq_true.mp h w hw)⟩
/-! ===== END ===== -/

/-! ===== BEGIN exceptions that leave a method, and their catching by the caller (launches without stack traces) ===== -/
section VXA
/-! The laws vx_back, vx_callV, vx_callS, vx_callSW, vx_throw0, vx_throwS follow proofs of the library, with one case more: JvmDerived/Free/Laws.lean (Back.of_free), Shelf42/LK1.lean (callV, callS), Shelf/KitTraced.lean (throwNew0V, throwNewS). -/
/-- where a method has thrown q: the class by its name, the cell, what was written, the world -/
def vx_T (XC : String → State → State → Prop) (st : State) (q : Addr) (t : State) (mc ms : Nat) (free : Addr → Prop) : Prop :=
  ∃ (E : String) (ce : Cell) (L : List Loc), XC E st t ∧ t.heap[q]? = some ce ∧ ce.vm = .none ∧ st.vm.findClass E = some ce.cls ∧ st.WarmedH t.vm ∧ st.sameButNew ({ t with vm := st.vm } : State) L mc ms ∧ ∀ z ∈ L, free z.base
def vx_Q (Qc : Array Value → State → Outcome → State → Prop) (XC : String → State → State → Prop) (mc ms : Nat) (free : Addr → Prop) : Array Value → State → Outcome → State → Prop := fun a st o t =>
  (Qc a st o t ∧ ∃ L, FrameEnd st o t L mc ms ∧ ∀ q ∈ L, free q.base) ∨ ∃ q, o = .threw q ∧ vx_T XC st q t mc ms free
/-- a callee that returns or throws -/
def vx_Met (l : Launch) (y : MethodName) (ws : List Cond) (rm : Room) (Pc : Array Value → State → Prop) (Qc : Array Value → State → Outcome → State → Prop) (XC : String → State → State → Prop) (mc ms : Nat) (free : Addr → Prop) : Prop :=
  MetFree l y (headSpec ws rm) Pc (fun _ _ _ _ _ => True) (vx_Q Qc XC mc ms free)
def vx_Post (XC : String → State → State → Prop) (mc ms : Nat) (free : Addr → Prop) : Pt → Array Value → Addr → Pt → Prop := fun A a q B =>
  ∃ (g : JFrame) (mk : MethodId) (t : State) (L : List Loc) (E : String) (ce : Cell), B.U.heap = t.heap ∧ B.U.vm = t.vm ∧ XC E (A.U.calling g mk a) t ∧ t.heap[q]? = some ce ∧ ce.vm = .none ∧ A.U.vm.findClass E = some ce.cls ∧ B.locs = A.locs ++ L ∧ (∀ z ∈ L, free z.base) ∧ B.cells = A.cells + mc ∧ B.slots = A.slots + ms
def vx_Back (l : Launch) (R : Room) (p : Program) (e : Env) (below : List Frame) (s : State) (sargs : Array Value) (y : MethodName) (len W9 : Nat)
    (Pre : Pt → Array Value → Prop) (Post : Pt → Array Value → Option Value → Pt → Prop) (PostX : Pt → Array Value → Addr → Pt → Prop) : Prop :=
  ∀ (m : MethodId) (meth : Method) (c : Code) (A : Pt) (g : JFrame) (ig : Instr) (mk : MethodId) (a : Array Value),
    Stand p l e R s m sargs below meth c A.U A.locs A.cells A.slots → g.method = m → g.locals.size = c.maxLocals → decode c.code g.pc = .ok (ig, len) →
    2 * g.monitorRoom + (g.stack.map fun v => v.category).sum ≤ W9 → A.U.methodNamed? y = some mk → Pre A a →
    (∃ (v : Option Value) (B : Pt), Stand p l e R s m sargs below meth c B.U B.locs B.cells B.slots ∧ Post A a v B ∧
      Steps p.tables e below (doInvoke e (A.U.setTop g) [] mk a).1 (B.U.setTop { g with pc := g.pc + len, stack := v.toList ++ g.stack })) ∨
    (∃ (q : Addr) (B : Pt), Stand p l e R s m sargs below meth c B.U B.locs B.cells B.slots ∧ PostX A a q B ∧
      Steps p.tables e below (doInvoke e (A.U.setTop g) [] mk a).1 ((B.U.setTop g).pushFrame (.throwing q)))
section Payer
variable {l : Launch} {R : Room} {p : Program} {e : Env} {below : List Frame} {s : State} {sargs : Array Value} {y : MethodName} {len W9 : Nat}
theorem vx_back {ws : List Cond} {rm : Room} {Pc : Array Value → State → Prop} {Qc : Array Value → State → Outcome → State → Prop} {XC : String → State → State → Prop} {mc ms : Nat} {free : Addr → Prop} {bytes : ByteArray} {maxL : Nat} {ret : Option FieldType}
    (hM : vx_Met l y ws rm Pc Qc XC mc ms free) (hblind : FrameBlind Pc) (hrc : rm.cells = mc) (hrs : rm.slots = ms)
    (hframes : rm.frames + 1 ≤ R.frames) (hlocals : W9 + (maxL + 11) + rm.locals ≤ R.locals)
    (hws : ∀ w ∈ ws, ∀ a' U, s.WarmedH U.vm → w.before a' U = true) (hcode : Cond.code y bytes maxL ret ∈ ws) (hinit : ∀ a' U, s.WarmedH U.vm → (Cond.initialized y.cls).before a' U = true) :
    vx_Back l R p e below s sargs y len W9 (PreOf R mc ms Pc) (PostOf Qc mc ms free) (vx_Post XC mc ms free) := by
  intro m meth c A g ig mk a X hg hsize hdg hW hn hp
  have h1 : (headSpec ws rm).pre.before a A.U = true := atoms_intro fun w hw => hws w hw _ _ X.warmed
  have h2 : (Cond.code y bytes maxL ret).before a A.U = true := hws _ hcode _ _ X.warmed
  have h3 : (Cond.initialized y.cls).before a A.U = true := hinit _ _ X.warmed
  have h4 : A.cells + (headSpec ws rm).room.cells ≤ R.cells := by rw [show (headSpec ws rm).room.cells = mc from hrc]; exact hp.1
  have h5 : A.slots + (headSpec ws rm).room.slots ≤ R.slots := by rw [show (headSpec ws rm).room.slots = ms from hrs]; exact hp.2.1
  have hPc : Pc a (A.U.calling g mk a) := hblind _ _ _ _ hp.2.2
  obtain ⟨U, Ls, c0, s0⟩ := A
  dsimp only [Pt.U, Pt.locs, Pt.cells, Pt.slots] at h1 h2 h3 h4 h5 X hn hPc ⊢
  obtain ⟨methY, cY, hmY, hcY, -, hlY, -, -, -, -⟩ := Cond.code_spec hn h2
  obtain ⟨kY, hkY, -⟩ := className_of_methodNamed hn
  have hinitY : kY.init = .initialized := Cond.initialized_spec (findClass_of_methodNamed hn) hkY h3
  have h : At U g.method c below := by rw [hg]; exact X.here
  have hlocals9 : W9 + (maxL + 11) + (headSpec ws rm).room.locals ≤ R.locals := hlocals
  have happ : (headSpec ws rm).appliesLoose y e.platform (U.calling g mk a) = true :=
    Spec.appliesLoose_calling (g := g) h hdg hn hkY hinitY
      (X.room_calling (g := g) (R' := (headSpec ws rm).room) hsize hmY hcY hframes (by rw [hlY]; omega) h4 h5) h1
  obtain ⟨mid, hmid⟩ := h.above
  have hfr : (U.setTop g).frames = (.java g :: mid) ++ below := by rw [State.frames_setTop' g h.top, hmid]; rfl
  obtain ⟨o, s₂, hsteps, -, hend, hq⟩ := Steps.callFree hM p X.admits X.cas X.clock (acts := []) hfr happ hPc trivial
  have hq' : vx_Q Qc XC mc ms free a (U.calling g mk a) o s₂ := hq
  rw [State.frames_setTop' g h.top] at hend
  obtain ⟨g₀, hg0⟩ := Option.isSome_iff_exists.mp h.top
  obtain ⟨r, hr⟩ := State.topJava?_eq_some.mp hg0
  have hr' : (({ U with heap := s₂.heap, slotsUsed := s₂.slotsUsed } : State).setVm s₂.vm).frames = .java g₀ :: r := hr
  rcases hq' with ⟨hqc, L, hfe, hL⟩ | ⟨q, rfl, E, ce, L, hx, hce, hcv, hcl, hW₂, hsm, hL⟩
  · obtain ⟨⟨v, rfl⟩, hW₂, e2, q2, q3, q4, q5, q6⟩ := id hfe
    have e3 : s₂ = ({ (U.calling g mk a).setFrames s₂.frames with heap := s₂.heap, slotsUsed := s₂.slotsUsed } : State).setVm s₂.vm := by
      have : s₂ = ({ s₂ with vm := (U.calling g mk a).vm } : State).setVm s₂.vm := rfl
      rw [e2] at this
      exact this
    obtain ⟨c₂, i₂, len₂, hc₂, hd₂, hf₂⟩ := hend
    have hW' : U.WarmedH s₂.vm := hW₂
    have hcc : c₂ = c := by
      have h1 : s₂.code? g.method = U.code? g.method := by
        rw [State.code?_eq, State.code?_eq, hW'.alike.method?]
      exact Option.some.inj (hc₂.symm.trans (h1.trans h.code))
    subst hcc
    have hlen : len₂ = len := by rw [hdg] at hd₂; cases hd₂; rfl
    subst hlen
    have hs₂ : s₂ = (({ U with heap := s₂.heap, slotsUsed := s₂.slotsUsed } : State).setVm s₂.vm).setTop { g with pc := g.pc + len₂, stack := v.toList ++ g.stack } := by
      refine e3.trans ?_
      rw [hf₂, State.calling_eq h.top, State.setFrames_setFrames, State.setTop_of_frames _ hr', hr]
      rfl
    have hsame : U.sameButNew ({ U with heap := s₂.heap, slotsUsed := s₂.slotsUsed } : State) L mc ms := by
      refine ⟨?_, q2, q3, q4, q5, q6⟩
      obtain ⟨t, ht, -⟩ := State.frames_cons hr
      show ({ U with heap := s₂.heap, slotsUsed := s₂.slotsUsed } : State) = { U.setFrames U.frames with heap := s₂.heap, slotsUsed := s₂.slotsUsed }
      rw [State.setFrames_self ht]
    subst hg
    refine Or.inl ⟨v, ⟨(({ U with heap := s₂.heap, slotsUsed := s₂.slotsUsed } : State).setVm s₂.vm), Ls ++ L, c0 + mc, s0 + ms⟩,
      ⟨X.admits, X.cas, X.clock, X.frames, X.room, X.hears, X.method, X.code, (X.here.setHeapUsed s₂.heap s₂.slotsUsed).setVm hW'.alike, X.tail, State.WarmedH.trans X.warmed hW', X.limits, X.bytes, X.same.trans (hsame.setVm s.vm)⟩,
      ⟨g, mk, s₂, L, rfl, rfl, hqc, rfl, hL, rfl, rfl⟩, ?_⟩
    show Steps p.tables e below _ ((({ U with heap := s₂.heap, slotsUsed := s₂.slotsUsed } : State).setVm s₂.vm).setTop { g with pc := g.pc + len₂, stack := v.toList ++ g.stack })
    rw [← hs₂]
    exact hsteps
  · obtain ⟨e2, q2, q3, q4, q5, q6⟩ := id hsm
    have e3 : s₂ = ({ (U.calling g mk a).setFrames s₂.frames with heap := s₂.heap, slotsUsed := s₂.slotsUsed } : State).setVm s₂.vm := by
      have : s₂ = ({ s₂ with vm := (U.calling g mk a).vm } : State).setVm s₂.vm := rfl
      rw [e2] at this
      exact this
    have hf₂ : s₂.frames = .throwing q :: .java g :: U.frames.tail := hend
    have hW' : U.WarmedH s₂.vm := hW₂
    have hs₂ : s₂ = ((({ U with heap := s₂.heap, slotsUsed := s₂.slotsUsed } : State).setVm s₂.vm).setTop g).pushFrame (.throwing q) := by
      refine e3.trans ?_
      rw [hf₂, State.calling_eq h.top, State.setFrames_setFrames, State.pushFrame, State.frames_setTop _ hr', State.setTop_of_frames _ hr', State.setFrames_setFrames, hr]
      rfl
    have hsame : U.sameButNew ({ U with heap := s₂.heap, slotsUsed := s₂.slotsUsed } : State) L mc ms := by
      refine ⟨?_, q2, q3, q4, q5, q6⟩
      obtain ⟨t, ht, -⟩ := State.frames_cons hr
      show ({ U with heap := s₂.heap, slotsUsed := s₂.slotsUsed } : State) = { U.setFrames U.frames with heap := s₂.heap, slotsUsed := s₂.slotsUsed }
      rw [State.setFrames_self ht]
    subst hg
    refine Or.inr ⟨q, ⟨(({ U with heap := s₂.heap, slotsUsed := s₂.slotsUsed } : State).setVm s₂.vm), Ls ++ L, c0 + mc, s0 + ms⟩,
      ⟨X.admits, X.cas, X.clock, X.frames, X.room, X.hears, X.method, X.code, (X.here.setHeapUsed s₂.heap s₂.slotsUsed).setVm hW'.alike, X.tail, State.WarmedH.trans X.warmed hW', X.limits, X.bytes, X.same.trans (hsame.setVm s.vm)⟩,
      ⟨g, mk, s₂, L, E, ce, rfl, rfl, hx, hce, hcv, hcl, rfl, hL, rfl, rfl⟩, ?_⟩
    show Steps p.tables e below _ (((({ U with heap := s₂.heap, slotsUsed := s₂.slotsUsed } : State).setVm s₂.vm).setTop g).pushFrame (.throwing q))
    rw [← hs₂]
    exact hsteps
end Payer
section Calls
variable {p : Program} {l : Launch} {e : Env} {R : Room} {s : State} {m : MethodId} {args : Array Value} {below : List Frame} {meth : Method} {c : Code} {T : State} {locs : List Loc} {cells slots : Nat}
theorem vx_callV (X : Stand p l e R s m args below meth c T locs cells slots) (hexec : p.tables.exec = Jvm.exec) {own C : String} {index : Nat} {y : MethodName} {bytes : ByteArray} {maxL : Nat} {ret : Option FieldType}
    (hown : s.vm.findClass own = some m.cls) (hlink : (Cond.methodLink own index y).before args s = true) (hinst : (Cond.instanceMethod y).before args s = true) (hsel : (Cond.selects C y y).before args s = true)
    (hcode : (Cond.code y bytes maxL ret).before args s = true) (hy : y.cls ≠ "java/lang/invoke/MethodHandle" ∧ y.cls ≠ "java/lang/invoke/VarHandle")
    {W9 : Nat} {Pre : Pt → Array Value → Prop} {Post : Pt → Array Value → Option Value → Pt → Prop} {PostX : Pt → Array Value → Addr → Pt → Prop} (hK : vx_Back l R p e below s args y 3 W9 Pre Post PostX)
    {b : Addr} {cellB : Cell} (hcell : T.heap[b]? = some cellB) (hobj : cellB.vm.isStatics = false) (hcls : s.vm.findClass C = some cellB.cls)
    {g : JFrame} (hg : g.method = m) (hsize : g.locals.size = c.maxLocals) {argsL rest : List Value} (hlen : ∀ sig, parseMethodDescriptor y.desc = some sig → argsL.length = sig.parameters.length)
    (hstack : g.stack = argsL.reverse ++ .ref b :: rest) (hW : 2 * g.monitorRoom + (rest.map fun v => v.category).sum ≤ W9) (hdg : decode c.code g.pc = .ok (.invokevirtual index, 3))
    (hpre : ∀ vm₁, s.WarmedH vm₁ → Pre ⟨T.setVm vm₁, locs, cells, slots⟩ (Value.ref b :: argsL).toArray) :
    (∃ (v : Option Value) (vm₁ : Vm) (B : Pt), s.WarmedH vm₁ ∧ Stand p l e R s m args below meth c B.U B.locs B.cells B.slots ∧ Post ⟨T.setVm vm₁, locs, cells, slots⟩ (Value.ref b :: argsL).toArray v B ∧
      ∀ target, Steps p.tables e below (B.U.setTop { g with pc := g.pc + 3, stack := v.toList ++ rest }) target → Steps p.tables e below (T.setTop g) target) ∨
    (∃ (q : Addr) (vm₁ : Vm) (B : Pt), s.WarmedH vm₁ ∧ Stand p l e R s m args below meth c B.U B.locs B.cells B.slots ∧ PostX ⟨T.setVm vm₁, locs, cells, slots⟩ (Value.ref b :: argsL).toArray q B ∧
      Steps p.tables e below (T.setTop g) ((B.U.setTop { g with stack := rest }).pushFrame (.throwing q))) := by
  obtain ⟨mk, methM, hnamed, hmethM, hstM, habM⟩ := Cond.instanceMethod_spec hinst
  obtain ⟨methM', cM, hmethM', -, -, -, -, -, -, hsigM⟩ := Cond.code_spec hnamed hcode
  cases hmethM.symm.trans hmethM'
  obtain ⟨c2, r2, m2, q1, q2, q3, q4, kP, hkP, hkPi⟩ := Cond.selects_spec hsel
  cases hcls.symm.trans q1
  cases (State.methodFound?_of_named hnamed hy).symm.trans q2
  cases hnamed.symm.trans q3
  have hselP : selectMethod e.platform s.vm cellB.cls mk = .method mk := by rw [Launch.admits_selectMethod X.admits]; exact q4
  obtain ⟨vm₁, X₁, hstep₁⟩ := X.invokevirtual hexec hown hlink hnamed hmethM hstM hkP hkPi hy (a := b) (cell := cellB) hcell
    (fun z h => by rw [h] at hobj; cases hobj) hselP hmethM habM hkP hkPi (g := g) hg (argsL := argsL) (rest := rest) (hlen _ hsigM) hstack hdg
  rcases hK m meth c ⟨T.setVm vm₁, locs, cells, slots⟩ { g with stack := rest } (.invokevirtual index) mk (Value.ref b :: argsL).toArray X₁ hg hsize hdg hW (X₁.named hnamed) (hpre vm₁ X₁.warmed) with ⟨v, B, X', hpost, hsteps⟩ | ⟨q, B, X', hpost, hsteps⟩
  · exact Or.inl ⟨v, vm₁, B, X₁.warmed, X', hpost, fun target h => hstep₁ _ fun acts => by rw [doInvoke_state]; exact hsteps.trans h⟩
  · exact Or.inr ⟨q, vm₁, B, X₁.warmed, X', hpost, hstep₁ _ fun acts => by rw [doInvoke_state]; exact hsteps⟩
theorem vx_callS (X : Stand p l e R s m args below meth c T locs cells slots) (hexec : p.tables.exec = Jvm.exec) {own : String} {index : Nat} {y : MethodName} {bytes : ByteArray} {maxL : Nat} {ret : Option FieldType}
    (hown : s.vm.findClass own = some m.cls) (hlink : (Cond.methodLink own index y).before args s = true) (hstat : (Cond.static y).before args s = true) (hinit : (Cond.initialized y.cls).before args s = true)
    (hcode : (Cond.code y bytes maxL ret).before args s = true) (hy : y.cls ≠ "java/lang/invoke/MethodHandle" ∧ y.cls ≠ "java/lang/invoke/VarHandle")
    {W9 : Nat} {Pre : Pt → Array Value → Prop} {Post : Pt → Array Value → Option Value → Pt → Prop} {PostX : Pt → Array Value → Addr → Pt → Prop} (hK : vx_Back l R p e below s args y 3 W9 Pre Post PostX)
    {g : JFrame} (hg : g.method = m) (hsize : g.locals.size = c.maxLocals) {argsL rest : List Value} (hlen : ∀ sig, parseMethodDescriptor y.desc = some sig → argsL.length = sig.parameters.length)
    (hstack : g.stack = argsL.reverse ++ rest) (hW : 2 * g.monitorRoom + (rest.map fun v => v.category).sum ≤ W9) (hdg : decode c.code g.pc = .ok (.invokestatic index, 3))
    (hpre : ∀ vm₁, s.WarmedH vm₁ → Pre ⟨T.setVm vm₁, locs, cells, slots⟩ argsL.toArray) :
    (∃ (v : Option Value) (vm₁ : Vm) (B : Pt), s.WarmedH vm₁ ∧ Stand p l e R s m args below meth c B.U B.locs B.cells B.slots ∧ Post ⟨T.setVm vm₁, locs, cells, slots⟩ argsL.toArray v B ∧
      ∀ target, Steps p.tables e below (B.U.setTop { g with pc := g.pc + 3, stack := v.toList ++ rest }) target → Steps p.tables e below (T.setTop g) target) ∨
    (∃ (q : Addr) (vm₁ : Vm) (B : Pt), s.WarmedH vm₁ ∧ Stand p l e R s m args below meth c B.U B.locs B.cells B.slots ∧ PostX ⟨T.setVm vm₁, locs, cells, slots⟩ argsL.toArray q B ∧
      Steps p.tables e below (T.setTop g) ((B.U.setTop { g with stack := rest }).pushFrame (.throwing q))) := by
  obtain ⟨mk, hnamed⟩ := Cond.code_named hcode
  obtain ⟨methM, cM, hmethM, -, -, -, -, -, -, hsigM⟩ := Cond.code_spec hnamed hcode
  have hstatic : methM.isStatic = true := Cond.static_spec hnamed hmethM hstat
  obtain ⟨kP, hkP, -⟩ := className_of_methodNamed hnamed
  have hinitP : kP.init = .initialized := Cond.initialized_spec (findClass_of_methodNamed hnamed) hkP hinit
  obtain ⟨vm₁, X₁, hstep₁⟩ := X.invokestatic hexec hown hlink hnamed hmethM hstatic hkP hinitP hy (g := g) hg (argsL := argsL) (rest := rest) (hlen _ hsigM) hstack hdg
  rcases hK m meth c ⟨T.setVm vm₁, locs, cells, slots⟩ { g with stack := rest } (.invokestatic index) mk argsL.toArray X₁ hg hsize hdg hW (X₁.named hnamed) (hpre vm₁ X₁.warmed) with ⟨v, B, X', hpost, hsteps⟩ | ⟨q, B, X', hpost, hsteps⟩
  · exact Or.inl ⟨v, vm₁, B, X₁.warmed, X', hpost, fun target h => hstep₁ _ fun acts => by rw [doInvoke_state]; exact hsteps.trans h⟩
  · exact Or.inr ⟨q, vm₁, B, X₁.warmed, X', hpost, hstep₁ _ fun acts => by rw [doInvoke_state]; exact hsteps⟩
end Calls
theorem vx_cls {s : State} {T : State} {vm₁ : Vm} {E : String} {k : ClassId} (hW : s.WarmedH vm₁) (h : (T.setVm vm₁).vm.findClass E = some k) : s.vm.findClass E = some k := by
  have h1 : vm₁.findClass E = some k := h
  rw [hW.alike.findClass] at h1
  exact h1
/-- the method's frame g, with q thrown over it -/
def vx_W (p : Program) (l : Launch) (e : Env) (R : Room) (s : State) (m : MethodId) (args : Array Value) (below : List Frame) (meth : Method) (c : Code) (H : Heap) (locs : List Loc) (cells slots : Nat) (Q : State → Prop) (g : JFrame) (q : Addr) : Prop :=
  ∀ T : State, T.heap = H → Stand p l e R s m args below meth c T locs cells slots → ∃ t, Steps p.tables e below ((T.setTop g).pushFrame (.throwing q)) t ∧ Q t
def vx_Run (p : Program) (l : Launch) (e : Env) (R : Room) (s : State) (m : MethodId) (args : Array Value) (below : List Frame) (meth : Method) (c : Code) (H : Heap) (locs : List Loc) (cells slots mc ms : Nat) (g : JFrame) (rest : List Value) (Qa : State → Outcome → State → Prop) (XC : String → State → State → Prop) (free : Addr → Prop) : Prop :=
  ∀ T : State, T.heap = H → Stand p l e R s m args below meth c T locs cells slots →
    (∃ (v : Option Value) (st₀ t T' : State) (L : List Loc), st₀.heap = H ∧ Stand p l e R s m args below meth c T' (locs ++ L) (cells + mc) (slots + ms) ∧ (∀ q ∈ L, free q.base) ∧ T'.heap = t.heap ∧ T'.vm = t.vm ∧ Qa st₀ (.returned v) t ∧
      Goes p e below T g T' { g with pc := g.pc + 3, stack := v.toList ++ rest }) ∨
    (∃ (q : Addr) (st₀ t T' : State) (L : List Loc) (E : String) (ce : Cell), st₀.heap = H ∧ Stand p l e R s m args below meth c T' (locs ++ L) (cells + mc) (slots + ms) ∧ (∀ z ∈ L, free z.base) ∧ T'.heap = t.heap ∧ T'.vm = t.vm ∧ XC E st₀ t ∧ t.heap[q]? = some ce ∧ ce.vm = .none ∧ s.vm.findClass E = some ce.cls ∧
      Steps p.tables e below (T.setTop g) ((T'.setTop { g with stack := rest }).pushFrame (.throwing q)))
def vx_X {S : Type} (px : S → Prop) (B : String → S → State → Prop) (A : Nat → Prop) : String → State → State → Prop := fun E st t => ∃ u : S, px u ∧ B E u t ∧ va_F A st t
section Runs
variable {p : Program} {l : Launch} {e : Env} {R : Room} {s : State} {m : MethodId} {args : Array Value} {below : List Frame} {meth : Method} {c : Code} {H : Heap} {locs : List Loc} {cells slots : Nat}
variable {y : MethodName} {bytes cc : ByteArray} {maxL nL mc ms n index : Nat} {ret : Option FieldType} {ws : List Cond} {rm : Room} {Pc : Array Value → State → Prop} {Qc : Array Value → State → Outcome → State → Prop} {XC : String → State → State → Prop} {free : Addr → Prop} {Ts : List Cond} {own C : String} {b : Addr} {As rest : List Value} {g : JFrame}
theorem vx_callBack (cb : CallB R s args own index y bytes maxL ret ws rm mc ms n) (hM : vx_Met l y ws rm Pc Qc XC mc ms free) (hbl : FrameBlind Pc) : vx_Back l R p e below s args y 3 8 (PreOf R mc ms Pc) (PostOf Qc mc ms free) (vx_Post XC mc ms free) := by
  obtain ⟨hrc, hrs, hfr, hlo, hws, hcw, -, hini, -⟩ := cb
  exact vx_back (bytes := bytes) (maxL := maxL) (ret := ret) hM hbl hrc hrs hfr hlo hws hcw (fun a' U hW => word_at hW (Or.inl (by first | rfl | simp [Cond.onTables, Cond.keeps, Cond.steady])) hini)
theorem vx_runV (S : CallFix p m c cc nL s args Ts own) (hM : vx_Met l y ws rm Pc Qc XC mc ms free) (cw : CallW R s args own C index y bytes maxL ret ws rm mc ms n) (hp : PreV s H C b Pc As)
    (hg : g.method = m) (hn : As.length = n) (hsize : g.locals.size = nL) (hstack : g.stack = As.reverse ++ .ref b :: rest) (hW : 2 * g.monitorRoom + (rest.map fun v => v.category).sum ≤ 8) (hdg : decode cc g.pc = .ok (.invokevirtual index, 3)) (hf : cells + mc ≤ R.cells ∧ slots + ms ≤ R.slots) :
    vx_Run p l e R s m args below meth c H locs cells slots mc ms g rest (Qc (Value.ref b :: As).toArray) XC free := by
  have hK : vx_Back l R p e below s args y 3 8 (PreOf R mc ms Pc) (PostOf Qc mc ms free) (vx_Post XC mc ms free) := vx_callBack cw.1 hM hp.1
  obtain ⟨⟨-, -, -, -, -, -, hcode, -, hy, hlen, hl⟩, hin, hse⟩ := cw
  obtain ⟨hx, hb, hml, ho, -⟩ := S
  obtain ⟨-, ⟨cellB, hcB, hoB, hclB⟩, hPc⟩ := hp
  intro T hT X
  rcases vx_callV X hx (C := C) (bytes := bytes) (maxL := maxL) (ret := ret) ho hl hin hse hcode hy hK (by rw [hT]; exact hcB) hoB hclB hg (hsize.trans hml.symm) (argsL := As) (rest := rest) (fun sig h => hn.trans (hlen sig h)) hstack hW (by rw [hb]; exact hdg)
    (fun vm₁ hW₁ => ⟨hf.1, hf.2, hPc (T.setVm vm₁) hT hW₁⟩) with ⟨v, vm₁, ⟨U', l2, c2, s2⟩, hW₁, X', ⟨g', mk, t, L, e1, e2, hq, h1, hL, h2, h3⟩, st⟩ | ⟨q, vm₁, ⟨U', l2, c2, s2⟩, hW₁, X', ⟨g', mk, t, L, E, ce, e1, e2, hq, hce, hcv, hcl, h1, hL, h2, h3⟩, st⟩
  · dsimp only [Pt.U, Pt.locs, Pt.cells, Pt.slots] at X' e1 e2 h1 h2 h3 st
    subst h1; subst h2; subst h3
    exact Or.inl ⟨v, (T.setVm vm₁).calling g' mk (Value.ref b :: As).toArray, t, U', L, hT, X', hL, e1, e2, hq, st⟩
  · dsimp only [Pt.U, Pt.locs, Pt.cells, Pt.slots] at X' e1 e2 h1 h2 h3 st hcl
    subst h1; subst h2; subst h3
    exact Or.inr ⟨q, (T.setVm vm₁).calling g' mk (Value.ref b :: As).toArray, t, U', L, E, ce, hT, X', hL, e1, e2, hq, hce, hcv, vx_cls hW₁ hcl, st⟩
theorem vx_runS (S : CallFix p m c cc nL s args Ts own) (hM : vx_Met l y ws rm Pc Qc XC mc ms free) (cw : CallB R s args own index y bytes maxL ret ws rm mc ms n ∧ (Cond.static y).before args s = true) (hp : PreS s H Pc As)
    (hg : g.method = m) (hn : As.length = n) (hsize : g.locals.size = nL) (hstack : g.stack = As.reverse ++ rest) (hW : 2 * g.monitorRoom + (rest.map fun v => v.category).sum ≤ 8) (hdg : decode cc g.pc = .ok (.invokestatic index, 3)) (hf : cells + mc ≤ R.cells ∧ slots + ms ≤ R.slots) :
    vx_Run p l e R s m args below meth c H locs cells slots mc ms g rest (Qc As.toArray) XC free := by
  have hK : vx_Back l R p e below s args y 3 8 (PreOf R mc ms Pc) (PostOf Qc mc ms free) (vx_Post XC mc ms free) := vx_callBack cw.1 hM hp.1
  obtain ⟨⟨-, -, -, -, -, -, hcode, hini, hy, hlen, hl⟩, hstt⟩ := cw
  obtain ⟨hx, hb, hml, ho, -⟩ := S
  intro T hT X
  rcases vx_callS X hx (bytes := bytes) (maxL := maxL) (ret := ret) ho hl hstt hini hcode hy hK hg (hsize.trans hml.symm) (argsL := As) (rest := rest) (fun sig h => hn.trans (hlen sig h)) hstack hW (by rw [hb]; exact hdg)
    (fun vm₁ hW₁ => ⟨hf.1, hf.2, hp.2 (T.setVm vm₁) hT hW₁⟩) with ⟨v, vm₁, ⟨U', l2, c2, s2⟩, hW₁, X', ⟨g', mk, t, L, e1, e2, hq, h1, hL, h2, h3⟩, st⟩ | ⟨q, vm₁, ⟨U', l2, c2, s2⟩, hW₁, X', ⟨g', mk, t, L, E, ce, e1, e2, hq, hce, hcv, hcl, h1, hL, h2, h3⟩, st⟩
  · dsimp only [Pt.U, Pt.locs, Pt.cells, Pt.slots] at X' e1 e2 h1 h2 h3 st
    subst h1; subst h2; subst h3
    exact Or.inl ⟨v, (T.setVm vm₁).calling g' mk As.toArray, t, U', L, hT, X', hL, e1, e2, hq, st⟩
  · dsimp only [Pt.U, Pt.locs, Pt.cells, Pt.slots] at X' e1 e2 h1 h2 h3 st hcl
    subst h1; subst h2; subst h3
    exact Or.inr ⟨q, (T.setVm vm₁).calling g' mk As.toArray, t, U', L, E, ce, hT, X', hL, e1, e2, hq, hce, hcv, vx_cls hW₁ hcl, st⟩
end Runs
section Rows
variable {p : Program} {l : Launch} {e : Env} {R : Room} {s : State} {m : MethodId} {args : Array Value} {below : List Frame} {meth : Method} {c : Code} {H : Heap} {locs : List Loc} {cells slots : Nat} {Q : State → Prop}
variable {mc ms : Nat} {free : Addr → Prop} {A0 A1 : Nat → Prop} {H0 : Heap} {a : Array Value} {pc : Nat} {ls : Array Slot} {st0 rest : List Value}
theorem vx_keep {st₀ t T' : State} {L : List Loc} (h0 : st₀.heap = H) (e1 : T'.heap = t.heap) (hS : va_S A0 H0 H locs) (hA : ∀ q, q < H.size → A1 q → A0 q) (hf : ∀ q, free q → A0 q) (hL : ∀ q ∈ L, free q.base) (hF : va_F A1 st₀ t) :
    H.size ≤ T'.heap.size ∧ (∀ q : Nat, q < H.size → ¬ A1 q → T'.heap[q]? = H[q]?) ∧ va_S A0 H0 T'.heap (locs ++ L) := by
  obtain ⟨hz, hk⟩ := hF
  rw [h0] at hz hk
  exact ⟨by rw [e1]; exact hz, fun q h1 h2 => by rw [e1]; exact hk q h1 h2,
    ⟨Nat.le_trans hS.1 (by rw [e1]; exact hz), fun q h1 h2 => by rw [e1, hk q (Nat.lt_of_lt_of_le h1 hS.1) (fun z => h2 (hA q (Nat.lt_of_lt_of_le h1 hS.1) z))]; exact hS.2.1 q h1 h2, fun q hq => by
      rcases List.mem_append.mp hq with h | h
      · exact hS.2.2 q h
      · exact hf _ (hL q h)⟩⟩
theorem vx_calli {S SX : Type} {post : Int32 → S → Prop} {px : SX → Prop} {B : S → State → Prop} {BX : String → SX → State → Prop} {AX : Nat → Prop} (hr : vx_Run p l e R s m args below meth c H locs cells slots mc ms (F0 m pc ls st0) rest (va_Qi post B A1 a) (vx_X px BX AX) free) (hS : va_S A0 H0 H locs) (hA : ∀ q, q < H.size → A1 q → A0 q) (hf : ∀ q, free q → A0 q) (hAX : ∀ q, q < H.size → AX q → A0 q)
    (kx : ∀ (E : String) (ce : Cell) (q9 : Addr) (u : SX) (t : State) (H1 : Heap) (locs1 : List Loc), t.heap = H1 → s.vm.Alike t.vm → px u → BX E u t → H.size ≤ H1.size → (∀ q : Nat, q < H.size → ¬ AX q → H1[q]? = H[q]?) → va_S A0 H0 H1 locs1 → H1[q9]? = some ce → ce.vm = .none → s.vm.findClass E = some ce.cls → vx_W p l e R s m args below meth c H1 locs1 (cells + mc) (slots + ms) Q (F0 m pc ls rest) q9)
    (kk : ∀ (r : Int32) (u : S) (t : State) (H1 : Heap) (locs1 : List Loc), t.heap = H1 → s.vm.Alike t.vm → post r u → B u t → H.size ≤ H1.size → (∀ q : Nat, q < H.size → ¬ A1 q → H1[q]? = H[q]?) → va_S A0 H0 H1 locs1 → W p l e R s m args below meth c H1 locs1 (cells + mc) (slots + ms) Q (F0 m (pc + 3) ls (.int r :: rest))) : W p l e R s m args below meth c H locs cells slots Q (F0 m pc ls st0) := by
  intro T hT X
  rcases hr T hT X with ⟨v, st₀, t, T', L, h0, X', hL, e1, e2, ⟨⟨r, u, hv, hp, hb⟩, hF⟩, st⟩ | ⟨q, st₀, t, T', L, E, ce, h0, X', hL, e1, e2, ⟨u, hp, hb, hF⟩, hce, hcv, hcl, st⟩
  · cases hv
    obtain ⟨k1, k2, k3⟩ := vx_keep h0 e1 hS hA hf hL hF
    obtain ⟨t2, a1, b1⟩ := kk r u t T'.heap (locs ++ L) e1.symm (by rw [← e2]; exact X'.warmed.alike) hp hb k1 k2 k3 T' rfl X'
    exact ⟨t2, st t2 a1, b1⟩
  · obtain ⟨k1, k2, k3⟩ := vx_keep h0 e1 hS hAX hf hL hF
    obtain ⟨t2, a1, b1⟩ := kx E ce q u t T'.heap (locs ++ L) e1.symm (by rw [← e2]; exact X'.warmed.alike) hp hb k1 k2 k3 (by rw [e1]; exact hce) hcv hcl T' rfl X'
    exact ⟨t2, st.trans a1, b1⟩
theorem vx_calll {S SX : Type} {post : Int64 → S → Prop} {px : SX → Prop} {B : S → State → Prop} {BX : String → SX → State → Prop} {AX : Nat → Prop} (hr : vx_Run p l e R s m args below meth c H locs cells slots mc ms (F0 m pc ls st0) rest (va_Ql post B A1 a) (vx_X px BX AX) free) (hS : va_S A0 H0 H locs) (hA : ∀ q, q < H.size → A1 q → A0 q) (hf : ∀ q, free q → A0 q) (hAX : ∀ q, q < H.size → AX q → A0 q)
    (kx : ∀ (E : String) (ce : Cell) (q9 : Addr) (u : SX) (t : State) (H1 : Heap) (locs1 : List Loc), t.heap = H1 → s.vm.Alike t.vm → px u → BX E u t → H.size ≤ H1.size → (∀ q : Nat, q < H.size → ¬ AX q → H1[q]? = H[q]?) → va_S A0 H0 H1 locs1 → H1[q9]? = some ce → ce.vm = .none → s.vm.findClass E = some ce.cls → vx_W p l e R s m args below meth c H1 locs1 (cells + mc) (slots + ms) Q (F0 m pc ls rest) q9)
    (kk : ∀ (r : Int64) (u : S) (t : State) (H1 : Heap) (locs1 : List Loc), t.heap = H1 → s.vm.Alike t.vm → post r u → B u t → H.size ≤ H1.size → (∀ q : Nat, q < H.size → ¬ A1 q → H1[q]? = H[q]?) → va_S A0 H0 H1 locs1 → W p l e R s m args below meth c H1 locs1 (cells + mc) (slots + ms) Q (F0 m (pc + 3) ls (.long r :: rest))) : W p l e R s m args below meth c H locs cells slots Q (F0 m pc ls st0) := by
  intro T hT X
  rcases hr T hT X with ⟨v, st₀, t, T', L, h0, X', hL, e1, e2, ⟨⟨r, u, hv, hp, hb⟩, hF⟩, st⟩ | ⟨q, st₀, t, T', L, E, ce, h0, X', hL, e1, e2, ⟨u, hp, hb, hF⟩, hce, hcv, hcl, st⟩
  · cases hv
    obtain ⟨k1, k2, k3⟩ := vx_keep h0 e1 hS hA hf hL hF
    obtain ⟨t2, a1, b1⟩ := kk r u t T'.heap (locs ++ L) e1.symm (by rw [← e2]; exact X'.warmed.alike) hp hb k1 k2 k3 T' rfl X'
    exact ⟨t2, st t2 a1, b1⟩
  · obtain ⟨k1, k2, k3⟩ := vx_keep h0 e1 hS hAX hf hL hF
    obtain ⟨t2, a1, b1⟩ := kx E ce q u t T'.heap (locs ++ L) e1.symm (by rw [← e2]; exact X'.warmed.alike) hp hb k1 k2 k3 (by rw [e1]; exact hce) hcv hcl T' rfl X'
    exact ⟨t2, st.trans a1, b1⟩
theorem vx_callf {S SX : Type} {post : UInt32 → S → Prop} {px : SX → Prop} {B : S → State → Prop} {BX : String → SX → State → Prop} {AX : Nat → Prop} (hr : vx_Run p l e R s m args below meth c H locs cells slots mc ms (F0 m pc ls st0) rest (va_Qf post B A1 a) (vx_X px BX AX) free) (hS : va_S A0 H0 H locs) (hA : ∀ q, q < H.size → A1 q → A0 q) (hf : ∀ q, free q → A0 q) (hAX : ∀ q, q < H.size → AX q → A0 q)
    (kx : ∀ (E : String) (ce : Cell) (q9 : Addr) (u : SX) (t : State) (H1 : Heap) (locs1 : List Loc), t.heap = H1 → s.vm.Alike t.vm → px u → BX E u t → H.size ≤ H1.size → (∀ q : Nat, q < H.size → ¬ AX q → H1[q]? = H[q]?) → va_S A0 H0 H1 locs1 → H1[q9]? = some ce → ce.vm = .none → s.vm.findClass E = some ce.cls → vx_W p l e R s m args below meth c H1 locs1 (cells + mc) (slots + ms) Q (F0 m pc ls rest) q9)
    (kk : ∀ (r : UInt32) (u : S) (t : State) (H1 : Heap) (locs1 : List Loc), t.heap = H1 → s.vm.Alike t.vm → post r u → B u t → H.size ≤ H1.size → (∀ q : Nat, q < H.size → ¬ A1 q → H1[q]? = H[q]?) → va_S A0 H0 H1 locs1 → W p l e R s m args below meth c H1 locs1 (cells + mc) (slots + ms) Q (F0 m (pc + 3) ls (.float r :: rest))) : W p l e R s m args below meth c H locs cells slots Q (F0 m pc ls st0) := by
  intro T hT X
  rcases hr T hT X with ⟨v, st₀, t, T', L, h0, X', hL, e1, e2, ⟨⟨r, u, hv, hp, hb⟩, hF⟩, st⟩ | ⟨q, st₀, t, T', L, E, ce, h0, X', hL, e1, e2, ⟨u, hp, hb, hF⟩, hce, hcv, hcl, st⟩
  · cases hv
    obtain ⟨k1, k2, k3⟩ := vx_keep h0 e1 hS hA hf hL hF
    obtain ⟨t2, a1, b1⟩ := kk r u t T'.heap (locs ++ L) e1.symm (by rw [← e2]; exact X'.warmed.alike) hp hb k1 k2 k3 T' rfl X'
    exact ⟨t2, st t2 a1, b1⟩
  · obtain ⟨k1, k2, k3⟩ := vx_keep h0 e1 hS hAX hf hL hF
    obtain ⟨t2, a1, b1⟩ := kx E ce q u t T'.heap (locs ++ L) e1.symm (by rw [← e2]; exact X'.warmed.alike) hp hb k1 k2 k3 (by rw [e1]; exact hce) hcv hcl T' rfl X'
    exact ⟨t2, st.trans a1, b1⟩
theorem vx_calld {S SX : Type} {post : UInt64 → S → Prop} {px : SX → Prop} {B : S → State → Prop} {BX : String → SX → State → Prop} {AX : Nat → Prop} (hr : vx_Run p l e R s m args below meth c H locs cells slots mc ms (F0 m pc ls st0) rest (va_Qd post B A1 a) (vx_X px BX AX) free) (hS : va_S A0 H0 H locs) (hA : ∀ q, q < H.size → A1 q → A0 q) (hf : ∀ q, free q → A0 q) (hAX : ∀ q, q < H.size → AX q → A0 q)
    (kx : ∀ (E : String) (ce : Cell) (q9 : Addr) (u : SX) (t : State) (H1 : Heap) (locs1 : List Loc), t.heap = H1 → s.vm.Alike t.vm → px u → BX E u t → H.size ≤ H1.size → (∀ q : Nat, q < H.size → ¬ AX q → H1[q]? = H[q]?) → va_S A0 H0 H1 locs1 → H1[q9]? = some ce → ce.vm = .none → s.vm.findClass E = some ce.cls → vx_W p l e R s m args below meth c H1 locs1 (cells + mc) (slots + ms) Q (F0 m pc ls rest) q9)
    (kk : ∀ (r : UInt64) (u : S) (t : State) (H1 : Heap) (locs1 : List Loc), t.heap = H1 → s.vm.Alike t.vm → post r u → B u t → H.size ≤ H1.size → (∀ q : Nat, q < H.size → ¬ A1 q → H1[q]? = H[q]?) → va_S A0 H0 H1 locs1 → W p l e R s m args below meth c H1 locs1 (cells + mc) (slots + ms) Q (F0 m (pc + 3) ls (.double r :: rest))) : W p l e R s m args below meth c H locs cells slots Q (F0 m pc ls st0) := by
  intro T hT X
  rcases hr T hT X with ⟨v, st₀, t, T', L, h0, X', hL, e1, e2, ⟨⟨r, u, hv, hp, hb⟩, hF⟩, st⟩ | ⟨q, st₀, t, T', L, E, ce, h0, X', hL, e1, e2, ⟨u, hp, hb, hF⟩, hce, hcv, hcl, st⟩
  · cases hv
    obtain ⟨k1, k2, k3⟩ := vx_keep h0 e1 hS hA hf hL hF
    obtain ⟨t2, a1, b1⟩ := kk r u t T'.heap (locs ++ L) e1.symm (by rw [← e2]; exact X'.warmed.alike) hp hb k1 k2 k3 T' rfl X'
    exact ⟨t2, st t2 a1, b1⟩
  · obtain ⟨k1, k2, k3⟩ := vx_keep h0 e1 hS hAX hf hL hF
    obtain ⟨t2, a1, b1⟩ := kx E ce q u t T'.heap (locs ++ L) e1.symm (by rw [← e2]; exact X'.warmed.alike) hp hb k1 k2 k3 (by rw [e1]; exact hce) hcv hcl T' rfl X'
    exact ⟨t2, st.trans a1, b1⟩
theorem vx_callv {S SX : Type} {post : S → Prop} {px : SX → Prop} {B : S → State → Prop} {BX : String → SX → State → Prop} {AX : Nat → Prop} (hr : vx_Run p l e R s m args below meth c H locs cells slots mc ms (F0 m pc ls st0) rest (va_Qv post B A1 a) (vx_X px BX AX) free) (hS : va_S A0 H0 H locs) (hA : ∀ q, q < H.size → A1 q → A0 q) (hf : ∀ q, free q → A0 q) (hAX : ∀ q, q < H.size → AX q → A0 q)
    (kx : ∀ (E : String) (ce : Cell) (q9 : Addr) (u : SX) (t : State) (H1 : Heap) (locs1 : List Loc), t.heap = H1 → s.vm.Alike t.vm → px u → BX E u t → H.size ≤ H1.size → (∀ q : Nat, q < H.size → ¬ AX q → H1[q]? = H[q]?) → va_S A0 H0 H1 locs1 → H1[q9]? = some ce → ce.vm = .none → s.vm.findClass E = some ce.cls → vx_W p l e R s m args below meth c H1 locs1 (cells + mc) (slots + ms) Q (F0 m pc ls rest) q9)
    (kk : ∀ (u : S) (t : State) (H1 : Heap) (locs1 : List Loc), t.heap = H1 → s.vm.Alike t.vm → post u → B u t → H.size ≤ H1.size → (∀ q : Nat, q < H.size → ¬ A1 q → H1[q]? = H[q]?) → va_S A0 H0 H1 locs1 → W p l e R s m args below meth c H1 locs1 (cells + mc) (slots + ms) Q (F0 m (pc + 3) ls (rest))) : W p l e R s m args below meth c H locs cells slots Q (F0 m pc ls st0) := by
  intro T hT X
  rcases hr T hT X with ⟨v, st₀, t, T', L, h0, X', hL, e1, e2, ⟨⟨u, hv, hp, hb⟩, hF⟩, st⟩ | ⟨q, st₀, t, T', L, E, ce, h0, X', hL, e1, e2, ⟨u, hp, hb, hF⟩, hce, hcv, hcl, st⟩
  · cases hv
    obtain ⟨k1, k2, k3⟩ := vx_keep h0 e1 hS hA hf hL hF
    obtain ⟨t2, a1, b1⟩ := kk u t T'.heap (locs ++ L) e1.symm (by rw [← e2]; exact X'.warmed.alike) hp hb k1 k2 k3 T' rfl X'
    exact ⟨t2, st t2 a1, b1⟩
  · obtain ⟨k1, k2, k3⟩ := vx_keep h0 e1 hS hAX hf hL hF
    obtain ⟨t2, a1, b1⟩ := kx E ce q u t T'.heap (locs ++ L) e1.symm (by rw [← e2]; exact X'.warmed.alike) hp hb k1 k2 k3 (by rw [e1]; exact hce) hcv hcl T' rfl X'
    exact ⟨t2, st.trans a1, b1⟩
end Rows
section Ends
variable {p : Program} {l : Launch} {e : Env} {R : Room} {s : State} {m : MethodId} {args : Array Value} {below : List Frame} {meth : Method} {c : Code} {H : Heap} {locs : List Loc} {cells slots : Nat} {Q : State → Prop}
variable {mc ms : Nat} {free : Addr → Prop} {A0 A1 : Nat → Prop} {H0 : Heap} {a : Array Value} {ls : Array Slot} {st0 rest : List Value}
variable {Qc : Array Value → State → Outcome → State → Prop} {XC : String → State → State → Prop}
/-- what a body that may throw owes at its end -/
def vx_MQ (below : List Frame) (Qc : Array Value → State → Outcome → State → Prop) (XC : String → State → State → Prop) (a : Array Value) (s : State) (mc ms : Nat) (free : Addr → Prop) : State → Prop := fun t =>
  ∃ o, t.status = .running ∧ Ended t below o ∧ vx_Q Qc XC mc ms free a s o t
theorem vx_ret {g : JFrame} {mc ms : Nat} (k : W p l e R s m args below meth c H locs cells slots (MQ below Qc args s mc ms free) g) : W p l e R s m args below meth c H locs cells slots (vx_MQ below Qc XC args s mc ms free) g := by
  intro T hT X
  obtain ⟨t, a1, o, b1, b2, b3, b4⟩ := k T hT X
  exact ⟨t, a1, o, b1, b2, Or.inl ⟨b3, b4⟩⟩
/-- not caught here: it goes on to the caller -/
theorem vx_widen {g : JFrame} {q : Addr} {k n : Nat} (h1 : cells ≤ k) (h2 : slots ≤ n) (kk : vx_W p l e R s m args below meth c H locs k n Q g q) : vx_W p l e R s m args below meth c H locs cells slots Q g q := fun T hT X => kk T hT (stand_widen X h1 h2)
theorem vx_out {pc : Nat} {E : String} {ce : Cell} {q : Addr} {mc ms : Nat} (hout : ∀ x ∈ c.exceptionTable.toList, covers x pc = false) (hlocks : meth.locks = false) (hcell : H[q]? = some ce) (hv : ce.vm = .none) (hcl : s.vm.findClass E = some ce.cls)
    (hx : ∀ t : State, t.heap = H → s.vm.Alike t.vm → XC E s t) (hf : ∀ z ∈ locs, free z.base) (hc : cells ≤ mc) (hs : slots ≤ ms) :
    vx_W p l e R s m args below meth c H locs cells slots (vx_MQ below Qc XC args s mc ms free) (F0 m pc ls rest) q := by
  intro T hT X
  obtain ⟨st1, hrun, hend, hW, hsm⟩ := X.leaveThrown q (g := F0 m pc ls rest) rfl rfl rfl hout hlocks
  have hcell9 : (T.setFrames (.throwing q :: below)).heap[q]? = some ce := by
    show T.heap[q]? = some ce
    rw [hT]; exact hcell
  exact ⟨_, st1, .threw q, hrun, hend, Or.inr ⟨q, rfl, E, ce, locs, hx _ hT hW.alike, hcell9, hv, hcl, hW, hsm.mono hc hs, hf⟩⟩
theorem vx_frame {U : State} {k n : Nat} (h : s.sameButNew ({ U with vm := s.vm } : State) locs k n) : s.heap.size ≤ U.heap.size ∧ ∀ q : Nat, q < s.heap.size → (∀ z ∈ locs, z.base ≠ q) → U.heap[q]? = s.heap[q]? := by
  obtain ⟨-, h2, -, -, -, h6⟩ := h
  refine ⟨h2, fun q hq hz => ?_⟩
  obtain ⟨c9, e1, e2, e3, e4⟩ := h6 q _ (Array.getElem?_eq_getElem hq)
  have hs : c9.slots = (s.heap[q]).slots := Array.ext_getElem? fun i => e4 i fun hm => hz _ hm rfl
  have h9 : c9 = s.heap[q] := by
    rw [hs] at e2
    exact e2
  have e5 : U.heap[q]? = some c9 := e1
  rw [e5, h9, Array.getElem?_eq_getElem hq]
/-- the words of a throw but the four that speak of the heap -/
def vx_no (w : Cond) : Bool := decide (w ≠ .isRef (.static Bundle.tN "UNASSIGNED_STACK" Bundle.steD)) && decide (w ≠ .isRef (.static Bundle.tN "SUPPRESSED_SENTINEL" Bundle.listD)) && decide (w ≠ .laysStatic Bundle.tN "UNASSIGNED_STACK" Bundle.steD) && decide (w ≠ .laysStatic Bundle.tN "SUPPRESSED_SENTINEL" Bundle.listD)
def vx_at0 (own : String) (ic : Nat) (X : String) (names : List String) : List Cond := (Bundle.ownAtoms0 own ic X names).filter vx_no
def vx_atS (own : String) (ic : Nat) (X : String) (names : List String) : List Cond := (Bundle.ownAtoms own ic X names).filter vx_no
/-- a word that the tables alone decide, or a good one -/
def vx_ot (w : Cond) : Bool := w.onTables || goodWord w
theorem vx_ot_at {args a' : Array Value} {s U : State} {w : Cond} (hW : s.WarmedH U.vm) (hvm : s.vm = U.vm) (hg : vx_ot w = true) (h : w.before args s = true) : w.before a' U = true := by
  simp only [vx_ot, Bool.or_eq_true] at hg
  rcases hg with hg | hg
  · exact va_tabs hg hvm h
  · exact word_at hW (good_of_word hg) h
/-- a list's words: the good ones out of the method's own list, the others by premises of their own -/
theorem vx_hat {args : Array Value} {s : State} {L B : List Cond} (h1 : ∀ w ∈ L.filter goodWord, w.before args s = true) (h2 : ∀ w ∈ L.filter (fun w => !goodWord w), w ∈ B) (h3 : ∀ w ∈ B, w.before args s = true) : ∀ w ∈ L, w.before args s = true := by
  intro w hw
  by_cases g : goodWord w = true
  · exact h1 w (List.mem_filter.mpr ⟨hw, g⟩)
  · refine h3 w (h2 w (List.mem_filter.mpr ⟨hw, ?_⟩))
    show (!goodWord w) = true
    cases hgw : goodWord w
    · rfl
    · exact absurd hgw g
theorem vx_c {args : Array Value} {s : State} {w : Cond} {B : List Cond} (h : w.before args s = true) (t : ∀ w ∈ B, w.before args s = true) : ∀ w' ∈ w :: B, w'.before args s = true := fun w' h' => (List.mem_cons.mp h').elim (fun e => by rw [e]; exact h) (t w')
theorem vx_n {args : Array Value} {s : State} : ∀ w ∈ ([] : List Cond), w.before args s = true := fun _ h => nomatch h
theorem vx_own {args : Array Value} {s : State} {L : List Cond} (h1 : ∀ w ∈ L.filter vx_no, w.before args s = true)
    (hU : (Cond.isRef (.static Bundle.tN "UNASSIGNED_STACK" Bundle.steD)).before args s = true) (hN : (Cond.isRef (.static Bundle.tN "SUPPRESSED_SENTINEL" Bundle.listD)).before args s = true)
    (lU : (Cond.laysStatic Bundle.tN "UNASSIGNED_STACK" Bundle.steD).before args s = true) (lN : (Cond.laysStatic Bundle.tN "SUPPRESSED_SENTINEL" Bundle.listD).before args s = true) : ∀ w ∈ L, w.before args s = true := by
  intro w hw
  by_cases e1 : w = .isRef (.static Bundle.tN "UNASSIGNED_STACK" Bundle.steD)
  · rw [e1]; exact hU
  · by_cases e2 : w = .isRef (.static Bundle.tN "SUPPRESSED_SENTINEL" Bundle.listD)
    · rw [e2]; exact hN
    · by_cases e3 : w = .laysStatic Bundle.tN "UNASSIGNED_STACK" Bundle.steD
      · rw [e3]; exact lU
      · by_cases e4 : w = .laysStatic Bundle.tN "SUPPRESSED_SENTINEL" Bundle.listD
        · rw [e4]; exact lN
        · exact h1 w (List.mem_filter.mpr ⟨hw, by unfold vx_no; rw [decide_eq_true e1, decide_eq_true e2, decide_eq_true e3, decide_eq_true e4]; rfl⟩)
/-- where a static field lies, its class's statics cell in H -/
def vx_L (C n d : String) (A : Nat → Prop) (U : State) (H : Heap) : Prop := ∃ (c : ClassId) (k : Class) (i : Nat) (f : Field) (a : Nat) (cell : Cell), U.vm.findClass C = some c ∧ U.fieldFound? C n d = some (c, k, i, f) ∧ f.isStatic = true ∧ k.statics = some a ∧ H[a]? = some cell ∧ cell.vm.isStatics = true ∧ cell.cls = c ∧ f.slot < cell.slots.size ∧ k.staticTypes[f.slot]? = some f.type ∧ ¬ A a
theorem vx_L.moved {C n d : String} {A : Nat → Prop} {u U : State} {H : Heap} (hvm : u.vm.Alike U.vm) (h : vx_L C n d A u H) : vx_L C n d A U H := by
  obtain ⟨c, k, i, f, a, cell, h1, h2, h3, h4, h5, h6, h7, h8, h9, h10⟩ := h
  obtain ⟨k', hi', he⟩ := State.fieldFound?_setVm hvm h2
  exact ⟨c, k', i, f, a, cell, by rw [hvm.findClass]; exact h1, hi', h3, by rw [he]; exact h4, h5, h6, h7, h8, by rw [he]; exact h9, h10⟩
theorem vx_L.kept {C n d : String} {A : Nat → Prop} {U : State} {H H1 : Heap} (h : vx_L C n d A U H) (hq : ∀ a : Nat, a < H.size → ¬ A a → H1[a]? = H[a]?) : vx_L C n d A U H1 := by
  obtain ⟨c, k, i, f, a, cell, h1, h2, h3, h4, h5, h6, h7, h8, h9, h10⟩ := h
  exact ⟨c, k, i, f, a, cell, h1, h2, h3, h4, by rw [hq a (Array.getElem?_eq_some_iff.mp h5).1 h10]; exact h5, h6, h7, h8, h9, h10⟩
theorem vx_L.narrow {C n d : String} {A B : Nat → Prop} {U : State} {H : Heap} (h : vx_L C n d A U H) (hAB : ∀ q, B q → A q) : vx_L C n d B U H := by
  obtain ⟨c, k, i, f, a, cell, h1, h2, h3, h4, h5, h6, h7, h8, h9, h10⟩ := h
  exact ⟨c, k, i, f, a, cell, h1, h2, h3, h4, h5, h6, h7, h8, h9, fun z => h10 (hAB _ z)⟩
theorem vx_L.word {C n d : String} {A : Nat → Prop} {s : State} {args : Array Value} (h : vx_L C n d A s s.heap) : (Cond.laysStatic C n d).before args s = true := by
  obtain ⟨c, k, i, f, a, cell, h1, h2, h3, h4, h5, h6, h7, h8, h9, -⟩ := h
  show (Cond.laysStatic C n d).holds args s none s [] = true
  exact Cond.laysStatic_of h1 h2 h3 h4 h5 h6 h7 h8 h9
/-- .. and what it holds: null or some reference -/
def vx_Zq (C n d : String) (A : Nat → Prop) (U : State) (H : Heap) : Prop := va_Zq C n d A U H ∧ vx_L C n d A U H
theorem vx_Zq.moved {C n d : String} {A : Nat → Prop} {u U : State} {H : Heap} (hvm : u.vm.Alike U.vm) (h : vx_Zq C n d A u H) : vx_Zq C n d A U H := ⟨va_Zq.moved hvm h.1, vx_L.moved hvm h.2⟩
theorem vx_Zq.kept {C n d : String} {A : Nat → Prop} {U : State} {H H1 : Heap} (h : vx_Zq C n d A U H) (hq : ∀ a : Nat, a < H.size → ¬ A a → H1[a]? = H[a]?) : vx_Zq C n d A U H1 := ⟨va_Zq.kept h.1 hq, vx_L.kept h.2 hq⟩
theorem vx_Zq.narrow {C n d : String} {A B : Nat → Prop} {U : State} {H : Heap} (h : vx_Zq C n d A U H) (hAB : ∀ q, B q → A q) : vx_Zq C n d B U H := ⟨va_Zq.narrow h.1 hAB, vx_L.narrow h.2 hAB⟩
theorem vx_Zqof {args : Array Value} {s : State} {C n d : String} {A : Nat → Prop} (hl : (Cond.laysStatic C n d).before args s = true) (hini : (Cond.initialized C).before args s = true) (h : (Cond.isRef (.static C n d)).before args s = true) (hA : ∀ a : Nat, a < s.heap.size → ¬ A a) : vx_Zq C n d A s s.heap := by
  refine ⟨va_Zqof hl hini h hA, ?_⟩
  obtain ⟨c, k, i, f, a, cell, h1, h2, h3, h4, h5, h6, h7, h8, h9⟩ := Cond.laysStatic_spec hl
  exact ⟨c, k, i, f, a, cell, h1, h2, h3, h4, h5, h6, h7, h8, h9, hA a (Array.getElem?_eq_some_iff.mp h5).1⟩
theorem vx_isRef {C n d : String} {v : Value} {A : Nat → Prop} {s : State} {args : Array Value} (h : va_Z C n d v A s s.heap) (hv : v.isRef = true) : (Cond.isRef (.static C n d)).before args s = true := by
  obtain ⟨cf, kf, fi, f, a, cell, h1, h2, h3, h4, h5, h6, h7, -⟩ := h
  have he : (Term.static C n d).eval args s none [] s = some v := by
    simp [Term.eval, State.fieldNamed?, h1, h2, h4, h5, h6, h7]
  simp only [Cond.before, Cond.holds, Cond.value, he]
  cases v <;> simp_all [Value.isRef]
theorem vx_isRefq {C n d : String} {A : Nat → Prop} {s : State} {args : Array Value} (h : va_Zq C n d A s s.heap) : (Cond.isRef (.static C n d)).before args s = true := by
  rcases h with h | ⟨t, h⟩
  · exact vx_isRef h rfl
  · exact vx_isRef h rfl
/-- the same frame, seen from here: as if the method were called anew in this heap -/
theorem vx_rebase {T : State} (X : Stand p l e R s m args below meth c T locs cells slots) {R' : Room} (hf : R'.frames ≤ R.frames) (hl : R'.locals ≤ R.locals) (hc : cells + R'.cells ≤ R.cells) (hs : slots + R'.slots ≤ R.slots) :
    Stand p l e R' ((T.setVm s.vm).setFrames (.invoking m args :: below)) m args below meth c T [] 0 0 := by
  have htop : (T.setVm s.vm).topJava?.isSome := X.here.top
  have hF : ((T.setVm s.vm).setFrames (.invoking m args :: below)).frames = .invoking m args :: below := State.frames_setFrames _ (State.cur_lt_of_top htop)
  obtain ⟨g₀, hg0⟩ := Option.isSome_iff_exists.mp htop
  obtain ⟨r, hr⟩ := State.topJava?_eq_some.mp hg0
  have hl9 : e.platform.stackLimits (T.setVm s.vm).me = e.platform.stackLimits s.me := X.limits
  have hb9 : (T.setVm s.vm).me.stackBytes = s.me.stackBytes := X.bytes
  refine ⟨X.admits, X.cas, X.clock, hF, ?_, X.hears, X.method, X.code, X.here, X.tail, X.warmed, ?_, ?_, ?_⟩
  · have h := X.room
    have hU : ((T.setVm s.vm).setFrames (.invoking m args :: below)).localsInUse = s.localsInUse := by
      rw [State.localsInUse_invoking hF (meth := meth) (c := c) X.method X.code, State.localsInUse_invoking X.frames X.method X.code]
    simp only [State.hasRoom, Bool.and_eq_true, decide_eq_true_eq] at h ⊢
    obtain ⟨⟨⟨⟨h1, h2, h3, h4, h5, h6⟩, h7⟩, h8⟩, h9⟩ := h
    rw [X.frames, List.length_cons] at h2 h3
    have q1 := X.heapSize
    have q2 := X.used
    simp only [hF, hU, List.length_cons, State.stackLimits_setFrames, State.stackBytes_setFrames, hl9, hb9]
    refine ⟨⟨⟨⟨by omega, by omega, by omega, by omega, by omega, h6⟩, ?_⟩, ?_⟩, X.book⟩
    · show T.heap.size + R'.cells ≤ e.platform.maxCells
      omega
    · show T.slotsUsed + R'.slots ≤ e.platform.maxSlots
      omega
  · rw [State.stackLimits_setFrames]; rfl
  · rw [State.stackBytes_setFrames]; rfl
  · refine ⟨?_, Nat.le_refl _, Nat.le_refl _, ?_, ?_, fun a c9 h9 => ⟨c9, h9, rfl, rfl, fun _ _ => rfl⟩⟩
    · obtain ⟨t, ht, -⟩ := State.frames_cons hr
      show T.setVm s.vm = { ((T.setVm s.vm).setFrames (.invoking m args :: below)).setFrames (T.setVm s.vm).frames with heap := T.heap, slotsUsed := T.slotsUsed }
      rw [State.setFrames_setFrames, State.setFrames_self ht]
      rfl
    · show T.slotsUsed = T.slotsUsed + ((T.heap.toList.drop T.heap.size).map (·.slots.size)).sum
      rw [List.drop_eq_nil_of_le (Nat.le_of_eq Array.length_toList)]
      rfl
    · show ((T.heap.toList.drop T.heap.size).map (·.slots.size)).sum ≤ 0
      rw [List.drop_eq_nil_of_le (Nat.le_of_eq Array.length_toList)]
      exact Nat.le_refl _
/-- 'throw new E()': new; dup; invokespecial; athrow -/
theorem vx_throw0 {cc : ByteArray} {pc : Nat} (hexec : p.tables.exec = Jvm.exec) (hb : c.code = cc) (hl : l.stackTraces = false) {own cls : String} {names : List String} {ik ic mc ms : Nat} {A : Nat → Prop}
    (hown : s.vm.findClass own = some m.cls) (hcls : Bundle.fit cls = true) (hnames : ∀ n ∈ names, Bundle.fit n = true)
    (hk : (Cond.classLink own ik cls).before args s = true) (hini : (Cond.initialized cls).before args s = true) (hat : ∀ w ∈ vx_at0 own ic cls names, w.before args s = true)
    (hgood : ∀ w ∈ Cond.classLink own ik cls :: Cond.initialized cls :: vx_at0 own ic cls names, vx_ot w = true)
    (hU : vx_Zq Bundle.tN "UNASSIGNED_STACK" Bundle.steD A s s.heap) (hN : vx_Zq Bundle.tN "SUPPRESSED_SENTINEL" Bundle.listD A s s.heap) (hS : va_S A s.heap H locs) (hsize : ls.size = c.maxLocals)
    (d0 : decode cc pc = .ok (.new ik, 3)) (d3 : decode cc (pc + 3) = .ok (.dup, 1)) (d4 : decode cc (pc + 4) = .ok (.invokespecial ic, 3)) (d7 : decode cc (pc + 7) = .ok (.athrow, 1))
    (hout : ∀ x ∈ c.exceptionTable.toList, covers x (pc + 7) = false)
    (hRframes : names.length + 3 < R.frames) (hRlocals : (rest.map fun v => v.category).sum + (13 * (names.length + 1) + 42) ≤ R.locals) (hRcells : cells + 1 ≤ R.cells) (hRslots : slots + 6 ≤ R.slots) (hlocks : meth.locks = false)
    (hx : ∀ t : State, s.vm.Alike t.vm → H.size ≤ t.heap.size → (∀ q : Nat, q < H.size → t.heap[q]? = H[q]?) → XC cls s t)
    (hf : ∀ z ∈ locs, free z.base) (hc : cells + 1 ≤ mc) (hs : slots + 6 ≤ ms) :
    W p l e R s m args below meth c H locs cells slots (vx_MQ below Qc XC args s mc ms free) (F0 m pc ls rest) := by
  intro T hT X
  have htr : e.platform.stackTraces = false := (show e.platform.stackTraces = l.stackTraces by rw [X.admits.platform]).trans hl
  have Y := vx_rebase X (R' := { frames := R.frames, locals := R.locals, cells := 1, slots := 6 }) (Nat.le_refl _) (Nat.le_refl _) hRcells hRslots
  obtain ⟨s', hA⟩ : ∃ z, z = (T.setVm s.vm).setFrames (.invoking m args :: below) := ⟨_, rfl⟩
  rw [← hA] at Y
  have hvm : s'.vm = s.vm := by rw [hA]; rfl
  have hhp : s'.heap = H := by rw [hA]; exact hT
  have hW0 : s.WarmedH s'.vm := by rw [hvm]; exact State.WarmedH.refl s
  have hat' : ∀ w ∈ vx_at0 own ic cls names, w.before args s' = true := fun w hw => vx_ot_at hW0 hvm.symm (hgood w (List.mem_cons_of_mem _ (List.mem_cons_of_mem _ hw))) (hat w hw)
  have hk' : (Cond.classLink own ik cls).before args s' = true := vx_ot_at hW0 hvm.symm (hgood _ List.mem_cons_self) hk
  have hini' : (Cond.initialized cls).before args s' = true := vx_ot_at hW0 hvm.symm (hgood _ (List.mem_cons_of_mem _ List.mem_cons_self)) hini
  have hU' : vx_Zq Bundle.tN "UNASSIGNED_STACK" Bundle.steD A s' s'.heap := by rw [hhp]; exact vx_Zq.moved hW0.alike (hU.kept hS.2.1)
  have hN' : vx_Zq Bundle.tN "SUPPRESSED_SENTINEL" Bundle.listD A s' s'.heap := by rw [hhp]; exact vx_Zq.moved hW0.alike (hN.kept hS.2.1)
  have h : ∀ w ∈ Bundle.ownAtoms0 own ic cls names, w.before args s' = true := vx_own hat' (vx_isRefq hU'.1) (vx_isRefq hN'.1) hU'.2.word hN'.2.word
  have hown' : s'.vm.findClass own = some m.cls := by rw [hvm]; exact hown
  have hins : (Cond.instantiable cls 6).before args s' = true := h _ (by simp [Bundle.ownAtoms0])
  obtain ⟨vm₁, cX, kX, hfX, hkX, -, -, X₁, st1⟩ := Y.newCold hexec (own := own) (C := cls) (index := ik) (n := 6) hown' hk' hins hini'
    (g := F0 m pc ls rest) rfl (by rw [hb]; exact d0) (Nat.le_refl _) (Nat.le_refl _)
  generalize hT1 : (T.setVm vm₁).pushCell { cls := cX, slots := kX.instanceTypes.map defaultValue, vm := .none } = T1 at X₁ st1
  have hcat : (Value.ref T.heap.size).category = 1 := rfl
  have hcellA : T1.heap[T.heap.size]? = some (freshCell cX kX) := by rw [← hT1]; exact State.heap_pushCell_size _ _
  have d3' : decode c.code (pc + 3) = .ok (.dup, 1) := by rw [hb]; exact d3
  obtain ⟨U, hsteps, hrun, hend, hW, hsame, ce, hce, hO⟩ := X₁.ctorThrow0 hexec htr (own := own) (cls := cls) (names := names) (ic := ic) hown' hcls hnames h (fun x hx => nomatch hx) hfX hkX hcellA (by rw [hhp, hT]; exact Nat.le_refl _)
    (g := { method := m, pc := pc + 4, locals := ls, stack := .ref T.heap.size :: .ref T.heap.size :: rest, locked := none }) rfl hsize rfl rfl (rest := rest) rfl
    (by rw [hb]; exact d4) (by rw [hb]; exact d7) hout hRframes (by simp only [List.map_cons, List.sum_cons, hcat]; omega) hlocks
  obtain ⟨f1, f2⟩ := vx_frame hsame
  rw [hhp] at f1 f2
  have hWs : s.WarmedH U.vm := State.WarmedH.trans hW0 hW
  have hcl : s.vm.findClass cls = some ce.cls := by
    have h9 := hO.cls
    rw [hvm] at h9
    exact h9
  have hall : s.sameButNew ({ U with vm := s.vm } : State) locs mc ms := by
    subst hA
    obtain ⟨e1, e2⟩ := hsame
    rw [State.setFrames_setFrames] at e1
    have h2 : (T.setVm s.vm).sameButNew ({ U with vm := s.vm } : State) [] (0 + 1) (0 + 6) := ⟨e1, e2⟩
    have h3 := X.same.trans h2
    rw [List.append_nil] at h3
    exact h3.mono hc hs
  refine ⟨U, ?_, .threw T.heap.size, hrun, hend, Or.inr ⟨T.heap.size, rfl, cls, ce, locs, hx U hWs.alike f1 (fun q hq => f2 q hq (fun z hz => nomatch hz)), hce, hO.vm, hcl, hWs, hall, hf⟩⟩
  refine st1 _ ?_
  show Steps p.tables e below (T1.setTop { method := m, pc := pc + 3, locals := ls, stack := .ref T.heap.size :: rest, locked := none }) _
  jvm_step X₁.here [X₁.here.top, hexec, d3', Value.category]
  exact hsteps
/-- 'throw new E("text")': new; dup; ldc; invokespecial; athrow -/
theorem vx_throwS {cc : ByteArray} {pc : Nat} (hexec : p.tables.exec = Jvm.exec) (hb : c.code = cc) (hl : l.stackTraces = false) {own cls text : String} {names : List String} {ik is ic mc ms sa : Nat} {A : Nat → Prop}
    (hown : s.vm.findClass own = some m.cls) (hcls : Bundle.fit cls = true) (hnames : ∀ n ∈ names, Bundle.fit n = true)
    (hk : (Cond.classLink own ik cls).before args s = true) (hini : (Cond.initialized cls).before args s = true) (hstr : vk_R own is text sa s) (hat : ∀ w ∈ vx_atS own ic cls names, w.before args s = true)
    (hgood : ∀ w ∈ Cond.classLink own ik cls :: Cond.initialized cls :: vx_atS own ic cls names, vx_ot w = true)
    (hU : vx_Zq Bundle.tN "UNASSIGNED_STACK" Bundle.steD A s s.heap) (hN : vx_Zq Bundle.tN "SUPPRESSED_SENTINEL" Bundle.listD A s s.heap) (hS : va_S A s.heap H locs) (hsize : ls.size = c.maxLocals)
    (d0 : decode cc pc = .ok (.new ik, 3)) (d3 : decode cc (pc + 3) = .ok (.dup, 1)) (d4 : decode cc (pc + 4) = .ok (.ldc is, 2)) (d6 : decode cc (pc + 6) = .ok (.invokespecial ic, 3)) (d9 : decode cc (pc + 9) = .ok (.athrow, 1))
    (hout : ∀ x ∈ c.exceptionTable.toList, covers x (pc + 9) = false)
    (hRframes : names.length + 3 < R.frames) (hRlocals : (rest.map fun v => v.category).sum + (13 * (names.length + 1) + 43) ≤ R.locals) (hRcells : cells + 1 ≤ R.cells) (hRslots : slots + 6 ≤ R.slots) (hlocks : meth.locks = false)
    (hx : ∀ t : State, s.vm.Alike t.vm → H.size ≤ t.heap.size → (∀ q : Nat, q < H.size → t.heap[q]? = H[q]?) → XC cls s t)
    (hf : ∀ z ∈ locs, free z.base) (hc : cells + 1 ≤ mc) (hs : slots + 6 ≤ ms) :
    W p l e R s m args below meth c H locs cells slots (vx_MQ below Qc XC args s mc ms free) (F0 m pc ls rest) := by
  intro T hT X
  have htr : e.platform.stackTraces = false := (show e.platform.stackTraces = l.stackTraces by rw [X.admits.platform]).trans hl
  have Y := vx_rebase X (R' := { frames := R.frames, locals := R.locals, cells := 1, slots := 6 }) (Nat.le_refl _) (Nat.le_refl _) hRcells hRslots
  obtain ⟨s', hA⟩ : ∃ z, z = (T.setVm s.vm).setFrames (.invoking m args :: below) := ⟨_, rfl⟩
  rw [← hA] at Y
  have hvm : s'.vm = s.vm := by rw [hA]; rfl
  have hhp : s'.heap = H := by rw [hA]; exact hT
  have hW0 : s.WarmedH s'.vm := by rw [hvm]; exact State.WarmedH.refl s
  have hat' : ∀ w ∈ vx_atS own ic cls names, w.before args s' = true := fun w hw => vx_ot_at hW0 hvm.symm (hgood w (List.mem_cons_of_mem _ (List.mem_cons_of_mem _ hw))) (hat w hw)
  have hk' : (Cond.classLink own ik cls).before args s' = true := vx_ot_at hW0 hvm.symm (hgood _ List.mem_cons_self) hk
  have hini' : (Cond.initialized cls).before args s' = true := vx_ot_at hW0 hvm.symm (hgood _ (List.mem_cons_of_mem _ List.mem_cons_self)) hini
  have hU' : vx_Zq Bundle.tN "UNASSIGNED_STACK" Bundle.steD A s' s'.heap := by rw [hhp]; exact vx_Zq.moved hW0.alike (hU.kept hS.2.1)
  have hN' : vx_Zq Bundle.tN "SUPPRESSED_SENTINEL" Bundle.listD A s' s'.heap := by rw [hhp]; exact vx_Zq.moved hW0.alike (hN.kept hS.2.1)
  have h : ∀ w ∈ Bundle.ownAtoms own ic cls names, w.before args s' = true := vx_own hat' (vx_isRefq hU'.1) (vx_isRefq hN'.1) hU'.2.word hN'.2.word
  have hown' : s'.vm.findClass own = some m.cls := by rw [hvm]; exact hown
  have hins : (Cond.instantiable cls 6).before args s' = true := h _ (by simp [Bundle.ownAtoms])
  obtain ⟨vm₁, cX, kX, hfX, hkX, -, -, X₁, st1⟩ := Y.newCold hexec (own := own) (C := cls) (index := ik) (n := 6) hown' hk' hins hini'
    (g := F0 m pc ls rest) rfl (by rw [hb]; exact d0) (Nat.le_refl _) (Nat.le_refl _)
  generalize hT1 : (T.setVm vm₁).pushCell { cls := cX, slots := kX.instanceTypes.map defaultValue, vm := .none } = T1 at X₁ st1
  have hcat : (Value.ref T.heap.size).category = 1 := rfl
  have hcellA : T1.heap[T.heap.size]? = some (freshCell cX kX) := by rw [← hT1]; exact State.heap_pushCell_size _ _
  have d3' : decode c.code (pc + 3) = .ok (.dup, 1) := by rw [hb]; exact d3
  have d4' : decode c.code (pc + 4) = .ok (.ldc is, 2) := by rw [hb]; exact d4
  have hstr' : vk_R own is text sa s' := vk_R.warm hW0 hstr
  obtain ⟨U, hsteps, hrun, hend, hW, hsame, ce, hce, hO⟩ := X₁.ctorThrowS hexec htr (own := own) (cls := cls) (names := names) (ic := ic) hown' hcls hnames h (fun x hx => nomatch hx) hfX hkX hcellA (by rw [hhp, hT]; exact Nat.le_refl _) (msg := .ref sa) rfl
    (g := { method := m, pc := pc + 6, locals := ls, stack := .ref sa :: .ref T.heap.size :: .ref T.heap.size :: rest, locked := none }) rfl hsize rfl rfl (rest := rest) rfl
    (by rw [hb]; exact d6) (by rw [hb]; exact d9) hout hRframes (by simp only [List.map_cons, List.sum_cons, hcat]; omega) hlocks
  obtain ⟨f1, f2⟩ := vx_frame hsame
  rw [hhp] at f1 f2
  have hWs : s.WarmedH U.vm := State.WarmedH.trans hW0 hW
  have hcl : s.vm.findClass cls = some ce.cls := by
    have h9 := hO.cls
    rw [hvm] at h9
    exact h9
  have hall : s.sameButNew ({ U with vm := s.vm } : State) locs mc ms := by
    subst hA
    obtain ⟨e1, e2⟩ := hsame
    rw [State.setFrames_setFrames] at e1
    have h2 : (T.setVm s.vm).sameButNew ({ U with vm := s.vm } : State) [] (0 + 1) (0 + 6) := ⟨e1, e2⟩
    have h3 := X.same.trans h2
    rw [List.append_nil] at h3
    exact h3.mono hc hs
  refine ⟨U, ?_, .threw T.heap.size, hrun, hend, Or.inr ⟨T.heap.size, rfl, cls, ce, locs, hx U hWs.alike f1 (fun q hq => f2 q hq (fun z hz => nomatch hz)), hce, hO.vm, hcl, hWs, hall, hf⟩⟩
  refine st1 _ ?_
  show Steps p.tables e below (T1.setTop { method := m, pc := pc + 3, locals := ls, stack := .ref T.heap.size :: rest, locked := none }) _
  jvm_step X₁.here [X₁.here.top, hexec, d3', Value.category]
  exact X₁.ldcString hexec (own := own) (text := text) (index := is) (a := sa) hown' hstr'.1 hstr'.2
    (g := { method := m, pc := pc + 4, locals := ls, stack := .ref T.heap.size :: .ref T.heap.size :: rest, locked := none }) rfl d4' _ hsteps
/-- 'throw new E("text")', the text by a wide index -/
theorem vx_throwSW {cc : ByteArray} {pc : Nat} (hexec : p.tables.exec = Jvm.exec) (hb : c.code = cc) (hl : l.stackTraces = false) {own cls text : String} {names : List String} {ik is ic mc ms sa : Nat} {A : Nat → Prop}
    (hown : s.vm.findClass own = some m.cls) (hcls : Bundle.fit cls = true) (hnames : ∀ n ∈ names, Bundle.fit n = true)
    (hk : (Cond.classLink own ik cls).before args s = true) (hini : (Cond.initialized cls).before args s = true) (hstr : vk_R own is text sa s) (hat : ∀ w ∈ vx_atS own ic cls names, w.before args s = true)
    (hgood : ∀ w ∈ Cond.classLink own ik cls :: Cond.initialized cls :: vx_atS own ic cls names, vx_ot w = true)
    (hU : vx_Zq Bundle.tN "UNASSIGNED_STACK" Bundle.steD A s s.heap) (hN : vx_Zq Bundle.tN "SUPPRESSED_SENTINEL" Bundle.listD A s s.heap) (hS : va_S A s.heap H locs) (hsize : ls.size = c.maxLocals)
    (d0 : decode cc pc = .ok (.new ik, 3)) (d3 : decode cc (pc + 3) = .ok (.dup, 1)) (d4 : decode cc (pc + 4) = .ok (.ldc_w is, 3)) (d7 : decode cc (pc + 7) = .ok (.invokespecial ic, 3)) (d10 : decode cc (pc + 10) = .ok (.athrow, 1))
    (hout : ∀ x ∈ c.exceptionTable.toList, covers x (pc + 10) = false)
    (hRframes : names.length + 3 < R.frames) (hRlocals : (rest.map fun v => v.category).sum + (13 * (names.length + 1) + 43) ≤ R.locals) (hRcells : cells + 1 ≤ R.cells) (hRslots : slots + 6 ≤ R.slots) (hlocks : meth.locks = false)
    (hx : ∀ t : State, s.vm.Alike t.vm → H.size ≤ t.heap.size → (∀ q : Nat, q < H.size → t.heap[q]? = H[q]?) → XC cls s t)
    (hf : ∀ z ∈ locs, free z.base) (hc : cells + 1 ≤ mc) (hs : slots + 6 ≤ ms) :
    W p l e R s m args below meth c H locs cells slots (vx_MQ below Qc XC args s mc ms free) (F0 m pc ls rest) := by
  intro T hT X
  have htr : e.platform.stackTraces = false := (show e.platform.stackTraces = l.stackTraces by rw [X.admits.platform]).trans hl
  have Y := vx_rebase X (R' := { frames := R.frames, locals := R.locals, cells := 1, slots := 6 }) (Nat.le_refl _) (Nat.le_refl _) hRcells hRslots
  obtain ⟨s', hA⟩ : ∃ z, z = (T.setVm s.vm).setFrames (.invoking m args :: below) := ⟨_, rfl⟩
  rw [← hA] at Y
  have hvm : s'.vm = s.vm := by rw [hA]; rfl
  have hhp : s'.heap = H := by rw [hA]; exact hT
  have hW0 : s.WarmedH s'.vm := by rw [hvm]; exact State.WarmedH.refl s
  have hat' : ∀ w ∈ vx_atS own ic cls names, w.before args s' = true := fun w hw => vx_ot_at hW0 hvm.symm (hgood w (List.mem_cons_of_mem _ (List.mem_cons_of_mem _ hw))) (hat w hw)
  have hk' : (Cond.classLink own ik cls).before args s' = true := vx_ot_at hW0 hvm.symm (hgood _ List.mem_cons_self) hk
  have hini' : (Cond.initialized cls).before args s' = true := vx_ot_at hW0 hvm.symm (hgood _ (List.mem_cons_of_mem _ List.mem_cons_self)) hini
  have hU' : vx_Zq Bundle.tN "UNASSIGNED_STACK" Bundle.steD A s' s'.heap := by rw [hhp]; exact vx_Zq.moved hW0.alike (hU.kept hS.2.1)
  have hN' : vx_Zq Bundle.tN "SUPPRESSED_SENTINEL" Bundle.listD A s' s'.heap := by rw [hhp]; exact vx_Zq.moved hW0.alike (hN.kept hS.2.1)
  have h : ∀ w ∈ Bundle.ownAtoms own ic cls names, w.before args s' = true := vx_own hat' (vx_isRefq hU'.1) (vx_isRefq hN'.1) hU'.2.word hN'.2.word
  have hown' : s'.vm.findClass own = some m.cls := by rw [hvm]; exact hown
  have hins : (Cond.instantiable cls 6).before args s' = true := h _ (by simp [Bundle.ownAtoms])
  obtain ⟨vm₁, cX, kX, hfX, hkX, -, -, X₁, st1⟩ := Y.newCold hexec (own := own) (C := cls) (index := ik) (n := 6) hown' hk' hins hini'
    (g := F0 m pc ls rest) rfl (by rw [hb]; exact d0) (Nat.le_refl _) (Nat.le_refl _)
  generalize hT1 : (T.setVm vm₁).pushCell { cls := cX, slots := kX.instanceTypes.map defaultValue, vm := .none } = T1 at X₁ st1
  have hcat : (Value.ref T.heap.size).category = 1 := rfl
  have hcellA : T1.heap[T.heap.size]? = some (freshCell cX kX) := by rw [← hT1]; exact State.heap_pushCell_size _ _
  have d3' : decode c.code (pc + 3) = .ok (.dup, 1) := by rw [hb]; exact d3
  have d4' : decode c.code (pc + 4) = .ok (.ldc_w is, 3) := by rw [hb]; exact d4
  have hstr' : vk_R own is text sa s' := vk_R.warm hW0 hstr
  obtain ⟨U, hsteps, hrun, hend, hW, hsame, ce, hce, hO⟩ := X₁.ctorThrowS hexec htr (own := own) (cls := cls) (names := names) (ic := ic) hown' hcls hnames h (fun x hx => nomatch hx) hfX hkX hcellA (by rw [hhp, hT]; exact Nat.le_refl _) (msg := .ref sa) rfl
    (g := { method := m, pc := pc + 7, locals := ls, stack := .ref sa :: .ref T.heap.size :: .ref T.heap.size :: rest, locked := none }) rfl hsize rfl rfl (rest := rest) rfl
    (by rw [hb]; exact d7) (by rw [hb]; exact d10) hout hRframes (by simp only [List.map_cons, List.sum_cons, hcat]; omega) hlocks
  obtain ⟨f1, f2⟩ := vx_frame hsame
  rw [hhp] at f1 f2
  have hWs : s.WarmedH U.vm := State.WarmedH.trans hW0 hW
  have hcl : s.vm.findClass cls = some ce.cls := by
    have h9 := hO.cls
    rw [hvm] at h9
    exact h9
  have hall : s.sameButNew ({ U with vm := s.vm } : State) locs mc ms := by
    subst hA
    obtain ⟨e1, e2⟩ := hsame
    rw [State.setFrames_setFrames] at e1
    have h2 : (T.setVm s.vm).sameButNew ({ U with vm := s.vm } : State) [] (0 + 1) (0 + 6) := ⟨e1, e2⟩
    have h3 := X.same.trans h2
    rw [List.append_nil] at h3
    exact h3.mono hc hs
  refine ⟨U, ?_, .threw T.heap.size, hrun, hend, Or.inr ⟨T.heap.size, rfl, cls, ce, locs, hx U hWs.alike f1 (fun q hq => f2 q hq (fun z hz => nomatch hz)), hce, hO.vm, hcl, hWs, hall, hf⟩⟩
  refine st1 _ ?_
  show Steps p.tables e below (T1.setTop { method := m, pc := pc + 3, locals := ls, stack := .ref T.heap.size :: rest, locked := none }) _
  jvm_step X₁.here [X₁.here.top, hexec, d3', Value.category]
  exact X₁.ldcStringW hexec (own := own) (text := text) (index := is) (a := sa) hown' hstr'.1 hstr'.2
    (g := { method := m, pc := pc + 4, locals := ls, stack := .ref T.heap.size :: .ref T.heap.size :: rest, locked := none }) rfl d4' _ hsteps
end Ends
section Bodies
variable {l : Launch}
theorem vx_ofW {y : MethodName} {ws ws' : List Cond} {rm : Room} {Pc : Array Value → State → Prop} {Qc : Array Value → State → Outcome → State → Prop} {XC : String → State → State → Prop} {mc ms : Nat} {free : Addr → Prop} {cc : ByteArray} {maxL : Nat} {ret : Option FieldType}
    (hy : plainName y.cls = true) (hw : ws = Cond.code y cc maxL ret :: ws')
    (body : ∀ p e s m args below meth c s₁, BodyLoose p l y (headSpec ws rm) cc maxL ret e s m args below meth c s₁ → c.maxLocals = maxL → (∀ x ∈ c.exceptionTable.toList, False) → Pc args s →
      W p l e (headSpec ws rm).room s m args below meth c s.heap [] 0 0 (vx_MQ below Qc XC args s mc ms free) (entryFrame m args maxL)) : vx_Met l y ws rm Pc Qc XC mc ms free := by
  refine MetFree.of_bodyS (code := cc) (maxLocals := maxL) (ret := ret) hy ?_ ?_
  · intro args s m h hn
    obtain ⟨meth, c, h1, h2, h3, h4, h5, h6, -, -⟩ := Cond.code_spec hn (atoms_spec (ws := ws) h _ (by rw [hw]; exact List.mem_cons_self))
    exact ⟨meth, c, h1, h2, h3, h4, h5, h6⟩
  · intro p e s m args below meth c s₁ B hml hP _
    have hh0 : s₁.heap = s.heap := by rw [B.state]; rfl
    have ht : ∀ x ∈ c.exceptionTable.toList, False := by
      obtain ⟨meth9, c9, h1, h2, -, -, -, -, h7, -⟩ := Cond.code_spec B.named (atoms_spec (ws := ws) B.pre _ (by rw [hw]; exact List.mem_cons_self))
      cases Option.some.inj (h1.symm.trans B.method)
      cases Option.some.inj (h2.symm.trans (Stand.of_body B).code)
      intro x hx
      rw [Array.isEmpty_iff.mp h7] at hx
      cases hx
    obtain ⟨t, a1, o, b1, b2, b3⟩ := body p e s m args below meth c s₁ B hml ht hP s₁ hh0 (Stand.of_body B)
    exact ⟨t, o, a1, b1, b2, b3⟩
/-- the table of a body with handlers -/
theorem vx_table {p : Program} {x y : MethodName} {S : Spec} {cc bytes : ByteArray} {maxL maxL' : Nat} {ret ret' : Option FieldType} {e : Env} {s s₁ : State} {m : MethodId} {args : Array Value} {below : List Frame} {meth : Method} {c : Code} {hh : List (Nat × Nat × Nat × Nat)}
    (B : BodyLoose p l y S cc maxL ret e s m args below meth c s₁) (h : (Cond.codeWith y bytes maxL' ret' hh).before args s = true) : c.exceptionTable.toList = tableOf hh := by
  obtain ⟨m9, meth9, c9, hn9, h1, h2, -, -, h6, -⟩ := Cond.codeWith_spec h
  cases Option.some.inj (hn9.symm.trans B.named)
  cases Option.some.inj (h1.symm.trans B.method)
  cases Option.some.inj (h2.symm.trans (Stand.of_body B).code)
  rw [← h6, table_eq]
end Bodies
end VXA
/-! ===== END ===== -/
/-! ===== BEGIN a static call of a method with an exception table ===== -/
section VXS
variable {p : Program} {l : Launch} {e : Env} {R : Room} {s : State} {m : MethodId} {args : Array Value} {below : List Frame} {meth : Method} {c : Code} {T : State} {H : Heap} {locs : List Loc} {cells slots : Nat}
abbrev vx_CSW (R : Room) (s : State) (args : Array Value) (own : String) (index : Nat) (y : MethodName) (bytes : ByteArray) (maxL : Nat) (ret : Option FieldType) (hh : List (Nat × Nat × Nat × Nat)) (ws : List Cond) (rm : Room) (mc ms n : Nat) : Prop :=
  (rm.cells = mc ∧ rm.slots = ms ∧ rm.frames + 1 ≤ R.frames ∧ 8 + (maxL + 11) + rm.locals ≤ R.locals ∧ (∀ w ∈ ws, ∀ (a' : Array Value) (U : State), s.WarmedH U.vm → w.before a' U = true) ∧ Cond.codeWith y bytes maxL ret hh ∈ ws) ∧
  (Cond.codeWith y bytes maxL ret hh).before args s = true ∧ (Cond.initialized y.cls).before args s = true ∧ (y.cls ≠ "java/lang/invoke/MethodHandle" ∧ y.cls ≠ "java/lang/invoke/VarHandle") ∧
  (∀ sig, parseMethodDescriptor y.desc = some sig → n = sig.parameters.length) ∧ (Cond.methodLink own index y).before args s = true ∧ (Cond.static y).before args s = true
theorem vx_cwSW {own : String} {index maxL mc ms : Nat} {y : MethodName} {bytes : ByteArray} {ret : Option FieldType} {hh : List (Nat × Nat × Nat × Nat)} {Ts ws ws' : List Cond} {rm : Room} (n : Nat) (ht : ∀ w ∈ Ts, w.before args s = true) (hT : GoodIn Ts (va_wsS own index y ws)) (hw : ws = Cond.codeWith y bytes maxL ret hh :: ws') (hrc : rm.cells = mc) (hrs : rm.slots = ms)
    (hd : y.cls ≠ "java/lang/invoke/MethodHandle" ∧ y.cls ≠ "java/lang/invoke/VarHandle" ∧ (parseMethodDescriptor y.desc).map (fun d => d.parameters.length) = some n) (hR : rm.frames + 1 ≤ R.frames ∧ 8 + (maxL + 11) + rm.locals ≤ R.locals) :
    vx_CSW R s args own index y bytes maxL ret hh ws rm mc ms n := by
  have ok : ∀ w ∈ va_wsS own index y ws, w.before args s = true := fun w h => ht w (hT w h).1
  have hG : GoodIn Ts ws := fun w h => hT w (by unfold va_wsS; exact List.mem_append_right _ h)
  have hc : Cond.codeWith y bytes maxL ret hh ∈ ws := by rw [hw]; exact List.mem_cons_self
  refine ⟨⟨hrc, hrs, hR.1, hR.2, pay_in ht hG, hc⟩, ht _ (hG _ hc).1, ok _ (by simp [va_wsS]), ⟨hd.1, hd.2.1⟩, fun sig h => ?_, ok _ (by simp [va_wsS]), ok _ (by simp [va_wsS])⟩
  have h2 := hd.2.2
  rw [h] at h2
  exact (Option.some.inj h2).symm
theorem vx_callSW (X : Stand p l e R s m args below meth c T locs cells slots) (hexec : p.tables.exec = Jvm.exec) {own : String} {index : Nat} {y : MethodName} {bytes : ByteArray} {maxL : Nat} {ret : Option FieldType} {hh : List (Nat × Nat × Nat × Nat)}
    (hown : s.vm.findClass own = some m.cls) (hlink : (Cond.methodLink own index y).before args s = true) (hstat : (Cond.static y).before args s = true) (hinit : (Cond.initialized y.cls).before args s = true)
    (hcode : (Cond.codeWith y bytes maxL ret hh).before args s = true) (hy : y.cls ≠ "java/lang/invoke/MethodHandle" ∧ y.cls ≠ "java/lang/invoke/VarHandle")
    {W9 : Nat} {Pre : Pt → Array Value → Prop} {Post : Pt → Array Value → Option Value → Pt → Prop} (hK : Back l R p e below s args y 3 W9 Pre Post)
    {g : JFrame} (hg : g.method = m) (hsize : g.locals.size = c.maxLocals) {argsL rest : List Value} (hlen : ∀ sig, parseMethodDescriptor y.desc = some sig → argsL.length = sig.parameters.length)
    (hstack : g.stack = argsL.reverse ++ rest) (hW : 2 * g.monitorRoom + (rest.map fun v => v.category).sum ≤ W9) (hdg : decode c.code g.pc = .ok (.invokestatic index, 3))
    (hpre : ∀ vm₁, s.WarmedH vm₁ → Pre ⟨T.setVm vm₁, locs, cells, slots⟩ argsL.toArray) :
    ∃ (v : Option Value) (vm₁ : Vm) (B : Pt), s.WarmedH vm₁ ∧ Stand p l e R s m args below meth c B.U B.locs B.cells B.slots ∧ Post ⟨T.setVm vm₁, locs, cells, slots⟩ argsL.toArray v B ∧
      ∀ target, Steps p.tables e below (B.U.setTop { g with pc := g.pc + 3, stack := v.toList ++ rest }) target → Steps p.tables e below (T.setTop g) target := by
  obtain ⟨mk, methM, cM, hnamed, hmethM, -, -, -, -, -, -, hsigM⟩ := Cond.codeWith_spec hcode
  have hstatic : methM.isStatic = true := Cond.static_spec hnamed hmethM hstat
  obtain ⟨kP, hkP, -⟩ := className_of_methodNamed hnamed
  have hinitP : kP.init = .initialized := Cond.initialized_spec (findClass_of_methodNamed hnamed) hkP hinit
  obtain ⟨vm₁, X₁, hstep₁⟩ := X.invokestatic hexec hown hlink hnamed hmethM hstatic hkP hinitP hy (g := g) hg (argsL := argsL) (rest := rest) (hlen _ hsigM) hstack hdg
  obtain ⟨v, B, X', hpost, hsteps⟩ := hK m meth c ⟨T.setVm vm₁, locs, cells, slots⟩ { g with stack := rest } (.invokestatic index) mk argsL.toArray X₁ hg hsize hdg hW (X₁.named hnamed) (hpre vm₁ X₁.warmed)
  exact ⟨v, vm₁, B, X₁.warmed, X', hpost, fun target h => hstep₁ _ fun acts => by rw [doInvoke_state]; exact hsteps.trans h⟩
theorem vx_runSW {y : MethodName} {bytes cc : ByteArray} {maxL nL mc ms n index : Nat} {ret : Option FieldType} {hh : List (Nat × Nat × Nat × Nat)} {ws : List Cond} {rm : Room} {Pc : Array Value → State → Prop} {Qc : Array Value → State → Outcome → State → Prop} {free : Addr → Prop} {Ts : List Cond} {own : String} {As rest : List Value} {g : JFrame}
    (S : CallFix p m c cc nL s args Ts own) (hM : Met l y ws rm Pc Qc mc ms free) (cw : vx_CSW R s args own index y bytes maxL ret hh ws rm mc ms n) (hp : PreS s H Pc As)
    (hg : g.method = m) (hn : As.length = n) (hsize : g.locals.size = nL) (hstack : g.stack = As.reverse ++ rest) (hW : 2 * g.monitorRoom + (rest.map fun v => v.category).sum ≤ 8) (hdg : decode cc g.pc = .ok (.invokestatic index, 3)) (hf : cells + mc ≤ R.cells ∧ slots + ms ≤ R.slots) :
    va_Run p l e R s m args below meth c H locs cells slots mc ms g rest (Qc As.toArray) (free) := by
  obtain ⟨⟨hrc, hrs, hfr, hlo, hws, hcw⟩, hcode, hini, hy, hlen, hl, hstt⟩ := cw
  have hK : Back l R p e below s args y 3 8 (PreOf R mc ms Pc) (PostOf Qc mc ms free) := va_backW (hh := hh) (bytes := bytes) (maxL := maxL) (ret := ret) hM hp.1 hrc hrs hfr hlo hws hcw (fun a' U hW => word_at hW (Or.inl (by first | rfl | simp [Cond.onTables, Cond.keeps, Cond.steady])) hini)
  obtain ⟨hx, hb, hml, ho, -⟩ := S
  intro T hT X
  obtain ⟨v, vm₁, ⟨U', l2, c2, s2⟩, hW₁, X', ⟨g', mk, t, L, e1, e2, hq, h1, hL, h2, h3⟩, st⟩ := vx_callSW X hx (hh := hh) (bytes := bytes) (maxL := maxL) (ret := ret) ho hl hstt hini hcode hy hK hg (hsize.trans hml.symm) (argsL := As) (rest := rest) (fun sig h => hn.trans (hlen sig h)) hstack hW (by rw [hb]; exact hdg)
    (fun vm₁ hW₁ => ⟨hf.1, hf.2, hp.2 (T.setVm vm₁) hT hW₁⟩)
  dsimp only [Pt.U, Pt.locs, Pt.cells, Pt.slots] at X' e1 e2 h1 h2 h3 st
  subst h1; subst h2; subst h3
  exact ⟨v, (T.setVm vm₁).calling g' mk As.toArray, t, U', L, hT, X', hL, e1, e2, hq, st⟩
/-- a thing of a world lies in the heap -/
theorem vx_lt {D : va_G} {cl : List vw_C} {ws : va_W} {H1 : Heap} (h : va_P D cl ws H1) {k : Nat} {q : Nat × va_E} (hk : ws[k]? = some q) : q.1 < H1.size := (h k q hk).lt
end VXS
/-! ===== END ===== -/
/-! ===== BEGIN methods with a table of their own: called by a name, returning or throwing ===== -/
section VXH
/-! vx_backW, vx_callVX, vx_callSX, vx_callVW, vx_runVW, vx_runVX, vx_runSX, vx_ofWH follow the same proofs as their sisters above (Free/Laws.lean, Shelf42/LK1.lean); vx_outP calls Shelf42/NT130.lean (outThrough). -/
section
variable {l : Launch} {R : Room} {p : Program} {e : Env} {below : List Frame} {s : State} {sargs : Array Value} {y : MethodName} {len W9 : Nat}
theorem vx_backW {ws : List Cond} {rm : Room} {Pc : Array Value → State → Prop} {Qc : Array Value → State → Outcome → State → Prop} {XC : String → State → State → Prop} {mc ms : Nat} {free : Addr → Prop} {bytes : ByteArray} {maxL : Nat} {ret : Option FieldType} {hh : List (Nat × Nat × Nat × Nat)}
    (hM : vx_Met l y ws rm Pc Qc XC mc ms free) (hblind : FrameBlind Pc) (hrc : rm.cells = mc) (hrs : rm.slots = ms)
    (hframes : rm.frames + 1 ≤ R.frames) (hlocals : W9 + (maxL + 11) + rm.locals ≤ R.locals)
    (hws : ∀ w ∈ ws, ∀ a' U, s.WarmedH U.vm → w.before a' U = true) (hcode : Cond.codeWith y bytes maxL ret hh ∈ ws) (hinit : ∀ a' U, s.WarmedH U.vm → (Cond.initialized y.cls).before a' U = true) :
    vx_Back l R p e below s sargs y len W9 (PreOf R mc ms Pc) (PostOf Qc mc ms free) (vx_Post XC mc ms free) := by
  intro m meth c A g ig mk a X hg hsize hdg hW hn hp
  have h1 : (headSpec ws rm).pre.before a A.U = true := atoms_intro fun w hw => hws w hw _ _ X.warmed
  have h2 : (Cond.codeWith y bytes maxL ret hh).before a A.U = true := hws _ hcode _ _ X.warmed
  have h3 : (Cond.initialized y.cls).before a A.U = true := hinit _ _ X.warmed
  have h4 : A.cells + (headSpec ws rm).room.cells ≤ R.cells := by rw [show (headSpec ws rm).room.cells = mc from hrc]; exact hp.1
  have h5 : A.slots + (headSpec ws rm).room.slots ≤ R.slots := by rw [show (headSpec ws rm).room.slots = ms from hrs]; exact hp.2.1
  have hPc : Pc a (A.U.calling g mk a) := hblind _ _ _ _ hp.2.2
  obtain ⟨U, Ls, c0, s0⟩ := A
  dsimp only [Pt.U, Pt.locs, Pt.cells, Pt.slots] at h1 h2 h3 h4 h5 X hn hPc ⊢
  obtain ⟨m9, methY, cY, hn9, hmY, hcY, -, hlY, -⟩ := Cond.codeWith_spec h2
  cases Option.some.inj (hn9.symm.trans hn)
  obtain ⟨kY, hkY, -⟩ := className_of_methodNamed hn
  have hinitY : kY.init = .initialized := Cond.initialized_spec (findClass_of_methodNamed hn) hkY h3
  have h : At U g.method c below := by rw [hg]; exact X.here
  have hlocals9 : W9 + (maxL + 11) + (headSpec ws rm).room.locals ≤ R.locals := hlocals
  have happ : (headSpec ws rm).appliesLoose y e.platform (U.calling g mk a) = true :=
    Spec.appliesLoose_calling (g := g) h hdg hn hkY hinitY
      (X.room_calling (g := g) (R' := (headSpec ws rm).room) hsize hmY hcY hframes (by rw [hlY]; omega) h4 h5) h1
  obtain ⟨mid, hmid⟩ := h.above
  have hfr : (U.setTop g).frames = (.java g :: mid) ++ below := by rw [State.frames_setTop' g h.top, hmid]; rfl
  obtain ⟨o, s₂, hsteps, -, hend, hq⟩ := Steps.callFree hM p X.admits X.cas X.clock (acts := []) hfr happ hPc trivial
  have hq' : vx_Q Qc XC mc ms free a (U.calling g mk a) o s₂ := hq
  rw [State.frames_setTop' g h.top] at hend
  obtain ⟨g₀, hg0⟩ := Option.isSome_iff_exists.mp h.top
  obtain ⟨r, hr⟩ := State.topJava?_eq_some.mp hg0
  have hr' : (({ U with heap := s₂.heap, slotsUsed := s₂.slotsUsed } : State).setVm s₂.vm).frames = .java g₀ :: r := hr
  rcases hq' with ⟨hqc, L, hfe, hL⟩ | ⟨q, rfl, E, ce, L, hx, hce, hcv, hcl, hW₂, hsm, hL⟩
  · obtain ⟨⟨v, rfl⟩, hW₂, e2, q2, q3, q4, q5, q6⟩ := id hfe
    have e3 : s₂ = ({ (U.calling g mk a).setFrames s₂.frames with heap := s₂.heap, slotsUsed := s₂.slotsUsed } : State).setVm s₂.vm := by
      have : s₂ = ({ s₂ with vm := (U.calling g mk a).vm } : State).setVm s₂.vm := rfl
      rw [e2] at this
      exact this
    obtain ⟨c₂, i₂, len₂, hc₂, hd₂, hf₂⟩ := hend
    have hW' : U.WarmedH s₂.vm := hW₂
    have hcc : c₂ = c := by
      have h1 : s₂.code? g.method = U.code? g.method := by
        rw [State.code?_eq, State.code?_eq, hW'.alike.method?]
      exact Option.some.inj (hc₂.symm.trans (h1.trans h.code))
    subst hcc
    have hlen : len₂ = len := by rw [hdg] at hd₂; cases hd₂; rfl
    subst hlen
    have hs₂ : s₂ = (({ U with heap := s₂.heap, slotsUsed := s₂.slotsUsed } : State).setVm s₂.vm).setTop { g with pc := g.pc + len₂, stack := v.toList ++ g.stack } := by
      refine e3.trans ?_
      rw [hf₂, State.calling_eq h.top, State.setFrames_setFrames, State.setTop_of_frames _ hr', hr]
      rfl
    have hsame : U.sameButNew ({ U with heap := s₂.heap, slotsUsed := s₂.slotsUsed } : State) L mc ms := by
      refine ⟨?_, q2, q3, q4, q5, q6⟩
      obtain ⟨t, ht, -⟩ := State.frames_cons hr
      show ({ U with heap := s₂.heap, slotsUsed := s₂.slotsUsed } : State) = { U.setFrames U.frames with heap := s₂.heap, slotsUsed := s₂.slotsUsed }
      rw [State.setFrames_self ht]
    subst hg
    refine Or.inl ⟨v, ⟨(({ U with heap := s₂.heap, slotsUsed := s₂.slotsUsed } : State).setVm s₂.vm), Ls ++ L, c0 + mc, s0 + ms⟩,
      ⟨X.admits, X.cas, X.clock, X.frames, X.room, X.hears, X.method, X.code, (X.here.setHeapUsed s₂.heap s₂.slotsUsed).setVm hW'.alike, X.tail, State.WarmedH.trans X.warmed hW', X.limits, X.bytes, X.same.trans (hsame.setVm s.vm)⟩,
      ⟨g, mk, s₂, L, rfl, rfl, hqc, rfl, hL, rfl, rfl⟩, ?_⟩
    show Steps p.tables e below _ ((({ U with heap := s₂.heap, slotsUsed := s₂.slotsUsed } : State).setVm s₂.vm).setTop { g with pc := g.pc + len₂, stack := v.toList ++ g.stack })
    rw [← hs₂]
    exact hsteps
  · obtain ⟨e2, q2, q3, q4, q5, q6⟩ := id hsm
    have e3 : s₂ = ({ (U.calling g mk a).setFrames s₂.frames with heap := s₂.heap, slotsUsed := s₂.slotsUsed } : State).setVm s₂.vm := by
      have : s₂ = ({ s₂ with vm := (U.calling g mk a).vm } : State).setVm s₂.vm := rfl
      rw [e2] at this
      exact this
    have hf₂ : s₂.frames = .throwing q :: .java g :: U.frames.tail := hend
    have hW' : U.WarmedH s₂.vm := hW₂
    have hs₂ : s₂ = ((({ U with heap := s₂.heap, slotsUsed := s₂.slotsUsed } : State).setVm s₂.vm).setTop g).pushFrame (.throwing q) := by
      refine e3.trans ?_
      rw [hf₂, State.calling_eq h.top, State.setFrames_setFrames, State.pushFrame, State.frames_setTop _ hr', State.setTop_of_frames _ hr', State.setFrames_setFrames, hr]
      rfl
    have hsame : U.sameButNew ({ U with heap := s₂.heap, slotsUsed := s₂.slotsUsed } : State) L mc ms := by
      refine ⟨?_, q2, q3, q4, q5, q6⟩
      obtain ⟨t, ht, -⟩ := State.frames_cons hr
      show ({ U with heap := s₂.heap, slotsUsed := s₂.slotsUsed } : State) = { U.setFrames U.frames with heap := s₂.heap, slotsUsed := s₂.slotsUsed }
      rw [State.setFrames_self ht]
    subst hg
    refine Or.inr ⟨q, ⟨(({ U with heap := s₂.heap, slotsUsed := s₂.slotsUsed } : State).setVm s₂.vm), Ls ++ L, c0 + mc, s0 + ms⟩,
      ⟨X.admits, X.cas, X.clock, X.frames, X.room, X.hears, X.method, X.code, (X.here.setHeapUsed s₂.heap s₂.slotsUsed).setVm hW'.alike, X.tail, State.WarmedH.trans X.warmed hW', X.limits, X.bytes, X.same.trans (hsame.setVm s.vm)⟩,
      ⟨g, mk, s₂, L, E, ce, rfl, rfl, hx, hce, hcv, hcl, rfl, hL, rfl, rfl⟩, ?_⟩
    show Steps p.tables e below _ (((({ U with heap := s₂.heap, slotsUsed := s₂.slotsUsed } : State).setVm s₂.vm).setTop g).pushFrame (.throwing q))
    rw [← hs₂]
    exact hsteps
end
variable {p : Program} {l : Launch} {e : Env} {R : Room} {s : State} {m : MethodId} {args : Array Value} {below : List Frame} {meth : Method} {c : Code} {T : State} {H : Heap} {locs : List Loc} {cells slots : Nat}
theorem vx_callVX (X : Stand p l e R s m args below meth c T locs cells slots) (hexec : p.tables.exec = Jvm.exec) {own C : String} {index : Nat} {y : MethodName} {bytes : ByteArray} {maxL : Nat} {ret : Option FieldType} {hh : List (Nat × Nat × Nat × Nat)}
    (hown : s.vm.findClass own = some m.cls) (hlink : (Cond.methodLink own index y).before args s = true) (hinst : (Cond.instanceMethod y).before args s = true) (hsel : (Cond.selects C y y).before args s = true)
    (hcode : (Cond.codeWith y bytes maxL ret hh).before args s = true) (hy : y.cls ≠ "java/lang/invoke/MethodHandle" ∧ y.cls ≠ "java/lang/invoke/VarHandle")
    {W9 : Nat} {Pre : Pt → Array Value → Prop} {Post : Pt → Array Value → Option Value → Pt → Prop} {PostX : Pt → Array Value → Addr → Pt → Prop} (hK : vx_Back l R p e below s args y 3 W9 Pre Post PostX)
    {b : Addr} {cellB : Cell} (hcell : T.heap[b]? = some cellB) (hobj : cellB.vm.isStatics = false) (hcls : s.vm.findClass C = some cellB.cls)
    {g : JFrame} (hg : g.method = m) (hsize : g.locals.size = c.maxLocals) {argsL rest : List Value} (hlen : ∀ sig, parseMethodDescriptor y.desc = some sig → argsL.length = sig.parameters.length)
    (hstack : g.stack = argsL.reverse ++ .ref b :: rest) (hW : 2 * g.monitorRoom + (rest.map fun v => v.category).sum ≤ W9) (hdg : decode c.code g.pc = .ok (.invokevirtual index, 3))
    (hpre : ∀ vm₁, s.WarmedH vm₁ → Pre ⟨T.setVm vm₁, locs, cells, slots⟩ (Value.ref b :: argsL).toArray) :
    (∃ (v : Option Value) (vm₁ : Vm) (B : Pt), s.WarmedH vm₁ ∧ Stand p l e R s m args below meth c B.U B.locs B.cells B.slots ∧ Post ⟨T.setVm vm₁, locs, cells, slots⟩ (Value.ref b :: argsL).toArray v B ∧
      ∀ target, Steps p.tables e below (B.U.setTop { g with pc := g.pc + 3, stack := v.toList ++ rest }) target → Steps p.tables e below (T.setTop g) target) ∨
    (∃ (q : Addr) (vm₁ : Vm) (B : Pt), s.WarmedH vm₁ ∧ Stand p l e R s m args below meth c B.U B.locs B.cells B.slots ∧ PostX ⟨T.setVm vm₁, locs, cells, slots⟩ (Value.ref b :: argsL).toArray q B ∧
      Steps p.tables e below (T.setTop g) ((B.U.setTop { g with stack := rest }).pushFrame (.throwing q))) := by
  obtain ⟨mk, methM, hnamed, hmethM, hstM, habM⟩ := Cond.instanceMethod_spec hinst
  obtain ⟨m8, methM', cM, hn8, hmethM', -, -, -, -, -, -, hsigM⟩ := Cond.codeWith_spec hcode
  cases Option.some.inj (hn8.symm.trans hnamed)
  cases hmethM.symm.trans hmethM'
  obtain ⟨c2, r2, m2, q1, q2, q3, q4, kP, hkP, hkPi⟩ := Cond.selects_spec hsel
  cases hcls.symm.trans q1
  cases (State.methodFound?_of_named hnamed hy).symm.trans q2
  cases hnamed.symm.trans q3
  have hselP : selectMethod e.platform s.vm cellB.cls mk = .method mk := by rw [Launch.admits_selectMethod X.admits]; exact q4
  obtain ⟨vm₁, X₁, hstep₁⟩ := X.invokevirtual hexec hown hlink hnamed hmethM hstM hkP hkPi hy (a := b) (cell := cellB) hcell
    (fun z h => by rw [h] at hobj; cases hobj) hselP hmethM habM hkP hkPi (g := g) hg (argsL := argsL) (rest := rest) (hlen _ hsigM) hstack hdg
  rcases hK m meth c ⟨T.setVm vm₁, locs, cells, slots⟩ { g with stack := rest } (.invokevirtual index) mk (Value.ref b :: argsL).toArray X₁ hg hsize hdg hW (X₁.named hnamed) (hpre vm₁ X₁.warmed) with ⟨v, B, X', hpost, hsteps⟩ | ⟨q, B, X', hpost, hsteps⟩
  · exact Or.inl ⟨v, vm₁, B, X₁.warmed, X', hpost, fun target h => hstep₁ _ fun acts => by rw [doInvoke_state]; exact hsteps.trans h⟩
  · exact Or.inr ⟨q, vm₁, B, X₁.warmed, X', hpost, hstep₁ _ fun acts => by rw [doInvoke_state]; exact hsteps⟩
theorem vx_callSX (X : Stand p l e R s m args below meth c T locs cells slots) (hexec : p.tables.exec = Jvm.exec) {own : String} {index : Nat} {y : MethodName} {bytes : ByteArray} {maxL : Nat} {ret : Option FieldType} {hh : List (Nat × Nat × Nat × Nat)}
    (hown : s.vm.findClass own = some m.cls) (hlink : (Cond.methodLink own index y).before args s = true) (hstat : (Cond.static y).before args s = true) (hinit : (Cond.initialized y.cls).before args s = true)
    (hcode : (Cond.codeWith y bytes maxL ret hh).before args s = true) (hy : y.cls ≠ "java/lang/invoke/MethodHandle" ∧ y.cls ≠ "java/lang/invoke/VarHandle")
    {W9 : Nat} {Pre : Pt → Array Value → Prop} {Post : Pt → Array Value → Option Value → Pt → Prop} {PostX : Pt → Array Value → Addr → Pt → Prop} (hK : vx_Back l R p e below s args y 3 W9 Pre Post PostX)
    {g : JFrame} (hg : g.method = m) (hsize : g.locals.size = c.maxLocals) {argsL rest : List Value} (hlen : ∀ sig, parseMethodDescriptor y.desc = some sig → argsL.length = sig.parameters.length)
    (hstack : g.stack = argsL.reverse ++ rest) (hW : 2 * g.monitorRoom + (rest.map fun v => v.category).sum ≤ W9) (hdg : decode c.code g.pc = .ok (.invokestatic index, 3))
    (hpre : ∀ vm₁, s.WarmedH vm₁ → Pre ⟨T.setVm vm₁, locs, cells, slots⟩ argsL.toArray) :
    (∃ (v : Option Value) (vm₁ : Vm) (B : Pt), s.WarmedH vm₁ ∧ Stand p l e R s m args below meth c B.U B.locs B.cells B.slots ∧ Post ⟨T.setVm vm₁, locs, cells, slots⟩ argsL.toArray v B ∧
      ∀ target, Steps p.tables e below (B.U.setTop { g with pc := g.pc + 3, stack := v.toList ++ rest }) target → Steps p.tables e below (T.setTop g) target) ∨
    (∃ (q : Addr) (vm₁ : Vm) (B : Pt), s.WarmedH vm₁ ∧ Stand p l e R s m args below meth c B.U B.locs B.cells B.slots ∧ PostX ⟨T.setVm vm₁, locs, cells, slots⟩ argsL.toArray q B ∧
      Steps p.tables e below (T.setTop g) ((B.U.setTop { g with stack := rest }).pushFrame (.throwing q))) := by
  obtain ⟨mk, methM, cM, hnamed, hmethM, -, -, -, -, -, -, hsigM⟩ := Cond.codeWith_spec hcode
  have hstatic : methM.isStatic = true := Cond.static_spec hnamed hmethM hstat
  obtain ⟨kP, hkP, -⟩ := className_of_methodNamed hnamed
  have hinitP : kP.init = .initialized := Cond.initialized_spec (findClass_of_methodNamed hnamed) hkP hinit
  obtain ⟨vm₁, X₁, hstep₁⟩ := X.invokestatic hexec hown hlink hnamed hmethM hstatic hkP hinitP hy (g := g) hg (argsL := argsL) (rest := rest) (hlen _ hsigM) hstack hdg
  rcases hK m meth c ⟨T.setVm vm₁, locs, cells, slots⟩ { g with stack := rest } (.invokestatic index) mk argsL.toArray X₁ hg hsize hdg hW (X₁.named hnamed) (hpre vm₁ X₁.warmed) with ⟨v, B, X', hpost, hsteps⟩ | ⟨q, B, X', hpost, hsteps⟩
  · exact Or.inl ⟨v, vm₁, B, X₁.warmed, X', hpost, fun target h => hstep₁ _ fun acts => by rw [doInvoke_state]; exact hsteps.trans h⟩
  · exact Or.inr ⟨q, vm₁, B, X₁.warmed, X', hpost, hstep₁ _ fun acts => by rw [doInvoke_state]; exact hsteps⟩
theorem vx_callVW (X : Stand p l e R s m args below meth c T locs cells slots) (hexec : p.tables.exec = Jvm.exec) {own C : String} {index : Nat} {y : MethodName} {bytes : ByteArray} {maxL : Nat} {ret : Option FieldType} {hh : List (Nat × Nat × Nat × Nat)}
    (hown : s.vm.findClass own = some m.cls) (hlink : (Cond.methodLink own index y).before args s = true) (hinst : (Cond.instanceMethod y).before args s = true) (hsel : (Cond.selects C y y).before args s = true)
    (hcode : (Cond.codeWith y bytes maxL ret hh).before args s = true) (hy : y.cls ≠ "java/lang/invoke/MethodHandle" ∧ y.cls ≠ "java/lang/invoke/VarHandle")
    {W9 : Nat} {Pre : Pt → Array Value → Prop} {Post : Pt → Array Value → Option Value → Pt → Prop} (hK : Back l R p e below s args y 3 W9 Pre Post)
    {b : Addr} {cellB : Cell} (hcell : T.heap[b]? = some cellB) (hobj : cellB.vm.isStatics = false) (hcls : s.vm.findClass C = some cellB.cls)
    {g : JFrame} (hg : g.method = m) (hsize : g.locals.size = c.maxLocals) {argsL rest : List Value} (hlen : ∀ sig, parseMethodDescriptor y.desc = some sig → argsL.length = sig.parameters.length)
    (hstack : g.stack = argsL.reverse ++ .ref b :: rest) (hW : 2 * g.monitorRoom + (rest.map fun v => v.category).sum ≤ W9) (hdg : decode c.code g.pc = .ok (.invokevirtual index, 3))
    (hpre : ∀ vm₁, s.WarmedH vm₁ → Pre ⟨T.setVm vm₁, locs, cells, slots⟩ (Value.ref b :: argsL).toArray) :
    ∃ (v : Option Value) (vm₁ : Vm) (B : Pt), s.WarmedH vm₁ ∧ Stand p l e R s m args below meth c B.U B.locs B.cells B.slots ∧ Post ⟨T.setVm vm₁, locs, cells, slots⟩ (Value.ref b :: argsL).toArray v B ∧
      ∀ target, Steps p.tables e below (B.U.setTop { g with pc := g.pc + 3, stack := v.toList ++ rest }) target → Steps p.tables e below (T.setTop g) target := by
  obtain ⟨mk, methM, hnamed, hmethM, hstM, habM⟩ := Cond.instanceMethod_spec hinst
  obtain ⟨m8, methM', cM, hn8, hmethM', -, -, -, -, -, -, hsigM⟩ := Cond.codeWith_spec hcode
  cases Option.some.inj (hn8.symm.trans hnamed)
  cases hmethM.symm.trans hmethM'
  obtain ⟨c2, r2, m2, q1, q2, q3, q4, kP, hkP, hkPi⟩ := Cond.selects_spec hsel
  cases hcls.symm.trans q1
  cases (State.methodFound?_of_named hnamed hy).symm.trans q2
  cases hnamed.symm.trans q3
  have hselP : selectMethod e.platform s.vm cellB.cls mk = .method mk := by rw [Launch.admits_selectMethod X.admits]; exact q4
  obtain ⟨vm₁, X₁, hstep₁⟩ := X.invokevirtual hexec hown hlink hnamed hmethM hstM hkP hkPi hy (a := b) (cell := cellB) hcell
    (fun z h => by rw [h] at hobj; cases hobj) hselP hmethM habM hkP hkPi (g := g) hg (argsL := argsL) (rest := rest) (hlen _ hsigM) hstack hdg
  obtain ⟨v, B, X', hpost, hsteps⟩ := hK m meth c ⟨T.setVm vm₁, locs, cells, slots⟩ { g with stack := rest } (.invokevirtual index) mk (Value.ref b :: argsL).toArray X₁ hg hsize hdg hW (X₁.named hnamed) (hpre vm₁ X₁.warmed)
  exact ⟨v, vm₁, B, X₁.warmed, X', hpost, fun target h => hstep₁ _ fun acts => by rw [doInvoke_state]; exact hsteps.trans h⟩
abbrev vx_CVW (R : Room) (s : State) (args : Array Value) (own C : String) (index : Nat) (y : MethodName) (bytes : ByteArray) (maxL : Nat) (ret : Option FieldType) (hh : List (Nat × Nat × Nat × Nat)) (ws : List Cond) (rm : Room) (mc ms n : Nat) : Prop :=
  (rm.cells = mc ∧ rm.slots = ms ∧ rm.frames + 1 ≤ R.frames ∧ 8 + (maxL + 11) + rm.locals ≤ R.locals ∧ (∀ w ∈ ws, ∀ (a' : Array Value) (U : State), s.WarmedH U.vm → w.before a' U = true) ∧ Cond.codeWith y bytes maxL ret hh ∈ ws) ∧
  (Cond.codeWith y bytes maxL ret hh).before args s = true ∧ (Cond.initialized y.cls).before args s = true ∧ (y.cls ≠ "java/lang/invoke/MethodHandle" ∧ y.cls ≠ "java/lang/invoke/VarHandle") ∧
  (∀ sig, parseMethodDescriptor y.desc = some sig → n = sig.parameters.length) ∧ (Cond.methodLink own index y).before args s = true ∧ (Cond.instanceMethod y).before args s = true ∧ (Cond.selects C y y).before args s = true
theorem vx_cwVW {own C : String} {index maxL mc ms : Nat} {y : MethodName} {bytes : ByteArray} {ret : Option FieldType} {hh : List (Nat × Nat × Nat × Nat)} {Ts ws ws' : List Cond} {rm : Room} (n : Nat) (ht : ∀ w ∈ Ts, w.before args s = true) (hT : GoodIn Ts (wsV own index C y ws)) (hw : ws = Cond.codeWith y bytes maxL ret hh :: ws') (hrc : rm.cells = mc) (hrs : rm.slots = ms)
    (hd : y.cls = C ∧ y.cls ≠ "java/lang/invoke/MethodHandle" ∧ y.cls ≠ "java/lang/invoke/VarHandle" ∧ (parseMethodDescriptor y.desc).map (fun d => d.parameters.length) = some n) (hR : rm.frames + 1 ≤ R.frames ∧ 8 + (maxL + 11) + rm.locals ≤ R.locals) :
    vx_CVW R s args own C index y bytes maxL ret hh ws rm mc ms n := by
  obtain ⟨hC, hd⟩ := hd
  subst hC
  have ok : ∀ w ∈ wsV own index y.cls y ws, w.before args s = true := fun w h => ht w (hT w h).1
  have hG : GoodIn Ts ws := fun w h => hT w (by unfold wsV; exact List.mem_append_right _ h)
  have hc : Cond.codeWith y bytes maxL ret hh ∈ ws := by rw [hw]; exact List.mem_cons_self
  refine ⟨⟨hrc, hrs, hR.1, hR.2, pay_in ht hG, hc⟩, ht _ (hG _ hc).1, ok _ (by simp [wsV]), ⟨hd.1, hd.2.1⟩, fun sig h => ?_, ok _ (by simp [wsV]), ok _ (by simp [wsV]), ok _ (by simp [wsV])⟩
  have h2 := hd.2.2
  rw [h] at h2
  exact (Option.some.inj h2).symm
theorem vx_runVW {y : MethodName} {bytes cc : ByteArray} {maxL nL mc ms n index : Nat} {ret : Option FieldType} {hh : List (Nat × Nat × Nat × Nat)} {ws : List Cond} {rm : Room} {Pc : Array Value → State → Prop} {Qc : Array Value → State → Outcome → State → Prop} {free : Addr → Prop} {Ts : List Cond} {own C : String} {b : Addr} {As rest : List Value} {g : JFrame}
    (S : CallFix p m c cc nL s args Ts own) (hM : Met l y ws rm Pc Qc mc ms free) (cw : vx_CVW R s args own C index y bytes maxL ret hh ws rm mc ms n) (hp : PreV s H C b Pc As)
    (hg : g.method = m) (hn : As.length = n) (hsize : g.locals.size = nL) (hstack : g.stack = As.reverse ++ .ref b :: rest) (hW : 2 * g.monitorRoom + (rest.map fun v => v.category).sum ≤ 8) (hdg : decode cc g.pc = .ok (.invokevirtual index, 3)) (hf : cells + mc ≤ R.cells ∧ slots + ms ≤ R.slots) :
    va_Run p l e R s m args below meth c H locs cells slots mc ms g rest (Qc (Value.ref b :: As).toArray) free := by
  obtain ⟨⟨hrc, hrs, hfr, hlo, hws, hcw⟩, hcode, hini, hy, hlen, hl, hin, hse⟩ := cw
  have hK : Back l R p e below s args y 3 8 (PreOf R mc ms Pc) (PostOf Qc mc ms free) := va_backW (hh := hh) (bytes := bytes) (maxL := maxL) (ret := ret) hM hp.1 hrc hrs hfr hlo hws hcw (fun a' U hW => word_at hW (Or.inl (by first | rfl | simp [Cond.onTables, Cond.keeps, Cond.steady])) hini)
  obtain ⟨hx, hb, hml, ho, -⟩ := S
  obtain ⟨-, ⟨cellB, hcB, hoB, hclB⟩, hPc⟩ := hp
  intro T hT X
  obtain ⟨v, vm₁, ⟨U', l2, c2, s2⟩, hW₁, X', ⟨g', mk, t, L, e1, e2, hq, h1, hL, h2, h3⟩, st⟩ := vx_callVW X hx (C := C) (hh := hh) (bytes := bytes) (maxL := maxL) (ret := ret) ho hl hin hse hcode hy hK (by rw [hT]; exact hcB) hoB hclB hg (hsize.trans hml.symm) (argsL := As) (rest := rest) (fun sig h => hn.trans (hlen sig h)) hstack hW (by rw [hb]; exact hdg)
    (fun vm₁ hW₁ => ⟨hf.1, hf.2, hPc (T.setVm vm₁) hT hW₁⟩)
  dsimp only [Pt.U, Pt.locs, Pt.cells, Pt.slots] at X' e1 e2 h1 h2 h3 st
  subst h1; subst h2; subst h3
  exact ⟨v, (T.setVm vm₁).calling g' mk (Value.ref b :: As).toArray, t, U', L, hT, X', hL, e1, e2, hq, st⟩
section
variable {y : MethodName} {bytes cc : ByteArray} {maxL nL mc ms n index : Nat} {ret : Option FieldType} {ws : List Cond} {rm : Room} {Pc : Array Value → State → Prop} {Qc : Array Value → State → Outcome → State → Prop} {XC : String → State → State → Prop} {free : Addr → Prop} {Ts : List Cond} {own C : String} {b : Addr} {As rest : List Value} {g : JFrame}
theorem vx_runVX {hh : List (Nat × Nat × Nat × Nat)} (S : CallFix p m c cc nL s args Ts own) (hM : vx_Met l y ws rm Pc Qc XC mc ms free) (cw : vx_CVW R s args own C index y bytes maxL ret hh ws rm mc ms n) (hp : PreV s H C b Pc As)
    (hg : g.method = m) (hn : As.length = n) (hsize : g.locals.size = nL) (hstack : g.stack = As.reverse ++ .ref b :: rest) (hW : 2 * g.monitorRoom + (rest.map fun v => v.category).sum ≤ 8) (hdg : decode cc g.pc = .ok (.invokevirtual index, 3)) (hf : cells + mc ≤ R.cells ∧ slots + ms ≤ R.slots) :
    vx_Run p l e R s m args below meth c H locs cells slots mc ms g rest (Qc (Value.ref b :: As).toArray) XC free := by
  obtain ⟨⟨hrc, hrs, hfr, hlo, hws, hcw⟩, hcode, hini, hy, hlen, hl, hin, hse⟩ := cw
  have hK : vx_Back l R p e below s args y 3 8 (PreOf R mc ms Pc) (PostOf Qc mc ms free) (vx_Post XC mc ms free) := vx_backW (hh := hh) (bytes := bytes) (maxL := maxL) (ret := ret) hM hp.1 hrc hrs hfr hlo hws hcw (fun a' U hW => word_at hW (Or.inl (by first | rfl | simp [Cond.onTables, Cond.keeps, Cond.steady])) hini)
  obtain ⟨hx, hb, hml, ho, -⟩ := S
  obtain ⟨-, ⟨cellB, hcB, hoB, hclB⟩, hPc⟩ := hp
  intro T hT X
  rcases vx_callVX X hx (C := C) (hh := hh) (bytes := bytes) (maxL := maxL) (ret := ret) ho hl hin hse hcode hy hK (by rw [hT]; exact hcB) hoB hclB hg (hsize.trans hml.symm) (argsL := As) (rest := rest) (fun sig h => hn.trans (hlen sig h)) hstack hW (by rw [hb]; exact hdg)
    (fun vm₁ hW₁ => ⟨hf.1, hf.2, hPc (T.setVm vm₁) hT hW₁⟩) with ⟨v, vm₁, ⟨U', l2, c2, s2⟩, hW₁, X', ⟨g', mk, t, L, e1, e2, hq, h1, hL, h2, h3⟩, st⟩ | ⟨q, vm₁, ⟨U', l2, c2, s2⟩, hW₁, X', ⟨g', mk, t, L, E, ce, e1, e2, hq, hce, hcv, hcl, h1, hL, h2, h3⟩, st⟩
  · dsimp only [Pt.U, Pt.locs, Pt.cells, Pt.slots] at X' e1 e2 h1 h2 h3 st
    subst h1; subst h2; subst h3
    exact Or.inl ⟨v, (T.setVm vm₁).calling g' mk (Value.ref b :: As).toArray, t, U', L, hT, X', hL, e1, e2, hq, st⟩
  · dsimp only [Pt.U, Pt.locs, Pt.cells, Pt.slots] at X' e1 e2 h1 h2 h3 st hcl
    subst h1; subst h2; subst h3
    exact Or.inr ⟨q, (T.setVm vm₁).calling g' mk (Value.ref b :: As).toArray, t, U', L, E, ce, hT, X', hL, e1, e2, hq, hce, hcv, vx_cls hW₁ hcl, st⟩
theorem vx_runSX {hh : List (Nat × Nat × Nat × Nat)} (S : CallFix p m c cc nL s args Ts own) (hM : vx_Met l y ws rm Pc Qc XC mc ms free) (cw : vx_CSW R s args own index y bytes maxL ret hh ws rm mc ms n) (hp : PreS s H Pc As)
    (hg : g.method = m) (hn : As.length = n) (hsize : g.locals.size = nL) (hstack : g.stack = As.reverse ++ rest) (hW : 2 * g.monitorRoom + (rest.map fun v => v.category).sum ≤ 8) (hdg : decode cc g.pc = .ok (.invokestatic index, 3)) (hf : cells + mc ≤ R.cells ∧ slots + ms ≤ R.slots) :
    vx_Run p l e R s m args below meth c H locs cells slots mc ms g rest (Qc As.toArray) XC free := by
  obtain ⟨⟨hrc, hrs, hfr, hlo, hws, hcw⟩, hcode, hini, hy, hlen, hl, hstt⟩ := cw
  have hK : vx_Back l R p e below s args y 3 8 (PreOf R mc ms Pc) (PostOf Qc mc ms free) (vx_Post XC mc ms free) := vx_backW (hh := hh) (bytes := bytes) (maxL := maxL) (ret := ret) hM hp.1 hrc hrs hfr hlo hws hcw (fun a' U hW => word_at hW (Or.inl (by first | rfl | simp [Cond.onTables, Cond.keeps, Cond.steady])) hini)
  obtain ⟨hx, hb, hml, ho, -⟩ := S
  intro T hT X
  rcases vx_callSX X hx (hh := hh) (bytes := bytes) (maxL := maxL) (ret := ret) ho hl hstt hini hcode hy hK hg (hsize.trans hml.symm) (argsL := As) (rest := rest) (fun sig h => hn.trans (hlen sig h)) hstack hW (by rw [hb]; exact hdg)
    (fun vm₁ hW₁ => ⟨hf.1, hf.2, hp.2 (T.setVm vm₁) hT hW₁⟩) with ⟨v, vm₁, ⟨U', l2, c2, s2⟩, hW₁, X', ⟨g', mk, t, L, e1, e2, hq, h1, hL, h2, h3⟩, st⟩ | ⟨q, vm₁, ⟨U', l2, c2, s2⟩, hW₁, X', ⟨g', mk, t, L, E, ce, e1, e2, hq, hce, hcv, hcl, h1, hL, h2, h3⟩, st⟩
  · dsimp only [Pt.U, Pt.locs, Pt.cells, Pt.slots] at X' e1 e2 h1 h2 h3 st
    subst h1; subst h2; subst h3
    exact Or.inl ⟨v, (T.setVm vm₁).calling g' mk As.toArray, t, U', L, hT, X', hL, e1, e2, hq, st⟩
  · dsimp only [Pt.U, Pt.locs, Pt.cells, Pt.slots] at X' e1 e2 h1 h2 h3 st hcl
    subst h1; subst h2; subst h3
    exact Or.inr ⟨q, (T.setVm vm₁).calling g' mk As.toArray, t, U', L, E, ce, hT, X', hL, e1, e2, hq, hce, hcv, vx_cls hW₁ hcl, st⟩
end
end VXH
theorem vx_ofWH {l : Launch} {y : MethodName} {ws ws' : List Cond} {rm : Room} {Pc : Array Value → State → Prop} {Qc : Array Value → State → Outcome → State → Prop} {XC : String → State → State → Prop} {mc ms : Nat} {free : Addr → Prop} {cc : ByteArray} {maxL : Nat} {ret : Option FieldType} {hh : List (Nat × Nat × Nat × Nat)}
    (hy : plainName y.cls = true) (hw : ws = Cond.codeWith y cc maxL ret hh :: ws')
    (body : ∀ p e s m args below meth c s₁, BodyLoose p l y (headSpec ws rm) cc maxL ret e s m args below meth c s₁ → c.maxLocals = maxL → Pc args s →
      W p l e (headSpec ws rm).room s m args below meth c s.heap [] 0 0 (vx_MQ below Qc XC args s mc ms free) (entryFrame m args maxL)) : vx_Met l y ws rm Pc Qc XC mc ms free := by
  refine MetFree.of_bodyS (code := cc) (maxLocals := maxL) (ret := ret) hy ?_ ?_
  · intro args s m h hn
    obtain ⟨m9, meth, c, hn9, h1, h2, h3, h4, -, h5, h6, -⟩ := Cond.codeWith_spec (atoms_spec (ws := ws) h _ (by rw [hw]; exact List.mem_cons_self))
    cases hn.symm.trans hn9
    exact ⟨meth, c, h1, h2, h3, h4, h5, h6⟩
  · intro p e s m args below meth c s₁ B hml hP _
    have hh0 : s₁.heap = s.heap := by rw [B.state]; rfl
    obtain ⟨t, a1, o, b1, b2, b3⟩ := body p e s m args below meth c s₁ B hml hP s₁ hh0 (Stand.of_body B)
    exact ⟨t, o, a1, b1, b2, b3⟩
/-! ===== END ===== -/
end
section
/-! THE SMALL MACHINE: the class's and the law's bytecode run over a small heap of our own (addresses from 0 on; 0 is the script); mi_ rows. Addresses of the machine proper come by mi_ad; .retAddr k stands for a thing that was there before (a text). -/
abbrev mi_E : Type := (FieldType × vp_A) ⊕ (Nat × List Value)
/-- how many cells there are, how many slots were made, the cells -/
abbrev mi_H : Type := Nat × Nat × (Nat → mi_E)
abbrev mi_L : Type := List (Nat × Value)
/-- returned, or threw a class -/
abbrev mi_O : Type := Option Value ⊕ String
def mi_ad (b : Nat → Nat) (B : Nat) : Nat → Nat
  | 0 => b 0
  | k + 1 => B + k
def mi_v (b : Nat → Nat) (B : Nat) : Value → Value
  | .ref a => .ref (mi_ad b B a)
  | .retAddr k => .ref (b (k + 1))
  | v => v
theorem mi_v_cat (b : Nat → Nat) (B : Nat) (v : Value) : (mi_v b B v).category = v.category := by cases v <;> rfl
theorem mi_cats (b : Nat → Nat) (B : Nat) (st : List Value) : ((st.map (mi_v b B)).map fun v => v.category).sum = (st.map fun v => v.category).sum := by
  rw [List.map_map]
  congr 1
  apply List.map_congr_left
  intro v _
  exact mi_v_cat b B v
def mi_lm (b : Nat → Nat) (B : Nat) (l : mi_L) : mi_L := l.map (fun q => (q.1, mi_v b B q.2))
def mi_lget (l : mi_L) (i : Nat) : Option Value := (l.find? (fun q => q.1 == i)).map (fun q => q.2)
def mi_st1 (l : mi_L) (i : Nat) (v : Value) : mi_L := (i, v) :: l.filter (fun q => !(q.1 == i) && !(q.1 + 1 == i && q.2.category == 2))
def mi_st2 (l : mi_L) (i : Nat) (v : Value) : mi_L := (i, v) :: l.filter (fun q => !(q.1 == i) && (!(q.1 == i + 1) && !(q.1 + 1 == i && q.2.category == 2)))
theorem mi_lget_mem {l : mi_L} {i : Nat} {v : Value} (h : mi_lget l i = some v) : (i, v) ∈ l := by
  unfold mi_lget at h
  cases hf : l.find? (fun q => q.1 == i) with
  | none => rw [hf] at h; cases h
  | some q =>
    rw [hf] at h
    have h1 : q.2 = v := Option.some.inj h
    have h2 := List.find?_some hf
    have h3 : q.1 = i := by simpa using h2
    have h4 := List.mem_of_find?_eq_some hf
    rw [← h1, ← h3]
    exact h4
theorem mi_lget_at {b : Nat → Nat} {B nL : Nat} {ls : Array Slot} {l : mi_L} {i : Nat} {v : Value} (hl : lv_has ls nL (mi_lm b B l)) (h : mi_lget l i = some v) : ls[i]? = some (.val (mi_v b B v)) :=
  hl.2.2 (i, mi_v b B v) (List.mem_map.mpr ⟨(i, v), mi_lget_mem h, rfl⟩)
theorem mi_lm_st1 (b : Nat → Nat) (B : Nat) (l : mi_L) (i : Nat) (v : Value) : mi_st1 (mi_lm b B l) i (mi_v b B v) = mi_lm b B (mi_st1 l i v) := by
  unfold mi_st1 mi_lm
  rw [List.map_cons, List.filter_map]
  congr 1
  congr 1
  apply List.filter_congr
  intro q _
  simp only [Function.comp, mi_v_cat]
theorem mi_lm_st2 (b : Nat → Nat) (B : Nat) (l : mi_L) (i : Nat) (v : Value) : mi_st2 (mi_lm b B l) i (mi_v b B v) = mi_lm b B (mi_st2 l i v) := by
  unfold mi_st2 mi_lm
  rw [List.map_cons, List.filter_map]
  congr 1
  congr 1
  apply List.filter_congr
  intro q _
  simp only [Function.comp, mi_v_cat]
/-- what a step that touches the stack alone makes of it -/
def mi_pure (i : Instr) (st : List Value) : Option (List Value) := match i, st with
  | .iconst n, r => some (.int (Int32.ofInt n) :: r)
  | .bipush n, r => some (.int (Int8.ofInt n).toInt32 :: r)
  | .sipush n, r => some (.int (Int16.ofInt n).toInt32 :: r)
  | .lconst n, r => some (.long (Int64.ofNat (n : Nat)) :: r)
  | .iadd, .int y :: .int x :: r => some (.int (x + y) :: r)
  | .isub, .int y :: .int x :: r => some (.int (x - y) :: r)
  | .imul, .int y :: .int x :: r => some (.int (x * y) :: r)
  | .iand, .int y :: .int x :: r => some (.int (x &&& y) :: r)
  | .ior, .int y :: .int x :: r => some (.int (x ||| y) :: r)
  | .ishl, .int y :: .int x :: r => some (.int (x <<< (y &&& 31)) :: r)
  | .ishr, .int y :: .int x :: r => some (.int (x >>> (y &&& 31)) :: r)
  | .iushr, .int y :: .int x :: r => some (.int (x.toUInt32 >>> (y.toUInt32 &&& Int32.toUInt32 31)).toInt32 :: r)
  | .idiv, .int y :: .int x :: r => if y = 0 then none else some (.int (x / y) :: r)
  | .irem, .int y :: .int x :: r => if y = 0 then none else some (.int (x - x / y * y) :: r)
  | .ineg, .int x :: r => some (.int (-x) :: r)
  | .ladd, .long y :: .long x :: r => some (.long (x + y) :: r)
  | .lsub, .long y :: .long x :: r => some (.long (x - y) :: r)
  | .lmul, .long y :: .long x :: r => some (.long (x * y) :: r)
  | .land, .long y :: .long x :: r => some (.long (x &&& y) :: r)
  | .lor, .long y :: .long x :: r => some (.long (x ||| y) :: r)
  | .lshl, .int y :: .long x :: r => some (.long (x <<< (y.toInt64 &&& 63)) :: r)
  | .lshr, .int y :: .long x :: r => some (.long (x >>> (y.toInt64 &&& 63)) :: r)
  | .i2l, .int x :: r => some (.long x.toInt64 :: r)
  | .l2i, .long x :: r => some (.int x.toInt32 :: r)
  | .lcmp, .long y :: .long x :: r => some (.int (lg_cmp x y) :: r)
  | .i2c, .int x :: r => some (.int (x.toUInt32 % 65536).toInt32 :: r)
  | .dup, v :: r => if v.category = 1 then some (v :: v :: r) else none
  | .pop, v :: r => if v.category = 1 then some r else none
  | .dup2, v :: w :: r => if v.category = 1 then (if w.category = 1 then some (v :: w :: v :: w :: r) else none) else none
  | _, _ => none
/-- how many bytes such an instruction has -/
def mi_len (i : Instr) : Nat := match i with
  | .bipush _ | .iload _ | .lload _ | .aload _ | .istore _ | .lstore _ | .astore _ | .ldc _ | .newarray _ => 2
  | .sipush _ | .iinc _ _ | .goto _ | .if_icmp _ _ | .ifCond _ _ | .getfield _ | .putfield _ | .new _ | .invokevirtual _ | .invokespecial _ | .invokestatic _ | .ldc_w _ | .ldc2_w _ => 3
  | _ => 1
section MiPure
variable {p : Program} {l : Launch} {e : Env} {R : Room} {s : State} {m : MethodId} {args : Array Value} {below : List Frame} {meth : Method} {c : Code} {H : Heap} {locs : List Loc} {cells slots : Nat} {Q : State → Prop}
variable {cc : ByteArray} {pc : Nat} {ls : Array Slot} {b : Nat → Nat} {B : Nat}
set_option maxHeartbeats 4000000 in
theorem mi_pure_ok (hx : p.tables.exec = Jvm.exec) (hb : c.code = cc) {i : Instr} {st st' : List Value} (h : mi_pure i st = some st') (hd : decode cc pc = .ok (i, mi_len i))
    (k : W p l e R s m args below meth c H locs cells slots Q (F0 m (pc + mi_len i) ls (st'.map (mi_v b B)))) : W p l e R s m args below meth c H locs cells slots Q (F0 m pc ls (st.map (mi_v b B))) := by
  unfold mi_pure at h
  split at h
  · cases h; exact lv_iconst hx hb hd rfl k
  · cases h; exact lv_bipush hx hb hd rfl k
  · cases h; exact lv_sipush hx hb hd rfl k
  · cases h; exact lv_lconst hx hb hd rfl k
  · cases h; exact lv_iadd hx hb hd k
  · cases h; exact lv_isub hx hb hd k
  · cases h; exact lv_imul hx hb hd k
  · cases h; exact lv_iand hx hb hd k
  · cases h; exact lv_ior hx hb hd k
  · cases h; exact lv_ishl hx hb hd k
  · cases h; exact lv_ishr hx hb hd k
  · cases h; exact lv_iushr hx hb hd rfl k
  · split at h
    · cases h
    · next hne => cases h; exact lv_idiv hx hb hd hne k
  · split at h
    · cases h
    · next hne => cases h; exact lv_irem hx hb hd hne k
  · cases h; exact lv_ineg hx hb hd k
  · cases h; exact lv_ladd hx hb hd k
  · cases h; exact lv_lsub hx hb hd k
  · cases h; exact lv_lmul hx hb hd k
  · cases h; exact lv_land hx hb hd k
  · cases h; exact lv_lor hx hb hd k
  · cases h; exact lv_lshl hx hb hd rfl k
  · cases h; exact lv_lshr hx hb hd rfl k
  · cases h; exact lv_i2l hx hb hd rfl k
  · cases h; exact lv_l2i hx hb hd rfl k
  · cases h; exact W.lcmp hx hb hd k
  · cases h; exact lv_i2c hx hb hd rfl k
  · split at h
    · next hc => cases h; exact lv_dup hx hb hd ((mi_v_cat b B _).trans hc) k
    · cases h
  · split at h
    · next hc => cases h; exact lv_pop hx hb hd ((mi_v_cat b B _).trans hc) k
    · cases h
  · split at h
    · next hc =>
      split at h
      · next hc2 => cases h; exact lv_dup2_11 hx hb hd ((mi_v_cat b B _).trans hc) ((mi_v_cat b B _).trans hc2) k
      · cases h
    · cases h
  · cases h
end MiPure
end
section
/-! Locals and jumps of the small machine. -/
/-- a load: 0 an int, 1 a long, 2 a reference -/
def mi_ld (k : Nat) (lv : mi_L) (i : Nat) (st : List Value) : Option (List Value) := match mi_lget lv i with
  | some (.int x) => if k = 0 then some (.int x :: st) else none
  | some (.long x) => if k = 1 then some (.long x :: st) else none
  | some (.ref a) => if k = 2 then some (.ref a :: st) else none
  | some .null => if k = 2 then some (.null :: st) else none
  | some (.retAddr t) => if k = 2 then some (.retAddr t :: st) else none
  | _ => none
def mi_sto (nL k : Nat) (lv : mi_L) (i : Nat) (st : List Value) : Option (mi_L × List Value) := match st with
  | .int x :: r => if k = 0 ∧ i < nL then some (mi_st1 lv i (.int x), r) else none
  | .long x :: r => if k = 1 ∧ i + 1 < nL then some (mi_st2 lv i (.long x), r) else none
  | .ref a :: r => if k = 2 ∧ i < nL then some (mi_st1 lv i (.ref a), r) else none
  | .null :: r => if k = 2 ∧ i < nL then some (mi_st1 lv i .null, r) else none
  | .retAddr t :: r => if k = 2 ∧ i < nL then some (mi_st1 lv i (.retAddr t), r) else none
  | _ => none
def mi_inc (nL : Nat) (lv : mi_L) (i : Nat) (n : Int) : Option mi_L := match mi_lget lv i with
  | some (.int x) => if i < nL then some (mi_st1 lv i (.int (x + Int32.ofInt n))) else none
  | _ => none
def mi_loc (nL : Nat) (i : Instr) (lv : mi_L) (st : List Value) : Option (mi_L × List Value) := match i with
  | .iload_n k => (mi_ld 0 lv (k : Nat) st).map (fun r => (lv, r))
  | .iload k => (mi_ld 0 lv k st).map (fun r => (lv, r))
  | .lload_n k => (mi_ld 1 lv (k : Nat) st).map (fun r => (lv, r))
  | .lload k => (mi_ld 1 lv k st).map (fun r => (lv, r))
  | .aload_n k => (mi_ld 2 lv (k : Nat) st).map (fun r => (lv, r))
  | .aload k => (mi_ld 2 lv k st).map (fun r => (lv, r))
  | .istore_n k => mi_sto nL 0 lv (k : Nat) st
  | .istore k => mi_sto nL 0 lv k st
  | .lstore_n k => mi_sto nL 1 lv (k : Nat) st
  | .lstore k => mi_sto nL 1 lv k st
  | .astore_n k => mi_sto nL 2 lv (k : Nat) st
  | .astore k => mi_sto nL 2 lv k st
  | .iinc k n => (mi_inc nL lv k n).map (fun r => (r, st))
  | _ => none
theorem mi_ld_i {lv : mi_L} {i : Nat} {st st' : List Value} (h : mi_ld 0 lv i st = some st') : ∃ x, mi_lget lv i = some (.int x) ∧ st' = .int x :: st := by
  unfold mi_ld at h
  split at h
  · next x hx => exact ⟨x, hx, by simpa using h.symm⟩
  all_goals simp at h
theorem mi_ld_l {lv : mi_L} {i : Nat} {st st' : List Value} (h : mi_ld 1 lv i st = some st') : ∃ x, mi_lget lv i = some (.long x) ∧ st' = .long x :: st := by
  unfold mi_ld at h
  split at h
  · simp at h
  · next x hx => exact ⟨x, hx, by simpa using h.symm⟩
  all_goals simp at h
theorem mi_ld_a {lv : mi_L} {i : Nat} {st st' : List Value} (h : mi_ld 2 lv i st = some st') : (∃ a, mi_lget lv i = some (.ref a) ∧ st' = .ref a :: st) ∨ (mi_lget lv i = some .null ∧ st' = .null :: st) ∨ (∃ t, mi_lget lv i = some (.retAddr t) ∧ st' = .retAddr t :: st) := by
  unfold mi_ld at h
  split at h
  · simp at h
  · simp at h
  · next a ha => exact Or.inl ⟨a, ha, by simpa using h.symm⟩
  · next ha => exact Or.inr (Or.inl ⟨ha, by simpa using h.symm⟩)
  · next t ha => exact Or.inr (Or.inr ⟨t, ha, by simpa using h.symm⟩)
  · simp at h
theorem mi_sto_i {nL : Nat} {lv : mi_L} {i : Nat} {st : List Value} {q : mi_L × List Value} (h : mi_sto nL 0 lv i st = some q) : ∃ x r, st = .int x :: r ∧ i < nL ∧ q = (mi_st1 lv i (.int x), r) := by
  unfold mi_sto at h
  split at h
  · next x r => split at h
                · next hc => exact ⟨x, r, rfl, hc.2, (Option.some.inj h).symm⟩
                · cases h
  all_goals simp at h
theorem mi_sto_l {nL : Nat} {lv : mi_L} {i : Nat} {st : List Value} {q : mi_L × List Value} (h : mi_sto nL 1 lv i st = some q) : ∃ x r, st = .long x :: r ∧ i + 1 < nL ∧ q = (mi_st2 lv i (.long x), r) := by
  unfold mi_sto at h
  split at h
  · simp at h
  · next x r => split at h
                · next hc => exact ⟨x, r, rfl, hc.2, (Option.some.inj h).symm⟩
                · cases h
  all_goals simp at h
theorem mi_sto_a {nL : Nat} {lv : mi_L} {i : Nat} {st : List Value} {q : mi_L × List Value} (h : mi_sto nL 2 lv i st = some q) : (∃ a r, st = .ref a :: r ∧ i < nL ∧ q = (mi_st1 lv i (.ref a), r)) ∨ (∃ r, st = .null :: r ∧ i < nL ∧ q = (mi_st1 lv i .null, r)) ∨ (∃ t r, st = .retAddr t :: r ∧ i < nL ∧ q = (mi_st1 lv i (.retAddr t), r)) := by
  unfold mi_sto at h
  split at h
  · simp at h
  · simp at h
  · next x r => split at h
                · next hc => exact Or.inl ⟨x, r, rfl, hc.2, (Option.some.inj h).symm⟩
                · cases h
  · next r => split at h
              · next hc => exact Or.inr (Or.inl ⟨r, rfl, hc.2, (Option.some.inj h).symm⟩)
              · cases h
  · next t r => split at h
                · next hc => exact Or.inr (Or.inr ⟨t, r, rfl, hc.2, (Option.some.inj h).symm⟩)
                · cases h
  · simp at h
section MiLoc
variable {p : Program} {l : Launch} {e : Env} {R : Room} {s : State} {m : MethodId} {args : Array Value} {below : List Frame} {meth : Method} {c : Code} {H : Heap} {locs : List Loc} {cells slots : Nat} {Q : State → Prop}
variable {cc : ByteArray} {pc nL : Nat} {ls : Array Slot} {b : Nat → Nat} {B : Nat}
set_option maxHeartbeats 4000000 in
theorem mi_loc_ok (hx : p.tables.exec = Jvm.exec) (hb : c.code = cc) {i : Instr} {lv lv' : mi_L} {st st' : List Value} (h : mi_loc nL i lv st = some (lv', st')) (hd : decode cc pc = .ok (i, mi_len i)) (hl : lv_has ls nL (mi_lm b B lv))
    (k : ∀ ls' : Array Slot, lv_has ls' nL (mi_lm b B lv') → W p l e R s m args below meth c H locs cells slots Q (F0 m (pc + mi_len i) ls' (st'.map (mi_v b B)))) : W p l e R s m args below meth c H locs cells slots Q (F0 m pc ls (st.map (mi_v b B))) := by
  unfold mi_loc at h
  split at h
  · obtain ⟨r, hr, e1⟩ := Option.map_eq_some_iff.mp h
    cases e1
    obtain ⟨x, hx1, rfl⟩ := mi_ld_i hr
    exact lv_iload_n hx hb hd rfl (mi_lget_at hl hx1) (k ls hl)
  · obtain ⟨r, hr, e1⟩ := Option.map_eq_some_iff.mp h
    cases e1
    obtain ⟨x, hx1, rfl⟩ := mi_ld_i hr
    exact lv_iload hx hb hd (mi_lget_at hl hx1) (k ls hl)
  · obtain ⟨r, hr, e1⟩ := Option.map_eq_some_iff.mp h
    cases e1
    obtain ⟨x, hx1, rfl⟩ := mi_ld_l hr
    exact lv_lload_n hx hb hd rfl (mi_lget_at hl hx1) (k ls hl)
  · obtain ⟨r, hr, e1⟩ := Option.map_eq_some_iff.mp h
    cases e1
    obtain ⟨x, hx1, rfl⟩ := mi_ld_l hr
    exact lv_lload hx hb hd (mi_lget_at hl hx1) (k ls hl)
  · obtain ⟨r, hr, e1⟩ := Option.map_eq_some_iff.mp h
    cases e1
    rcases mi_ld_a hr with ⟨x, hx1, rfl⟩ | ⟨hx1, rfl⟩ | ⟨x, hx1, rfl⟩
    · exact lv_aload_n hx hb hd rfl (mi_lget_at hl hx1) (k ls hl)
    · exact lv_aload_nN hx hb hd rfl (mi_lget_at hl hx1) (k ls hl)
    · exact lv_aload_n hx hb hd rfl (mi_lget_at hl hx1) (k ls hl)
  · obtain ⟨r, hr, e1⟩ := Option.map_eq_some_iff.mp h
    cases e1
    rcases mi_ld_a hr with ⟨x, hx1, rfl⟩ | ⟨hx1, rfl⟩ | ⟨x, hx1, rfl⟩
    · exact lv_aload hx hb hd (mi_lget_at hl hx1) (k ls hl)
    · exact lv_aloadN hx hb hd (mi_lget_at hl hx1) (k ls hl)
    · exact lv_aload hx hb hd (mi_lget_at hl hx1) (k ls hl)
  · obtain ⟨x, r, rfl, hn, e1⟩ := mi_sto_i h
    cases e1
    exact lv_istore_n hx hb hd rfl hl hn (mi_lm_st1 b B lv _ (.int x)) k
  · obtain ⟨x, r, rfl, hn, e1⟩ := mi_sto_i h
    cases e1
    exact lv_istore hx hb hd hl hn (mi_lm_st1 b B lv _ (.int x)) k
  · obtain ⟨x, r, rfl, hn, e1⟩ := mi_sto_l h
    cases e1
    exact lv_lstore_n hx hb hd rfl hl hn (mi_lm_st2 b B lv _ (.long x)) k
  · obtain ⟨x, r, rfl, hn, e1⟩ := mi_sto_l h
    cases e1
    exact lv_lstore hx hb hd hl hn (mi_lm_st2 b B lv _ (.long x)) k
  · rcases mi_sto_a h with ⟨x, r, rfl, hn, e1⟩ | ⟨r, rfl, hn, e1⟩ | ⟨x, r, rfl, hn, e1⟩
    · cases e1
      exact lv_astore_n hx hb hd rfl hl hn (mi_lm_st1 b B lv _ (.ref x)) k
    · cases e1
      exact lv_astore_nN hx hb hd rfl hl hn (mi_lm_st1 b B lv _ .null) k
    · cases e1
      exact lv_astore_n hx hb hd rfl hl hn (mi_lm_st1 b B lv _ (.retAddr x)) k
  · rcases mi_sto_a h with ⟨x, r, rfl, hn, e1⟩ | ⟨r, rfl, hn, e1⟩ | ⟨x, r, rfl, hn, e1⟩
    · cases e1
      exact lv_astore hx hb hd hl hn (mi_lm_st1 b B lv _ (.ref x)) k
    · cases e1
      exact lv_astoreN hx hb hd hl hn (mi_lm_st1 b B lv _ .null) k
    · cases e1
      exact lv_astore hx hb hd hl hn (mi_lm_st1 b B lv _ (.retAddr x)) k
  · obtain ⟨r, hr, e1⟩ := Option.map_eq_some_iff.mp h
    cases e1
    unfold mi_inc at hr
    split at hr
    · next x hx1 =>
      split at hr
      · next hn =>
        cases hr
        have hm : (_, Value.int x) ∈ mi_lm b B lv := List.mem_map.mpr ⟨(_, .int x), mi_lget_mem hx1, rfl⟩
        obtain ⟨k0, hk0⟩ := List.getElem?_of_mem hm
        exact lv_iinc hx hb hd hl hk0 rfl hn (mi_lm_st1 b B lv _ (.int _)) k
      · cases hr
    · cases hr
  · cases h
end MiLoc
def mi_tgt (pc : Nat) (off : Int) : Option Nat := if 0 ≤ (pc : Int) + off then some ((pc : Int) + off).toNat else none
theorem mi_tgt_ok {pc t : Nat} {off : Int} (h : mi_tgt pc off = some t) : (pc : Int) + off = (t : Int) := by
  unfold mi_tgt at h
  split at h
  · next h0 => cases h; exact (Int.toNat_of_nonneg h0).symm
  · cases h
def mi_cmp (k : ClassFile.Cond) (x y : Int32) : Bool := match k with
  | .eq => decide (x = y)
  | .ne => !decide (x = y)
  | .lt => decide (x < y)
  | .ge => decide (y ≤ x)
  | .gt => decide (y < x)
  | .le => decide (x ≤ y)
def mi_sw (i : Instr) : Bool := match i with
  | .tableswitch _ _ _ _ => true
  | .lookupswitch _ _ => true
  | _ => false
/-- what the code says at a place -/
def mi_dec (cc : ByteArray) (pc : Nat) : Option Instr := match decode cc pc with
  | .ok (i, n) => if n = mi_len i ∨ mi_sw i = true then some i else none
  | _ => none
theorem mi_dec_ok {cc : ByteArray} {pc : Nat} {i : Instr} (h : mi_dec cc pc = some i) : (mi_sw i = false → decode cc pc = .ok (i, mi_len i)) ∧ ∃ n, decode cc pc = .ok (i, n) := by
  unfold mi_dec at h
  split at h
  · next j n hd =>
    split at h
    · next hc =>
      cases h
      refine ⟨fun h0 => ?_, n, hd⟩
      rcases hc with hc | hc
      · rw [← hc]; exact hd
      · rw [h0] at hc; cases hc
    · cases h
  · cases h
def mi_jmp (i : Instr) (pc : Nat) (st : List Value) : Option (Nat × List Value) := match i, st with
  | .goto off, r => (mi_tgt pc off).map (fun t => (t, r))
  | .if_icmp k off, .int y :: .int x :: r => (mi_tgt pc off).map (fun t => (if mi_cmp k x y = true then t else pc + 3, r))
  | .ifCond k off, .int x :: r => (mi_tgt pc off).map (fun t => (if mi_cmp k x 0 = true then t else pc + 3, r))
  | .tableswitch dflt lo hi offs, .int x :: r =>
    if x.toInt < lo ∨ hi < x.toInt then (mi_tgt pc dflt).map (fun t => (t, r))
    else match offs[(x.toInt - lo).toNat]? with
      | some off => (mi_tgt pc off).map (fun t => (t, r))
      | none => none
  | .lookupswitch dflt ps, .int x :: r =>
    if (ps.toList.zip (ps.toList.drop 1)).all (fun (a, next) => a.1 < next.1) = true then (mi_tgt pc (Op.lookupswitch.offset ps.toList dflt x.toInt)).map (fun t => (t, r)) else none
  | _, _ => none
section MiJmp
variable {p : Program} {l : Launch} {e : Env} {R : Room} {s : State} {m : MethodId} {args : Array Value} {below : List Frame} {meth : Method} {c : Code} {H : Heap} {locs : List Loc} {cells slots : Nat} {Q : State → Prop}
variable {cc : ByteArray} {pc nL : Nat} {ls : Array Slot} {b : Nat → Nat} {B : Nat}
set_option maxHeartbeats 4000000 in
theorem mi_jmp_ok (hx : p.tables.exec = Jvm.exec) (hb : c.code = cc) {i : Instr} {pc' : Nat} {st st' : List Value} (h : mi_jmp i pc st = some (pc', st')) (hd : mi_dec cc pc = some i)
    (k : W p l e R s m args below meth c H locs cells slots Q (F0 m pc' ls (st'.map (mi_v b B)))) : W p l e R s m args below meth c H locs cells slots Q (F0 m pc ls (st.map (mi_v b B))) := by
  obtain ⟨hd1, n, hd2⟩ := mi_dec_ok hd
  unfold mi_jmp at h
  split at h
  · obtain ⟨t, ht, e1⟩ := Option.map_eq_some_iff.mp h
    cases e1
    exact lv_goto hx hb (hd1 rfl) (mi_tgt_ok ht) k
  · next kc off y x r =>
    obtain ⟨t, ht, e1⟩ := Option.map_eq_some_iff.mp h
    cases e1
    have ht := mi_tgt_ok ht
    have hd3 := hd1 rfl
    cases kc with
    | eq => exact lv_icmp_eq hx hb hd3 ht (fun q => by rw [if_pos (by simp [mi_cmp, q])] at k; exact k) (fun q => by rw [if_neg (by simp [mi_cmp, q])] at k; exact k)
    | ne => exact lv_icmp_ne hx hb hd3 ht (fun q => by rw [if_pos (by simp [mi_cmp, q])] at k; exact k) (fun q => by rw [if_neg (by simp [mi_cmp, q])] at k; exact k)
    | lt => exact lv_icmp_lt hx hb hd3 ht (fun q => by rw [if_pos (by simp [mi_cmp, q])] at k; exact k) (fun q => by rw [if_neg (by simp only [mi_cmp, decide_eq_true_eq]; exact q)] at k; exact k)
    | ge => exact lv_icmp_ge hx hb hd3 ht (fun q => by rw [if_pos (by simp [mi_cmp, q])] at k; exact k) (fun q => by rw [if_neg (by simp only [mi_cmp, decide_eq_true_eq]; exact q)] at k; exact k)
    | gt => exact lv_icmp_gt hx hb hd3 ht (fun q => by rw [if_pos (by simp [mi_cmp, q])] at k; exact k) (fun q => by rw [if_neg (by simp only [mi_cmp, decide_eq_true_eq]; exact q)] at k; exact k)
    | le => exact lv_icmp_le hx hb hd3 ht (fun q => by rw [if_pos (by simp [mi_cmp, q])] at k; exact k) (fun q => by rw [if_neg (by simp only [mi_cmp, decide_eq_true_eq]; exact q)] at k; exact k)
  · next kc off x r =>
    obtain ⟨t, ht, e1⟩ := Option.map_eq_some_iff.mp h
    cases e1
    have ht := mi_tgt_ok ht
    have hd3 := hd1 rfl
    cases kc with
    | eq => exact lv_if_eq hx hb hd3 ht (fun q => by rw [if_pos (by simp [mi_cmp, q])] at k; exact k) (fun q => by rw [if_neg (by simp [mi_cmp, q])] at k; exact k)
    | ne => exact lv_if_ne hx hb hd3 ht (fun q => by rw [if_pos (by simp [mi_cmp, q])] at k; exact k) (fun q => by rw [if_neg (by simp [mi_cmp, q])] at k; exact k)
    | lt => exact lv_if_lt hx hb hd3 ht (fun q => by rw [if_pos (by simp [mi_cmp, q])] at k; exact k) (fun q => by rw [if_neg (by simp only [mi_cmp, decide_eq_true_eq]; exact q)] at k; exact k)
    | ge => exact lv_if_ge hx hb hd3 ht (fun q => by rw [if_pos (by simp [mi_cmp, q])] at k; exact k) (fun q => by rw [if_neg (by simp only [mi_cmp, decide_eq_true_eq]; exact q)] at k; exact k)
    | gt => exact lv_if_gt hx hb hd3 ht (fun q => by rw [if_pos (by simp [mi_cmp, q])] at k; exact k) (fun q => by rw [if_neg (by simp only [mi_cmp, decide_eq_true_eq]; exact q)] at k; exact k)
    | le => exact lv_if_le hx hb hd3 ht (fun q => by rw [if_pos (by simp [mi_cmp, q])] at k; exact k) (fun q => by rw [if_neg (by simp only [mi_cmp, decide_eq_true_eq]; exact q)] at k; exact k)
  · split at h
    · next hc =>
      obtain ⟨t, ht, e1⟩ := Option.map_eq_some_iff.mp h
      cases e1
      exact lv_tableOut hx hb hd2 hc (mi_tgt_ok ht) k
    · next hc =>
      split at h
      · next off ho =>
        obtain ⟨t, ht, e1⟩ := Option.map_eq_some_iff.mp h
        cases e1
        exact lv_tableIn hx hb hd2 (fun q => hc (Or.inl q)) (fun q => hc (Or.inr q)) ho (mi_tgt_ok ht) k
      · cases h
  · split at h
    · next hc =>
      obtain ⟨t, ht, e1⟩ := Option.map_eq_some_iff.mp h
      cases e1
      exact lv_lookup hx hb hd2 hc rfl (mi_tgt_ok ht) k
    · cases h
  · cases h
end MiJmp
end
section
/-! The small machine's heap, and how the machine's own holds it. -/
abbrev mi_tys (tA : FieldType → ClassId) : List (ClassId × FieldType) := [(tA .int, .int), (tA .long, .long), (tA .boolean, .boolean)]
def mi_at (D : va_G) (cl : List vw_C) (tA : FieldType → ClassId) (b : Nat → Nat) (B : Nat) (a : Nat) (x : mi_E) (H : Heap) : Prop := match x with
  | .inl q => H[a]? = some (vp_cell (tA q.1) q.2)
  | .inr o => ∀ r : vw_C, cl[o.1]? = some r → t_OB a (D.1 o.1) r.2.2 (D.2 o.1) H (vp_V (o.2.map (mi_v b B)))
theorem mi_at.kept {D : va_G} {cl : List vw_C} {tA : FieldType → ClassId} {b : Nat → Nat} {B a : Nat} {x : mi_E} {H H1 : Heap} (h : mi_at D cl tA b B a x H) (hq : H1[a]? = H[a]?) : mi_at D cl tA b B a x H1 := by
  cases x with
  | inl q => exact hq.trans h
  | inr o => exact fun r hr => (h r hr).kept hq
/-- the small heap h lies in H, its cell k + 1 at B + k; H ends with it -/
def mi_R (D : va_G) (cl : List vw_C) (tA : FieldType → ClassId) (b : Nat → Nat) (B : Nat) (h : mi_H) (H : Heap) : Prop :=
  H.size + 1 = B + h.1 ∧ 1 ≤ h.1 ∧ ∀ k : Nat, k + 1 < h.1 → mi_at D cl tA b B (B + k) (h.2.2 (k + 1)) H
def mi_get (h : mi_H) (a : Nat) : Option mi_E := if a < h.1 then some (h.2.2 a) else none
def mi_set (h : mi_H) (a : Nat) (x : mi_E) : mi_H := (h.1, h.2.1, fun j => if j = a then x else h.2.2 j)
def mi_push (h : mi_H) (n : Nat) (x : mi_E) : mi_H := (h.1 + 1, h.2.1 + n, fun j => if j = h.1 then x else h.2.2 j)
theorem mi_get_ok {D : va_G} {cl : List vw_C} {tA : FieldType → ClassId} {b : Nat → Nat} {B a : Nat} {x : mi_E} {h : mi_H} {H : Heap} (hR : mi_R D cl tA b B h H) (hg : mi_get h a = some x) (ha : a ≠ 0) : mi_at D cl tA b B (mi_ad b B a) x H ∧ B ≤ mi_ad b B a := by
  cases a with
  | zero => exact absurd rfl ha
  | succ k =>
    unfold mi_get at hg
    split at hg
    · next hlt => cases hg; exact ⟨hR.2.2 k hlt, Nat.le_add_right _ _⟩
    · cases hg
theorem mi_set_ok {D : va_G} {cl : List vw_C} {tA : FieldType → ClassId} {b : Nat → Nat} {B a : Nat} {x : mi_E} {h : mi_H} {H H1 : Heap} (hR : mi_R D cl tA b B h H) (ha : a ≠ 0) (hz : H1.size = H.size) (ho : ∀ q, q ≠ mi_ad b B a → H1[q]? = H[q]?) (hx : mi_at D cl tA b B (mi_ad b B a) x H1) : mi_R D cl tA b B (mi_set h a x) H1 := by
  refine ⟨by rw [hz]; exact hR.1, hR.2.1, fun k hk => ?_⟩
  have hk : k + 1 < h.1 := hk
  show mi_at D cl tA b B (B + k) (if k + 1 = a then x else h.2.2 (k + 1)) H1
  by_cases e : k + 1 = a
  · rw [if_pos e]
    subst e
    exact hx
  · rw [if_neg e]
    refine (hR.2.2 k hk).kept (ho _ fun q => ?_)
    cases a with
    | zero => exact ha rfl
    | succ j =>
      have : B + k = B + j := q
      omega
theorem mi_push_ok {D : va_G} {cl : List vw_C} {tA : FieldType → ClassId} {b : Nat → Nat} {B n : Nat} {x : mi_E} {h : mi_H} {H H1 : Heap} (hR : mi_R D cl tA b B h H) (hz : H1.size = H.size + 1) (ho : ∀ q, q < H.size → H1[q]? = H[q]?) (hx : mi_at D cl tA b B H.size x H1) : mi_R D cl tA b B (mi_push h n x) H1 := by
  obtain ⟨h1, h2, h3⟩ := hR
  refine ⟨by show H1.size + 1 = B + (h.1 + 1); omega, by show 1 ≤ h.1 + 1; omega, fun k hk => ?_⟩
  have hk : k + 1 < h.1 + 1 := hk
  show mi_at D cl tA b B (B + k) (if k + 1 = h.1 then x else h.2.2 (k + 1)) H1
  by_cases e : k + 1 = h.1
  · rw [if_pos e]
    have : B + k = H.size := by omega
    rw [this]
    exact hx
  · rw [if_neg e]
    exact (h3 k (by omega)).kept (ho _ (by omega))
theorem mi_top {D : va_G} {cl : List vw_C} {tA : FieldType → ClassId} {b : Nat → Nat} {B : Nat} {h : mi_H} {H : Heap} (hR : mi_R D cl tA b B h H) : H.size = mi_ad b B h.1 := by
  obtain ⟨h1, h2, -⟩ := hR
  cases hk : h.1 with
  | zero => omega
  | succ k => show H.size = B + k; omega
/-- what may stand in a field -/
def mi_fit (ty : FieldType) (v : Value) : Bool := match ty, v with
  | .int, .int _ => true
  | .long, .long _ => true
  | .boolean, .int x => decide (x = 0) || decide (x = 1)
  | .object _, .ref _ => true
  | .object _, .null => true
  | .array _, .ref _ => true
  | .array _, .null => true
  | _, _ => false
theorem mi_fit_ok {ty : FieldType} {v : Value} (h : mi_fit ty v = true) (b : Nat → Nat) (B : Nat) : narrow ty (mi_v b B v) = mi_v b B v ∧ fits ty (mi_v b B v) = true := by
  unfold mi_fit at h
  split at h
  · exact ⟨rfl, rfl⟩
  · exact ⟨rfl, rfl⟩
  · next x =>
    simp only [Bool.or_eq_true, decide_eq_true_eq] at h
    rcases h with rfl | rfl
    · exact ⟨rfl, rfl⟩
    · exact ⟨rfl, rfl⟩
  · exact ⟨rfl, rfl⟩
  · exact ⟨rfl, rfl⟩
  · exact ⟨rfl, rfl⟩
  · exact ⟨rfl, rfl⟩
  · cases h
/-- what the classes' words give -/
def mi_cls (GT : List Cond) (cl : List vw_C) (fty : Nat → Nat → FieldType) : Prop :=
  ∀ (ci : Nat) (C : String) (T : u_T) (N : Nat), cl[ci]? = some (C, T, N) →
    (∀ w ∈ u_ws C T N, w ∈ GT) ∧ (∀ k, k < N → parseFieldDescriptor (T k).2.2.1 = some (fty ci k)) ∧ (∀ a, a < N → ∀ b, b < N → a ≠ b → (T a).2.1 ≠ (T b).2.1) ∧
    Cond.instantiable C N ∈ GT ∧ Cond.initialized C ∈ GT
def mi_dfs (fty : Nat → Nat → FieldType) (ci N : Nat) : List Value := (List.range N).map (fun k => defaultValue (fty ci k))
theorem mi_dv (b : Nat → Nat) (B : Nat) (ty : FieldType) : mi_v b B (defaultValue ty) = defaultValue ty := by cases ty <;> rfl
theorem mi_dfs_v (b : Nat → Nat) (B : Nat) (fty : Nat → Nat → FieldType) (ci N j : Nat) (h : j < N) : defaultValue (fty ci j) = vp_V ((mi_dfs fty ci N).map (mi_v b B)) j := by
  unfold vp_V mi_dfs
  rw [List.map_map, List.getD_eq_getElem?_getD, List.getElem?_map, List.getElem?_range h]
  exact (mi_dv b B _).symm
/-- the places of a class's file: fields (and whether the method may write one) -/
def mi_fld (GT : List Cond) (cl : List vw_C) (own : String) (ini : Bool) (fld : Nat → Option (Nat × Nat × Bool)) : Prop :=
  ∀ (ix ci k : Nat) (w : Bool), fld ix = some (ci, k, w) → ∃ (C : String) (T : u_T) (N : Nat), cl[ci]? = some (C, T, N) ∧ k < N ∧ Cond.fieldLink own ix (T k).1 (T k).2.1 (T k).2.2.1 ∈ GT ∧ (w = true → (T k).2.2.2 = false ∨ (ini = true ∧ (T k).1 = own))
section MiHeap
variable {p : Program} {l : Launch} {e : Env} {R : Room} {s : State} {m : MethodId} {args : Array Value} {below : List Frame} {meth : Method} {c : Code} {H : Heap} {locs : List Loc} {cells slots : Nat} {Q : State → Prop}
variable {cc : ByteArray} {pc : Nat} {ls : Array Slot} {b : Nat → Nat} {B : Nat} {D : va_G} {cl : List vw_C} {tA : FieldType → ClassId} {GT : List Cond} {fty : Nat → Nat → FieldType} {own : String} {h : mi_H} {rest : List Value}
theorem mi_one {a : Nat} {x : va_E} (hx : va_at D cl (a, x) H) : va_P D cl [(a, x)] H := by
  intro k q hk
  cases k with
  | zero => cases hk; exact hx
  | succ k => cases hk
set_option maxHeartbeats 1000000 in
theorem mi_getf (hx : p.tables.exec = Jvm.exec) (hb : c.code = cc) (hts : ∀ w ∈ GT, w.before args s = true) (hcl : mi_cls GT cl fty) (hown : s.vm.findClass own = some m.cls) (hK : va_K D cl (mi_tys tA) s) {ini : Bool} {fld : Nat → Option (Nat × Nat × Bool)} (hfl : mi_fld GT cl own ini fld) (hR : mi_R D cl tA b B h H)
    {ix a ci k : Nat} {w : Bool} {fs : List Value} {v : Value} (ha : a ≠ 0) (hg : mi_get h a = some (.inr (ci, fs))) (hf : fld ix = some (ci, k, w)) (hv : fs[k]? = some v) (hd : decode cc pc = .ok (.getfield ix, 3))
    (kk : W p l e R s m args below meth c H locs cells slots Q (F0 m (pc + 3) ls ((v :: rest).map (mi_v b B)))) : W p l e R s m args below meth c H locs cells slots Q (F0 m pc ls ((.ref a :: rest).map (mi_v b B))) := by
  obtain ⟨C, T, N, hc, hk, hlink, -⟩ := hfl ix ci k w hf
  obtain ⟨hat, -⟩ := mi_get_ok hR hg ha
  exact va_get (D := D) (cl := cl) (ws := [(mi_ad b B a, .inr (ci, fs.map (mi_v b B)))]) (v := mi_v b B v) hx hb hts (hcl ci C T N hc).1 hown hK (mi_one ⟨_, hc, hat _ hc⟩) 0 rfl hc k hk (hts _ hlink) (fun _ z => z) (by rw [List.getElem?_map, hv]; rfl) hd kk
set_option maxHeartbeats 2000000 in
theorem mi_putf (hx : p.tables.exec = Jvm.exec) (hb : c.code = cc) (hts : ∀ w ∈ GT, w.before args s = true) (hcl : mi_cls GT cl fty) (hown : s.vm.findClass own = some m.cls) (hK : va_K D cl (mi_tys tA) s) {ini : Bool} (hini : ini = true → meth.name = "<init>") {fld : Nat → Option (Nat × Nat × Bool)} (hfl : mi_fld GT cl own ini fld) (hR : mi_R D cl tA b B h H) (hS : va_S (fun q => B ≤ q) s.heap H locs)
    {ix a ci k : Nat} {fs : List Value} {v : Value} (ha : a ≠ 0) (hg : mi_get h a = some (.inr (ci, fs))) (hf : fld ix = some (ci, k, true)) (hl : k < fs.length) (hv : mi_fit (fty ci k) v = true) (hd : decode cc pc = .ok (.putfield ix, 3))
    (kk : ∀ (H1 : Heap) (locs1 : List Loc), mi_R D cl tA b B (mi_set h a (.inr (ci, fs.set k v))) H1 → va_S (fun q => B ≤ q) s.heap H1 locs1 → W p l e R s m args below meth c H1 locs1 cells slots Q (F0 m (pc + 3) ls (rest.map (mi_v b B)))) : W p l e R s m args below meth c H locs cells slots Q (F0 m pc ls ((v :: .ref a :: rest).map (mi_v b B))) := by
  obtain ⟨C, T, N, hc, hk, hlink, hfin⟩ := hfl ix ci k true hf
  have hfin := hfin rfl
  obtain ⟨hat, hB⟩ := mi_get_ok hR hg ha
  obtain ⟨hin, hty, hnm, -, -⟩ := hcl ci C T N hc
  obtain ⟨hn, hfit⟩ := mi_fit_ok hv b B
  have hap := va_apart (own := own) hts hin (fty ci) hty hnm hK hc
  obtain ⟨cell, q1, q2, q3, q4⟩ := hat _ hc
  obtain ⟨hSl, hfc, kC, hkC, hkind⟩ := hK.1 ci _ hc
  obtain ⟨cf, kf, fi, f, hi, hsl⟩ := hSl k hk
  have hst := (u_facts hfc hkC (u_lays hts hin hk) hi).1
  have hlay := hts _ (hin _ (u_in_lay hk))
  unfold u_lay at hlay
  have fin : ∀ H' : Heap, H'[mi_ad b B a]? = some (cell.setSlot f.slot (mi_v b B v)) → H'.size = H.size → (∀ q, q ≠ mi_ad b B a → H'[q]? = H[q]?) → W p l e R s m args below meth c H' (locs ++ [⟨mi_ad b B a, f.slot⟩]) cells slots Q (F0 m (pc + 3) ls (rest.map (mi_v b B))) := by
    intro H' e1 e2 e3
    refine kk H' _ (mi_set_ok hR ha e2 e3 ?_) (hS.put e2 e3 hB)
    intro r hr
    cases hc.symm.trans hr
    rw [hsl] at e1
    have h9 : t_OB (mi_ad b B a) (D.1 ci) N (D.2 ci) H' (updV (vp_V (fs.map (mi_v b B))) k (mi_v b B v)) := ⟨_, e1, q2, q3, t_set q4 hap hk _⟩
    refine h9.to fun j _ => ?_
    rw [vp_updV_set (by rw [List.length_map]; exact hl)]
    show vp_V ((fs.map (mi_v b B)).set k (mi_v b B v)) j = vp_V ((fs.set k v).map (mi_v b B)) j
    rw [List.map_set]
  by_cases hF : (T k).2.2.2 = true
  · rw [if_pos hF] at hlay
    obtain ⟨i1, i2⟩ : ini = true ∧ (T k).1 = own := by
      rcases hfin with z | z
      · rw [hF] at z; cases z
      · exact z
    have hcf : m.cls = cf := by
      obtain ⟨_, _, c', _, _, _, -, -, hf', -, -, -, hown2, -⟩ := Cond.laysFinal_spec hlay
      have e1 : c' = cf := by have := hi.symm.trans hf'; simp at this; exact this.1.symm
      rw [i2] at hown2
      rw [← e1]; exact Option.some.inj (hown.symm.trans hown2)
    have h6 := u_fits hfc hkC hkind (Or.inr hlay) hi (hty k hk) hn hfit
    exact W.putFinK hx hb hown (hts _ hlink) hi hst hcf (hini i1) (by rw [q2]; exact h6) q1 q3 (by rw [hsl]; exact k2_hasslot (q4 k hk)) rfl rfl hd fin
  · rw [if_neg hF] at hlay
    have h6 := u_store hfc hkC hkind hlay hi (hty k hk) hn hfit
    exact W.putK hx hb (f := f) ⟨hown, hts _ hlink, ⟨_, _, _, hi⟩, hst⟩ (by rw [q2]; exact h6) q1 q3 (by rw [hsl]; exact k2_hasslot (q4 k hk)) rfl rfl hd fin
set_option maxHeartbeats 1000000 in
theorem mi_newo (hx : p.tables.exec = Jvm.exec) (hb : c.code = cc) (hts : ∀ w ∈ GT, w.before args s = true) (hcl : mi_cls GT cl fty) (hown : s.vm.findClass own = some m.cls) (hK : va_K D cl (mi_tys tA) s) (hR : mi_R D cl tA b B h H) (hS : va_S (fun q => B ≤ q) s.heap H locs)
    {ix ci N : Nat} {C : String} {T : u_T} (hc : cl[ci]? = some (C, T, N)) (hlk : Cond.classLink own ix C ∈ GT) (hcells : cells + 1 ≤ R.cells) (hslots : slots + N ≤ R.slots) (hd : decode cc pc = .ok (.new ix, 3))
    (kk : ∀ (H1 : Heap), mi_R D cl tA b B (mi_push h N (.inr (ci, mi_dfs fty ci N))) H1 → va_S (fun q => B ≤ q) s.heap H1 locs → W p l e R s m args below meth c H1 locs (cells + 1) (slots + N) Q (F0 m (pc + 3) ls ((.ref h.1 :: rest).map (mi_v b B)))) : W p l e R s m args below meth c H locs cells slots Q (F0 m pc ls (rest.map (mi_v b B))) := by
  obtain ⟨hin, hty, hnm, hinst, hini⟩ := hcl ci C T N hc
  have hKn := hK.1 ci _ hc
  refine W.newcK hx hb hown (hts _ hlk) (hts _ hinst) (hts _ hini) rfl hd hcells hslots hKn.2.1 (mi_top hR) fun H1 kC hkC e1 z1 o1 => ?_
  rw [← mi_top hR] at e1 z1 o1
  refine kk H1 (mi_push_ok hR z1 o1 ?_) ⟨Nat.le_trans hS.1 (by omega), fun q h1 h2 => (o1 q (Nat.lt_of_lt_of_le h1 hS.1)).trans (hS.2.1 q h1 h2), hS.2.2⟩
  intro r hr
  cases hc.symm.trans hr
  exact (u_born (fty ci) hts hin hKn hkC e1 hty).to (fun j hj => mi_dfs_v b B fty ci N j hj)
end MiHeap
end
section
section MiArr
variable {p : Program} {l : Launch} {e : Env} {R : Room} {s : State} {m : MethodId} {args : Array Value} {below : List Frame} {meth : Method} {c : Code} {H : Heap} {locs : List Loc} {cells slots : Nat} {Q : State → Prop}
variable {cc : ByteArray} {pc : Nat} {ls : Array Slot} {b : Nat → Nat} {B : Nat} {D : va_G} {cl : List vw_C} {tA : FieldType → ClassId} {h : mi_H} {rest : List Value}
theorem mi_ald_i (hx : p.tables.exec = Jvm.exec) (hb : c.code = cc) (hK : va_K D cl (mi_tys tA) s) (hR : mi_R D cl tA b B h H) {a n : Nat} {f : Nat → Int32} {i : Int32} (ha : a ≠ 0) (hg : mi_get h a = some (.inl (.int, n, .inl f))) (hin : vp_in i n) (hd : decode cc pc = .ok (.iaload, 1))
    (kk : W p l e R s m args below meth c H locs cells slots Q (F0 m (pc + 1) ls ((.int (f i.toNatClampNeg) :: rest).map (mi_v b B)))) : W p l e R s m args below meth c H locs cells slots Q (F0 m pc ls ((.int i :: .ref a :: rest).map (mi_v b B))) :=
  va_iald (ws := [(mi_ad b B a, .inl (tA .int, n, .inl f))]) hx hb hK (mi_one (D := D) (cl := cl) (mi_get_ok hR hg ha).1) 0 0 rfl rfl hin hd kk
theorem mi_ald_l (hx : p.tables.exec = Jvm.exec) (hb : c.code = cc) (hK : va_K D cl (mi_tys tA) s) (hR : mi_R D cl tA b B h H) {a n : Nat} {f : Nat → Int64} {i : Int32} (ha : a ≠ 0) (hg : mi_get h a = some (.inl (.long, n, .inr (.inl f)))) (hin : vp_in i n) (hd : decode cc pc = .ok (.laload, 1))
    (kk : W p l e R s m args below meth c H locs cells slots Q (F0 m (pc + 1) ls ((.long (f i.toNatClampNeg) :: rest).map (mi_v b B)))) : W p l e R s m args below meth c H locs cells slots Q (F0 m pc ls ((.int i :: .ref a :: rest).map (mi_v b B))) :=
  va_lald (ws := [(mi_ad b B a, .inl (tA .long, n, .inr (.inl f)))]) hx hb hK (mi_one (D := D) (cl := cl) (mi_get_ok hR hg ha).1) 0 1 rfl rfl hin hd kk
theorem mi_ald_z (hx : p.tables.exec = Jvm.exec) (hb : c.code = cc) (hK : va_K D cl (mi_tys tA) s) (hR : mi_R D cl tA b B h H) {a n : Nat} {f : Nat → Int32} {i : Int32} (ha : a ≠ 0) (hg : mi_get h a = some (.inl (.boolean, n, .inl f))) (hin : vp_in i n) (hd : decode cc pc = .ok (.baload, 1))
    (kk : W p l e R s m args below meth c H locs cells slots Q (F0 m (pc + 1) ls ((.int (f i.toNatClampNeg) :: rest).map (mi_v b B)))) : W p l e R s m args below meth c H locs cells slots Q (F0 m pc ls ((.int i :: .ref a :: rest).map (mi_v b B))) :=
  va_zald (ws := [(mi_ad b B a, .inl (tA .boolean, n, .inl f))]) hx hb hK (mi_one (D := D) (cl := cl) (mi_get_ok hR hg ha).1) 0 2 rfl rfl hin hd kk
theorem mi_ald_s (hx : p.tables.exec = Jvm.exec) (hb : c.code = cc) {L : Nat} {xs : Nat → Int32} (hX : va_X (b 0) L xs s s.heap) (hbl : b 0 < s.heap.size) (hbB : b 0 < B) (hS : va_S (fun q => B ≤ q) s.heap H locs) {i : Int32} (hin : vp_in i L) (hd : decode cc pc = .ok (.iaload, 1))
    (kk : W p l e R s m args below meth c H locs cells slots Q (F0 m (pc + 1) ls ((.int (xs i.toNatClampNeg) :: rest).map (mi_v b B)))) : W p l e R s m args below meth c H locs cells slots Q (F0 m pc ls ((.int i :: .ref 0 :: rest).map (mi_v b B))) :=
  va_sld hx hb hX hbl (Nat.not_le.mpr hbB) hS hin hd kk
theorem mi_len_s (hx : p.tables.exec = Jvm.exec) (hb : c.code = cc) {L : Nat} {xs : Nat → Int32} (hX : va_X (b 0) L xs s s.heap) (hbl : b 0 < s.heap.size) (hbB : b 0 < B) (hS : va_S (fun q => B ≤ q) s.heap H locs) (hd : decode cc pc = .ok (.arraylength, 1))
    (kk : W p l e R s m args below meth c H locs cells slots Q (F0 m (pc + 1) ls ((.int (Int32.ofNat L) :: rest).map (mi_v b B)))) : W p l e R s m args below meth c H locs cells slots Q (F0 m pc ls ((.ref 0 :: rest).map (mi_v b B))) :=
  va_slen hx hb hX hbl (Nat.not_le.mpr hbB) hS hd kk
theorem mi_len_a (hx : p.tables.exec = Jvm.exec) (hb : c.code = cc) (hK : va_K D cl (mi_tys tA) s) (hR : mi_R D cl tA b B h H) {a : Nat} {ty : FieldType} {x : vp_A} (ha : a ≠ 0) (hg : mi_get h a = some (.inl (ty, x))) (hty : ty = .int ∨ ty = .long ∨ ty = .boolean) (hd : decode cc pc = .ok (.arraylength, 1))
    (kk : W p l e R s m args below meth c H locs cells slots Q (F0 m (pc + 1) ls ((.int (Int32.ofNat x.1) :: rest).map (mi_v b B)))) : W p l e R s m args below meth c H locs cells slots Q (F0 m pc ls ((.ref a :: rest).map (mi_v b B))) := by
  rcases hty with rfl | rfl | rfl
  · exact va_alen (ws := [(mi_ad b B a, .inl (tA .int, x))]) hx hb hK (mi_one (D := D) (cl := cl) (mi_get_ok hR hg ha).1) 0 0 rfl rfl rfl hd kk
  · exact va_alen (ws := [(mi_ad b B a, .inl (tA .long, x))]) hx hb hK (mi_one (D := D) (cl := cl) (mi_get_ok hR hg ha).1) 0 1 rfl rfl rfl hd kk
  · exact va_alen (ws := [(mi_ad b B a, .inl (tA .boolean, x))]) hx hb hK (mi_one (D := D) (cl := cl) (mi_get_ok hR hg ha).1) 0 2 rfl rfl rfl hd kk
theorem mi_updI (f : Nat → Int32) (k : Nat) (x : Int32) : updV (fun j => Value.int (f j)) k (.int x) = fun j => .int (upd f k x j) := by
  funext q
  by_cases hq : q = k
  · subst hq; simp [updV, upd]
  · simp [updV, upd, hq]
theorem mi_updL (f : Nat → Int64) (k : Nat) (x : Int64) : updV (fun j => Value.long (f j)) k (.long x) = fun j => .long (vp_updL f k x j) := by
  funext q
  by_cases hq : q = k
  · subst hq; simp [updV, vp_updL]
  · simp [updV, vp_updL, hq]
theorem mi_ast_i (hx : p.tables.exec = Jvm.exec) (hb : c.code = cc) (hK : va_K D cl (mi_tys tA) s) (hR : mi_R D cl tA b B h H) (hS : va_S (fun q => B ≤ q) s.heap H locs) {a n : Nat} {f : Nat → Int32} {i x : Int32} (ha : a ≠ 0) (hg : mi_get h a = some (.inl (.int, n, .inl f))) (hin : vp_in i n) (hd : decode cc pc = .ok (.iastore, 1))
    (kk : ∀ (H1 : Heap) (locs1 : List Loc), mi_R D cl tA b B (mi_set h a (.inl (.int, n, .inl (upd f i.toNatClampNeg x)))) H1 → va_S (fun q => B ≤ q) s.heap H1 locs1 → W p l e R s m args below meth c H1 locs1 cells slots Q (F0 m (pc + 1) ls (rest.map (mi_v b B)))) : W p l e R s m args below meth c H locs cells slots Q (F0 m pc ls ((.int x :: .int i :: .ref a :: rest).map (mi_v b B))) := by
  obtain ⟨hat, hB⟩ := mi_get_ok hR hg ha
  have hat : H[mi_ad b B a]? = some (arrV (tA .int) n (fun j => .int (f j))) := hat
  refine W.iast hx hb hat ((hK.2 0 _ rfl).1 n (fun j => .int (f j))) (fun q => by cases q) (by rw [arrV_size]; exact hin) rfl rfl hd fun H1 e1 z oq => ?_
  refine kk H1 _ (mi_set_ok hR ha z oq ?_) (hS.put z oq hB)
  show H1[mi_ad b B a]? = some (arrV (tA .int) n (fun j => .int (upd f i.toNatClampNeg x j)))
  rw [e1, arrV_store, mi_updI]
theorem mi_ast_l (hx : p.tables.exec = Jvm.exec) (hb : c.code = cc) (hK : va_K D cl (mi_tys tA) s) (hR : mi_R D cl tA b B h H) (hS : va_S (fun q => B ≤ q) s.heap H locs) {a n : Nat} {f : Nat → Int64} {i : Int32} {x : Int64} (ha : a ≠ 0) (hg : mi_get h a = some (.inl (.long, n, .inr (.inl f)))) (hin : vp_in i n) (hd : decode cc pc = .ok (.lastore, 1))
    (kk : ∀ (H1 : Heap) (locs1 : List Loc), mi_R D cl tA b B (mi_set h a (.inl (.long, n, .inr (.inl (vp_updL f i.toNatClampNeg x))))) H1 → va_S (fun q => B ≤ q) s.heap H1 locs1 → W p l e R s m args below meth c H1 locs1 cells slots Q (F0 m (pc + 1) ls (rest.map (mi_v b B)))) : W p l e R s m args below meth c H locs cells slots Q (F0 m pc ls ((.long x :: .int i :: .ref a :: rest).map (mi_v b B))) := by
  obtain ⟨hat, hB⟩ := mi_get_ok hR hg ha
  have hat : H[mi_ad b B a]? = some (arrV (tA .long) n (fun j => .long (f j))) := hat
  refine W.last hx hb hat ((hK.2 1 _ rfl).1 n (fun j => .long (f j))) (fun q => by cases q) (by rw [arrV_size]; exact hin) rfl rfl hd fun H1 e1 z oq => ?_
  refine kk H1 _ (mi_set_ok hR ha z oq ?_) (hS.put z oq hB)
  show H1[mi_ad b B a]? = some (arrV (tA .long) n (fun j => .long (vp_updL f i.toNatClampNeg x j)))
  rw [e1, arrV_store, mi_updL]
theorem mi_ast_z (hx : p.tables.exec = Jvm.exec) (hb : c.code = cc) (hK : va_K D cl (mi_tys tA) s) (hR : mi_R D cl tA b B h H) (hS : va_S (fun q => B ≤ q) s.heap H locs) {a n : Nat} {f : Nat → Int32} {i x : Int32} (ha : a ≠ 0) (hg : mi_get h a = some (.inl (.boolean, n, .inl f))) (hin : vp_in i n) (hz : mi_fit .boolean (.int x) = true) (hd : decode cc pc = .ok (.bastore, 1))
    (kk : ∀ (H1 : Heap) (locs1 : List Loc), mi_R D cl tA b B (mi_set h a (.inl (.boolean, n, .inl (upd f i.toNatClampNeg x)))) H1 → va_S (fun q => B ≤ q) s.heap H1 locs1 → W p l e R s m args below meth c H1 locs1 cells slots Q (F0 m (pc + 1) ls (rest.map (mi_v b B)))) : W p l e R s m args below meth c H locs cells slots Q (F0 m pc ls ((.int x :: .int i :: .ref a :: rest).map (mi_v b B))) := by
  obtain ⟨hat, hB⟩ := mi_get_ok hR hg ha
  have hat : H[mi_ad b B a]? = some (arrV (tA .boolean) n (fun j => .int (f j))) := hat
  refine W.zast hx hb hat ((hK.2 2 _ rfl).1 n (fun j => .int (f j))) (fun q => by cases q) (by rw [arrV_size]; exact hin) rfl rfl hd fun H1 e1 z oq => ?_
  refine kk H1 _ (mi_set_ok hR ha z oq ?_) (hS.put z oq hB)
  have hn : narrow .boolean (.int x) = .int x := (mi_fit_ok hz (fun _ => 0) 0).1
  show H1[mi_ad b B a]? = some (arrV (tA .boolean) n (fun j => .int (upd f i.toNatClampNeg x j)))
  rw [e1, hn, arrV_store, mi_updI]
/-- the three kinds of arrays, all zero -/
def mi_zero (t : ArrayType) (n : Nat) : Option (FieldType × vp_A) := match t with
  | .int => some (.int, n, .inl (fun _ => 0))
  | .long => some (.long, n, .inr (.inl (fun _ => 0)))
  | .boolean => some (.boolean, n, .inl (fun _ => 0))
  | _ => none
theorem mi_newa (hx : p.tables.exec = Jvm.exec) (hb : c.code = cc) {GT : List Cond} (hts : ∀ w ∈ GT, w.before args s = true) (har : Cond.arrayClass .int ∈ GT ∧ Cond.arrayClass .long ∈ GT ∧ Cond.arrayClass .boolean ∈ GT) (hK : va_K D cl (mi_tys tA) s) (hR : mi_R D cl tA b B h H) (hS : va_S (fun q => B ≤ q) s.heap H locs)
    {t : ArrayType} {n : Int32} {x : FieldType × vp_A} (hz : mi_zero t n.toNatClampNeg = some x) (hn : ¬ n < 0) (hbytes : n.toNatClampNeg * 8 ≤ 536870912) (hcells : cells + 1 ≤ R.cells) (hslots : slots + n.toNatClampNeg ≤ R.slots) (hd : decode cc pc = .ok (.newarray t, 2))
    (kk : ∀ (H1 : Heap), mi_R D cl tA b B (mi_push h n.toNatClampNeg (.inl x)) H1 → va_S (fun q => B ≤ q) s.heap H1 locs → W p l e R s m args below meth c H1 locs (cells + 1) (slots + n.toNatClampNeg) Q (F0 m (pc + 2) ls ((.ref h.1 :: rest).map (mi_v b B)))) : W p l e R s m args below meth c H locs cells slots Q (F0 m pc ls ((.int n :: rest).map (mi_v b B))) := by
  have key : ∀ (ty : FieldType) (a0 : vp_A) (k : Nat), newarray.typeOf t = ty → x = (ty, a0) → (mi_tys tA)[k]? = some (tA ty, ty) → (∀ C, ty ≠ .object C) → componentBytes ty ≤ 8 → Cond.arrayClass ty ∈ GT → (∀ cA, vp_cell cA a0 = arrV cA n.toNatClampNeg (fun _ => defaultValue ty)) → W p l e R s m args below meth c H locs cells slots Q (F0 m pc ls ((.int n :: rest).map (mi_v b B))) := by
    intro ty a0 k hty hx0 hk hno hcb hw hcell
    subst hx0
    have hRA := (hK.2 k _ hk).2
    have hRA : s.vm.findClass ("[" ++ ty.toString) = some (tA ty) := by
      cases ty with
      | object C => exact absurd rfl (hno C)
      | _ => exact hRA
    refine va_newaK hx hb (by rw [hty]; exact hts _ hw) rfl hd rfl hn rfl (by rw [hty]; exact Nat.le_trans (Nat.mul_le_mul_left _ hcb) hbytes) hcells hslots (mi_top hR) fun H1 cA e1 z1 o1 hAr hNm => ?_
    rw [hty] at hNm e1
    cases Option.some.inj (hRA.symm.trans hNm)
    rw [← mi_top hR] at e1 z1 o1
    refine kk H1 (mi_push_ok hR z1 o1 ?_) ⟨Nat.le_trans hS.1 (by omega), fun q h1 h2 => (o1 q (Nat.lt_of_lt_of_le h1 hS.1)).trans (hS.2.1 q h1 h2), hS.2.2⟩
    show H1[H.size]? = some (vp_cell (tA ty) a0)
    rw [hcell]
    exact e1
  unfold mi_zero at hz
  split at hz
  · cases hz
    exact key .int _ 0 rfl rfl rfl (fun _ q => by cases q) (by decide) har.1 (fun _ => rfl)
  · cases hz
    exact key .long _ 1 rfl rfl rfl (fun _ q => by cases q) (by decide) har.2.1 (fun _ => rfl)
  · cases hz
    exact key .boolean _ 2 rfl rfl rfl (fun _ q => by cases q) (by decide) har.2.2 (fun _ => rfl)
  · cases hz
end MiArr
end
section
/-! The small machine's program, and its steps in the heap. -/
/-- of a method: name, code, how many locals, answer, handlers -/
abbrev mi_M : Type := MethodName × ByteArray × Nat × Option FieldType × List (Nat × Nat × Nat × Nat)
/-- methods; instructions; fields, new, constants, calls (method, kind, arguments), throws, catches by their places; classes: how many fields, of what types; a method's class; what members of texts answer -/
abbrev mi_P : Type := (Nat → mi_M) × (Nat → Nat → Option Instr) × (Nat → Nat → Option (Nat × Nat × Bool)) × (Nat → Nat → Option Nat) × (Nat → Nat → Option Value) × (Nat → Nat → Option (Nat × Nat × Nat)) × (Nat → Nat → Option String) × (Nat → Nat → String → Option Nat) × (Nat → Nat) × (Nat → Nat → FieldType) × (Nat → Nat) × (Nat → List Value → Option Value)
def mi_nm (P : mi_P) (j : Nat) : MethodName := (P.1 j).1
def mi_cd (P : mi_P) (j : Nat) : ByteArray := (P.1 j).2.1
def mi_mx (P : mi_P) (j : Nat) : Nat := (P.1 j).2.2.1
def mi_rt (P : mi_P) (j : Nat) : Option FieldType := (P.1 j).2.2.2.1
def mi_hh (P : mi_P) (j : Nat) : List (Nat × Nat × Nat × Nat) := (P.1 j).2.2.2.2
def mi_is (P : mi_P) : Nat → Nat → Option Instr := P.2.1
def mi_fl (P : mi_P) : Nat → Nat → Option (Nat × Nat × Bool) := P.2.2.1
def mi_nw (P : mi_P) : Nat → Nat → Option Nat := P.2.2.2.1
def mi_cs (P : mi_P) : Nat → Nat → Option Value := P.2.2.2.2.1
def mi_iv (P : mi_P) : Nat → Nat → Option (Nat × Nat × Nat) := P.2.2.2.2.2.1
def mi_th (P : mi_P) : Nat → Nat → Option String := P.2.2.2.2.2.2.1
def mi_ca (P : mi_P) : Nat → Nat → String → Option Nat := P.2.2.2.2.2.2.2.1
def mi_nf (P : mi_P) : Nat → Nat := P.2.2.2.2.2.2.2.2.1
def mi_ft (P : mi_P) : Nat → Nat → FieldType := P.2.2.2.2.2.2.2.2.2.1
def mi_kc (P : mi_P) : Nat → Nat := P.2.2.2.2.2.2.2.2.2.2.1
def mi_pr (P : mi_P) : Nat → List Value → Option Value := P.2.2.2.2.2.2.2.2.2.2.2
def mi_get_f (P : mi_P) (j ix a : Nat) (h : mi_H) : Option Value := match mi_get h a, mi_fl P j ix with
  | some (.inr (ci, fs)), some (cj, k, _) => if a ≠ 0 ∧ ci = cj then fs[k]? else none
  | _, _ => none
def mi_put_f (P : mi_P) (j ix a : Nat) (v : Value) (h : mi_H) : Option mi_H := match mi_get h a, mi_fl P j ix with
  | some (.inr (ci, fs)), some (cj, k, w) => if w = true ∧ a ≠ 0 ∧ ci = cj ∧ k < fs.length ∧ mi_fit (mi_ft P ci k) v = true then some (mi_set h a (.inr (ci, fs.set k v))) else none
  | _, _ => none
def mi_ld_i4 (L : Nat) (xs : Nat → Int32) (a : Nat) (x : Int32) (h : mi_H) : Option Value :=
  if a = 0 then (if x < 0 ∨ L ≤ x.toNatClampNeg then none else some (.int (xs x.toNatClampNeg))) else match mi_get h a with
  | some (.inl (.int, n, .inl f)) => if x < 0 ∨ n ≤ x.toNatClampNeg then none else some (.int (f x.toNatClampNeg))
  | _ => none
def mi_ld_i8 (a : Nat) (x : Int32) (h : mi_H) : Option Value := match mi_get h a with
  | some (.inl (.long, n, .inr (.inl f))) => if a = 0 ∨ x < 0 ∨ n ≤ x.toNatClampNeg then none else some (.long (f x.toNatClampNeg))
  | _ => none
def mi_ld_i1 (a : Nat) (x : Int32) (h : mi_H) : Option Value := match mi_get h a with
  | some (.inl (.boolean, n, .inl f)) => if a = 0 ∨ x < 0 ∨ n ≤ x.toNatClampNeg then none else some (.int (f x.toNatClampNeg))
  | _ => none
def mi_as_i4 (a : Nat) (x v : Int32) (h : mi_H) : Option mi_H := match mi_get h a with
  | some (.inl (.int, n, .inl f)) => if a = 0 ∨ x < 0 ∨ n ≤ x.toNatClampNeg then none else some (mi_set h a (.inl (.int, n, .inl (upd f x.toNatClampNeg v))))
  | _ => none
def mi_as_i8 (a : Nat) (x : Int32) (v : Int64) (h : mi_H) : Option mi_H := match mi_get h a with
  | some (.inl (.long, n, .inr (.inl f))) => if a = 0 ∨ x < 0 ∨ n ≤ x.toNatClampNeg then none else some (mi_set h a (.inl (.long, n, .inr (.inl (vp_updL f x.toNatClampNeg v)))))
  | _ => none
def mi_as_i1 (a : Nat) (x v : Int32) (h : mi_H) : Option mi_H := match mi_get h a with
  | some (.inl (.boolean, n, .inl f)) => if a = 0 ∨ x < 0 ∨ n ≤ x.toNatClampNeg then none else if mi_fit .boolean (.int v) = true then some (mi_set h a (.inl (.boolean, n, .inl (upd f x.toNatClampNeg v)))) else none
  | _ => none
def mi_alen (L a : Nat) (h : mi_H) : Option Value := if a = 0 then some (.int (Int32.ofNat L)) else match mi_get h a with
  | some (.inl (.int, x)) => some (.int (Int32.ofNat x.1))
  | some (.inl (.long, x)) => some (.int (Int32.ofNat x.1))
  | some (.inl (.boolean, x)) => some (.int (Int32.ofNat x.1))
  | _ => none
def mi_heap (P : mi_P) (L : Nat) (xs : Nat → Int32) (j : Nat) (i : Instr) (st : List Value) (h : mi_H) : Option (List Value × mi_H) := match i, st with
  | .getfield ix, .ref a :: r => (mi_get_f P j ix a h).map (fun v => (v :: r, h))
  | .putfield ix, v :: .ref a :: r => (mi_put_f P j ix a v h).map (fun g => (r, g))
  | .iaload, .int x :: .ref a :: r => (mi_ld_i4 L xs a x h).map (fun v => (v :: r, h))
  | .laload, .int x :: .ref a :: r => (mi_ld_i8 a x h).map (fun v => (v :: r, h))
  | .baload, .int x :: .ref a :: r => (mi_ld_i1 a x h).map (fun v => (v :: r, h))
  | .iastore, .int v :: .int x :: .ref a :: r => (mi_as_i4 a x v h).map (fun g => (r, g))
  | .lastore, .long v :: .int x :: .ref a :: r => (mi_as_i8 a x v h).map (fun g => (r, g))
  | .bastore, .int v :: .int x :: .ref a :: r => (mi_as_i1 a x v h).map (fun g => (r, g))
  | .arraylength, .ref a :: r => (mi_alen L a h).map (fun v => (v :: r, h))
  | .newarray t, .int n :: r => if n < 0 ∨ 536870912 < n.toNatClampNeg * 8 then none else (mi_zero t n.toNatClampNeg).map (fun x => (.ref h.1 :: r, mi_push h n.toNatClampNeg (.inl x)))
  | .new ix, r => (mi_nw P j ix).map (fun ci => (.ref h.1 :: r, mi_push h (mi_nf P ci) (.inr (ci, mi_dfs (mi_ft P) ci (mi_nf P ci)))))
  | .ldc ix, r => match mi_cs P j ix with
    | some (.int x) => some (.int x :: r, h)
    | some (.retAddr t) => some (.retAddr t :: r, h)
    | _ => none
  | .ldc_w ix, r => match mi_cs P j ix with
    | some (.int x) => some (.int x :: r, h)
    | _ => none
  | .ldc2_w ix, r => match mi_cs P j ix with
    | some (.long x) => some (.long x :: r, h)
    | _ => none
  | _, _ => none
/-- the places of a method's class file, by words of GT -/
def mi_plc (GT : List Cond) (cl : List vw_C) (P : mi_P) (j : Nat) : Prop :=
  mi_fld GT cl (mi_nm P j).cls (decide ((mi_nm P j).name = "<init>")) (mi_fl P j) ∧
  (∀ ix ci, mi_nw P j ix = some ci → ∃ (C : String) (T : u_T), cl[ci]? = some (C, T, mi_nf P ci) ∧ Cond.classLink (mi_nm P j).cls ix C ∈ GT) ∧
  (∀ ix x, mi_cs P j ix = some (.int x) → Cond.constant (mi_nm P j).cls ix x ∈ GT) ∧
  (∀ ix x, mi_cs P j ix = some (.long x) → Cond.constantLong (mi_nm P j).cls ix x ∈ GT)
section MiStep
variable {p : Program} {l : Launch} {e : Env} {R : Room} {s : State} {m : MethodId} {args : Array Value} {below : List Frame} {meth : Method} {c : Code} {H : Heap} {locs : List Loc} {cells slots : Nat} {Q : State → Prop}
variable {cc : ByteArray} {pc : Nat} {ls : Array Slot} {b : Nat → Nat} {B : Nat} {D : va_G} {cl : List vw_C} {tA : FieldType → ClassId} {GT : List Cond} {P : mi_P} {j L n0 s0 : Nat} {xs : Nat → Int32} {h h' : mi_H}
set_option maxHeartbeats 4000000 in
theorem mi_heap_ok (hx : p.tables.exec = Jvm.exec) (hb : c.code = cc) (hts : ∀ w ∈ GT, w.before args s = true) (har : Cond.arrayClass .int ∈ GT ∧ Cond.arrayClass .long ∈ GT ∧ Cond.arrayClass .boolean ∈ GT) (hcl : mi_cls GT cl (mi_ft P)) (hpl : mi_plc GT cl P j) (hown : s.vm.findClass (mi_nm P j).cls = some m.cls) (hname : (mi_nm P j).name = "<init>" → meth.name = "<init>")
    (hK : va_K D cl (mi_tys tA) s) (hX : va_X (b 0) L xs s s.heap) (hbl : b 0 < s.heap.size) (hbB : b 0 < B) (hR : mi_R D cl tA b B h H) (hS : va_S (fun q => B ≤ q) s.heap H locs)
    (hstr : ∀ ix t, mi_cs P j ix = some (.retAddr t) → ∃ text, vk_R (mi_nm P j).cls ix text (b (t + 1)) s)
    {i : Instr} {st st' : List Value} (hi : mi_heap P L xs j i st h = some (st', h')) (hd : decode cc pc = .ok (i, mi_len i)) (hn0 : n0 + cells = h.1) (hs0 : s0 + slots = h.2.1) (hRc : h'.1 ≤ n0 + R.cells) (hRs : h'.2.1 ≤ s0 + R.slots)
    (kk : ∀ (H1 : Heap) (locs1 : List Loc) (cells1 slots1 : Nat), mi_R D cl tA b B h' H1 → va_S (fun q => B ≤ q) s.heap H1 locs1 → n0 + cells1 = h'.1 → s0 + slots1 = h'.2.1 → W p l e R s m args below meth c H1 locs1 cells1 slots1 Q (F0 m (pc + mi_len i) ls (st'.map (mi_v b B)))) : W p l e R s m args below meth c H locs cells slots Q (F0 m pc ls (st.map (mi_v b B))) := by
  unfold mi_heap at hi
  split at hi
  · next ix a r =>
    obtain ⟨v, hv, e1⟩ := Option.map_eq_some_iff.mp hi
    cases e1
    unfold mi_get_f at hv
    split at hv
    · next ci fs cj k w hg hf =>
      split at hv
      · next hc =>
        obtain ⟨h0, rfl⟩ := hc
        exact mi_getf hx hb hts hcl hown hK hpl.1 hR h0 hg hf hv hd (kk H locs cells slots hR hS hn0 hs0)
      · cases hv
    · cases hv
  · next ix v a r =>
    obtain ⟨g, hv, e1⟩ := Option.map_eq_some_iff.mp hi
    cases e1
    unfold mi_put_f at hv
    split at hv
    · next ci fs cj k w hg hf =>
      split at hv
      · next hc =>
        obtain ⟨rfl, h0, rfl, hl, hfit⟩ := hc
        cases hv
        exact mi_putf hx hb hts hcl hown hK (ini := decide ((mi_nm P j).name = "<init>")) (fun z => hname (of_decide_eq_true z)) hpl.1 hR hS h0 hg hf hl hfit hd (fun H1 locs1 r1 r2 => kk H1 locs1 cells slots r1 r2 hn0 hs0)
      · cases hv
    · cases hv
  · next x a r =>
    obtain ⟨v, hv, e1⟩ := Option.map_eq_some_iff.mp hi
    cases e1
    unfold mi_ld_i4 at hv
    split at hv
    · next h0 =>
      subst h0
      split at hv
      · cases hv
      · next hin => cases hv; exact mi_ald_s hx hb hX hbl hbB hS hin hd (kk H locs cells slots hR hS hn0 hs0)
    · next h0 =>
      split at hv
      · next n f hg =>
        split at hv
        · cases hv
        · next hin => cases hv; exact mi_ald_i hx hb hK hR h0 hg hin hd (kk H locs cells slots hR hS hn0 hs0)
      · cases hv
  · next x a r =>
    obtain ⟨v, hv, e1⟩ := Option.map_eq_some_iff.mp hi
    cases e1
    unfold mi_ld_i8 at hv
    split at hv
    · next n f hg =>
      split at hv
      · cases hv
      · next hc => cases hv; exact mi_ald_l hx hb hK hR (fun z => hc (Or.inl z)) hg (fun z => hc (Or.inr z)) hd (kk H locs cells slots hR hS hn0 hs0)
    · cases hv
  · next x a r =>
    obtain ⟨v, hv, e1⟩ := Option.map_eq_some_iff.mp hi
    cases e1
    unfold mi_ld_i1 at hv
    split at hv
    · next n f hg =>
      split at hv
      · cases hv
      · next hc => cases hv; exact mi_ald_z hx hb hK hR (fun z => hc (Or.inl z)) hg (fun z => hc (Or.inr z)) hd (kk H locs cells slots hR hS hn0 hs0)
    · cases hv
  · next v x a r =>
    obtain ⟨g, hv, e1⟩ := Option.map_eq_some_iff.mp hi
    cases e1
    unfold mi_as_i4 at hv
    split at hv
    · next n f hg =>
      split at hv
      · cases hv
      · next hc => cases hv; exact mi_ast_i hx hb hK hR hS (fun z => hc (Or.inl z)) hg (fun z => hc (Or.inr z)) hd (fun H1 locs1 r1 r2 => kk H1 locs1 cells slots r1 r2 hn0 hs0)
    · cases hv
  · next v x a r =>
    obtain ⟨g, hv, e1⟩ := Option.map_eq_some_iff.mp hi
    cases e1
    unfold mi_as_i8 at hv
    split at hv
    · next n f hg =>
      split at hv
      · cases hv
      · next hc => cases hv; exact mi_ast_l hx hb hK hR hS (fun z => hc (Or.inl z)) hg (fun z => hc (Or.inr z)) hd (fun H1 locs1 r1 r2 => kk H1 locs1 cells slots r1 r2 hn0 hs0)
    · cases hv
  · next v x a r =>
    obtain ⟨g, hv, e1⟩ := Option.map_eq_some_iff.mp hi
    cases e1
    unfold mi_as_i1 at hv
    split at hv
    · next n f hg =>
      split at hv
      · cases hv
      · next hc =>
        split at hv
        · next hz => cases hv; exact mi_ast_z hx hb hK hR hS (fun z => hc (Or.inl z)) hg (fun z => hc (Or.inr z)) hz hd (fun H1 locs1 r1 r2 => kk H1 locs1 cells slots r1 r2 hn0 hs0)
        · cases hv
    · cases hv
  · next a r =>
    obtain ⟨v, hv, e1⟩ := Option.map_eq_some_iff.mp hi
    cases e1
    unfold mi_alen at hv
    split at hv
    · next h0 => subst h0; cases hv; exact mi_len_s hx hb hX hbl hbB hS hd (kk H locs cells slots hR hS hn0 hs0)
    · next h0 =>
      split at hv
      · next x hg => cases hv; exact mi_len_a hx hb hK hR h0 hg (Or.inl rfl) hd (kk H locs cells slots hR hS hn0 hs0)
      · next x hg => cases hv; exact mi_len_a hx hb hK hR h0 hg (Or.inr (Or.inl rfl)) hd (kk H locs cells slots hR hS hn0 hs0)
      · next x hg => cases hv; exact mi_len_a hx hb hK hR h0 hg (Or.inr (Or.inr rfl)) hd (kk H locs cells slots hR hS hn0 hs0)
      · cases hv
  · next t n r =>
    split at hi
    · cases hi
    · next hc =>
      obtain ⟨x, hz, e1⟩ := Option.map_eq_some_iff.mp hi
      cases e1
      have z1 : h.1 + 1 ≤ n0 + R.cells := hRc
      have z2 : h.2.1 + n.toNatClampNeg ≤ s0 + R.slots := hRs
      refine mi_newa hx hb hts har hK hR hS hz (fun z => hc (Or.inl z)) (Nat.not_lt.mp fun z => hc (Or.inr z)) (by omega) (by omega) hd (fun H1 r1 r2 => kk H1 locs _ _ r1 r2 ?_ ?_)
      · show n0 + (cells + 1) = h.1 + 1; omega
      · show s0 + (slots + n.toNatClampNeg) = h.2.1 + n.toNatClampNeg; omega
  · next ix =>
    obtain ⟨ci, hz, e1⟩ := Option.map_eq_some_iff.mp hi
    cases e1
    obtain ⟨C, T, hc, hlk⟩ := hpl.2.1 ix ci hz
    have z1 : h.1 + 1 ≤ n0 + R.cells := hRc
    have z2 : h.2.1 + mi_nf P ci ≤ s0 + R.slots := hRs
    refine mi_newo hx hb hts hcl hown hK hR hS hc hlk (by omega) (by omega) hd (fun H1 r1 r2 => kk H1 locs _ _ r1 r2 ?_ ?_)
    · show n0 + (cells + 1) = h.1 + 1; omega
    · show s0 + (slots + mi_nf P ci) = h.2.1 + mi_nf P ci; omega
  · split at hi
    · next x hz => cases hi; exact lv_ldc hx hb hown (hts _ (hpl.2.2.1 _ x hz)) hd (kk H locs cells slots hR hS hn0 hs0)
    · next t hz =>
      cases hi
      obtain ⟨text, hv⟩ := hstr _ t hz
      exact va_ldcS hx hb hown hv hd (kk H locs cells slots hR hS hn0 hs0)
    · cases hi
  · split at hi
    · next x hz => cases hi; exact lv_ldcw hx hb hown (hts _ (hpl.2.2.1 _ x hz)) hd (kk H locs cells slots hR hS hn0 hs0)
    · cases hi
  · split at hi
    · next x hz => cases hi; exact lv_ldc2 hx hb hown (hts _ (hpl.2.2.2 _ x hz)) hd (kk H locs cells slots hR hS hn0 hs0)
    · cases hi
  · cases hi
end MiStep
end
section
/-! Throws and catches, as the small machine takes them: a throw makes just one cell (vx_throwS of the names, its size said exactly); own rows on catching. -/
section MiThrow
variable {p : Program} {l : Launch} {e : Env} {R : Room} {s : State} {m : MethodId} {args : Array Value} {below : List Frame} {meth : Method} {c : Code} {H : Heap} {locs : List Loc} {cells slots : Nat} {Q : State → Prop}
variable {mc ms : Nat} {free : Addr → Prop} {A0 A1 : Nat → Prop} {H0 : Heap} {a : Array Value} {ls : Array Slot} {st0 rest : List Value}
variable {Qc : Array Value → State → Outcome → State → Prop} {XC : String → State → State → Prop}
theorem mi_throwS {cc : ByteArray} {pc : Nat} (hexec : p.tables.exec = Jvm.exec) (hb : c.code = cc) (hl : l.stackTraces = false) {own cls text : String} {names : List String} {ik is ic mc ms sa : Nat} {A : Nat → Prop}
    (hown : s.vm.findClass own = some m.cls) (hcls : Bundle.fit cls = true) (hnames : ∀ n ∈ names, Bundle.fit n = true)
    (hk : (Cond.classLink own ik cls).before args s = true) (hini : (Cond.initialized cls).before args s = true) (hstr : vk_R own is text sa s) (hat : ∀ w ∈ vx_atS own ic cls names, w.before args s = true)
    (hgood : ∀ w ∈ Cond.classLink own ik cls :: Cond.initialized cls :: vx_atS own ic cls names, vx_ot w = true)
    (hU : vx_Zq Bundle.tN "UNASSIGNED_STACK" Bundle.steD A s s.heap) (hN : vx_Zq Bundle.tN "SUPPRESSED_SENTINEL" Bundle.listD A s s.heap) (hS : va_S A s.heap H locs) (hsize : ls.size = c.maxLocals)
    (d0 : decode cc pc = .ok (.new ik, 3)) (d3 : decode cc (pc + 3) = .ok (.dup, 1)) (d4 : decode cc (pc + 4) = .ok (.ldc is, 2)) (d6 : decode cc (pc + 6) = .ok (.invokespecial ic, 3)) (d9 : decode cc (pc + 9) = .ok (.athrow, 1))
    (hout : ∀ x ∈ c.exceptionTable.toList, covers x (pc + 9) = false)
    (hRframes : names.length + 3 < R.frames) (hRlocals : (rest.map fun v => v.category).sum + (13 * (names.length + 1) + 43) ≤ R.locals) (hRcells : cells + 1 ≤ R.cells) (hRslots : slots + 6 ≤ R.slots) (hlocks : meth.locks = false)
    (hx : ∀ t : State, s.vm.Alike t.vm → t.heap.size = H.size + 1 → (∀ q : Nat, q < H.size → t.heap[q]? = H[q]?) → XC cls s t)
    (hf : ∀ z ∈ locs, free z.base) (hc : cells + 1 ≤ mc) (hs : slots + 6 ≤ ms) :
    W p l e R s m args below meth c H locs cells slots (vx_MQ below Qc XC args s mc ms free) (F0 m pc ls rest) := by
  intro T hT X
  have htr : e.platform.stackTraces = false := (show e.platform.stackTraces = l.stackTraces by rw [X.admits.platform]).trans hl
  have Y := vx_rebase X (R' := { frames := R.frames, locals := R.locals, cells := 1, slots := 6 }) (Nat.le_refl _) (Nat.le_refl _) hRcells hRslots
  obtain ⟨s', hA⟩ : ∃ z, z = (T.setVm s.vm).setFrames (.invoking m args :: below) := ⟨_, rfl⟩
  rw [← hA] at Y
  have hvm : s'.vm = s.vm := by rw [hA]; rfl
  have hhp : s'.heap = H := by rw [hA]; exact hT
  have hW0 : s.WarmedH s'.vm := by rw [hvm]; exact State.WarmedH.refl s
  have hat' : ∀ w ∈ vx_atS own ic cls names, w.before args s' = true := fun w hw => vx_ot_at hW0 hvm.symm (hgood w (List.mem_cons_of_mem _ (List.mem_cons_of_mem _ hw))) (hat w hw)
  have hk' : (Cond.classLink own ik cls).before args s' = true := vx_ot_at hW0 hvm.symm (hgood _ List.mem_cons_self) hk
  have hini' : (Cond.initialized cls).before args s' = true := vx_ot_at hW0 hvm.symm (hgood _ (List.mem_cons_of_mem _ List.mem_cons_self)) hini
  have hU' : vx_Zq Bundle.tN "UNASSIGNED_STACK" Bundle.steD A s' s'.heap := by rw [hhp]; exact vx_Zq.moved hW0.alike (hU.kept hS.2.1)
  have hN' : vx_Zq Bundle.tN "SUPPRESSED_SENTINEL" Bundle.listD A s' s'.heap := by rw [hhp]; exact vx_Zq.moved hW0.alike (hN.kept hS.2.1)
  have h : ∀ w ∈ Bundle.ownAtoms own ic cls names, w.before args s' = true := vx_own hat' (vx_isRefq hU'.1) (vx_isRefq hN'.1) hU'.2.word hN'.2.word
  have hown' : s'.vm.findClass own = some m.cls := by rw [hvm]; exact hown
  have hins : (Cond.instantiable cls 6).before args s' = true := h _ (by simp [Bundle.ownAtoms])
  obtain ⟨vm₁, cX, kX, hfX, hkX, -, -, X₁, st1⟩ := Y.newCold hexec (own := own) (C := cls) (index := ik) (n := 6) hown' hk' hins hini'
    (g := F0 m pc ls rest) rfl (by rw [hb]; exact d0) (Nat.le_refl _) (Nat.le_refl _)
  generalize hT1 : (T.setVm vm₁).pushCell { cls := cX, slots := kX.instanceTypes.map defaultValue, vm := .none } = T1 at X₁ st1
  have hcat : (Value.ref T.heap.size).category = 1 := rfl
  have hcellA : T1.heap[T.heap.size]? = some (freshCell cX kX) := by rw [← hT1]; exact State.heap_pushCell_size _ _
  have d3' : decode c.code (pc + 3) = .ok (.dup, 1) := by rw [hb]; exact d3
  have d4' : decode c.code (pc + 4) = .ok (.ldc is, 2) := by rw [hb]; exact d4
  have hstr' : vk_R own is text sa s' := vk_R.warm hW0 hstr
  obtain ⟨U, hsteps, hrun, hend, hW, hsame, ce, hce, hO⟩ := X₁.ctorThrowS hexec htr (own := own) (cls := cls) (names := names) (ic := ic) hown' hcls hnames h (fun x hx => nomatch hx) hfX hkX hcellA (by rw [hhp, hT]; exact Nat.le_refl _) (msg := .ref sa) rfl
    (g := { method := m, pc := pc + 6, locals := ls, stack := .ref sa :: .ref T.heap.size :: .ref T.heap.size :: rest, locked := none }) rfl hsize rfl rfl (rest := rest) rfl
    (by rw [hb]; exact d6) (by rw [hb]; exact d9) hout hRframes (by simp only [List.map_cons, List.sum_cons, hcat]; omega) hlocks
  have g1 : U.heap.size ≤ s'.heap.size + (0 + 1) := hsame.2.2.1
  have g2 : T.heap.size < U.heap.size := (Array.getElem?_eq_some_iff.mp hce).1
  obtain ⟨f1, f2⟩ := vx_frame hsame
  rw [hhp] at f1 f2 g1
  rw [hT] at g2
  have g3 : U.heap.size = H.size + 1 := by omega
  have hWs : s.WarmedH U.vm := State.WarmedH.trans hW0 hW
  have hcl : s.vm.findClass cls = some ce.cls := by
    have h9 := hO.cls
    rw [hvm] at h9
    exact h9
  have hall : s.sameButNew ({ U with vm := s.vm } : State) locs mc ms := by
    subst hA
    obtain ⟨e1, e2⟩ := hsame
    rw [State.setFrames_setFrames] at e1
    have h2 : (T.setVm s.vm).sameButNew ({ U with vm := s.vm } : State) [] (0 + 1) (0 + 6) := ⟨e1, e2⟩
    have h3 := X.same.trans h2
    rw [List.append_nil] at h3
    exact h3.mono hc hs
  refine ⟨U, ?_, .threw T.heap.size, hrun, hend, Or.inr ⟨T.heap.size, rfl, cls, ce, locs, hx U hWs.alike g3 (fun q hq => f2 q hq (fun z hz => nomatch hz)), hce, hO.vm, hcl, hWs, hall, hf⟩⟩
  refine st1 _ ?_
  show Steps p.tables e below (T1.setTop { method := m, pc := pc + 3, locals := ls, stack := .ref T.heap.size :: rest, locked := none }) _
  jvm_step X₁.here [X₁.here.top, hexec, d3', Value.category]
  exact X₁.ldcString hexec (own := own) (text := text) (index := is) (a := sa) hown' hstr'.1 hstr'.2
    (g := { method := m, pc := pc + 4, locals := ls, stack := .ref T.heap.size :: .ref T.heap.size :: rest, locked := none }) rfl d4' _ hsteps
end MiThrow
/-- one row of a table whose place is a link -/
theorem mi_link {Q : Handler → Pre} {E : CtlPost} {e : Env} {d : Bool} {acts : List Action} {s : State} {f : JFrame} {a : Addr} {x : ExceptionTableEntry} {t : List ExceptionTableEntry} {c : ClassId} {cell : Cell} (hx : covers x f.pc = true) (h0 : x.catchType ≠ 0)
    (hl : s.vm.ClassLinks e.platform f.method.cls x.catchType c) (hcell : s.heap[a]? = some cell) (hobj : ∀ k, cell.vm ≠ .statics k)
    (hk : ∃ k, s.vm.classes[cell.cls]? = some k) (hc : ∃ k, s.vm.classes[c]? = some k) :
    wp (findHandler.go f a (x :: t)) Q E e d acts s ↔ if s.vm.assignable cell.cls c = true then Q (.found x.handlerPc) d acts (s.setVm (s.vm.noted f.method.cls x.catchType (.cls c))) else wp (findHandler.go f a t) Q E e d acts (s.setVm (s.vm.noted f.method.cls x.catchType (.cls c))) := by
  simp only [covers] at hx
  obtain ⟨ha, ht⟩ := (resolveClass_links e.toSetting hl).op (op := VmOp.resolveClass f.method.cls x.catchType) rfl
  have hal : s.vm.Alike (s.vm.noted f.method.cls x.catchType (.cls c)) := (Vm.Alike.refl s.vm).noted _ _ _
  obtain ⟨k1, hk1⟩ := hk
  obtain ⟨k2, hk2⟩ := hc
  obtain ⟨k1', hk1', -⟩ := hal.2.2 _ _ hk1
  obtain ⟨k2', hk2', -⟩ := hal.2.2 _ _ hk2
  have he : (s.vm.noted f.method.cls x.catchType (.cls c)).assignable cell.cls c = s.vm.assignable cell.cls c := hal.assignable ..
  cases hfit : s.vm.assignable cell.cls c <;>
    (rw [hfit] at he; simp [findHandler.go, hx, h0, ha, ht, hcell, hobj, hk1', hk2', he, VmOp.dirties, VmOp.acts])
theorem mi_search {e : Env} {s₀ : State} {f : JFrame} {a : Addr} {cell : Cell} (hobj : ∀ k, cell.vm ≠ .statics k) (hk0 : ∃ k, s₀.vm.classes[cell.cls]? = some k)
    (x : ExceptionTableEntry) (rest : List ExceptionTableEntry) (hx : covers x f.pc = true) (h0 : x.catchType ≠ 0) {cx : ClassId} (hl : s₀.vm.ClassLinks e.platform f.method.cls x.catchType cx) (hfit : s₀.vm.assignable cell.cls cx = true) :
    ∀ (pre : List ExceptionTableEntry) (S : State), s₀.WarmedH S.vm → S.heap[a]? = some cell → (∀ y ∈ pre, covers y f.pc = false ∨ (y.catchType ≠ 0 ∧ ∃ c, s₀.vm.ClassLinks e.platform f.method.cls y.catchType c ∧ s₀.vm.assignable cell.cls c = false)) →
      ∃ vm', s₀.WarmedH vm' ∧ ∀ (Q : Handler → Pre) (E : CtlPost) (d : Bool) (acts : List Action), wp (findHandler.go f a (pre ++ x :: rest)) Q E e d acts S ↔ Q (.found x.handlerPc) d acts (S.setVm vm') := by
  obtain ⟨k0, hk0⟩ := hk0
  intro pre
  induction pre with
  | nil =>
    intro S hW hcell _
    obtain ⟨k0', hk0', -⟩ := hW.alike.2.2 _ _ hk0
    obtain ⟨dk, _, _, kt, hd, _, _, _, _, hkt, _, hopen⟩ := hl.here
    obtain ⟨kt', hkt', -⟩ := hW.alike.2.2 _ _ hkt
    refine ⟨_, hW.noted hd hopen (State.rightAt_cls hl), fun Q E d acts => ?_⟩
    rw [List.nil_append, mi_link hx h0 (hW.classLinks hl) hcell hobj ⟨k0', hk0'⟩ ⟨kt', hkt'⟩, if_pos (by rw [hW.alike.assignable]; exact hfit)]
  | cons y ys ih =>
    intro S hW hcell hpass
    obtain ⟨k0', hk0', -⟩ := hW.alike.2.2 _ _ hk0
    by_cases hcov : covers y f.pc = true
    · rcases hpass y (List.mem_cons_self ..) with h | ⟨h0, c, hly, hno⟩
      · rw [h] at hcov; cases hcov
      · obtain ⟨dk, _, _, kt, hd, _, _, _, _, hkt, _, hopen⟩ := hly.here
        obtain ⟨kt', hkt', -⟩ := hW.alike.2.2 _ _ hkt
        obtain ⟨vm', hW', hq⟩ := ih (S.setVm (S.vm.noted f.method.cls y.catchType (.cls c))) (hW.noted hd hopen (State.rightAt_cls hly)) hcell (fun z hz => hpass z (List.mem_cons_of_mem _ hz))
        refine ⟨vm', hW', fun Q E d acts => ?_⟩
        rw [List.cons_append, mi_link hcov h0 (hW.classLinks hly) hcell hobj ⟨k0', hk0'⟩ ⟨kt', hkt'⟩, if_neg (by rw [hW.alike.assignable, hno]; exact fun z => by cases z)]
        exact hq Q E d acts
    · obtain ⟨vm', hW', hq⟩ := ih S hW hcell (fun z hz => hpass z (List.mem_cons_of_mem _ hz))
      refine ⟨vm', hW', fun Q E d acts => ?_⟩
      rw [List.cons_append, W.findHandler_go_skip (by simpa using hcov)]
      exact hq Q E d acts
theorem mi_caughtTo {tb : Tables} {e : Env} {s target : State} {g : JFrame} {c : Code} {below : List Frame} {a : Addr} (h : At s g.method c below) {pc : Nat} {vm' : Vm}
    (hfind : ∀ (Q : Handler → Pre) (E : CtlPost) (d : Bool) (acts : List Action), wp (findHandler g a) Q E e d acts ((s.setTop g).pushFrame (.throwing a)) ↔ Q (.found pc) d acts (((s.setTop g).pushFrame (.throwing a)).setVm vm'))
    (hrest : Steps tb e below ((s.setVm vm').setTop { g with pc := pc, stack := [.ref a] }) target) : Steps tb e below ((s.setTop g).pushFrame (.throwing a)) target := by
  obtain ⟨hgo, hw⟩ := h.throwing a
  refine Steps.head hgo hw ?_
  obtain ⟨g₀, hg⟩ := Option.isSome_iff_exists.mp h.top
  obtain ⟨r, hr⟩ := State.topJava?_eq_some.mp hg
  have hst : (stepThrowing e ((s.setTop g).pushFrame (.throwing a)) a (.java g :: s.frames.tail)).Is ((((s.setTop g).pushFrame (.throwing a)).setVm vm').setFrames (.java { g with pc := pc, stack := [.ref a] } :: s.frames.tail)) [] := by
    simp only [stepThrowing, searchFrame, vmDo]
    generalize hres : Sem.go _ e false [] ((s.setTop g).pushFrame (.throwing a)) = res
    obtain ⟨as, rfl, ha⟩ := Sem.eq_ok_of hres (a := Handler.found pc) (s' := ((s.setTop g).pushFrame (.throwing a)).setVm vm') (acts' := []) (by simp [hfind _ _ _ _])
    exact ⟨rfl, ha⟩
  rw [stepThread_throwing (frames_entered h.top _), hst.1]
  have hr' : (s.setVm vm').frames = .java g₀ :: r := hr
  rw [State.setTop_of_frames _ hr'] at hrest
  rw [hr]
  have e1 : (((s.setTop g).pushFrame (.throwing a)).setVm vm').setFrames (.java { g with pc := pc, stack := [.ref a] } :: (Frame.java g₀ :: r).tail) = (s.setVm vm').setFrames (.java { g with pc := pc, stack := [.ref a] } :: r) := by
    rw [State.pushFrame, State.setTop_of_frames _ hr]
    show ((((s.setVm vm').setFrames _).setFrames _).setFrames _) = _
    rw [State.setFrames_setFrames, State.setFrames_setFrames]
    rfl
  rw [e1]
  exact hrest
end
section
/-! Calls of the small machine: contracts, and what a call comes to. -/
/-- words that stay true in warmer tables -/
def mi_wk (w : Cond) : Bool := goodWord w || (match w with
  | .castable _ _ => true
  | .methodLinkNest _ _ _ _ => true
  | .declares _ => true
  | _ => false)
theorem mi_wk_ok {w : Cond} {s U : State} {A A' : Array Value} (hg : mi_wk w = true) (hW : s.WarmedH U.vm) (h : w.before A s = true) : w.before A' U = true := by
  by_cases hG : goodWord w = true
  · exact word_at hW (good_of_word hG) h
  · unfold mi_wk at hg
    rw [Bool.or_eq_true] at hg
    rcases hg with hg | hg
    · exact absurd hg hG
    · split at hg
      · exact va_Nw.use rfl (va_Nw.warmC hW (va_Nw.of rfl h))
      · exact va_Nw.use rfl (va_Nw.warmM hW (va_Nw.of rfl h))
      · exact va_Nw.use rfl (va_Nw.warmD hW (va_Nw.of rfl h))
      · cases hg
/-- what a throw needs of the start: two statics of Throwable, the texts -/
def mi_Z (b : Nat → Nat) (B : Nat) (SK : List (String × Nat × String × Nat)) (NC : List (String × String)) (ZT : State → Prop) (U : State) : Prop :=
  vx_Zq Bundle.tN "UNASSIGNED_STACK" Bundle.steD (fun q => B ≤ q) U U.heap ∧ vx_Zq Bundle.tN "SUPPRESSED_SENTINEL" Bundle.listD (fun q => B ≤ q) U U.heap ∧ (∀ q ∈ SK, vk_R q.1 q.2.1 q.2.2.1 (b (q.2.2.2 + 1)) U) ∧ (∀ q ∈ NC, va_Nc q.1 q.2 U) ∧ ZT U
/-- what is said of the texts stays true while old cells stay -/
def mi_sta (B : Nat) (ZT : State → Prop) : Prop := ∀ (s U : State) (H : Heap) (locs : List Loc), ZT s → va_S (fun q => B ≤ q) s.heap H locs → U.heap = H → s.WarmedH U.vm → ZT U
theorem mi_Z.next {b : Nat → Nat} {B : Nat} {SK : List (String × Nat × String × Nat)} {NC : List (String × String)} {ZT : State → Prop} {s U : State} {H : Heap} {locs : List Loc} (hZT : mi_sta B ZT) (hz : mi_Z b B SK NC ZT s) (hS : va_S (fun q => B ≤ q) s.heap H locs) (hU : U.heap = H) (hW : s.WarmedH U.vm) : mi_Z b B SK NC ZT U := by
  refine ⟨?_, ?_, fun q hq => vk_R.warm hW (hz.2.2.1 q hq), fun q hq => va_Nc.moved hW.alike (hz.2.2.2.1 q hq), hZT s U H locs hz.2.2.2.2 hS hU hW⟩
  · rw [hU]; exact vx_Zq.moved hW.alike (hz.1.kept hS.2.1)
  · rw [hU]; exact vx_Zq.moved hW.alike (hz.2.1.kept hS.2.1)
section MiMet
variable (D : va_G) (cl : List vw_C) (tA : FieldType → ClassId) (b : Nat → Nat) (B L : Nat) (xs : Nat → Int32) (SK : List (String × Nat × String × Nat)) (NC : List (String × String)) (ZT : State → Prop) (GT : List Cond) (P : mi_P)
/-- a method's start: its arguments, the heap -/
def mi_Pc (as : List Value) (h : mi_H) : Array Value → State → Prop := fun v U =>
  v = (as.map (mi_v b B)).toArray ∧ mi_R D cl tA b B h U.heap ∧ va_K D cl (mi_tys tA) U ∧ va_X (b 0) L xs U U.heap ∧ b 0 < U.heap.size ∧ mi_Z b B SK NC ZT U
def mi_QO (o : mi_O) (h : mi_H) : Array Value → State → Outcome → State → Prop := fun _ st oc t => ∃ v : Option Value, o = .inl v ∧ oc = .returned (v.map (mi_v b B)) ∧ mi_R D cl tA b B h t.heap ∧ va_F (fun q => B ≤ q) st t
def mi_XO (o : mi_O) (h : mi_H) : String → State → State → Prop := fun E st t => o = .inr E ∧ mi_R D cl tA b B h t.heap ∧ va_F (fun q => B ≤ q) st t
def mi_cw (j : Nat) : Cond := if (mi_hh P j).isEmpty = true then .code (mi_nm P j) (mi_cd P j) (mi_mx P j) (mi_rt P j) else .codeWith (mi_nm P j) (mi_cd P j) (mi_mx P j) (mi_rt P j) (mi_hh P j)
def mi_ws (j : Nat) : List Cond := mi_cw P j :: GT
def mi_rm (d : Nat) (h h' : mi_H) : Room := { frames := 10 + d, cells := h'.1 - h.1, slots := h'.2.1 - h.2.1, locals := 200 + 64 * d }
/-- the contract of a call that the small machine has run -/
def mi_Met (l : Launch) (d j : Nat) (as : List Value) (h : mi_H) (o : mi_O) (h' : mi_H) : Prop :=
  vx_Met l (mi_nm P j) (mi_ws GT P j) (mi_rm d h h') (mi_Pc D cl tA b B L xs SK NC ZT as h) (mi_QO D cl tA b B o h') (mi_XO D cl tA b B o h') (h'.1 - h.1) (h'.2.1 - h.2.1) (fun q => B ≤ q)
end MiMet
section MiCall
variable {p : Program} {l : Launch} {e : Env} {R : Room} {s : State} {m : MethodId} {args : Array Value} {below : List Frame} {meth : Method} {c : Code} {H : Heap} {locs : List Loc} {cells slots : Nat} {Q : State → Prop}
variable {cc : ByteArray} {pc nL : Nat} {ls : Array Slot} {b : Nat → Nat} {B : Nat} {D : va_G} {cl : List vw_C} {tA : FieldType → ClassId} {GT : List Cond} {P : mi_P} {L : Nat} {xs : Nat → Int32} {SK : List (String × Nat × String × Nat)} {NC : List (String × String)} {ZT : State → Prop} {h h' : mi_H} {o : mi_O} {r : List Value}
theorem mi_blind (hZT : mi_sta B ZT) (as : List Value) : FrameBlind (mi_Pc D cl tA b B L xs SK NC ZT as h) := by
  intro a U g mk hp
  obtain ⟨h1, h2, h3, h4, h5, h6⟩ := hp
  refine ⟨h1, h2, va_K.moved (u := U) (U := U.calling g mk a) (Vm.Alike.refl U.vm) h3, va_X.moved (u := U) (U := U.calling g mk a) (Vm.Alike.refl U.vm) h4, h5, ?_⟩
  exact mi_Z.next (H := U.heap) (locs := []) hZT h6 va_S.rf rfl (State.WarmedH.refl U)
theorem mi_pre (hZT : mi_sta B ZT) (hK : va_K D cl (mi_tys tA) s) (hX : va_X (b 0) L xs s s.heap) (hbl : b 0 < s.heap.size) (hbB : b 0 < B) (hZ : mi_Z b B SK NC ZT s) (hR : mi_R D cl tA b B h H) (hS : va_S (fun q => B ≤ q) s.heap H locs) (as : List Value) (U : State) (hU : U.heap = H) (hW : s.WarmedH U.vm) : mi_Pc D cl tA b B L xs SK NC ZT as h (as.map (mi_v b B)).toArray U := by
  refine ⟨rfl, by rw [hU]; exact hR, va_K.moved hW.alike hK, ?_, by rw [hU]; exact Nat.lt_of_lt_of_le hbl hS.1, mi_Z.next hZT hZ hS hU hW⟩
  rw [hU]
  exact va_X.moved hW.alike (hX.kept (hS.2.1 (b 0) hbl (Nat.not_le.mpr hbB)))
/-- a call that returns or throws, as the small machine has run it -/
theorem mi_after {mc ms : Nat} {a : Array Value} {st0 : List Value} (hr : vx_Run p l e R s m args below meth c H locs cells slots mc ms (F0 m pc ls st0) (r.map (mi_v b B)) (mi_QO D cl tA b B o h' a) (mi_XO D cl tA b B o h') (fun q => B ≤ q)) (hS : va_S (fun q => B ≤ q) s.heap H locs)
    (kx : ∀ (E : String) (ce : Cell) (q : Addr) (H1 : Heap) (locs1 : List Loc), o = .inr E → mi_R D cl tA b B h' H1 → va_S (fun q => B ≤ q) s.heap H1 locs1 → H1[q]? = some ce → ce.vm = .none → s.vm.findClass E = some ce.cls → vx_W p l e R s m args below meth c H1 locs1 (cells + mc) (slots + ms) Q (F0 m pc ls (r.map (mi_v b B))) q)
    (kk : ∀ (v : Option Value) (H1 : Heap) (locs1 : List Loc), o = .inl v → mi_R D cl tA b B h' H1 → va_S (fun q => B ≤ q) s.heap H1 locs1 → W p l e R s m args below meth c H1 locs1 (cells + mc) (slots + ms) Q (F0 m (pc + 3) ls ((v.toList ++ r).map (mi_v b B)))) : W p l e R s m args below meth c H locs cells slots Q (F0 m pc ls st0) := by
  intro T hT X
  rcases hr T hT X with ⟨v, st₀, t, T', L', h0, X', hL, e1, e2, ⟨v2, ho, hv, hR1, hF⟩, st⟩ | ⟨q, st₀, t, T', L', E, ce, h0, X', hL, e1, e2, ⟨ho, hR1, hF⟩, hce, hcv, hcl, st⟩
  · cases hv
    obtain ⟨k1, k2, k3⟩ := vx_keep h0 e1 hS (fun _ _ z => z) (fun _ z => z) hL hF
    have hst : (v2.map (mi_v b B)).toList ++ r.map (mi_v b B) = (v2.toList ++ r).map (mi_v b B) := by cases v2 <;> simp
    obtain ⟨t2, a1, b1⟩ := kk v2 T'.heap (locs ++ L') ho (by rw [e1]; exact hR1) k3 T' rfl X'
    refine ⟨t2, st t2 ?_, b1⟩
    have e9 : ({ F0 m pc ls st0 with pc := (F0 m pc ls st0).pc + 3, stack := (v2.map (mi_v b B)).toList ++ r.map (mi_v b B) } : JFrame) = F0 m (pc + 3) ls ((v2.toList ++ r).map (mi_v b B)) := by rw [hst]
    rw [e9]
    exact a1
  · obtain ⟨k1, k2, k3⟩ := vx_keep h0 e1 hS (fun _ _ z => z) (fun _ z => z) hL hF
    obtain ⟨t2, a1, b1⟩ := kx E ce q T'.heap (locs ++ L') ho (by rw [e1]; exact hR1) k3 (by rw [e1]; exact hce) hcv hcl T' rfl X'
    exact ⟨t2, st.trans a1, b1⟩
/-- a contract that cannot throw is one of the elder kind -/
theorem mi_noX {y : MethodName} {ws : List Cond} {rm : Room} {Pc : Array Value → State → Prop} {v : Option Value} {mc ms : Nat} {free : Addr → Prop} (hM : vx_Met l y ws rm Pc (mi_QO D cl tA b B (.inl v) h') (mi_XO D cl tA b B (.inl v) h') mc ms free) : Met l y ws rm Pc (mi_QO D cl tA b B (.inl v) h') mc ms free := by
  intro p e ha hc hk s m args below hf happ hP hK
  obtain ⟨n, o, h1, h2, h3, h4⟩ := hM p e ha hc hk s m args below hf happ hP hK
  refine ⟨n, o, h1, h2, h3, ?_⟩
  rcases h4 with h4 | ⟨q, -, E, ce, L', ⟨hx, -⟩, -⟩
  · exact h4
  · cases hx
theorem mi_vaRun {mc ms : Nat} {g : JFrame} {rest : List Value} {Qa : State → Outcome → State → Prop} {XC : String → State → State → Prop} {free : Addr → Prop} (hr : va_Run p l e R s m args below meth c H locs cells slots mc ms g rest Qa free) : vx_Run p l e R s m args below meth c H locs cells slots mc ms g rest Qa XC free := by
  intro T hT X
  exact Or.inl (hr T hT X)
end MiCall
end
section
/-! The small machine's step and run. -/
def mi_sub (lv : mi_L) (i : Nat) : mi_L := lv.filter (fun q => !(q.1 == i) && !(q.1 + 1 == i && q.2.category == 2))
def mi_wt (st : List Value) : Nat := (st.map fun v => v.category).sum
def mi_ret (rt : Option FieldType) (i : Instr) (st : List Value) : Option (Option Value) := match i, st with
  | .ireturn, [.int x] => match rt with
    | some .int => some (some (.int x))
    | some .boolean => if mi_fit .boolean (.int x) = true then some (some (.int x)) else none
    | _ => none
  | .lreturn, [.long x] => match rt with
    | some .long => some (some (.long x))
    | _ => none
  | .areturn, [.ref a] => match rt with
    | some (.object _) => some (some (.ref a))
    | _ => none
  | .areturn, [.retAddr t] => match rt with
    | some (.object _) => some (some (.retAddr t))
    | _ => none
  | .return_, [] => match rt with
    | none => some none
    | _ => none
  | _, _ => none
/-- a call's place: the method, its kind (0 virtual, 1 static, 2 a constructor, 3 Object's, 4 a nest mate's static, 5 a static with handlers, 6 a member of a text), how many arguments -/
def mi_site (P : mi_P) (j : Nat) (i : Instr) : Option (Nat × Nat × Nat × Nat) := match i with
  | .invokevirtual ix => match mi_iv P j ix with
    | some (k, kind, n) => if kind = 0 ∨ kind = 6 then some (k, kind, n, ix) else none
    | none => none
  | .invokestatic ix => match mi_iv P j ix with
    | some (k, kind, n) => if kind = 1 ∨ kind = 4 ∨ kind = 5 then some (k, kind, n, ix) else none
    | none => none
  | .invokespecial ix => match mi_iv P j ix with
    | some (k, kind, n) => if kind = 2 ∨ kind = 3 then some (k, kind, n, ix) else none
    | none => none
  | _ => none
def mi_cargs (kind n : Nat) (st : List Value) : Option (List Value × List Value) :=
  if kind = 0 ∨ kind = 2 then (match st.drop n with
    | .ref a :: r => some (.ref a :: (st.take n).reverse, r)
    | _ => none)
  else if n ≤ st.length then some ((st.take n).reverse, st.drop n) else none
def mi_rc (P : mi_P) (k : Nat) (h : mi_H) (as : List Value) : Bool := match as with
  | .ref a :: _ => match mi_get h a with
    | some (.inr (ci, _)) => decide (a ≠ 0) && decide (ci = mi_kc P k)
    | _ => false
  | _ => false
abbrev mi_S : Type := (Nat × mi_L × List Value × mi_H) ⊕ (mi_O × mi_H)
abbrev mi_C : Type := Nat → List Value → mi_H → Option (mi_O × mi_H)
/-- a member of a text: its arguments, what is below -/
def mi_targs (n : Nat) (st : List Value) : Option (Nat × List Value × List Value) := match st.drop n with
  | .retAddr t :: r => some (t, (st.take n).reverse, r)
  | _ => none
/-- a throw comes back from a call -/
def mi_exc (P : mi_P) (j pc : Nat) (lv : mi_L) (E : String) (g : mi_H) : Option mi_S := match mi_ca P j pc E with
  | none => if (mi_hh P j).isEmpty = true then some (.inr (.inr E, g)) else none
  | some hp => match mi_is P j hp with
    | some (.astore_n q) => if (q : Nat) < mi_mx P j then some (.inl (hp + 1, mi_sub lv (q : Nat), [], g)) else none
    | some (.astore q) => if q < mi_mx P j then some (.inl (hp + 2, mi_sub lv q, [], g)) else none
    | _ => none
def mi_inv (P : mi_P) (call : mi_C) (j : Nat) (i : Instr) (pc : Nat) (lv : mi_L) (st : List Value) (h : mi_H) : Option mi_S := match mi_site P j i with
  | none => none
  | some (k, kind, n, _) =>
    if kind = 3 then (match st with
      | .ref _ :: r => if mi_wt r ≤ 8 then some (.inl (pc + 3, lv, r, h)) else none
      | _ => none)
    else if kind = 6 then (match mi_targs n st with
      | some (t, as, r) => if mi_wt r ≤ 8 then (match mi_pr P k (.retAddr t :: as) with
        | some v => some (.inl (pc + 3, lv, v :: r, h))
        | none => none) else none
      | none => none)
    else match mi_cargs kind n st with
      | none => none
      | some (as, r) => if mi_wt r ≤ 8 ∧ (kind = 0 → mi_rc P k h as = true) then (match call k as h with
          | none => none
          | some (.inl v, g) => some (.inl (pc + 3, lv, v.toList ++ r, g))
          | some (.inr E, g) => if kind = 2 ∨ kind = 4 then none else mi_exc P j pc lv E g)
        else none
/-- a thing of which nothing is known -/
def mi_dead : mi_E := .inr (1000000, [])
def mi_step (P : mi_P) (L : Nat) (xs : Nat → Int32) (call : mi_C) (j pc : Nat) (lv : mi_L) (st : List Value) (h : mi_H) : Option mi_S := match mi_th P j pc with
  | some E => if st.isEmpty = true then some (.inr (.inr E, mi_push h 6 mi_dead)) else none
  | none => match mi_is P j pc with
    | none => none
    | some i => match mi_pure i st with
      | some st' => some (.inl (pc + mi_len i, lv, st', h))
      | none => match mi_loc (mi_mx P j) i lv st with
        | some q => some (.inl (pc + mi_len i, q.1, q.2, h))
        | none => match mi_jmp i pc st with
          | some q => some (.inl (q.1, lv, q.2, h))
          | none => match mi_heap P L xs j i st h with
            | some q => some (.inl (pc + mi_len i, lv, q.1, q.2))
            | none => match mi_ret (mi_rt P j) i st with
              | some v => some (.inr (.inl v, h))
              | none => mi_inv P call j i pc lv st h
def mi_run (P : mi_P) (L : Nat) (xs : Nat → Int32) (call : mi_C) (j : Nat) : Nat → Nat → mi_L → List Value → mi_H → Option (mi_O × mi_H)
  | 0, _, _, _, _ => none
  | n + 1, pc, lv, st, h => match mi_step P L xs call j pc lv st h with
    | none => none
    | some (.inr o) => some o
    | some (.inl q) => mi_run P L xs call j n q.1 q.2.1 q.2.2.1 q.2.2.2
def mi_call (P : mi_P) (L : Nat) (xs : Nat → Int32) (fuel : Nat) : Nat → mi_C
  | 0, _, _, _ => none
  | d + 1, j, as, h => if mi_wt as ≤ mi_mx P j then mi_run P L xs (mi_call P L xs fuel d) j fuel 0 (lv_args 0 as) [] h else none
/-- cells and slots grow alone -/
def mi_le (h h' : mi_H) : Prop := h.1 ≤ h'.1 ∧ h.2.1 ≤ h'.2.1
theorem mi_le.rf (h : mi_H) : mi_le h h := ⟨Nat.le_refl _, Nat.le_refl _⟩
theorem mi_le.tr {h h1 h2 : mi_H} (a : mi_le h h1) (b : mi_le h1 h2) : mi_le h h2 := ⟨Nat.le_trans a.1 b.1, Nat.le_trans a.2 b.2⟩
theorem mi_heap_le {P : mi_P} {L : Nat} {xs : Nat → Int32} {j : Nat} {i : Instr} {st : List Value} {h : mi_H} {q : List Value × mi_H} (hi : mi_heap P L xs j i st h = some q) : mi_le h q.2 := by
  unfold mi_heap at hi
  split at hi
  · obtain ⟨v, -, e1⟩ := Option.map_eq_some_iff.mp hi; cases e1; exact mi_le.rf _
  · obtain ⟨v, hv, e1⟩ := Option.map_eq_some_iff.mp hi
    cases e1
    unfold mi_put_f at hv
    split at hv
    · split at hv
      · cases hv; exact mi_le.rf _
      · cases hv
    · cases hv
  · obtain ⟨v, -, e1⟩ := Option.map_eq_some_iff.mp hi; cases e1; exact mi_le.rf _
  · obtain ⟨v, -, e1⟩ := Option.map_eq_some_iff.mp hi; cases e1; exact mi_le.rf _
  · obtain ⟨v, -, e1⟩ := Option.map_eq_some_iff.mp hi; cases e1; exact mi_le.rf _
  · obtain ⟨v, hv, e1⟩ := Option.map_eq_some_iff.mp hi
    cases e1
    unfold mi_as_i4 at hv
    split at hv
    · split at hv
      · cases hv
      · cases hv; exact mi_le.rf _
    · cases hv
  · obtain ⟨v, hv, e1⟩ := Option.map_eq_some_iff.mp hi
    cases e1
    unfold mi_as_i8 at hv
    split at hv
    · split at hv
      · cases hv
      · cases hv; exact mi_le.rf _
    · cases hv
  · obtain ⟨v, hv, e1⟩ := Option.map_eq_some_iff.mp hi
    cases e1
    unfold mi_as_i1 at hv
    split at hv
    · split at hv
      · cases hv
      · split at hv
        · cases hv; exact mi_le.rf _
        · cases hv
    · cases hv
  · obtain ⟨v, -, e1⟩ := Option.map_eq_some_iff.mp hi; cases e1; exact mi_le.rf _
  · split at hi
    · cases hi
    · obtain ⟨v, -, e1⟩ := Option.map_eq_some_iff.mp hi; cases e1; exact ⟨Nat.le_succ _, Nat.le_add_right _ _⟩
  · obtain ⟨v, -, e1⟩ := Option.map_eq_some_iff.mp hi; cases e1; exact ⟨Nat.le_succ _, Nat.le_add_right _ _⟩
  · split at hi
    · cases hi; exact mi_le.rf _
    · cases hi; exact mi_le.rf _
    · cases hi
  · split at hi
    · cases hi; exact mi_le.rf _
    · cases hi
  · split at hi
    · cases hi; exact mi_le.rf _
    · cases hi
  · cases hi
def mi_snd (q : mi_S) : mi_H := match q with
  | .inl x => x.2.2.2
  | .inr x => x.2
theorem mi_exc_le {P : mi_P} {j pc : Nat} {lv : mi_L} {E : String} {g : mi_H} {q : mi_S} (h : mi_exc P j pc lv E g = some q) : mi_snd q = g := by
  unfold mi_exc at h
  split at h
  · split at h
    · cases h; rfl
    · cases h
  · split at h
    · split at h
      · cases h; rfl
      · cases h
    · split at h
      · cases h; rfl
      · cases h
    · cases h
theorem mi_inv_le {P : mi_P} {call : mi_C} {j : Nat} {i : Instr} {pc : Nat} {lv : mi_L} {st : List Value} {h : mi_H} {q : mi_S} (hc : ∀ k as g o g', call k as g = some (o, g') → mi_le g g') (hi : mi_inv P call j i pc lv st h = some q) : mi_le h (mi_snd q) := by
  unfold mi_inv at hi
  split at hi
  · cases hi
  · split at hi
    · split at hi
      · split at hi
        · cases hi; exact mi_le.rf _
        · cases hi
      · cases hi
    · split at hi
      · split at hi
        · split at hi
          · split at hi
            · cases hi; exact mi_le.rf _
            · cases hi
          · cases hi
        · cases hi
      · split at hi
        · cases hi
        · split at hi
          · split at hi
            · cases hi
            · next hcl => cases hi; exact hc _ _ _ _ _ hcl
            · next hcl =>
              split at hi
              · cases hi
              · rw [mi_exc_le hi]; exact hc _ _ _ _ _ hcl
          · cases hi
theorem mi_step_le {P : mi_P} {L : Nat} {xs : Nat → Int32} {call : mi_C} {j pc : Nat} {lv : mi_L} {st : List Value} {h : mi_H} {q : mi_S} (hc : ∀ k as g o g', call k as g = some (o, g') → mi_le g g') (hi : mi_step P L xs call j pc lv st h = some q) : mi_le h (mi_snd q) := by
  unfold mi_step at hi
  split at hi
  · split at hi
    · cases hi; exact ⟨Nat.le_succ _, Nat.le_add_right _ _⟩
    · cases hi
  · split at hi
    · cases hi
    · split at hi
      · cases hi; exact mi_le.rf _
      · split at hi
        · cases hi; exact mi_le.rf _
        · split at hi
          · cases hi; exact mi_le.rf _
          · split at hi
            · next hh => cases hi; exact mi_heap_le hh
            · split at hi
              · cases hi; exact mi_le.rf _
              · exact mi_inv_le hc hi
theorem mi_run_le {P : mi_P} {L : Nat} {xs : Nat → Int32} {call : mi_C} {j : Nat} (hc : ∀ k as g o g', call k as g = some (o, g') → mi_le g g') : ∀ (n pc : Nat) (lv : mi_L) (st : List Value) (h : mi_H) (o : mi_O) (h' : mi_H), mi_run P L xs call j n pc lv st h = some (o, h') → mi_le h h' := by
  intro n
  induction n with
  | zero => intro pc lv st h o h' hr; cases hr
  | succ n ih =>
    intro pc lv st h o h' hr
    unfold mi_run at hr
    split at hr
    · cases hr
    · next q hq => cases hr; exact mi_step_le hc hq
    · next q hq => exact (mi_step_le hc hq).tr (ih _ _ _ _ _ _ hr)
theorem mi_call_le {P : mi_P} {L : Nat} {xs : Nat → Int32} {fuel : Nat} : ∀ (d k : Nat) (as : List Value) (g : mi_H) (o : mi_O) (g' : mi_H), mi_call P L xs fuel d k as g = some (o, g') → mi_le g g' := by
  intro d
  induction d with
  | zero => intro k as g o g' h; cases h
  | succ d ih =>
    intro k as g o g' h
    unfold mi_call at h
    split at h
    · exact mi_run_le (fun k as g o g' h => ih k as g o g' h) _ _ _ _ _ _ _ h
    · cases h
end
section
/-! The machine does what the small machine does: calls, throws, whole methods. -/
/-- a call's place by its words -/
def mi_sok (GT : List Cond) (cl : List vw_C) (P : mi_P) (own : String) (ix k kind n : Nat) : Prop :=
  kind = 6 ∨ (kind = 3 ∧ Cond.methodLink own ix Lib.objectInit ∈ GT ∧ Cond.instanceMethod Lib.objectInit ∈ GT ∧ Cond.code Lib.objectInit ⟨#[0xb1]⟩ 1 none ∈ GT) ∨
  (kind ≠ 3 ∧ ((mi_nm P k).cls ≠ "java/lang/invoke/MethodHandle" ∧ (mi_nm P k).cls ≠ "java/lang/invoke/VarHandle") ∧ (parseMethodDescriptor (mi_nm P k).desc).map (fun d => d.parameters.length) = some n ∧ Cond.initialized (mi_nm P k).cls ∈ GT ∧ mi_cw P k ∈ GT ∧ mi_mx P k ≤ 45 ∧
    ((kind = 0 ∧ (mi_hh P k).isEmpty = true ∧ Cond.methodLink own ix (mi_nm P k) ∈ GT ∧ Cond.instanceMethod (mi_nm P k) ∈ GT ∧ Cond.selects (mi_nm P k).cls (mi_nm P k) (mi_nm P k) ∈ GT ∧ ∃ (T : u_T) (N : Nat), cl[mi_kc P k]? = some ((mi_nm P k).cls, T, N)) ∨
     (kind = 1 ∧ (mi_hh P k).isEmpty = true ∧ Cond.methodLink own ix (mi_nm P k) ∈ GT ∧ Cond.static (mi_nm P k) ∈ GT) ∨
     (kind = 2 ∧ (mi_hh P k).isEmpty = true ∧ Cond.methodLink own ix (mi_nm P k) ∈ GT ∧ Cond.instanceMethod (mi_nm P k) ∈ GT ∧ (mi_nm P k).name = "<init>" ∧ mi_rt P k = none) ∨
     (kind = 4 ∧ (mi_hh P k).isEmpty = true ∧ (∃ host, Cond.methodLinkNest own ix (mi_nm P k) host ∈ GT) ∧ Cond.static (mi_nm P k) ∈ GT) ∨
     (kind = 5 ∧ (mi_hh P k).isEmpty = false ∧ Cond.methodLink own ix (mi_nm P k) ∈ GT ∧ Cond.static (mi_nm P k) ∈ GT)))
/-- a catch by its words -/
def mi_cok (GT : List Cond) (P : mi_P) (NC : List (String × String)) (j pc : Nat) (E : String) (hp : Nat) : Prop :=
  ∃ (pre : List ExceptionTableEntry) (x : ExceptionTableEntry) (suf : List ExceptionTableEntry) (name : String), tableOf (mi_hh P j) = pre ++ x :: suf ∧ x.handlerPc = hp ∧ covers x pc = true ∧ x.catchType ≠ 0 ∧ Cond.classLink (mi_nm P j).cls x.catchType name ∈ GT ∧ Cond.castable E name ∈ GT ∧
    ∀ z ∈ pre, covers z pc = false ∨ (z.catchType ≠ 0 ∧ ∃ nm : String, Cond.classLink (mi_nm P j).cls z.catchType nm ∈ GT ∧ (E, nm) ∈ NC)
theorem mi_ws_ok {GT : List Cond} {P : mi_P} {k : Nat} {s : State} {args : Array Value} (hwk : ∀ w ∈ GT, mi_wk w = true) (hts : ∀ w ∈ GT, w.before args s = true) (hc : mi_cw P k ∈ GT) : ∀ w ∈ mi_ws GT P k, ∀ (a' : Array Value) (U : State), s.WarmedH U.vm → w.before a' U = true := by
  intro w hw a' U hW
  have hw : w ∈ GT := by
    rcases List.mem_cons.mp hw with h | h
    · rw [h]; exact hc
    · exact h
  exact mi_wk_ok (hwk w hw) hW (hts w hw)
section MiInv
variable {p : Program} {l : Launch} {e : Env} {R : Room} {s : State} {m : MethodId} {args : Array Value} {below : List Frame} {meth : Method} {c : Code} {H : Heap} {locs : List Loc} {cells slots : Nat} {Q : State → Prop}
variable {pc : Nat} {ls : Array Slot} {b : Nat → Nat} {B : Nat} {D : va_G} {cl : List vw_C} {tA : FieldType → ClassId} {GT : List Cond} {P : mi_P} {j d L n0 s0 : Nat} {xs : Nat → Int32} {SK : List (String × Nat × String × Nat)} {NC : List (String × String)} {ZT : State → Prop} {h : mi_H} {lv : mi_L}
theorem mi_recv (hK : va_K D cl (mi_tys tA) s) (hR : mi_R D cl tA b B h H) {a ci : Nat} {fs : List Value} {C : String} {T : u_T} {N : Nat} (hc : cl[ci]? = some (C, T, N)) (ha : a ≠ 0) (hg : mi_get h a = some (.inr (ci, fs))) : ∃ cellB : Cell, H[mi_ad b B a]? = some cellB ∧ cellB.vm.isStatics = false ∧ s.vm.findClass C = some cellB.cls := by
  obtain ⟨cell, g1, g2, g3, -⟩ := (mi_get_ok hR hg ha).1 _ hc
  exact ⟨cell, g1, by rw [g3]; rfl, by rw [g2]; exact (hK.1 ci _ hc).2.1⟩
theorem mi_len_of {y : MethodName} {n : Nat} (hd : (parseMethodDescriptor y.desc).map (fun d => d.parameters.length) = some n) : ∀ sig, parseMethodDescriptor y.desc = some sig → n = sig.parameters.length := by
  intro sig h
  rw [h] at hd
  exact (Option.some.inj hd).symm
theorem mi_caught (hx : p.tables.exec = Jvm.exec) (hb : c.code = mi_cd P j) (htab : c.exceptionTable.toList = tableOf (mi_hh P j)) (hts : ∀ w ∈ GT, w.before args s = true) (hown : s.vm.findClass (mi_nm P j).cls = some m.cls) (hZ : mi_Z b B SK NC ZT s)
    {E : String} {hp : Nat} (hc : mi_cok GT P NC j pc E hp) {q : Addr} {ce : Cell} (hcell : H[q]? = some ce) (hv : ce.vm = .none) (hcl : s.vm.findClass E = some ce.cls) {rest : List Value}
    (kk : W p l e R s m args below meth c H locs cells slots Q (F0 m hp ls [.ref q])) : vx_W p l e R s m args below meth c H locs cells slots Q (F0 m pc ls rest) q := by
  obtain ⟨pre, x, suf, name, hsplit, hhp, hcov, h0, hlink, hcast, hpass⟩ := hc
  intro T hT X
  have hpl : e.platform.magicAccessors = ({} : Platform).magicAccessors := by rw [X.admits.platform]
  obtain ⟨c3, c4, hc3, hc4, hasg⟩ := Cond.castable_spec (hts _ hcast)
  cases Option.some.inj (hc3.symm.trans hcl)
  obtain ⟨c5, hc5, hcl5⟩ := Cond.classLink_spec hown (hts _ hlink) e.platform hpl
  cases Option.some.inj (hc4.symm.trans hc5)
  have hk0 : ∃ k, s.vm.classes[ce.cls]? = some k := by obtain ⟨k9, h9, -⟩ := Vm.findClass_spec hcl; exact ⟨k9, h9⟩
  obtain ⟨vm', hW', hq⟩ := mi_search (e := e) (s₀ := s) (f := F0 m pc ls rest) (a := q) (cell := ce) (by rw [hv]; intro k z; cases z) hk0 x suf hcov h0 hcl5 hasg pre ((T.setTop (F0 m pc ls rest)).pushFrame (.throwing q)) X.warmed (by show T.heap[q]? = some ce; rw [hT]; exact hcell)
    (fun z hz => by
      rcases hpass z hz with h | ⟨hz0, nm, hl1, hn1⟩
      · exact Or.inl h
      · obtain ⟨c6, hc6, hcl6⟩ := Cond.classLink_spec hown (hts _ hl1) e.platform hpl
        obtain ⟨a8, b8, h1, h2, h3⟩ := hZ.2.2.2.1 _ hn1
        cases Option.some.inj (h1.symm.trans hcl)
        cases Option.some.inj (h2.symm.trans hc6)
        exact Or.inr ⟨hz0, _, hcl6, h3⟩)
  obtain ⟨t, a1, b1⟩ := kk (T.setVm vm') hT (X.noted hW')
  refine ⟨t, mi_caughtTo (s := T) (g := F0 m pc ls rest) (c := c) (vm' := vm') (pc := x.handlerPc) X.here (fun Q E d acts => ?_) ?_, b1⟩
  · rw [W.findHandler_eq (meth := meth) (code := c) X.method' X.code, htab, hsplit]
    exact hq Q E d acts
  · rw [hhp]
    exact a1
/-- members of texts answer as the program's table says -/
def mi_prim (b : Nat → Nat) (B : Nat) (GT : List Cond) (P : mi_P) (ZT : State → Prop) : Prop :=
  ∀ (p : Program) (l : Launch) (e : Env) (R : Room) (s : State) (m : MethodId) (args : Array Value) (below : List Frame) (meth : Method) (c : Code) (Q : State → Prop) (j ix k n t pc : Nat) (as r : List Value) (v : Value) (ls : Array Slot) (H : Heap) (locs : List Loc) (cells slots : Nat),
    p.tables.exec = Jvm.exec → c.code = mi_cd P j → c.maxLocals = ls.size → s.vm.findClass (mi_nm P j).cls = some m.cls → (∀ w ∈ GT, w.before args s = true) → ZT s → va_S (fun q => B ≤ q) s.heap H locs → 10 ≤ R.frames → 200 ≤ R.locals → cells ≤ R.cells → slots ≤ R.slots →
    mi_iv P j ix = some (k, 6, n) → as.length = n → mi_pr P k (.retAddr t :: as) = some v → (r.map fun v => v.category).sum ≤ 8 → decode (mi_cd P j) pc = .ok (.invokevirtual ix, 3) →
    W p l e R s m args below meth c H locs cells slots Q (F0 m (pc + 3) ls ((v :: r).map (mi_v b B))) → W p l e R s m args below meth c H locs cells slots Q (F0 m pc ls ((as.reverse ++ .retAddr t :: r).map (mi_v b B)))
set_option maxHeartbeats 4000000 in
theorem mi_inv_ok (hZT : mi_sta B ZT) (hprim : mi_prim b B GT P ZT) (hx : p.tables.exec = Jvm.exec) (hb : c.code = mi_cd P j) (hml : c.maxLocals = mi_mx P j) (htab : c.exceptionTable.toList = tableOf (mi_hh P j)) (hwk : ∀ w ∈ GT, mi_wk w = true) (hts : ∀ w ∈ GT, w.before args s = true) (hown : s.vm.findClass (mi_nm P j).cls = some m.cls)
    (hsok : ∀ ix k kind n, mi_iv P j ix = some (k, kind, n) → mi_sok GT cl P (mi_nm P j).cls ix k kind n) (hcok : ∀ pc E hp, mi_ca P j pc E = some hp → mi_cok GT P NC j pc E hp) (hdec : ∀ pc i, mi_is P j pc = some i → mi_dec (mi_cd P j) pc = some i)
    (hK : va_K D cl (mi_tys tA) s) (hX : va_X (b 0) L xs s s.heap) (hbl : b 0 < s.heap.size) (hbB : b 0 < B) (hZ : mi_Z b B SK NC ZT s) (hR : mi_R D cl tA b B h H) (hS : va_S (fun q => B ≤ q) s.heap H locs) (hl : lv_has ls (mi_mx P j) (mi_lm b B lv))
    (hfr : 10 + d + 1 ≤ R.frames) (hlo : 200 + 64 * (d + 1) ≤ R.locals) {call : mi_C} (hcall : ∀ k as g o g', call k as g = some (o, g') → mi_Met D cl tA b B L xs SK NC ZT GT P l d k as g o g' ∧ mi_le g g')
    {i : Instr} {st : List Value} {q : mi_S} (hi : mi_inv P call j i pc lv st h = some q) (hd : decode (mi_cd P j) pc = .ok (i, mi_len i)) (hn0 : n0 + cells = h.1) (hs0 : s0 + slots = h.2.1) (hRc : (mi_snd q).1 ≤ n0 + R.cells) (hRs : (mi_snd q).2.1 ≤ s0 + R.slots)
    (kx : ∀ (E : String) (g' : mi_H) (q9 : Addr) (ce : Cell) (H1 : Heap) (locs1 : List Loc) (cells1 slots1 : Nat) (rest : List Value), q = .inr (.inr E, g') → (mi_hh P j).isEmpty = true → mi_R D cl tA b B g' H1 → va_S (fun q => B ≤ q) s.heap H1 locs1 → n0 + cells1 = g'.1 → s0 + slots1 = g'.2.1 → H1[q9]? = some ce → ce.vm = .none → s.vm.findClass E = some ce.cls → vx_W p l e R s m args below meth c H1 locs1 cells1 slots1 Q (F0 m pc ls rest) q9)
    (kk : ∀ (pc' : Nat) (lv' : mi_L) (st' : List Value) (g' : mi_H) (ls' : Array Slot) (H1 : Heap) (locs1 : List Loc) (cells1 slots1 : Nat), q = .inl (pc', lv', st', g') → lv_has ls' (mi_mx P j) (mi_lm b B lv') → mi_R D cl tA b B g' H1 → va_S (fun q => B ≤ q) s.heap H1 locs1 → n0 + cells1 = g'.1 → s0 + slots1 = g'.2.1 → W p l e R s m args below meth c H1 locs1 cells1 slots1 Q (F0 m pc' ls' (st'.map (mi_v b B)))) : W p l e R s m args below meth c H locs cells slots Q (F0 m pc ls (st.map (mi_v b B))) := by
  unfold mi_inv at hi
  split at hi
  · cases hi
  · next k kind n ix hsite =>
    -- the place and its instruction
    obtain ⟨hiv, hins⟩ : mi_iv P j ix = some (k, kind, n) ∧ ((i = .invokevirtual ix ∧ (kind = 0 ∨ kind = 6)) ∨ (i = .invokestatic ix ∧ (kind = 1 ∨ kind = 4 ∨ kind = 5)) ∨ (i = .invokespecial ix ∧ (kind = 2 ∨ kind = 3))) := by
      unfold mi_site at hsite
      split at hsite
      · split at hsite
        · next hv =>
          split at hsite
          · next hk => cases hsite; exact ⟨hv, Or.inl ⟨rfl, hk⟩⟩
          · cases hsite
        · cases hsite
      · split at hsite
        · next hv =>
          split at hsite
          · next hk => cases hsite; exact ⟨hv, Or.inr (Or.inl ⟨rfl, hk⟩)⟩
          · cases hsite
        · cases hsite
      · split at hsite
        · next hv =>
          split at hsite
          · next hk => cases hsite; exact ⟨hv, Or.inr (Or.inr ⟨rfl, hk⟩)⟩
          · cases hsite
        · cases hsite
      · cases hsite
    have hso := hsok ix k kind n hiv
    split at hi
    · next hk3 =>
      subst hk3
      split at hi
      · next a r =>
        split at hi
        · next hw =>
          cases hi
          obtain ⟨-, w1, w2, w3⟩ : (3 : Nat) = 3 ∧ Cond.methodLink (mi_nm P j).cls ix Lib.objectInit ∈ GT ∧ Cond.instanceMethod Lib.objectInit ∈ GT ∧ Cond.code Lib.objectInit ⟨#[0xb1]⟩ 1 none ∈ GT := by
            rcases hso with z | z | ⟨z, -⟩
            · omega
            · exact z
            · exact absurd rfl z
          have hi3 : i = .invokespecial ix := by
            rcases hins with ⟨-, z⟩ | ⟨-, z⟩ | ⟨z, -⟩
            · omega
            · omega
            · exact z
          subst hi3
          refine W.objInit hx hb hown (hts _ w1) (hts _ w2) (hts _ w3) rfl (by rw [hml]; exact hl.1) (a := mi_ad b B a) (rest := r.map (mi_v b B)) rfl hd (by omega) ?_ ?_
          · have z9 : ((r.map (mi_v b B)).map fun v => v.category).sum ≤ 8 := by rw [mi_cats]; exact hw
            show 2 * 0 + ((r.map (mi_v b B)).map fun v => v.category).sum + 12 ≤ R.locals
            omega
          · exact kk _ _ _ _ ls H locs cells slots rfl hl hR hS hn0 hs0
        · cases hi
      · cases hi
    · next hk3 =>
      split at hi
      · next hk6 =>
        subst hk6
        split at hi
        · next t as r htg =>
          split at hi
          · next hw =>
            split at hi
            · next v hv =>
              cases hi
              have hi6 : i = .invokevirtual ix := by
                rcases hins with ⟨z, -⟩ | ⟨-, z⟩ | ⟨-, z⟩
                · exact z
                · omega
                · omega
              subst hi6
              unfold mi_targs at htg
              split at htg
              · next t' r' hdrop =>
                cases htg
                have hst : st = st.take n ++ .retAddr t :: r := by rw [← hdrop, List.take_append_drop]
                have hlt : n < st.length := by
                  rcases Nat.lt_or_ge n st.length with z | z
                  · exact z
                  · rw [List.drop_eq_nil_of_le z] at hdrop; cases hdrop
                have e9 : (st.take n).reverse.reverse ++ .retAddr t :: r = st := by rw [List.reverse_reverse]; exact hst.symm
                have hgo := hprim p l e R s m args below meth c Q j ix k n t pc (st.take n).reverse r v ls H locs cells slots hx hb (by rw [hml]; exact hl.1.symm) hown hts hZ.2.2.2.2 hS (by omega) (by omega) (by have : h.1 ≤ n0 + R.cells := hRc; omega) (by have : h.2.1 ≤ s0 + R.slots := hRs; omega) hiv (by simp; omega) hv hw hd (kk _ _ _ _ ls H locs cells slots rfl hl hR hS hn0 hs0)
                rw [e9] at hgo
                exact hgo
              · cases htg
            · cases hi
          · cases hi
        · cases hi
      next hk6 =>
      obtain ⟨-, hMH, hlen, hini, hcw, hmx, hso⟩ : kind ≠ 3 ∧ ((mi_nm P k).cls ≠ "java/lang/invoke/MethodHandle" ∧ (mi_nm P k).cls ≠ "java/lang/invoke/VarHandle") ∧ (parseMethodDescriptor (mi_nm P k).desc).map (fun d => d.parameters.length) = some n ∧ Cond.initialized (mi_nm P k).cls ∈ GT ∧ mi_cw P k ∈ GT ∧ mi_mx P k ≤ 45 ∧ _ := by
        rcases hso with z | ⟨z, -⟩ | z
        · exact absurd z hk6
        · exact absurd z hk3
        · exact z
      split at hi
      · cases hi
      · next as r has =>
        split at hi
        · next hwr =>
          obtain ⟨hw, hrc⟩ := hwr
          -- the callee's outcome
          cases hca : call k as h with
          | none => rw [hca] at hi; cases hi
          | some og =>
            obtain ⟨o, g⟩ := og
            rw [hca] at hi
            obtain ⟨hM, hle⟩ := hcall k as h o g hca
            have hmono : h.1 ≤ g.1 ∧ h.2.1 ≤ g.2.1 := hle
            have hgq : mi_snd q = g := by
              cases o with
              | inl v => cases hi; rfl
              | inr E =>
                have hi : (if kind = 2 ∨ kind = 4 then none else mi_exc P j pc lv E g) = some q := hi
                split at hi
                · cases hi
                · exact mi_exc_le hi
            rw [hgq] at hRc hRs
            have hws := mi_ws_ok (k := k) hwk hts hcw
            have hW8 : 2 * (0 : Nat) + ((r.map (mi_v b B)).map fun v => v.category).sum ≤ 8 := by rw [mi_cats]; have : mi_wt r ≤ 8 := hw; unfold mi_wt at this; omega
            have hfit : cells + (g.1 - h.1) ≤ R.cells ∧ slots + (g.2.1 - h.2.1) ≤ R.slots := by omega
            have hroom : (mi_rm d h g).frames + 1 ≤ R.frames ∧ 8 + (mi_mx P k + 11) + (mi_rm d h g).locals ≤ R.locals := by
              show 10 + d + 1 ≤ R.frames ∧ 8 + (mi_mx P k + 11) + (200 + 64 * d) ≤ R.locals
              omega
            have e1 : n0 + (cells + (g.1 - h.1)) = g.1 := by omega
            have e2 : s0 + (slots + (g.2.1 - h.2.1)) = g.2.1 := by omega
            have S : CallFix p m c (mi_cd P j) (mi_mx P j) s args GT (mi_nm P j).cls := ⟨hx, hb, hml, hown, hts⟩
            have hcode : (mi_hh P k).isEmpty = true → Cond.code (mi_nm P k) (mi_cd P k) (mi_mx P k) (mi_rt P k) ∈ mi_ws GT P k ∧ (Cond.code (mi_nm P k) (mi_cd P k) (mi_mx P k) (mi_rt P k)).before args s = true := by
              intro z
              have : mi_cw P k = Cond.code (mi_nm P k) (mi_cd P k) (mi_mx P k) (mi_rt P k) := by unfold mi_cw; rw [if_pos z]
              rw [← this]
              exact ⟨List.mem_cons_self, hts _ hcw⟩
            -- what follows the call
            have fin : ∀ (st0 : List Value) (a9 : Array Value), st0 = st.map (mi_v b B) → (kind = 2 ∨ kind = 4 → ∃ v, o = .inl v) →
                vx_Run p l e R s m args below meth c H locs cells slots (g.1 - h.1) (g.2.1 - h.2.1) (F0 m pc ls st0) (r.map (mi_v b B)) (mi_QO D cl tA b B o g a9) (mi_XO D cl tA b B o g) (fun q => B ≤ q) → W p l e R s m args below meth c H locs cells slots Q (F0 m pc ls (st.map (mi_v b B))) := by
              intro st0 a9 hst hno hr
              rw [← hst]
              refine mi_after hr hS (fun E ce q9 H1 locs1 ho r1 r2 hce hcv hcl9 => ?_) (fun v H1 locs1 ho r1 r2 => ?_)
              · subst ho
                have hi : (if kind = 2 ∨ kind = 4 then none else mi_exc P j pc lv E g) = some q := hi
                split at hi
                · cases hi
                · unfold mi_exc at hi
                  split at hi
                  · split at hi
                    · next hhe => exact kx E g q9 ce H1 locs1 _ _ _ (Option.some.inj hi).symm hhe r1 r2 e1 e2 hce hcv hcl9
                    · cases hi
                  · next hp hcaught =>
                    have hco := hcok pc E hp hcaught
                    split at hi
                    · next qn hins2 =>
                      split at hi
                      · next hlt =>
                        have hd2 := (mi_dec_ok (hdec hp _ hins2)).1 rfl
                        refine mi_caught hx hb htab hts hown hZ hco hce hcv hcl9 ?_
                        refine lv_astore_n hx hb hd2 rfl hl hlt rfl (fun ls' hl' => ?_)
                        refine kk _ _ _ _ ls' H1 locs1 _ _ (Option.some.inj hi).symm ?_ r1 r2 e1 e2
                        refine ⟨hl'.1, hl'.2.1, fun z hz => hl'.2.2 z (List.mem_cons_of_mem _ ?_)⟩
                        unfold mi_sub mi_lm at hz
                        unfold mi_lm
                        obtain ⟨y, hy, rfl⟩ := List.mem_map.mp hz
                        obtain ⟨hy1, hy2⟩ := List.mem_filter.mp hy
                        refine List.mem_filter.mpr ⟨List.mem_map.mpr ⟨y, hy1, rfl⟩, ?_⟩
                        simpa only [mi_v_cat] using hy2
                      · cases hi
                    · next qn hins2 =>
                      split at hi
                      · next hlt =>
                        have hd2 := (mi_dec_ok (hdec hp _ hins2)).1 rfl
                        refine mi_caught hx hb htab hts hown hZ hco hce hcv hcl9 ?_
                        refine lv_astore hx hb hd2 hl hlt rfl (fun ls' hl' => ?_)
                        refine kk _ _ _ _ ls' H1 locs1 _ _ (Option.some.inj hi).symm ?_ r1 r2 e1 e2
                        refine ⟨hl'.1, hl'.2.1, fun z hz => hl'.2.2 z (List.mem_cons_of_mem _ ?_)⟩
                        unfold mi_sub mi_lm at hz
                        unfold mi_lm
                        obtain ⟨y, hy, rfl⟩ := List.mem_map.mp hz
                        obtain ⟨hy1, hy2⟩ := List.mem_filter.mp hy
                        refine List.mem_filter.mpr ⟨List.mem_map.mpr ⟨y, hy1, rfl⟩, ?_⟩
                        simpa only [mi_v_cat] using hy2
                      · cases hi
                    · cases hi
              · subst ho
                exact kk _ _ _ _ ls H1 locs1 _ _ (Option.some.inj hi).symm hl r1 r2 e1 e2
            have hno : kind = 2 ∨ kind = 4 → ∃ v, o = .inl v := by
              intro z
              cases o with
              | inl v => exact ⟨v, rfl⟩
              | inr E =>
                have hi : (if kind = 2 ∨ kind = 4 then none else mi_exc P j pc lv E g) = some q := hi
                rw [if_pos z] at hi
                cases hi
            unfold mi_cargs at has
            split at has
            · next hk02 =>
              split at has
              · next a r' hdrop =>
                cases has
                have hst : st = st.take n ++ .ref a :: r := by rw [← hdrop, List.take_append_drop]
                have hln : ((st.take n).reverse.map (mi_v b B)).length = n := by
                  have : n < st.length := by
                    rcases Nat.lt_or_ge n st.length with z | z
                    · exact z
                    · rw [List.drop_eq_nil_of_le z] at hdrop; cases hdrop
                  simp
                  omega
                have hstk : st.map (mi_v b B) = ((st.take n).reverse.map (mi_v b B)).reverse ++ .ref (mi_ad b B a) :: r.map (mi_v b B) := by
                  conv => lhs; rw [hst]
                  simp [mi_v]
                rcases hk02 with hk0 | hk2
                · subst hk0
                  have hi0 : i = .invokevirtual ix := by
                    rcases hins with ⟨z, -⟩ | ⟨-, z⟩ | ⟨-, z⟩
                    · exact z
                    · omega
                    · omega
                  subst hi0
                  obtain ⟨-, hhe, w1, w2, w3, T, N, hc⟩ : (0 : Nat) = 0 ∧ (mi_hh P k).isEmpty = true ∧ Cond.methodLink (mi_nm P j).cls ix (mi_nm P k) ∈ GT ∧ Cond.instanceMethod (mi_nm P k) ∈ GT ∧ Cond.selects (mi_nm P k).cls (mi_nm P k) (mi_nm P k) ∈ GT ∧ ∃ (T : u_T) (N : Nat), cl[mi_kc P k]? = some ((mi_nm P k).cls, T, N) := by
                    rcases hso with z | ⟨z, -⟩ | ⟨z, -⟩ | ⟨z, -⟩ | ⟨z, -⟩
                    · exact z
                    all_goals omega
                  obtain ⟨ha0, fs, hga⟩ : a ≠ 0 ∧ ∃ fs, mi_get h a = some (.inr (mi_kc P k, fs)) := by
                    have z := hrc rfl
                    unfold mi_rc at z
                    dsimp only at z
                    split at z
                    · next ci fs hg =>
                      simp only [Bool.and_eq_true, decide_eq_true_eq] at z
                      obtain ⟨z1, z2⟩ := z
                      subst z2
                      exact ⟨z1, fs, hg⟩
                    · cases z
                  refine fin _ (Value.ref (mi_ad b B a) :: (st.take n).reverse.map (mi_v b B)).toArray hstk.symm hno ?_
                  exact vx_runV (C := (mi_nm P k).cls) (bytes := mi_cd P k) (maxL := mi_mx P k) (ret := mi_rt P k) (b := mi_ad b B a) (As := (st.take n).reverse.map (mi_v b B)) S hM ⟨⟨rfl, rfl, hroom.1, hroom.2, hws, (hcode hhe).1, (hcode hhe).2, hts _ hini, hMH, mi_len_of hlen, hts _ w1⟩, hts _ w2, hts _ w3⟩
                    ⟨mi_blind hZT _, mi_recv hK hR hc ha0 hga, fun U hU hW => mi_pre hZT hK hX hbl hbB hZ hR hS (.ref a :: (st.take n).reverse) U hU hW⟩ rfl hln hl.1 rfl hW8 hd hfit
                · subst hk2
                  have hi0 : i = .invokespecial ix := by
                    rcases hins with ⟨-, z⟩ | ⟨-, z⟩ | ⟨z, -⟩
                    · omega
                    · omega
                    · exact z
                  subst hi0
                  obtain ⟨-, hhe, w1, w2, w3, w4⟩ : (2 : Nat) = 2 ∧ (mi_hh P k).isEmpty = true ∧ Cond.methodLink (mi_nm P j).cls ix (mi_nm P k) ∈ GT ∧ Cond.instanceMethod (mi_nm P k) ∈ GT ∧ (mi_nm P k).name = "<init>" ∧ mi_rt P k = none := by
                    rcases hso with ⟨z, -⟩ | ⟨z, -⟩ | z | ⟨z, -⟩ | ⟨z, -⟩
                    · omega
                    · omega
                    · exact z
                    all_goals omega
                  obtain ⟨v, rfl⟩ := hno (Or.inl rfl)
                  have hcn := hcode hhe
                  rw [w4] at hcn
                  refine fin _ (Value.ref (mi_ad b B a) :: (st.take n).reverse.map (mi_v b B)).toArray hstk.symm hno (mi_vaRun ?_)
                  exact va_runI (bytes := mi_cd P k) (maxL := mi_mx P k) (b := mi_ad b B a) (As := (st.take n).reverse.map (mi_v b B)) S (mi_noX hM) ⟨⟨rfl, rfl, hroom.1, hroom.2, hws, hcn.1, hcn.2, hts _ hini, hMH, mi_len_of hlen, hts _ w1⟩, w3, hts _ w2⟩
                    ⟨mi_blind hZT _, fun U hU hW => mi_pre hZT hK hX hbl hbB hZ hR hS (.ref a :: (st.take n).reverse) U hU hW⟩ rfl hln hl.1 rfl hW8 hd hfit
              · cases has
            · next hk02 =>
              split at has
              · next hle9 =>
                cases has
                have hln : ((st.take n).reverse.map (mi_v b B)).length = n := by
                  simp
                  omega
                have hstk : st.map (mi_v b B) = ((st.take n).reverse.map (mi_v b B)).reverse ++ (st.drop n).map (mi_v b B) := by
                  conv => lhs; rw [← List.take_append_drop n st]
                  simp
                have hi0 : i = .invokestatic ix := by
                  rcases hins with ⟨-, z⟩ | ⟨z, -⟩ | ⟨-, z⟩
                  · rcases z with z | z
                    · exact absurd (Or.inl z) hk02
                    · exact absurd z hk6
                  · exact z
                  · rcases z with z | z
                    · exact absurd (Or.inr z) hk02
                    · exact absurd z hk3
                subst hi0
                rcases hso with ⟨z, -⟩ | ⟨z, hhe, w1, w2⟩ | ⟨z, -⟩ | ⟨z, hhe, ⟨host, w1⟩, w2⟩ | ⟨z, hhe, w1, w2⟩
                · exact absurd (Or.inl z) hk02
                · refine fin _ ((st.take n).reverse.map (mi_v b B)).toArray hstk.symm hno ?_
                  exact vx_runS (bytes := mi_cd P k) (maxL := mi_mx P k) (ret := mi_rt P k) (As := (st.take n).reverse.map (mi_v b B)) S hM ⟨⟨rfl, rfl, hroom.1, hroom.2, hws, (hcode hhe).1, (hcode hhe).2, hts _ hini, hMH, mi_len_of hlen, hts _ w1⟩, hts _ w2⟩
                    ⟨mi_blind hZT _, fun U hU hW => mi_pre hZT hK hX hbl hbB hZ hR hS ((st.take n).reverse) U hU hW⟩ rfl hln hl.1 rfl hW8 hd hfit
                · exact absurd (Or.inr z) hk02
                · obtain ⟨v, rfl⟩ := hno (Or.inr z)
                  refine fin _ ((st.take n).reverse.map (mi_v b B)).toArray hstk.symm hno (mi_vaRun ?_)
                  exact va_runSN (host := host) (bytes := mi_cd P k) (maxL := mi_mx P k) (ret := mi_rt P k) (As := (st.take n).reverse.map (mi_v b B)) S (mi_noX hM) ⟨⟨⟨rfl, rfl, hroom.1, hroom.2, hws, (hcode hhe).1⟩, (hcode hhe).2, hts _ hini, hMH, mi_len_of hlen, hts _ w1⟩, hts _ w2, trivial⟩
                    ⟨mi_blind hZT _, fun U hU hW => mi_pre hZT hK hX hbl hbB hZ hR hS ((st.take n).reverse) U hU hW⟩ rfl hln hl.1 rfl hW8 hd hfit
                · have hcwx : mi_cw P k = Cond.codeWith (mi_nm P k) (mi_cd P k) (mi_mx P k) (mi_rt P k) (mi_hh P k) := by unfold mi_cw; rw [if_neg (by rw [hhe]; decide)]
                  refine fin _ ((st.take n).reverse.map (mi_v b B)).toArray hstk.symm hno ?_
                  exact vx_runSX (hh := mi_hh P k) (bytes := mi_cd P k) (maxL := mi_mx P k) (ret := mi_rt P k) (As := (st.take n).reverse.map (mi_v b B)) S hM ⟨⟨rfl, rfl, hroom.1, hroom.2, hws, by rw [← hcwx]; exact List.mem_cons_self⟩, by rw [← hcwx]; exact hts _ hcw, hts _ hini, hMH, mi_len_of hlen, hts _ w1, hts _ w2⟩
                    ⟨mi_blind hZT _, fun U hU hW => mi_pre hZT hK hX hbl hbB hZ hR hS ((st.take n).reverse) U hU hW⟩ rfl hln hl.1 rfl hW8 hd hfit
              · cases has
        · cases hi
end MiInv
end
section
/-! Whole runs of methods: the machine does what the small machine does. -/
/-- a throw's place by its words -/
def mi_tok (GT : List Cond) (P : mi_P) (SK : List (String × Nat × String × Nat)) (j pc : Nat) (E : String) : Prop :=
  ∃ (text : String) (names : List String) (ik is ic tt : Nat), ((mi_nm P j).cls, is, text, tt) ∈ SK ∧ Bundle.fit E = true ∧ (∀ n ∈ names, Bundle.fit n = true) ∧ names.length ≤ 4 ∧ Cond.classLink (mi_nm P j).cls ik E ∈ GT ∧ Cond.initialized E ∈ GT ∧ (∀ w ∈ vx_atS (mi_nm P j).cls ic E names, w ∈ GT) ∧
    (∀ w ∈ Cond.classLink (mi_nm P j).cls ik E :: Cond.initialized E :: vx_atS (mi_nm P j).cls ic E names, vx_ot w = true) ∧ (mi_hh P j).isEmpty = true ∧
    decode (mi_cd P j) pc = .ok (.new ik, 3) ∧ decode (mi_cd P j) (pc + 3) = .ok (.dup, 1) ∧ decode (mi_cd P j) (pc + 4) = .ok (.ldc is, 2) ∧ decode (mi_cd P j) (pc + 6) = .ok (.invokespecial ic, 3) ∧ decode (mi_cd P j) (pc + 9) = .ok (.athrow, 1)
/-- all that is asked of a method's tables -/
def mi_jok (GT : List Cond) (cl : List vw_C) (P : mi_P) (SK : List (String × Nat × String × Nat)) (NC : List (String × String)) (j : Nat) : Prop :=
  mi_plc GT cl P j ∧ (∀ pc i, mi_is P j pc = some i → mi_dec (mi_cd P j) pc = some i) ∧ (∀ ix k kind n, mi_iv P j ix = some (k, kind, n) → mi_sok GT cl P (mi_nm P j).cls ix k kind n) ∧ (∀ pc E, mi_th P j pc = some E → mi_tok GT P SK j pc E) ∧ (∀ pc E hp, mi_ca P j pc E = some hp → mi_cok GT P NC j pc E hp) ∧ plainFor (mi_nm P j) = true ∧ (∀ ix t, mi_cs P j ix = some (.retAddr t) → ∃ text, ((mi_nm P j).cls, ix, text, t) ∈ SK)
/-- .. and of all of them -/
def mi_ok (GT : List Cond) (cl : List vw_C) (P : mi_P) (SK : List (String × Nat × String × Nat)) (NC : List (String × String)) : Prop :=
  (Cond.arrayClass .int ∈ GT ∧ Cond.arrayClass .long ∈ GT ∧ Cond.arrayClass .boolean ∈ GT) ∧ mi_cls GT cl (mi_ft P) ∧ (∀ w ∈ GT, mi_wk w = true) ∧ cl.length ≤ 1000000 ∧ ∀ j, mi_jok GT cl P SK NC j
section MiFrame
variable {p : Program} {l : Launch} {e : Env} {R : Room} {s : State} {m : MethodId} {args : Array Value} {below : List Frame} {meth : Method} {c : Code} {Q : State → Prop}
variable {b : Nat → Nat} {B : Nat} {D : va_G} {cl : List vw_C} {tA : FieldType → ClassId} {GT : List Cond} {P : mi_P} {j d L n0 s0 : Nat} {xs : Nat → Int32} {SK : List (String × Nat × String × Nat)} {NC : List (String × String)} {ZT : State → Prop}
set_option maxHeartbeats 2000000 in
theorem mi_run_ok (hZT : mi_sta B ZT) (hprim : mi_prim b B GT P ZT) (hok : mi_ok GT cl P SK NC) (hx : p.tables.exec = Jvm.exec) (hb : c.code = mi_cd P j) (hml : c.maxLocals = mi_mx P j) (htab : c.exceptionTable.toList = tableOf (mi_hh P j)) (hts : ∀ w ∈ GT, w.before args s = true) (hown : s.vm.findClass (mi_nm P j).cls = some m.cls) (hname : (mi_nm P j).name = "<init>" → meth.name = "<init>")
    (hK : va_K D cl (mi_tys tA) s) (hX : va_X (b 0) L xs s s.heap) (hbl : b 0 < s.heap.size) (hbB : b 0 < B) (hZ : mi_Z b B SK NC ZT s)
    (hfr : 10 + d + 1 ≤ R.frames) (hlo : 200 + 64 * (d + 1) ≤ R.locals) {call : mi_C} (hcall : ∀ k as g o g', call k as g = some (o, g') → mi_Met D cl tA b B L xs SK NC ZT GT P l d k as g o g' ∧ mi_le g g')
    {o : mi_O} {h' : mi_H} (hRc : h'.1 ≤ n0 + R.cells) (hRs : h'.2.1 ≤ s0 + R.slots)
    (KR : ∀ (pc : Nat) (i : Instr) (st : List Value) (v : Option Value) (ls : Array Slot) (H : Heap) (locs : List Loc) (cells slots : Nat), o = .inl v → mi_is P j pc = some i → mi_ret (mi_rt P j) i st = some v → mi_R D cl tA b B h' H → va_S (fun q => B ≤ q) s.heap H locs → n0 + cells = h'.1 → s0 + slots = h'.2.1 → W p l e R s m args below meth c H locs cells slots Q (F0 m pc ls (st.map (mi_v b B))))
    (KT : ∀ (pc : Nat) (E : String) (h1 : mi_H) (ls : Array Slot) (H : Heap) (locs : List Loc) (cells slots : Nat), o = .inr E → mi_th P j pc = some E → h' = mi_push h1 6 mi_dead → ls.size = mi_mx P j → mi_R D cl tA b B h1 H → va_S (fun q => B ≤ q) s.heap H locs → n0 + cells = h1.1 → s0 + slots = h1.2.1 → W p l e R s m args below meth c H locs cells slots Q (F0 m pc ls []))
    (KX : ∀ (pc : Nat) (E : String) (q9 : Addr) (ce : Cell) (ls : Array Slot) (H : Heap) (locs : List Loc) (cells slots : Nat) (rest : List Value), o = .inr E → (mi_hh P j).isEmpty = true → mi_R D cl tA b B h' H → va_S (fun q => B ≤ q) s.heap H locs → n0 + cells = h'.1 → s0 + slots = h'.2.1 → H[q9]? = some ce → ce.vm = .none → s.vm.findClass E = some ce.cls → vx_W p l e R s m args below meth c H locs cells slots Q (F0 m pc ls rest) q9) :
    ∀ (n pc : Nat) (lv : mi_L) (st : List Value) (h : mi_H), mi_run P L xs call j n pc lv st h = some (o, h') → ∀ (ls : Array Slot) (H : Heap) (locs : List Loc) (cells slots : Nat), lv_has ls (mi_mx P j) (mi_lm b B lv) → mi_R D cl tA b B h H → va_S (fun q => B ≤ q) s.heap H locs → n0 + cells = h.1 → s0 + slots = h.2.1 →
      W p l e R s m args below meth c H locs cells slots Q (F0 m pc ls (st.map (mi_v b B))) := by
  obtain ⟨har, hcls, hwk, hcl, hj⟩ := hok
  obtain ⟨hplc, hdec, hsok, htok, hcok, -, hstk⟩ := hj j
  have hstr : ∀ ix t, mi_cs P j ix = some (.retAddr t) → ∃ text, vk_R (mi_nm P j).cls ix text (b (t + 1)) s := fun ix t z => by
    obtain ⟨text, hm⟩ := hstk ix t z
    exact ⟨text, hZ.2.2.1 _ hm⟩
  have hcle : ∀ k as g o g', call k as g = some (o, g') → mi_le g g' := fun k as g o g' z => (hcall k as g o g' z).2
  intro n
  induction n with
  | zero => intro pc lv st h hr; cases hr
  | succ n ih =>
    intro pc lv st h hr ls H locs cells slots hl hR hS hn0 hs0
    unfold mi_run at hr
    split at hr
    · cases hr
    · next q hq =>
      -- the end
      cases hr
      unfold mi_step at hq
      split at hq
      · next E hE =>
        split at hq
        · next hst =>
          cases hq
          have hst : st = [] := List.isEmpty_iff.mp hst
          subst hst
          exact KT pc E h ls H locs cells slots rfl hE rfl hl.1 hR hS hn0 hs0
        · cases hq
      · split at hq
        · cases hq
        · next i hi =>
          have hdi := hdec pc i hi
          split at hq
          · cases hq
          · split at hq
            · cases hq
            · split at hq
              · cases hq
              · split at hq
                · cases hq
                · split at hq
                  · next v hv =>
                    cases hq
                    exact KR pc i st v ls H locs cells slots rfl hi hv hR hS hn0 hs0
                  · next hret =>
                    have hsw : mi_sw i = false := by
                      cases hs : mi_sw i with
                      | false => rfl
                      | true =>
                        unfold mi_inv at hq
                        have hz : mi_site P j i = none := by
                          unfold mi_sw at hs
                          unfold mi_site
                          split at hs <;> first | rfl | (cases hs)
                        rw [hz] at hq
                        cases hq
                    refine mi_inv_ok hZT hprim hx hb hml htab hwk hts hown hsok hcok hdec hK hX hbl hbB hZ hR hS hl hfr hlo hcall hq ((mi_dec_ok hdi).1 hsw) hn0 hs0 hRc hRs (fun E g' q9 ce H1 locs1 cells1 slots1 rest e1 hhe r1 r2 z1 z2 hce hcv hcl9 => ?_) (fun pc' lv' st' g' ls' H1 locs1 cells1 slots1 e1 => ?_)
                    · cases e1
                      exact KX pc E q9 ce ls H1 locs1 cells1 slots1 rest rfl hhe r1 r2 z1 z2 hce hcv hcl9
                    · cases e1
    · next q hq =>
      -- one step
      have hle := mi_run_le hcle _ _ _ _ _ _ _ hr
      unfold mi_step at hq
      split at hq
      · split at hq
        · cases hq
        · cases hq
      · split at hq
        · cases hq
        · next i hi =>
          have hdi := hdec pc i hi
          split at hq
          · next st' hst' =>
            cases hq
            have hsw : mi_sw i = false := by
              cases hs : mi_sw i with
              | false => rfl
              | true =>
                unfold mi_sw at hs
                split at hs
                · cases hst'
                · cases hst'
                · cases hs
            exact mi_pure_ok hx hb hst' ((mi_dec_ok hdi).1 hsw) (ih _ _ _ _ hr ls H locs cells slots hl hR hS hn0 hs0)
          · split at hq
            · next q2 hq2 =>
              cases hq
              have hsw : mi_sw i = false := by
                cases hs : mi_sw i with
                | false => rfl
                | true =>
                  unfold mi_sw at hs
                  split at hs
                  · cases hq2
                  · cases hq2
                  · cases hs
              obtain ⟨lv2, st2⟩ := q2
              exact mi_loc_ok hx hb hq2 ((mi_dec_ok hdi).1 hsw) hl (fun ls' hl' => ih _ _ _ _ hr ls' H locs cells slots hl' hR hS hn0 hs0)
            · split at hq
              · next q2 hq2 =>
                cases hq
                obtain ⟨pc2, st2⟩ := q2
                exact mi_jmp_ok hx hb hq2 hdi (ih _ _ _ _ hr ls H locs cells slots hl hR hS hn0 hs0)
              · split at hq
                · next q2 hq2 =>
                  cases hq
                  have hsw : mi_sw i = false := by
                    cases hs : mi_sw i with
                    | false => rfl
                    | true =>
                      unfold mi_sw at hs
                      split at hs
                      · cases hq2
                      · cases hq2
                      · cases hs
                  obtain ⟨st2, h2⟩ := q2
                  have hle : h2.1 ≤ h'.1 ∧ h2.2.1 ≤ h'.2.1 := hle
                  exact mi_heap_ok hx hb hts har hcls hplc hown hname hK hX hbl hbB hR hS hstr hq2 ((mi_dec_ok hdi).1 hsw) hn0 hs0 (by omega) (by omega) (fun H1 locs1 cells1 slots1 r1 r2 z1 z2 => ih _ _ _ _ hr ls H1 locs1 cells1 slots1 hl r1 r2 z1 z2)
                · split at hq
                  · cases hq
                  · have hsw : mi_sw i = false := by
                      cases hs : mi_sw i with
                      | false => rfl
                      | true =>
                        unfold mi_inv at hq
                        have hz : mi_site P j i = none := by
                          unfold mi_sw at hs
                          unfold mi_site
                          split at hs <;> first | rfl | (cases hs)
                        rw [hz] at hq
                        cases hq
                    have hle : (mi_snd (.inl q)).1 ≤ h'.1 ∧ (mi_snd (.inl q)).2.1 ≤ h'.2.1 := hle
                    refine mi_inv_ok hZT hprim hx hb hml htab hwk hts hown hsok hcok hdec hK hX hbl hbB hZ hR hS hl hfr hlo hcall hq ((mi_dec_ok hdi).1 hsw) hn0 hs0 (by omega) (by omega) (fun E g' q9 ce H1 locs1 cells1 slots1 rest e1 => ?_) (fun pc' lv' st' g' ls' H1 locs1 cells1 slots1 e1 hl1 r1 r2 z1 z2 => ?_)
                    · cases e1
                    · cases e1
                      exact ih _ _ _ _ hr ls' H1 locs1 cells1 slots1 hl1 r1 r2 z1 z2
end MiFrame
end
section
/-! Contracts of all that the small machine has run. -/
theorem mi_lm_args (b : Nat → Nat) (B : Nat) (as : List Value) : ∀ i : Nat, lv_args i (as.map (mi_v b B)) = mi_lm b B (lv_args i as) := by
  induction as with
  | nil => intro i; rfl
  | cons v t ih =>
    intro i
    show (i, mi_v b B v) :: lv_args (if (mi_v b B v).category = 2 then i + 2 else i + 1) (t.map (mi_v b B)) = (i, mi_v b B v) :: mi_lm b B (lv_args (if v.category = 2 then i + 2 else i + 1) t)
    rw [mi_v_cat, ih]
theorem mi_sl_len (b : Nat → Nat) (B : Nat) (as : List Value) : (lg_sl (as.map (mi_v b B))).length = mi_wt as := by
  induction as with
  | nil => rfl
  | cons v t ih =>
    show (List.flatMap _ (mi_v b B v :: t.map (mi_v b B))).length = (v.category :: t.map fun v => v.category).sum
    rw [List.flatMap_cons, List.length_append, List.sum_cons, mi_v_cat]
    have e1 : (List.flatMap (fun v => if v.category = 2 then [Slot.val v, .second] else [.val v]) (t.map (mi_v b B))).length = (t.map fun v => v.category).sum := ih
    rw [e1]
    rcases lv_cat v with h | h
    · rw [if_neg (by omega), h]; rfl
    · rw [if_pos h, h]; rfl
/-! bodies of methods that the machine has no entry for (vx_ofW, vx_ofWH of the names, with plainFor) -/
theorem mi_ofW {l : Launch} {y : MethodName} {ws ws' : List Cond} {rm : Room} {Pc : Array Value → State → Prop} {Qc : Array Value → State → Outcome → State → Prop} {XC : String → State → State → Prop} {mc ms : Nat} {free : Addr → Prop} {cc : ByteArray} {maxL : Nat} {ret : Option FieldType}
    (hy : plainFor y = true) (hw : ws = Cond.code y cc maxL ret :: ws')
    (body : ∀ p e s m args below meth c s₁, BodyLoose p l y (headSpec ws rm) cc maxL ret e s m args below meth c s₁ → c.maxLocals = maxL → (∀ x ∈ c.exceptionTable.toList, False) → Pc args s →
      W p l e (headSpec ws rm).room s m args below meth c s.heap [] 0 0 (vx_MQ below Qc XC args s mc ms free) (entryFrame m args maxL)) : vx_Met l y ws rm Pc Qc XC mc ms free := by
  refine MetFree.of_bodySF (code := cc) (maxLocals := maxL) (ret := ret) hy ?_ ?_
  · intro args s m h hn
    obtain ⟨meth, c, h1, h2, h3, h4, h5, h6, -, -⟩ := Cond.code_spec hn (atoms_spec (ws := ws) h _ (by rw [hw]; exact List.mem_cons_self))
    exact ⟨meth, c, h1, h2, h3, h4, h5, h6⟩
  · intro p e s m args below meth c s₁ B hml hP _
    have hh0 : s₁.heap = s.heap := by rw [B.state]; rfl
    have ht : ∀ x ∈ c.exceptionTable.toList, False := by
      obtain ⟨meth9, c9, h1, h2, -, -, -, -, h7, -⟩ := Cond.code_spec B.named (atoms_spec (ws := ws) B.pre _ (by rw [hw]; exact List.mem_cons_self))
      cases Option.some.inj (h1.symm.trans B.method)
      cases Option.some.inj (h2.symm.trans (Stand.of_body B).code)
      intro x hx
      rw [Array.isEmpty_iff.mp h7] at hx
      cases hx
    obtain ⟨t, a1, o, b1, b2, b3⟩ := body p e s m args below meth c s₁ B hml ht hP s₁ hh0 (Stand.of_body B)
    exact ⟨t, o, a1, b1, b2, b3⟩
theorem mi_ofWH {l : Launch} {y : MethodName} {ws ws' : List Cond} {rm : Room} {Pc : Array Value → State → Prop} {Qc : Array Value → State → Outcome → State → Prop} {XC : String → State → State → Prop} {mc ms : Nat} {free : Addr → Prop} {cc : ByteArray} {maxL : Nat} {ret : Option FieldType} {hh : List (Nat × Nat × Nat × Nat)}
    (hy : plainFor y = true) (hw : ws = Cond.codeWith y cc maxL ret hh :: ws')
    (body : ∀ p e s m args below meth c s₁, BodyLoose p l y (headSpec ws rm) cc maxL ret e s m args below meth c s₁ → c.maxLocals = maxL → Pc args s →
      W p l e (headSpec ws rm).room s m args below meth c s.heap [] 0 0 (vx_MQ below Qc XC args s mc ms free) (entryFrame m args maxL)) : vx_Met l y ws rm Pc Qc XC mc ms free := by
  refine MetFree.of_bodySF (code := cc) (maxLocals := maxL) (ret := ret) hy ?_ ?_
  · intro args s m h hn
    obtain ⟨m9, meth, c, hn9, h1, h2, h3, h4, -, h5, h6, -⟩ := Cond.codeWith_spec (atoms_spec (ws := ws) h _ (by rw [hw]; exact List.mem_cons_self))
    cases hn.symm.trans hn9
    exact ⟨meth, c, h1, h2, h3, h4, h5, h6⟩
  · intro p e s m args below meth c s₁ B hml hP _
    have hh0 : s₁.heap = s.heap := by rw [B.state]; rfl
    obtain ⟨t, a1, o, b1, b2, b3⟩ := body p e s m args below meth c s₁ B hml hP s₁ hh0 (Stand.of_body B)
    exact ⟨t, o, a1, b1, b2, b3⟩
section MiSound
variable {l : Launch} {b : Nat → Nat} {B : Nat} {D : va_G} {cl : List vw_C} {tA : FieldType → ClassId} {GT : List Cond} {P : mi_P} {L : Nat} {xs : Nat → Int32} {SK : List (String × Nat × String × Nat)} {NC : List (String × String)} {ZT : State → Prop} {fuel : Nat}
theorem mi_F_of {s t : State} {H : Heap} {locs : List Loc} (hS : va_S (fun q => B ≤ q) s.heap H locs) (hz : H.size ≤ t.heap.size) (ho : ∀ q : Nat, q < H.size → t.heap[q]? = H[q]?) : va_F (fun q => B ≤ q) s t :=
  ⟨Nat.le_trans hS.1 hz, fun q h1 h2 => (ho q (Nat.lt_of_lt_of_le h1 hS.1)).trans (hS.2.1 q h1 h2)⟩
set_option maxHeartbeats 2000000 in
/-- a frame's run gives the contract's end -/
theorem mi_body {p : Program} {e : Env} {s : State} {m : MethodId} {args : Array Value} {below : List Frame} {meth : Method} {c : Code} {d j : Nat} {as : List Value} {h : mi_H} {o : mi_O} {h' : mi_H} (hZT : mi_sta B ZT) (hprim : mi_prim b B GT P ZT) (hok : mi_ok GT cl P SK NC) (htr : l.stackTraces = false) (hbB : b 0 < B)
    (hcall : ∀ k as g o g', mi_call P L xs fuel d k as g = some (o, g') → mi_Met D cl tA b B L xs SK NC ZT GT P l d k as g o g')
    (hx : p.tables.exec = Jvm.exec) (hb : c.code = mi_cd P j) (hml : c.maxLocals = mi_mx P j) (hr : meth.sig.returnType = mi_rt P j) (hlocks : meth.locks = false) (htab : c.exceptionTable.toList = tableOf (mi_hh P j)) (hts : ∀ w ∈ GT, w.before args s = true) (hown : s.vm.findClass (mi_nm P j).cls = some m.cls) (hname : meth.name = (mi_nm P j).name)
    (hPc : mi_Pc D cl tA b B L xs SK NC ZT as h args s) (hwt : mi_wt as ≤ mi_mx P j) (hrun : mi_run P L xs (mi_call P L xs fuel d) j fuel 0 (lv_args 0 as) [] h = some (o, h')) :
    W p l e (mi_rm (d + 1) h h') s m args below meth c s.heap [] 0 0 (vx_MQ below (mi_QO D cl tA b B o h') (mi_XO D cl tA b B o h') args s (h'.1 - h.1) (h'.2.1 - h.2.1) (fun q => B ≤ q)) (entryFrame m args (mi_mx P j)) := by
  obtain ⟨rfl, hR, hK, hX, hbl, hZ⟩ := hPc
  have hle : mi_le h h' := mi_run_le (fun k as g o g' z => mi_call_le d k as g o g' z) _ _ _ _ _ _ _ hrun
  have hle : h.1 ≤ h'.1 ∧ h.2.1 ≤ h'.2.1 := hle
  have hl := lv_entry (as.map (mi_v b B)) (n := mi_mx P j) (by rw [mi_sl_len]; exact hwt)
  rw [lg_entry_eq]
  generalize (lg_sl (as.map (mi_v b B)) ++ List.replicate (mi_mx P j - (lg_sl (as.map (mi_v b B))).length) Slot.unset).toArray = ls at hl ⊢
  rw [mi_lm_args] at hl
  refine mi_run_ok (R := mi_rm (d + 1) h h') (n0 := h.1) (s0 := h.2.1) (o := o) (h' := h') hZT hprim hok hx hb hml htab hts hown (fun z => by rw [hname]; exact z) hK hX hbl hbB hZ (by show 10 + d + 1 ≤ 10 + (d + 1); omega) (Nat.le_refl _) (fun k as g o g' z => ⟨hcall k as g o g' z, mi_call_le d k as g o g' z⟩)
    (by show h'.1 ≤ h.1 + (h'.1 - h.1); omega) (by show h'.2.1 ≤ h.2.1 + (h'.2.1 - h.2.1); omega) ?_ ?_ ?_ fuel 0 (lv_args 0 as) [] h hrun ls s.heap [] 0 0 hl hR va_S.rf rfl rfl
  · -- returns
    intro pc i st v ls H locs cells slots ho hi hv hR1 hS1 z1 z2
    have hd := (mi_dec_ok ((hok.2.2.2.2 j).2.1 pc i hi)).1
    have c1 : cells = h'.1 - h.1 := by omega
    have c2 : slots = h'.2.1 - h.2.1 := by omega
    subst c1; subst c2; subst ho
    refine vx_ret ?_
    have hq : ∀ t : State, t.heap = H → s.WarmedH t.vm → ∀ w : Option Value, w = v → mi_QO D cl tA b B (.inl v) h' (as.map (mi_v b B)).toArray s (.returned (w.map (mi_v b B))) t := fun t ht hW w hw => ⟨v, rfl, by rw [hw], by rw [ht]; exact hR1, hS1.F ht⟩
    unfold mi_ret at hv
    split at hv
    · split at hv
      · next x rt hrt => cases hv; exact W.iret (v := x) hx hb (hr.trans hrt) (fun t ht hW => hq t ht hW _ rfl) hS1.2.2 (hd rfl)
      · next x rt hrt =>
        split at hv
        · next hz => cases hv; exact W.zret (v := x) (ty := .boolean) hx hb (hr.trans hrt) (mi_fit_ok hz (fun _ => 0) 0).1 (fun t ht hW => hq t ht hW _ rfl) hS1.2.2 (hd rfl)
        · cases hv
      · cases hv
    · split at hv
      · next x rt hrt => cases hv; exact W.lret (v := x) hx hb (hr.trans hrt) (fun t ht hW => hq t ht hW _ rfl) hS1.2.2 (hd rfl)
      · cases hv
    · split at hv
      · next a rt C hrt => cases hv; exact W.aret (v := .ref (mi_ad b B a)) hx hb (hr.trans hrt) (Or.inl ⟨_, rfl⟩) (Or.inr ⟨_, rfl⟩) (fun t ht hW => hq t ht hW _ rfl) hS1.2.2 (hd rfl)
      · cases hv
    · split at hv
      · next a rt C hrt => cases hv; exact W.aret (v := .ref (b (a + 1))) hx hb (hr.trans hrt) (Or.inl ⟨_, rfl⟩) (Or.inr ⟨_, rfl⟩) (fun t ht hW => hq t ht hW _ rfl) hS1.2.2 (hd rfl)
      · cases hv
    · split at hv
      · next rt hrt => cases hv; exact W.vret hx hb (hr.trans hrt) (fun t ht hW => hq t ht hW _ rfl) hS1.2.2 (hd rfl)
      · cases hv
    · cases hv
  · -- throws
    intro pc E h1 ls H locs cells slots ho hE he hsz hR1 hS1 z1 z2
    obtain ⟨text, names, ik, is, ic, tt, hsk, hfE, hfn, hnl, w1, w2, w3, w4, hhe, d0, d3, d4, d6, d9⟩ := (hok.2.2.2.2 j).2.2.2.1 pc E hE
    have hstr := hZ.2.2.1 _ hsk
    have hcl := hok.2.2.2.1
    subst he; subst ho
    have y1 : (mi_push h1 6 mi_dead).1 = h1.1 + 1 := rfl
    have y2 : (mi_push h1 6 mi_dead).2.1 = h1.2.1 + 6 := rfl
    have hnil : c.exceptionTable.toList = [] := by
      rw [htab]
      rw [List.isEmpty_iff.mp hhe]
      rfl
    refine mi_throwS hx hb htr hown hfE hfn (hts _ w1) (hts _ w2) hstr (fun w hw => hts w (w3 w hw)) w4 hZ.1 hZ.2.1 hS1 (by rw [hml]; exact hsz) d0 d3 d4 d6 d9 (by rw [hnil]; intro x hx9; cases hx9) ?_ ?_ ?_ ?_ hlocks ?_ hS1.2.2 ?_ ?_
    · show names.length + 3 < 10 + (d + 1); omega
    · show 0 + (13 * (names.length + 1) + 43) ≤ 200 + 64 * (d + 1); omega
    · show cells + 1 ≤ (mi_push h1 6 mi_dead).1 - h.1; omega
    · show slots + 6 ≤ (mi_push h1 6 mi_dead).2.1 - h.2.1; omega
    · intro t ht hz9 ho9
      refine ⟨rfl, mi_push_ok hR1 hz9 ho9 ?_, mi_F_of hS1 (by omega) ho9⟩
      intro r hr9
      have : (1000000 : Nat) < cl.length := (List.getElem?_eq_some_iff.mp hr9).1
      omega
    · omega
    · omega
  · -- lets a throw through
    intro pc E q9 ce ls H locs cells slots rest ho hhe hR1 hS1 z1 z2 hce hcv hcl9
    have hnil : c.exceptionTable.toList = [] := by
      rw [htab]
      rw [List.isEmpty_iff.mp hhe]
      rfl
    subst ho
    exact vx_out (by rw [hnil]; intro x hx9; cases hx9) hlocks hce hcv hcl9 (fun t ht hW => ⟨rfl, by rw [ht]; exact hR1, hS1.F ht⟩) hS1.2.2 (by omega) (by omega)
/-- THE CONTRACT of every call that the small machine has run to its end -/
theorem mi_sound (hZT : mi_sta B ZT) (hprim : mi_prim b B GT P ZT) (hok : mi_ok GT cl P SK NC) (htr : l.stackTraces = false) (hbB : b 0 < B) : ∀ (d j : Nat) (as : List Value) (h : mi_H) (o : mi_O) (h' : mi_H), mi_call P L xs fuel d j as h = some (o, h') → mi_Met D cl tA b B L xs SK NC ZT GT P l d j as h o h' := by
  intro d
  induction d with
  | zero => intro j as h o h' hc; cases hc
  | succ d ih =>
    intro j as h o h' hc
    unfold mi_call at hc
    split at hc
    · next hwt =>
      have hpl := (hok.2.2.2.2 j).2.2.2.2.2.1
      unfold mi_Met
      by_cases hhe : (mi_hh P j).isEmpty = true
      · have hcw : mi_cw P j = Cond.code (mi_nm P j) (mi_cd P j) (mi_mx P j) (mi_rt P j) := by unfold mi_cw; rw [if_pos hhe]
        refine mi_ofW (cc := mi_cd P j) (maxL := mi_mx P j) (ret := mi_rt P j) (ws' := GT) hpl (by unfold mi_ws; rw [hcw]) ?_
        intro p e s m args below meth c s₁ Bd hml hnone hPc
        have hts := atoms_spec (ws := mi_ws GT P j) Bd.pre
        refine mi_body hZT hprim hok htr hbB ih Bd.exec Bd.bytes hml Bd.returns Bd.notSynchronized ?_ (fun w hw => hts w (List.mem_cons_of_mem _ hw)) (findClass_of_methodNamed Bd.named) (name_of_methodNamed Bd.named Bd.method).1 hPc hwt hc
        rw [List.isEmpty_iff.mp hhe]
        exact List.eq_nil_iff_forall_not_mem.mpr hnone
      · have hcw : mi_cw P j = Cond.codeWith (mi_nm P j) (mi_cd P j) (mi_mx P j) (mi_rt P j) (mi_hh P j) := by unfold mi_cw; rw [if_neg hhe]
        refine mi_ofWH (cc := mi_cd P j) (maxL := mi_mx P j) (ret := mi_rt P j) (hh := mi_hh P j) (ws' := GT) hpl (by unfold mi_ws; rw [hcw]) ?_
        intro p e s m args below meth c s₁ Bd hml hPc
        have hts := atoms_spec (ws := mi_ws GT P j) Bd.pre
        refine mi_body hZT hprim hok htr hbB ih Bd.exec Bd.bytes hml Bd.returns Bd.notSynchronized ?_ (fun w hw => hts w (List.mem_cons_of_mem _ hw)) (findClass_of_methodNamed Bd.named) (name_of_methodNamed Bd.named Bd.method).1 hPc hwt hc
        have h9 := hts (mi_cw P j) List.mem_cons_self
        rw [hcw] at h9
        exact vx_table (x := mi_nm P j) Bd h9
    · cases hc
end MiSound
end
