section
/-! ===== BEGIN words of one list among another's, by their places ===== -/
theorem goodIn_r {big : List Cond} (ws : List Cond) (ps : List Nat) (hp : ws = ps.filterMap (fun i => big[i]?)) (h : ws.all goodWord = true) : GoodIn big ws := by
  intro w hw
  have h1 := List.all_eq_true.mp h w hw
  rw [hp] at hw
  obtain ⟨i, -, hi⟩ := List.mem_filterMap.mp hw
  have hm : w ∈ big := by first | exact List.mem_of_getElem? hi | exact List.getElem?_mem hi
  exact ⟨hm, good_of_word h1⟩
theorem goodIn_app {big a b : List Cond} (ha : GoodIn big a) (hb : GoodIn big b) : GoodIn big (a ++ b) := fun w h => (List.mem_append.mp h).elim (ha w) (hb w)
theorem goodIn_ca {big a b : List Cond} {c : Cond} (ha : GoodIn big (c :: a)) (hb : GoodIn big b) : GoodIn big (c :: (a ++ b)) := fun w h => (List.mem_cons.mp h).elim (fun e => ha w (List.mem_cons.mpr (Or.inl e))) (fun h => (List.mem_append.mp h).elim (fun h => ha w (List.mem_cons.mpr (Or.inr h))) (hb w))
theorem goodIn_sub {big ws : List Cond} (hm : ∀ w ∈ ws, w ∈ big) (h : ws.all goodWord = true) : GoodIn big ws := fun w hw => ⟨hm w hw, good_of_word (List.all_eq_true.mp h w hw)⟩
/-! ===== END ===== -/

/-! ===== BEGIN exceptions that leave a method, and their catching by the caller (launches without stack traces) ===== -/
section VXA
/-! The laws vx_back, vx_callV, vx_callS, vx_callSW, vx_throw0, vx_throwS follow proofs of the library, with one case more: JvmDerived/Free/Laws.lean (Back.of_free), Shelf42/LK1.lean (callV, callS), Shelf/KitTraced.lean (throwNew0V, throwNewS). -/
/-- where a method has thrown q: the class by its name, the cell, what was written, the world -/
def vx_T (XC : String → State → State → Prop) (st : State) (q : Addr) (t : State) (mc ms : Nat) (free : Addr → Prop) : Prop :=
  ∃ (E : String) (ce : Cell) (L : List Loc), XC E st t ∧ t.heap[q]? = some ce ∧ ce.vm = .none ∧ st.vm.findClass E = some ce.cls ∧ st.WarmedH t.vm ∧ st.sameButNew ({ t with vm := st.vm } : State) L mc ms ∧ ∀ z ∈ L, free z.base
def vx_Q (Qc : Array Value → State → Outcome → State → Prop) (XC : String → State → State → Prop) (mc ms : Nat) (free : Addr → Prop) : Array Value → State → Outcome → State → Prop := fun a st o t =>
  (Qc a st o t ∧ ∃ L, FrameEnd st o t L mc ms ∧ ∀ q ∈ L, free q.base) ∨ ∃ q, o = .threw q ∧ vx_T XC st q t mc ms free
/-- a callee that returns or throws -/
def vx_Met (l : Launch) (y : MethodName) (ws : List Cond) (rm : Room) (Pc : Array Value → State → Prop) (Qc : Array Value → State → Outcome → State → Prop) (XC : String → State → State → Prop) (mc ms : Nat) (free : Addr → Prop) : Prop :=
  MetFree l y (headSpec ws rm) Pc (fun _ _ _ _ _ => True) (vx_Q Qc XC mc ms free)
def vx_Post (XC : String → State → State → Prop) (mc ms : Nat) (free : Addr → Prop) : Pt → Array Value → Addr → Pt → Prop := fun A a q B =>
  ∃ (g : JFrame) (mk : MethodId) (t : State) (L : List Loc) (E : String) (ce : Cell), B.U.heap = t.heap ∧ B.U.vm = t.vm ∧ XC E (A.U.calling g mk a) t ∧ t.heap[q]? = some ce ∧ ce.vm = .none ∧ A.U.vm.findClass E = some ce.cls ∧ B.locs = A.locs ++ L ∧ (∀ z ∈ L, free z.base) ∧ B.cells = A.cells + mc ∧ B.slots = A.slots + ms
def vx_Back (l : Launch) (R : Room) (p : Program) (e : Env) (below : List Frame) (s : State) (sargs : Array Value) (y : MethodName) (len W9 : Nat)
    (Pre : Pt → Array Value → Prop) (Post : Pt → Array Value → Option Value → Pt → Prop) (PostX : Pt → Array Value → Addr → Pt → Prop) : Prop :=
  ∀ (m : MethodId) (meth : Method) (c : Code) (A : Pt) (g : JFrame) (ig : Instr) (mk : MethodId) (a : Array Value),
    Stand p l e R s m sargs below meth c A.U A.locs A.cells A.slots → g.method = m → g.locals.size = c.maxLocals → decode c.code g.pc = .ok (ig, len) →
    2 * g.monitorRoom + (g.stack.map fun v => v.category).sum ≤ W9 → A.U.methodNamed? y = some mk → Pre A a →
    (∃ (v : Option Value) (B : Pt), Stand p l e R s m sargs below meth c B.U B.locs B.cells B.slots ∧ Post A a v B ∧
      Steps p.tables e below (doInvoke e (A.U.setTop g) [] mk a).1 (B.U.setTop { g with pc := g.pc + len, stack := v.toList ++ g.stack })) ∨
    (∃ (q : Addr) (B : Pt), Stand p l e R s m sargs below meth c B.U B.locs B.cells B.slots ∧ PostX A a q B ∧
      Steps p.tables e below (doInvoke e (A.U.setTop g) [] mk a).1 ((B.U.setTop g).pushFrame (.throwing q)))
section Payer
variable {l : Launch} {R : Room} {p : Program} {e : Env} {below : List Frame} {s : State} {sargs : Array Value} {y : MethodName} {len W9 : Nat}
theorem vx_back {ws : List Cond} {rm : Room} {Pc : Array Value → State → Prop} {Qc : Array Value → State → Outcome → State → Prop} {XC : String → State → State → Prop} {mc ms : Nat} {free : Addr → Prop} {bytes : ByteArray} {maxL : Nat} {ret : Option FieldType}
    (hM : vx_Met l y ws rm Pc Qc XC mc ms free) (hblind : FrameBlind Pc) (hrc : rm.cells = mc) (hrs : rm.slots = ms)
    (hframes : rm.frames + 1 ≤ R.frames) (hlocals : W9 + (maxL + 11) + rm.locals ≤ R.locals)
    (hws : ∀ w ∈ ws, ∀ a' U, s.WarmedH U.vm → w.before a' U = true) (hcode : Cond.code y bytes maxL ret ∈ ws) (hinit : ∀ a' U, s.WarmedH U.vm → (Cond.initialized y.cls).before a' U = true) :
    vx_Back l R p e below s sargs y len W9 (PreOf R mc ms Pc) (PostOf Qc mc ms free) (vx_Post XC mc ms free) := by
  intro m meth c A g ig mk a X hg hsize hdg hW hn hp
  have h1 : (headSpec ws rm).pre.before a A.U = true := atoms_intro fun w hw => hws w hw _ _ X.warmed
  have h2 : (Cond.code y bytes maxL ret).before a A.U = true := hws _ hcode _ _ X.warmed
  have h3 : (Cond.initialized y.cls).before a A.U = true := hinit _ _ X.warmed
  have h4 : A.cells + (headSpec ws rm).room.cells ≤ R.cells := by rw [show (headSpec ws rm).room.cells = mc from hrc]; exact hp.1
  have h5 : A.slots + (headSpec ws rm).room.slots ≤ R.slots := by rw [show (headSpec ws rm).room.slots = ms from hrs]; exact hp.2.1
  have hPc : Pc a (A.U.calling g mk a) := hblind _ _ _ _ hp.2.2
  obtain ⟨U, Ls, c0, s0⟩ := A
  dsimp only [Pt.U, Pt.locs, Pt.cells, Pt.slots] at h1 h2 h3 h4 h5 X hn hPc ⊢
  obtain ⟨methY, cY, hmY, hcY, -, hlY, -, -, -, -⟩ := Cond.code_spec hn h2
  obtain ⟨kY, hkY, -⟩ := className_of_methodNamed hn
  have hinitY : kY.init = .initialized := Cond.initialized_spec (findClass_of_methodNamed hn) hkY h3
  have h : At U g.method c below := by rw [hg]; exact X.here
  have hlocals9 : W9 + (maxL + 11) + (headSpec ws rm).room.locals ≤ R.locals := hlocals
  have happ : (headSpec ws rm).appliesLoose y e.platform (U.calling g mk a) = true :=
    Spec.appliesLoose_calling (g := g) h hdg hn hkY hinitY
      (X.room_calling (g := g) (R' := (headSpec ws rm).room) hsize hmY hcY hframes (by rw [hlY]; omega) h4 h5) h1
  obtain ⟨mid, hmid⟩ := h.above
  have hfr : (U.setTop g).frames = (.java g :: mid) ++ below := by rw [State.frames_setTop' g h.top, hmid]; rfl
  obtain ⟨o, s₂, hsteps, -, hend, hq⟩ := Steps.callFree hM p X.admits X.cas X.clock (acts := []) hfr happ hPc trivial
  have hq' : vx_Q Qc XC mc ms free a (U.calling g mk a) o s₂ := hq
  rw [State.frames_setTop' g h.top] at hend
  obtain ⟨g₀, hg0⟩ := Option.isSome_iff_exists.mp h.top
  obtain ⟨r, hr⟩ := State.topJava?_eq_some.mp hg0
  have hr' : (({ U with heap := s₂.heap, slotsUsed := s₂.slotsUsed } : State).setVm s₂.vm).frames = .java g₀ :: r := hr
  rcases hq' with ⟨hqc, L, hfe, hL⟩ | ⟨q, rfl, E, ce, L, hx, hce, hcv, hcl, hW₂, hsm, hL⟩
  · obtain ⟨⟨v, rfl⟩, hW₂, e2, q2, q3, q4, q5, q6⟩ := id hfe
    have e3 : s₂ = ({ (U.calling g mk a).setFrames s₂.frames with heap := s₂.heap, slotsUsed := s₂.slotsUsed } : State).setVm s₂.vm := by
      have : s₂ = ({ s₂ with vm := (U.calling g mk a).vm } : State).setVm s₂.vm := rfl
      rw [e2] at this
      exact this
    obtain ⟨c₂, i₂, len₂, hc₂, hd₂, hf₂⟩ := hend
    have hW' : U.WarmedH s₂.vm := hW₂
    have hcc : c₂ = c := by
      have h1 : s₂.code? g.method = U.code? g.method := by
        rw [State.code?_eq, State.code?_eq, hW'.alike.method?]
      exact Option.some.inj (hc₂.symm.trans (h1.trans h.code))
    subst hcc
    have hlen : len₂ = len := by rw [hdg] at hd₂; cases hd₂; rfl
    subst hlen
    have hs₂ : s₂ = (({ U with heap := s₂.heap, slotsUsed := s₂.slotsUsed } : State).setVm s₂.vm).setTop { g with pc := g.pc + len₂, stack := v.toList ++ g.stack } := by
      refine e3.trans ?_
      rw [hf₂, State.calling_eq h.top, State.setFrames_setFrames, State.setTop_of_frames _ hr', hr]
      rfl
    have hsame : U.sameButNew ({ U with heap := s₂.heap, slotsUsed := s₂.slotsUsed } : State) L mc ms := by
      refine ⟨?_, q2, q3, q4, q5, q6⟩
      obtain ⟨t, ht, -⟩ := State.frames_cons hr
      show ({ U with heap := s₂.heap, slotsUsed := s₂.slotsUsed } : State) = { U.setFrames U.frames with heap := s₂.heap, slotsUsed := s₂.slotsUsed }
      rw [State.setFrames_self ht]
    subst hg
    refine Or.inl ⟨v, ⟨(({ U with heap := s₂.heap, slotsUsed := s₂.slotsUsed } : State).setVm s₂.vm), Ls ++ L, c0 + mc, s0 + ms⟩,
      ⟨X.admits, X.cas, X.clock, X.frames, X.room, X.hears, X.method, X.code, (X.here.setHeapUsed s₂.heap s₂.slotsUsed).setVm hW'.alike, X.tail, State.WarmedH.trans X.warmed hW', X.limits, X.bytes, X.same.trans (hsame.setVm s.vm)⟩,
      ⟨g, mk, s₂, L, rfl, rfl, hqc, rfl, hL, rfl, rfl⟩, ?_⟩
    show Steps p.tables e below _ ((({ U with heap := s₂.heap, slotsUsed := s₂.slotsUsed } : State).setVm s₂.vm).setTop { g with pc := g.pc + len₂, stack := v.toList ++ g.stack })
    rw [← hs₂]
    exact hsteps
  · obtain ⟨e2, q2, q3, q4, q5, q6⟩ := id hsm
    have e3 : s₂ = ({ (U.calling g mk a).setFrames s₂.frames with heap := s₂.heap, slotsUsed := s₂.slotsUsed } : State).setVm s₂.vm := by
      have : s₂ = ({ s₂ with vm := (U.calling g mk a).vm } : State).setVm s₂.vm := rfl
      rw [e2] at this
      exact this
    have hf₂ : s₂.frames = .throwing q :: .java g :: U.frames.tail := hend
    have hW' : U.WarmedH s₂.vm := hW₂
    have hs₂ : s₂ = ((({ U with heap := s₂.heap, slotsUsed := s₂.slotsUsed } : State).setVm s₂.vm).setTop g).pushFrame (.throwing q) := by
      refine e3.trans ?_
      rw [hf₂, State.calling_eq h.top, State.setFrames_setFrames, State.pushFrame, State.frames_setTop _ hr', State.setTop_of_frames _ hr', State.setFrames_setFrames, hr]
      rfl
    have hsame : U.sameButNew ({ U with heap := s₂.heap, slotsUsed := s₂.slotsUsed } : State) L mc ms := by
      refine ⟨?_, q2, q3, q4, q5, q6⟩
      obtain ⟨t, ht, -⟩ := State.frames_cons hr
      show ({ U with heap := s₂.heap, slotsUsed := s₂.slotsUsed } : State) = { U.setFrames U.frames with heap := s₂.heap, slotsUsed := s₂.slotsUsed }
      rw [State.setFrames_self ht]
    subst hg
    refine Or.inr ⟨q, ⟨(({ U with heap := s₂.heap, slotsUsed := s₂.slotsUsed } : State).setVm s₂.vm), Ls ++ L, c0 + mc, s0 + ms⟩,
      ⟨X.admits, X.cas, X.clock, X.frames, X.room, X.hears, X.method, X.code, (X.here.setHeapUsed s₂.heap s₂.slotsUsed).setVm hW'.alike, X.tail, State.WarmedH.trans X.warmed hW', X.limits, X.bytes, X.same.trans (hsame.setVm s.vm)⟩,
      ⟨g, mk, s₂, L, E, ce, rfl, rfl, hx, hce, hcv, hcl, rfl, hL, rfl, rfl⟩, ?_⟩
    show Steps p.tables e below _ (((({ U with heap := s₂.heap, slotsUsed := s₂.slotsUsed } : State).setVm s₂.vm).setTop g).pushFrame (.throwing q))
    rw [← hs₂]
    exact hsteps
end Payer
section Calls
variable {p : Program} {l : Launch} {e : Env} {R : Room} {s : State} {m : MethodId} {args : Array Value} {below : List Frame} {meth : Method} {c : Code} {T : State} {locs : List Loc} {cells slots : Nat}
theorem vx_callV (X : Stand p l e R s m args below meth c T locs cells slots) (hexec : p.tables.exec = Jvm.exec) {own C : String} {index : Nat} {y : MethodName} {bytes : ByteArray} {maxL : Nat} {ret : Option FieldType}
    (hown : s.vm.findClass own = some m.cls) (hlink : (Cond.methodLink own index y).before args s = true) (hinst : (Cond.instanceMethod y).before args s = true) (hsel : (Cond.selects C y y).before args s = true)
    (hcode : (Cond.code y bytes maxL ret).before args s = true) (hy : y.cls ≠ "java/lang/invoke/MethodHandle" ∧ y.cls ≠ "java/lang/invoke/VarHandle")
    {W9 : Nat} {Pre : Pt → Array Value → Prop} {Post : Pt → Array Value → Option Value → Pt → Prop} {PostX : Pt → Array Value → Addr → Pt → Prop} (hK : vx_Back l R p e below s args y 3 W9 Pre Post PostX)
    {b : Addr} {cellB : Cell} (hcell : T.heap[b]? = some cellB) (hobj : cellB.vm.isStatics = false) (hcls : s.vm.findClass C = some cellB.cls)
    {g : JFrame} (hg : g.method = m) (hsize : g.locals.size = c.maxLocals) {argsL rest : List Value} (hlen : ∀ sig, parseMethodDescriptor y.desc = some sig → argsL.length = sig.parameters.length)
    (hstack : g.stack = argsL.reverse ++ .ref b :: rest) (hW : 2 * g.monitorRoom + (rest.map fun v => v.category).sum ≤ W9) (hdg : decode c.code g.pc = .ok (.invokevirtual index, 3))
    (hpre : ∀ vm₁, s.WarmedH vm₁ → Pre ⟨T.setVm vm₁, locs, cells, slots⟩ (Value.ref b :: argsL).toArray) :
    (∃ (v : Option Value) (vm₁ : Vm) (B : Pt), s.WarmedH vm₁ ∧ Stand p l e R s m args below meth c B.U B.locs B.cells B.slots ∧ Post ⟨T.setVm vm₁, locs, cells, slots⟩ (Value.ref b :: argsL).toArray v B ∧
      ∀ target, Steps p.tables e below (B.U.setTop { g with pc := g.pc + 3, stack := v.toList ++ rest }) target → Steps p.tables e below (T.setTop g) target) ∨
    (∃ (q : Addr) (vm₁ : Vm) (B : Pt), s.WarmedH vm₁ ∧ Stand p l e R s m args below meth c B.U B.locs B.cells B.slots ∧ PostX ⟨T.setVm vm₁, locs, cells, slots⟩ (Value.ref b :: argsL).toArray q B ∧
      Steps p.tables e below (T.setTop g) ((B.U.setTop { g with stack := rest }).pushFrame (.throwing q))) := by
  obtain ⟨mk, methM, hnamed, hmethM, hstM, habM⟩ := Cond.instanceMethod_spec hinst
  obtain ⟨methM', cM, hmethM', -, -, -, -, -, -, hsigM⟩ := Cond.code_spec hnamed hcode
  cases hmethM.symm.trans hmethM'
  obtain ⟨c2, r2, m2, q1, q2, q3, q4, kP, hkP, hkPi⟩ := Cond.selects_spec hsel
  cases hcls.symm.trans q1
  cases (State.methodFound?_of_named hnamed hy).symm.trans q2
  cases hnamed.symm.trans q3
  have hselP : selectMethod e.platform s.vm cellB.cls mk = .method mk := by rw [Launch.admits_selectMethod X.admits]; exact q4
  obtain ⟨vm₁, X₁, hstep₁⟩ := X.invokevirtual hexec hown hlink hnamed hmethM hstM hkP hkPi hy (a := b) (cell := cellB) hcell
    (fun z h => by rw [h] at hobj; cases hobj) hselP hmethM habM hkP hkPi (g := g) hg (argsL := argsL) (rest := rest) (hlen _ hsigM) hstack hdg
  rcases hK m meth c ⟨T.setVm vm₁, locs, cells, slots⟩ { g with stack := rest } (.invokevirtual index) mk (Value.ref b :: argsL).toArray X₁ hg hsize hdg hW (X₁.named hnamed) (hpre vm₁ X₁.warmed) with ⟨v, B, X', hpost, hsteps⟩ | ⟨q, B, X', hpost, hsteps⟩
  · exact Or.inl ⟨v, vm₁, B, X₁.warmed, X', hpost, fun target h => hstep₁ _ fun acts => by rw [doInvoke_state]; exact hsteps.trans h⟩
  · exact Or.inr ⟨q, vm₁, B, X₁.warmed, X', hpost, hstep₁ _ fun acts => by rw [doInvoke_state]; exact hsteps⟩
theorem vx_callS (X : Stand p l e R s m args below meth c T locs cells slots) (hexec : p.tables.exec = Jvm.exec) {own : String} {index : Nat} {y : MethodName} {bytes : ByteArray} {maxL : Nat} {ret : Option FieldType}
    (hown : s.vm.findClass own = some m.cls) (hlink : (Cond.methodLink own index y).before args s = true) (hstat : (Cond.static y).before args s = true) (hinit : (Cond.initialized y.cls).before args s = true)
    (hcode : (Cond.code y bytes maxL ret).before args s = true) (hy : y.cls ≠ "java/lang/invoke/MethodHandle" ∧ y.cls ≠ "java/lang/invoke/VarHandle")
    {W9 : Nat} {Pre : Pt → Array Value → Prop} {Post : Pt → Array Value → Option Value → Pt → Prop} {PostX : Pt → Array Value → Addr → Pt → Prop} (hK : vx_Back l R p e below s args y 3 W9 Pre Post PostX)
    {g : JFrame} (hg : g.method = m) (hsize : g.locals.size = c.maxLocals) {argsL rest : List Value} (hlen : ∀ sig, parseMethodDescriptor y.desc = some sig → argsL.length = sig.parameters.length)
    (hstack : g.stack = argsL.reverse ++ rest) (hW : 2 * g.monitorRoom + (rest.map fun v => v.category).sum ≤ W9) (hdg : decode c.code g.pc = .ok (.invokestatic index, 3))
    (hpre : ∀ vm₁, s.WarmedH vm₁ → Pre ⟨T.setVm vm₁, locs, cells, slots⟩ argsL.toArray) :
    (∃ (v : Option Value) (vm₁ : Vm) (B : Pt), s.WarmedH vm₁ ∧ Stand p l e R s m args below meth c B.U B.locs B.cells B.slots ∧ Post ⟨T.setVm vm₁, locs, cells, slots⟩ argsL.toArray v B ∧
      ∀ target, Steps p.tables e below (B.U.setTop { g with pc := g.pc + 3, stack := v.toList ++ rest }) target → Steps p.tables e below (T.setTop g) target) ∨
    (∃ (q : Addr) (vm₁ : Vm) (B : Pt), s.WarmedH vm₁ ∧ Stand p l e R s m args below meth c B.U B.locs B.cells B.slots ∧ PostX ⟨T.setVm vm₁, locs, cells, slots⟩ argsL.toArray q B ∧
      Steps p.tables e below (T.setTop g) ((B.U.setTop { g with stack := rest }).pushFrame (.throwing q))) := by
  obtain ⟨mk, hnamed⟩ := Cond.code_named hcode
  obtain ⟨methM, cM, hmethM, -, -, -, -, -, -, hsigM⟩ := Cond.code_spec hnamed hcode
  have hstatic : methM.isStatic = true := Cond.static_spec hnamed hmethM hstat
  obtain ⟨kP, hkP, -⟩ := className_of_methodNamed hnamed
  have hinitP : kP.init = .initialized := Cond.initialized_spec (findClass_of_methodNamed hnamed) hkP hinit
  obtain ⟨vm₁, X₁, hstep₁⟩ := X.invokestatic hexec hown hlink hnamed hmethM hstatic hkP hinitP hy (g := g) hg (argsL := argsL) (rest := rest) (hlen _ hsigM) hstack hdg
  rcases hK m meth c ⟨T.setVm vm₁, locs, cells, slots⟩ { g with stack := rest } (.invokestatic index) mk argsL.toArray X₁ hg hsize hdg hW (X₁.named hnamed) (hpre vm₁ X₁.warmed) with ⟨v, B, X', hpost, hsteps⟩ | ⟨q, B, X', hpost, hsteps⟩
  · exact Or.inl ⟨v, vm₁, B, X₁.warmed, X', hpost, fun target h => hstep₁ _ fun acts => by rw [doInvoke_state]; exact hsteps.trans h⟩
  · exact Or.inr ⟨q, vm₁, B, X₁.warmed, X', hpost, hstep₁ _ fun acts => by rw [doInvoke_state]; exact hsteps⟩
end Calls
theorem vx_cls {s : State} {T : State} {vm₁ : Vm} {E : String} {k : ClassId} (hW : s.WarmedH vm₁) (h : (T.setVm vm₁).vm.findClass E = some k) : s.vm.findClass E = some k := by
  have h1 : vm₁.findClass E = some k := h
  rw [hW.alike.findClass] at h1
  exact h1
/-- the method's frame g, with q thrown over it -/
def vx_W (p : Program) (l : Launch) (e : Env) (R : Room) (s : State) (m : MethodId) (args : Array Value) (below : List Frame) (meth : Method) (c : Code) (H : Heap) (locs : List Loc) (cells slots : Nat) (Q : State → Prop) (g : JFrame) (q : Addr) : Prop :=
  ∀ T : State, T.heap = H → Stand p l e R s m args below meth c T locs cells slots → ∃ t, Steps p.tables e below ((T.setTop g).pushFrame (.throwing q)) t ∧ Q t
def vx_Run (p : Program) (l : Launch) (e : Env) (R : Room) (s : State) (m : MethodId) (args : Array Value) (below : List Frame) (meth : Method) (c : Code) (H : Heap) (locs : List Loc) (cells slots mc ms : Nat) (g : JFrame) (rest : List Value) (Qa : State → Outcome → State → Prop) (XC : String → State → State → Prop) (free : Addr → Prop) : Prop :=
  ∀ T : State, T.heap = H → Stand p l e R s m args below meth c T locs cells slots →
    (∃ (v : Option Value) (st₀ t T' : State) (L : List Loc), st₀.heap = H ∧ Stand p l e R s m args below meth c T' (locs ++ L) (cells + mc) (slots + ms) ∧ (∀ q ∈ L, free q.base) ∧ T'.heap = t.heap ∧ T'.vm = t.vm ∧ Qa st₀ (.returned v) t ∧
      Goes p e below T g T' { g with pc := g.pc + 3, stack := v.toList ++ rest }) ∨
    (∃ (q : Addr) (st₀ t T' : State) (L : List Loc) (E : String) (ce : Cell), st₀.heap = H ∧ Stand p l e R s m args below meth c T' (locs ++ L) (cells + mc) (slots + ms) ∧ (∀ z ∈ L, free z.base) ∧ T'.heap = t.heap ∧ T'.vm = t.vm ∧ XC E st₀ t ∧ t.heap[q]? = some ce ∧ ce.vm = .none ∧ s.vm.findClass E = some ce.cls ∧
      Steps p.tables e below (T.setTop g) ((T'.setTop { g with stack := rest }).pushFrame (.throwing q)))
def vx_X {S : Type} (px : S → Prop) (B : String → S → State → Prop) (A : Nat → Prop) : String → State → State → Prop := fun E st t => ∃ u : S, px u ∧ B E u t ∧ va_F A st t
section Runs
variable {p : Program} {l : Launch} {e : Env} {R : Room} {s : State} {m : MethodId} {args : Array Value} {below : List Frame} {meth : Method} {c : Code} {H : Heap} {locs : List Loc} {cells slots : Nat}
variable {y : MethodName} {bytes cc : ByteArray} {maxL nL mc ms n index : Nat} {ret : Option FieldType} {ws : List Cond} {rm : Room} {Pc : Array Value → State → Prop} {Qc : Array Value → State → Outcome → State → Prop} {XC : String → State → State → Prop} {free : Addr → Prop} {Ts : List Cond} {own C : String} {b : Addr} {As rest : List Value} {g : JFrame}
theorem vx_callBack (cb : CallB R s args own index y bytes maxL ret ws rm mc ms n) (hM : vx_Met l y ws rm Pc Qc XC mc ms free) (hbl : FrameBlind Pc) : vx_Back l R p e below s args y 3 8 (PreOf R mc ms Pc) (PostOf Qc mc ms free) (vx_Post XC mc ms free) := by
  obtain ⟨hrc, hrs, hfr, hlo, hws, hcw, -, hini, -⟩ := cb
  exact vx_back (bytes := bytes) (maxL := maxL) (ret := ret) hM hbl hrc hrs hfr hlo hws hcw (fun a' U hW => word_at hW (Or.inl (by first | rfl | simp [Cond.onTables, Cond.keeps, Cond.steady])) hini)
theorem vx_runV (S : CallFix p m c cc nL s args Ts own) (hM : vx_Met l y ws rm Pc Qc XC mc ms free) (cw : CallW R s args own C index y bytes maxL ret ws rm mc ms n) (hp : PreV s H C b Pc As)
    (hg : g.method = m) (hn : As.length = n) (hsize : g.locals.size = nL) (hstack : g.stack = As.reverse ++ .ref b :: rest) (hW : 2 * g.monitorRoom + (rest.map fun v => v.category).sum ≤ 8) (hdg : decode cc g.pc = .ok (.invokevirtual index, 3)) (hf : cells + mc ≤ R.cells ∧ slots + ms ≤ R.slots) :
    vx_Run p l e R s m args below meth c H locs cells slots mc ms g rest (Qc (Value.ref b :: As).toArray) XC free := by
  have hK : vx_Back l R p e below s args y 3 8 (PreOf R mc ms Pc) (PostOf Qc mc ms free) (vx_Post XC mc ms free) := vx_callBack cw.1 hM hp.1
  obtain ⟨⟨-, -, -, -, -, -, hcode, -, hy, hlen, hl⟩, hin, hse⟩ := cw
  obtain ⟨hx, hb, hml, ho, -⟩ := S
  obtain ⟨-, ⟨cellB, hcB, hoB, hclB⟩, hPc⟩ := hp
  intro T hT X
  rcases vx_callV X hx (C := C) (bytes := bytes) (maxL := maxL) (ret := ret) ho hl hin hse hcode hy hK (by rw [hT]; exact hcB) hoB hclB hg (hsize.trans hml.symm) (argsL := As) (rest := rest) (fun sig h => hn.trans (hlen sig h)) hstack hW (by rw [hb]; exact hdg)
    (fun vm₁ hW₁ => ⟨hf.1, hf.2, hPc (T.setVm vm₁) hT hW₁⟩) with ⟨v, vm₁, ⟨U', l2, c2, s2⟩, hW₁, X', ⟨g', mk, t, L, e1, e2, hq, h1, hL, h2, h3⟩, st⟩ | ⟨q, vm₁, ⟨U', l2, c2, s2⟩, hW₁, X', ⟨g', mk, t, L, E, ce, e1, e2, hq, hce, hcv, hcl, h1, hL, h2, h3⟩, st⟩
  · dsimp only [Pt.U, Pt.locs, Pt.cells, Pt.slots] at X' e1 e2 h1 h2 h3 st
    subst h1; subst h2; subst h3
    exact Or.inl ⟨v, (T.setVm vm₁).calling g' mk (Value.ref b :: As).toArray, t, U', L, hT, X', hL, e1, e2, hq, st⟩
  · dsimp only [Pt.U, Pt.locs, Pt.cells, Pt.slots] at X' e1 e2 h1 h2 h3 st hcl
    subst h1; subst h2; subst h3
    exact Or.inr ⟨q, (T.setVm vm₁).calling g' mk (Value.ref b :: As).toArray, t, U', L, E, ce, hT, X', hL, e1, e2, hq, hce, hcv, vx_cls hW₁ hcl, st⟩
theorem vx_runS (S : CallFix p m c cc nL s args Ts own) (hM : vx_Met l y ws rm Pc Qc XC mc ms free) (cw : CallB R s args own index y bytes maxL ret ws rm mc ms n ∧ (Cond.static y).before args s = true) (hp : PreS s H Pc As)
    (hg : g.method = m) (hn : As.length = n) (hsize : g.locals.size = nL) (hstack : g.stack = As.reverse ++ rest) (hW : 2 * g.monitorRoom + (rest.map fun v => v.category).sum ≤ 8) (hdg : decode cc g.pc = .ok (.invokestatic index, 3)) (hf : cells + mc ≤ R.cells ∧ slots + ms ≤ R.slots) :
    vx_Run p l e R s m args below meth c H locs cells slots mc ms g rest (Qc As.toArray) XC free := by
  have hK : vx_Back l R p e below s args y 3 8 (PreOf R mc ms Pc) (PostOf Qc mc ms free) (vx_Post XC mc ms free) := vx_callBack cw.1 hM hp.1
  obtain ⟨⟨-, -, -, -, -, -, hcode, hini, hy, hlen, hl⟩, hstt⟩ := cw
  obtain ⟨hx, hb, hml, ho, -⟩ := S
  intro T hT X
  rcases vx_callS X hx (bytes := bytes) (maxL := maxL) (ret := ret) ho hl hstt hini hcode hy hK hg (hsize.trans hml.symm) (argsL := As) (rest := rest) (fun sig h => hn.trans (hlen sig h)) hstack hW (by rw [hb]; exact hdg)
    (fun vm₁ hW₁ => ⟨hf.1, hf.2, hp.2 (T.setVm vm₁) hT hW₁⟩) with ⟨v, vm₁, ⟨U', l2, c2, s2⟩, hW₁, X', ⟨g', mk, t, L, e1, e2, hq, h1, hL, h2, h3⟩, st⟩ | ⟨q, vm₁, ⟨U', l2, c2, s2⟩, hW₁, X', ⟨g', mk, t, L, E, ce, e1, e2, hq, hce, hcv, hcl, h1, hL, h2, h3⟩, st⟩
  · dsimp only [Pt.U, Pt.locs, Pt.cells, Pt.slots] at X' e1 e2 h1 h2 h3 st
    subst h1; subst h2; subst h3
    exact Or.inl ⟨v, (T.setVm vm₁).calling g' mk As.toArray, t, U', L, hT, X', hL, e1, e2, hq, st⟩
  · dsimp only [Pt.U, Pt.locs, Pt.cells, Pt.slots] at X' e1 e2 h1 h2 h3 st hcl
    subst h1; subst h2; subst h3
    exact Or.inr ⟨q, (T.setVm vm₁).calling g' mk As.toArray, t, U', L, E, ce, hT, X', hL, e1, e2, hq, hce, hcv, vx_cls hW₁ hcl, st⟩
end Runs
section Rows
variable {p : Program} {l : Launch} {e : Env} {R : Room} {s : State} {m : MethodId} {args : Array Value} {below : List Frame} {meth : Method} {c : Code} {H : Heap} {locs : List Loc} {cells slots : Nat} {Q : State → Prop}
variable {mc ms : Nat} {free : Addr → Prop} {A0 A1 : Nat → Prop} {H0 : Heap} {a : Array Value} {pc : Nat} {ls : Array Slot} {st0 rest : List Value}
theorem vx_keep {st₀ t T' : State} {L : List Loc} (h0 : st₀.heap = H) (e1 : T'.heap = t.heap) (hS : va_S A0 H0 H locs) (hA : ∀ q, q < H.size → A1 q → A0 q) (hf : ∀ q, free q → A0 q) (hL : ∀ q ∈ L, free q.base) (hF : va_F A1 st₀ t) :
    H.size ≤ T'.heap.size ∧ (∀ q : Nat, q < H.size → ¬ A1 q → T'.heap[q]? = H[q]?) ∧ va_S A0 H0 T'.heap (locs ++ L) := by
  obtain ⟨hz, hk⟩ := hF
  rw [h0] at hz hk
  exact ⟨by rw [e1]; exact hz, fun q h1 h2 => by rw [e1]; exact hk q h1 h2,
    ⟨Nat.le_trans hS.1 (by rw [e1]; exact hz), fun q h1 h2 => by rw [e1, hk q (Nat.lt_of_lt_of_le h1 hS.1) (fun z => h2 (hA q (Nat.lt_of_lt_of_le h1 hS.1) z))]; exact hS.2.1 q h1 h2, fun q hq => by
      rcases List.mem_append.mp hq with h | h
      · exact hS.2.2 q h
      · exact hf _ (hL q h)⟩⟩
theorem vx_calli {S SX : Type} {post : Int32 → S → Prop} {px : SX → Prop} {B : S → State → Prop} {BX : String → SX → State → Prop} {AX : Nat → Prop} (hr : vx_Run p l e R s m args below meth c H locs cells slots mc ms (F0 m pc ls st0) rest (va_Qi post B A1 a) (vx_X px BX AX) free) (hS : va_S A0 H0 H locs) (hA : ∀ q, q < H.size → A1 q → A0 q) (hf : ∀ q, free q → A0 q) (hAX : ∀ q, q < H.size → AX q → A0 q)
    (kx : ∀ (E : String) (ce : Cell) (q9 : Addr) (u : SX) (t : State) (H1 : Heap) (locs1 : List Loc), t.heap = H1 → s.vm.Alike t.vm → px u → BX E u t → H.size ≤ H1.size → (∀ q : Nat, q < H.size → ¬ AX q → H1[q]? = H[q]?) → va_S A0 H0 H1 locs1 → H1[q9]? = some ce → ce.vm = .none → s.vm.findClass E = some ce.cls → vx_W p l e R s m args below meth c H1 locs1 (cells + mc) (slots + ms) Q (F0 m pc ls rest) q9)
    (kk : ∀ (r : Int32) (u : S) (t : State) (H1 : Heap) (locs1 : List Loc), t.heap = H1 → s.vm.Alike t.vm → post r u → B u t → H.size ≤ H1.size → (∀ q : Nat, q < H.size → ¬ A1 q → H1[q]? = H[q]?) → va_S A0 H0 H1 locs1 → W p l e R s m args below meth c H1 locs1 (cells + mc) (slots + ms) Q (F0 m (pc + 3) ls (.int r :: rest))) : W p l e R s m args below meth c H locs cells slots Q (F0 m pc ls st0) := by
  intro T hT X
  rcases hr T hT X with ⟨v, st₀, t, T', L, h0, X', hL, e1, e2, ⟨⟨r, u, hv, hp, hb⟩, hF⟩, st⟩ | ⟨q, st₀, t, T', L, E, ce, h0, X', hL, e1, e2, ⟨u, hp, hb, hF⟩, hce, hcv, hcl, st⟩
  · cases hv
    obtain ⟨k1, k2, k3⟩ := vx_keep h0 e1 hS hA hf hL hF
    obtain ⟨t2, a1, b1⟩ := kk r u t T'.heap (locs ++ L) e1.symm (by rw [← e2]; exact X'.warmed.alike) hp hb k1 k2 k3 T' rfl X'
    exact ⟨t2, st t2 a1, b1⟩
  · obtain ⟨k1, k2, k3⟩ := vx_keep h0 e1 hS hAX hf hL hF
    obtain ⟨t2, a1, b1⟩ := kx E ce q u t T'.heap (locs ++ L) e1.symm (by rw [← e2]; exact X'.warmed.alike) hp hb k1 k2 k3 (by rw [e1]; exact hce) hcv hcl T' rfl X'
    exact ⟨t2, st.trans a1, b1⟩
theorem vx_calll {S SX : Type} {post : Int64 → S → Prop} {px : SX → Prop} {B : S → State → Prop} {BX : String → SX → State → Prop} {AX : Nat → Prop} (hr : vx_Run p l e R s m args below meth c H locs cells slots mc ms (F0 m pc ls st0) rest (va_Ql post B A1 a) (vx_X px BX AX) free) (hS : va_S A0 H0 H locs) (hA : ∀ q, q < H.size → A1 q → A0 q) (hf : ∀ q, free q → A0 q) (hAX : ∀ q, q < H.size → AX q → A0 q)
    (kx : ∀ (E : String) (ce : Cell) (q9 : Addr) (u : SX) (t : State) (H1 : Heap) (locs1 : List Loc), t.heap = H1 → s.vm.Alike t.vm → px u → BX E u t → H.size ≤ H1.size → (∀ q : Nat, q < H.size → ¬ AX q → H1[q]? = H[q]?) → va_S A0 H0 H1 locs1 → H1[q9]? = some ce → ce.vm = .none → s.vm.findClass E = some ce.cls → vx_W p l e R s m args below meth c H1 locs1 (cells + mc) (slots + ms) Q (F0 m pc ls rest) q9)
    (kk : ∀ (r : Int64) (u : S) (t : State) (H1 : Heap) (locs1 : List Loc), t.heap = H1 → s.vm.Alike t.vm → post r u → B u t → H.size ≤ H1.size → (∀ q : Nat, q < H.size → ¬ A1 q → H1[q]? = H[q]?) → va_S A0 H0 H1 locs1 → W p l e R s m args below meth c H1 locs1 (cells + mc) (slots + ms) Q (F0 m (pc + 3) ls (.long r :: rest))) : W p l e R s m args below meth c H locs cells slots Q (F0 m pc ls st0) := by
  intro T hT X
  rcases hr T hT X with ⟨v, st₀, t, T', L, h0, X', hL, e1, e2, ⟨⟨r, u, hv, hp, hb⟩, hF⟩, st⟩ | ⟨q, st₀, t, T', L, E, ce, h0, X', hL, e1, e2, ⟨u, hp, hb, hF⟩, hce, hcv, hcl, st⟩
  · cases hv
    obtain ⟨k1, k2, k3⟩ := vx_keep h0 e1 hS hA hf hL hF
    obtain ⟨t2, a1, b1⟩ := kk r u t T'.heap (locs ++ L) e1.symm (by rw [← e2]; exact X'.warmed.alike) hp hb k1 k2 k3 T' rfl X'
    exact ⟨t2, st t2 a1, b1⟩
  · obtain ⟨k1, k2, k3⟩ := vx_keep h0 e1 hS hAX hf hL hF
    obtain ⟨t2, a1, b1⟩ := kx E ce q u t T'.heap (locs ++ L) e1.symm (by rw [← e2]; exact X'.warmed.alike) hp hb k1 k2 k3 (by rw [e1]; exact hce) hcv hcl T' rfl X'
    exact ⟨t2, st.trans a1, b1⟩
theorem vx_callf {S SX : Type} {post : UInt32 → S → Prop} {px : SX → Prop} {B : S → State → Prop} {BX : String → SX → State → Prop} {AX : Nat → Prop} (hr : vx_Run p l e R s m args below meth c H locs cells slots mc ms (F0 m pc ls st0) rest (va_Qf post B A1 a) (vx_X px BX AX) free) (hS : va_S A0 H0 H locs) (hA : ∀ q, q < H.size → A1 q → A0 q) (hf : ∀ q, free q → A0 q) (hAX : ∀ q, q < H.size → AX q → A0 q)
    (kx : ∀ (E : String) (ce : Cell) (q9 : Addr) (u : SX) (t : State) (H1 : Heap) (locs1 : List Loc), t.heap = H1 → s.vm.Alike t.vm → px u → BX E u t → H.size ≤ H1.size → (∀ q : Nat, q < H.size → ¬ AX q → H1[q]? = H[q]?) → va_S A0 H0 H1 locs1 → H1[q9]? = some ce → ce.vm = .none → s.vm.findClass E = some ce.cls → vx_W p l e R s m args below meth c H1 locs1 (cells + mc) (slots + ms) Q (F0 m pc ls rest) q9)
    (kk : ∀ (r : UInt32) (u : S) (t : State) (H1 : Heap) (locs1 : List Loc), t.heap = H1 → s.vm.Alike t.vm → post r u → B u t → H.size ≤ H1.size → (∀ q : Nat, q < H.size → ¬ A1 q → H1[q]? = H[q]?) → va_S A0 H0 H1 locs1 → W p l e R s m args below meth c H1 locs1 (cells + mc) (slots + ms) Q (F0 m (pc + 3) ls (.float r :: rest))) : W p l e R s m args below meth c H locs cells slots Q (F0 m pc ls st0) := by
  intro T hT X
  rcases hr T hT X with ⟨v, st₀, t, T', L, h0, X', hL, e1, e2, ⟨⟨r, u, hv, hp, hb⟩, hF⟩, st⟩ | ⟨q, st₀, t, T', L, E, ce, h0, X', hL, e1, e2, ⟨u, hp, hb, hF⟩, hce, hcv, hcl, st⟩
  · cases hv
    obtain ⟨k1, k2, k3⟩ := vx_keep h0 e1 hS hA hf hL hF
    obtain ⟨t2, a1, b1⟩ := kk r u t T'.heap (locs ++ L) e1.symm (by rw [← e2]; exact X'.warmed.alike) hp hb k1 k2 k3 T' rfl X'
    exact ⟨t2, st t2 a1, b1⟩
  · obtain ⟨k1, k2, k3⟩ := vx_keep h0 e1 hS hAX hf hL hF
    obtain ⟨t2, a1, b1⟩ := kx E ce q u t T'.heap (locs ++ L) e1.symm (by rw [← e2]; exact X'.warmed.alike) hp hb k1 k2 k3 (by rw [e1]; exact hce) hcv hcl T' rfl X'
    exact ⟨t2, st.trans a1, b1⟩
theorem vx_calld {S SX : Type} {post : UInt64 → S → Prop} {px : SX → Prop} {B : S → State → Prop} {BX : String → SX → State → Prop} {AX : Nat → Prop} (hr : vx_Run p l e R s m args below meth c H locs cells slots mc ms (F0 m pc ls st0) rest (va_Qd post B A1 a) (vx_X px BX AX) free) (hS : va_S A0 H0 H locs) (hA : ∀ q, q < H.size → A1 q → A0 q) (hf : ∀ q, free q → A0 q) (hAX : ∀ q, q < H.size → AX q → A0 q)
    (kx : ∀ (E : String) (ce : Cell) (q9 : Addr) (u : SX) (t : State) (H1 : Heap) (locs1 : List Loc), t.heap = H1 → s.vm.Alike t.vm → px u → BX E u t → H.size ≤ H1.size → (∀ q : Nat, q < H.size → ¬ AX q → H1[q]? = H[q]?) → va_S A0 H0 H1 locs1 → H1[q9]? = some ce → ce.vm = .none → s.vm.findClass E = some ce.cls → vx_W p l e R s m args below meth c H1 locs1 (cells + mc) (slots + ms) Q (F0 m pc ls rest) q9)
    (kk : ∀ (r : UInt64) (u : S) (t : State) (H1 : Heap) (locs1 : List Loc), t.heap = H1 → s.vm.Alike t.vm → post r u → B u t → H.size ≤ H1.size → (∀ q : Nat, q < H.size → ¬ A1 q → H1[q]? = H[q]?) → va_S A0 H0 H1 locs1 → W p l e R s m args below meth c H1 locs1 (cells + mc) (slots + ms) Q (F0 m (pc + 3) ls (.double r :: rest))) : W p l e R s m args below meth c H locs cells slots Q (F0 m pc ls st0) := by
  intro T hT X
  rcases hr T hT X with ⟨v, st₀, t, T', L, h0, X', hL, e1, e2, ⟨⟨r, u, hv, hp, hb⟩, hF⟩, st⟩ | ⟨q, st₀, t, T', L, E, ce, h0, X', hL, e1, e2, ⟨u, hp, hb, hF⟩, hce, hcv, hcl, st⟩
  · cases hv
    obtain ⟨k1, k2, k3⟩ := vx_keep h0 e1 hS hA hf hL hF
    obtain ⟨t2, a1, b1⟩ := kk r u t T'.heap (locs ++ L) e1.symm (by rw [← e2]; exact X'.warmed.alike) hp hb k1 k2 k3 T' rfl X'
    exact ⟨t2, st t2 a1, b1⟩
  · obtain ⟨k1, k2, k3⟩ := vx_keep h0 e1 hS hAX hf hL hF
    obtain ⟨t2, a1, b1⟩ := kx E ce q u t T'.heap (locs ++ L) e1.symm (by rw [← e2]; exact X'.warmed.alike) hp hb k1 k2 k3 (by rw [e1]; exact hce) hcv hcl T' rfl X'
    exact ⟨t2, st.trans a1, b1⟩
theorem vx_callv {S SX : Type} {post : S → Prop} {px : SX → Prop} {B : S → State → Prop} {BX : String → SX → State → Prop} {AX : Nat → Prop} (hr : vx_Run p l e R s m args below meth c H locs cells slots mc ms (F0 m pc ls st0) rest (va_Qv post B A1 a) (vx_X px BX AX) free) (hS : va_S A0 H0 H locs) (hA : ∀ q, q < H.size → A1 q → A0 q) (hf : ∀ q, free q → A0 q) (hAX : ∀ q, q < H.size → AX q → A0 q)
    (kx : ∀ (E : String) (ce : Cell) (q9 : Addr) (u : SX) (t : State) (H1 : Heap) (locs1 : List Loc), t.heap = H1 → s.vm.Alike t.vm → px u → BX E u t → H.size ≤ H1.size → (∀ q : Nat, q < H.size → ¬ AX q → H1[q]? = H[q]?) → va_S A0 H0 H1 locs1 → H1[q9]? = some ce → ce.vm = .none → s.vm.findClass E = some ce.cls → vx_W p l e R s m args below meth c H1 locs1 (cells + mc) (slots + ms) Q (F0 m pc ls rest) q9)
    (kk : ∀ (u : S) (t : State) (H1 : Heap) (locs1 : List Loc), t.heap = H1 → s.vm.Alike t.vm → post u → B u t → H.size ≤ H1.size → (∀ q : Nat, q < H.size → ¬ A1 q → H1[q]? = H[q]?) → va_S A0 H0 H1 locs1 → W p l e R s m args below meth c H1 locs1 (cells + mc) (slots + ms) Q (F0 m (pc + 3) ls (rest))) : W p l e R s m args below meth c H locs cells slots Q (F0 m pc ls st0) := by
  intro T hT X
  rcases hr T hT X with ⟨v, st₀, t, T', L, h0, X', hL, e1, e2, ⟨⟨u, hv, hp, hb⟩, hF⟩, st⟩ | ⟨q, st₀, t, T', L, E, ce, h0, X', hL, e1, e2, ⟨u, hp, hb, hF⟩, hce, hcv, hcl, st⟩
  · cases hv
    obtain ⟨k1, k2, k3⟩ := vx_keep h0 e1 hS hA hf hL hF
    obtain ⟨t2, a1, b1⟩ := kk u t T'.heap (locs ++ L) e1.symm (by rw [← e2]; exact X'.warmed.alike) hp hb k1 k2 k3 T' rfl X'
    exact ⟨t2, st t2 a1, b1⟩
  · obtain ⟨k1, k2, k3⟩ := vx_keep h0 e1 hS hAX hf hL hF
    obtain ⟨t2, a1, b1⟩ := kx E ce q u t T'.heap (locs ++ L) e1.symm (by rw [← e2]; exact X'.warmed.alike) hp hb k1 k2 k3 (by rw [e1]; exact hce) hcv hcl T' rfl X'
    exact ⟨t2, st.trans a1, b1⟩
/-- caught by the row x of this method's table; the rows ahead don't take it -/
theorem vx_catch {own name : String} {E : String} {ce : Cell} {q : Addr} (hown : s.vm.findClass own = some m.cls) (pre : List ExceptionTableEntry) (x : ExceptionTableEntry) (suf : List ExceptionTableEntry) (hsplit : c.exceptionTable.toList = pre ++ x :: suf)
    (hpass : ∀ z ∈ pre, covers z pc = false ∨ (z.catchType ≠ 0 ∧ ∃ nm : String, (Cond.classLink own z.catchType nm).before args s = true ∧ va_Nc E nm s)) (hx : covers x pc = true) (h0 : x.catchType ≠ 0)
    (hlink : (Cond.classLink own x.catchType name).before args s = true) (hcast : (Cond.castable E name).before args s = true) (hcell : H[q]? = some ce) (hv : ce.vm = .none) (hcl : s.vm.findClass E = some ce.cls)
    (kk : W p l e R s m args below meth c H locs cells slots Q (F0 m x.handlerPc ls [.ref q])) : vx_W p l e R s m args below meth c H locs cells slots Q (F0 m pc ls rest) q := by
  intro T hT X
  have hpl : e.platform.magicAccessors = ({} : Platform).magicAccessors := by rw [X.admits.platform]
  obtain ⟨c3, c4, hc3, hc4, hasg⟩ := Cond.castable_spec hcast
  cases Option.some.inj (hc3.symm.trans hcl)
  obtain ⟨c5, hc5, hcl5⟩ := Cond.classLink_spec hown hlink e.platform hpl
  cases Option.some.inj (hc4.symm.trans hc5)
  obtain ⟨vm', X', st⟩ := X.thenCaughtThrough q (g := F0 m pc ls rest) rfl (Steps.refl _) (by rw [hT]; exact hcell) (by rw [hv]; rfl) (by obtain ⟨k9, h9, -⟩ := Vm.findClass_spec hcl; exact ⟨k9, h9⟩) pre x suf hsplit
    (fun z hz => by
      rcases hpass z hz with h | ⟨hz0, nm, hl1, hn1⟩
      · exact Or.inl h
      · obtain ⟨c6, hc6, hcl6⟩ := Cond.classLink_spec hown hl1 e.platform hpl
        obtain ⟨a8, b8, h1, h2, h3⟩ := hn1
        cases Option.some.inj (h1.symm.trans hcl)
        cases Option.some.inj (h2.symm.trans hc6)
        exact Or.inr ⟨hz0, _, hcl6, h3⟩) hx (Or.inr ⟨h0, c4, hcl5, hasg⟩)
  obtain ⟨t, a1, b1⟩ := kk (T.setVm vm') hT X'
  exact ⟨t, st.trans a1, b1⟩
end Rows
section Ends
variable {p : Program} {l : Launch} {e : Env} {R : Room} {s : State} {m : MethodId} {args : Array Value} {below : List Frame} {meth : Method} {c : Code} {H : Heap} {locs : List Loc} {cells slots : Nat} {Q : State → Prop}
variable {mc ms : Nat} {free : Addr → Prop} {A0 A1 : Nat → Prop} {H0 : Heap} {a : Array Value} {ls : Array Slot} {st0 rest : List Value}
variable {Qc : Array Value → State → Outcome → State → Prop} {XC : String → State → State → Prop}
/-- what a body that may throw owes at its end -/
def vx_MQ (below : List Frame) (Qc : Array Value → State → Outcome → State → Prop) (XC : String → State → State → Prop) (a : Array Value) (s : State) (mc ms : Nat) (free : Addr → Prop) : State → Prop := fun t =>
  ∃ o, t.status = .running ∧ Ended t below o ∧ vx_Q Qc XC mc ms free a s o t
theorem vx_ret {g : JFrame} {mc ms : Nat} (k : W p l e R s m args below meth c H locs cells slots (MQ below Qc args s mc ms free) g) : W p l e R s m args below meth c H locs cells slots (vx_MQ below Qc XC args s mc ms free) g := by
  intro T hT X
  obtain ⟨t, a1, o, b1, b2, b3, b4⟩ := k T hT X
  exact ⟨t, a1, o, b1, b2, Or.inl ⟨b3, b4⟩⟩
/-- not caught here: it goes on to the caller -/
theorem vx_widen {g : JFrame} {q : Addr} {k n : Nat} (h1 : cells ≤ k) (h2 : slots ≤ n) (kk : vx_W p l e R s m args below meth c H locs k n Q g q) : vx_W p l e R s m args below meth c H locs cells slots Q g q := fun T hT X => kk T hT (stand_widen X h1 h2)
theorem vx_out {pc : Nat} {E : String} {ce : Cell} {q : Addr} {mc ms : Nat} (hout : ∀ x ∈ c.exceptionTable.toList, covers x pc = false) (hlocks : meth.locks = false) (hcell : H[q]? = some ce) (hv : ce.vm = .none) (hcl : s.vm.findClass E = some ce.cls)
    (hx : ∀ t : State, t.heap = H → s.vm.Alike t.vm → XC E s t) (hf : ∀ z ∈ locs, free z.base) (hc : cells ≤ mc) (hs : slots ≤ ms) :
    vx_W p l e R s m args below meth c H locs cells slots (vx_MQ below Qc XC args s mc ms free) (F0 m pc ls rest) q := by
  intro T hT X
  obtain ⟨st1, hrun, hend, hW, hsm⟩ := X.leaveThrown q (g := F0 m pc ls rest) rfl rfl rfl hout hlocks
  have hcell9 : (T.setFrames (.throwing q :: below)).heap[q]? = some ce := by
    show T.heap[q]? = some ce
    rw [hT]; exact hcell
  exact ⟨_, st1, .threw q, hrun, hend, Or.inr ⟨q, rfl, E, ce, locs, hx _ hT hW.alike, hcell9, hv, hcl, hW, hsm.mono hc hs, hf⟩⟩
theorem vx_frame {U : State} {k n : Nat} (h : s.sameButNew ({ U with vm := s.vm } : State) locs k n) : s.heap.size ≤ U.heap.size ∧ ∀ q : Nat, q < s.heap.size → (∀ z ∈ locs, z.base ≠ q) → U.heap[q]? = s.heap[q]? := by
  obtain ⟨-, h2, -, -, -, h6⟩ := h
  refine ⟨h2, fun q hq hz => ?_⟩
  obtain ⟨c9, e1, e2, e3, e4⟩ := h6 q _ (Array.getElem?_eq_getElem hq)
  have hs : c9.slots = (s.heap[q]).slots := Array.ext_getElem? fun i => e4 i fun hm => hz _ hm rfl
  have h9 : c9 = s.heap[q] := by
    rw [hs] at e2
    exact e2
  have e5 : U.heap[q]? = some c9 := e1
  rw [e5, h9, Array.getElem?_eq_getElem hq]
/-- the words of a throw but the four that speak of the heap -/
def vx_no (w : Cond) : Bool := decide (w ≠ .isRef (.static Bundle.tN "UNASSIGNED_STACK" Bundle.steD)) && decide (w ≠ .isRef (.static Bundle.tN "SUPPRESSED_SENTINEL" Bundle.listD)) && decide (w ≠ .laysStatic Bundle.tN "UNASSIGNED_STACK" Bundle.steD) && decide (w ≠ .laysStatic Bundle.tN "SUPPRESSED_SENTINEL" Bundle.listD)
def vx_at0 (own : String) (ic : Nat) (X : String) (names : List String) : List Cond := (Bundle.ownAtoms0 own ic X names).filter vx_no
def vx_atS (own : String) (ic : Nat) (X : String) (names : List String) : List Cond := (Bundle.ownAtoms own ic X names).filter vx_no
/-- a word that the tables alone decide, or a good one -/
def vx_ot (w : Cond) : Bool := w.onTables || goodWord w
theorem vx_ot_at {args a' : Array Value} {s U : State} {w : Cond} (hW : s.WarmedH U.vm) (hvm : s.vm = U.vm) (hg : vx_ot w = true) (h : w.before args s = true) : w.before a' U = true := by
  simp only [vx_ot, Bool.or_eq_true] at hg
  rcases hg with hg | hg
  · exact va_tabs hg hvm h
  · exact word_at hW (good_of_word hg) h
/-- a list's words: the good ones out of the method's own list, the others by premises of their own -/
theorem vx_hat {args : Array Value} {s : State} {L B : List Cond} (h1 : ∀ w ∈ L.filter goodWord, w.before args s = true) (h2 : ∀ w ∈ L.filter (fun w => !goodWord w), w ∈ B) (h3 : ∀ w ∈ B, w.before args s = true) : ∀ w ∈ L, w.before args s = true := by
  intro w hw
  by_cases g : goodWord w = true
  · exact h1 w (List.mem_filter.mpr ⟨hw, g⟩)
  · refine h3 w (h2 w (List.mem_filter.mpr ⟨hw, ?_⟩))
    show (!goodWord w) = true
    cases hgw : goodWord w
    · rfl
    · exact absurd hgw g
theorem vx_c {args : Array Value} {s : State} {w : Cond} {B : List Cond} (h : w.before args s = true) (t : ∀ w ∈ B, w.before args s = true) : ∀ w' ∈ w :: B, w'.before args s = true := fun w' h' => (List.mem_cons.mp h').elim (fun e => by rw [e]; exact h) (t w')
theorem vx_n {args : Array Value} {s : State} : ∀ w ∈ ([] : List Cond), w.before args s = true := fun _ h => nomatch h
theorem vx_own {args : Array Value} {s : State} {L : List Cond} (h1 : ∀ w ∈ L.filter vx_no, w.before args s = true)
    (hU : (Cond.isRef (.static Bundle.tN "UNASSIGNED_STACK" Bundle.steD)).before args s = true) (hN : (Cond.isRef (.static Bundle.tN "SUPPRESSED_SENTINEL" Bundle.listD)).before args s = true)
    (lU : (Cond.laysStatic Bundle.tN "UNASSIGNED_STACK" Bundle.steD).before args s = true) (lN : (Cond.laysStatic Bundle.tN "SUPPRESSED_SENTINEL" Bundle.listD).before args s = true) : ∀ w ∈ L, w.before args s = true := by
  intro w hw
  by_cases e1 : w = .isRef (.static Bundle.tN "UNASSIGNED_STACK" Bundle.steD)
  · rw [e1]; exact hU
  · by_cases e2 : w = .isRef (.static Bundle.tN "SUPPRESSED_SENTINEL" Bundle.listD)
    · rw [e2]; exact hN
    · by_cases e3 : w = .laysStatic Bundle.tN "UNASSIGNED_STACK" Bundle.steD
      · rw [e3]; exact lU
      · by_cases e4 : w = .laysStatic Bundle.tN "SUPPRESSED_SENTINEL" Bundle.listD
        · rw [e4]; exact lN
        · exact h1 w (List.mem_filter.mpr ⟨hw, by unfold vx_no; rw [decide_eq_true e1, decide_eq_true e2, decide_eq_true e3, decide_eq_true e4]; rfl⟩)
/-- where a static field lies, its class's statics cell in H -/
def vx_L (C n d : String) (A : Nat → Prop) (U : State) (H : Heap) : Prop := ∃ (c : ClassId) (k : Class) (i : Nat) (f : Field) (a : Nat) (cell : Cell), U.vm.findClass C = some c ∧ U.fieldFound? C n d = some (c, k, i, f) ∧ f.isStatic = true ∧ k.statics = some a ∧ H[a]? = some cell ∧ cell.vm.isStatics = true ∧ cell.cls = c ∧ f.slot < cell.slots.size ∧ k.staticTypes[f.slot]? = some f.type ∧ ¬ A a
theorem vx_L.moved {C n d : String} {A : Nat → Prop} {u U : State} {H : Heap} (hvm : u.vm.Alike U.vm) (h : vx_L C n d A u H) : vx_L C n d A U H := by
  obtain ⟨c, k, i, f, a, cell, h1, h2, h3, h4, h5, h6, h7, h8, h9, h10⟩ := h
  obtain ⟨k', hi', he⟩ := State.fieldFound?_setVm hvm h2
  exact ⟨c, k', i, f, a, cell, by rw [hvm.findClass]; exact h1, hi', h3, by rw [he]; exact h4, h5, h6, h7, h8, by rw [he]; exact h9, h10⟩
theorem vx_L.kept {C n d : String} {A : Nat → Prop} {U : State} {H H1 : Heap} (h : vx_L C n d A U H) (hq : ∀ a : Nat, a < H.size → ¬ A a → H1[a]? = H[a]?) : vx_L C n d A U H1 := by
  obtain ⟨c, k, i, f, a, cell, h1, h2, h3, h4, h5, h6, h7, h8, h9, h10⟩ := h
  exact ⟨c, k, i, f, a, cell, h1, h2, h3, h4, by rw [hq a (Array.getElem?_eq_some_iff.mp h5).1 h10]; exact h5, h6, h7, h8, h9, h10⟩
theorem vx_L.narrow {C n d : String} {A B : Nat → Prop} {U : State} {H : Heap} (h : vx_L C n d A U H) (hAB : ∀ q, B q → A q) : vx_L C n d B U H := by
  obtain ⟨c, k, i, f, a, cell, h1, h2, h3, h4, h5, h6, h7, h8, h9, h10⟩ := h
  exact ⟨c, k, i, f, a, cell, h1, h2, h3, h4, h5, h6, h7, h8, h9, fun z => h10 (hAB _ z)⟩
theorem vx_L.word {C n d : String} {A : Nat → Prop} {s : State} {args : Array Value} (h : vx_L C n d A s s.heap) : (Cond.laysStatic C n d).before args s = true := by
  obtain ⟨c, k, i, f, a, cell, h1, h2, h3, h4, h5, h6, h7, h8, h9, -⟩ := h
  show (Cond.laysStatic C n d).holds args s none s [] = true
  exact Cond.laysStatic_of h1 h2 h3 h4 h5 h6 h7 h8 h9
/-- .. and what it holds: null or some reference -/
def vx_Zq (C n d : String) (A : Nat → Prop) (U : State) (H : Heap) : Prop := va_Zq C n d A U H ∧ vx_L C n d A U H
theorem vx_Zq.moved {C n d : String} {A : Nat → Prop} {u U : State} {H : Heap} (hvm : u.vm.Alike U.vm) (h : vx_Zq C n d A u H) : vx_Zq C n d A U H := ⟨va_Zq.moved hvm h.1, vx_L.moved hvm h.2⟩
theorem vx_Zq.kept {C n d : String} {A : Nat → Prop} {U : State} {H H1 : Heap} (h : vx_Zq C n d A U H) (hq : ∀ a : Nat, a < H.size → ¬ A a → H1[a]? = H[a]?) : vx_Zq C n d A U H1 := ⟨va_Zq.kept h.1 hq, vx_L.kept h.2 hq⟩
theorem vx_Zq.narrow {C n d : String} {A B : Nat → Prop} {U : State} {H : Heap} (h : vx_Zq C n d A U H) (hAB : ∀ q, B q → A q) : vx_Zq C n d B U H := ⟨va_Zq.narrow h.1 hAB, vx_L.narrow h.2 hAB⟩
theorem vx_Zqof {args : Array Value} {s : State} {C n d : String} {A : Nat → Prop} (hl : (Cond.laysStatic C n d).before args s = true) (hini : (Cond.initialized C).before args s = true) (h : (Cond.isRef (.static C n d)).before args s = true) (hA : ∀ a : Nat, a < s.heap.size → ¬ A a) : vx_Zq C n d A s s.heap := by
  refine ⟨va_Zqof hl hini h hA, ?_⟩
  obtain ⟨c, k, i, f, a, cell, h1, h2, h3, h4, h5, h6, h7, h8, h9⟩ := Cond.laysStatic_spec hl
  exact ⟨c, k, i, f, a, cell, h1, h2, h3, h4, h5, h6, h7, h8, h9, hA a (Array.getElem?_eq_some_iff.mp h5).1⟩
theorem vx_isRef {C n d : String} {v : Value} {A : Nat → Prop} {s : State} {args : Array Value} (h : va_Z C n d v A s s.heap) (hv : v.isRef = true) : (Cond.isRef (.static C n d)).before args s = true := by
  obtain ⟨cf, kf, fi, f, a, cell, h1, h2, h3, h4, h5, h6, h7, -⟩ := h
  have he : (Term.static C n d).eval args s none [] s = some v := by
    simp [Term.eval, State.fieldNamed?, h1, h2, h4, h5, h6, h7]
  simp only [Cond.before, Cond.holds, Cond.value, he]
  cases v <;> simp_all [Value.isRef]
theorem vx_isRefq {C n d : String} {A : Nat → Prop} {s : State} {args : Array Value} (h : va_Zq C n d A s s.heap) : (Cond.isRef (.static C n d)).before args s = true := by
  rcases h with h | ⟨t, h⟩
  · exact vx_isRef h rfl
  · exact vx_isRef h rfl
/-- the same frame, seen from here: as if the method were called anew in this heap -/
theorem vx_rebase {T : State} (X : Stand p l e R s m args below meth c T locs cells slots) {R' : Room} (hf : R'.frames ≤ R.frames) (hl : R'.locals ≤ R.locals) (hc : cells + R'.cells ≤ R.cells) (hs : slots + R'.slots ≤ R.slots) :
    Stand p l e R' ((T.setVm s.vm).setFrames (.invoking m args :: below)) m args below meth c T [] 0 0 := by
  have htop : (T.setVm s.vm).topJava?.isSome := X.here.top
  have hF : ((T.setVm s.vm).setFrames (.invoking m args :: below)).frames = .invoking m args :: below := State.frames_setFrames _ (State.cur_lt_of_top htop)
  obtain ⟨g₀, hg0⟩ := Option.isSome_iff_exists.mp htop
  obtain ⟨r, hr⟩ := State.topJava?_eq_some.mp hg0
  have hl9 : e.platform.stackLimits (T.setVm s.vm).me = e.platform.stackLimits s.me := X.limits
  have hb9 : (T.setVm s.vm).me.stackBytes = s.me.stackBytes := X.bytes
  refine ⟨X.admits, X.cas, X.clock, hF, ?_, X.hears, X.method, X.code, X.here, X.tail, X.warmed, ?_, ?_, ?_⟩
  · have h := X.room
    have hU : ((T.setVm s.vm).setFrames (.invoking m args :: below)).localsInUse = s.localsInUse := by
      rw [State.localsInUse_invoking hF (meth := meth) (c := c) X.method X.code, State.localsInUse_invoking X.frames X.method X.code]
    simp only [State.hasRoom, Bool.and_eq_true, decide_eq_true_eq] at h ⊢
    obtain ⟨⟨⟨⟨h1, h2, h3, h4, h5, h6⟩, h7⟩, h8⟩, h9⟩ := h
    rw [X.frames, List.length_cons] at h2 h3
    have q1 := X.heapSize
    have q2 := X.used
    simp only [hF, hU, List.length_cons, State.stackLimits_setFrames, State.stackBytes_setFrames, hl9, hb9]
    refine ⟨⟨⟨⟨by omega, by omega, by omega, by omega, by omega, h6⟩, ?_⟩, ?_⟩, X.book⟩
    · show T.heap.size + R'.cells ≤ e.platform.maxCells
      omega
    · show T.slotsUsed + R'.slots ≤ e.platform.maxSlots
      omega
  · rw [State.stackLimits_setFrames]; rfl
  · rw [State.stackBytes_setFrames]; rfl
  · refine ⟨?_, Nat.le_refl _, Nat.le_refl _, ?_, ?_, fun a c9 h9 => ⟨c9, h9, rfl, rfl, fun _ _ => rfl⟩⟩
    · obtain ⟨t, ht, -⟩ := State.frames_cons hr
      show T.setVm s.vm = { ((T.setVm s.vm).setFrames (.invoking m args :: below)).setFrames (T.setVm s.vm).frames with heap := T.heap, slotsUsed := T.slotsUsed }
      rw [State.setFrames_setFrames, State.setFrames_self ht]
      rfl
    · show T.slotsUsed = T.slotsUsed + ((T.heap.toList.drop T.heap.size).map (·.slots.size)).sum
      rw [List.drop_eq_nil_of_le (Nat.le_of_eq Array.length_toList)]
      rfl
    · show ((T.heap.toList.drop T.heap.size).map (·.slots.size)).sum ≤ 0
      rw [List.drop_eq_nil_of_le (Nat.le_of_eq Array.length_toList)]
      exact Nat.le_refl _
/-- 'throw new E()': new; dup; invokespecial; athrow -/
theorem vx_throw0 {cc : ByteArray} {pc : Nat} (hexec : p.tables.exec = Jvm.exec) (hb : c.code = cc) (hl : l.stackTraces = false) {own cls : String} {names : List String} {ik ic mc ms : Nat} {A : Nat → Prop}
    (hown : s.vm.findClass own = some m.cls) (hcls : Bundle.fit cls = true) (hnames : ∀ n ∈ names, Bundle.fit n = true)
    (hk : (Cond.classLink own ik cls).before args s = true) (hini : (Cond.initialized cls).before args s = true) (hat : ∀ w ∈ vx_at0 own ic cls names, w.before args s = true)
    (hgood : ∀ w ∈ Cond.classLink own ik cls :: Cond.initialized cls :: vx_at0 own ic cls names, vx_ot w = true)
    (hU : vx_Zq Bundle.tN "UNASSIGNED_STACK" Bundle.steD A s s.heap) (hN : vx_Zq Bundle.tN "SUPPRESSED_SENTINEL" Bundle.listD A s s.heap) (hS : va_S A s.heap H locs) (hsize : ls.size = c.maxLocals)
    (d0 : decode cc pc = .ok (.new ik, 3)) (d3 : decode cc (pc + 3) = .ok (.dup, 1)) (d4 : decode cc (pc + 4) = .ok (.invokespecial ic, 3)) (d7 : decode cc (pc + 7) = .ok (.athrow, 1))
    (hout : ∀ x ∈ c.exceptionTable.toList, covers x (pc + 7) = false)
    (hRframes : names.length + 3 < R.frames) (hRlocals : (rest.map fun v => v.category).sum + (13 * (names.length + 1) + 42) ≤ R.locals) (hRcells : cells + 1 ≤ R.cells) (hRslots : slots + 6 ≤ R.slots) (hlocks : meth.locks = false)
    (hx : ∀ t : State, s.vm.Alike t.vm → H.size ≤ t.heap.size → (∀ q : Nat, q < H.size → t.heap[q]? = H[q]?) → XC cls s t)
    (hf : ∀ z ∈ locs, free z.base) (hc : cells + 1 ≤ mc) (hs : slots + 6 ≤ ms) :
    W p l e R s m args below meth c H locs cells slots (vx_MQ below Qc XC args s mc ms free) (F0 m pc ls rest) := by
  intro T hT X
  have htr : e.platform.stackTraces = false := (show e.platform.stackTraces = l.stackTraces by rw [X.admits.platform]).trans hl
  have Y := vx_rebase X (R' := { frames := R.frames, locals := R.locals, cells := 1, slots := 6 }) (Nat.le_refl _) (Nat.le_refl _) hRcells hRslots
  obtain ⟨s', hA⟩ : ∃ z, z = (T.setVm s.vm).setFrames (.invoking m args :: below) := ⟨_, rfl⟩
  rw [← hA] at Y
  have hvm : s'.vm = s.vm := by rw [hA]; rfl
  have hhp : s'.heap = H := by rw [hA]; exact hT
  have hW0 : s.WarmedH s'.vm := by rw [hvm]; exact State.WarmedH.refl s
  have hat' : ∀ w ∈ vx_at0 own ic cls names, w.before args s' = true := fun w hw => vx_ot_at hW0 hvm.symm (hgood w (List.mem_cons_of_mem _ (List.mem_cons_of_mem _ hw))) (hat w hw)
  have hk' : (Cond.classLink own ik cls).before args s' = true := vx_ot_at hW0 hvm.symm (hgood _ List.mem_cons_self) hk
  have hini' : (Cond.initialized cls).before args s' = true := vx_ot_at hW0 hvm.symm (hgood _ (List.mem_cons_of_mem _ List.mem_cons_self)) hini
  have hU' : vx_Zq Bundle.tN "UNASSIGNED_STACK" Bundle.steD A s' s'.heap := by rw [hhp]; exact vx_Zq.moved hW0.alike (hU.kept hS.2.1)
  have hN' : vx_Zq Bundle.tN "SUPPRESSED_SENTINEL" Bundle.listD A s' s'.heap := by rw [hhp]; exact vx_Zq.moved hW0.alike (hN.kept hS.2.1)
  have h : ∀ w ∈ Bundle.ownAtoms0 own ic cls names, w.before args s' = true := vx_own hat' (vx_isRefq hU'.1) (vx_isRefq hN'.1) hU'.2.word hN'.2.word
  have hown' : s'.vm.findClass own = some m.cls := by rw [hvm]; exact hown
  have hins : (Cond.instantiable cls 6).before args s' = true := h _ (by simp [Bundle.ownAtoms0])
  obtain ⟨vm₁, cX, kX, hfX, hkX, -, -, X₁, st1⟩ := Y.newCold hexec (own := own) (C := cls) (index := ik) (n := 6) hown' hk' hins hini'
    (g := F0 m pc ls rest) rfl (by rw [hb]; exact d0) (Nat.le_refl _) (Nat.le_refl _)
  generalize hT1 : (T.setVm vm₁).pushCell { cls := cX, slots := kX.instanceTypes.map defaultValue, vm := .none } = T1 at X₁ st1
  have hcat : (Value.ref T.heap.size).category = 1 := rfl
  have hcellA : T1.heap[T.heap.size]? = some (freshCell cX kX) := by rw [← hT1]; exact State.heap_pushCell_size _ _
  have d3' : decode c.code (pc + 3) = .ok (.dup, 1) := by rw [hb]; exact d3
  obtain ⟨U, hsteps, hrun, hend, hW, hsame, ce, hce, hO⟩ := X₁.ctorThrow0 hexec htr (own := own) (cls := cls) (names := names) (ic := ic) hown' hcls hnames h (fun x hx => nomatch hx) hfX hkX hcellA (by rw [hhp, hT]; exact Nat.le_refl _)
    (g := { method := m, pc := pc + 4, locals := ls, stack := .ref T.heap.size :: .ref T.heap.size :: rest, locked := none }) rfl hsize rfl rfl (rest := rest) rfl
    (by rw [hb]; exact d4) (by rw [hb]; exact d7) hout hRframes (by simp only [List.map_cons, List.sum_cons, hcat]; omega) hlocks
  obtain ⟨f1, f2⟩ := vx_frame hsame
  rw [hhp] at f1 f2
  have hWs : s.WarmedH U.vm := State.WarmedH.trans hW0 hW
  have hcl : s.vm.findClass cls = some ce.cls := by
    have h9 := hO.cls
    rw [hvm] at h9
    exact h9
  have hall : s.sameButNew ({ U with vm := s.vm } : State) locs mc ms := by
    subst hA
    obtain ⟨e1, e2⟩ := hsame
    rw [State.setFrames_setFrames] at e1
    have h2 : (T.setVm s.vm).sameButNew ({ U with vm := s.vm } : State) [] (0 + 1) (0 + 6) := ⟨e1, e2⟩
    have h3 := X.same.trans h2
    rw [List.append_nil] at h3
    exact h3.mono hc hs
  refine ⟨U, ?_, .threw T.heap.size, hrun, hend, Or.inr ⟨T.heap.size, rfl, cls, ce, locs, hx U hWs.alike f1 (fun q hq => f2 q hq (fun z hz => nomatch hz)), hce, hO.vm, hcl, hWs, hall, hf⟩⟩
  refine st1 _ ?_
  show Steps p.tables e below (T1.setTop { method := m, pc := pc + 3, locals := ls, stack := .ref T.heap.size :: rest, locked := none }) _
  jvm_step X₁.here [X₁.here.top, hexec, d3', Value.category]
  exact hsteps
/-- 'throw new E("text")': new; dup; ldc; invokespecial; athrow -/
theorem vx_throwS {cc : ByteArray} {pc : Nat} (hexec : p.tables.exec = Jvm.exec) (hb : c.code = cc) (hl : l.stackTraces = false) {own cls text : String} {names : List String} {ik is ic mc ms sa : Nat} {A : Nat → Prop}
    (hown : s.vm.findClass own = some m.cls) (hcls : Bundle.fit cls = true) (hnames : ∀ n ∈ names, Bundle.fit n = true)
    (hk : (Cond.classLink own ik cls).before args s = true) (hini : (Cond.initialized cls).before args s = true) (hstr : vk_R own is text sa s) (hat : ∀ w ∈ vx_atS own ic cls names, w.before args s = true)
    (hgood : ∀ w ∈ Cond.classLink own ik cls :: Cond.initialized cls :: vx_atS own ic cls names, vx_ot w = true)
    (hU : vx_Zq Bundle.tN "UNASSIGNED_STACK" Bundle.steD A s s.heap) (hN : vx_Zq Bundle.tN "SUPPRESSED_SENTINEL" Bundle.listD A s s.heap) (hS : va_S A s.heap H locs) (hsize : ls.size = c.maxLocals)
    (d0 : decode cc pc = .ok (.new ik, 3)) (d3 : decode cc (pc + 3) = .ok (.dup, 1)) (d4 : decode cc (pc + 4) = .ok (.ldc is, 2)) (d6 : decode cc (pc + 6) = .ok (.invokespecial ic, 3)) (d9 : decode cc (pc + 9) = .ok (.athrow, 1))
    (hout : ∀ x ∈ c.exceptionTable.toList, covers x (pc + 9) = false)
    (hRframes : names.length + 3 < R.frames) (hRlocals : (rest.map fun v => v.category).sum + (13 * (names.length + 1) + 43) ≤ R.locals) (hRcells : cells + 1 ≤ R.cells) (hRslots : slots + 6 ≤ R.slots) (hlocks : meth.locks = false)
    (hx : ∀ t : State, s.vm.Alike t.vm → H.size ≤ t.heap.size → (∀ q : Nat, q < H.size → t.heap[q]? = H[q]?) → XC cls s t)
    (hf : ∀ z ∈ locs, free z.base) (hc : cells + 1 ≤ mc) (hs : slots + 6 ≤ ms) :
    W p l e R s m args below meth c H locs cells slots (vx_MQ below Qc XC args s mc ms free) (F0 m pc ls rest) := by
  intro T hT X
  have htr : e.platform.stackTraces = false := (show e.platform.stackTraces = l.stackTraces by rw [X.admits.platform]).trans hl
  have Y := vx_rebase X (R' := { frames := R.frames, locals := R.locals, cells := 1, slots := 6 }) (Nat.le_refl _) (Nat.le_refl _) hRcells hRslots
  obtain ⟨s', hA⟩ : ∃ z, z = (T.setVm s.vm).setFrames (.invoking m args :: below) := ⟨_, rfl⟩
  rw [← hA] at Y
  have hvm : s'.vm = s.vm := by rw [hA]; rfl
  have hhp : s'.heap = H := by rw [hA]; exact hT
  have hW0 : s.WarmedH s'.vm := by rw [hvm]; exact State.WarmedH.refl s
  have hat' : ∀ w ∈ vx_atS own ic cls names, w.before args s' = true := fun w hw => vx_ot_at hW0 hvm.symm (hgood w (List.mem_cons_of_mem _ (List.mem_cons_of_mem _ hw))) (hat w hw)
  have hk' : (Cond.classLink own ik cls).before args s' = true := vx_ot_at hW0 hvm.symm (hgood _ List.mem_cons_self) hk
  have hini' : (Cond.initialized cls).before args s' = true := vx_ot_at hW0 hvm.symm (hgood _ (List.mem_cons_of_mem _ List.mem_cons_self)) hini
  have hU' : vx_Zq Bundle.tN "UNASSIGNED_STACK" Bundle.steD A s' s'.heap := by rw [hhp]; exact vx_Zq.moved hW0.alike (hU.kept hS.2.1)
  have hN' : vx_Zq Bundle.tN "SUPPRESSED_SENTINEL" Bundle.listD A s' s'.heap := by rw [hhp]; exact vx_Zq.moved hW0.alike (hN.kept hS.2.1)
  have h : ∀ w ∈ Bundle.ownAtoms own ic cls names, w.before args s' = true := vx_own hat' (vx_isRefq hU'.1) (vx_isRefq hN'.1) hU'.2.word hN'.2.word
  have hown' : s'.vm.findClass own = some m.cls := by rw [hvm]; exact hown
  have hins : (Cond.instantiable cls 6).before args s' = true := h _ (by simp [Bundle.ownAtoms])
  obtain ⟨vm₁, cX, kX, hfX, hkX, -, -, X₁, st1⟩ := Y.newCold hexec (own := own) (C := cls) (index := ik) (n := 6) hown' hk' hins hini'
    (g := F0 m pc ls rest) rfl (by rw [hb]; exact d0) (Nat.le_refl _) (Nat.le_refl _)
  generalize hT1 : (T.setVm vm₁).pushCell { cls := cX, slots := kX.instanceTypes.map defaultValue, vm := .none } = T1 at X₁ st1
  have hcat : (Value.ref T.heap.size).category = 1 := rfl
  have hcellA : T1.heap[T.heap.size]? = some (freshCell cX kX) := by rw [← hT1]; exact State.heap_pushCell_size _ _
  have d3' : decode c.code (pc + 3) = .ok (.dup, 1) := by rw [hb]; exact d3
  have d4' : decode c.code (pc + 4) = .ok (.ldc is, 2) := by rw [hb]; exact d4
  have hstr' : vk_R own is text sa s' := vk_R.warm hW0 hstr
  obtain ⟨U, hsteps, hrun, hend, hW, hsame, ce, hce, hO⟩ := X₁.ctorThrowS hexec htr (own := own) (cls := cls) (names := names) (ic := ic) hown' hcls hnames h (fun x hx => nomatch hx) hfX hkX hcellA (by rw [hhp, hT]; exact Nat.le_refl _) (msg := .ref sa) rfl
    (g := { method := m, pc := pc + 6, locals := ls, stack := .ref sa :: .ref T.heap.size :: .ref T.heap.size :: rest, locked := none }) rfl hsize rfl rfl (rest := rest) rfl
    (by rw [hb]; exact d6) (by rw [hb]; exact d9) hout hRframes (by simp only [List.map_cons, List.sum_cons, hcat]; omega) hlocks
  obtain ⟨f1, f2⟩ := vx_frame hsame
  rw [hhp] at f1 f2
  have hWs : s.WarmedH U.vm := State.WarmedH.trans hW0 hW
  have hcl : s.vm.findClass cls = some ce.cls := by
    have h9 := hO.cls
    rw [hvm] at h9
    exact h9
  have hall : s.sameButNew ({ U with vm := s.vm } : State) locs mc ms := by
    subst hA
    obtain ⟨e1, e2⟩ := hsame
    rw [State.setFrames_setFrames] at e1
    have h2 : (T.setVm s.vm).sameButNew ({ U with vm := s.vm } : State) [] (0 + 1) (0 + 6) := ⟨e1, e2⟩
    have h3 := X.same.trans h2
    rw [List.append_nil] at h3
    exact h3.mono hc hs
  refine ⟨U, ?_, .threw T.heap.size, hrun, hend, Or.inr ⟨T.heap.size, rfl, cls, ce, locs, hx U hWs.alike f1 (fun q hq => f2 q hq (fun z hz => nomatch hz)), hce, hO.vm, hcl, hWs, hall, hf⟩⟩
  refine st1 _ ?_
  show Steps p.tables e below (T1.setTop { method := m, pc := pc + 3, locals := ls, stack := .ref T.heap.size :: rest, locked := none }) _
  jvm_step X₁.here [X₁.here.top, hexec, d3', Value.category]
  exact X₁.ldcString hexec (own := own) (text := text) (index := is) (a := sa) hown' hstr'.1 hstr'.2
    (g := { method := m, pc := pc + 4, locals := ls, stack := .ref T.heap.size :: .ref T.heap.size :: rest, locked := none }) rfl d4' _ hsteps
/-- 'throw new E("text")', the text by a wide index -/
theorem vx_throwSW {cc : ByteArray} {pc : Nat} (hexec : p.tables.exec = Jvm.exec) (hb : c.code = cc) (hl : l.stackTraces = false) {own cls text : String} {names : List String} {ik is ic mc ms sa : Nat} {A : Nat → Prop}
    (hown : s.vm.findClass own = some m.cls) (hcls : Bundle.fit cls = true) (hnames : ∀ n ∈ names, Bundle.fit n = true)
    (hk : (Cond.classLink own ik cls).before args s = true) (hini : (Cond.initialized cls).before args s = true) (hstr : vk_R own is text sa s) (hat : ∀ w ∈ vx_atS own ic cls names, w.before args s = true)
    (hgood : ∀ w ∈ Cond.classLink own ik cls :: Cond.initialized cls :: vx_atS own ic cls names, vx_ot w = true)
    (hU : vx_Zq Bundle.tN "UNASSIGNED_STACK" Bundle.steD A s s.heap) (hN : vx_Zq Bundle.tN "SUPPRESSED_SENTINEL" Bundle.listD A s s.heap) (hS : va_S A s.heap H locs) (hsize : ls.size = c.maxLocals)
    (d0 : decode cc pc = .ok (.new ik, 3)) (d3 : decode cc (pc + 3) = .ok (.dup, 1)) (d4 : decode cc (pc + 4) = .ok (.ldc_w is, 3)) (d7 : decode cc (pc + 7) = .ok (.invokespecial ic, 3)) (d10 : decode cc (pc + 10) = .ok (.athrow, 1))
    (hout : ∀ x ∈ c.exceptionTable.toList, covers x (pc + 10) = false)
    (hRframes : names.length + 3 < R.frames) (hRlocals : (rest.map fun v => v.category).sum + (13 * (names.length + 1) + 43) ≤ R.locals) (hRcells : cells + 1 ≤ R.cells) (hRslots : slots + 6 ≤ R.slots) (hlocks : meth.locks = false)
    (hx : ∀ t : State, s.vm.Alike t.vm → H.size ≤ t.heap.size → (∀ q : Nat, q < H.size → t.heap[q]? = H[q]?) → XC cls s t)
    (hf : ∀ z ∈ locs, free z.base) (hc : cells + 1 ≤ mc) (hs : slots + 6 ≤ ms) :
    W p l e R s m args below meth c H locs cells slots (vx_MQ below Qc XC args s mc ms free) (F0 m pc ls rest) := by
  intro T hT X
  have htr : e.platform.stackTraces = false := (show e.platform.stackTraces = l.stackTraces by rw [X.admits.platform]).trans hl
  have Y := vx_rebase X (R' := { frames := R.frames, locals := R.locals, cells := 1, slots := 6 }) (Nat.le_refl _) (Nat.le_refl _) hRcells hRslots
  obtain ⟨s', hA⟩ : ∃ z, z = (T.setVm s.vm).setFrames (.invoking m args :: below) := ⟨_, rfl⟩
  rw [← hA] at Y
  have hvm : s'.vm = s.vm := by rw [hA]; rfl
  have hhp : s'.heap = H := by rw [hA]; exact hT
  have hW0 : s.WarmedH s'.vm := by rw [hvm]; exact State.WarmedH.refl s
  have hat' : ∀ w ∈ vx_atS own ic cls names, w.before args s' = true := fun w hw => vx_ot_at hW0 hvm.symm (hgood w (List.mem_cons_of_mem _ (List.mem_cons_of_mem _ hw))) (hat w hw)
  have hk' : (Cond.classLink own ik cls).before args s' = true := vx_ot_at hW0 hvm.symm (hgood _ List.mem_cons_self) hk
  have hini' : (Cond.initialized cls).before args s' = true := vx_ot_at hW0 hvm.symm (hgood _ (List.mem_cons_of_mem _ List.mem_cons_self)) hini
  have hU' : vx_Zq Bundle.tN "UNASSIGNED_STACK" Bundle.steD A s' s'.heap := by rw [hhp]; exact vx_Zq.moved hW0.alike (hU.kept hS.2.1)
  have hN' : vx_Zq Bundle.tN "SUPPRESSED_SENTINEL" Bundle.listD A s' s'.heap := by rw [hhp]; exact vx_Zq.moved hW0.alike (hN.kept hS.2.1)
  have h : ∀ w ∈ Bundle.ownAtoms own ic cls names, w.before args s' = true := vx_own hat' (vx_isRefq hU'.1) (vx_isRefq hN'.1) hU'.2.word hN'.2.word
  have hown' : s'.vm.findClass own = some m.cls := by rw [hvm]; exact hown
  have hins : (Cond.instantiable cls 6).before args s' = true := h _ (by simp [Bundle.ownAtoms])
  obtain ⟨vm₁, cX, kX, hfX, hkX, -, -, X₁, st1⟩ := Y.newCold hexec (own := own) (C := cls) (index := ik) (n := 6) hown' hk' hins hini'
    (g := F0 m pc ls rest) rfl (by rw [hb]; exact d0) (Nat.le_refl _) (Nat.le_refl _)
  generalize hT1 : (T.setVm vm₁).pushCell { cls := cX, slots := kX.instanceTypes.map defaultValue, vm := .none } = T1 at X₁ st1
  have hcat : (Value.ref T.heap.size).category = 1 := rfl
  have hcellA : T1.heap[T.heap.size]? = some (freshCell cX kX) := by rw [← hT1]; exact State.heap_pushCell_size _ _
  have d3' : decode c.code (pc + 3) = .ok (.dup, 1) := by rw [hb]; exact d3
  have d4' : decode c.code (pc + 4) = .ok (.ldc_w is, 3) := by rw [hb]; exact d4
  have hstr' : vk_R own is text sa s' := vk_R.warm hW0 hstr
  obtain ⟨U, hsteps, hrun, hend, hW, hsame, ce, hce, hO⟩ := X₁.ctorThrowS hexec htr (own := own) (cls := cls) (names := names) (ic := ic) hown' hcls hnames h (fun x hx => nomatch hx) hfX hkX hcellA (by rw [hhp, hT]; exact Nat.le_refl _) (msg := .ref sa) rfl
    (g := { method := m, pc := pc + 7, locals := ls, stack := .ref sa :: .ref T.heap.size :: .ref T.heap.size :: rest, locked := none }) rfl hsize rfl rfl (rest := rest) rfl
    (by rw [hb]; exact d7) (by rw [hb]; exact d10) hout hRframes (by simp only [List.map_cons, List.sum_cons, hcat]; omega) hlocks
  obtain ⟨f1, f2⟩ := vx_frame hsame
  rw [hhp] at f1 f2
  have hWs : s.WarmedH U.vm := State.WarmedH.trans hW0 hW
  have hcl : s.vm.findClass cls = some ce.cls := by
    have h9 := hO.cls
    rw [hvm] at h9
    exact h9
  have hall : s.sameButNew ({ U with vm := s.vm } : State) locs mc ms := by
    subst hA
    obtain ⟨e1, e2⟩ := hsame
    rw [State.setFrames_setFrames] at e1
    have h2 : (T.setVm s.vm).sameButNew ({ U with vm := s.vm } : State) [] (0 + 1) (0 + 6) := ⟨e1, e2⟩
    have h3 := X.same.trans h2
    rw [List.append_nil] at h3
    exact h3.mono hc hs
  refine ⟨U, ?_, .threw T.heap.size, hrun, hend, Or.inr ⟨T.heap.size, rfl, cls, ce, locs, hx U hWs.alike f1 (fun q hq => f2 q hq (fun z hz => nomatch hz)), hce, hO.vm, hcl, hWs, hall, hf⟩⟩
  refine st1 _ ?_
  show Steps p.tables e below (T1.setTop { method := m, pc := pc + 3, locals := ls, stack := .ref T.heap.size :: rest, locked := none }) _
  jvm_step X₁.here [X₁.here.top, hexec, d3', Value.category]
  exact X₁.ldcStringW hexec (own := own) (text := text) (index := is) (a := sa) hown' hstr'.1 hstr'.2
    (g := { method := m, pc := pc + 4, locals := ls, stack := .ref T.heap.size :: .ref T.heap.size :: rest, locked := none }) rfl d4' _ hsteps
end Ends
section Bodies
variable {l : Launch}
theorem vx_ofW {y : MethodName} {ws ws' : List Cond} {rm : Room} {Pc : Array Value → State → Prop} {Qc : Array Value → State → Outcome → State → Prop} {XC : String → State → State → Prop} {mc ms : Nat} {free : Addr → Prop} {cc : ByteArray} {maxL : Nat} {ret : Option FieldType}
    (hy : plainName y.cls = true) (hw : ws = Cond.code y cc maxL ret :: ws')
    (body : ∀ p e s m args below meth c s₁, BodyLoose p l y (headSpec ws rm) cc maxL ret e s m args below meth c s₁ → c.maxLocals = maxL → (∀ x ∈ c.exceptionTable.toList, False) → Pc args s →
      W p l e (headSpec ws rm).room s m args below meth c s.heap [] 0 0 (vx_MQ below Qc XC args s mc ms free) (entryFrame m args maxL)) : vx_Met l y ws rm Pc Qc XC mc ms free := by
  refine MetFree.of_bodyS (code := cc) (maxLocals := maxL) (ret := ret) hy ?_ ?_
  · intro args s m h hn
    obtain ⟨meth, c, h1, h2, h3, h4, h5, h6, -, -⟩ := Cond.code_spec hn (atoms_spec (ws := ws) h _ (by rw [hw]; exact List.mem_cons_self))
    exact ⟨meth, c, h1, h2, h3, h4, h5, h6⟩
  · intro p e s m args below meth c s₁ B hml hP _
    have hh0 : s₁.heap = s.heap := by rw [B.state]; rfl
    have ht : ∀ x ∈ c.exceptionTable.toList, False := by
      obtain ⟨meth9, c9, h1, h2, -, -, -, -, h7, -⟩ := Cond.code_spec B.named (atoms_spec (ws := ws) B.pre _ (by rw [hw]; exact List.mem_cons_self))
      cases Option.some.inj (h1.symm.trans B.method)
      cases Option.some.inj (h2.symm.trans (Stand.of_body B).code)
      intro x hx
      rw [Array.isEmpty_iff.mp h7] at hx
      cases hx
    obtain ⟨t, a1, o, b1, b2, b3⟩ := body p e s m args below meth c s₁ B hml ht hP s₁ hh0 (Stand.of_body B)
    exact ⟨t, o, a1, b1, b2, b3⟩
/-- the table of a body with handlers -/
theorem vx_table {p : Program} {x y : MethodName} {S : Spec} {cc bytes : ByteArray} {maxL maxL' : Nat} {ret ret' : Option FieldType} {e : Env} {s s₁ : State} {m : MethodId} {args : Array Value} {below : List Frame} {meth : Method} {c : Code} {hh : List (Nat × Nat × Nat × Nat)}
    (B : BodyLoose p l y S cc maxL ret e s m args below meth c s₁) (h : (Cond.codeWith y bytes maxL' ret' hh).before args s = true) : c.exceptionTable.toList = tableOf hh := by
  obtain ⟨m9, meth9, c9, hn9, h1, h2, -, -, h6, -⟩ := Cond.codeWith_spec h
  cases Option.some.inj (hn9.symm.trans B.named)
  cases Option.some.inj (h1.symm.trans B.method)
  cases Option.some.inj (h2.symm.trans (Stand.of_body B).code)
  rw [← h6, table_eq]
end Bodies
end VXA
/-! ===== END ===== -/
/-! ===== BEGIN a static call of a method with an exception table ===== -/
section VXS
variable {p : Program} {l : Launch} {e : Env} {R : Room} {s : State} {m : MethodId} {args : Array Value} {below : List Frame} {meth : Method} {c : Code} {T : State} {H : Heap} {locs : List Loc} {cells slots : Nat}
abbrev vx_CSW (R : Room) (s : State) (args : Array Value) (own : String) (index : Nat) (y : MethodName) (bytes : ByteArray) (maxL : Nat) (ret : Option FieldType) (hh : List (Nat × Nat × Nat × Nat)) (ws : List Cond) (rm : Room) (mc ms n : Nat) : Prop :=
  (rm.cells = mc ∧ rm.slots = ms ∧ rm.frames + 1 ≤ R.frames ∧ 8 + (maxL + 11) + rm.locals ≤ R.locals ∧ (∀ w ∈ ws, ∀ (a' : Array Value) (U : State), s.WarmedH U.vm → w.before a' U = true) ∧ Cond.codeWith y bytes maxL ret hh ∈ ws) ∧
  (Cond.codeWith y bytes maxL ret hh).before args s = true ∧ (Cond.initialized y.cls).before args s = true ∧ (y.cls ≠ "java/lang/invoke/MethodHandle" ∧ y.cls ≠ "java/lang/invoke/VarHandle") ∧
  (∀ sig, parseMethodDescriptor y.desc = some sig → n = sig.parameters.length) ∧ (Cond.methodLink own index y).before args s = true ∧ (Cond.static y).before args s = true
theorem vx_cwSW {own : String} {index maxL mc ms : Nat} {y : MethodName} {bytes : ByteArray} {ret : Option FieldType} {hh : List (Nat × Nat × Nat × Nat)} {Ts ws ws' : List Cond} {rm : Room} (n : Nat) (ht : ∀ w ∈ Ts, w.before args s = true) (hT : GoodIn Ts (va_wsS own index y ws)) (hw : ws = Cond.codeWith y bytes maxL ret hh :: ws') (hrc : rm.cells = mc) (hrs : rm.slots = ms)
    (hd : y.cls ≠ "java/lang/invoke/MethodHandle" ∧ y.cls ≠ "java/lang/invoke/VarHandle" ∧ (parseMethodDescriptor y.desc).map (fun d => d.parameters.length) = some n) (hR : rm.frames + 1 ≤ R.frames ∧ 8 + (maxL + 11) + rm.locals ≤ R.locals) :
    vx_CSW R s args own index y bytes maxL ret hh ws rm mc ms n := by
  have ok : ∀ w ∈ va_wsS own index y ws, w.before args s = true := fun w h => ht w (hT w h).1
  have hG : GoodIn Ts ws := fun w h => hT w (by unfold va_wsS; exact List.mem_append_right _ h)
  have hc : Cond.codeWith y bytes maxL ret hh ∈ ws := by rw [hw]; exact List.mem_cons_self
  refine ⟨⟨hrc, hrs, hR.1, hR.2, pay_in ht hG, hc⟩, ht _ (hG _ hc).1, ok _ (by simp [va_wsS]), ⟨hd.1, hd.2.1⟩, fun sig h => ?_, ok _ (by simp [va_wsS]), ok _ (by simp [va_wsS])⟩
  have h2 := hd.2.2
  rw [h] at h2
  exact (Option.some.inj h2).symm
theorem vx_callSW (X : Stand p l e R s m args below meth c T locs cells slots) (hexec : p.tables.exec = Jvm.exec) {own : String} {index : Nat} {y : MethodName} {bytes : ByteArray} {maxL : Nat} {ret : Option FieldType} {hh : List (Nat × Nat × Nat × Nat)}
    (hown : s.vm.findClass own = some m.cls) (hlink : (Cond.methodLink own index y).before args s = true) (hstat : (Cond.static y).before args s = true) (hinit : (Cond.initialized y.cls).before args s = true)
    (hcode : (Cond.codeWith y bytes maxL ret hh).before args s = true) (hy : y.cls ≠ "java/lang/invoke/MethodHandle" ∧ y.cls ≠ "java/lang/invoke/VarHandle")
    {W9 : Nat} {Pre : Pt → Array Value → Prop} {Post : Pt → Array Value → Option Value → Pt → Prop} (hK : Back l R p e below s args y 3 W9 Pre Post)
    {g : JFrame} (hg : g.method = m) (hsize : g.locals.size = c.maxLocals) {argsL rest : List Value} (hlen : ∀ sig, parseMethodDescriptor y.desc = some sig → argsL.length = sig.parameters.length)
    (hstack : g.stack = argsL.reverse ++ rest) (hW : 2 * g.monitorRoom + (rest.map fun v => v.category).sum ≤ W9) (hdg : decode c.code g.pc = .ok (.invokestatic index, 3))
    (hpre : ∀ vm₁, s.WarmedH vm₁ → Pre ⟨T.setVm vm₁, locs, cells, slots⟩ argsL.toArray) :
    ∃ (v : Option Value) (vm₁ : Vm) (B : Pt), s.WarmedH vm₁ ∧ Stand p l e R s m args below meth c B.U B.locs B.cells B.slots ∧ Post ⟨T.setVm vm₁, locs, cells, slots⟩ argsL.toArray v B ∧
      ∀ target, Steps p.tables e below (B.U.setTop { g with pc := g.pc + 3, stack := v.toList ++ rest }) target → Steps p.tables e below (T.setTop g) target := by
  obtain ⟨mk, methM, cM, hnamed, hmethM, -, -, -, -, -, -, hsigM⟩ := Cond.codeWith_spec hcode
  have hstatic : methM.isStatic = true := Cond.static_spec hnamed hmethM hstat
  obtain ⟨kP, hkP, -⟩ := className_of_methodNamed hnamed
  have hinitP : kP.init = .initialized := Cond.initialized_spec (findClass_of_methodNamed hnamed) hkP hinit
  obtain ⟨vm₁, X₁, hstep₁⟩ := X.invokestatic hexec hown hlink hnamed hmethM hstatic hkP hinitP hy (g := g) hg (argsL := argsL) (rest := rest) (hlen _ hsigM) hstack hdg
  obtain ⟨v, B, X', hpost, hsteps⟩ := hK m meth c ⟨T.setVm vm₁, locs, cells, slots⟩ { g with stack := rest } (.invokestatic index) mk argsL.toArray X₁ hg hsize hdg hW (X₁.named hnamed) (hpre vm₁ X₁.warmed)
  exact ⟨v, vm₁, B, X₁.warmed, X', hpost, fun target h => hstep₁ _ fun acts => by rw [doInvoke_state]; exact hsteps.trans h⟩
theorem vx_runSW {y : MethodName} {bytes cc : ByteArray} {maxL nL mc ms n index : Nat} {ret : Option FieldType} {hh : List (Nat × Nat × Nat × Nat)} {ws : List Cond} {rm : Room} {Pc : Array Value → State → Prop} {Qc : Array Value → State → Outcome → State → Prop} {free : Addr → Prop} {Ts : List Cond} {own : String} {As rest : List Value} {g : JFrame}
    (S : CallFix p m c cc nL s args Ts own) (hM : Met l y ws rm Pc Qc mc ms free) (cw : vx_CSW R s args own index y bytes maxL ret hh ws rm mc ms n) (hp : PreS s H Pc As)
    (hg : g.method = m) (hn : As.length = n) (hsize : g.locals.size = nL) (hstack : g.stack = As.reverse ++ rest) (hW : 2 * g.monitorRoom + (rest.map fun v => v.category).sum ≤ 8) (hdg : decode cc g.pc = .ok (.invokestatic index, 3)) (hf : cells + mc ≤ R.cells ∧ slots + ms ≤ R.slots) :
    va_Run p l e R s m args below meth c H locs cells slots mc ms g rest (Qc As.toArray) (free) := by
  obtain ⟨⟨hrc, hrs, hfr, hlo, hws, hcw⟩, hcode, hini, hy, hlen, hl, hstt⟩ := cw
  have hK : Back l R p e below s args y 3 8 (PreOf R mc ms Pc) (PostOf Qc mc ms free) := va_backW (hh := hh) (bytes := bytes) (maxL := maxL) (ret := ret) hM hp.1 hrc hrs hfr hlo hws hcw (fun a' U hW => word_at hW (Or.inl (by first | rfl | simp [Cond.onTables, Cond.keeps, Cond.steady])) hini)
  obtain ⟨hx, hb, hml, ho, -⟩ := S
  intro T hT X
  obtain ⟨v, vm₁, ⟨U', l2, c2, s2⟩, hW₁, X', ⟨g', mk, t, L, e1, e2, hq, h1, hL, h2, h3⟩, st⟩ := vx_callSW X hx (hh := hh) (bytes := bytes) (maxL := maxL) (ret := ret) ho hl hstt hini hcode hy hK hg (hsize.trans hml.symm) (argsL := As) (rest := rest) (fun sig h => hn.trans (hlen sig h)) hstack hW (by rw [hb]; exact hdg)
    (fun vm₁ hW₁ => ⟨hf.1, hf.2, hp.2 (T.setVm vm₁) hT hW₁⟩)
  dsimp only [Pt.U, Pt.locs, Pt.cells, Pt.slots] at X' e1 e2 h1 h2 h3 st
  subst h1; subst h2; subst h3
  exact ⟨v, (T.setVm vm₁).calling g' mk As.toArray, t, U', L, hT, X', hL, e1, e2, hq, st⟩
/-- not caught here, past rows that name other classes: it goes on to the caller -/
theorem vx_outP {p : Program} {l : Launch} {e : Env} {R : Room} {s : State} {m : MethodId} {args : Array Value} {below : List Frame} {meth : Method} {c : Code} {H : Heap} {locs : List Loc} {cells slots : Nat} {free : Addr → Prop} {ls : Array Slot} {rest : List Value} {Qc : Array Value → State → Outcome → State → Prop} {XC : String → State → State → Prop}
    {pc : Nat} {own E : String} {ce : Cell} {q : Addr} {mc ms : Nat} (hown : s.vm.findClass own = some m.cls) (hlocks : meth.locks = false)
    (hpass : ∀ z ∈ c.exceptionTable.toList, covers z pc = false ∨ (z.catchType ≠ 0 ∧ ∃ nm : String, (Cond.classLink own z.catchType nm).before args s = true ∧ va_Nc E nm s)) (hcell : H[q]? = some ce) (hv : ce.vm = .none) (hcl : s.vm.findClass E = some ce.cls)
    (hx : ∀ t : State, t.heap = H → s.vm.Alike t.vm → XC E s t) (hf : ∀ z ∈ locs, free z.base) (hc : cells ≤ mc) (hs : slots ≤ ms) :
    vx_W p l e R s m args below meth c H locs cells slots (vx_MQ below Qc XC args s mc ms free) (F0 m pc ls rest) q := by
  intro T hT X
  have hpl : e.platform.magicAccessors = ({} : Platform).magicAccessors := by rw [X.admits.platform]
  obtain ⟨vm', hW', X', st⟩ := X.outThrough hlocks q (g := F0 m pc ls rest) rfl rfl rfl (cell := ce) (by rw [hT]; exact hcell) (by rw [hv]; rfl)
    (by obtain ⟨k9, h9, -⟩ := Vm.findClass_spec hcl; exact ⟨k9, h9⟩) (fun z hz => by
      rcases hpass z hz with h | ⟨hz0, nm, hl1, hn1⟩
      · exact Or.inl h
      · obtain ⟨c6, hc6, hcl6⟩ := Cond.classLink_spec hown hl1 e.platform hpl
        obtain ⟨a8, b8, h1, h2, h3⟩ := hn1
        cases Option.some.inj (h1.symm.trans hcl)
        cases Option.some.inj (h2.symm.trans hc6)
        exact Or.inr ⟨hz0, _, hcl6, h3⟩)
  obtain ⟨g₀, hfr⟩ := X'.frames_eq
  have hcell9 : ((T.setVm vm').setFrames (.throwing q :: below)).heap[q]? = some ce := by
    show T.heap[q]? = some ce
    rw [hT]; exact hcell
  have hend : Ended ((T.setVm vm').setFrames (.throwing q :: below)) below (.threw q) := State.frames_setFrames _ (State.cur_lt_of_frames hfr)
  refine ⟨(T.setVm vm').setFrames (.throwing q :: below), ?_, .threw q, X'.here.running, hend, Or.inr ⟨q, rfl, E, ce, locs, hx _ hT (X'.ends _).1.alike, hcell9, hv, hcl, (X'.ends _).1, (X'.ends _).2.mono hc hs, hf⟩⟩
  rw [X.pushThrowing_eq]
  exact st
/-- a thing of a world lies in the heap -/
theorem vx_lt {D : va_G} {cl : List vw_C} {ws : va_W} {H1 : Heap} (h : va_P D cl ws H1) {k : Nat} {q : Nat × va_E} (hk : ws[k]? = some q) : q.1 < H1.size := (h k q hk).lt
end VXS
/-! ===== END ===== -/
/-! ===== BEGIN methods with a table of their own: called by a name, returning or throwing ===== -/
section VXH
/-! vx_backW, vx_callVX, vx_callSX, vx_callVW, vx_runVW, vx_runVX, vx_runSX, vx_ofWH follow the same proofs as their sisters above (Free/Laws.lean, Shelf42/LK1.lean); vx_outP calls Shelf42/NT130.lean (outThrough). -/
section
variable {l : Launch} {R : Room} {p : Program} {e : Env} {below : List Frame} {s : State} {sargs : Array Value} {y : MethodName} {len W9 : Nat}
theorem vx_backW {ws : List Cond} {rm : Room} {Pc : Array Value → State → Prop} {Qc : Array Value → State → Outcome → State → Prop} {XC : String → State → State → Prop} {mc ms : Nat} {free : Addr → Prop} {bytes : ByteArray} {maxL : Nat} {ret : Option FieldType} {hh : List (Nat × Nat × Nat × Nat)}
    (hM : vx_Met l y ws rm Pc Qc XC mc ms free) (hblind : FrameBlind Pc) (hrc : rm.cells = mc) (hrs : rm.slots = ms)
    (hframes : rm.frames + 1 ≤ R.frames) (hlocals : W9 + (maxL + 11) + rm.locals ≤ R.locals)
    (hws : ∀ w ∈ ws, ∀ a' U, s.WarmedH U.vm → w.before a' U = true) (hcode : Cond.codeWith y bytes maxL ret hh ∈ ws) (hinit : ∀ a' U, s.WarmedH U.vm → (Cond.initialized y.cls).before a' U = true) :
    vx_Back l R p e below s sargs y len W9 (PreOf R mc ms Pc) (PostOf Qc mc ms free) (vx_Post XC mc ms free) := by
  intro m meth c A g ig mk a X hg hsize hdg hW hn hp
  have h1 : (headSpec ws rm).pre.before a A.U = true := atoms_intro fun w hw => hws w hw _ _ X.warmed
  have h2 : (Cond.codeWith y bytes maxL ret hh).before a A.U = true := hws _ hcode _ _ X.warmed
  have h3 : (Cond.initialized y.cls).before a A.U = true := hinit _ _ X.warmed
  have h4 : A.cells + (headSpec ws rm).room.cells ≤ R.cells := by rw [show (headSpec ws rm).room.cells = mc from hrc]; exact hp.1
  have h5 : A.slots + (headSpec ws rm).room.slots ≤ R.slots := by rw [show (headSpec ws rm).room.slots = ms from hrs]; exact hp.2.1
  have hPc : Pc a (A.U.calling g mk a) := hblind _ _ _ _ hp.2.2
  obtain ⟨U, Ls, c0, s0⟩ := A
  dsimp only [Pt.U, Pt.locs, Pt.cells, Pt.slots] at h1 h2 h3 h4 h5 X hn hPc ⊢
  obtain ⟨m9, methY, cY, hn9, hmY, hcY, -, hlY, -⟩ := Cond.codeWith_spec h2
  cases Option.some.inj (hn9.symm.trans hn)
  obtain ⟨kY, hkY, -⟩ := className_of_methodNamed hn
  have hinitY : kY.init = .initialized := Cond.initialized_spec (findClass_of_methodNamed hn) hkY h3
  have h : At U g.method c below := by rw [hg]; exact X.here
  have hlocals9 : W9 + (maxL + 11) + (headSpec ws rm).room.locals ≤ R.locals := hlocals
  have happ : (headSpec ws rm).appliesLoose y e.platform (U.calling g mk a) = true :=
    Spec.appliesLoose_calling (g := g) h hdg hn hkY hinitY
      (X.room_calling (g := g) (R' := (headSpec ws rm).room) hsize hmY hcY hframes (by rw [hlY]; omega) h4 h5) h1
  obtain ⟨mid, hmid⟩ := h.above
  have hfr : (U.setTop g).frames = (.java g :: mid) ++ below := by rw [State.frames_setTop' g h.top, hmid]; rfl
  obtain ⟨o, s₂, hsteps, -, hend, hq⟩ := Steps.callFree hM p X.admits X.cas X.clock (acts := []) hfr happ hPc trivial
  have hq' : vx_Q Qc XC mc ms free a (U.calling g mk a) o s₂ := hq
  rw [State.frames_setTop' g h.top] at hend
  obtain ⟨g₀, hg0⟩ := Option.isSome_iff_exists.mp h.top
  obtain ⟨r, hr⟩ := State.topJava?_eq_some.mp hg0
  have hr' : (({ U with heap := s₂.heap, slotsUsed := s₂.slotsUsed } : State).setVm s₂.vm).frames = .java g₀ :: r := hr
  rcases hq' with ⟨hqc, L, hfe, hL⟩ | ⟨q, rfl, E, ce, L, hx, hce, hcv, hcl, hW₂, hsm, hL⟩
  · obtain ⟨⟨v, rfl⟩, hW₂, e2, q2, q3, q4, q5, q6⟩ := id hfe
    have e3 : s₂ = ({ (U.calling g mk a).setFrames s₂.frames with heap := s₂.heap, slotsUsed := s₂.slotsUsed } : State).setVm s₂.vm := by
      have : s₂ = ({ s₂ with vm := (U.calling g mk a).vm } : State).setVm s₂.vm := rfl
      rw [e2] at this
      exact this
    obtain ⟨c₂, i₂, len₂, hc₂, hd₂, hf₂⟩ := hend
    have hW' : U.WarmedH s₂.vm := hW₂
    have hcc : c₂ = c := by
      have h1 : s₂.code? g.method = U.code? g.method := by
        rw [State.code?_eq, State.code?_eq, hW'.alike.method?]
      exact Option.some.inj (hc₂.symm.trans (h1.trans h.code))
    subst hcc
    have hlen : len₂ = len := by rw [hdg] at hd₂; cases hd₂; rfl
    subst hlen
    have hs₂ : s₂ = (({ U with heap := s₂.heap, slotsUsed := s₂.slotsUsed } : State).setVm s₂.vm).setTop { g with pc := g.pc + len₂, stack := v.toList ++ g.stack } := by
      refine e3.trans ?_
      rw [hf₂, State.calling_eq h.top, State.setFrames_setFrames, State.setTop_of_frames _ hr', hr]
      rfl
    have hsame : U.sameButNew ({ U with heap := s₂.heap, slotsUsed := s₂.slotsUsed } : State) L mc ms := by
      refine ⟨?_, q2, q3, q4, q5, q6⟩
      obtain ⟨t, ht, -⟩ := State.frames_cons hr
      show ({ U with heap := s₂.heap, slotsUsed := s₂.slotsUsed } : State) = { U.setFrames U.frames with heap := s₂.heap, slotsUsed := s₂.slotsUsed }
      rw [State.setFrames_self ht]
    subst hg
    refine Or.inl ⟨v, ⟨(({ U with heap := s₂.heap, slotsUsed := s₂.slotsUsed } : State).setVm s₂.vm), Ls ++ L, c0 + mc, s0 + ms⟩,
      ⟨X.admits, X.cas, X.clock, X.frames, X.room, X.hears, X.method, X.code, (X.here.setHeapUsed s₂.heap s₂.slotsUsed).setVm hW'.alike, X.tail, State.WarmedH.trans X.warmed hW', X.limits, X.bytes, X.same.trans (hsame.setVm s.vm)⟩,
      ⟨g, mk, s₂, L, rfl, rfl, hqc, rfl, hL, rfl, rfl⟩, ?_⟩
    show Steps p.tables e below _ ((({ U with heap := s₂.heap, slotsUsed := s₂.slotsUsed } : State).setVm s₂.vm).setTop { g with pc := g.pc + len₂, stack := v.toList ++ g.stack })
    rw [← hs₂]
    exact hsteps
  · obtain ⟨e2, q2, q3, q4, q5, q6⟩ := id hsm
    have e3 : s₂ = ({ (U.calling g mk a).setFrames s₂.frames with heap := s₂.heap, slotsUsed := s₂.slotsUsed } : State).setVm s₂.vm := by
      have : s₂ = ({ s₂ with vm := (U.calling g mk a).vm } : State).setVm s₂.vm := rfl
      rw [e2] at this
      exact this
    have hf₂ : s₂.frames = .throwing q :: .java g :: U.frames.tail := hend
    have hW' : U.WarmedH s₂.vm := hW₂
    have hs₂ : s₂ = ((({ U with heap := s₂.heap, slotsUsed := s₂.slotsUsed } : State).setVm s₂.vm).setTop g).pushFrame (.throwing q) := by
      refine e3.trans ?_
      rw [hf₂, State.calling_eq h.top, State.setFrames_setFrames, State.pushFrame, State.frames_setTop _ hr', State.setTop_of_frames _ hr', State.setFrames_setFrames, hr]
      rfl
    have hsame : U.sameButNew ({ U with heap := s₂.heap, slotsUsed := s₂.slotsUsed } : State) L mc ms := by
      refine ⟨?_, q2, q3, q4, q5, q6⟩
      obtain ⟨t, ht, -⟩ := State.frames_cons hr
      show ({ U with heap := s₂.heap, slotsUsed := s₂.slotsUsed } : State) = { U.setFrames U.frames with heap := s₂.heap, slotsUsed := s₂.slotsUsed }
      rw [State.setFrames_self ht]
    subst hg
    refine Or.inr ⟨q, ⟨(({ U with heap := s₂.heap, slotsUsed := s₂.slotsUsed } : State).setVm s₂.vm), Ls ++ L, c0 + mc, s0 + ms⟩,
      ⟨X.admits, X.cas, X.clock, X.frames, X.room, X.hears, X.method, X.code, (X.here.setHeapUsed s₂.heap s₂.slotsUsed).setVm hW'.alike, X.tail, State.WarmedH.trans X.warmed hW', X.limits, X.bytes, X.same.trans (hsame.setVm s.vm)⟩,
      ⟨g, mk, s₂, L, E, ce, rfl, rfl, hx, hce, hcv, hcl, rfl, hL, rfl, rfl⟩, ?_⟩
    show Steps p.tables e below _ (((({ U with heap := s₂.heap, slotsUsed := s₂.slotsUsed } : State).setVm s₂.vm).setTop g).pushFrame (.throwing q))
    rw [← hs₂]
    exact hsteps
end
variable {p : Program} {l : Launch} {e : Env} {R : Room} {s : State} {m : MethodId} {args : Array Value} {below : List Frame} {meth : Method} {c : Code} {T : State} {H : Heap} {locs : List Loc} {cells slots : Nat}
theorem vx_callVX (X : Stand p l e R s m args below meth c T locs cells slots) (hexec : p.tables.exec = Jvm.exec) {own C : String} {index : Nat} {y : MethodName} {bytes : ByteArray} {maxL : Nat} {ret : Option FieldType} {hh : List (Nat × Nat × Nat × Nat)}
    (hown : s.vm.findClass own = some m.cls) (hlink : (Cond.methodLink own index y).before args s = true) (hinst : (Cond.instanceMethod y).before args s = true) (hsel : (Cond.selects C y y).before args s = true)
    (hcode : (Cond.codeWith y bytes maxL ret hh).before args s = true) (hy : y.cls ≠ "java/lang/invoke/MethodHandle" ∧ y.cls ≠ "java/lang/invoke/VarHandle")
    {W9 : Nat} {Pre : Pt → Array Value → Prop} {Post : Pt → Array Value → Option Value → Pt → Prop} {PostX : Pt → Array Value → Addr → Pt → Prop} (hK : vx_Back l R p e below s args y 3 W9 Pre Post PostX)
    {b : Addr} {cellB : Cell} (hcell : T.heap[b]? = some cellB) (hobj : cellB.vm.isStatics = false) (hcls : s.vm.findClass C = some cellB.cls)
    {g : JFrame} (hg : g.method = m) (hsize : g.locals.size = c.maxLocals) {argsL rest : List Value} (hlen : ∀ sig, parseMethodDescriptor y.desc = some sig → argsL.length = sig.parameters.length)
    (hstack : g.stack = argsL.reverse ++ .ref b :: rest) (hW : 2 * g.monitorRoom + (rest.map fun v => v.category).sum ≤ W9) (hdg : decode c.code g.pc = .ok (.invokevirtual index, 3))
    (hpre : ∀ vm₁, s.WarmedH vm₁ → Pre ⟨T.setVm vm₁, locs, cells, slots⟩ (Value.ref b :: argsL).toArray) :
    (∃ (v : Option Value) (vm₁ : Vm) (B : Pt), s.WarmedH vm₁ ∧ Stand p l e R s m args below meth c B.U B.locs B.cells B.slots ∧ Post ⟨T.setVm vm₁, locs, cells, slots⟩ (Value.ref b :: argsL).toArray v B ∧
      ∀ target, Steps p.tables e below (B.U.setTop { g with pc := g.pc + 3, stack := v.toList ++ rest }) target → Steps p.tables e below (T.setTop g) target) ∨
    (∃ (q : Addr) (vm₁ : Vm) (B : Pt), s.WarmedH vm₁ ∧ Stand p l e R s m args below meth c B.U B.locs B.cells B.slots ∧ PostX ⟨T.setVm vm₁, locs, cells, slots⟩ (Value.ref b :: argsL).toArray q B ∧
      Steps p.tables e below (T.setTop g) ((B.U.setTop { g with stack := rest }).pushFrame (.throwing q))) := by
  obtain ⟨mk, methM, hnamed, hmethM, hstM, habM⟩ := Cond.instanceMethod_spec hinst
  obtain ⟨m8, methM', cM, hn8, hmethM', -, -, -, -, -, -, hsigM⟩ := Cond.codeWith_spec hcode
  cases Option.some.inj (hn8.symm.trans hnamed)
  cases hmethM.symm.trans hmethM'
  obtain ⟨c2, r2, m2, q1, q2, q3, q4, kP, hkP, hkPi⟩ := Cond.selects_spec hsel
  cases hcls.symm.trans q1
  cases (State.methodFound?_of_named hnamed hy).symm.trans q2
  cases hnamed.symm.trans q3
  have hselP : selectMethod e.platform s.vm cellB.cls mk = .method mk := by rw [Launch.admits_selectMethod X.admits]; exact q4
  obtain ⟨vm₁, X₁, hstep₁⟩ := X.invokevirtual hexec hown hlink hnamed hmethM hstM hkP hkPi hy (a := b) (cell := cellB) hcell
    (fun z h => by rw [h] at hobj; cases hobj) hselP hmethM habM hkP hkPi (g := g) hg (argsL := argsL) (rest := rest) (hlen _ hsigM) hstack hdg
  rcases hK m meth c ⟨T.setVm vm₁, locs, cells, slots⟩ { g with stack := rest } (.invokevirtual index) mk (Value.ref b :: argsL).toArray X₁ hg hsize hdg hW (X₁.named hnamed) (hpre vm₁ X₁.warmed) with ⟨v, B, X', hpost, hsteps⟩ | ⟨q, B, X', hpost, hsteps⟩
  · exact Or.inl ⟨v, vm₁, B, X₁.warmed, X', hpost, fun target h => hstep₁ _ fun acts => by rw [doInvoke_state]; exact hsteps.trans h⟩
  · exact Or.inr ⟨q, vm₁, B, X₁.warmed, X', hpost, hstep₁ _ fun acts => by rw [doInvoke_state]; exact hsteps⟩
theorem vx_callSX (X : Stand p l e R s m args below meth c T locs cells slots) (hexec : p.tables.exec = Jvm.exec) {own : String} {index : Nat} {y : MethodName} {bytes : ByteArray} {maxL : Nat} {ret : Option FieldType} {hh : List (Nat × Nat × Nat × Nat)}
    (hown : s.vm.findClass own = some m.cls) (hlink : (Cond.methodLink own index y).before args s = true) (hstat : (Cond.static y).before args s = true) (hinit : (Cond.initialized y.cls).before args s = true)
    (hcode : (Cond.codeWith y bytes maxL ret hh).before args s = true) (hy : y.cls ≠ "java/lang/invoke/MethodHandle" ∧ y.cls ≠ "java/lang/invoke/VarHandle")
    {W9 : Nat} {Pre : Pt → Array Value → Prop} {Post : Pt → Array Value → Option Value → Pt → Prop} {PostX : Pt → Array Value → Addr → Pt → Prop} (hK : vx_Back l R p e below s args y 3 W9 Pre Post PostX)
    {g : JFrame} (hg : g.method = m) (hsize : g.locals.size = c.maxLocals) {argsL rest : List Value} (hlen : ∀ sig, parseMethodDescriptor y.desc = some sig → argsL.length = sig.parameters.length)
    (hstack : g.stack = argsL.reverse ++ rest) (hW : 2 * g.monitorRoom + (rest.map fun v => v.category).sum ≤ W9) (hdg : decode c.code g.pc = .ok (.invokestatic index, 3))
    (hpre : ∀ vm₁, s.WarmedH vm₁ → Pre ⟨T.setVm vm₁, locs, cells, slots⟩ argsL.toArray) :
    (∃ (v : Option Value) (vm₁ : Vm) (B : Pt), s.WarmedH vm₁ ∧ Stand p l e R s m args below meth c B.U B.locs B.cells B.slots ∧ Post ⟨T.setVm vm₁, locs, cells, slots⟩ argsL.toArray v B ∧
      ∀ target, Steps p.tables e below (B.U.setTop { g with pc := g.pc + 3, stack := v.toList ++ rest }) target → Steps p.tables e below (T.setTop g) target) ∨
    (∃ (q : Addr) (vm₁ : Vm) (B : Pt), s.WarmedH vm₁ ∧ Stand p l e R s m args below meth c B.U B.locs B.cells B.slots ∧ PostX ⟨T.setVm vm₁, locs, cells, slots⟩ argsL.toArray q B ∧
      Steps p.tables e below (T.setTop g) ((B.U.setTop { g with stack := rest }).pushFrame (.throwing q))) := by
  obtain ⟨mk, methM, cM, hnamed, hmethM, -, -, -, -, -, -, hsigM⟩ := Cond.codeWith_spec hcode
  have hstatic : methM.isStatic = true := Cond.static_spec hnamed hmethM hstat
  obtain ⟨kP, hkP, -⟩ := className_of_methodNamed hnamed
  have hinitP : kP.init = .initialized := Cond.initialized_spec (findClass_of_methodNamed hnamed) hkP hinit
  obtain ⟨vm₁, X₁, hstep₁⟩ := X.invokestatic hexec hown hlink hnamed hmethM hstatic hkP hinitP hy (g := g) hg (argsL := argsL) (rest := rest) (hlen _ hsigM) hstack hdg
  rcases hK m meth c ⟨T.setVm vm₁, locs, cells, slots⟩ { g with stack := rest } (.invokestatic index) mk argsL.toArray X₁ hg hsize hdg hW (X₁.named hnamed) (hpre vm₁ X₁.warmed) with ⟨v, B, X', hpost, hsteps⟩ | ⟨q, B, X', hpost, hsteps⟩
  · exact Or.inl ⟨v, vm₁, B, X₁.warmed, X', hpost, fun target h => hstep₁ _ fun acts => by rw [doInvoke_state]; exact hsteps.trans h⟩
  · exact Or.inr ⟨q, vm₁, B, X₁.warmed, X', hpost, hstep₁ _ fun acts => by rw [doInvoke_state]; exact hsteps⟩
theorem vx_callVW (X : Stand p l e R s m args below meth c T locs cells slots) (hexec : p.tables.exec = Jvm.exec) {own C : String} {index : Nat} {y : MethodName} {bytes : ByteArray} {maxL : Nat} {ret : Option FieldType} {hh : List (Nat × Nat × Nat × Nat)}
    (hown : s.vm.findClass own = some m.cls) (hlink : (Cond.methodLink own index y).before args s = true) (hinst : (Cond.instanceMethod y).before args s = true) (hsel : (Cond.selects C y y).before args s = true)
    (hcode : (Cond.codeWith y bytes maxL ret hh).before args s = true) (hy : y.cls ≠ "java/lang/invoke/MethodHandle" ∧ y.cls ≠ "java/lang/invoke/VarHandle")
    {W9 : Nat} {Pre : Pt → Array Value → Prop} {Post : Pt → Array Value → Option Value → Pt → Prop} (hK : Back l R p e below s args y 3 W9 Pre Post)
    {b : Addr} {cellB : Cell} (hcell : T.heap[b]? = some cellB) (hobj : cellB.vm.isStatics = false) (hcls : s.vm.findClass C = some cellB.cls)
    {g : JFrame} (hg : g.method = m) (hsize : g.locals.size = c.maxLocals) {argsL rest : List Value} (hlen : ∀ sig, parseMethodDescriptor y.desc = some sig → argsL.length = sig.parameters.length)
    (hstack : g.stack = argsL.reverse ++ .ref b :: rest) (hW : 2 * g.monitorRoom + (rest.map fun v => v.category).sum ≤ W9) (hdg : decode c.code g.pc = .ok (.invokevirtual index, 3))
    (hpre : ∀ vm₁, s.WarmedH vm₁ → Pre ⟨T.setVm vm₁, locs, cells, slots⟩ (Value.ref b :: argsL).toArray) :
    ∃ (v : Option Value) (vm₁ : Vm) (B : Pt), s.WarmedH vm₁ ∧ Stand p l e R s m args below meth c B.U B.locs B.cells B.slots ∧ Post ⟨T.setVm vm₁, locs, cells, slots⟩ (Value.ref b :: argsL).toArray v B ∧
      ∀ target, Steps p.tables e below (B.U.setTop { g with pc := g.pc + 3, stack := v.toList ++ rest }) target → Steps p.tables e below (T.setTop g) target := by
  obtain ⟨mk, methM, hnamed, hmethM, hstM, habM⟩ := Cond.instanceMethod_spec hinst
  obtain ⟨m8, methM', cM, hn8, hmethM', -, -, -, -, -, -, hsigM⟩ := Cond.codeWith_spec hcode
  cases Option.some.inj (hn8.symm.trans hnamed)
  cases hmethM.symm.trans hmethM'
  obtain ⟨c2, r2, m2, q1, q2, q3, q4, kP, hkP, hkPi⟩ := Cond.selects_spec hsel
  cases hcls.symm.trans q1
  cases (State.methodFound?_of_named hnamed hy).symm.trans q2
  cases hnamed.symm.trans q3
  have hselP : selectMethod e.platform s.vm cellB.cls mk = .method mk := by rw [Launch.admits_selectMethod X.admits]; exact q4
  obtain ⟨vm₁, X₁, hstep₁⟩ := X.invokevirtual hexec hown hlink hnamed hmethM hstM hkP hkPi hy (a := b) (cell := cellB) hcell
    (fun z h => by rw [h] at hobj; cases hobj) hselP hmethM habM hkP hkPi (g := g) hg (argsL := argsL) (rest := rest) (hlen _ hsigM) hstack hdg
  obtain ⟨v, B, X', hpost, hsteps⟩ := hK m meth c ⟨T.setVm vm₁, locs, cells, slots⟩ { g with stack := rest } (.invokevirtual index) mk (Value.ref b :: argsL).toArray X₁ hg hsize hdg hW (X₁.named hnamed) (hpre vm₁ X₁.warmed)
  exact ⟨v, vm₁, B, X₁.warmed, X', hpost, fun target h => hstep₁ _ fun acts => by rw [doInvoke_state]; exact hsteps.trans h⟩
abbrev vx_CVW (R : Room) (s : State) (args : Array Value) (own C : String) (index : Nat) (y : MethodName) (bytes : ByteArray) (maxL : Nat) (ret : Option FieldType) (hh : List (Nat × Nat × Nat × Nat)) (ws : List Cond) (rm : Room) (mc ms n : Nat) : Prop :=
  (rm.cells = mc ∧ rm.slots = ms ∧ rm.frames + 1 ≤ R.frames ∧ 8 + (maxL + 11) + rm.locals ≤ R.locals ∧ (∀ w ∈ ws, ∀ (a' : Array Value) (U : State), s.WarmedH U.vm → w.before a' U = true) ∧ Cond.codeWith y bytes maxL ret hh ∈ ws) ∧
  (Cond.codeWith y bytes maxL ret hh).before args s = true ∧ (Cond.initialized y.cls).before args s = true ∧ (y.cls ≠ "java/lang/invoke/MethodHandle" ∧ y.cls ≠ "java/lang/invoke/VarHandle") ∧
  (∀ sig, parseMethodDescriptor y.desc = some sig → n = sig.parameters.length) ∧ (Cond.methodLink own index y).before args s = true ∧ (Cond.instanceMethod y).before args s = true ∧ (Cond.selects C y y).before args s = true
theorem vx_cwVW {own C : String} {index maxL mc ms : Nat} {y : MethodName} {bytes : ByteArray} {ret : Option FieldType} {hh : List (Nat × Nat × Nat × Nat)} {Ts ws ws' : List Cond} {rm : Room} (n : Nat) (ht : ∀ w ∈ Ts, w.before args s = true) (hT : GoodIn Ts (wsV own index C y ws)) (hw : ws = Cond.codeWith y bytes maxL ret hh :: ws') (hrc : rm.cells = mc) (hrs : rm.slots = ms)
    (hd : y.cls = C ∧ y.cls ≠ "java/lang/invoke/MethodHandle" ∧ y.cls ≠ "java/lang/invoke/VarHandle" ∧ (parseMethodDescriptor y.desc).map (fun d => d.parameters.length) = some n) (hR : rm.frames + 1 ≤ R.frames ∧ 8 + (maxL + 11) + rm.locals ≤ R.locals) :
    vx_CVW R s args own C index y bytes maxL ret hh ws rm mc ms n := by
  obtain ⟨hC, hd⟩ := hd
  subst hC
  have ok : ∀ w ∈ wsV own index y.cls y ws, w.before args s = true := fun w h => ht w (hT w h).1
  have hG : GoodIn Ts ws := fun w h => hT w (by unfold wsV; exact List.mem_append_right _ h)
  have hc : Cond.codeWith y bytes maxL ret hh ∈ ws := by rw [hw]; exact List.mem_cons_self
  refine ⟨⟨hrc, hrs, hR.1, hR.2, pay_in ht hG, hc⟩, ht _ (hG _ hc).1, ok _ (by simp [wsV]), ⟨hd.1, hd.2.1⟩, fun sig h => ?_, ok _ (by simp [wsV]), ok _ (by simp [wsV]), ok _ (by simp [wsV])⟩
  have h2 := hd.2.2
  rw [h] at h2
  exact (Option.some.inj h2).symm
theorem vx_runVW {y : MethodName} {bytes cc : ByteArray} {maxL nL mc ms n index : Nat} {ret : Option FieldType} {hh : List (Nat × Nat × Nat × Nat)} {ws : List Cond} {rm : Room} {Pc : Array Value → State → Prop} {Qc : Array Value → State → Outcome → State → Prop} {free : Addr → Prop} {Ts : List Cond} {own C : String} {b : Addr} {As rest : List Value} {g : JFrame}
    (S : CallFix p m c cc nL s args Ts own) (hM : Met l y ws rm Pc Qc mc ms free) (cw : vx_CVW R s args own C index y bytes maxL ret hh ws rm mc ms n) (hp : PreV s H C b Pc As)
    (hg : g.method = m) (hn : As.length = n) (hsize : g.locals.size = nL) (hstack : g.stack = As.reverse ++ .ref b :: rest) (hW : 2 * g.monitorRoom + (rest.map fun v => v.category).sum ≤ 8) (hdg : decode cc g.pc = .ok (.invokevirtual index, 3)) (hf : cells + mc ≤ R.cells ∧ slots + ms ≤ R.slots) :
    va_Run p l e R s m args below meth c H locs cells slots mc ms g rest (Qc (Value.ref b :: As).toArray) free := by
  obtain ⟨⟨hrc, hrs, hfr, hlo, hws, hcw⟩, hcode, hini, hy, hlen, hl, hin, hse⟩ := cw
  have hK : Back l R p e below s args y 3 8 (PreOf R mc ms Pc) (PostOf Qc mc ms free) := va_backW (hh := hh) (bytes := bytes) (maxL := maxL) (ret := ret) hM hp.1 hrc hrs hfr hlo hws hcw (fun a' U hW => word_at hW (Or.inl (by first | rfl | simp [Cond.onTables, Cond.keeps, Cond.steady])) hini)
  obtain ⟨hx, hb, hml, ho, -⟩ := S
  obtain ⟨-, ⟨cellB, hcB, hoB, hclB⟩, hPc⟩ := hp
  intro T hT X
  obtain ⟨v, vm₁, ⟨U', l2, c2, s2⟩, hW₁, X', ⟨g', mk, t, L, e1, e2, hq, h1, hL, h2, h3⟩, st⟩ := vx_callVW X hx (C := C) (hh := hh) (bytes := bytes) (maxL := maxL) (ret := ret) ho hl hin hse hcode hy hK (by rw [hT]; exact hcB) hoB hclB hg (hsize.trans hml.symm) (argsL := As) (rest := rest) (fun sig h => hn.trans (hlen sig h)) hstack hW (by rw [hb]; exact hdg)
    (fun vm₁ hW₁ => ⟨hf.1, hf.2, hPc (T.setVm vm₁) hT hW₁⟩)
  dsimp only [Pt.U, Pt.locs, Pt.cells, Pt.slots] at X' e1 e2 h1 h2 h3 st
  subst h1; subst h2; subst h3
  exact ⟨v, (T.setVm vm₁).calling g' mk (Value.ref b :: As).toArray, t, U', L, hT, X', hL, e1, e2, hq, st⟩
section
variable {y : MethodName} {bytes cc : ByteArray} {maxL nL mc ms n index : Nat} {ret : Option FieldType} {ws : List Cond} {rm : Room} {Pc : Array Value → State → Prop} {Qc : Array Value → State → Outcome → State → Prop} {XC : String → State → State → Prop} {free : Addr → Prop} {Ts : List Cond} {own C : String} {b : Addr} {As rest : List Value} {g : JFrame}
theorem vx_runVX {hh : List (Nat × Nat × Nat × Nat)} (S : CallFix p m c cc nL s args Ts own) (hM : vx_Met l y ws rm Pc Qc XC mc ms free) (cw : vx_CVW R s args own C index y bytes maxL ret hh ws rm mc ms n) (hp : PreV s H C b Pc As)
    (hg : g.method = m) (hn : As.length = n) (hsize : g.locals.size = nL) (hstack : g.stack = As.reverse ++ .ref b :: rest) (hW : 2 * g.monitorRoom + (rest.map fun v => v.category).sum ≤ 8) (hdg : decode cc g.pc = .ok (.invokevirtual index, 3)) (hf : cells + mc ≤ R.cells ∧ slots + ms ≤ R.slots) :
    vx_Run p l e R s m args below meth c H locs cells slots mc ms g rest (Qc (Value.ref b :: As).toArray) XC free := by
  obtain ⟨⟨hrc, hrs, hfr, hlo, hws, hcw⟩, hcode, hini, hy, hlen, hl, hin, hse⟩ := cw
  have hK : vx_Back l R p e below s args y 3 8 (PreOf R mc ms Pc) (PostOf Qc mc ms free) (vx_Post XC mc ms free) := vx_backW (hh := hh) (bytes := bytes) (maxL := maxL) (ret := ret) hM hp.1 hrc hrs hfr hlo hws hcw (fun a' U hW => word_at hW (Or.inl (by first | rfl | simp [Cond.onTables, Cond.keeps, Cond.steady])) hini)
  obtain ⟨hx, hb, hml, ho, -⟩ := S
  obtain ⟨-, ⟨cellB, hcB, hoB, hclB⟩, hPc⟩ := hp
  intro T hT X
  rcases vx_callVX X hx (C := C) (hh := hh) (bytes := bytes) (maxL := maxL) (ret := ret) ho hl hin hse hcode hy hK (by rw [hT]; exact hcB) hoB hclB hg (hsize.trans hml.symm) (argsL := As) (rest := rest) (fun sig h => hn.trans (hlen sig h)) hstack hW (by rw [hb]; exact hdg)
    (fun vm₁ hW₁ => ⟨hf.1, hf.2, hPc (T.setVm vm₁) hT hW₁⟩) with ⟨v, vm₁, ⟨U', l2, c2, s2⟩, hW₁, X', ⟨g', mk, t, L, e1, e2, hq, h1, hL, h2, h3⟩, st⟩ | ⟨q, vm₁, ⟨U', l2, c2, s2⟩, hW₁, X', ⟨g', mk, t, L, E, ce, e1, e2, hq, hce, hcv, hcl, h1, hL, h2, h3⟩, st⟩
  · dsimp only [Pt.U, Pt.locs, Pt.cells, Pt.slots] at X' e1 e2 h1 h2 h3 st
    subst h1; subst h2; subst h3
    exact Or.inl ⟨v, (T.setVm vm₁).calling g' mk (Value.ref b :: As).toArray, t, U', L, hT, X', hL, e1, e2, hq, st⟩
  · dsimp only [Pt.U, Pt.locs, Pt.cells, Pt.slots] at X' e1 e2 h1 h2 h3 st hcl
    subst h1; subst h2; subst h3
    exact Or.inr ⟨q, (T.setVm vm₁).calling g' mk (Value.ref b :: As).toArray, t, U', L, E, ce, hT, X', hL, e1, e2, hq, hce, hcv, vx_cls hW₁ hcl, st⟩
theorem vx_runSX {hh : List (Nat × Nat × Nat × Nat)} (S : CallFix p m c cc nL s args Ts own) (hM : vx_Met l y ws rm Pc Qc XC mc ms free) (cw : vx_CSW R s args own index y bytes maxL ret hh ws rm mc ms n) (hp : PreS s H Pc As)
    (hg : g.method = m) (hn : As.length = n) (hsize : g.locals.size = nL) (hstack : g.stack = As.reverse ++ rest) (hW : 2 * g.monitorRoom + (rest.map fun v => v.category).sum ≤ 8) (hdg : decode cc g.pc = .ok (.invokestatic index, 3)) (hf : cells + mc ≤ R.cells ∧ slots + ms ≤ R.slots) :
    vx_Run p l e R s m args below meth c H locs cells slots mc ms g rest (Qc As.toArray) XC free := by
  obtain ⟨⟨hrc, hrs, hfr, hlo, hws, hcw⟩, hcode, hini, hy, hlen, hl, hstt⟩ := cw
  have hK : vx_Back l R p e below s args y 3 8 (PreOf R mc ms Pc) (PostOf Qc mc ms free) (vx_Post XC mc ms free) := vx_backW (hh := hh) (bytes := bytes) (maxL := maxL) (ret := ret) hM hp.1 hrc hrs hfr hlo hws hcw (fun a' U hW => word_at hW (Or.inl (by first | rfl | simp [Cond.onTables, Cond.keeps, Cond.steady])) hini)
  obtain ⟨hx, hb, hml, ho, -⟩ := S
  intro T hT X
  rcases vx_callSX X hx (hh := hh) (bytes := bytes) (maxL := maxL) (ret := ret) ho hl hstt hini hcode hy hK hg (hsize.trans hml.symm) (argsL := As) (rest := rest) (fun sig h => hn.trans (hlen sig h)) hstack hW (by rw [hb]; exact hdg)
    (fun vm₁ hW₁ => ⟨hf.1, hf.2, hp.2 (T.setVm vm₁) hT hW₁⟩) with ⟨v, vm₁, ⟨U', l2, c2, s2⟩, hW₁, X', ⟨g', mk, t, L, e1, e2, hq, h1, hL, h2, h3⟩, st⟩ | ⟨q, vm₁, ⟨U', l2, c2, s2⟩, hW₁, X', ⟨g', mk, t, L, E, ce, e1, e2, hq, hce, hcv, hcl, h1, hL, h2, h3⟩, st⟩
  · dsimp only [Pt.U, Pt.locs, Pt.cells, Pt.slots] at X' e1 e2 h1 h2 h3 st
    subst h1; subst h2; subst h3
    exact Or.inl ⟨v, (T.setVm vm₁).calling g' mk As.toArray, t, U', L, hT, X', hL, e1, e2, hq, st⟩
  · dsimp only [Pt.U, Pt.locs, Pt.cells, Pt.slots] at X' e1 e2 h1 h2 h3 st hcl
    subst h1; subst h2; subst h3
    exact Or.inr ⟨q, (T.setVm vm₁).calling g' mk As.toArray, t, U', L, E, ce, hT, X', hL, e1, e2, hq, hce, hcv, vx_cls hW₁ hcl, st⟩
end
end VXH
theorem vx_ofWH {l : Launch} {y : MethodName} {ws ws' : List Cond} {rm : Room} {Pc : Array Value → State → Prop} {Qc : Array Value → State → Outcome → State → Prop} {XC : String → State → State → Prop} {mc ms : Nat} {free : Addr → Prop} {cc : ByteArray} {maxL : Nat} {ret : Option FieldType} {hh : List (Nat × Nat × Nat × Nat)}
    (hy : plainName y.cls = true) (hw : ws = Cond.codeWith y cc maxL ret hh :: ws')
    (body : ∀ p e s m args below meth c s₁, BodyLoose p l y (headSpec ws rm) cc maxL ret e s m args below meth c s₁ → c.maxLocals = maxL → Pc args s →
      W p l e (headSpec ws rm).room s m args below meth c s.heap [] 0 0 (vx_MQ below Qc XC args s mc ms free) (entryFrame m args maxL)) : vx_Met l y ws rm Pc Qc XC mc ms free := by
  refine MetFree.of_bodyS (code := cc) (maxLocals := maxL) (ret := ret) hy ?_ ?_
  · intro args s m h hn
    obtain ⟨m9, meth, c, hn9, h1, h2, h3, h4, -, h5, h6, -⟩ := Cond.codeWith_spec (atoms_spec (ws := ws) h _ (by rw [hw]; exact List.mem_cons_self))
    cases hn.symm.trans hn9
    exact ⟨meth, c, h1, h2, h3, h4, h5, h6⟩
  · intro p e s m args below meth c s₁ B hml hP _
    have hh0 : s₁.heap = s.heap := by rw [B.state]; rfl
    obtain ⟨t, a1, o, b1, b2, b3⟩ := body p e s m args below meth c s₁ B hml hP s₁ hh0 (Stand.of_body B)
    exact ⟨t, o, a1, b1, b2, b3⟩
/-! ===== END ===== -/
end
section
-- ===== PART A: goes FIRST, ahead of the names: the tables' words, and 'selects' of the private methods out of them =====
/-- a private method of a class that the tables say can be made, by its rows of tables_1 -/
def lw_okq (q : MethodName × Nat) : Prop := (q.1.cls ≠ "java/lang/invoke/MethodHandle" ∧ q.1.cls ≠ "java/lang/invoke/VarHandle") ∧ Cond.instantiable q.1.cls q.2 ∈ tables_1 ∧ Cond.privateMethod q.1 ∈ tables_1 ∧ Cond.instanceMethod q.1 ∈ tables_1
theorem lw_p0 : lw_okq (⟨"java/lang/Throwable", "fillInStackTrace", "(I)Ljava/lang/Throwable;"⟩, 6) := ⟨⟨by decide +kernel, by decide +kernel⟩, List.mem_of_getElem? (i := 151) (by decide +kernel), List.mem_of_getElem? (i := 149) (by decide +kernel), List.mem_of_getElem? (i := 150) (by decide +kernel)⟩
theorem lw_p1 : lw_okq (⟨"PieceTrace", "needRoom", "(I)V"⟩, 20) := ⟨⟨by decide +kernel, by decide +kernel⟩, List.mem_of_getElem? (i := 13) (by decide +kernel), List.mem_of_getElem? (i := 181) (by decide +kernel), List.mem_of_getElem? (i := 182) (by decide +kernel)⟩
theorem lw_p2 : lw_okq (⟨"PieceTrace", "addPiece", "(IIII)I"⟩, 20) := ⟨⟨by decide +kernel, by decide +kernel⟩, List.mem_of_getElem? (i := 13) (by decide +kernel), List.mem_of_getElem? (i := 201) (by decide +kernel), List.mem_of_getElem? (i := 202) (by decide +kernel)⟩
theorem lw_p3 : lw_okq (⟨"PieceTrace", "needPiece", "(I)V"⟩, 20) := ⟨⟨by decide +kernel, by decide +kernel⟩, List.mem_of_getElem? (i := 13) (by decide +kernel), List.mem_of_getElem? (i := 214) (by decide +kernel), List.mem_of_getElem? (i := 215) (by decide +kernel)⟩
theorem lw_p4 : lw_okq (⟨"PieceTrace", "isPiece", "(I)Z"⟩, 20) := ⟨⟨by decide +kernel, by decide +kernel⟩, List.mem_of_getElem? (i := 13) (by decide +kernel), List.mem_of_getElem? (i := 218) (by decide +kernel), List.mem_of_getElem? (i := 219) (by decide +kernel)⟩
theorem lw_p5 : lw_okq (⟨"PieceTrace", "needFree", "(I)V"⟩, 20) := ⟨⟨by decide +kernel, by decide +kernel⟩, List.mem_of_getElem? (i := 13) (by decide +kernel), List.mem_of_getElem? (i := 238) (by decide +kernel), List.mem_of_getElem? (i := 239) (by decide +kernel)⟩
theorem lw_p6 : lw_okq (⟨"PieceTrace", "isLive", "(I)Z"⟩, 20) := ⟨⟨by decide +kernel, by decide +kernel⟩, List.mem_of_getElem? (i := 13) (by decide +kernel), List.mem_of_getElem? (i := 318) (by decide +kernel), List.mem_of_getElem? (i := 319) (by decide +kernel)⟩
theorem lw_p7 : lw_okq (⟨"PieceTrace", "walkBack", "(II)I"⟩, 20) := ⟨⟨by decide +kernel, by decide +kernel⟩, List.mem_of_getElem? (i := 13) (by decide +kernel), List.mem_of_getElem? (i := 334) (by decide +kernel), List.mem_of_getElem? (i := 335) (by decide +kernel)⟩
theorem lw_p8 : lw_okq (⟨"PieceTrace$Place", "set", "(JJ)V"⟩, 2) := ⟨⟨by decide +kernel, by decide +kernel⟩, List.mem_of_getElem? (i := 21) (by decide +kernel), List.mem_of_getElem? (i := 338) (by decide +kernel), List.mem_of_getElem? (i := 339) (by decide +kernel)⟩
theorem lw_p9 : lw_okq (⟨"PieceTrace", "stepBack", "(I)I"⟩, 20) := ⟨⟨by decide +kernel, by decide +kernel⟩, List.mem_of_getElem? (i := 13) (by decide +kernel), List.mem_of_getElem? (i := 342) (by decide +kernel), List.mem_of_getElem? (i := 343) (by decide +kernel)⟩
theorem lw_p10 : lw_okq (⟨"PieceTrace$Place", "move", "(J)V"⟩, 2) := ⟨⟨by decide +kernel, by decide +kernel⟩, List.mem_of_getElem? (i := 21) (by decide +kernel), List.mem_of_getElem? (i := 346) (by decide +kernel), List.mem_of_getElem? (i := 347) (by decide +kernel)⟩
theorem lw_p11 : lw_okq (⟨"PieceTrace$Place", "isBelow", "(J)Z"⟩, 2) := ⟨⟨by decide +kernel, by decide +kernel⟩, List.mem_of_getElem? (i := 21) (by decide +kernel), List.mem_of_getElem? (i := 350) (by decide +kernel), List.mem_of_getElem? (i := 351) (by decide +kernel)⟩
theorem lw_p12 : lw_okq (⟨"PieceTrace$Place", "stretch", "(JJ)V"⟩, 2) := ⟨⟨by decide +kernel, by decide +kernel⟩, List.mem_of_getElem? (i := 21) (by decide +kernel), List.mem_of_getElem? (i := 354) (by decide +kernel), List.mem_of_getElem? (i := 355) (by decide +kernel)⟩
theorem lw_p13 : lw_okq (⟨"PieceTrace", "needDefect", "(I)V"⟩, 20) := ⟨⟨by decide +kernel, by decide +kernel⟩, List.mem_of_getElem? (i := 13) (by decide +kernel), List.mem_of_getElem? (i := 376) (by decide +kernel), List.mem_of_getElem? (i := 377) (by decide +kernel)⟩
theorem lw_p14 : lw_okq (⟨"PieceTrace", "follow", "(I)V"⟩, 20) := ⟨⟨by decide +kernel, by decide +kernel⟩, List.mem_of_getElem? (i := 13) (by decide +kernel), List.mem_of_getElem? (i := 381) (by decide +kernel), List.mem_of_getElem? (i := 382) (by decide +kernel)⟩
theorem lw_p15 : lw_okq (⟨"PieceTrace", "stepForward", "(II)Z"⟩, 20) := ⟨⟨by decide +kernel, by decide +kernel⟩, List.mem_of_getElem? (i := 13) (by decide +kernel), List.mem_of_getElem? (i := 385) (by decide +kernel), List.mem_of_getElem? (i := 386) (by decide +kernel)⟩
def lw_privs_1 : List (MethodName × Nat) := [(⟨"java/lang/Throwable", "fillInStackTrace", "(I)Ljava/lang/Throwable;"⟩, 6), (⟨"PieceTrace", "needRoom", "(I)V"⟩, 20), (⟨"PieceTrace", "addPiece", "(IIII)I"⟩, 20), (⟨"PieceTrace", "needPiece", "(I)V"⟩, 20), (⟨"PieceTrace", "isPiece", "(I)Z"⟩, 20), (⟨"PieceTrace", "needFree", "(I)V"⟩, 20), (⟨"PieceTrace", "isLive", "(I)Z"⟩, 20), (⟨"PieceTrace", "walkBack", "(II)I"⟩, 20), (⟨"PieceTrace$Place", "set", "(JJ)V"⟩, 2), (⟨"PieceTrace", "stepBack", "(I)I"⟩, 20), (⟨"PieceTrace$Place", "move", "(J)V"⟩, 2), (⟨"PieceTrace$Place", "isBelow", "(J)Z"⟩, 2), (⟨"PieceTrace$Place", "stretch", "(JJ)V"⟩, 2), (⟨"PieceTrace", "needDefect", "(I)V"⟩, 20), (⟨"PieceTrace", "follow", "(I)V"⟩, 20), (⟨"PieceTrace", "stepForward", "(II)Z"⟩, 20)]
theorem lw_r1 : ∀ q ∈ lw_privs_1, lw_okq q := List.forall_mem_cons.mpr ⟨lw_p0, List.forall_mem_cons.mpr ⟨lw_p1, List.forall_mem_cons.mpr ⟨lw_p2, List.forall_mem_cons.mpr ⟨lw_p3, List.forall_mem_cons.mpr ⟨lw_p4, List.forall_mem_cons.mpr ⟨lw_p5, List.forall_mem_cons.mpr ⟨lw_p6, List.forall_mem_cons.mpr ⟨lw_p7, List.forall_mem_cons.mpr ⟨lw_p8, List.forall_mem_cons.mpr ⟨lw_p9, List.forall_mem_cons.mpr ⟨lw_p10, List.forall_mem_cons.mpr ⟨lw_p11, List.forall_mem_cons.mpr ⟨lw_p12, List.forall_mem_cons.mpr ⟨lw_p13, List.forall_mem_cons.mpr ⟨lw_p14, List.forall_mem_cons.mpr ⟨lw_p15, fun _ h => absurd h List.not_mem_nil⟩⟩⟩⟩⟩⟩⟩⟩⟩⟩⟩⟩⟩⟩⟩⟩
theorem lw_p16 : lw_okq (⟨"PieceTrace", "takeFound", "(I)Z"⟩, 20) := ⟨⟨by decide +kernel, by decide +kernel⟩, List.mem_of_getElem? (i := 13) (by decide +kernel), List.mem_of_getElem? (i := 389) (by decide +kernel), List.mem_of_getElem? (i := 390) (by decide +kernel)⟩
theorem lw_p17 : lw_okq (⟨"PieceTrace", "liveWeight", "()J"⟩, 20) := ⟨⟨by decide +kernel, by decide +kernel⟩, List.mem_of_getElem? (i := 13) (by decide +kernel), List.mem_of_getElem? (i := 409) (by decide +kernel), List.mem_of_getElem? (i := 410) (by decide +kernel)⟩
theorem lw_p18 : lw_okq (⟨"PieceTraceModel", "throwing", "(ZZZZ)Z"⟩, 24) := ⟨⟨by decide +kernel, by decide +kernel⟩, List.mem_of_getElem? (i := 413) (by decide +kernel), List.mem_of_getElem? (i := 505) (by decide +kernel), List.mem_of_getElem? (i := 506) (by decide +kernel)⟩
theorem lw_p19 : lw_okq (⟨"PieceTraceModel", "add", "(IIII)I"⟩, 24) := ⟨⟨by decide +kernel, by decide +kernel⟩, List.mem_of_getElem? (i := 413) (by decide +kernel), List.mem_of_getElem? (i := 509) (by decide +kernel), List.mem_of_getElem? (i := 510) (by decide +kernel)⟩
theorem lw_p20 : lw_okq (⟨"PieceTraceModel", "isPiece", "(I)Z"⟩, 24) := ⟨⟨by decide +kernel, by decide +kernel⟩, List.mem_of_getElem? (i := 413) (by decide +kernel), List.mem_of_getElem? (i := 517) (by decide +kernel), List.mem_of_getElem? (i := 518) (by decide +kernel)⟩
theorem lw_p21 : lw_okq (⟨"PieceTraceModel", "isAtHand", "(I)Z"⟩, 24) := ⟨⟨by decide +kernel, by decide +kernel⟩, List.mem_of_getElem? (i := 413) (by decide +kernel), List.mem_of_getElem? (i := 521) (by decide +kernel), List.mem_of_getElem? (i := 522) (by decide +kernel)⟩
theorem lw_p22 : lw_okq (⟨"PieceTraceModel", "goBack", "(II)V"⟩, 24) := ⟨⟨by decide +kernel, by decide +kernel⟩, List.mem_of_getElem? (i := 413) (by decide +kernel), List.mem_of_getElem? (i := 560) (by decide +kernel), List.mem_of_getElem? (i := 561) (by decide +kernel)⟩
theorem lw_p23 : lw_okq (⟨"PieceTraceModel", "lowest", "()V"⟩, 24) := ⟨⟨by decide +kernel, by decide +kernel⟩, List.mem_of_getElem? (i := 413) (by decide +kernel), List.mem_of_getElem? (i := 564) (by decide +kernel), List.mem_of_getElem? (i := 565) (by decide +kernel)⟩
theorem lw_p24 : lw_okq (⟨"PieceTraceModel", "isDefect", "(I)Z"⟩, 24) := ⟨⟨by decide +kernel, by decide +kernel⟩, List.mem_of_getElem? (i := 413) (by decide +kernel), List.mem_of_getElem? (i := 576) (by decide +kernel), List.mem_of_getElem? (i := 577) (by decide +kernel)⟩
theorem lw_p25 : lw_okq (⟨"PieceTraceModel", "goForward", "(I)V"⟩, 24) := ⟨⟨by decide +kernel, by decide +kernel⟩, List.mem_of_getElem? (i := 413) (by decide +kernel), List.mem_of_getElem? (i := 580) (by decide +kernel), List.mem_of_getElem? (i := 581) (by decide +kernel)⟩
theorem lw_p26 : lw_okq (⟨"PieceTraceModel", "reaches", "(I)Z"⟩, 24) := ⟨⟨by decide +kernel, by decide +kernel⟩, List.mem_of_getElem? (i := 413) (by decide +kernel), List.mem_of_getElem? (i := 584) (by decide +kernel), List.mem_of_getElem? (i := 585) (by decide +kernel)⟩
theorem lw_p27 : lw_okq (⟨"PieceTraceModel", "takes", "(I)Z"⟩, 24) := ⟨⟨by decide +kernel, by decide +kernel⟩, List.mem_of_getElem? (i := 413) (by decide +kernel), List.mem_of_getElem? (i := 588) (by decide +kernel), List.mem_of_getElem? (i := 589) (by decide +kernel)⟩
def lw_privs_2 : List (MethodName × Nat) := [(⟨"PieceTrace", "takeFound", "(I)Z"⟩, 20), (⟨"PieceTrace", "liveWeight", "()J"⟩, 20), (⟨"PieceTraceModel", "throwing", "(ZZZZ)Z"⟩, 24), (⟨"PieceTraceModel", "add", "(IIII)I"⟩, 24), (⟨"PieceTraceModel", "isPiece", "(I)Z"⟩, 24), (⟨"PieceTraceModel", "isAtHand", "(I)Z"⟩, 24), (⟨"PieceTraceModel", "goBack", "(II)V"⟩, 24), (⟨"PieceTraceModel", "lowest", "()V"⟩, 24), (⟨"PieceTraceModel", "isDefect", "(I)Z"⟩, 24), (⟨"PieceTraceModel", "goForward", "(I)V"⟩, 24), (⟨"PieceTraceModel", "reaches", "(I)Z"⟩, 24), (⟨"PieceTraceModel", "takes", "(I)Z"⟩, 24)]
theorem lw_r2 : ∀ q ∈ lw_privs_2, lw_okq q := List.forall_mem_cons.mpr ⟨lw_p16, List.forall_mem_cons.mpr ⟨lw_p17, List.forall_mem_cons.mpr ⟨lw_p18, List.forall_mem_cons.mpr ⟨lw_p19, List.forall_mem_cons.mpr ⟨lw_p20, List.forall_mem_cons.mpr ⟨lw_p21, List.forall_mem_cons.mpr ⟨lw_p22, List.forall_mem_cons.mpr ⟨lw_p23, List.forall_mem_cons.mpr ⟨lw_p24, List.forall_mem_cons.mpr ⟨lw_p25, List.forall_mem_cons.mpr ⟨lw_p26, List.forall_mem_cons.mpr ⟨lw_p27, fun _ h => absurd h List.not_mem_nil⟩⟩⟩⟩⟩⟩⟩⟩⟩⟩⟩⟩
def lw_privs : List (MethodName × Nat) := lw_privs_1 ++ (lw_privs_2)
def lw_tbl : List Cond := k2_sels lw_privs ++ tables_1
theorem lw_privs_ok : ∀ q ∈ lw_privs, lw_okq q := by
  show ∀ q ∈ lw_privs_1 ++ (lw_privs_2), lw_okq q
  exact List.forall_mem_append.mpr ⟨lw_r1, lw_r2⟩
end
section
def RP9 : String := "PieceTrace$Place"
def TP9 : u_T := fun k => match k with
  | 0 => ("PieceTrace$Place", "upper", "J", false)
  | _ => ("PieceTrace$Place", "lower", "J", false)
def tyP9 : Nat → FieldType := fun k => match k with
  | 0 => .long
  | _ => .long
theorem nmP9 : ∀ a, a < 2 → ∀ b, b < 2 → a ≠ b → (TP9 a).2.1 ≠ (TP9 b).2.1 := by decide +kernel
theorem tyP9_ok : ∀ k, k < 2 → parseFieldDescriptor (TP9 k).2.2.1 = some (tyP9 k) := by decide +kernel
def RX9 : String := "PieceTrace"
def TX9 : u_T := fun k => match k with
  | 0 => ("PieceTrace", "kinds", "[I", true)
  | 1 => ("PieceTrace", "weights", "[I", true)
  | 2 => ("PieceTrace", "lengths", "[I", true)
  | 3 => ("PieceTrace", "states", "[I", true)
  | 4 => ("PieceTrace", "sources", "[I", true)
  | 5 => ("PieceTrace", "seconds", "[I", true)
  | 6 => ("PieceTrace", "rollCounts", "[I", true)
  | 7 => ("PieceTrace", "seams", "[I", true)
  | 8 => ("PieceTrace", "ratioUppers", "[I", true)
  | 9 => ("PieceTrace", "ratioLowers", "[I", true)
  | 10 => ("PieceTrace", "pieceCount", "I", false)
  | 11 => ("PieceTrace", "defectMelts", "[I", true)
  | 12 => ("PieceTrace", "defectUppers", "[J", true)
  | 13 => ("PieceTrace", "defectLowers", "[J", true)
  | 14 => ("PieceTrace", "defectCount", "I", false)
  | 15 => ("PieceTrace", "heap", "I", false)
  | 16 => ("PieceTrace", "melted", "J", false)
  | 17 => ("PieceTrace", "spot", "LPieceTrace$Place;", true)
  | 18 => ("PieceTrace", "foundUppers", "[J", true)
  | _ => ("PieceTrace", "foundLowers", "[J", true)
def tyX9 : Nat → FieldType := fun k => match k with
  | 0 => .array .int
  | 1 => .array .int
  | 2 => .array .int
  | 3 => .array .int
  | 4 => .array .int
  | 5 => .array .int
  | 6 => .array .int
  | 7 => .array .int
  | 8 => .array .int
  | 9 => .array .int
  | 10 => .int
  | 11 => .array .int
  | 12 => .array .long
  | 13 => .array .long
  | 14 => .int
  | 15 => .int
  | 16 => .long
  | 17 => .object "PieceTrace$Place"
  | 18 => .array .long
  | _ => .array .long
theorem nmX9 : ∀ a, a < 20 → ∀ b, b < 20 → a ≠ b → (TX9 a).2.1 ≠ (TX9 b).2.1 := by decide +kernel
theorem tyX9_ok : ∀ k, k < 20 → parseFieldDescriptor (TX9 k).2.2.1 = some (tyX9 k) := by decide +kernel
def RM9 : String := "PieceTraceModel"
def TM9 : u_T := fun k => match k with
  | 0 => ("PieceTraceModel", "thrown", "I", false)
  | 1 => ("PieceTraceModel", "pieces", "I", false)
  | 2 => ("PieceTraceModel", "kind", "[I", true)
  | 3 => ("PieceTraceModel", "weight", "[I", true)
  | 4 => ("PieceTraceModel", "length", "[I", true)
  | 5 => ("PieceTraceModel", "state", "[I", true)
  | 6 => ("PieceTraceModel", "held", "[Z", true)
  | 7 => ("PieceTraceModel", "of", "[I", true)
  | 8 => ("PieceTraceModel", "other", "[I", true)
  | 9 => ("PieceTraceModel", "cutAt", "[I", true)
  | 10 => ("PieceTraceModel", "over", "[I", true)
  | 11 => ("PieceTraceModel", "under", "[I", true)
  | 12 => ("PieceTraceModel", "rolls", "[I", true)
  | 13 => ("PieceTraceModel", "heap", "I", false)
  | 14 => ("PieceTraceModel", "melted", "J", false)
  | 15 => ("PieceTraceModel", "defects", "I", false)
  | 16 => ("PieceTraceModel", "defectMelt", "[I", true)
  | 17 => ("PieceTraceModel", "defectUp", "[J", true)
  | 18 => ("PieceTraceModel", "defectLow", "[J", true)
  | 19 => ("PieceTraceModel", "melt", "I", false)
  | 20 => ("PieceTraceModel", "up", "J", false)
  | 21 => ("PieceTraceModel", "low", "J", false)
  | 22 => ("PieceTraceModel", "ups", "[J", true)
  | _ => ("PieceTraceModel", "lows", "[J", true)
def tyM9 : Nat → FieldType := fun k => match k with
  | 0 => .int
  | 1 => .int
  | 2 => .array .int
  | 3 => .array .int
  | 4 => .array .int
  | 5 => .array .int
  | 6 => .array .boolean
  | 7 => .array .int
  | 8 => .array .int
  | 9 => .array .int
  | 10 => .array .int
  | 11 => .array .int
  | 12 => .array .int
  | 13 => .int
  | 14 => .long
  | 15 => .int
  | 16 => .array .int
  | 17 => .array .long
  | 18 => .array .long
  | 19 => .int
  | 20 => .long
  | 21 => .long
  | 22 => .array .long
  | _ => .array .long
theorem nmM9 : ∀ a, a < 24 → ∀ b, b < 24 → a ≠ b → (TM9 a).2.1 ≠ (TM9 b).2.1 := by decide +kernel
theorem tyM9_ok : ∀ k, k < 24 → parseFieldDescriptor (TM9 k).2.2.1 = some (tyM9 k) := by decide +kernel
def RL9 : String := "PieceTraceLaw"
abbrev vwCl : List vw_C := [(RP9, TP9, 2), (RX9, TX9, 20), (RM9, TM9, 24)]
abbrev cX_init : ByteArray := prog_1_method_1_code
def yX_init : MethodName := ⟨RX9, "<init>", "()V"⟩
abbrev cX_melt : ByteArray := prog_1_method_2_code
def yX_melt : MethodName := ⟨RX9, "melt", "(II)I"⟩
abbrev cX_cut : ByteArray := prog_1_method_3_code
def yX_cut : MethodName := ⟨RX9, "cut", "(II)I"⟩
abbrev cX_weld : ByteArray := prog_1_method_4_code
def yX_weld : MethodName := ⟨RX9, "weld", "(II)I"⟩
abbrev cX_roll : ByteArray := prog_1_method_5_code
def yX_roll : MethodName := ⟨RX9, "roll", "(III)I"⟩
abbrev cX_slit : ByteArray := prog_1_method_6_code
def yX_slit : MethodName := ⟨RX9, "slit", "(II)I"⟩
abbrev cX_hold : ByteArray := prog_1_method_7_code
def yX_hold : MethodName := ⟨RX9, "hold", "(IZ)V"⟩
abbrev cX_scrap : ByteArray := prog_1_method_8_code
def yX_scrap : MethodName := ⟨RX9, "scrap", "(I)I"⟩
abbrev cX_back : ByteArray := prog_1_method_9_code
def yX_back : MethodName := ⟨RX9, "back", "(II)I"⟩
abbrev cX_at : ByteArray := prog_1_method_10_code
def yX_at : MethodName := ⟨RX9, "at", "(II)I"⟩
abbrev cX_origin : ByteArray := prog_1_method_11_code
def yX_origin : MethodName := ⟨RX9, "origin", "(III)J"⟩
abbrev cX_defect : ByteArray := prog_1_method_12_code
def yX_defect : MethodName := ⟨RX9, "defect", "(II)I"⟩
abbrev cX_has : ByteArray := prog_1_method_13_code
def yX_has : MethodName := ⟨RX9, "has", "(III)J"⟩
abbrev cX_recall : ByteArray := prog_1_method_14_code
def yX_recall : MethodName := ⟨RX9, "recall", "(II)I"⟩
abbrev cX_told : ByteArray := prog_1_method_15_code
def yX_told : MethodName := ⟨RX9, "told", "(I)J"⟩
abbrev cX_isPiece : ByteArray := prog_1_method_16_code
def yX_isPiece : MethodName := ⟨RX9, "isPiece", "(I)Z"⟩
abbrev cX_isLive : ByteArray := prog_1_method_17_code
def yX_isLive : MethodName := ⟨RX9, "isLive", "(I)Z"⟩
abbrev cX_needPiece : ByteArray := prog_1_method_18_code
def yX_needPiece : MethodName := ⟨RX9, "needPiece", "(I)V"⟩
abbrev cX_needDefect : ByteArray := prog_1_method_19_code
def yX_needDefect : MethodName := ⟨RX9, "needDefect", "(I)V"⟩
abbrev cX_needPart : ByteArray := prog_1_method_20_code
def yX_needPart : MethodName := ⟨RX9, "needPart", "(II)V"⟩
abbrev cX_needFree : ByteArray := prog_1_method_21_code
def yX_needFree : MethodName := ⟨RX9, "needFree", "(I)V"⟩
abbrev cX_needWithin : ByteArray := prog_1_method_22_code
def yX_needWithin : MethodName := ⟨RX9, "needWithin", "(III)V"⟩
abbrev cX_needRoom : ByteArray := prog_1_method_23_code
def yX_needRoom : MethodName := ⟨RX9, "needRoom", "(I)V"⟩
abbrev cX_addPiece : ByteArray := prog_1_method_24_code
def yX_addPiece : MethodName := ⟨RX9, "addPiece", "(IIII)I"⟩
abbrev cX_liveWeight : ByteArray := prog_1_method_25_code
def yX_liveWeight : MethodName := ⟨RX9, "liveWeight", "()J"⟩
abbrev cX_walkBack : ByteArray := prog_1_method_26_code
def yX_walkBack : MethodName := ⟨RX9, "walkBack", "(II)I"⟩
abbrev cX_stepBack : ByteArray := prog_1_method_27_code
def yX_stepBack : MethodName := ⟨RX9, "stepBack", "(I)I"⟩
abbrev cX_follow : ByteArray := prog_1_method_28_code
def yX_follow : MethodName := ⟨RX9, "follow", "(I)V"⟩
abbrev cX_stepForward : ByteArray := prog_1_method_29_code
def yX_stepForward : MethodName := ⟨RX9, "stepForward", "(II)Z"⟩
abbrev cX_takeFound : ByteArray := prog_1_method_30_code
def yX_takeFound : MethodName := ⟨RX9, "takeFound", "(I)Z"⟩
abbrev cM_init : ByteArray := prog_4_method_1_code
def yM_init : MethodName := ⟨RM9, "<init>", "()V"⟩
abbrev cM_thrown : ByteArray := prog_4_method_2_code
def yM_thrown : MethodName := ⟨RM9, "thrown", "()I"⟩
abbrev cM_throwing : ByteArray := prog_4_method_3_code
def yM_throwing : MethodName := ⟨RM9, "throwing", "(ZZZZ)Z"⟩
abbrev cM_in : ByteArray := prog_4_method_4_code
def yM_in : MethodName := ⟨RM9, "in", "(III)Z"⟩
abbrev cM_isPiece : ByteArray := prog_4_method_5_code
def yM_isPiece : MethodName := ⟨RM9, "isPiece", "(I)Z"⟩
abbrev cM_isAtHand : ByteArray := prog_4_method_6_code
def yM_isAtHand : MethodName := ⟨RM9, "isAtHand", "(I)Z"⟩
abbrev cM_add : ByteArray := prog_4_method_7_code
def yM_add : MethodName := ⟨RM9, "add", "(IIII)I"⟩
abbrev cM_melt : ByteArray := prog_4_method_8_code
def yM_melt : MethodName := ⟨RM9, "melt", "(II)I"⟩
abbrev cM_cut : ByteArray := prog_4_method_9_code
def yM_cut : MethodName := ⟨RM9, "cut", "(II)I"⟩
abbrev cM_weld : ByteArray := prog_4_method_10_code
def yM_weld : MethodName := ⟨RM9, "weld", "(II)I"⟩
abbrev cM_roll : ByteArray := prog_4_method_11_code
def yM_roll : MethodName := ⟨RM9, "roll", "(III)I"⟩
abbrev cM_slit : ByteArray := prog_4_method_12_code
def yM_slit : MethodName := ⟨RM9, "slit", "(II)I"⟩
abbrev cM_hold : ByteArray := prog_4_method_13_code
def yM_hold : MethodName := ⟨RM9, "hold", "(IZ)V"⟩
abbrev cM_scrap : ByteArray := prog_4_method_14_code
def yM_scrap : MethodName := ⟨RM9, "scrap", "(I)I"⟩
abbrev cM_back : ByteArray := prog_4_method_15_code
def yM_back : MethodName := ⟨RM9, "back", "(II)I"⟩
abbrev cM_at : ByteArray := prog_4_method_16_code
def yM_at : MethodName := ⟨RM9, "at", "(II)I"⟩
abbrev cM_lowest : ByteArray := prog_4_method_17_code
def yM_lowest : MethodName := ⟨RM9, "lowest", "()V"⟩
abbrev cM_goBack : ByteArray := prog_4_method_18_code
def yM_goBack : MethodName := ⟨RM9, "goBack", "(II)V"⟩
abbrev cM_origin : ByteArray := prog_4_method_19_code
def yM_origin : MethodName := ⟨RM9, "origin", "(III)J"⟩
abbrev cM_defect : ByteArray := prog_4_method_20_code
def yM_defect : MethodName := ⟨RM9, "defect", "(II)I"⟩
abbrev cM_takes : ByteArray := prog_4_method_21_code
def yM_takes : MethodName := ⟨RM9, "takes", "(I)Z"⟩
abbrev cM_reaches : ByteArray := prog_4_method_22_code
def yM_reaches : MethodName := ⟨RM9, "reaches", "(I)Z"⟩
abbrev cM_goForward : ByteArray := prog_4_method_23_code
def yM_goForward : MethodName := ⟨RM9, "goForward", "(I)V"⟩
abbrev cM_isDefect : ByteArray := prog_4_method_24_code
def yM_isDefect : MethodName := ⟨RM9, "isDefect", "(I)Z"⟩
abbrev cM_has : ByteArray := prog_4_method_25_code
def yM_has : MethodName := ⟨RM9, "has", "(III)J"⟩
abbrev cM_recall : ByteArray := prog_4_method_26_code
def yM_recall : MethodName := ⟨RM9, "recall", "(II)I"⟩
abbrev cM_told : ByteArray := prog_4_method_27_code
def yM_told : MethodName := ⟨RM9, "told", "(I)J"⟩
abbrev cP_init : ByteArray := prog_2_method_1_code
def yP_init : MethodName := ⟨RP9, "<init>", "()V"⟩
abbrev cP_set : ByteArray := prog_2_method_2_code
def yP_set : MethodName := ⟨RP9, "set", "(JJ)V"⟩
abbrev cP_move : ByteArray := prog_2_method_3_code
def yP_move : MethodName := ⟨RP9, "move", "(J)V"⟩
abbrev cP_stretch : ByteArray := prog_2_method_4_code
def yP_stretch : MethodName := ⟨RP9, "stretch", "(JJ)V"⟩
abbrev cP_isBelow : ByteArray := prog_2_method_5_code
def yP_isBelow : MethodName := ⟨RP9, "isBelow", "(J)Z"⟩
abbrev cP_commonDivisor : ByteArray := prog_2_method_6_code
def yP_commonDivisor : MethodName := ⟨RP9, "commonDivisor", "(JJ)J"⟩
abbrev cL_melt : ByteArray := method_3_code
def yL_melt : MethodName := ⟨RL9, "melt", "(LPieceTrace;II[J)I"⟩
abbrev cL_cut : ByteArray := method_4_code
def yL_cut : MethodName := ⟨RL9, "cut", "(LPieceTrace;II[J)I"⟩
abbrev cL_weld : ByteArray := method_5_code
def yL_weld : MethodName := ⟨RL9, "weld", "(LPieceTrace;II[J)I"⟩
abbrev cL_roll : ByteArray := method_6_code
def yL_roll : MethodName := ⟨RL9, "roll", "(LPieceTrace;III[J)I"⟩
abbrev cL_slit : ByteArray := method_7_code
def yL_slit : MethodName := ⟨RL9, "slit", "(LPieceTrace;II[J)I"⟩
abbrev cL_hold : ByteArray := method_8_code
def yL_hold : MethodName := ⟨RL9, "hold", "(LPieceTrace;IZ)I"⟩
abbrev cL_scrap : ByteArray := method_9_code
def yL_scrap : MethodName := ⟨RL9, "scrap", "(LPieceTrace;I[J)I"⟩
abbrev cL_back : ByteArray := method_10_code
def yL_back : MethodName := ⟨RL9, "back", "(LPieceTrace;II[J)I"⟩
abbrev cL_at : ByteArray := method_11_code
def yL_at : MethodName := ⟨RL9, "at", "(LPieceTrace;II[J)I"⟩
abbrev cL_origin : ByteArray := method_12_code
def yL_origin : MethodName := ⟨RL9, "origin", "(LPieceTrace;III[J)I"⟩
abbrev cL_defect : ByteArray := method_13_code
def yL_defect : MethodName := ⟨RL9, "defect", "(LPieceTrace;II[J)I"⟩
abbrev cL_has : ByteArray := method_14_code
def yL_has : MethodName := ⟨RL9, "has", "(LPieceTrace;III[J)I"⟩
abbrev cL_recall : ByteArray := method_15_code
def yL_recall : MethodName := ⟨RL9, "recall", "(LPieceTrace;II[J)I"⟩
abbrev cL_told : ByteArray := method_16_code
def yL_told : MethodName := ⟨RL9, "told", "(LPieceTrace;I[J)I"⟩
def gWc : List Cond := [.code yX_init cX_init 1 none,
  .code yX_melt cX_melt 3 (some .int),
  .code yX_cut cX_cut 8 (some .int),
  .code yX_weld cX_weld 8 (some .int),
  .code yX_roll cX_roll 7 (some .int),
  .code yX_slit cX_slit 7 (some .int),
  .code yX_hold cX_hold 3 none,
  .code yX_scrap cX_scrap 2 (some .int),
  .code yX_back cX_back 4 (some .int),
  .code yX_at cX_at 3 (some .int),
  .code yX_origin cX_origin 5 (some .long),
  .code yX_defect cX_defect 4 (some .int),
  .code yX_has cX_has 4 (some .long),
  .code yX_recall cX_recall 5 (some .int),
  .code yX_told cX_told 2 (some .long),
  .code yX_isPiece cX_isPiece 2 (some .boolean),
  .code yX_isLive cX_isLive 2 (some .boolean),
  .code yX_needPiece cX_needPiece 2 none,
  .code yX_needDefect cX_needDefect 2 none,
  .code yX_needPart cX_needPart 2 none,
  .code yX_needFree cX_needFree 2 none,
  .code yX_needWithin cX_needWithin 3 none,
  .code yX_needRoom cX_needRoom 2 none,
  .code yX_addPiece cX_addPiece 6 (some .int),
  .code yX_liveWeight cX_liveWeight 4 (some .long),
  .code yX_walkBack cX_walkBack 6 (some .int),
  .code yX_stepBack cX_stepBack 2 (some .int),
  .code yX_follow cX_follow 4 none,
  .code yX_stepForward cX_stepForward 4 (some .boolean),
  .code yX_takeFound cX_takeFound 2 (some .boolean),
  .code yM_init cM_init 1 none,
  .code yM_thrown cM_thrown 1 (some .int),
  .code yM_throwing cM_throwing 5 (some .boolean),
  .code yM_in cM_in 3 (some .boolean),
  .code yM_isPiece cM_isPiece 2 (some .boolean),
  .code yM_isAtHand cM_isAtHand 2 (some .boolean),
  .code yM_add cM_add 5 (some .int),
  .code yM_melt cM_melt 3 (some .int),
  .code yM_cut cM_cut 7 (some .int),
  .code yM_weld cM_weld 6 (some .int),
  .code yM_roll cM_roll 10 (some .int),
  .code yM_slit cM_slit 4 (some .int),
  .code yM_hold cM_hold 4 none,
  .code yM_scrap cM_scrap 2 (some .int),
  .code yM_back cM_back 5 (some .int),
  .code yM_at cM_at 3 (some .int),
  .code yM_lowest cM_lowest 7 none,
  .code yM_goBack cM_goBack 5 none,
  .code yM_origin cM_origin 5 (some .long),
  .code yM_defect cM_defect 4 (some .int),
  .code yM_takes cM_takes 2 (some .boolean),
  .code yM_reaches cM_reaches 2 (some .boolean),
  .code yM_goForward cM_goForward 4 none,
  .code yM_isDefect cM_isDefect 2 (some .boolean),
  .code yM_has cM_has 4 (some .long),
  .code yM_recall cM_recall 5 (some .int),
  .code yM_told cM_told 5 (some .long),
  .code yP_init cP_init 1 none,
  .code yP_set cP_set 5 none,
  .code yP_move cP_move 3 none,
  .code yP_stretch cP_stretch 7 none,
  .code yP_isBelow cP_isBelow 3 (some .boolean),
  .code yP_commonDivisor cP_commonDivisor 11 (some .long),
  .codeWith yL_melt cL_melt 5 (some .int) [(0, 10, 13, 13), (0, 10, 17, 15)],
  .codeWith yL_cut cL_cut 5 (some .int) [(0, 10, 13, 20), (0, 10, 17, 22), (0, 10, 21, 13), (0, 10, 25, 15)],
  .codeWith yL_weld cL_weld 5 (some .int) [(0, 10, 13, 20), (0, 10, 17, 22), (0, 10, 21, 15)],
  .codeWith yL_roll cL_roll 6 (some .int) [(0, 12, 15, 20), (0, 12, 19, 22), (0, 12, 23, 13), (0, 12, 27, 15)],
  .codeWith yL_slit cL_slit 5 (some .int) [(0, 10, 13, 20), (0, 10, 17, 22), (0, 10, 21, 13), (0, 10, 25, 15)],
  .codeWith yL_hold cL_hold 4 (some .int) [(0, 6, 9, 20), (0, 6, 12, 22)],
  .codeWith yL_scrap cL_scrap 4 (some .int) [(0, 9, 12, 20), (0, 9, 15, 22)],
  .codeWith yL_back cL_back 5 (some .int) [(0, 10, 13, 13), (0, 10, 17, 15)],
  .codeWith yL_at cL_at 5 (some .int) [(0, 10, 13, 20)],
  .codeWith yL_origin cL_origin 6 (some .int) [(0, 11, 14, 20), (0, 11, 18, 13)],
  .codeWith yL_defect cL_defect 5 (some .int) [(0, 10, 13, 20), (0, 10, 17, 13), (0, 10, 21, 15)],
  .codeWith yL_has cL_has 6 (some .int) [(0, 11, 14, 20)],
  .codeWith yL_recall cL_recall 5 (some .int) [(0, 10, 13, 20)],
  .codeWith yL_told cL_told 4 (some .int) [(0, 8, 11, 20)],
  .code objectInit ⟨#[0xb1]⟩ 1 none,
  .code Lib.Math.max.name Lib.Math.max.code 2 (some .int)]
theorem kX_init : (Cond.code yX_init cX_init 1 none) ∈ gWc := List.mem_of_getElem? (i := 0) rfl
theorem kX_melt : (Cond.code yX_melt cX_melt 3 (some .int)) ∈ gWc := List.mem_of_getElem? (i := 1) rfl
theorem kX_cut : (Cond.code yX_cut cX_cut 8 (some .int)) ∈ gWc := List.mem_of_getElem? (i := 2) rfl
theorem kX_weld : (Cond.code yX_weld cX_weld 8 (some .int)) ∈ gWc := List.mem_of_getElem? (i := 3) rfl
theorem kX_roll : (Cond.code yX_roll cX_roll 7 (some .int)) ∈ gWc := List.mem_of_getElem? (i := 4) rfl
theorem kX_slit : (Cond.code yX_slit cX_slit 7 (some .int)) ∈ gWc := List.mem_of_getElem? (i := 5) rfl
theorem kX_hold : (Cond.code yX_hold cX_hold 3 none) ∈ gWc := List.mem_of_getElem? (i := 6) rfl
theorem kX_scrap : (Cond.code yX_scrap cX_scrap 2 (some .int)) ∈ gWc := List.mem_of_getElem? (i := 7) rfl
theorem kX_back : (Cond.code yX_back cX_back 4 (some .int)) ∈ gWc := List.mem_of_getElem? (i := 8) rfl
theorem kX_at : (Cond.code yX_at cX_at 3 (some .int)) ∈ gWc := List.mem_of_getElem? (i := 9) rfl
theorem kX_origin : (Cond.code yX_origin cX_origin 5 (some .long)) ∈ gWc := List.mem_of_getElem? (i := 10) rfl
theorem kX_defect : (Cond.code yX_defect cX_defect 4 (some .int)) ∈ gWc := List.mem_of_getElem? (i := 11) rfl
theorem kX_has : (Cond.code yX_has cX_has 4 (some .long)) ∈ gWc := List.mem_of_getElem? (i := 12) rfl
theorem kX_recall : (Cond.code yX_recall cX_recall 5 (some .int)) ∈ gWc := List.mem_of_getElem? (i := 13) rfl
theorem kX_told : (Cond.code yX_told cX_told 2 (some .long)) ∈ gWc := List.mem_of_getElem? (i := 14) rfl
theorem kX_isPiece : (Cond.code yX_isPiece cX_isPiece 2 (some .boolean)) ∈ gWc := List.mem_of_getElem? (i := 15) rfl
theorem kX_isLive : (Cond.code yX_isLive cX_isLive 2 (some .boolean)) ∈ gWc := List.mem_of_getElem? (i := 16) rfl
theorem kX_needPiece : (Cond.code yX_needPiece cX_needPiece 2 none) ∈ gWc := List.mem_of_getElem? (i := 17) rfl
theorem kX_needDefect : (Cond.code yX_needDefect cX_needDefect 2 none) ∈ gWc := List.mem_of_getElem? (i := 18) rfl
theorem kX_needPart : (Cond.code yX_needPart cX_needPart 2 none) ∈ gWc := List.mem_of_getElem? (i := 19) rfl
theorem kX_needFree : (Cond.code yX_needFree cX_needFree 2 none) ∈ gWc := List.mem_of_getElem? (i := 20) rfl
theorem kX_needWithin : (Cond.code yX_needWithin cX_needWithin 3 none) ∈ gWc := List.mem_of_getElem? (i := 21) rfl
theorem kX_needRoom : (Cond.code yX_needRoom cX_needRoom 2 none) ∈ gWc := List.mem_of_getElem? (i := 22) rfl
theorem kX_addPiece : (Cond.code yX_addPiece cX_addPiece 6 (some .int)) ∈ gWc := List.mem_of_getElem? (i := 23) rfl
theorem kX_liveWeight : (Cond.code yX_liveWeight cX_liveWeight 4 (some .long)) ∈ gWc := List.mem_of_getElem? (i := 24) rfl
theorem kX_walkBack : (Cond.code yX_walkBack cX_walkBack 6 (some .int)) ∈ gWc := List.mem_of_getElem? (i := 25) rfl
theorem kX_stepBack : (Cond.code yX_stepBack cX_stepBack 2 (some .int)) ∈ gWc := List.mem_of_getElem? (i := 26) rfl
theorem kX_follow : (Cond.code yX_follow cX_follow 4 none) ∈ gWc := List.mem_of_getElem? (i := 27) rfl
theorem kX_stepForward : (Cond.code yX_stepForward cX_stepForward 4 (some .boolean)) ∈ gWc := List.mem_of_getElem? (i := 28) rfl
theorem kX_takeFound : (Cond.code yX_takeFound cX_takeFound 2 (some .boolean)) ∈ gWc := List.mem_of_getElem? (i := 29) rfl
theorem kM_init : (Cond.code yM_init cM_init 1 none) ∈ gWc := List.mem_of_getElem? (i := 30) rfl
theorem kM_thrown : (Cond.code yM_thrown cM_thrown 1 (some .int)) ∈ gWc := List.mem_of_getElem? (i := 31) rfl
theorem kM_throwing : (Cond.code yM_throwing cM_throwing 5 (some .boolean)) ∈ gWc := List.mem_of_getElem? (i := 32) rfl
theorem kM_in : (Cond.code yM_in cM_in 3 (some .boolean)) ∈ gWc := List.mem_of_getElem? (i := 33) rfl
theorem kM_isPiece : (Cond.code yM_isPiece cM_isPiece 2 (some .boolean)) ∈ gWc := List.mem_of_getElem? (i := 34) rfl
theorem kM_isAtHand : (Cond.code yM_isAtHand cM_isAtHand 2 (some .boolean)) ∈ gWc := List.mem_of_getElem? (i := 35) rfl
theorem kM_add : (Cond.code yM_add cM_add 5 (some .int)) ∈ gWc := List.mem_of_getElem? (i := 36) rfl
theorem kM_melt : (Cond.code yM_melt cM_melt 3 (some .int)) ∈ gWc := List.mem_of_getElem? (i := 37) rfl
theorem kM_cut : (Cond.code yM_cut cM_cut 7 (some .int)) ∈ gWc := List.mem_of_getElem? (i := 38) rfl
theorem kM_weld : (Cond.code yM_weld cM_weld 6 (some .int)) ∈ gWc := List.mem_of_getElem? (i := 39) rfl
theorem kM_roll : (Cond.code yM_roll cM_roll 10 (some .int)) ∈ gWc := List.mem_of_getElem? (i := 40) rfl
theorem kM_slit : (Cond.code yM_slit cM_slit 4 (some .int)) ∈ gWc := List.mem_of_getElem? (i := 41) rfl
theorem kM_hold : (Cond.code yM_hold cM_hold 4 none) ∈ gWc := List.mem_of_getElem? (i := 42) rfl
theorem kM_scrap : (Cond.code yM_scrap cM_scrap 2 (some .int)) ∈ gWc := List.mem_of_getElem? (i := 43) rfl
theorem kM_back : (Cond.code yM_back cM_back 5 (some .int)) ∈ gWc := List.mem_of_getElem? (i := 44) rfl
theorem kM_at : (Cond.code yM_at cM_at 3 (some .int)) ∈ gWc := List.mem_of_getElem? (i := 45) rfl
theorem kM_lowest : (Cond.code yM_lowest cM_lowest 7 none) ∈ gWc := List.mem_of_getElem? (i := 46) rfl
theorem kM_goBack : (Cond.code yM_goBack cM_goBack 5 none) ∈ gWc := List.mem_of_getElem? (i := 47) rfl
theorem kM_origin : (Cond.code yM_origin cM_origin 5 (some .long)) ∈ gWc := List.mem_of_getElem? (i := 48) rfl
theorem kM_defect : (Cond.code yM_defect cM_defect 4 (some .int)) ∈ gWc := List.mem_of_getElem? (i := 49) rfl
theorem kM_takes : (Cond.code yM_takes cM_takes 2 (some .boolean)) ∈ gWc := List.mem_of_getElem? (i := 50) rfl
theorem kM_reaches : (Cond.code yM_reaches cM_reaches 2 (some .boolean)) ∈ gWc := List.mem_of_getElem? (i := 51) rfl
theorem kM_goForward : (Cond.code yM_goForward cM_goForward 4 none) ∈ gWc := List.mem_of_getElem? (i := 52) rfl
theorem kM_isDefect : (Cond.code yM_isDefect cM_isDefect 2 (some .boolean)) ∈ gWc := List.mem_of_getElem? (i := 53) rfl
theorem kM_has : (Cond.code yM_has cM_has 4 (some .long)) ∈ gWc := List.mem_of_getElem? (i := 54) rfl
theorem kM_recall : (Cond.code yM_recall cM_recall 5 (some .int)) ∈ gWc := List.mem_of_getElem? (i := 55) rfl
theorem kM_told : (Cond.code yM_told cM_told 5 (some .long)) ∈ gWc := List.mem_of_getElem? (i := 56) rfl
theorem kP_init : (Cond.code yP_init cP_init 1 none) ∈ gWc := List.mem_of_getElem? (i := 57) rfl
theorem kP_set : (Cond.code yP_set cP_set 5 none) ∈ gWc := List.mem_of_getElem? (i := 58) rfl
theorem kP_move : (Cond.code yP_move cP_move 3 none) ∈ gWc := List.mem_of_getElem? (i := 59) rfl
theorem kP_stretch : (Cond.code yP_stretch cP_stretch 7 none) ∈ gWc := List.mem_of_getElem? (i := 60) rfl
theorem kP_isBelow : (Cond.code yP_isBelow cP_isBelow 3 (some .boolean)) ∈ gWc := List.mem_of_getElem? (i := 61) rfl
theorem kP_commonDivisor : (Cond.code yP_commonDivisor cP_commonDivisor 11 (some .long)) ∈ gWc := List.mem_of_getElem? (i := 62) rfl
theorem kL_melt : (Cond.codeWith yL_melt cL_melt 5 (some .int) [(0, 10, 13, 13), (0, 10, 17, 15)]) ∈ gWc := List.mem_of_getElem? (i := 63) rfl
theorem kL_cut : (Cond.codeWith yL_cut cL_cut 5 (some .int) [(0, 10, 13, 20), (0, 10, 17, 22), (0, 10, 21, 13), (0, 10, 25, 15)]) ∈ gWc := List.mem_of_getElem? (i := 64) rfl
theorem kL_weld : (Cond.codeWith yL_weld cL_weld 5 (some .int) [(0, 10, 13, 20), (0, 10, 17, 22), (0, 10, 21, 15)]) ∈ gWc := List.mem_of_getElem? (i := 65) rfl
theorem kL_roll : (Cond.codeWith yL_roll cL_roll 6 (some .int) [(0, 12, 15, 20), (0, 12, 19, 22), (0, 12, 23, 13), (0, 12, 27, 15)]) ∈ gWc := List.mem_of_getElem? (i := 66) rfl
theorem kL_slit : (Cond.codeWith yL_slit cL_slit 5 (some .int) [(0, 10, 13, 20), (0, 10, 17, 22), (0, 10, 21, 13), (0, 10, 25, 15)]) ∈ gWc := List.mem_of_getElem? (i := 67) rfl
theorem kL_hold : (Cond.codeWith yL_hold cL_hold 4 (some .int) [(0, 6, 9, 20), (0, 6, 12, 22)]) ∈ gWc := List.mem_of_getElem? (i := 68) rfl
theorem kL_scrap : (Cond.codeWith yL_scrap cL_scrap 4 (some .int) [(0, 9, 12, 20), (0, 9, 15, 22)]) ∈ gWc := List.mem_of_getElem? (i := 69) rfl
theorem kL_back : (Cond.codeWith yL_back cL_back 5 (some .int) [(0, 10, 13, 13), (0, 10, 17, 15)]) ∈ gWc := List.mem_of_getElem? (i := 70) rfl
theorem kL_at : (Cond.codeWith yL_at cL_at 5 (some .int) [(0, 10, 13, 20)]) ∈ gWc := List.mem_of_getElem? (i := 71) rfl
theorem kL_origin : (Cond.codeWith yL_origin cL_origin 6 (some .int) [(0, 11, 14, 20), (0, 11, 18, 13)]) ∈ gWc := List.mem_of_getElem? (i := 72) rfl
theorem kL_defect : (Cond.codeWith yL_defect cL_defect 5 (some .int) [(0, 10, 13, 20), (0, 10, 17, 13), (0, 10, 21, 15)]) ∈ gWc := List.mem_of_getElem? (i := 73) rfl
theorem kL_has : (Cond.codeWith yL_has cL_has 6 (some .int) [(0, 11, 14, 20)]) ∈ gWc := List.mem_of_getElem? (i := 74) rfl
theorem kL_recall : (Cond.codeWith yL_recall cL_recall 5 (some .int) [(0, 10, 13, 20)]) ∈ gWc := List.mem_of_getElem? (i := 75) rfl
theorem kL_told : (Cond.codeWith yL_told cL_told 4 (some .int) [(0, 8, 11, 20)]) ∈ gWc := List.mem_of_getElem? (i := 76) rfl
theorem kobjinit : (Cond.code objectInit ⟨#[0xb1]⟩ 1 none) ∈ gWc := List.mem_of_getElem? (i := 77) rfl
theorem kmathmax : (Cond.code Lib.Math.max.name Lib.Math.max.code 2 (some .int)) ∈ gWc := List.mem_of_getElem? (i := 78) rfl
def gWo : List Cond := [(Jvm.Cond.initialized "PieceTraceLaw"),
  (Jvm.Cond.initialized "PieceTrace"),
  (Jvm.Cond.initialized "PieceTrace$Place"),
  (Jvm.Cond.initialized "PieceTraceModel"),
  (Jvm.Cond.initialized "java/lang/Exception"),
  (Jvm.Cond.initialized "java/lang/RuntimeException"),
  (Jvm.Cond.initialized "java/lang/IllegalArgumentException"),
  (Jvm.Cond.initialized "java/lang/UnsupportedOperationException"),
  (Jvm.Cond.initialized "java/lang/IndexOutOfBoundsException"),
  (Jvm.Cond.initialized "java/lang/IllegalStateException"),
  (Jvm.Cond.initialized "java/lang/Math"),
  (Jvm.Cond.classLink "PieceTraceLaw" (8 : Nat) "PieceTrace"),
  (Jvm.Cond.instantiable "PieceTrace" (20 : Nat)),
  (Jvm.Cond.methodLink "PieceTraceLaw" (65 : Nat) ({ cls := "PieceTrace", name := "<init>", desc := "()V" } : Jvm.MethodName)),
  (Jvm.Cond.instanceMethod ({ cls := "PieceTrace", name := "<init>", desc := "()V" } : Jvm.MethodName)),
  (Jvm.Cond.methodLink "PieceTrace" (1 : Nat) ({ cls := "java/lang/Object", name := "<init>", desc := "()V" } : Jvm.MethodName)),
  (Jvm.Cond.instanceMethod ({ cls := "java/lang/Object", name := "<init>", desc := "()V" } : Jvm.MethodName)),
  (Jvm.Cond.classLink "PieceTrace" (50 : Nat) "PieceTrace$Place"),
  (Jvm.Cond.instantiable "PieceTrace$Place" (2 : Nat)),
  (Jvm.Cond.instanceMethod ({ cls := "PieceTrace$Place", name := "<init>", desc := "()V" } : Jvm.MethodName)),
  (Jvm.Cond.methodLink "PieceTrace$Place" (1 : Nat) ({ cls := "java/lang/Object", name := "<init>", desc := "()V" } : Jvm.MethodName)),
  (Jvm.Cond.fieldLink "PieceTrace$Place" (7 : Nat) "PieceTrace$Place" "upper" "J"),
  (Jvm.Cond.fieldLink "PieceTrace$Place" (13 : Nat) "PieceTrace$Place" "lower" "J"),
  (Jvm.Cond.lays "PieceTrace$Place" "PieceTrace$Place" "upper" "J"),
  (Jvm.Cond.lays "PieceTrace$Place" "PieceTrace$Place" "lower" "J"),
  (Jvm.Cond.arrayClass Jvm.ClassFile.FieldType.int),
  (Jvm.Cond.arrayClass Jvm.ClassFile.FieldType.long),
  (Jvm.Cond.fieldLink "PieceTrace" (9 : Nat) "PieceTrace" "kinds" "[I"),
  (Jvm.Cond.fieldLink "PieceTrace" (13 : Nat) "PieceTrace" "weights" "[I"),
  (Jvm.Cond.fieldLink "PieceTrace" (16 : Nat) "PieceTrace" "lengths" "[I"),
  (Jvm.Cond.fieldLink "PieceTrace" (19 : Nat) "PieceTrace" "states" "[I"),
  (Jvm.Cond.fieldLink "PieceTrace" (22 : Nat) "PieceTrace" "sources" "[I"),
  (Jvm.Cond.fieldLink "PieceTrace" (25 : Nat) "PieceTrace" "seconds" "[I"),
  (Jvm.Cond.fieldLink "PieceTrace" (28 : Nat) "PieceTrace" "rollCounts" "[I"),
  (Jvm.Cond.fieldLink "PieceTrace" (31 : Nat) "PieceTrace" "seams" "[I"),
  (Jvm.Cond.fieldLink "PieceTrace" (34 : Nat) "PieceTrace" "ratioUppers" "[I"),
  (Jvm.Cond.fieldLink "PieceTrace" (37 : Nat) "PieceTrace" "ratioLowers" "[I"),
  (Jvm.Cond.fieldLink "PieceTrace" (157 : Nat) "PieceTrace" "pieceCount" "I"),
  (Jvm.Cond.fieldLink "PieceTrace" (40 : Nat) "PieceTrace" "defectMelts" "[I"),
  (Jvm.Cond.fieldLink "PieceTrace" (43 : Nat) "PieceTrace" "defectUppers" "[J"),
  (Jvm.Cond.fieldLink "PieceTrace" (47 : Nat) "PieceTrace" "defectLowers" "[J"),
  (Jvm.Cond.fieldLink "PieceTrace" (142 : Nat) "PieceTrace" "defectCount" "I"),
  (Jvm.Cond.fieldLink "PieceTrace" (115 : Nat) "PieceTrace" "heap" "I"),
  (Jvm.Cond.fieldLink "PieceTrace" (72 : Nat) "PieceTrace" "melted" "J"),
  (Jvm.Cond.fieldLink "PieceTrace" (53 : Nat) "PieceTrace" "spot" "LPieceTrace$Place;"),
  (Jvm.Cond.fieldLink "PieceTrace" (57 : Nat) "PieceTrace" "foundUppers" "[J"),
  (Jvm.Cond.fieldLink "PieceTrace" (60 : Nat) "PieceTrace" "foundLowers" "[J"),
  (Jvm.Cond.laysFinal "PieceTrace" "PieceTrace" "kinds" "[I"),
  (Jvm.Cond.laysFinal "PieceTrace" "PieceTrace" "weights" "[I"),
  (Jvm.Cond.laysFinal "PieceTrace" "PieceTrace" "lengths" "[I"),
  (Jvm.Cond.laysFinal "PieceTrace" "PieceTrace" "states" "[I"),
  (Jvm.Cond.laysFinal "PieceTrace" "PieceTrace" "sources" "[I"),
  (Jvm.Cond.laysFinal "PieceTrace" "PieceTrace" "seconds" "[I"),
  (Jvm.Cond.laysFinal "PieceTrace" "PieceTrace" "rollCounts" "[I"),
  (Jvm.Cond.laysFinal "PieceTrace" "PieceTrace" "seams" "[I"),
  (Jvm.Cond.laysFinal "PieceTrace" "PieceTrace" "ratioUppers" "[I"),
  (Jvm.Cond.laysFinal "PieceTrace" "PieceTrace" "ratioLowers" "[I"),
  (Jvm.Cond.lays "PieceTrace" "PieceTrace" "pieceCount" "I"),
  (Jvm.Cond.laysFinal "PieceTrace" "PieceTrace" "defectMelts" "[I"),
  (Jvm.Cond.laysFinal "PieceTrace" "PieceTrace" "defectUppers" "[J"),
  (Jvm.Cond.laysFinal "PieceTrace" "PieceTrace" "defectLowers" "[J"),
  (Jvm.Cond.lays "PieceTrace" "PieceTrace" "defectCount" "I"),
  (Jvm.Cond.lays "PieceTrace" "PieceTrace" "heap" "I"),
  (Jvm.Cond.lays "PieceTrace" "PieceTrace" "melted" "J"),
  (Jvm.Cond.laysFinal "PieceTrace" "PieceTrace" "spot" "LPieceTrace$Place;"),
  (Jvm.Cond.laysFinal "PieceTrace" "PieceTrace" "foundUppers" "[J"),
  (Jvm.Cond.laysFinal "PieceTrace" "PieceTrace" "foundLowers" "[J"),
  (Jvm.Cond.methodLink "PieceTraceLaw" (69 : Nat) ({ cls := "PieceTraceLaw", name := "melt", desc := "(LPieceTrace;II[J)I" } : Jvm.MethodName)),
  (Jvm.Cond.static ({ cls := "PieceTraceLaw", name := "melt", desc := "(LPieceTrace;II[J)I" } : Jvm.MethodName)),
  (Jvm.Cond.classLink "PieceTraceLaw" (13 : Nat) "java/lang/IllegalArgumentException"),
  (Jvm.Cond.classLink "PieceTraceLaw" (15 : Nat) "java/lang/UnsupportedOperationException"),
  (Jvm.Cond.methodLink "PieceTraceLaw" (7 : Nat) ({ cls := "PieceTrace", name := "melt", desc := "(II)I" } : Jvm.MethodName)),
  (Jvm.Cond.instanceMethod ({ cls := "PieceTrace", name := "melt", desc := "(II)I" } : Jvm.MethodName)),
  (Jvm.Cond.selects "PieceTrace" ({ cls := "PieceTrace", name := "melt", desc := "(II)I" } : Jvm.MethodName) ({ cls := "PieceTrace", name := "melt", desc := "(II)I" } : Jvm.MethodName)),
  (Jvm.Cond.constant "PieceTrace" (63 : Nat) (1000000 : Int32)),
  (Jvm.Cond.methodLink "PieceTrace" (64 : Nat) ({ cls := "PieceTrace", name := "needWithin", desc := "(III)V" } : Jvm.MethodName)),
  (Jvm.Cond.static ({ cls := "PieceTrace", name := "needWithin", desc := "(III)V" } : Jvm.MethodName)),
  (Jvm.Cond.classLink "PieceTrace" (175 : Nat) "java/lang/IllegalArgumentException"),
  (Jvm.Cond.instantiable "java/lang/IllegalArgumentException" (6 : Nat)),
  (Jvm.Cond.methodLink "PieceTrace" (179 : Nat) ({ cls := "java/lang/IllegalArgumentException", name := "<init>", desc := "(Ljava/lang/String;)V" } : Jvm.MethodName)),
  (Jvm.Cond.instanceMethod ({ cls := "java/lang/IllegalArgumentException", name := "<init>", desc := "(Ljava/lang/String;)V" } : Jvm.MethodName)),
  (Jvm.Cond.methodLink "java/lang/IllegalArgumentException" (7 : Nat) ({ cls := "java/lang/RuntimeException", name := "<init>", desc := "(Ljava/lang/String;)V" } : Jvm.MethodName)),
  (Jvm.Cond.instanceMethod ({ cls := "java/lang/RuntimeException", name := "<init>", desc := "(Ljava/lang/String;)V" } : Jvm.MethodName)),
  (Jvm.Cond.methodLink "java/lang/RuntimeException" (7 : Nat) ({ cls := "java/lang/Exception", name := "<init>", desc := "(Ljava/lang/String;)V" } : Jvm.MethodName)),
  (Jvm.Cond.instanceMethod ({ cls := "java/lang/Exception", name := "<init>", desc := "(Ljava/lang/String;)V" } : Jvm.MethodName)),
  (Jvm.Cond.arrayClass Jvm.ClassFile.FieldType.byte),
  (Jvm.Cond.methodLink "PieceTrace" (68 : Nat) ({ cls := "PieceTrace", name := "needRoom", desc := "(I)V" } : Jvm.MethodName)),
  (Jvm.Cond.instanceMethod ({ cls := "PieceTrace", name := "needRoom", desc := "(I)V" } : Jvm.MethodName)),
  (Jvm.Cond.classLink "PieceTrace" (95 : Nat) "java/lang/UnsupportedOperationException"),
  (Jvm.Cond.instantiable "java/lang/UnsupportedOperationException" (6 : Nat)),
  (Jvm.Cond.methodLink "PieceTrace" (99 : Nat) ({ cls := "java/lang/UnsupportedOperationException", name := "<init>", desc := "(Ljava/lang/String;)V" } : Jvm.MethodName)),
  (Jvm.Cond.instanceMethod ({ cls := "java/lang/UnsupportedOperationException", name := "<init>", desc := "(Ljava/lang/String;)V" } : Jvm.MethodName)),
  (Jvm.Cond.methodLink "java/lang/UnsupportedOperationException" (7 : Nat) ({ cls := "java/lang/RuntimeException", name := "<init>", desc := "(Ljava/lang/String;)V" } : Jvm.MethodName)),
  (Jvm.Cond.methodLink "PieceTrace" (76 : Nat) ({ cls := "PieceTrace", name := "addPiece", desc := "(IIII)I" } : Jvm.MethodName)),
  (Jvm.Cond.instanceMethod ({ cls := "PieceTrace", name := "addPiece", desc := "(IIII)I" } : Jvm.MethodName)),
  (Jvm.Cond.methodLink "PieceTraceLaw" (79 : Nat) ({ cls := "PieceTraceLaw", name := "cut", desc := "(LPieceTrace;II[J)I" } : Jvm.MethodName)),
  (Jvm.Cond.static ({ cls := "PieceTraceLaw", name := "cut", desc := "(LPieceTrace;II[J)I" } : Jvm.MethodName)),
  (Jvm.Cond.classLink "PieceTraceLaw" (20 : Nat) "java/lang/IndexOutOfBoundsException"),
  (Jvm.Cond.classLink "PieceTraceLaw" (22 : Nat) "java/lang/IllegalStateException"),
  (Jvm.Cond.methodLink "PieceTraceLaw" (17 : Nat) ({ cls := "PieceTrace", name := "cut", desc := "(II)I" } : Jvm.MethodName)),
  (Jvm.Cond.instanceMethod ({ cls := "PieceTrace", name := "cut", desc := "(II)I" } : Jvm.MethodName)),
  (Jvm.Cond.selects "PieceTrace" ({ cls := "PieceTrace", name := "cut", desc := "(II)I" } : Jvm.MethodName) ({ cls := "PieceTrace", name := "cut", desc := "(II)I" } : Jvm.MethodName)),
  (Jvm.Cond.methodLink "PieceTrace" (80 : Nat) ({ cls := "PieceTrace", name := "needPiece", desc := "(I)V" } : Jvm.MethodName)),
  (Jvm.Cond.instanceMethod ({ cls := "PieceTrace", name := "needPiece", desc := "(I)V" } : Jvm.MethodName)),
  (Jvm.Cond.methodLink "PieceTrace" (164 : Nat) ({ cls := "PieceTrace", name := "isPiece", desc := "(I)Z" } : Jvm.MethodName)),
  (Jvm.Cond.instanceMethod ({ cls := "PieceTrace", name := "isPiece", desc := "(I)Z" } : Jvm.MethodName)),
  (Jvm.Cond.classLink "PieceTrace" (86 : Nat) "java/lang/IndexOutOfBoundsException"),
  (Jvm.Cond.instantiable "java/lang/IndexOutOfBoundsException" (6 : Nat)),
  (Jvm.Cond.methodLink "PieceTrace" (90 : Nat) ({ cls := "java/lang/IndexOutOfBoundsException", name := "<init>", desc := "(Ljava/lang/String;)V" } : Jvm.MethodName)),
  (Jvm.Cond.instanceMethod ({ cls := "java/lang/IndexOutOfBoundsException", name := "<init>", desc := "(Ljava/lang/String;)V" } : Jvm.MethodName)),
  (Jvm.Cond.methodLink "java/lang/IndexOutOfBoundsException" (7 : Nat) ({ cls := "java/lang/RuntimeException", name := "<init>", desc := "(Ljava/lang/String;)V" } : Jvm.MethodName)),
  (Jvm.Cond.methodLink "PieceTrace" (83 : Nat) ({ cls := "PieceTrace", name := "needFree", desc := "(I)V" } : Jvm.MethodName)),
  (Jvm.Cond.instanceMethod ({ cls := "PieceTrace", name := "needFree", desc := "(I)V" } : Jvm.MethodName)),
  (Jvm.Cond.classLink "PieceTrace" (110 : Nat) "java/lang/IllegalStateException"),
  (Jvm.Cond.instantiable "java/lang/IllegalStateException" (6 : Nat)),
  (Jvm.Cond.methodLink "PieceTrace" (114 : Nat) ({ cls := "java/lang/IllegalStateException", name := "<init>", desc := "(Ljava/lang/String;)V" } : Jvm.MethodName)),
  (Jvm.Cond.instanceMethod ({ cls := "java/lang/IllegalStateException", name := "<init>", desc := "(Ljava/lang/String;)V" } : Jvm.MethodName)),
  (Jvm.Cond.methodLink "java/lang/IllegalStateException" (7 : Nat) ({ cls := "java/lang/RuntimeException", name := "<init>", desc := "(Ljava/lang/String;)V" } : Jvm.MethodName)),
  (Jvm.Cond.methodLink "PieceTraceLaw" (82 : Nat) ({ cls := "PieceTraceLaw", name := "weld", desc := "(LPieceTrace;II[J)I" } : Jvm.MethodName)),
  (Jvm.Cond.static ({ cls := "PieceTraceLaw", name := "weld", desc := "(LPieceTrace;II[J)I" } : Jvm.MethodName)),
  (Jvm.Cond.methodLink "PieceTraceLaw" (24 : Nat) ({ cls := "PieceTrace", name := "weld", desc := "(II)I" } : Jvm.MethodName)),
  (Jvm.Cond.instanceMethod ({ cls := "PieceTrace", name := "weld", desc := "(II)I" } : Jvm.MethodName)),
  (Jvm.Cond.selects "PieceTrace" ({ cls := "PieceTrace", name := "weld", desc := "(II)I" } : Jvm.MethodName) ({ cls := "PieceTrace", name := "weld", desc := "(II)I" } : Jvm.MethodName)),
  (Jvm.Cond.constantLong "PieceTrace" (93 : Nat) (1000000000 : Int64)),
  (Jvm.Cond.methodLink "PieceTrace" (100 : Nat) ({ cls := "java/lang/Math", name := "max", desc := "(II)I" } : Jvm.MethodName)),
  (Jvm.Cond.static ({ cls := "java/lang/Math", name := "max", desc := "(II)I" } : Jvm.MethodName)),
  (Jvm.Cond.methodLink "PieceTraceLaw" (85 : Nat) ({ cls := "PieceTraceLaw", name := "roll", desc := "(LPieceTrace;III[J)I" } : Jvm.MethodName)),
  (Jvm.Cond.static ({ cls := "PieceTraceLaw", name := "roll", desc := "(LPieceTrace;III[J)I" } : Jvm.MethodName)),
  (Jvm.Cond.methodLink "PieceTraceLaw" (27 : Nat) ({ cls := "PieceTrace", name := "roll", desc := "(III)I" } : Jvm.MethodName)),
  (Jvm.Cond.instanceMethod ({ cls := "PieceTrace", name := "roll", desc := "(III)I" } : Jvm.MethodName)),
  (Jvm.Cond.selects "PieceTrace" ({ cls := "PieceTrace", name := "roll", desc := "(III)I" } : Jvm.MethodName) ({ cls := "PieceTrace", name := "roll", desc := "(III)I" } : Jvm.MethodName)),
  (Jvm.Cond.methodLink "PieceTraceLaw" (89 : Nat) ({ cls := "PieceTraceLaw", name := "slit", desc := "(LPieceTrace;II[J)I" } : Jvm.MethodName)),
  (Jvm.Cond.static ({ cls := "PieceTraceLaw", name := "slit", desc := "(LPieceTrace;II[J)I" } : Jvm.MethodName)),
  (Jvm.Cond.methodLink "PieceTraceLaw" (31 : Nat) ({ cls := "PieceTrace", name := "slit", desc := "(II)I" } : Jvm.MethodName)),
  (Jvm.Cond.instanceMethod ({ cls := "PieceTrace", name := "slit", desc := "(II)I" } : Jvm.MethodName)),
  (Jvm.Cond.selects "PieceTrace" ({ cls := "PieceTrace", name := "slit", desc := "(II)I" } : Jvm.MethodName) ({ cls := "PieceTrace", name := "slit", desc := "(II)I" } : Jvm.MethodName)),
  (Jvm.Cond.methodLink "PieceTraceLaw" (92 : Nat) ({ cls := "PieceTraceLaw", name := "hold", desc := "(LPieceTrace;IZ)I" } : Jvm.MethodName)),
  (Jvm.Cond.static ({ cls := "PieceTraceLaw", name := "hold", desc := "(LPieceTrace;IZ)I" } : Jvm.MethodName)),
  (Jvm.Cond.methodLink "PieceTraceLaw" (34 : Nat) ({ cls := "PieceTrace", name := "hold", desc := "(IZ)V" } : Jvm.MethodName)),
  (Jvm.Cond.instanceMethod ({ cls := "PieceTrace", name := "hold", desc := "(IZ)V" } : Jvm.MethodName)),
  (Jvm.Cond.selects "PieceTrace" ({ cls := "PieceTrace", name := "hold", desc := "(IZ)V" } : Jvm.MethodName) ({ cls := "PieceTrace", name := "hold", desc := "(IZ)V" } : Jvm.MethodName)),
  (Jvm.Cond.methodLink "PieceTraceLaw" (96 : Nat) ({ cls := "PieceTraceLaw", name := "scrap", desc := "(LPieceTrace;I[J)I" } : Jvm.MethodName)),
  (Jvm.Cond.static ({ cls := "PieceTraceLaw", name := "scrap", desc := "(LPieceTrace;I[J)I" } : Jvm.MethodName)),
  (Jvm.Cond.methodLink "PieceTraceLaw" (38 : Nat) ({ cls := "PieceTrace", name := "scrap", desc := "(I)I" } : Jvm.MethodName)),
  (Jvm.Cond.instanceMethod ({ cls := "PieceTrace", name := "scrap", desc := "(I)I" } : Jvm.MethodName)),
  (Jvm.Cond.selects "PieceTrace" ({ cls := "PieceTrace", name := "scrap", desc := "(I)I" } : Jvm.MethodName) ({ cls := "PieceTrace", name := "scrap", desc := "(I)I" } : Jvm.MethodName)),
  (Jvm.Cond.methodLink "PieceTraceLaw" (100 : Nat) ({ cls := "PieceTraceLaw", name := "back", desc := "(LPieceTrace;II[J)I" } : Jvm.MethodName)),
  (Jvm.Cond.static ({ cls := "PieceTraceLaw", name := "back", desc := "(LPieceTrace;II[J)I" } : Jvm.MethodName)),
  (Jvm.Cond.methodLink "PieceTraceLaw" (42 : Nat) ({ cls := "PieceTrace", name := "back", desc := "(II)I" } : Jvm.MethodName)),
  (Jvm.Cond.instanceMethod ({ cls := "PieceTrace", name := "back", desc := "(II)I" } : Jvm.MethodName)),
  (Jvm.Cond.selects "PieceTrace" ({ cls := "PieceTrace", name := "back", desc := "(II)I" } : Jvm.MethodName) ({ cls := "PieceTrace", name := "back", desc := "(II)I" } : Jvm.MethodName)),
  (Jvm.Cond.constantLong "PieceTrace" (119 : Nat) (100 : Int64)),
  (Jvm.Cond.methodLink "PieceTraceLaw" (103 : Nat) ({ cls := "PieceTraceLaw", name := "at", desc := "(LPieceTrace;II[J)I" } : Jvm.MethodName)),
  (Jvm.Cond.static ({ cls := "PieceTraceLaw", name := "at", desc := "(LPieceTrace;II[J)I" } : Jvm.MethodName)),
  (Jvm.Cond.methodLink "PieceTraceLaw" (45 : Nat) ({ cls := "PieceTrace", name := "at", desc := "(II)I" } : Jvm.MethodName)),
  (Jvm.Cond.instanceMethod ({ cls := "PieceTrace", name := "at", desc := "(II)I" } : Jvm.MethodName)),
  (Jvm.Cond.selects "PieceTrace" ({ cls := "PieceTrace", name := "at", desc := "(II)I" } : Jvm.MethodName) ({ cls := "PieceTrace", name := "at", desc := "(II)I" } : Jvm.MethodName)),
  (Jvm.Cond.methodLink "PieceTrace" (123 : Nat) ({ cls := "PieceTrace", name := "isLive", desc := "(I)Z" } : Jvm.MethodName)),
  (Jvm.Cond.instanceMethod ({ cls := "PieceTrace", name := "isLive", desc := "(I)Z" } : Jvm.MethodName)),
  (Jvm.Cond.methodLink "PieceTraceLaw" (106 : Nat) ({ cls := "PieceTraceLaw", name := "origin", desc := "(LPieceTrace;III[J)I" } : Jvm.MethodName)),
  (Jvm.Cond.static ({ cls := "PieceTraceLaw", name := "origin", desc := "(LPieceTrace;III[J)I" } : Jvm.MethodName)),
  (Jvm.Cond.methodLink "PieceTraceLaw" (48 : Nat) ({ cls := "PieceTrace", name := "origin", desc := "(III)J" } : Jvm.MethodName)),
  (Jvm.Cond.instanceMethod ({ cls := "PieceTrace", name := "origin", desc := "(III)J" } : Jvm.MethodName)),
  (Jvm.Cond.selects "PieceTrace" ({ cls := "PieceTrace", name := "origin", desc := "(III)J" } : Jvm.MethodName) ({ cls := "PieceTrace", name := "origin", desc := "(III)J" } : Jvm.MethodName)),
  (Jvm.Cond.methodLink "PieceTrace" (129 : Nat) ({ cls := "PieceTrace", name := "needPart", desc := "(II)V" } : Jvm.MethodName)),
  (Jvm.Cond.static ({ cls := "PieceTrace", name := "needPart", desc := "(II)V" } : Jvm.MethodName)),
  (Jvm.Cond.methodLink "PieceTrace" (133 : Nat) ({ cls := "PieceTrace", name := "walkBack", desc := "(II)I" } : Jvm.MethodName)),
  (Jvm.Cond.instanceMethod ({ cls := "PieceTrace", name := "walkBack", desc := "(II)I" } : Jvm.MethodName)),
  (Jvm.Cond.instanceMethod ({ cls := "PieceTrace$Place", name := "set", desc := "(JJ)V" } : Jvm.MethodName)),
  (Jvm.Cond.methodLink "PieceTrace" (186 : Nat) ({ cls := "PieceTrace", name := "stepBack", desc := "(I)I" } : Jvm.MethodName)),
  (Jvm.Cond.instanceMethod ({ cls := "PieceTrace", name := "stepBack", desc := "(I)I" } : Jvm.MethodName)),
  (Jvm.Cond.instanceMethod ({ cls := "PieceTrace$Place", name := "move", desc := "(J)V" } : Jvm.MethodName)),
  (Jvm.Cond.instanceMethod ({ cls := "PieceTrace$Place", name := "isBelow", desc := "(J)Z" } : Jvm.MethodName)),
  (Jvm.Cond.instanceMethod ({ cls := "PieceTrace$Place", name := "stretch", desc := "(JJ)V" } : Jvm.MethodName)),
  (Jvm.Cond.methodLink "PieceTrace$Place" (16 : Nat) ({ cls := "PieceTrace$Place", name := "commonDivisor", desc := "(JJ)J" } : Jvm.MethodName)),
  (Jvm.Cond.static ({ cls := "PieceTrace$Place", name := "commonDivisor", desc := "(JJ)J" } : Jvm.MethodName)),
  (Jvm.Cond.methodLink "PieceTraceLaw" (109 : Nat) ({ cls := "PieceTraceLaw", name := "defect", desc := "(LPieceTrace;II[J)I" } : Jvm.MethodName)),
  (Jvm.Cond.static ({ cls := "PieceTraceLaw", name := "defect", desc := "(LPieceTrace;II[J)I" } : Jvm.MethodName)),
  (Jvm.Cond.methodLink "PieceTraceLaw" (52 : Nat) ({ cls := "PieceTrace", name := "defect", desc := "(II)I" } : Jvm.MethodName)),
  (Jvm.Cond.instanceMethod ({ cls := "PieceTrace", name := "defect", desc := "(II)I" } : Jvm.MethodName)),
  (Jvm.Cond.selects "PieceTrace" ({ cls := "PieceTrace", name := "defect", desc := "(II)I" } : Jvm.MethodName) ({ cls := "PieceTrace", name := "defect", desc := "(II)I" } : Jvm.MethodName)),
  (Jvm.Cond.methodLink "PieceTraceLaw" (112 : Nat) ({ cls := "PieceTraceLaw", name := "has", desc := "(LPieceTrace;III[J)I" } : Jvm.MethodName)),
  (Jvm.Cond.static ({ cls := "PieceTraceLaw", name := "has", desc := "(LPieceTrace;III[J)I" } : Jvm.MethodName)),
  (Jvm.Cond.methodLink "PieceTraceLaw" (55 : Nat) ({ cls := "PieceTrace", name := "has", desc := "(III)J" } : Jvm.MethodName)),
  (Jvm.Cond.instanceMethod ({ cls := "PieceTrace", name := "has", desc := "(III)J" } : Jvm.MethodName)),
  (Jvm.Cond.selects "PieceTrace" ({ cls := "PieceTrace", name := "has", desc := "(III)J" } : Jvm.MethodName) ({ cls := "PieceTrace", name := "has", desc := "(III)J" } : Jvm.MethodName)),
  (Jvm.Cond.methodLink "PieceTrace" (147 : Nat) ({ cls := "PieceTrace", name := "needDefect", desc := "(I)V" } : Jvm.MethodName)),
  (Jvm.Cond.instanceMethod ({ cls := "PieceTrace", name := "needDefect", desc := "(I)V" } : Jvm.MethodName)),
  (Jvm.Cond.methodLink "PieceTrace" (150 : Nat) ({ cls := "PieceTrace", name := "follow", desc := "(I)V" } : Jvm.MethodName)),
  (Jvm.Cond.instanceMethod ({ cls := "PieceTrace", name := "follow", desc := "(I)V" } : Jvm.MethodName)),
  (Jvm.Cond.methodLink "PieceTrace" (201 : Nat) ({ cls := "PieceTrace", name := "stepForward", desc := "(II)Z" } : Jvm.MethodName)),
  (Jvm.Cond.instanceMethod ({ cls := "PieceTrace", name := "stepForward", desc := "(II)Z" } : Jvm.MethodName)),
  (Jvm.Cond.methodLink "PieceTrace" (205 : Nat) ({ cls := "PieceTrace", name := "takeFound", desc := "(I)Z" } : Jvm.MethodName)),
  (Jvm.Cond.instanceMethod ({ cls := "PieceTrace", name := "takeFound", desc := "(I)Z" } : Jvm.MethodName)),
  (Jvm.Cond.constantLong "PieceTrace" (153 : Nat) (-1 : Int64)),
  (Jvm.Cond.methodLink "PieceTraceLaw" (115 : Nat) ({ cls := "PieceTraceLaw", name := "recall", desc := "(LPieceTrace;II[J)I" } : Jvm.MethodName)),
  (Jvm.Cond.static ({ cls := "PieceTraceLaw", name := "recall", desc := "(LPieceTrace;II[J)I" } : Jvm.MethodName)),
  (Jvm.Cond.methodLink "PieceTraceLaw" (58 : Nat) ({ cls := "PieceTrace", name := "recall", desc := "(II)I" } : Jvm.MethodName)),
  (Jvm.Cond.instanceMethod ({ cls := "PieceTrace", name := "recall", desc := "(II)I" } : Jvm.MethodName)),
  (Jvm.Cond.selects "PieceTrace" ({ cls := "PieceTrace", name := "recall", desc := "(II)I" } : Jvm.MethodName) ({ cls := "PieceTrace", name := "recall", desc := "(II)I" } : Jvm.MethodName)),
  (Jvm.Cond.methodLink "PieceTraceLaw" (118 : Nat) ({ cls := "PieceTraceLaw", name := "told", desc := "(LPieceTrace;I[J)I" } : Jvm.MethodName)),
  (Jvm.Cond.static ({ cls := "PieceTraceLaw", name := "told", desc := "(LPieceTrace;I[J)I" } : Jvm.MethodName)),
  (Jvm.Cond.methodLink "PieceTraceLaw" (61 : Nat) ({ cls := "PieceTrace", name := "told", desc := "(I)J" } : Jvm.MethodName)),
  (Jvm.Cond.instanceMethod ({ cls := "PieceTrace", name := "told", desc := "(I)J" } : Jvm.MethodName)),
  (Jvm.Cond.selects "PieceTrace" ({ cls := "PieceTrace", name := "told", desc := "(I)J" } : Jvm.MethodName) ({ cls := "PieceTrace", name := "told", desc := "(I)J" } : Jvm.MethodName)),
  (Jvm.Cond.methodLink "PieceTrace" (160 : Nat) ({ cls := "PieceTrace", name := "liveWeight", desc := "()J" } : Jvm.MethodName)),
  (Jvm.Cond.instanceMethod ({ cls := "PieceTrace", name := "liveWeight", desc := "()J" } : Jvm.MethodName)),
  (Jvm.Cond.classLink "PieceTraceLaw" (66 : Nat) "PieceTraceModel"),
  (Jvm.Cond.instantiable "PieceTraceModel" (24 : Nat)),
  (Jvm.Cond.methodLink "PieceTraceLaw" (68 : Nat) ({ cls := "PieceTraceModel", name := "<init>", desc := "()V" } : Jvm.MethodName)),
  (Jvm.Cond.instanceMethod ({ cls := "PieceTraceModel", name := "<init>", desc := "()V" } : Jvm.MethodName)),
  (Jvm.Cond.methodLink "PieceTraceModel" (1 : Nat) ({ cls := "java/lang/Object", name := "<init>", desc := "()V" } : Jvm.MethodName)),
  (Jvm.Cond.fieldLink "PieceTraceModel" (60 : Nat) "PieceTraceModel" "thrown" "I"),
  (Jvm.Cond.fieldLink "PieceTraceModel" (64 : Nat) "PieceTraceModel" "pieces" "I"),
  (Jvm.Cond.fieldLink "PieceTraceModel" (7 : Nat) "PieceTraceModel" "kind" "[I"),
  (Jvm.Cond.fieldLink "PieceTraceModel" (13 : Nat) "PieceTraceModel" "weight" "[I"),
  (Jvm.Cond.fieldLink "PieceTraceModel" (16 : Nat) "PieceTraceModel" "length" "[I"),
  (Jvm.Cond.fieldLink "PieceTraceModel" (19 : Nat) "PieceTraceModel" "state" "[I"),
  (Jvm.Cond.fieldLink "PieceTraceModel" (22 : Nat) "PieceTraceModel" "held" "[Z"),
  (Jvm.Cond.fieldLink "PieceTraceModel" (26 : Nat) "PieceTraceModel" "of" "[I"),
  (Jvm.Cond.fieldLink "PieceTraceModel" (29 : Nat) "PieceTraceModel" "other" "[I"),
  (Jvm.Cond.fieldLink "PieceTraceModel" (32 : Nat) "PieceTraceModel" "cutAt" "[I"),
  (Jvm.Cond.fieldLink "PieceTraceModel" (35 : Nat) "PieceTraceModel" "over" "[I"),
  (Jvm.Cond.fieldLink "PieceTraceModel" (38 : Nat) "PieceTraceModel" "under" "[I"),
  (Jvm.Cond.fieldLink "PieceTraceModel" (41 : Nat) "PieceTraceModel" "rolls" "[I"),
  (Jvm.Cond.fieldLink "PieceTraceModel" (94 : Nat) "PieceTraceModel" "heap" "I"),
  (Jvm.Cond.fieldLink "PieceTraceModel" (80 : Nat) "PieceTraceModel" "melted" "J"),
  (Jvm.Cond.fieldLink "PieceTraceModel" (115 : Nat) "PieceTraceModel" "defects" "I"),
  (Jvm.Cond.fieldLink "PieceTraceModel" (44 : Nat) "PieceTraceModel" "defectMelt" "[I"),
  (Jvm.Cond.fieldLink "PieceTraceModel" (47 : Nat) "PieceTraceModel" "defectUp" "[J"),
  (Jvm.Cond.fieldLink "PieceTraceModel" (51 : Nat) "PieceTraceModel" "defectLow" "[J"),
  (Jvm.Cond.fieldLink "PieceTraceModel" (108 : Nat) "PieceTraceModel" "melt" "I"),
  (Jvm.Cond.fieldLink "PieceTraceModel" (99 : Nat) "PieceTraceModel" "up" "J"),
  (Jvm.Cond.fieldLink "PieceTraceModel" (102 : Nat) "PieceTraceModel" "low" "J"),
  (Jvm.Cond.fieldLink "PieceTraceModel" (54 : Nat) "PieceTraceModel" "ups" "[J"),
  (Jvm.Cond.fieldLink "PieceTraceModel" (57 : Nat) "PieceTraceModel" "lows" "[J"),
  (Jvm.Cond.lays "PieceTraceModel" "PieceTraceModel" "thrown" "I"),
  (Jvm.Cond.lays "PieceTraceModel" "PieceTraceModel" "pieces" "I"),
  (Jvm.Cond.laysFinal "PieceTraceModel" "PieceTraceModel" "kind" "[I"),
  (Jvm.Cond.laysFinal "PieceTraceModel" "PieceTraceModel" "weight" "[I"),
  (Jvm.Cond.laysFinal "PieceTraceModel" "PieceTraceModel" "length" "[I"),
  (Jvm.Cond.laysFinal "PieceTraceModel" "PieceTraceModel" "state" "[I"),
  (Jvm.Cond.laysFinal "PieceTraceModel" "PieceTraceModel" "held" "[Z"),
  (Jvm.Cond.laysFinal "PieceTraceModel" "PieceTraceModel" "of" "[I"),
  (Jvm.Cond.laysFinal "PieceTraceModel" "PieceTraceModel" "other" "[I"),
  (Jvm.Cond.laysFinal "PieceTraceModel" "PieceTraceModel" "cutAt" "[I"),
  (Jvm.Cond.laysFinal "PieceTraceModel" "PieceTraceModel" "over" "[I"),
  (Jvm.Cond.laysFinal "PieceTraceModel" "PieceTraceModel" "under" "[I"),
  (Jvm.Cond.laysFinal "PieceTraceModel" "PieceTraceModel" "rolls" "[I"),
  (Jvm.Cond.lays "PieceTraceModel" "PieceTraceModel" "heap" "I"),
  (Jvm.Cond.lays "PieceTraceModel" "PieceTraceModel" "melted" "J"),
  (Jvm.Cond.lays "PieceTraceModel" "PieceTraceModel" "defects" "I"),
  (Jvm.Cond.laysFinal "PieceTraceModel" "PieceTraceModel" "defectMelt" "[I"),
  (Jvm.Cond.laysFinal "PieceTraceModel" "PieceTraceModel" "defectUp" "[J"),
  (Jvm.Cond.laysFinal "PieceTraceModel" "PieceTraceModel" "defectLow" "[J"),
  (Jvm.Cond.lays "PieceTraceModel" "PieceTraceModel" "melt" "I"),
  (Jvm.Cond.lays "PieceTraceModel" "PieceTraceModel" "up" "J"),
  (Jvm.Cond.lays "PieceTraceModel" "PieceTraceModel" "low" "J"),
  (Jvm.Cond.laysFinal "PieceTraceModel" "PieceTraceModel" "ups" "[J"),
  (Jvm.Cond.laysFinal "PieceTraceModel" "PieceTraceModel" "lows" "[J"),
  (Jvm.Cond.arrayClass Jvm.ClassFile.FieldType.boolean),
  (Jvm.Cond.methodLink "PieceTraceLaw" (75 : Nat) ({ cls := "PieceTraceModel", name := "thrown", desc := "()I" } : Jvm.MethodName)),
  (Jvm.Cond.instanceMethod ({ cls := "PieceTraceModel", name := "thrown", desc := "()I" } : Jvm.MethodName)),
  (Jvm.Cond.selects "PieceTraceModel" ({ cls := "PieceTraceModel", name := "thrown", desc := "()I" } : Jvm.MethodName) ({ cls := "PieceTraceModel", name := "thrown", desc := "()I" } : Jvm.MethodName)),
  (Jvm.Cond.methodLink "PieceTraceLaw" (74 : Nat) ({ cls := "PieceTraceModel", name := "melt", desc := "(II)I" } : Jvm.MethodName)),
  (Jvm.Cond.instanceMethod ({ cls := "PieceTraceModel", name := "melt", desc := "(II)I" } : Jvm.MethodName)),
  (Jvm.Cond.selects "PieceTraceModel" ({ cls := "PieceTraceModel", name := "melt", desc := "(II)I" } : Jvm.MethodName) ({ cls := "PieceTraceModel", name := "melt", desc := "(II)I" } : Jvm.MethodName)),
  (Jvm.Cond.constant "PieceTraceModel" (75 : Nat) (1000000 : Int32)),
  (Jvm.Cond.methodLink "PieceTraceModel" (67 : Nat) ({ cls := "PieceTraceModel", name := "in", desc := "(III)Z" } : Jvm.MethodName)),
  (Jvm.Cond.static ({ cls := "PieceTraceModel", name := "in", desc := "(III)Z" } : Jvm.MethodName)),
  (Jvm.Cond.methodLink "PieceTraceModel" (76 : Nat) ({ cls := "PieceTraceModel", name := "throwing", desc := "(ZZZZ)Z" } : Jvm.MethodName)),
  (Jvm.Cond.instanceMethod ({ cls := "PieceTraceModel", name := "throwing", desc := "(ZZZZ)Z" } : Jvm.MethodName)),
  (Jvm.Cond.methodLink "PieceTraceModel" (84 : Nat) ({ cls := "PieceTraceModel", name := "add", desc := "(IIII)I" } : Jvm.MethodName)),
  (Jvm.Cond.instanceMethod ({ cls := "PieceTraceModel", name := "add", desc := "(IIII)I" } : Jvm.MethodName)),
  (Jvm.Cond.methodLink "PieceTraceLaw" (81 : Nat) ({ cls := "PieceTraceModel", name := "cut", desc := "(II)I" } : Jvm.MethodName)),
  (Jvm.Cond.instanceMethod ({ cls := "PieceTraceModel", name := "cut", desc := "(II)I" } : Jvm.MethodName)),
  (Jvm.Cond.selects "PieceTraceModel" ({ cls := "PieceTraceModel", name := "cut", desc := "(II)I" } : Jvm.MethodName) ({ cls := "PieceTraceModel", name := "cut", desc := "(II)I" } : Jvm.MethodName)),
  (Jvm.Cond.methodLink "PieceTraceModel" (71 : Nat) ({ cls := "PieceTraceModel", name := "isPiece", desc := "(I)Z" } : Jvm.MethodName)),
  (Jvm.Cond.instanceMethod ({ cls := "PieceTraceModel", name := "isPiece", desc := "(I)Z" } : Jvm.MethodName)),
  (Jvm.Cond.methodLink "PieceTraceModel" (88 : Nat) ({ cls := "PieceTraceModel", name := "isAtHand", desc := "(I)Z" } : Jvm.MethodName)),
  (Jvm.Cond.instanceMethod ({ cls := "PieceTraceModel", name := "isAtHand", desc := "(I)Z" } : Jvm.MethodName)),
  (Jvm.Cond.methodLink "PieceTraceLaw" (84 : Nat) ({ cls := "PieceTraceModel", name := "weld", desc := "(II)I" } : Jvm.MethodName)),
  (Jvm.Cond.instanceMethod ({ cls := "PieceTraceModel", name := "weld", desc := "(II)I" } : Jvm.MethodName)),
  (Jvm.Cond.selects "PieceTraceModel" ({ cls := "PieceTraceModel", name := "weld", desc := "(II)I" } : Jvm.MethodName) ({ cls := "PieceTraceModel", name := "weld", desc := "(II)I" } : Jvm.MethodName)),
  (Jvm.Cond.constant "PieceTraceModel" (91 : Nat) (1000000000 : Int32)),
  (Jvm.Cond.methodLink "PieceTraceLaw" (88 : Nat) ({ cls := "PieceTraceModel", name := "roll", desc := "(III)I" } : Jvm.MethodName)),
  (Jvm.Cond.instanceMethod ({ cls := "PieceTraceModel", name := "roll", desc := "(III)I" } : Jvm.MethodName)),
  (Jvm.Cond.selects "PieceTraceModel" ({ cls := "PieceTraceModel", name := "roll", desc := "(III)I" } : Jvm.MethodName) ({ cls := "PieceTraceModel", name := "roll", desc := "(III)I" } : Jvm.MethodName)),
  (Jvm.Cond.constantLong "PieceTraceModel" (92 : Nat) (1000000000 : Int64)),
  (Jvm.Cond.methodLink "PieceTraceLaw" (91 : Nat) ({ cls := "PieceTraceModel", name := "slit", desc := "(II)I" } : Jvm.MethodName)),
  (Jvm.Cond.instanceMethod ({ cls := "PieceTraceModel", name := "slit", desc := "(II)I" } : Jvm.MethodName)),
  (Jvm.Cond.selects "PieceTraceModel" ({ cls := "PieceTraceModel", name := "slit", desc := "(II)I" } : Jvm.MethodName) ({ cls := "PieceTraceModel", name := "slit", desc := "(II)I" } : Jvm.MethodName)),
  (Jvm.Cond.methodLink "PieceTraceLaw" (95 : Nat) ({ cls := "PieceTraceModel", name := "hold", desc := "(IZ)V" } : Jvm.MethodName)),
  (Jvm.Cond.instanceMethod ({ cls := "PieceTraceModel", name := "hold", desc := "(IZ)V" } : Jvm.MethodName)),
  (Jvm.Cond.selects "PieceTraceModel" ({ cls := "PieceTraceModel", name := "hold", desc := "(IZ)V" } : Jvm.MethodName) ({ cls := "PieceTraceModel", name := "hold", desc := "(IZ)V" } : Jvm.MethodName)),
  (Jvm.Cond.methodLink "PieceTraceLaw" (99 : Nat) ({ cls := "PieceTraceModel", name := "scrap", desc := "(I)I" } : Jvm.MethodName)),
  (Jvm.Cond.instanceMethod ({ cls := "PieceTraceModel", name := "scrap", desc := "(I)I" } : Jvm.MethodName)),
  (Jvm.Cond.selects "PieceTraceModel" ({ cls := "PieceTraceModel", name := "scrap", desc := "(I)I" } : Jvm.MethodName) ({ cls := "PieceTraceModel", name := "scrap", desc := "(I)I" } : Jvm.MethodName)),
  (Jvm.Cond.methodLink "PieceTraceLaw" (102 : Nat) ({ cls := "PieceTraceModel", name := "back", desc := "(II)I" } : Jvm.MethodName)),
  (Jvm.Cond.instanceMethod ({ cls := "PieceTraceModel", name := "back", desc := "(II)I" } : Jvm.MethodName)),
  (Jvm.Cond.selects "PieceTraceModel" ({ cls := "PieceTraceModel", name := "back", desc := "(II)I" } : Jvm.MethodName) ({ cls := "PieceTraceModel", name := "back", desc := "(II)I" } : Jvm.MethodName)),
  (Jvm.Cond.constantLong "PieceTraceModel" (97 : Nat) (100 : Int64)),
  (Jvm.Cond.methodLink "PieceTraceLaw" (105 : Nat) ({ cls := "PieceTraceModel", name := "at", desc := "(II)I" } : Jvm.MethodName)),
  (Jvm.Cond.instanceMethod ({ cls := "PieceTraceModel", name := "at", desc := "(II)I" } : Jvm.MethodName)),
  (Jvm.Cond.selects "PieceTraceModel" ({ cls := "PieceTraceModel", name := "at", desc := "(II)I" } : Jvm.MethodName) ({ cls := "PieceTraceModel", name := "at", desc := "(II)I" } : Jvm.MethodName)),
  (Jvm.Cond.methodLink "PieceTraceLaw" (108 : Nat) ({ cls := "PieceTraceModel", name := "origin", desc := "(III)J" } : Jvm.MethodName)),
  (Jvm.Cond.instanceMethod ({ cls := "PieceTraceModel", name := "origin", desc := "(III)J" } : Jvm.MethodName)),
  (Jvm.Cond.selects "PieceTraceModel" ({ cls := "PieceTraceModel", name := "origin", desc := "(III)J" } : Jvm.MethodName) ({ cls := "PieceTraceModel", name := "origin", desc := "(III)J" } : Jvm.MethodName)),
  (Jvm.Cond.methodLink "PieceTraceModel" (111 : Nat) ({ cls := "PieceTraceModel", name := "goBack", desc := "(II)V" } : Jvm.MethodName)),
  (Jvm.Cond.instanceMethod ({ cls := "PieceTraceModel", name := "goBack", desc := "(II)V" } : Jvm.MethodName)),
  (Jvm.Cond.methodLink "PieceTraceModel" (105 : Nat) ({ cls := "PieceTraceModel", name := "lowest", desc := "()V" } : Jvm.MethodName)),
  (Jvm.Cond.instanceMethod ({ cls := "PieceTraceModel", name := "lowest", desc := "()V" } : Jvm.MethodName)),
  (Jvm.Cond.methodLink "PieceTraceLaw" (111 : Nat) ({ cls := "PieceTraceModel", name := "defect", desc := "(II)I" } : Jvm.MethodName)),
  (Jvm.Cond.instanceMethod ({ cls := "PieceTraceModel", name := "defect", desc := "(II)I" } : Jvm.MethodName)),
  (Jvm.Cond.selects "PieceTraceModel" ({ cls := "PieceTraceModel", name := "defect", desc := "(II)I" } : Jvm.MethodName) ({ cls := "PieceTraceModel", name := "defect", desc := "(II)I" } : Jvm.MethodName)),
  (Jvm.Cond.methodLink "PieceTraceLaw" (114 : Nat) ({ cls := "PieceTraceModel", name := "has", desc := "(III)J" } : Jvm.MethodName)),
  (Jvm.Cond.instanceMethod ({ cls := "PieceTraceModel", name := "has", desc := "(III)J" } : Jvm.MethodName)),
  (Jvm.Cond.selects "PieceTraceModel" ({ cls := "PieceTraceModel", name := "has", desc := "(III)J" } : Jvm.MethodName) ({ cls := "PieceTraceModel", name := "has", desc := "(III)J" } : Jvm.MethodName)),
  (Jvm.Cond.methodLink "PieceTraceModel" (126 : Nat) ({ cls := "PieceTraceModel", name := "isDefect", desc := "(I)Z" } : Jvm.MethodName)),
  (Jvm.Cond.instanceMethod ({ cls := "PieceTraceModel", name := "isDefect", desc := "(I)Z" } : Jvm.MethodName)),
  (Jvm.Cond.methodLink "PieceTraceModel" (129 : Nat) ({ cls := "PieceTraceModel", name := "goForward", desc := "(I)V" } : Jvm.MethodName)),
  (Jvm.Cond.instanceMethod ({ cls := "PieceTraceModel", name := "goForward", desc := "(I)V" } : Jvm.MethodName)),
  (Jvm.Cond.methodLink "PieceTraceModel" (121 : Nat) ({ cls := "PieceTraceModel", name := "reaches", desc := "(I)Z" } : Jvm.MethodName)),
  (Jvm.Cond.instanceMethod ({ cls := "PieceTraceModel", name := "reaches", desc := "(I)Z" } : Jvm.MethodName)),
  (Jvm.Cond.methodLink "PieceTraceModel" (118 : Nat) ({ cls := "PieceTraceModel", name := "takes", desc := "(I)Z" } : Jvm.MethodName)),
  (Jvm.Cond.instanceMethod ({ cls := "PieceTraceModel", name := "takes", desc := "(I)Z" } : Jvm.MethodName)),
  (Jvm.Cond.constantLong "PieceTraceModel" (124 : Nat) (-1 : Int64)),
  (Jvm.Cond.methodLink "PieceTraceLaw" (117 : Nat) ({ cls := "PieceTraceModel", name := "recall", desc := "(II)I" } : Jvm.MethodName)),
  (Jvm.Cond.instanceMethod ({ cls := "PieceTraceModel", name := "recall", desc := "(II)I" } : Jvm.MethodName)),
  (Jvm.Cond.selects "PieceTraceModel" ({ cls := "PieceTraceModel", name := "recall", desc := "(II)I" } : Jvm.MethodName) ({ cls := "PieceTraceModel", name := "recall", desc := "(II)I" } : Jvm.MethodName)),
  (Jvm.Cond.methodLink "PieceTraceLaw" (120 : Nat) ({ cls := "PieceTraceModel", name := "told", desc := "(I)J" } : Jvm.MethodName)),
  (Jvm.Cond.instanceMethod ({ cls := "PieceTraceModel", name := "told", desc := "(I)J" } : Jvm.MethodName)),
  (Jvm.Cond.selects "PieceTraceModel" ({ cls := "PieceTraceModel", name := "told", desc := "(I)J" } : Jvm.MethodName) ({ cls := "PieceTraceModel", name := "told", desc := "(I)J" } : Jvm.MethodName)),
  (Jvm.Cond.selects "PieceTrace" ({ cls := "PieceTrace", name := "needRoom", desc := "(I)V" } : Jvm.MethodName) ({ cls := "PieceTrace", name := "needRoom", desc := "(I)V" } : Jvm.MethodName)),
  (Jvm.Cond.selects "PieceTrace" ({ cls := "PieceTrace", name := "addPiece", desc := "(IIII)I" } : Jvm.MethodName) ({ cls := "PieceTrace", name := "addPiece", desc := "(IIII)I" } : Jvm.MethodName)),
  (Jvm.Cond.selects "PieceTrace" ({ cls := "PieceTrace", name := "needPiece", desc := "(I)V" } : Jvm.MethodName) ({ cls := "PieceTrace", name := "needPiece", desc := "(I)V" } : Jvm.MethodName)),
  (Jvm.Cond.selects "PieceTrace" ({ cls := "PieceTrace", name := "isPiece", desc := "(I)Z" } : Jvm.MethodName) ({ cls := "PieceTrace", name := "isPiece", desc := "(I)Z" } : Jvm.MethodName)),
  (Jvm.Cond.selects "PieceTrace" ({ cls := "PieceTrace", name := "needFree", desc := "(I)V" } : Jvm.MethodName) ({ cls := "PieceTrace", name := "needFree", desc := "(I)V" } : Jvm.MethodName)),
  (Jvm.Cond.selects "PieceTrace" ({ cls := "PieceTrace", name := "isLive", desc := "(I)Z" } : Jvm.MethodName) ({ cls := "PieceTrace", name := "isLive", desc := "(I)Z" } : Jvm.MethodName)),
  (Jvm.Cond.selects "PieceTrace" ({ cls := "PieceTrace", name := "walkBack", desc := "(II)I" } : Jvm.MethodName) ({ cls := "PieceTrace", name := "walkBack", desc := "(II)I" } : Jvm.MethodName)),
  (Jvm.Cond.selects "PieceTrace$Place" ({ cls := "PieceTrace$Place", name := "set", desc := "(JJ)V" } : Jvm.MethodName) ({ cls := "PieceTrace$Place", name := "set", desc := "(JJ)V" } : Jvm.MethodName)),
  (Jvm.Cond.selects "PieceTrace" ({ cls := "PieceTrace", name := "stepBack", desc := "(I)I" } : Jvm.MethodName) ({ cls := "PieceTrace", name := "stepBack", desc := "(I)I" } : Jvm.MethodName)),
  (Jvm.Cond.selects "PieceTrace$Place" ({ cls := "PieceTrace$Place", name := "move", desc := "(J)V" } : Jvm.MethodName) ({ cls := "PieceTrace$Place", name := "move", desc := "(J)V" } : Jvm.MethodName)),
  (Jvm.Cond.selects "PieceTrace$Place" ({ cls := "PieceTrace$Place", name := "isBelow", desc := "(J)Z" } : Jvm.MethodName) ({ cls := "PieceTrace$Place", name := "isBelow", desc := "(J)Z" } : Jvm.MethodName)),
  (Jvm.Cond.selects "PieceTrace$Place" ({ cls := "PieceTrace$Place", name := "stretch", desc := "(JJ)V" } : Jvm.MethodName) ({ cls := "PieceTrace$Place", name := "stretch", desc := "(JJ)V" } : Jvm.MethodName)),
  (Jvm.Cond.selects "PieceTrace" ({ cls := "PieceTrace", name := "needDefect", desc := "(I)V" } : Jvm.MethodName) ({ cls := "PieceTrace", name := "needDefect", desc := "(I)V" } : Jvm.MethodName)),
  (Jvm.Cond.selects "PieceTrace" ({ cls := "PieceTrace", name := "follow", desc := "(I)V" } : Jvm.MethodName) ({ cls := "PieceTrace", name := "follow", desc := "(I)V" } : Jvm.MethodName)),
  (Jvm.Cond.selects "PieceTrace" ({ cls := "PieceTrace", name := "stepForward", desc := "(II)Z" } : Jvm.MethodName) ({ cls := "PieceTrace", name := "stepForward", desc := "(II)Z" } : Jvm.MethodName)),
  (Jvm.Cond.selects "PieceTrace" ({ cls := "PieceTrace", name := "takeFound", desc := "(I)Z" } : Jvm.MethodName) ({ cls := "PieceTrace", name := "takeFound", desc := "(I)Z" } : Jvm.MethodName)),
  (Jvm.Cond.selects "PieceTrace" ({ cls := "PieceTrace", name := "liveWeight", desc := "()J" } : Jvm.MethodName) ({ cls := "PieceTrace", name := "liveWeight", desc := "()J" } : Jvm.MethodName)),
  (Jvm.Cond.selects "PieceTraceModel" ({ cls := "PieceTraceModel", name := "throwing", desc := "(ZZZZ)Z" } : Jvm.MethodName) ({ cls := "PieceTraceModel", name := "throwing", desc := "(ZZZZ)Z" } : Jvm.MethodName)),
  (Jvm.Cond.selects "PieceTraceModel" ({ cls := "PieceTraceModel", name := "add", desc := "(IIII)I" } : Jvm.MethodName) ({ cls := "PieceTraceModel", name := "add", desc := "(IIII)I" } : Jvm.MethodName)),
  (Jvm.Cond.selects "PieceTraceModel" ({ cls := "PieceTraceModel", name := "isPiece", desc := "(I)Z" } : Jvm.MethodName) ({ cls := "PieceTraceModel", name := "isPiece", desc := "(I)Z" } : Jvm.MethodName)),
  (Jvm.Cond.selects "PieceTraceModel" ({ cls := "PieceTraceModel", name := "isAtHand", desc := "(I)Z" } : Jvm.MethodName) ({ cls := "PieceTraceModel", name := "isAtHand", desc := "(I)Z" } : Jvm.MethodName)),
  (Jvm.Cond.selects "PieceTraceModel" ({ cls := "PieceTraceModel", name := "goBack", desc := "(II)V" } : Jvm.MethodName) ({ cls := "PieceTraceModel", name := "goBack", desc := "(II)V" } : Jvm.MethodName)),
  (Jvm.Cond.selects "PieceTraceModel" ({ cls := "PieceTraceModel", name := "lowest", desc := "()V" } : Jvm.MethodName) ({ cls := "PieceTraceModel", name := "lowest", desc := "()V" } : Jvm.MethodName)),
  (Jvm.Cond.selects "PieceTraceModel" ({ cls := "PieceTraceModel", name := "isDefect", desc := "(I)Z" } : Jvm.MethodName) ({ cls := "PieceTraceModel", name := "isDefect", desc := "(I)Z" } : Jvm.MethodName)),
  (Jvm.Cond.selects "PieceTraceModel" ({ cls := "PieceTraceModel", name := "goForward", desc := "(I)V" } : Jvm.MethodName) ({ cls := "PieceTraceModel", name := "goForward", desc := "(I)V" } : Jvm.MethodName)),
  (Jvm.Cond.selects "PieceTraceModel" ({ cls := "PieceTraceModel", name := "reaches", desc := "(I)Z" } : Jvm.MethodName) ({ cls := "PieceTraceModel", name := "reaches", desc := "(I)Z" } : Jvm.MethodName)),
  (Jvm.Cond.selects "PieceTraceModel" ({ cls := "PieceTraceModel", name := "takes", desc := "(I)Z" } : Jvm.MethodName) ({ cls := "PieceTraceModel", name := "takes", desc := "(I)Z" } : Jvm.MethodName))]
def gWt_IOB : List Cond := (vx_atS RX9 90 "java/lang/IndexOutOfBoundsException" ["java/lang/RuntimeException", "java/lang/Exception"]).filter goodWord
def gWt_ISE : List Cond := (vx_atS RX9 114 "java/lang/IllegalStateException" ["java/lang/RuntimeException", "java/lang/Exception"]).filter goodWord
def gWt_IAE : List Cond := (vx_atS RX9 179 "java/lang/IllegalArgumentException" ["java/lang/RuntimeException", "java/lang/Exception"]).filter goodWord
def gWt_UOE : List Cond := (vx_atS RX9 99 "java/lang/UnsupportedOperationException" ["java/lang/RuntimeException", "java/lang/Exception"]).filter goodWord
def gW : List Cond := gWc ++ (gWo ++ (gWt_IOB ++ (gWt_ISE ++ (gWt_IAE ++ gWt_UOE))))
theorem gWc_in : ∀ w ∈ gWc, w ∈ gW := fun w h => List.mem_append_left _ h
theorem gWo_in : ∀ w ∈ gWo, w ∈ gW := fun w h => List.mem_append_right _ (List.mem_append_left _ h)
theorem gWt_IOB_in : ∀ w ∈ gWt_IOB, w ∈ gW := fun w h => List.mem_append_right _ (List.mem_append_right _ (List.mem_append_left _ h))
theorem gWt_ISE_in : ∀ w ∈ gWt_ISE, w ∈ gW := fun w h => List.mem_append_right _ (List.mem_append_right _ (List.mem_append_right _ (List.mem_append_left _ h)))
theorem gWt_IAE_in : ∀ w ∈ gWt_IAE, w ∈ gW := fun w h => List.mem_append_right _ (List.mem_append_right _ (List.mem_append_right _ (List.mem_append_right _ (List.mem_append_left _ h))))
theorem gWt_UOE_in : ∀ w ∈ gWt_UOE, w ∈ gW := fun w h => List.mem_append_right _ (List.mem_append_right _ (List.mem_append_right _ (List.mem_append_right _ (List.mem_append_right _ h))))
theorem gW_all : gW.all goodWord = true := by decide +kernel
theorem gW_good : ∀ w ∈ gW, (w.onTables && w.keeps) = true ∨ ∃ ty, w = .arrayClass ty := fun w h => good_of_word (List.all_eq_true.mp gW_all w h)
theorem gGI {c2 : Cond} (hc : c2 ∈ gWc) : GoodIn gW (c2 :: gW) := fun w h => (List.mem_cons.mp h).elim (fun e => by rw [e]; exact ⟨gWc_in _ hc, gW_good _ (gWc_in _ hc)⟩) (fun h => ⟨h, gW_good w h⟩)
theorem gGV {own : String} {idx : Nat} {C : String} {y : MethodName} {c2 : Cond} (h : ∀ w ∈ ([.methodLink own idx y, .instanceMethod y, .selects C y y, .initialized C] : List Cond), w ∈ gWo) (hc : c2 ∈ gWc) : GoodIn gW (wsV own idx C y (c2 :: gW)) := fun w hw => (List.mem_append.mp hw).elim (fun h9 => ⟨gWo_in w (h w h9), gW_good w (gWo_in w (h w h9))⟩) (gGI hc w)
theorem gGS {own : String} {idx : Nat} {y : MethodName} {c2 : Cond} (h : ∀ w ∈ ([.methodLink own idx y, .static y, .initialized y.cls] : List Cond), w ∈ gWo) (hc : c2 ∈ gWc) : GoodIn gW (va_wsS own idx y (c2 :: gW)) := fun w hw => (List.mem_append.mp hw).elim (fun h9 => ⟨gWo_in w (h w h9), gW_good w (gWo_in w (h w h9))⟩) (gGI hc w)
abbrev wsX_init : List Cond := .code yX_init cX_init 1 none :: gW
abbrev wsX_melt : List Cond := .code yX_melt cX_melt 3 (some .int) :: gW
abbrev wsX_cut : List Cond := .code yX_cut cX_cut 8 (some .int) :: gW
abbrev wsX_weld : List Cond := .code yX_weld cX_weld 8 (some .int) :: gW
abbrev wsX_roll : List Cond := .code yX_roll cX_roll 7 (some .int) :: gW
abbrev wsX_slit : List Cond := .code yX_slit cX_slit 7 (some .int) :: gW
abbrev wsX_hold : List Cond := .code yX_hold cX_hold 3 none :: gW
abbrev wsX_scrap : List Cond := .code yX_scrap cX_scrap 2 (some .int) :: gW
abbrev wsX_back : List Cond := .code yX_back cX_back 4 (some .int) :: gW
abbrev wsX_at : List Cond := .code yX_at cX_at 3 (some .int) :: gW
abbrev wsX_origin : List Cond := .code yX_origin cX_origin 5 (some .long) :: gW
abbrev wsX_defect : List Cond := .code yX_defect cX_defect 4 (some .int) :: gW
abbrev wsX_has : List Cond := .code yX_has cX_has 4 (some .long) :: gW
abbrev wsX_recall : List Cond := .code yX_recall cX_recall 5 (some .int) :: gW
abbrev wsX_told : List Cond := .code yX_told cX_told 2 (some .long) :: gW
abbrev wsX_isPiece : List Cond := .code yX_isPiece cX_isPiece 2 (some .boolean) :: gW
abbrev wsX_isLive : List Cond := .code yX_isLive cX_isLive 2 (some .boolean) :: gW
abbrev wsX_needPiece : List Cond := .code yX_needPiece cX_needPiece 2 none :: gW
abbrev wsX_needDefect : List Cond := .code yX_needDefect cX_needDefect 2 none :: gW
abbrev wsX_needPart : List Cond := .code yX_needPart cX_needPart 2 none :: gW
abbrev wsX_needFree : List Cond := .code yX_needFree cX_needFree 2 none :: gW
abbrev wsX_needWithin : List Cond := .code yX_needWithin cX_needWithin 3 none :: gW
abbrev wsX_needRoom : List Cond := .code yX_needRoom cX_needRoom 2 none :: gW
abbrev wsX_addPiece : List Cond := .code yX_addPiece cX_addPiece 6 (some .int) :: gW
abbrev wsX_liveWeight : List Cond := .code yX_liveWeight cX_liveWeight 4 (some .long) :: gW
abbrev wsX_walkBack : List Cond := .code yX_walkBack cX_walkBack 6 (some .int) :: gW
abbrev wsX_stepBack : List Cond := .code yX_stepBack cX_stepBack 2 (some .int) :: gW
abbrev wsX_follow : List Cond := .code yX_follow cX_follow 4 none :: gW
abbrev wsX_stepForward : List Cond := .code yX_stepForward cX_stepForward 4 (some .boolean) :: gW
abbrev wsX_takeFound : List Cond := .code yX_takeFound cX_takeFound 2 (some .boolean) :: gW
abbrev wsM_init : List Cond := .code yM_init cM_init 1 none :: gW
abbrev wsM_thrown : List Cond := .code yM_thrown cM_thrown 1 (some .int) :: gW
abbrev wsM_throwing : List Cond := .code yM_throwing cM_throwing 5 (some .boolean) :: gW
abbrev wsM_in : List Cond := .code yM_in cM_in 3 (some .boolean) :: gW
abbrev wsM_isPiece : List Cond := .code yM_isPiece cM_isPiece 2 (some .boolean) :: gW
abbrev wsM_isAtHand : List Cond := .code yM_isAtHand cM_isAtHand 2 (some .boolean) :: gW
abbrev wsM_add : List Cond := .code yM_add cM_add 5 (some .int) :: gW
abbrev wsM_melt : List Cond := .code yM_melt cM_melt 3 (some .int) :: gW
abbrev wsM_cut : List Cond := .code yM_cut cM_cut 7 (some .int) :: gW
abbrev wsM_weld : List Cond := .code yM_weld cM_weld 6 (some .int) :: gW
abbrev wsM_roll : List Cond := .code yM_roll cM_roll 10 (some .int) :: gW
abbrev wsM_slit : List Cond := .code yM_slit cM_slit 4 (some .int) :: gW
abbrev wsM_hold : List Cond := .code yM_hold cM_hold 4 none :: gW
abbrev wsM_scrap : List Cond := .code yM_scrap cM_scrap 2 (some .int) :: gW
abbrev wsM_back : List Cond := .code yM_back cM_back 5 (some .int) :: gW
abbrev wsM_at : List Cond := .code yM_at cM_at 3 (some .int) :: gW
abbrev wsM_lowest : List Cond := .code yM_lowest cM_lowest 7 none :: gW
abbrev wsM_goBack : List Cond := .code yM_goBack cM_goBack 5 none :: gW
abbrev wsM_origin : List Cond := .code yM_origin cM_origin 5 (some .long) :: gW
abbrev wsM_defect : List Cond := .code yM_defect cM_defect 4 (some .int) :: gW
abbrev wsM_takes : List Cond := .code yM_takes cM_takes 2 (some .boolean) :: gW
abbrev wsM_reaches : List Cond := .code yM_reaches cM_reaches 2 (some .boolean) :: gW
abbrev wsM_goForward : List Cond := .code yM_goForward cM_goForward 4 none :: gW
abbrev wsM_isDefect : List Cond := .code yM_isDefect cM_isDefect 2 (some .boolean) :: gW
abbrev wsM_has : List Cond := .code yM_has cM_has 4 (some .long) :: gW
abbrev wsM_recall : List Cond := .code yM_recall cM_recall 5 (some .int) :: gW
abbrev wsM_told : List Cond := .code yM_told cM_told 5 (some .long) :: gW
abbrev wsP_init : List Cond := .code yP_init cP_init 1 none :: gW
abbrev wsP_set : List Cond := .code yP_set cP_set 5 none :: gW
abbrev wsP_move : List Cond := .code yP_move cP_move 3 none :: gW
abbrev wsP_stretch : List Cond := .code yP_stretch cP_stretch 7 none :: gW
abbrev wsP_isBelow : List Cond := .code yP_isBelow cP_isBelow 3 (some .boolean) :: gW
abbrev wsP_commonDivisor : List Cond := .code yP_commonDivisor cP_commonDivisor 11 (some .long) :: gW
abbrev wsL_melt : List Cond := .codeWith yL_melt cL_melt 5 (some .int) [(0, 10, 13, 13), (0, 10, 17, 15)] :: gW
abbrev wsL_cut : List Cond := .codeWith yL_cut cL_cut 5 (some .int) [(0, 10, 13, 20), (0, 10, 17, 22), (0, 10, 21, 13), (0, 10, 25, 15)] :: gW
abbrev wsL_weld : List Cond := .codeWith yL_weld cL_weld 5 (some .int) [(0, 10, 13, 20), (0, 10, 17, 22), (0, 10, 21, 15)] :: gW
abbrev wsL_roll : List Cond := .codeWith yL_roll cL_roll 6 (some .int) [(0, 12, 15, 20), (0, 12, 19, 22), (0, 12, 23, 13), (0, 12, 27, 15)] :: gW
abbrev wsL_slit : List Cond := .codeWith yL_slit cL_slit 5 (some .int) [(0, 10, 13, 20), (0, 10, 17, 22), (0, 10, 21, 13), (0, 10, 25, 15)] :: gW
abbrev wsL_hold : List Cond := .codeWith yL_hold cL_hold 4 (some .int) [(0, 6, 9, 20), (0, 6, 12, 22)] :: gW
abbrev wsL_scrap : List Cond := .codeWith yL_scrap cL_scrap 4 (some .int) [(0, 9, 12, 20), (0, 9, 15, 22)] :: gW
abbrev wsL_back : List Cond := .codeWith yL_back cL_back 5 (some .int) [(0, 10, 13, 13), (0, 10, 17, 15)] :: gW
abbrev wsL_at : List Cond := .codeWith yL_at cL_at 5 (some .int) [(0, 10, 13, 20)] :: gW
abbrev wsL_origin : List Cond := .codeWith yL_origin cL_origin 6 (some .int) [(0, 11, 14, 20), (0, 11, 18, 13)] :: gW
abbrev wsL_defect : List Cond := .codeWith yL_defect cL_defect 5 (some .int) [(0, 10, 13, 20), (0, 10, 17, 13), (0, 10, 21, 15)] :: gW
abbrev wsL_has : List Cond := .codeWith yL_has cL_has 6 (some .int) [(0, 11, 14, 20)] :: gW
abbrev wsL_recall : List Cond := .codeWith yL_recall cL_recall 5 (some .int) [(0, 10, 13, 20)] :: gW
abbrev wsL_told : List Cond := .codeWith yL_told cL_told 4 (some .int) [(0, 8, 11, 20)] :: gW
theorem iP9 : ∀ w ∈ u_ws RP9 TP9 2, w ∈ gW := fun w h => gWo_in w ((by decide +kernel : ∀ w ∈ u_ws RP9 TP9 2, w ∈ gWo) w h)
theorem iX9 : ∀ w ∈ u_ws RX9 TX9 20, w ∈ gW := fun w h => gWo_in w ((by decide +kernel : ∀ w ∈ u_ws RX9 TX9 20, w ∈ gWo) w h)
theorem iM9 : ∀ w ∈ u_ws RM9 TM9 24, w ∈ gW := fun w h => gWo_in w ((by decide +kernel : ∀ w ∈ u_ws RM9 TM9 24, w ∈ gWo) w h)
def gNW : List Cond := [(Jvm.Cond.methodLinkNest "PieceTrace" (52 : Nat) ({ cls := "PieceTrace$Place", name := "<init>", desc := "()V" } : Jvm.MethodName) "PieceTrace"),
  (Jvm.Cond.fieldLinkNest "PieceTrace" (136 : Nat) "PieceTrace$Place" "upper" "J" "PieceTrace"),
  (Jvm.Cond.fieldLinkNest "PieceTrace" (139 : Nat) "PieceTrace$Place" "lower" "J" "PieceTrace"),
  (Jvm.Cond.castable "java/lang/IllegalArgumentException" "java/lang/IllegalArgumentException"),
  (Jvm.Cond.declares ({ cls := "java/lang/RuntimeException", name := "<init>", desc := "()V" } : Jvm.MethodName)),
  (Jvm.Cond.declares ({ cls := "java/lang/RuntimeException", name := "<init>", desc := "(Ljava/lang/String;)V" } : Jvm.MethodName)),
  (Jvm.Cond.declares ({ cls := "java/lang/Exception", name := "<init>", desc := "()V" } : Jvm.MethodName)),
  (Jvm.Cond.declares ({ cls := "java/lang/Exception", name := "<init>", desc := "(Ljava/lang/String;)V" } : Jvm.MethodName)),
  (Jvm.Cond.declares ({ cls := "java/lang/Throwable", name := "<init>", desc := "()V" } : Jvm.MethodName)),
  (Jvm.Cond.declares ({ cls := "java/lang/Throwable", name := "<init>", desc := "(Ljava/lang/String;)V" } : Jvm.MethodName)),
  (Jvm.Cond.castable "java/lang/UnsupportedOperationException" "java/lang/UnsupportedOperationException"),
  (Jvm.Cond.castable "java/lang/IndexOutOfBoundsException" "java/lang/IndexOutOfBoundsException"),
  (Jvm.Cond.castable "java/lang/IllegalStateException" "java/lang/IllegalStateException"),
  (Jvm.Cond.methodLinkNest "PieceTrace" (182 : Nat) ({ cls := "PieceTrace$Place", name := "set", desc := "(JJ)V" } : Jvm.MethodName) "PieceTrace"),
  (Jvm.Cond.methodLinkNest "PieceTrace" (190 : Nat) ({ cls := "PieceTrace$Place", name := "move", desc := "(J)V" } : Jvm.MethodName) "PieceTrace"),
  (Jvm.Cond.methodLinkNest "PieceTrace" (194 : Nat) ({ cls := "PieceTrace$Place", name := "isBelow", desc := "(J)Z" } : Jvm.MethodName) "PieceTrace"),
  (Jvm.Cond.methodLinkNest "PieceTrace" (198 : Nat) ({ cls := "PieceTrace$Place", name := "stretch", desc := "(JJ)V" } : Jvm.MethodName) "PieceTrace")]
theorem gNW_t : ∀ w ∈ gNW, w.onTables = true := by decide +kernel
theorem gNW_warm {s U : State} (hW : s.WarmedH U.vm) : ∀ w ∈ gNW, va_Nw w s → va_Nw w U := by
  intro w hw
  rcases List.mem_cons.mp hw with rfl | hw
  · exact va_Nw.warmM hW
  rcases List.mem_cons.mp hw with rfl | hw
  · exact va_Nw.warmF hW
  rcases List.mem_cons.mp hw with rfl | hw
  · exact va_Nw.warmF hW
  rcases List.mem_cons.mp hw with rfl | hw
  · exact va_Nw.warmC hW
  rcases List.mem_cons.mp hw with rfl | hw
  · exact va_Nw.warmD hW
  rcases List.mem_cons.mp hw with rfl | hw
  · exact va_Nw.warmD hW
  rcases List.mem_cons.mp hw with rfl | hw
  · exact va_Nw.warmD hW
  rcases List.mem_cons.mp hw with rfl | hw
  · exact va_Nw.warmD hW
  rcases List.mem_cons.mp hw with rfl | hw
  · exact va_Nw.warmD hW
  rcases List.mem_cons.mp hw with rfl | hw
  · exact va_Nw.warmD hW
  rcases List.mem_cons.mp hw with rfl | hw
  · exact va_Nw.warmC hW
  rcases List.mem_cons.mp hw with rfl | hw
  · exact va_Nw.warmC hW
  rcases List.mem_cons.mp hw with rfl | hw
  · exact va_Nw.warmC hW
  rcases List.mem_cons.mp hw with rfl | hw
  · exact va_Nw.warmM hW
  rcases List.mem_cons.mp hw with rfl | hw
  · exact va_Nw.warmM hW
  rcases List.mem_cons.mp hw with rfl | hw
  · exact va_Nw.warmM hW
  rcases List.mem_cons.mp hw with rfl | hw
  · exact va_Nw.warmM hW
  cases hw
def gNC : List (String × String) := [("java/lang/IndexOutOfBoundsException", "java/lang/IllegalStateException"), ("java/lang/IndexOutOfBoundsException", "java/lang/IllegalArgumentException"), ("java/lang/IndexOutOfBoundsException", "java/lang/UnsupportedOperationException"), ("java/lang/IllegalStateException", "java/lang/IndexOutOfBoundsException"), ("java/lang/IllegalStateException", "java/lang/IllegalArgumentException"), ("java/lang/IllegalStateException", "java/lang/UnsupportedOperationException"), ("java/lang/IllegalArgumentException", "java/lang/IndexOutOfBoundsException"), ("java/lang/IllegalArgumentException", "java/lang/IllegalStateException"), ("java/lang/IllegalArgumentException", "java/lang/UnsupportedOperationException"), ("java/lang/UnsupportedOperationException", "java/lang/IndexOutOfBoundsException"), ("java/lang/UnsupportedOperationException", "java/lang/IllegalStateException"), ("java/lang/UnsupportedOperationException", "java/lang/IllegalArgumentException")]
def gSR : List (String × Nat × String) := [(RX9, 177, "a number out of its range"), (RX9, 180, "there is no room for a piece"), (RX9, 167, "no such piece"), (RX9, 173, "the piece is not live, or held"), (RX9, 88, "a piece can't be welded to itself"), (RX9, 97, "the weld would be too long or heavy"), (RX9, 106, "the piece has been rolled three times"), (RX9, 108, "the rolled piece would be too short or long"), (RX9, 112, "the piece is not live, or it is so"), (RX9, 121, "the share of the heap is less than a gram"), (RX9, 127, "no such what"), (RX9, 171, "no such part"), (RX9, 145, "there is no room for a defect"), (RX9, 169, "no such defect"), (RX9, 155, "k is below 0")]
def gBad_IOB : List Cond := [.castable "java/lang/IndexOutOfBoundsException" "java/lang/IndexOutOfBoundsException", .declares ⟨"java/lang/RuntimeException", "<init>", "(Ljava/lang/String;)V"⟩, .declares ⟨"java/lang/Exception", "<init>", "(Ljava/lang/String;)V"⟩, .declares ⟨"java/lang/Throwable", "<init>", "(Ljava/lang/String;)V"⟩]
theorem gBad_IOB_t : ∀ w ∈ gBad_IOB, w.onTables = true := by decide +kernel
theorem gBad_IOB_in : ∀ w ∈ gBad_IOB, w ∈ gNW := by decide +kernel
theorem gF_IOB : Bundle.fit "java/lang/IndexOutOfBoundsException" = true := by decide +kernel
theorem gB9_IOB : ∀ w ∈ (vx_atS RX9 90 "java/lang/IndexOutOfBoundsException" ["java/lang/RuntimeException", "java/lang/Exception"]).filter (fun w => !goodWord w), w ∈ gBad_IOB := by decide +kernel
def gBad_ISE : List Cond := [.castable "java/lang/IllegalStateException" "java/lang/IllegalStateException", .declares ⟨"java/lang/RuntimeException", "<init>", "(Ljava/lang/String;)V"⟩, .declares ⟨"java/lang/Exception", "<init>", "(Ljava/lang/String;)V"⟩, .declares ⟨"java/lang/Throwable", "<init>", "(Ljava/lang/String;)V"⟩]
theorem gBad_ISE_t : ∀ w ∈ gBad_ISE, w.onTables = true := by decide +kernel
theorem gBad_ISE_in : ∀ w ∈ gBad_ISE, w ∈ gNW := by decide +kernel
theorem gF_ISE : Bundle.fit "java/lang/IllegalStateException" = true := by decide +kernel
theorem gB9_ISE : ∀ w ∈ (vx_atS RX9 114 "java/lang/IllegalStateException" ["java/lang/RuntimeException", "java/lang/Exception"]).filter (fun w => !goodWord w), w ∈ gBad_ISE := by decide +kernel
def gBad_IAE : List Cond := [.castable "java/lang/IllegalArgumentException" "java/lang/IllegalArgumentException", .declares ⟨"java/lang/RuntimeException", "<init>", "(Ljava/lang/String;)V"⟩, .declares ⟨"java/lang/Exception", "<init>", "(Ljava/lang/String;)V"⟩, .declares ⟨"java/lang/Throwable", "<init>", "(Ljava/lang/String;)V"⟩]
theorem gBad_IAE_t : ∀ w ∈ gBad_IAE, w.onTables = true := by decide +kernel
theorem gBad_IAE_in : ∀ w ∈ gBad_IAE, w ∈ gNW := by decide +kernel
theorem gF_IAE : Bundle.fit "java/lang/IllegalArgumentException" = true := by decide +kernel
theorem gB9_IAE : ∀ w ∈ (vx_atS RX9 179 "java/lang/IllegalArgumentException" ["java/lang/RuntimeException", "java/lang/Exception"]).filter (fun w => !goodWord w), w ∈ gBad_IAE := by decide +kernel
def gBad_UOE : List Cond := [.castable "java/lang/UnsupportedOperationException" "java/lang/UnsupportedOperationException", .declares ⟨"java/lang/RuntimeException", "<init>", "(Ljava/lang/String;)V"⟩, .declares ⟨"java/lang/Exception", "<init>", "(Ljava/lang/String;)V"⟩, .declares ⟨"java/lang/Throwable", "<init>", "(Ljava/lang/String;)V"⟩]
theorem gBad_UOE_t : ∀ w ∈ gBad_UOE, w.onTables = true := by decide +kernel
theorem gBad_UOE_in : ∀ w ∈ gBad_UOE, w ∈ gNW := by decide +kernel
theorem gF_UOE : Bundle.fit "java/lang/UnsupportedOperationException" = true := by decide +kernel
theorem gB9_UOE : ∀ w ∈ (vx_atS RX9 99 "java/lang/UnsupportedOperationException" ["java/lang/RuntimeException", "java/lang/Exception"]).filter (fun w => !goodWord w), w ∈ gBad_UOE := by decide +kernel
theorem gN_ : ∀ n ∈ ["java/lang/RuntimeException", "java/lang/Exception"], Bundle.fit n = true := by decide +kernel
end
section
theorem dX_init_0 : decode cX_init 0 = .ok (.aload_n 0, 1) := by decide +kernel
theorem dX_init_1 : decode cX_init 1 = .ok (.invokespecial 1, 3) := by decide +kernel
theorem dX_init_4 : decode cX_init 4 = .ok (.aload_n 0, 1) := by decide +kernel
theorem dX_init_5 : decode cX_init 5 = .ok (.bipush 40, 2) := by decide +kernel
theorem dX_init_7 : decode cX_init 7 = .ok (.newarray .int, 2) := by decide +kernel
theorem dX_init_9 : decode cX_init 9 = .ok (.putfield 9, 3) := by decide +kernel
theorem dX_init_12 : decode cX_init 12 = .ok (.aload_n 0, 1) := by decide +kernel
theorem dX_init_13 : decode cX_init 13 = .ok (.bipush 40, 2) := by decide +kernel
theorem dX_init_15 : decode cX_init 15 = .ok (.newarray .int, 2) := by decide +kernel
theorem dX_init_17 : decode cX_init 17 = .ok (.putfield 13, 3) := by decide +kernel
theorem dX_init_20 : decode cX_init 20 = .ok (.aload_n 0, 1) := by decide +kernel
theorem dX_init_21 : decode cX_init 21 = .ok (.bipush 40, 2) := by decide +kernel
theorem dX_init_23 : decode cX_init 23 = .ok (.newarray .int, 2) := by decide +kernel
theorem dX_init_25 : decode cX_init 25 = .ok (.putfield 16, 3) := by decide +kernel
theorem dX_init_28 : decode cX_init 28 = .ok (.aload_n 0, 1) := by decide +kernel
theorem dX_init_29 : decode cX_init 29 = .ok (.bipush 40, 2) := by decide +kernel
theorem dX_init_31 : decode cX_init 31 = .ok (.newarray .int, 2) := by decide +kernel
theorem dX_init_33 : decode cX_init 33 = .ok (.putfield 19, 3) := by decide +kernel
theorem dX_init_36 : decode cX_init 36 = .ok (.aload_n 0, 1) := by decide +kernel
theorem dX_init_37 : decode cX_init 37 = .ok (.bipush 40, 2) := by decide +kernel
theorem dX_init_39 : decode cX_init 39 = .ok (.newarray .int, 2) := by decide +kernel
theorem dX_init_41 : decode cX_init 41 = .ok (.putfield 22, 3) := by decide +kernel
theorem dX_init_44 : decode cX_init 44 = .ok (.aload_n 0, 1) := by decide +kernel
theorem dX_init_45 : decode cX_init 45 = .ok (.bipush 40, 2) := by decide +kernel
theorem dX_init_47 : decode cX_init 47 = .ok (.newarray .int, 2) := by decide +kernel
theorem dX_init_49 : decode cX_init 49 = .ok (.putfield 25, 3) := by decide +kernel
theorem dX_init_52 : decode cX_init 52 = .ok (.aload_n 0, 1) := by decide +kernel
theorem dX_init_53 : decode cX_init 53 = .ok (.bipush 40, 2) := by decide +kernel
theorem dX_init_55 : decode cX_init 55 = .ok (.newarray .int, 2) := by decide +kernel
theorem dX_init_57 : decode cX_init 57 = .ok (.putfield 28, 3) := by decide +kernel
theorem dX_init_60 : decode cX_init 60 = .ok (.aload_n 0, 1) := by decide +kernel
theorem dX_init_61 : decode cX_init 61 = .ok (.bipush 40, 2) := by decide +kernel
theorem dX_init_63 : decode cX_init 63 = .ok (.newarray .int, 2) := by decide +kernel
theorem dX_init_65 : decode cX_init 65 = .ok (.putfield 31, 3) := by decide +kernel
theorem dX_init_68 : decode cX_init 68 = .ok (.aload_n 0, 1) := by decide +kernel
theorem dX_init_69 : decode cX_init 69 = .ok (.bipush 40, 2) := by decide +kernel
theorem dX_init_71 : decode cX_init 71 = .ok (.newarray .int, 2) := by decide +kernel
theorem dX_init_73 : decode cX_init 73 = .ok (.putfield 34, 3) := by decide +kernel
theorem dX_init_76 : decode cX_init 76 = .ok (.aload_n 0, 1) := by decide +kernel
theorem dX_init_77 : decode cX_init 77 = .ok (.bipush 40, 2) := by decide +kernel
theorem dX_init_79 : decode cX_init 79 = .ok (.newarray .int, 2) := by decide +kernel
theorem dX_init_81 : decode cX_init 81 = .ok (.putfield 37, 3) := by decide +kernel
theorem dX_init_84 : decode cX_init 84 = .ok (.aload_n 0, 1) := by decide +kernel
theorem dX_init_85 : decode cX_init 85 = .ok (.bipush 10, 2) := by decide +kernel
theorem dX_init_87 : decode cX_init 87 = .ok (.newarray .int, 2) := by decide +kernel
theorem dX_init_89 : decode cX_init 89 = .ok (.putfield 40, 3) := by decide +kernel
theorem dX_init_92 : decode cX_init 92 = .ok (.aload_n 0, 1) := by decide +kernel
theorem dX_init_93 : decode cX_init 93 = .ok (.bipush 10, 2) := by decide +kernel
theorem dX_init_95 : decode cX_init 95 = .ok (.newarray .long, 2) := by decide +kernel
theorem dX_init_97 : decode cX_init 97 = .ok (.putfield 43, 3) := by decide +kernel
theorem dX_init_100 : decode cX_init 100 = .ok (.aload_n 0, 1) := by decide +kernel
theorem dX_init_101 : decode cX_init 101 = .ok (.bipush 10, 2) := by decide +kernel
theorem dX_init_103 : decode cX_init 103 = .ok (.newarray .long, 2) := by decide +kernel
theorem dX_init_105 : decode cX_init 105 = .ok (.putfield 47, 3) := by decide +kernel
theorem dX_init_108 : decode cX_init 108 = .ok (.aload_n 0, 1) := by decide +kernel
theorem dX_init_109 : decode cX_init 109 = .ok (.new 50, 3) := by decide +kernel
theorem dX_init_112 : decode cX_init 112 = .ok (.dup, 1) := by decide +kernel
theorem dX_init_113 : decode cX_init 113 = .ok (.invokespecial 52, 3) := by decide +kernel
theorem dX_init_116 : decode cX_init 116 = .ok (.putfield 53, 3) := by decide +kernel
theorem dX_init_119 : decode cX_init 119 = .ok (.aload_n 0, 1) := by decide +kernel
theorem dX_init_120 : decode cX_init 120 = .ok (.bipush 40, 2) := by decide +kernel
theorem dX_init_122 : decode cX_init 122 = .ok (.newarray .long, 2) := by decide +kernel
theorem dX_init_124 : decode cX_init 124 = .ok (.putfield 57, 3) := by decide +kernel
theorem dX_init_127 : decode cX_init 127 = .ok (.aload_n 0, 1) := by decide +kernel
theorem dX_init_128 : decode cX_init 128 = .ok (.bipush 40, 2) := by decide +kernel
theorem dX_init_130 : decode cX_init 130 = .ok (.newarray .long, 2) := by decide +kernel
theorem dX_init_132 : decode cX_init 132 = .ok (.putfield 60, 3) := by decide +kernel
theorem dX_init_135 : decode cX_init 135 = .ok (.return_, 1) := by decide +kernel
theorem dX_melt_0 : decode cX_melt 0 = .ok (.iload_n 1, 1) := by decide +kernel
theorem dX_melt_1 : decode cX_melt 1 = .ok (.iconst 1, 1) := by decide +kernel
theorem dX_melt_2 : decode cX_melt 2 = .ok (.ldc 63, 2) := by decide +kernel
theorem dX_melt_4 : decode cX_melt 4 = .ok (.invokestatic 64, 3) := by decide +kernel
theorem dX_melt_7 : decode cX_melt 7 = .ok (.iload_n 2, 1) := by decide +kernel
theorem dX_melt_8 : decode cX_melt 8 = .ok (.iconst 1, 1) := by decide +kernel
theorem dX_melt_9 : decode cX_melt 9 = .ok (.ldc 63, 2) := by decide +kernel
theorem dX_melt_11 : decode cX_melt 11 = .ok (.invokestatic 64, 3) := by decide +kernel
theorem dX_melt_14 : decode cX_melt 14 = .ok (.aload_n 0, 1) := by decide +kernel
theorem dX_melt_15 : decode cX_melt 15 = .ok (.iconst 1, 1) := by decide +kernel
theorem dX_melt_16 : decode cX_melt 16 = .ok (.invokevirtual 68, 3) := by decide +kernel
theorem dX_melt_19 : decode cX_melt 19 = .ok (.aload_n 0, 1) := by decide +kernel
theorem dX_melt_20 : decode cX_melt 20 = .ok (.dup, 1) := by decide +kernel
theorem dX_melt_21 : decode cX_melt 21 = .ok (.getfield 72, 3) := by decide +kernel
theorem dX_melt_24 : decode cX_melt 24 = .ok (.iload_n 1, 1) := by decide +kernel
theorem dX_melt_25 : decode cX_melt 25 = .ok (.i2l, 1) := by decide +kernel
theorem dX_melt_26 : decode cX_melt 26 = .ok (.ladd, 1) := by decide +kernel
theorem dX_melt_27 : decode cX_melt 27 = .ok (.putfield 72, 3) := by decide +kernel
theorem dX_melt_30 : decode cX_melt 30 = .ok (.aload_n 0, 1) := by decide +kernel
theorem dX_melt_31 : decode cX_melt 31 = .ok (.iconst 0, 1) := by decide +kernel
theorem dX_melt_32 : decode cX_melt 32 = .ok (.iconst (-1), 1) := by decide +kernel
theorem dX_melt_33 : decode cX_melt 33 = .ok (.iload_n 1, 1) := by decide +kernel
theorem dX_melt_34 : decode cX_melt 34 = .ok (.iload_n 2, 1) := by decide +kernel
theorem dX_melt_35 : decode cX_melt 35 = .ok (.invokevirtual 76, 3) := by decide +kernel
theorem dX_melt_38 : decode cX_melt 38 = .ok (.ireturn, 1) := by decide +kernel
theorem dX_cut_0 : decode cX_cut 0 = .ok (.aload_n 0, 1) := by decide +kernel
theorem dX_cut_1 : decode cX_cut 1 = .ok (.iload_n 1, 1) := by decide +kernel
theorem dX_cut_2 : decode cX_cut 2 = .ok (.invokevirtual 80, 3) := by decide +kernel
theorem dX_cut_5 : decode cX_cut 5 = .ok (.aload_n 0, 1) := by decide +kernel
theorem dX_cut_6 : decode cX_cut 6 = .ok (.iload_n 1, 1) := by decide +kernel
theorem dX_cut_7 : decode cX_cut 7 = .ok (.invokevirtual 83, 3) := by decide +kernel
theorem dX_cut_10 : decode cX_cut 10 = .ok (.aload_n 0, 1) := by decide +kernel
theorem dX_cut_11 : decode cX_cut 11 = .ok (.getfield 16, 3) := by decide +kernel
theorem dX_cut_14 : decode cX_cut 14 = .ok (.iload_n 1, 1) := by decide +kernel
theorem dX_cut_15 : decode cX_cut 15 = .ok (.iaload, 1) := by decide +kernel
theorem dX_cut_16 : decode cX_cut 16 = .ok (.istore_n 3, 1) := by decide +kernel
theorem dX_cut_17 : decode cX_cut 17 = .ok (.iload_n 2, 1) := by decide +kernel
theorem dX_cut_18 : decode cX_cut 18 = .ok (.iconst 1, 1) := by decide +kernel
theorem dX_cut_19 : decode cX_cut 19 = .ok (.iload_n 3, 1) := by decide +kernel
theorem dX_cut_20 : decode cX_cut 20 = .ok (.iconst 1, 1) := by decide +kernel
theorem dX_cut_21 : decode cX_cut 21 = .ok (.isub, 1) := by decide +kernel
theorem dX_cut_22 : decode cX_cut 22 = .ok (.invokestatic 64, 3) := by decide +kernel
theorem dX_cut_25 : decode cX_cut 25 = .ok (.aload_n 0, 1) := by decide +kernel
theorem dX_cut_26 : decode cX_cut 26 = .ok (.iconst 2, 1) := by decide +kernel
theorem dX_cut_27 : decode cX_cut 27 = .ok (.invokevirtual 68, 3) := by decide +kernel
theorem dX_cut_30 : decode cX_cut 30 = .ok (.aload_n 0, 1) := by decide +kernel
theorem dX_cut_31 : decode cX_cut 31 = .ok (.getfield 13, 3) := by decide +kernel
theorem dX_cut_34 : decode cX_cut 34 = .ok (.iload_n 1, 1) := by decide +kernel
theorem dX_cut_35 : decode cX_cut 35 = .ok (.iaload, 1) := by decide +kernel
theorem dX_cut_36 : decode cX_cut 36 = .ok (.istore 4, 2) := by decide +kernel
theorem dX_cut_38 : decode cX_cut 38 = .ok (.iload 4, 2) := by decide +kernel
theorem dX_cut_40 : decode cX_cut 40 = .ok (.i2l, 1) := by decide +kernel
theorem dX_cut_41 : decode cX_cut 41 = .ok (.iload_n 2, 1) := by decide +kernel
theorem dX_cut_42 : decode cX_cut 42 = .ok (.i2l, 1) := by decide +kernel
theorem dX_cut_43 : decode cX_cut 43 = .ok (.lmul, 1) := by decide +kernel
theorem dX_cut_44 : decode cX_cut 44 = .ok (.iload_n 3, 1) := by decide +kernel
theorem dX_cut_45 : decode cX_cut 45 = .ok (.i2l, 1) := by decide +kernel
theorem dX_cut_46 : decode cX_cut 46 = .ok (.ldiv, 1) := by decide +kernel
theorem dX_cut_47 : decode cX_cut 47 = .ok (.l2i, 1) := by decide +kernel
theorem dX_cut_48 : decode cX_cut 48 = .ok (.istore 5, 2) := by decide +kernel
theorem dX_cut_50 : decode cX_cut 50 = .ok (.aload_n 0, 1) := by decide +kernel
theorem dX_cut_51 : decode cX_cut 51 = .ok (.getfield 19, 3) := by decide +kernel
theorem dX_cut_54 : decode cX_cut 54 = .ok (.iload_n 1, 1) := by decide +kernel
theorem dX_cut_55 : decode cX_cut 55 = .ok (.iconst 1, 1) := by decide +kernel
theorem dX_cut_56 : decode cX_cut 56 = .ok (.iastore, 1) := by decide +kernel
theorem dX_cut_57 : decode cX_cut 57 = .ok (.aload_n 0, 1) := by decide +kernel
theorem dX_cut_58 : decode cX_cut 58 = .ok (.iconst 1, 1) := by decide +kernel
theorem dX_cut_59 : decode cX_cut 59 = .ok (.iload_n 1, 1) := by decide +kernel
theorem dX_cut_60 : decode cX_cut 60 = .ok (.iload 5, 2) := by decide +kernel
theorem dX_cut_62 : decode cX_cut 62 = .ok (.iload_n 2, 1) := by decide +kernel
theorem dX_cut_63 : decode cX_cut 63 = .ok (.invokevirtual 76, 3) := by decide +kernel
theorem dX_cut_66 : decode cX_cut 66 = .ok (.istore 6, 2) := by decide +kernel
theorem dX_cut_68 : decode cX_cut 68 = .ok (.aload_n 0, 1) := by decide +kernel
theorem dX_cut_69 : decode cX_cut 69 = .ok (.iconst 2, 1) := by decide +kernel
theorem dX_cut_70 : decode cX_cut 70 = .ok (.iload_n 1, 1) := by decide +kernel
theorem dX_cut_71 : decode cX_cut 71 = .ok (.iload 4, 2) := by decide +kernel
theorem dX_cut_73 : decode cX_cut 73 = .ok (.iload 5, 2) := by decide +kernel
theorem dX_cut_75 : decode cX_cut 75 = .ok (.isub, 1) := by decide +kernel
theorem dX_cut_76 : decode cX_cut 76 = .ok (.iload_n 3, 1) := by decide +kernel
theorem dX_cut_77 : decode cX_cut 77 = .ok (.iload_n 2, 1) := by decide +kernel
theorem dX_cut_78 : decode cX_cut 78 = .ok (.isub, 1) := by decide +kernel
theorem dX_cut_79 : decode cX_cut 79 = .ok (.invokevirtual 76, 3) := by decide +kernel
theorem dX_cut_82 : decode cX_cut 82 = .ok (.istore 7, 2) := by decide +kernel
theorem dX_cut_84 : decode cX_cut 84 = .ok (.aload_n 0, 1) := by decide +kernel
theorem dX_cut_85 : decode cX_cut 85 = .ok (.getfield 31, 3) := by decide +kernel
theorem dX_cut_88 : decode cX_cut 88 = .ok (.iload 6, 2) := by decide +kernel
theorem dX_cut_90 : decode cX_cut 90 = .ok (.iload_n 2, 1) := by decide +kernel
theorem dX_cut_91 : decode cX_cut 91 = .ok (.iastore, 1) := by decide +kernel
theorem dX_cut_92 : decode cX_cut 92 = .ok (.aload_n 0, 1) := by decide +kernel
theorem dX_cut_93 : decode cX_cut 93 = .ok (.getfield 31, 3) := by decide +kernel
theorem dX_cut_96 : decode cX_cut 96 = .ok (.iload 7, 2) := by decide +kernel
theorem dX_cut_98 : decode cX_cut 98 = .ok (.iload_n 2, 1) := by decide +kernel
theorem dX_cut_99 : decode cX_cut 99 = .ok (.iastore, 1) := by decide +kernel
theorem dX_cut_100 : decode cX_cut 100 = .ok (.iload 6, 2) := by decide +kernel
theorem dX_cut_102 : decode cX_cut 102 = .ok (.ireturn, 1) := by decide +kernel
theorem dX_weld_0 : decode cX_weld 0 = .ok (.aload_n 0, 1) := by decide +kernel
theorem dX_weld_1 : decode cX_weld 1 = .ok (.iload_n 1, 1) := by decide +kernel
theorem dX_weld_2 : decode cX_weld 2 = .ok (.invokevirtual 80, 3) := by decide +kernel
theorem dX_weld_5 : decode cX_weld 5 = .ok (.aload_n 0, 1) := by decide +kernel
theorem dX_weld_6 : decode cX_weld 6 = .ok (.iload_n 2, 1) := by decide +kernel
theorem dX_weld_7 : decode cX_weld 7 = .ok (.invokevirtual 80, 3) := by decide +kernel
theorem dX_weld_10 : decode cX_weld 10 = .ok (.iload_n 1, 1) := by decide +kernel
theorem dX_weld_11 : decode cX_weld 11 = .ok (.iload_n 2, 1) := by decide +kernel
theorem dX_weld_12 : decode cX_weld 12 = .ok (.if_icmp .ne 13, 3) := by decide +kernel
theorem dX_weld_15 : decode cX_weld 15 = .ok (.new 86, 3) := by decide +kernel
theorem dX_weld_18 : decode cX_weld 18 = .ok (.dup, 1) := by decide +kernel
theorem dX_weld_19 : decode cX_weld 19 = .ok (.ldc 88, 2) := by decide +kernel
theorem dX_weld_21 : decode cX_weld 21 = .ok (.invokespecial 90, 3) := by decide +kernel
theorem dX_weld_24 : decode cX_weld 24 = .ok (.athrow, 1) := by decide +kernel
theorem dX_weld_25 : decode cX_weld 25 = .ok (.aload_n 0, 1) := by decide +kernel
theorem dX_weld_26 : decode cX_weld 26 = .ok (.iload_n 1, 1) := by decide +kernel
theorem dX_weld_27 : decode cX_weld 27 = .ok (.invokevirtual 83, 3) := by decide +kernel
theorem dX_weld_30 : decode cX_weld 30 = .ok (.aload_n 0, 1) := by decide +kernel
theorem dX_weld_31 : decode cX_weld 31 = .ok (.iload_n 2, 1) := by decide +kernel
theorem dX_weld_32 : decode cX_weld 32 = .ok (.invokevirtual 83, 3) := by decide +kernel
theorem dX_weld_35 : decode cX_weld 35 = .ok (.aload_n 0, 1) := by decide +kernel
theorem dX_weld_36 : decode cX_weld 36 = .ok (.iconst 1, 1) := by decide +kernel
theorem dX_weld_37 : decode cX_weld 37 = .ok (.invokevirtual 68, 3) := by decide +kernel
theorem dX_weld_40 : decode cX_weld 40 = .ok (.aload_n 0, 1) := by decide +kernel
theorem dX_weld_41 : decode cX_weld 41 = .ok (.getfield 13, 3) := by decide +kernel
theorem dX_weld_44 : decode cX_weld 44 = .ok (.iload_n 1, 1) := by decide +kernel
theorem dX_weld_45 : decode cX_weld 45 = .ok (.iaload, 1) := by decide +kernel
theorem dX_weld_46 : decode cX_weld 46 = .ok (.i2l, 1) := by decide +kernel
theorem dX_weld_47 : decode cX_weld 47 = .ok (.aload_n 0, 1) := by decide +kernel
theorem dX_weld_48 : decode cX_weld 48 = .ok (.getfield 13, 3) := by decide +kernel
theorem dX_weld_51 : decode cX_weld 51 = .ok (.iload_n 2, 1) := by decide +kernel
theorem dX_weld_52 : decode cX_weld 52 = .ok (.iaload, 1) := by decide +kernel
theorem dX_weld_53 : decode cX_weld 53 = .ok (.i2l, 1) := by decide +kernel
theorem dX_weld_54 : decode cX_weld 54 = .ok (.ladd, 1) := by decide +kernel
theorem dX_weld_55 : decode cX_weld 55 = .ok (.lstore_n 3, 1) := by decide +kernel
theorem dX_weld_56 : decode cX_weld 56 = .ok (.aload_n 0, 1) := by decide +kernel
theorem dX_weld_57 : decode cX_weld 57 = .ok (.getfield 16, 3) := by decide +kernel
theorem dX_weld_60 : decode cX_weld 60 = .ok (.iload_n 1, 1) := by decide +kernel
theorem dX_weld_61 : decode cX_weld 61 = .ok (.iaload, 1) := by decide +kernel
theorem dX_weld_62 : decode cX_weld 62 = .ok (.i2l, 1) := by decide +kernel
theorem dX_weld_63 : decode cX_weld 63 = .ok (.aload_n 0, 1) := by decide +kernel
theorem dX_weld_64 : decode cX_weld 64 = .ok (.getfield 16, 3) := by decide +kernel
theorem dX_weld_67 : decode cX_weld 67 = .ok (.iload_n 2, 1) := by decide +kernel
theorem dX_weld_68 : decode cX_weld 68 = .ok (.iaload, 1) := by decide +kernel
theorem dX_weld_69 : decode cX_weld 69 = .ok (.i2l, 1) := by decide +kernel
theorem dX_weld_70 : decode cX_weld 70 = .ok (.ladd, 1) := by decide +kernel
theorem dX_weld_71 : decode cX_weld 71 = .ok (.lstore 5, 2) := by decide +kernel
theorem dX_weld_73 : decode cX_weld 73 = .ok (.lload_n 3, 1) := by decide +kernel
theorem dX_weld_74 : decode cX_weld 74 = .ok (.ldc2_w 93, 3) := by decide +kernel
theorem dX_weld_77 : decode cX_weld 77 = .ok (.lcmp, 1) := by decide +kernel
theorem dX_weld_78 : decode cX_weld 78 = .ok (.ifCond .gt 12, 3) := by decide +kernel
theorem dX_weld_81 : decode cX_weld 81 = .ok (.lload 5, 2) := by decide +kernel
theorem dX_weld_83 : decode cX_weld 83 = .ok (.ldc2_w 93, 3) := by decide +kernel
theorem dX_weld_86 : decode cX_weld 86 = .ok (.lcmp, 1) := by decide +kernel
theorem dX_weld_87 : decode cX_weld 87 = .ok (.ifCond .le 13, 3) := by decide +kernel
theorem dX_weld_90 : decode cX_weld 90 = .ok (.new 95, 3) := by decide +kernel
theorem dX_weld_93 : decode cX_weld 93 = .ok (.dup, 1) := by decide +kernel
theorem dX_weld_94 : decode cX_weld 94 = .ok (.ldc 97, 2) := by decide +kernel
theorem dX_weld_96 : decode cX_weld 96 = .ok (.invokespecial 99, 3) := by decide +kernel
theorem dX_weld_99 : decode cX_weld 99 = .ok (.athrow, 1) := by decide +kernel
theorem dX_weld_100 : decode cX_weld 100 = .ok (.aload_n 0, 1) := by decide +kernel
theorem dX_weld_101 : decode cX_weld 101 = .ok (.getfield 19, 3) := by decide +kernel
theorem dX_weld_104 : decode cX_weld 104 = .ok (.iload_n 1, 1) := by decide +kernel
theorem dX_weld_105 : decode cX_weld 105 = .ok (.iconst 1, 1) := by decide +kernel
theorem dX_weld_106 : decode cX_weld 106 = .ok (.iastore, 1) := by decide +kernel
theorem dX_weld_107 : decode cX_weld 107 = .ok (.aload_n 0, 1) := by decide +kernel
theorem dX_weld_108 : decode cX_weld 108 = .ok (.getfield 19, 3) := by decide +kernel
theorem dX_weld_111 : decode cX_weld 111 = .ok (.iload_n 2, 1) := by decide +kernel
theorem dX_weld_112 : decode cX_weld 112 = .ok (.iconst 1, 1) := by decide +kernel
theorem dX_weld_113 : decode cX_weld 113 = .ok (.iastore, 1) := by decide +kernel
theorem dX_weld_114 : decode cX_weld 114 = .ok (.aload_n 0, 1) := by decide +kernel
theorem dX_weld_115 : decode cX_weld 115 = .ok (.iconst 3, 1) := by decide +kernel
theorem dX_weld_116 : decode cX_weld 116 = .ok (.iload_n 1, 1) := by decide +kernel
theorem dX_weld_117 : decode cX_weld 117 = .ok (.lload_n 3, 1) := by decide +kernel
theorem dX_weld_118 : decode cX_weld 118 = .ok (.l2i, 1) := by decide +kernel
theorem dX_weld_119 : decode cX_weld 119 = .ok (.lload 5, 2) := by decide +kernel
theorem dX_weld_121 : decode cX_weld 121 = .ok (.l2i, 1) := by decide +kernel
theorem dX_weld_122 : decode cX_weld 122 = .ok (.invokevirtual 76, 3) := by decide +kernel
theorem dX_weld_125 : decode cX_weld 125 = .ok (.istore 7, 2) := by decide +kernel
theorem dX_weld_127 : decode cX_weld 127 = .ok (.aload_n 0, 1) := by decide +kernel
theorem dX_weld_128 : decode cX_weld 128 = .ok (.getfield 25, 3) := by decide +kernel
theorem dX_weld_131 : decode cX_weld 131 = .ok (.iload 7, 2) := by decide +kernel
theorem dX_weld_133 : decode cX_weld 133 = .ok (.iload_n 2, 1) := by decide +kernel
theorem dX_weld_134 : decode cX_weld 134 = .ok (.iastore, 1) := by decide +kernel
theorem dX_weld_135 : decode cX_weld 135 = .ok (.aload_n 0, 1) := by decide +kernel
theorem dX_weld_136 : decode cX_weld 136 = .ok (.getfield 31, 3) := by decide +kernel
theorem dX_weld_139 : decode cX_weld 139 = .ok (.iload 7, 2) := by decide +kernel
theorem dX_weld_141 : decode cX_weld 141 = .ok (.aload_n 0, 1) := by decide +kernel
theorem dX_weld_142 : decode cX_weld 142 = .ok (.getfield 16, 3) := by decide +kernel
theorem dX_weld_145 : decode cX_weld 145 = .ok (.iload_n 1, 1) := by decide +kernel
theorem dX_weld_146 : decode cX_weld 146 = .ok (.iaload, 1) := by decide +kernel
theorem dX_weld_147 : decode cX_weld 147 = .ok (.iastore, 1) := by decide +kernel
theorem dX_weld_148 : decode cX_weld 148 = .ok (.aload_n 0, 1) := by decide +kernel
theorem dX_weld_149 : decode cX_weld 149 = .ok (.getfield 28, 3) := by decide +kernel
theorem dX_weld_152 : decode cX_weld 152 = .ok (.iload 7, 2) := by decide +kernel
theorem dX_weld_154 : decode cX_weld 154 = .ok (.aload_n 0, 1) := by decide +kernel
theorem dX_weld_155 : decode cX_weld 155 = .ok (.getfield 28, 3) := by decide +kernel
theorem dX_weld_158 : decode cX_weld 158 = .ok (.iload_n 1, 1) := by decide +kernel
theorem dX_weld_159 : decode cX_weld 159 = .ok (.iaload, 1) := by decide +kernel
theorem dX_weld_160 : decode cX_weld 160 = .ok (.aload_n 0, 1) := by decide +kernel
theorem dX_weld_161 : decode cX_weld 161 = .ok (.getfield 28, 3) := by decide +kernel
theorem dX_weld_164 : decode cX_weld 164 = .ok (.iload_n 2, 1) := by decide +kernel
theorem dX_weld_165 : decode cX_weld 165 = .ok (.iaload, 1) := by decide +kernel
theorem dX_weld_166 : decode cX_weld 166 = .ok (.invokestatic 100, 3) := by decide +kernel
theorem dX_weld_169 : decode cX_weld 169 = .ok (.iastore, 1) := by decide +kernel
theorem dX_weld_170 : decode cX_weld 170 = .ok (.iload 7, 2) := by decide +kernel
theorem dX_weld_172 : decode cX_weld 172 = .ok (.ireturn, 1) := by decide +kernel
theorem dX_roll_0 : decode cX_roll 0 = .ok (.aload_n 0, 1) := by decide +kernel
theorem dX_roll_1 : decode cX_roll 1 = .ok (.iload_n 1, 1) := by decide +kernel
theorem dX_roll_2 : decode cX_roll 2 = .ok (.invokevirtual 80, 3) := by decide +kernel
theorem dX_roll_5 : decode cX_roll 5 = .ok (.aload_n 0, 1) := by decide +kernel
theorem dX_roll_6 : decode cX_roll 6 = .ok (.iload_n 1, 1) := by decide +kernel
theorem dX_roll_7 : decode cX_roll 7 = .ok (.invokevirtual 83, 3) := by decide +kernel
theorem dX_roll_10 : decode cX_roll 10 = .ok (.iload_n 2, 1) := by decide +kernel
theorem dX_roll_11 : decode cX_roll 11 = .ok (.iconst 1, 1) := by decide +kernel
theorem dX_roll_12 : decode cX_roll 12 = .ok (.bipush 20, 2) := by decide +kernel
theorem dX_roll_14 : decode cX_roll 14 = .ok (.invokestatic 64, 3) := by decide +kernel
theorem dX_roll_17 : decode cX_roll 17 = .ok (.iload_n 3, 1) := by decide +kernel
theorem dX_roll_18 : decode cX_roll 18 = .ok (.iconst 1, 1) := by decide +kernel
theorem dX_roll_19 : decode cX_roll 19 = .ok (.bipush 20, 2) := by decide +kernel
theorem dX_roll_21 : decode cX_roll 21 = .ok (.invokestatic 64, 3) := by decide +kernel
theorem dX_roll_24 : decode cX_roll 24 = .ok (.aload_n 0, 1) := by decide +kernel
theorem dX_roll_25 : decode cX_roll 25 = .ok (.iconst 1, 1) := by decide +kernel
theorem dX_roll_26 : decode cX_roll 26 = .ok (.invokevirtual 68, 3) := by decide +kernel
theorem dX_roll_29 : decode cX_roll 29 = .ok (.aload_n 0, 1) := by decide +kernel
theorem dX_roll_30 : decode cX_roll 30 = .ok (.getfield 28, 3) := by decide +kernel
theorem dX_roll_33 : decode cX_roll 33 = .ok (.iload_n 1, 1) := by decide +kernel
theorem dX_roll_34 : decode cX_roll 34 = .ok (.iaload, 1) := by decide +kernel
theorem dX_roll_35 : decode cX_roll 35 = .ok (.iconst 3, 1) := by decide +kernel
theorem dX_roll_36 : decode cX_roll 36 = .ok (.if_icmp .lt 13, 3) := by decide +kernel
theorem dX_roll_39 : decode cX_roll 39 = .ok (.new 95, 3) := by decide +kernel
theorem dX_roll_42 : decode cX_roll 42 = .ok (.dup, 1) := by decide +kernel
theorem dX_roll_43 : decode cX_roll 43 = .ok (.ldc 106, 2) := by decide +kernel
theorem dX_roll_45 : decode cX_roll 45 = .ok (.invokespecial 99, 3) := by decide +kernel
theorem dX_roll_48 : decode cX_roll 48 = .ok (.athrow, 1) := by decide +kernel
theorem dX_roll_49 : decode cX_roll 49 = .ok (.aload_n 0, 1) := by decide +kernel
theorem dX_roll_50 : decode cX_roll 50 = .ok (.getfield 16, 3) := by decide +kernel
theorem dX_roll_53 : decode cX_roll 53 = .ok (.iload_n 1, 1) := by decide +kernel
theorem dX_roll_54 : decode cX_roll 54 = .ok (.iaload, 1) := by decide +kernel
theorem dX_roll_55 : decode cX_roll 55 = .ok (.i2l, 1) := by decide +kernel
theorem dX_roll_56 : decode cX_roll 56 = .ok (.iload_n 2, 1) := by decide +kernel
theorem dX_roll_57 : decode cX_roll 57 = .ok (.i2l, 1) := by decide +kernel
theorem dX_roll_58 : decode cX_roll 58 = .ok (.lmul, 1) := by decide +kernel
theorem dX_roll_59 : decode cX_roll 59 = .ok (.iload_n 3, 1) := by decide +kernel
theorem dX_roll_60 : decode cX_roll 60 = .ok (.i2l, 1) := by decide +kernel
theorem dX_roll_61 : decode cX_roll 61 = .ok (.ldiv, 1) := by decide +kernel
theorem dX_roll_62 : decode cX_roll 62 = .ok (.lstore 4, 2) := by decide +kernel
theorem dX_roll_64 : decode cX_roll 64 = .ok (.lload 4, 2) := by decide +kernel
theorem dX_roll_66 : decode cX_roll 66 = .ok (.lconst 1, 1) := by decide +kernel
theorem dX_roll_67 : decode cX_roll 67 = .ok (.lcmp, 1) := by decide +kernel
theorem dX_roll_68 : decode cX_roll 68 = .ok (.ifCond .lt 12, 3) := by decide +kernel
theorem dX_roll_71 : decode cX_roll 71 = .ok (.lload 4, 2) := by decide +kernel
theorem dX_roll_73 : decode cX_roll 73 = .ok (.ldc2_w 93, 3) := by decide +kernel
theorem dX_roll_76 : decode cX_roll 76 = .ok (.lcmp, 1) := by decide +kernel
theorem dX_roll_77 : decode cX_roll 77 = .ok (.ifCond .le 13, 3) := by decide +kernel
theorem dX_roll_80 : decode cX_roll 80 = .ok (.new 95, 3) := by decide +kernel
theorem dX_roll_83 : decode cX_roll 83 = .ok (.dup, 1) := by decide +kernel
theorem dX_roll_84 : decode cX_roll 84 = .ok (.ldc 108, 2) := by decide +kernel
theorem dX_roll_86 : decode cX_roll 86 = .ok (.invokespecial 99, 3) := by decide +kernel
theorem dX_roll_89 : decode cX_roll 89 = .ok (.athrow, 1) := by decide +kernel
theorem dX_roll_90 : decode cX_roll 90 = .ok (.aload_n 0, 1) := by decide +kernel
theorem dX_roll_91 : decode cX_roll 91 = .ok (.getfield 19, 3) := by decide +kernel
theorem dX_roll_94 : decode cX_roll 94 = .ok (.iload_n 1, 1) := by decide +kernel
theorem dX_roll_95 : decode cX_roll 95 = .ok (.iconst 1, 1) := by decide +kernel
theorem dX_roll_96 : decode cX_roll 96 = .ok (.iastore, 1) := by decide +kernel
theorem dX_roll_97 : decode cX_roll 97 = .ok (.aload_n 0, 1) := by decide +kernel
theorem dX_roll_98 : decode cX_roll 98 = .ok (.iconst 4, 1) := by decide +kernel
theorem dX_roll_99 : decode cX_roll 99 = .ok (.iload_n 1, 1) := by decide +kernel
theorem dX_roll_100 : decode cX_roll 100 = .ok (.aload_n 0, 1) := by decide +kernel
theorem dX_roll_101 : decode cX_roll 101 = .ok (.getfield 13, 3) := by decide +kernel
theorem dX_roll_104 : decode cX_roll 104 = .ok (.iload_n 1, 1) := by decide +kernel
theorem dX_roll_105 : decode cX_roll 105 = .ok (.iaload, 1) := by decide +kernel
theorem dX_roll_106 : decode cX_roll 106 = .ok (.lload 4, 2) := by decide +kernel
theorem dX_roll_108 : decode cX_roll 108 = .ok (.l2i, 1) := by decide +kernel
theorem dX_roll_109 : decode cX_roll 109 = .ok (.invokevirtual 76, 3) := by decide +kernel
theorem dX_roll_112 : decode cX_roll 112 = .ok (.istore 6, 2) := by decide +kernel
theorem dX_roll_114 : decode cX_roll 114 = .ok (.aload_n 0, 1) := by decide +kernel
theorem dX_roll_115 : decode cX_roll 115 = .ok (.getfield 34, 3) := by decide +kernel
theorem dX_roll_118 : decode cX_roll 118 = .ok (.iload 6, 2) := by decide +kernel
theorem dX_roll_120 : decode cX_roll 120 = .ok (.iload_n 2, 1) := by decide +kernel
theorem dX_roll_121 : decode cX_roll 121 = .ok (.iastore, 1) := by decide +kernel
theorem dX_roll_122 : decode cX_roll 122 = .ok (.aload_n 0, 1) := by decide +kernel
theorem dX_roll_123 : decode cX_roll 123 = .ok (.getfield 37, 3) := by decide +kernel
theorem dX_roll_126 : decode cX_roll 126 = .ok (.iload 6, 2) := by decide +kernel
theorem dX_roll_128 : decode cX_roll 128 = .ok (.iload_n 3, 1) := by decide +kernel
theorem dX_roll_129 : decode cX_roll 129 = .ok (.iastore, 1) := by decide +kernel
theorem dX_roll_130 : decode cX_roll 130 = .ok (.aload_n 0, 1) := by decide +kernel
theorem dX_roll_131 : decode cX_roll 131 = .ok (.getfield 28, 3) := by decide +kernel
theorem dX_roll_134 : decode cX_roll 134 = .ok (.iload 6, 2) := by decide +kernel
theorem dX_roll_136 : decode cX_roll 136 = .ok (.aload_n 0, 1) := by decide +kernel
theorem dX_roll_137 : decode cX_roll 137 = .ok (.getfield 28, 3) := by decide +kernel
theorem dX_roll_140 : decode cX_roll 140 = .ok (.iload_n 1, 1) := by decide +kernel
theorem dX_roll_141 : decode cX_roll 141 = .ok (.iaload, 1) := by decide +kernel
theorem dX_roll_142 : decode cX_roll 142 = .ok (.iconst 1, 1) := by decide +kernel
theorem dX_roll_143 : decode cX_roll 143 = .ok (.iadd, 1) := by decide +kernel
theorem dX_roll_144 : decode cX_roll 144 = .ok (.iastore, 1) := by decide +kernel
theorem dX_roll_145 : decode cX_roll 145 = .ok (.iload 6, 2) := by decide +kernel
theorem dX_roll_147 : decode cX_roll 147 = .ok (.ireturn, 1) := by decide +kernel
theorem dX_slit_0 : decode cX_slit 0 = .ok (.aload_n 0, 1) := by decide +kernel
theorem dX_slit_1 : decode cX_slit 1 = .ok (.iload_n 1, 1) := by decide +kernel
theorem dX_slit_2 : decode cX_slit 2 = .ok (.invokevirtual 80, 3) := by decide +kernel
theorem dX_slit_5 : decode cX_slit 5 = .ok (.aload_n 0, 1) := by decide +kernel
theorem dX_slit_6 : decode cX_slit 6 = .ok (.iload_n 1, 1) := by decide +kernel
theorem dX_slit_7 : decode cX_slit 7 = .ok (.invokevirtual 83, 3) := by decide +kernel
theorem dX_slit_10 : decode cX_slit 10 = .ok (.iload_n 2, 1) := by decide +kernel
theorem dX_slit_11 : decode cX_slit 11 = .ok (.iconst 2, 1) := by decide +kernel
theorem dX_slit_12 : decode cX_slit 12 = .ok (.iconst 4, 1) := by decide +kernel
theorem dX_slit_13 : decode cX_slit 13 = .ok (.invokestatic 64, 3) := by decide +kernel
theorem dX_slit_16 : decode cX_slit 16 = .ok (.aload_n 0, 1) := by decide +kernel
theorem dX_slit_17 : decode cX_slit 17 = .ok (.iload_n 2, 1) := by decide +kernel
theorem dX_slit_18 : decode cX_slit 18 = .ok (.invokevirtual 68, 3) := by decide +kernel
theorem dX_slit_21 : decode cX_slit 21 = .ok (.aload_n 0, 1) := by decide +kernel
theorem dX_slit_22 : decode cX_slit 22 = .ok (.getfield 13, 3) := by decide +kernel
theorem dX_slit_25 : decode cX_slit 25 = .ok (.iload_n 1, 1) := by decide +kernel
theorem dX_slit_26 : decode cX_slit 26 = .ok (.iaload, 1) := by decide +kernel
theorem dX_slit_27 : decode cX_slit 27 = .ok (.iload_n 2, 1) := by decide +kernel
theorem dX_slit_28 : decode cX_slit 28 = .ok (.idiv, 1) := by decide +kernel
theorem dX_slit_29 : decode cX_slit 29 = .ok (.istore_n 3, 1) := by decide +kernel
theorem dX_slit_30 : decode cX_slit 30 = .ok (.aload_n 0, 1) := by decide +kernel
theorem dX_slit_31 : decode cX_slit 31 = .ok (.getfield 13, 3) := by decide +kernel
theorem dX_slit_34 : decode cX_slit 34 = .ok (.iload_n 1, 1) := by decide +kernel
theorem dX_slit_35 : decode cX_slit 35 = .ok (.iaload, 1) := by decide +kernel
theorem dX_slit_36 : decode cX_slit 36 = .ok (.iload_n 3, 1) := by decide +kernel
theorem dX_slit_37 : decode cX_slit 37 = .ok (.iload_n 2, 1) := by decide +kernel
theorem dX_slit_38 : decode cX_slit 38 = .ok (.iconst 1, 1) := by decide +kernel
theorem dX_slit_39 : decode cX_slit 39 = .ok (.isub, 1) := by decide +kernel
theorem dX_slit_40 : decode cX_slit 40 = .ok (.imul, 1) := by decide +kernel
theorem dX_slit_41 : decode cX_slit 41 = .ok (.isub, 1) := by decide +kernel
theorem dX_slit_42 : decode cX_slit 42 = .ok (.istore 4, 2) := by decide +kernel
theorem dX_slit_44 : decode cX_slit 44 = .ok (.aload_n 0, 1) := by decide +kernel
theorem dX_slit_45 : decode cX_slit 45 = .ok (.getfield 19, 3) := by decide +kernel
theorem dX_slit_48 : decode cX_slit 48 = .ok (.iload_n 1, 1) := by decide +kernel
theorem dX_slit_49 : decode cX_slit 49 = .ok (.iconst 1, 1) := by decide +kernel
theorem dX_slit_50 : decode cX_slit 50 = .ok (.iastore, 1) := by decide +kernel
theorem dX_slit_51 : decode cX_slit 51 = .ok (.aload_n 0, 1) := by decide +kernel
theorem dX_slit_52 : decode cX_slit 52 = .ok (.iconst 5, 1) := by decide +kernel
theorem dX_slit_53 : decode cX_slit 53 = .ok (.iload_n 1, 1) := by decide +kernel
theorem dX_slit_54 : decode cX_slit 54 = .ok (.iload 4, 2) := by decide +kernel
theorem dX_slit_56 : decode cX_slit 56 = .ok (.aload_n 0, 1) := by decide +kernel
theorem dX_slit_57 : decode cX_slit 57 = .ok (.getfield 16, 3) := by decide +kernel
theorem dX_slit_60 : decode cX_slit 60 = .ok (.iload_n 1, 1) := by decide +kernel
theorem dX_slit_61 : decode cX_slit 61 = .ok (.iaload, 1) := by decide +kernel
theorem dX_slit_62 : decode cX_slit 62 = .ok (.invokevirtual 76, 3) := by decide +kernel
theorem dX_slit_65 : decode cX_slit 65 = .ok (.istore 5, 2) := by decide +kernel
theorem dX_slit_67 : decode cX_slit 67 = .ok (.iconst 1, 1) := by decide +kernel
theorem dX_slit_68 : decode cX_slit 68 = .ok (.istore 6, 2) := by decide +kernel
theorem dX_slit_70 : decode cX_slit 70 = .ok (.iload 6, 2) := by decide +kernel
theorem dX_slit_72 : decode cX_slit 72 = .ok (.iload_n 2, 1) := by decide +kernel
theorem dX_slit_73 : decode cX_slit 73 = .ok (.if_icmp .ge 23, 3) := by decide +kernel
theorem dX_slit_76 : decode cX_slit 76 = .ok (.aload_n 0, 1) := by decide +kernel
theorem dX_slit_77 : decode cX_slit 77 = .ok (.iconst 5, 1) := by decide +kernel
theorem dX_slit_78 : decode cX_slit 78 = .ok (.iload_n 1, 1) := by decide +kernel
theorem dX_slit_79 : decode cX_slit 79 = .ok (.iload_n 3, 1) := by decide +kernel
theorem dX_slit_80 : decode cX_slit 80 = .ok (.aload_n 0, 1) := by decide +kernel
theorem dX_slit_81 : decode cX_slit 81 = .ok (.getfield 16, 3) := by decide +kernel
theorem dX_slit_84 : decode cX_slit 84 = .ok (.iload_n 1, 1) := by decide +kernel
theorem dX_slit_85 : decode cX_slit 85 = .ok (.iaload, 1) := by decide +kernel
theorem dX_slit_86 : decode cX_slit 86 = .ok (.invokevirtual 76, 3) := by decide +kernel
theorem dX_slit_89 : decode cX_slit 89 = .ok (.pop, 1) := by decide +kernel
theorem dX_slit_90 : decode cX_slit 90 = .ok (.iinc 6 1, 3) := by decide +kernel
theorem dX_slit_93 : decode cX_slit 93 = .ok (.goto (-23), 3) := by decide +kernel
theorem dX_slit_96 : decode cX_slit 96 = .ok (.iload 5, 2) := by decide +kernel
theorem dX_slit_98 : decode cX_slit 98 = .ok (.ireturn, 1) := by decide +kernel
theorem dX_hold_0 : decode cX_hold 0 = .ok (.aload_n 0, 1) := by decide +kernel
theorem dX_hold_1 : decode cX_hold 1 = .ok (.iload_n 1, 1) := by decide +kernel
theorem dX_hold_2 : decode cX_hold 2 = .ok (.invokevirtual 80, 3) := by decide +kernel
theorem dX_hold_5 : decode cX_hold 5 = .ok (.aload_n 0, 1) := by decide +kernel
theorem dX_hold_6 : decode cX_hold 6 = .ok (.getfield 19, 3) := by decide +kernel
theorem dX_hold_9 : decode cX_hold 9 = .ok (.iload_n 1, 1) := by decide +kernel
theorem dX_hold_10 : decode cX_hold 10 = .ok (.iaload, 1) := by decide +kernel
theorem dX_hold_11 : decode cX_hold 11 = .ok (.iload_n 2, 1) := by decide +kernel
theorem dX_hold_12 : decode cX_hold 12 = .ok (.ifCond .eq 7, 3) := by decide +kernel
theorem dX_hold_15 : decode cX_hold 15 = .ok (.iconst 0, 1) := by decide +kernel
theorem dX_hold_16 : decode cX_hold 16 = .ok (.goto 4, 3) := by decide +kernel
theorem dX_hold_19 : decode cX_hold 19 = .ok (.iconst 3, 1) := by decide +kernel
theorem dX_hold_20 : decode cX_hold 20 = .ok (.if_icmp .eq 13, 3) := by decide +kernel
theorem dX_hold_23 : decode cX_hold 23 = .ok (.new 110, 3) := by decide +kernel
theorem dX_hold_26 : decode cX_hold 26 = .ok (.dup, 1) := by decide +kernel
theorem dX_hold_27 : decode cX_hold 27 = .ok (.ldc 112, 2) := by decide +kernel
theorem dX_hold_29 : decode cX_hold 29 = .ok (.invokespecial 114, 3) := by decide +kernel
theorem dX_hold_32 : decode cX_hold 32 = .ok (.athrow, 1) := by decide +kernel
theorem dX_hold_33 : decode cX_hold 33 = .ok (.aload_n 0, 1) := by decide +kernel
theorem dX_hold_34 : decode cX_hold 34 = .ok (.getfield 19, 3) := by decide +kernel
theorem dX_hold_37 : decode cX_hold 37 = .ok (.iload_n 1, 1) := by decide +kernel
theorem dX_hold_38 : decode cX_hold 38 = .ok (.iload_n 2, 1) := by decide +kernel
theorem dX_hold_39 : decode cX_hold 39 = .ok (.ifCond .eq 7, 3) := by decide +kernel
theorem dX_hold_42 : decode cX_hold 42 = .ok (.iconst 3, 1) := by decide +kernel
theorem dX_hold_43 : decode cX_hold 43 = .ok (.goto 4, 3) := by decide +kernel
theorem dX_hold_46 : decode cX_hold 46 = .ok (.iconst 0, 1) := by decide +kernel
theorem dX_hold_47 : decode cX_hold 47 = .ok (.iastore, 1) := by decide +kernel
theorem dX_hold_48 : decode cX_hold 48 = .ok (.return_, 1) := by decide +kernel
theorem dX_scrap_0 : decode cX_scrap 0 = .ok (.aload_n 0, 1) := by decide +kernel
theorem dX_scrap_1 : decode cX_scrap 1 = .ok (.iload_n 1, 1) := by decide +kernel
theorem dX_scrap_2 : decode cX_scrap 2 = .ok (.invokevirtual 80, 3) := by decide +kernel
theorem dX_scrap_5 : decode cX_scrap 5 = .ok (.aload_n 0, 1) := by decide +kernel
theorem dX_scrap_6 : decode cX_scrap 6 = .ok (.iload_n 1, 1) := by decide +kernel
theorem dX_scrap_7 : decode cX_scrap 7 = .ok (.invokevirtual 83, 3) := by decide +kernel
theorem dX_scrap_10 : decode cX_scrap 10 = .ok (.aload_n 0, 1) := by decide +kernel
theorem dX_scrap_11 : decode cX_scrap 11 = .ok (.getfield 19, 3) := by decide +kernel
theorem dX_scrap_14 : decode cX_scrap 14 = .ok (.iload_n 1, 1) := by decide +kernel
theorem dX_scrap_15 : decode cX_scrap 15 = .ok (.iconst 2, 1) := by decide +kernel
theorem dX_scrap_16 : decode cX_scrap 16 = .ok (.iastore, 1) := by decide +kernel
theorem dX_scrap_17 : decode cX_scrap 17 = .ok (.aload_n 0, 1) := by decide +kernel
theorem dX_scrap_18 : decode cX_scrap 18 = .ok (.dup, 1) := by decide +kernel
theorem dX_scrap_19 : decode cX_scrap 19 = .ok (.getfield 115, 3) := by decide +kernel
theorem dX_scrap_22 : decode cX_scrap 22 = .ok (.aload_n 0, 1) := by decide +kernel
theorem dX_scrap_23 : decode cX_scrap 23 = .ok (.getfield 13, 3) := by decide +kernel
theorem dX_scrap_26 : decode cX_scrap 26 = .ok (.iload_n 1, 1) := by decide +kernel
theorem dX_scrap_27 : decode cX_scrap 27 = .ok (.iaload, 1) := by decide +kernel
theorem dX_scrap_28 : decode cX_scrap 28 = .ok (.iadd, 1) := by decide +kernel
theorem dX_scrap_29 : decode cX_scrap 29 = .ok (.putfield 115, 3) := by decide +kernel
theorem dX_scrap_32 : decode cX_scrap 32 = .ok (.aload_n 0, 1) := by decide +kernel
theorem dX_scrap_33 : decode cX_scrap 33 = .ok (.getfield 115, 3) := by decide +kernel
theorem dX_scrap_36 : decode cX_scrap 36 = .ok (.ireturn, 1) := by decide +kernel
theorem dX_back_0 : decode cX_back 0 = .ok (.iload_n 1, 1) := by decide +kernel
theorem dX_back_1 : decode cX_back 1 = .ok (.iconst 1, 1) := by decide +kernel
theorem dX_back_2 : decode cX_back 2 = .ok (.bipush 100, 2) := by decide +kernel
theorem dX_back_4 : decode cX_back 4 = .ok (.invokestatic 64, 3) := by decide +kernel
theorem dX_back_7 : decode cX_back 7 = .ok (.iload_n 2, 1) := by decide +kernel
theorem dX_back_8 : decode cX_back 8 = .ok (.iconst 1, 1) := by decide +kernel
theorem dX_back_9 : decode cX_back 9 = .ok (.ldc 63, 2) := by decide +kernel
theorem dX_back_11 : decode cX_back 11 = .ok (.invokestatic 64, 3) := by decide +kernel
theorem dX_back_14 : decode cX_back 14 = .ok (.aload_n 0, 1) := by decide +kernel
theorem dX_back_15 : decode cX_back 15 = .ok (.iconst 1, 1) := by decide +kernel
theorem dX_back_16 : decode cX_back 16 = .ok (.invokevirtual 68, 3) := by decide +kernel
theorem dX_back_19 : decode cX_back 19 = .ok (.aload_n 0, 1) := by decide +kernel
theorem dX_back_20 : decode cX_back 20 = .ok (.getfield 115, 3) := by decide +kernel
theorem dX_back_23 : decode cX_back 23 = .ok (.i2l, 1) := by decide +kernel
theorem dX_back_24 : decode cX_back 24 = .ok (.iload_n 1, 1) := by decide +kernel
theorem dX_back_25 : decode cX_back 25 = .ok (.i2l, 1) := by decide +kernel
theorem dX_back_26 : decode cX_back 26 = .ok (.lmul, 1) := by decide +kernel
theorem dX_back_27 : decode cX_back 27 = .ok (.ldc2_w 119, 3) := by decide +kernel
theorem dX_back_30 : decode cX_back 30 = .ok (.ldiv, 1) := by decide +kernel
theorem dX_back_31 : decode cX_back 31 = .ok (.l2i, 1) := by decide +kernel
theorem dX_back_32 : decode cX_back 32 = .ok (.istore_n 3, 1) := by decide +kernel
theorem dX_back_33 : decode cX_back 33 = .ok (.iload_n 3, 1) := by decide +kernel
theorem dX_back_34 : decode cX_back 34 = .ok (.iconst 1, 1) := by decide +kernel
theorem dX_back_35 : decode cX_back 35 = .ok (.if_icmp .ge 13, 3) := by decide +kernel
theorem dX_back_38 : decode cX_back 38 = .ok (.new 95, 3) := by decide +kernel
theorem dX_back_41 : decode cX_back 41 = .ok (.dup, 1) := by decide +kernel
theorem dX_back_42 : decode cX_back 42 = .ok (.ldc 121, 2) := by decide +kernel
theorem dX_back_44 : decode cX_back 44 = .ok (.invokespecial 99, 3) := by decide +kernel
theorem dX_back_47 : decode cX_back 47 = .ok (.athrow, 1) := by decide +kernel
theorem dX_back_48 : decode cX_back 48 = .ok (.aload_n 0, 1) := by decide +kernel
theorem dX_back_49 : decode cX_back 49 = .ok (.dup, 1) := by decide +kernel
theorem dX_back_50 : decode cX_back 50 = .ok (.getfield 115, 3) := by decide +kernel
theorem dX_back_53 : decode cX_back 53 = .ok (.iload_n 3, 1) := by decide +kernel
theorem dX_back_54 : decode cX_back 54 = .ok (.isub, 1) := by decide +kernel
theorem dX_back_55 : decode cX_back 55 = .ok (.putfield 115, 3) := by decide +kernel
theorem dX_back_58 : decode cX_back 58 = .ok (.aload_n 0, 1) := by decide +kernel
theorem dX_back_59 : decode cX_back 59 = .ok (.iconst 0, 1) := by decide +kernel
theorem dX_back_60 : decode cX_back 60 = .ok (.iconst (-1), 1) := by decide +kernel
theorem dX_back_61 : decode cX_back 61 = .ok (.iload_n 3, 1) := by decide +kernel
theorem dX_back_62 : decode cX_back 62 = .ok (.iload_n 2, 1) := by decide +kernel
theorem dX_back_63 : decode cX_back 63 = .ok (.invokevirtual 76, 3) := by decide +kernel
theorem dX_back_66 : decode cX_back 66 = .ok (.ireturn, 1) := by decide +kernel
theorem dX_at_0 : decode cX_at 0 = .ok (.aload_n 0, 1) := by decide +kernel
theorem dX_at_1 : decode cX_at 1 = .ok (.iload_n 1, 1) := by decide +kernel
theorem dX_at_2 : decode cX_at 2 = .ok (.invokevirtual 80, 3) := by decide +kernel
theorem dX_at_5 : decode cX_at 5 = .ok (.iload_n 2, 1) := by decide +kernel
theorem dX_at_6 : decode cX_at 6 = .ok (.tableswitch 112 0 6 #[42, 49, 56, 75, 91, 98, 105], 42) := by decide +kernel
theorem dX_at_48 : decode cX_at 48 = .ok (.aload_n 0, 1) := by decide +kernel
theorem dX_at_49 : decode cX_at 49 = .ok (.getfield 13, 3) := by decide +kernel
theorem dX_at_52 : decode cX_at 52 = .ok (.iload_n 1, 1) := by decide +kernel
theorem dX_at_53 : decode cX_at 53 = .ok (.iaload, 1) := by decide +kernel
theorem dX_at_54 : decode cX_at 54 = .ok (.ireturn, 1) := by decide +kernel
theorem dX_at_55 : decode cX_at 55 = .ok (.aload_n 0, 1) := by decide +kernel
theorem dX_at_56 : decode cX_at 56 = .ok (.getfield 16, 3) := by decide +kernel
theorem dX_at_59 : decode cX_at 59 = .ok (.iload_n 1, 1) := by decide +kernel
theorem dX_at_60 : decode cX_at 60 = .ok (.iaload, 1) := by decide +kernel
theorem dX_at_61 : decode cX_at 61 = .ok (.ireturn, 1) := by decide +kernel
theorem dX_at_62 : decode cX_at 62 = .ok (.aload_n 0, 1) := by decide +kernel
theorem dX_at_63 : decode cX_at 63 = .ok (.iload_n 1, 1) := by decide +kernel
theorem dX_at_64 : decode cX_at 64 = .ok (.invokevirtual 123, 3) := by decide +kernel
theorem dX_at_67 : decode cX_at 67 = .ok (.ifCond .eq 7, 3) := by decide +kernel
theorem dX_at_70 : decode cX_at 70 = .ok (.iconst 0, 1) := by decide +kernel
theorem dX_at_71 : decode cX_at 71 = .ok (.goto 9, 3) := by decide +kernel
theorem dX_at_74 : decode cX_at 74 = .ok (.aload_n 0, 1) := by decide +kernel
theorem dX_at_75 : decode cX_at 75 = .ok (.getfield 19, 3) := by decide +kernel
theorem dX_at_78 : decode cX_at 78 = .ok (.iload_n 1, 1) := by decide +kernel
theorem dX_at_79 : decode cX_at 79 = .ok (.iaload, 1) := by decide +kernel
theorem dX_at_80 : decode cX_at 80 = .ok (.ireturn, 1) := by decide +kernel
theorem dX_at_81 : decode cX_at 81 = .ok (.aload_n 0, 1) := by decide +kernel
theorem dX_at_82 : decode cX_at 82 = .ok (.getfield 19, 3) := by decide +kernel
theorem dX_at_85 : decode cX_at 85 = .ok (.iload_n 1, 1) := by decide +kernel
theorem dX_at_86 : decode cX_at 86 = .ok (.iaload, 1) := by decide +kernel
theorem dX_at_87 : decode cX_at 87 = .ok (.iconst 3, 1) := by decide +kernel
theorem dX_at_88 : decode cX_at 88 = .ok (.if_icmp .ne 7, 3) := by decide +kernel
theorem dX_at_91 : decode cX_at 91 = .ok (.iconst 1, 1) := by decide +kernel
theorem dX_at_92 : decode cX_at 92 = .ok (.goto 4, 3) := by decide +kernel
theorem dX_at_95 : decode cX_at 95 = .ok (.iconst 0, 1) := by decide +kernel
theorem dX_at_96 : decode cX_at 96 = .ok (.ireturn, 1) := by decide +kernel
theorem dX_at_97 : decode cX_at 97 = .ok (.aload_n 0, 1) := by decide +kernel
theorem dX_at_98 : decode cX_at 98 = .ok (.getfield 22, 3) := by decide +kernel
theorem dX_at_101 : decode cX_at 101 = .ok (.iload_n 1, 1) := by decide +kernel
theorem dX_at_102 : decode cX_at 102 = .ok (.iaload, 1) := by decide +kernel
theorem dX_at_103 : decode cX_at 103 = .ok (.ireturn, 1) := by decide +kernel
theorem dX_at_104 : decode cX_at 104 = .ok (.aload_n 0, 1) := by decide +kernel
theorem dX_at_105 : decode cX_at 105 = .ok (.getfield 25, 3) := by decide +kernel
theorem dX_at_108 : decode cX_at 108 = .ok (.iload_n 1, 1) := by decide +kernel
theorem dX_at_109 : decode cX_at 109 = .ok (.iaload, 1) := by decide +kernel
theorem dX_at_110 : decode cX_at 110 = .ok (.ireturn, 1) := by decide +kernel
theorem dX_at_111 : decode cX_at 111 = .ok (.aload_n 0, 1) := by decide +kernel
theorem dX_at_112 : decode cX_at 112 = .ok (.getfield 28, 3) := by decide +kernel
theorem dX_at_115 : decode cX_at 115 = .ok (.iload_n 1, 1) := by decide +kernel
theorem dX_at_116 : decode cX_at 116 = .ok (.iaload, 1) := by decide +kernel
theorem dX_at_117 : decode cX_at 117 = .ok (.ireturn, 1) := by decide +kernel
theorem dX_at_118 : decode cX_at 118 = .ok (.new 86, 3) := by decide +kernel
theorem dX_at_121 : decode cX_at 121 = .ok (.dup, 1) := by decide +kernel
theorem dX_at_122 : decode cX_at 122 = .ok (.ldc 127, 2) := by decide +kernel
theorem dX_at_124 : decode cX_at 124 = .ok (.invokespecial 90, 3) := by decide +kernel
theorem dX_at_127 : decode cX_at 127 = .ok (.athrow, 1) := by decide +kernel
theorem dX_origin_0 : decode cX_origin 0 = .ok (.aload_n 0, 1) := by decide +kernel
theorem dX_origin_1 : decode cX_origin 1 = .ok (.iload_n 1, 1) := by decide +kernel
theorem dX_origin_2 : decode cX_origin 2 = .ok (.invokevirtual 80, 3) := by decide +kernel
theorem dX_origin_5 : decode cX_origin 5 = .ok (.iload_n 3, 1) := by decide +kernel
theorem dX_origin_6 : decode cX_origin 6 = .ok (.iconst 2, 1) := by decide +kernel
theorem dX_origin_7 : decode cX_origin 7 = .ok (.invokestatic 129, 3) := by decide +kernel
theorem dX_origin_10 : decode cX_origin 10 = .ok (.iload_n 2, 1) := by decide +kernel
theorem dX_origin_11 : decode cX_origin 11 = .ok (.iconst 0, 1) := by decide +kernel
theorem dX_origin_12 : decode cX_origin 12 = .ok (.aload_n 0, 1) := by decide +kernel
theorem dX_origin_13 : decode cX_origin 13 = .ok (.getfield 16, 3) := by decide +kernel
theorem dX_origin_16 : decode cX_origin 16 = .ok (.iload_n 1, 1) := by decide +kernel
theorem dX_origin_17 : decode cX_origin 17 = .ok (.iaload, 1) := by decide +kernel
theorem dX_origin_18 : decode cX_origin 18 = .ok (.iconst 1, 1) := by decide +kernel
theorem dX_origin_19 : decode cX_origin 19 = .ok (.isub, 1) := by decide +kernel
theorem dX_origin_20 : decode cX_origin 20 = .ok (.invokestatic 64, 3) := by decide +kernel
theorem dX_origin_23 : decode cX_origin 23 = .ok (.aload_n 0, 1) := by decide +kernel
theorem dX_origin_24 : decode cX_origin 24 = .ok (.iload_n 1, 1) := by decide +kernel
theorem dX_origin_25 : decode cX_origin 25 = .ok (.iload_n 2, 1) := by decide +kernel
theorem dX_origin_26 : decode cX_origin 26 = .ok (.invokevirtual 133, 3) := by decide +kernel
theorem dX_origin_29 : decode cX_origin 29 = .ok (.istore 4, 2) := by decide +kernel
theorem dX_origin_31 : decode cX_origin 31 = .ok (.iload_n 3, 1) := by decide +kernel
theorem dX_origin_32 : decode cX_origin 32 = .ok (.ifCond .ne 7, 3) := by decide +kernel
theorem dX_origin_35 : decode cX_origin 35 = .ok (.iload 4, 2) := by decide +kernel
theorem dX_origin_37 : decode cX_origin 37 = .ok (.i2l, 1) := by decide +kernel
theorem dX_origin_38 : decode cX_origin 38 = .ok (.lreturn, 1) := by decide +kernel
theorem dX_origin_39 : decode cX_origin 39 = .ok (.iload_n 3, 1) := by decide +kernel
theorem dX_origin_40 : decode cX_origin 40 = .ok (.iconst 1, 1) := by decide +kernel
theorem dX_origin_41 : decode cX_origin 41 = .ok (.if_icmp .ne 13, 3) := by decide +kernel
theorem dX_origin_44 : decode cX_origin 44 = .ok (.aload_n 0, 1) := by decide +kernel
theorem dX_origin_45 : decode cX_origin 45 = .ok (.getfield 53, 3) := by decide +kernel
theorem dX_origin_48 : decode cX_origin 48 = .ok (.getfield 136, 3) := by decide +kernel
theorem dX_origin_51 : decode cX_origin 51 = .ok (.goto 10, 3) := by decide +kernel
theorem dX_origin_54 : decode cX_origin 54 = .ok (.aload_n 0, 1) := by decide +kernel
theorem dX_origin_55 : decode cX_origin 55 = .ok (.getfield 53, 3) := by decide +kernel
theorem dX_origin_58 : decode cX_origin 58 = .ok (.getfield 139, 3) := by decide +kernel
theorem dX_origin_61 : decode cX_origin 61 = .ok (.lreturn, 1) := by decide +kernel
theorem dX_defect_0 : decode cX_defect 0 = .ok (.aload_n 0, 1) := by decide +kernel
theorem dX_defect_1 : decode cX_defect 1 = .ok (.iload_n 1, 1) := by decide +kernel
theorem dX_defect_2 : decode cX_defect 2 = .ok (.invokevirtual 80, 3) := by decide +kernel
theorem dX_defect_5 : decode cX_defect 5 = .ok (.iload_n 2, 1) := by decide +kernel
theorem dX_defect_6 : decode cX_defect 6 = .ok (.iconst 0, 1) := by decide +kernel
theorem dX_defect_7 : decode cX_defect 7 = .ok (.aload_n 0, 1) := by decide +kernel
theorem dX_defect_8 : decode cX_defect 8 = .ok (.getfield 16, 3) := by decide +kernel
theorem dX_defect_11 : decode cX_defect 11 = .ok (.iload_n 1, 1) := by decide +kernel
theorem dX_defect_12 : decode cX_defect 12 = .ok (.iaload, 1) := by decide +kernel
theorem dX_defect_13 : decode cX_defect 13 = .ok (.iconst 1, 1) := by decide +kernel
theorem dX_defect_14 : decode cX_defect 14 = .ok (.isub, 1) := by decide +kernel
theorem dX_defect_15 : decode cX_defect 15 = .ok (.invokestatic 64, 3) := by decide +kernel
theorem dX_defect_18 : decode cX_defect 18 = .ok (.aload_n 0, 1) := by decide +kernel
theorem dX_defect_19 : decode cX_defect 19 = .ok (.getfield 142, 3) := by decide +kernel
theorem dX_defect_22 : decode cX_defect 22 = .ok (.bipush 10, 2) := by decide +kernel
theorem dX_defect_24 : decode cX_defect 24 = .ok (.if_icmp .lt 13, 3) := by decide +kernel
theorem dX_defect_27 : decode cX_defect 27 = .ok (.new 95, 3) := by decide +kernel
theorem dX_defect_30 : decode cX_defect 30 = .ok (.dup, 1) := by decide +kernel
theorem dX_defect_31 : decode cX_defect 31 = .ok (.ldc 145, 2) := by decide +kernel
theorem dX_defect_33 : decode cX_defect 33 = .ok (.invokespecial 99, 3) := by decide +kernel
theorem dX_defect_36 : decode cX_defect 36 = .ok (.athrow, 1) := by decide +kernel
theorem dX_defect_37 : decode cX_defect 37 = .ok (.aload_n 0, 1) := by decide +kernel
theorem dX_defect_38 : decode cX_defect 38 = .ok (.getfield 142, 3) := by decide +kernel
theorem dX_defect_41 : decode cX_defect 41 = .ok (.istore_n 3, 1) := by decide +kernel
theorem dX_defect_42 : decode cX_defect 42 = .ok (.aload_n 0, 1) := by decide +kernel
theorem dX_defect_43 : decode cX_defect 43 = .ok (.getfield 40, 3) := by decide +kernel
theorem dX_defect_46 : decode cX_defect 46 = .ok (.iload_n 3, 1) := by decide +kernel
theorem dX_defect_47 : decode cX_defect 47 = .ok (.aload_n 0, 1) := by decide +kernel
theorem dX_defect_48 : decode cX_defect 48 = .ok (.iload_n 1, 1) := by decide +kernel
theorem dX_defect_49 : decode cX_defect 49 = .ok (.iload_n 2, 1) := by decide +kernel
theorem dX_defect_50 : decode cX_defect 50 = .ok (.invokevirtual 133, 3) := by decide +kernel
theorem dX_defect_53 : decode cX_defect 53 = .ok (.iastore, 1) := by decide +kernel
theorem dX_defect_54 : decode cX_defect 54 = .ok (.aload_n 0, 1) := by decide +kernel
theorem dX_defect_55 : decode cX_defect 55 = .ok (.getfield 43, 3) := by decide +kernel
theorem dX_defect_58 : decode cX_defect 58 = .ok (.iload_n 3, 1) := by decide +kernel
theorem dX_defect_59 : decode cX_defect 59 = .ok (.aload_n 0, 1) := by decide +kernel
theorem dX_defect_60 : decode cX_defect 60 = .ok (.getfield 53, 3) := by decide +kernel
theorem dX_defect_63 : decode cX_defect 63 = .ok (.getfield 136, 3) := by decide +kernel
theorem dX_defect_66 : decode cX_defect 66 = .ok (.lastore, 1) := by decide +kernel
theorem dX_defect_67 : decode cX_defect 67 = .ok (.aload_n 0, 1) := by decide +kernel
theorem dX_defect_68 : decode cX_defect 68 = .ok (.getfield 47, 3) := by decide +kernel
theorem dX_defect_71 : decode cX_defect 71 = .ok (.iload_n 3, 1) := by decide +kernel
theorem dX_defect_72 : decode cX_defect 72 = .ok (.aload_n 0, 1) := by decide +kernel
theorem dX_defect_73 : decode cX_defect 73 = .ok (.getfield 53, 3) := by decide +kernel
theorem dX_defect_76 : decode cX_defect 76 = .ok (.getfield 139, 3) := by decide +kernel
theorem dX_defect_79 : decode cX_defect 79 = .ok (.lastore, 1) := by decide +kernel
theorem dX_defect_80 : decode cX_defect 80 = .ok (.aload_n 0, 1) := by decide +kernel
theorem dX_defect_81 : decode cX_defect 81 = .ok (.dup, 1) := by decide +kernel
theorem dX_defect_82 : decode cX_defect 82 = .ok (.getfield 142, 3) := by decide +kernel
theorem dX_defect_85 : decode cX_defect 85 = .ok (.iconst 1, 1) := by decide +kernel
theorem dX_defect_86 : decode cX_defect 86 = .ok (.iadd, 1) := by decide +kernel
theorem dX_defect_87 : decode cX_defect 87 = .ok (.putfield 142, 3) := by decide +kernel
theorem dX_defect_90 : decode cX_defect 90 = .ok (.iload_n 3, 1) := by decide +kernel
theorem dX_defect_91 : decode cX_defect 91 = .ok (.ireturn, 1) := by decide +kernel
theorem dX_has_0 : decode cX_has 0 = .ok (.aload_n 0, 1) := by decide +kernel
theorem dX_has_1 : decode cX_has 1 = .ok (.iload_n 1, 1) := by decide +kernel
theorem dX_has_2 : decode cX_has 2 = .ok (.invokevirtual 147, 3) := by decide +kernel
theorem dX_has_5 : decode cX_has 5 = .ok (.aload_n 0, 1) := by decide +kernel
theorem dX_has_6 : decode cX_has 6 = .ok (.iload_n 2, 1) := by decide +kernel
theorem dX_has_7 : decode cX_has 7 = .ok (.invokevirtual 80, 3) := by decide +kernel
theorem dX_has_10 : decode cX_has 10 = .ok (.iload_n 3, 1) := by decide +kernel
theorem dX_has_11 : decode cX_has 11 = .ok (.iconst 1, 1) := by decide +kernel
theorem dX_has_12 : decode cX_has 12 = .ok (.invokestatic 129, 3) := by decide +kernel
theorem dX_has_15 : decode cX_has 15 = .ok (.aload_n 0, 1) := by decide +kernel
theorem dX_has_16 : decode cX_has 16 = .ok (.iload_n 1, 1) := by decide +kernel
theorem dX_has_17 : decode cX_has 17 = .ok (.invokevirtual 150, 3) := by decide +kernel
theorem dX_has_20 : decode cX_has 20 = .ok (.aload_n 0, 1) := by decide +kernel
theorem dX_has_21 : decode cX_has 21 = .ok (.getfield 60, 3) := by decide +kernel
theorem dX_has_24 : decode cX_has 24 = .ok (.iload_n 2, 1) := by decide +kernel
theorem dX_has_25 : decode cX_has 25 = .ok (.laload, 1) := by decide +kernel
theorem dX_has_26 : decode cX_has 26 = .ok (.lconst 0, 1) := by decide +kernel
theorem dX_has_27 : decode cX_has 27 = .ok (.lcmp, 1) := by decide +kernel
theorem dX_has_28 : decode cX_has 28 = .ok (.ifCond .ne 7, 3) := by decide +kernel
theorem dX_has_31 : decode cX_has 31 = .ok (.ldc2_w 153, 3) := by decide +kernel
theorem dX_has_34 : decode cX_has 34 = .ok (.lreturn, 1) := by decide +kernel
theorem dX_has_35 : decode cX_has 35 = .ok (.iload_n 3, 1) := by decide +kernel
theorem dX_has_36 : decode cX_has 36 = .ok (.ifCond .ne 12, 3) := by decide +kernel
theorem dX_has_39 : decode cX_has 39 = .ok (.aload_n 0, 1) := by decide +kernel
theorem dX_has_40 : decode cX_has 40 = .ok (.getfield 57, 3) := by decide +kernel
theorem dX_has_43 : decode cX_has 43 = .ok (.iload_n 2, 1) := by decide +kernel
theorem dX_has_44 : decode cX_has 44 = .ok (.laload, 1) := by decide +kernel
theorem dX_has_45 : decode cX_has 45 = .ok (.goto 9, 3) := by decide +kernel
theorem dX_has_48 : decode cX_has 48 = .ok (.aload_n 0, 1) := by decide +kernel
theorem dX_has_49 : decode cX_has 49 = .ok (.getfield 60, 3) := by decide +kernel
theorem dX_has_52 : decode cX_has 52 = .ok (.iload_n 2, 1) := by decide +kernel
theorem dX_has_53 : decode cX_has 53 = .ok (.laload, 1) := by decide +kernel
theorem dX_has_54 : decode cX_has 54 = .ok (.lreturn, 1) := by decide +kernel
theorem dX_recall_0 : decode cX_recall 0 = .ok (.aload_n 0, 1) := by decide +kernel
theorem dX_recall_1 : decode cX_recall 1 = .ok (.iload_n 1, 1) := by decide +kernel
theorem dX_recall_2 : decode cX_recall 2 = .ok (.invokevirtual 147, 3) := by decide +kernel
theorem dX_recall_5 : decode cX_recall 5 = .ok (.iload_n 2, 1) := by decide +kernel
theorem dX_recall_6 : decode cX_recall 6 = .ok (.ifCond .ge 13, 3) := by decide +kernel
theorem dX_recall_9 : decode cX_recall 9 = .ok (.new 86, 3) := by decide +kernel
theorem dX_recall_12 : decode cX_recall 12 = .ok (.dup, 1) := by decide +kernel
theorem dX_recall_13 : decode cX_recall 13 = .ok (.ldc 155, 2) := by decide +kernel
theorem dX_recall_15 : decode cX_recall 15 = .ok (.invokespecial 90, 3) := by decide +kernel
theorem dX_recall_18 : decode cX_recall 18 = .ok (.athrow, 1) := by decide +kernel
theorem dX_recall_19 : decode cX_recall 19 = .ok (.aload_n 0, 1) := by decide +kernel
theorem dX_recall_20 : decode cX_recall 20 = .ok (.iload_n 1, 1) := by decide +kernel
theorem dX_recall_21 : decode cX_recall 21 = .ok (.invokevirtual 150, 3) := by decide +kernel
theorem dX_recall_24 : decode cX_recall 24 = .ok (.iconst 0, 1) := by decide +kernel
theorem dX_recall_25 : decode cX_recall 25 = .ok (.istore_n 3, 1) := by decide +kernel
theorem dX_recall_26 : decode cX_recall 26 = .ok (.iconst 0, 1) := by decide +kernel
theorem dX_recall_27 : decode cX_recall 27 = .ok (.istore 4, 2) := by decide +kernel
theorem dX_recall_29 : decode cX_recall 29 = .ok (.iload 4, 2) := by decide +kernel
theorem dX_recall_31 : decode cX_recall 31 = .ok (.aload_n 0, 1) := by decide +kernel
theorem dX_recall_32 : decode cX_recall 32 = .ok (.getfield 157, 3) := by decide +kernel
theorem dX_recall_35 : decode cX_recall 35 = .ok (.if_icmp .ge 41, 3) := by decide +kernel
theorem dX_recall_38 : decode cX_recall 38 = .ok (.aload_n 0, 1) := by decide +kernel
theorem dX_recall_39 : decode cX_recall 39 = .ok (.iload 4, 2) := by decide +kernel
theorem dX_recall_41 : decode cX_recall 41 = .ok (.invokevirtual 123, 3) := by decide +kernel
theorem dX_recall_44 : decode cX_recall 44 = .ok (.ifCond .eq 26, 3) := by decide +kernel
theorem dX_recall_47 : decode cX_recall 47 = .ok (.aload_n 0, 1) := by decide +kernel
theorem dX_recall_48 : decode cX_recall 48 = .ok (.getfield 60, 3) := by decide +kernel
theorem dX_recall_51 : decode cX_recall 51 = .ok (.iload 4, 2) := by decide +kernel
theorem dX_recall_53 : decode cX_recall 53 = .ok (.laload, 1) := by decide +kernel
theorem dX_recall_54 : decode cX_recall 54 = .ok (.lconst 0, 1) := by decide +kernel
theorem dX_recall_55 : decode cX_recall 55 = .ok (.lcmp, 1) := by decide +kernel
theorem dX_recall_56 : decode cX_recall 56 = .ok (.ifCond .eq 14, 3) := by decide +kernel
theorem dX_recall_59 : decode cX_recall 59 = .ok (.iload_n 3, 1) := by decide +kernel
theorem dX_recall_60 : decode cX_recall 60 = .ok (.iload_n 2, 1) := by decide +kernel
theorem dX_recall_61 : decode cX_recall 61 = .ok (.if_icmp .ne 6, 3) := by decide +kernel
theorem dX_recall_64 : decode cX_recall 64 = .ok (.iload 4, 2) := by decide +kernel
theorem dX_recall_66 : decode cX_recall 66 = .ok (.ireturn, 1) := by decide +kernel
theorem dX_recall_67 : decode cX_recall 67 = .ok (.iinc 3 1, 3) := by decide +kernel
theorem dX_recall_70 : decode cX_recall 70 = .ok (.iinc 4 1, 3) := by decide +kernel
theorem dX_recall_73 : decode cX_recall 73 = .ok (.goto (-44), 3) := by decide +kernel
theorem dX_recall_76 : decode cX_recall 76 = .ok (.iconst (-1), 1) := by decide +kernel
theorem dX_recall_77 : decode cX_recall 77 = .ok (.ireturn, 1) := by decide +kernel
theorem dX_told_0 : decode cX_told 0 = .ok (.iload_n 1, 1) := by decide +kernel
theorem dX_told_1 : decode cX_told 1 = .ok (.tableswitch 43 0 2 #[27, 32, 38], 27) := by decide +kernel
theorem dX_told_28 : decode cX_told 28 = .ok (.aload_n 0, 1) := by decide +kernel
theorem dX_told_29 : decode cX_told 29 = .ok (.invokevirtual 160, 3) := by decide +kernel
theorem dX_told_32 : decode cX_told 32 = .ok (.lreturn, 1) := by decide +kernel
theorem dX_told_33 : decode cX_told 33 = .ok (.aload_n 0, 1) := by decide +kernel
theorem dX_told_34 : decode cX_told 34 = .ok (.getfield 115, 3) := by decide +kernel
theorem dX_told_37 : decode cX_told 37 = .ok (.i2l, 1) := by decide +kernel
theorem dX_told_38 : decode cX_told 38 = .ok (.lreturn, 1) := by decide +kernel
theorem dX_told_39 : decode cX_told 39 = .ok (.aload_n 0, 1) := by decide +kernel
theorem dX_told_40 : decode cX_told 40 = .ok (.getfield 72, 3) := by decide +kernel
theorem dX_told_43 : decode cX_told 43 = .ok (.lreturn, 1) := by decide +kernel
theorem dX_told_44 : decode cX_told 44 = .ok (.new 86, 3) := by decide +kernel
theorem dX_told_47 : decode cX_told 47 = .ok (.dup, 1) := by decide +kernel
theorem dX_told_48 : decode cX_told 48 = .ok (.ldc 127, 2) := by decide +kernel
theorem dX_told_50 : decode cX_told 50 = .ok (.invokespecial 90, 3) := by decide +kernel
theorem dX_told_53 : decode cX_told 53 = .ok (.athrow, 1) := by decide +kernel
theorem dX_isPiece_0 : decode cX_isPiece 0 = .ok (.iload_n 1, 1) := by decide +kernel
theorem dX_isPiece_1 : decode cX_isPiece 1 = .ok (.ifCond .lt 15, 3) := by decide +kernel
theorem dX_isPiece_4 : decode cX_isPiece 4 = .ok (.iload_n 1, 1) := by decide +kernel
theorem dX_isPiece_5 : decode cX_isPiece 5 = .ok (.aload_n 0, 1) := by decide +kernel
theorem dX_isPiece_6 : decode cX_isPiece 6 = .ok (.getfield 157, 3) := by decide +kernel
theorem dX_isPiece_9 : decode cX_isPiece 9 = .ok (.if_icmp .ge 7, 3) := by decide +kernel
theorem dX_isPiece_12 : decode cX_isPiece 12 = .ok (.iconst 1, 1) := by decide +kernel
theorem dX_isPiece_13 : decode cX_isPiece 13 = .ok (.goto 4, 3) := by decide +kernel
theorem dX_isPiece_16 : decode cX_isPiece 16 = .ok (.iconst 0, 1) := by decide +kernel
theorem dX_isPiece_17 : decode cX_isPiece 17 = .ok (.ireturn, 1) := by decide +kernel
theorem dX_isLive_0 : decode cX_isLive 0 = .ok (.aload_n 0, 1) := by decide +kernel
theorem dX_isLive_1 : decode cX_isLive 1 = .ok (.getfield 19, 3) := by decide +kernel
theorem dX_isLive_4 : decode cX_isLive 4 = .ok (.iload_n 1, 1) := by decide +kernel
theorem dX_isLive_5 : decode cX_isLive 5 = .ok (.iaload, 1) := by decide +kernel
theorem dX_isLive_6 : decode cX_isLive 6 = .ok (.ifCond .eq 13, 3) := by decide +kernel
theorem dX_isLive_9 : decode cX_isLive 9 = .ok (.aload_n 0, 1) := by decide +kernel
theorem dX_isLive_10 : decode cX_isLive 10 = .ok (.getfield 19, 3) := by decide +kernel
theorem dX_isLive_13 : decode cX_isLive 13 = .ok (.iload_n 1, 1) := by decide +kernel
theorem dX_isLive_14 : decode cX_isLive 14 = .ok (.iaload, 1) := by decide +kernel
theorem dX_isLive_15 : decode cX_isLive 15 = .ok (.iconst 3, 1) := by decide +kernel
theorem dX_isLive_16 : decode cX_isLive 16 = .ok (.if_icmp .ne 7, 3) := by decide +kernel
theorem dX_isLive_19 : decode cX_isLive 19 = .ok (.iconst 1, 1) := by decide +kernel
theorem dX_isLive_20 : decode cX_isLive 20 = .ok (.goto 4, 3) := by decide +kernel
theorem dX_isLive_23 : decode cX_isLive 23 = .ok (.iconst 0, 1) := by decide +kernel
theorem dX_isLive_24 : decode cX_isLive 24 = .ok (.ireturn, 1) := by decide +kernel
theorem dX_needPiece_0 : decode cX_needPiece 0 = .ok (.aload_n 0, 1) := by decide +kernel
theorem dX_needPiece_1 : decode cX_needPiece 1 = .ok (.iload_n 1, 1) := by decide +kernel
theorem dX_needPiece_2 : decode cX_needPiece 2 = .ok (.invokevirtual 164, 3) := by decide +kernel
theorem dX_needPiece_5 : decode cX_needPiece 5 = .ok (.ifCond .ne 13, 3) := by decide +kernel
theorem dX_needPiece_8 : decode cX_needPiece 8 = .ok (.new 86, 3) := by decide +kernel
theorem dX_needPiece_11 : decode cX_needPiece 11 = .ok (.dup, 1) := by decide +kernel
theorem dX_needPiece_12 : decode cX_needPiece 12 = .ok (.ldc 167, 2) := by decide +kernel
theorem dX_needPiece_14 : decode cX_needPiece 14 = .ok (.invokespecial 90, 3) := by decide +kernel
theorem dX_needPiece_17 : decode cX_needPiece 17 = .ok (.athrow, 1) := by decide +kernel
theorem dX_needPiece_18 : decode cX_needPiece 18 = .ok (.return_, 1) := by decide +kernel
theorem dX_needDefect_0 : decode cX_needDefect 0 = .ok (.iload_n 1, 1) := by decide +kernel
theorem dX_needDefect_1 : decode cX_needDefect 1 = .ok (.ifCond .lt 11, 3) := by decide +kernel
theorem dX_needDefect_4 : decode cX_needDefect 4 = .ok (.iload_n 1, 1) := by decide +kernel
theorem dX_needDefect_5 : decode cX_needDefect 5 = .ok (.aload_n 0, 1) := by decide +kernel
theorem dX_needDefect_6 : decode cX_needDefect 6 = .ok (.getfield 142, 3) := by decide +kernel
theorem dX_needDefect_9 : decode cX_needDefect 9 = .ok (.if_icmp .lt 13, 3) := by decide +kernel
theorem dX_needDefect_12 : decode cX_needDefect 12 = .ok (.new 86, 3) := by decide +kernel
theorem dX_needDefect_15 : decode cX_needDefect 15 = .ok (.dup, 1) := by decide +kernel
theorem dX_needDefect_16 : decode cX_needDefect 16 = .ok (.ldc 169, 2) := by decide +kernel
theorem dX_needDefect_18 : decode cX_needDefect 18 = .ok (.invokespecial 90, 3) := by decide +kernel
theorem dX_needDefect_21 : decode cX_needDefect 21 = .ok (.athrow, 1) := by decide +kernel
theorem dX_needDefect_22 : decode cX_needDefect 22 = .ok (.return_, 1) := by decide +kernel
theorem dX_needPart_0 : decode cX_needPart 0 = .ok (.iload_n 0, 1) := by decide +kernel
theorem dX_needPart_1 : decode cX_needPart 1 = .ok (.ifCond .lt 8, 3) := by decide +kernel
theorem dX_needPart_4 : decode cX_needPart 4 = .ok (.iload_n 0, 1) := by decide +kernel
theorem dX_needPart_5 : decode cX_needPart 5 = .ok (.iload_n 1, 1) := by decide +kernel
theorem dX_needPart_6 : decode cX_needPart 6 = .ok (.if_icmp .le 13, 3) := by decide +kernel
theorem dX_needPart_9 : decode cX_needPart 9 = .ok (.new 86, 3) := by decide +kernel
theorem dX_needPart_12 : decode cX_needPart 12 = .ok (.dup, 1) := by decide +kernel
theorem dX_needPart_13 : decode cX_needPart 13 = .ok (.ldc 171, 2) := by decide +kernel
theorem dX_needPart_15 : decode cX_needPart 15 = .ok (.invokespecial 90, 3) := by decide +kernel
theorem dX_needPart_18 : decode cX_needPart 18 = .ok (.athrow, 1) := by decide +kernel
theorem dX_needPart_19 : decode cX_needPart 19 = .ok (.return_, 1) := by decide +kernel
theorem dX_needFree_0 : decode cX_needFree 0 = .ok (.aload_n 0, 1) := by decide +kernel
theorem dX_needFree_1 : decode cX_needFree 1 = .ok (.getfield 19, 3) := by decide +kernel
theorem dX_needFree_4 : decode cX_needFree 4 = .ok (.iload_n 1, 1) := by decide +kernel
theorem dX_needFree_5 : decode cX_needFree 5 = .ok (.iaload, 1) := by decide +kernel
theorem dX_needFree_6 : decode cX_needFree 6 = .ok (.ifCond .eq 13, 3) := by decide +kernel
theorem dX_needFree_9 : decode cX_needFree 9 = .ok (.new 110, 3) := by decide +kernel
theorem dX_needFree_12 : decode cX_needFree 12 = .ok (.dup, 1) := by decide +kernel
theorem dX_needFree_13 : decode cX_needFree 13 = .ok (.ldc 173, 2) := by decide +kernel
theorem dX_needFree_15 : decode cX_needFree 15 = .ok (.invokespecial 114, 3) := by decide +kernel
theorem dX_needFree_18 : decode cX_needFree 18 = .ok (.athrow, 1) := by decide +kernel
theorem dX_needFree_19 : decode cX_needFree 19 = .ok (.return_, 1) := by decide +kernel
theorem dX_needWithin_0 : decode cX_needWithin 0 = .ok (.iload_n 0, 1) := by decide +kernel
theorem dX_needWithin_1 : decode cX_needWithin 1 = .ok (.iload_n 1, 1) := by decide +kernel
theorem dX_needWithin_2 : decode cX_needWithin 2 = .ok (.if_icmp .lt 8, 3) := by decide +kernel
theorem dX_needWithin_5 : decode cX_needWithin 5 = .ok (.iload_n 0, 1) := by decide +kernel
theorem dX_needWithin_6 : decode cX_needWithin 6 = .ok (.iload_n 2, 1) := by decide +kernel
theorem dX_needWithin_7 : decode cX_needWithin 7 = .ok (.if_icmp .le 13, 3) := by decide +kernel
theorem dX_needWithin_10 : decode cX_needWithin 10 = .ok (.new 175, 3) := by decide +kernel
theorem dX_needWithin_13 : decode cX_needWithin 13 = .ok (.dup, 1) := by decide +kernel
theorem dX_needWithin_14 : decode cX_needWithin 14 = .ok (.ldc 177, 2) := by decide +kernel
theorem dX_needWithin_16 : decode cX_needWithin 16 = .ok (.invokespecial 179, 3) := by decide +kernel
theorem dX_needWithin_19 : decode cX_needWithin 19 = .ok (.athrow, 1) := by decide +kernel
theorem dX_needWithin_20 : decode cX_needWithin 20 = .ok (.return_, 1) := by decide +kernel
theorem dX_needRoom_0 : decode cX_needRoom 0 = .ok (.aload_n 0, 1) := by decide +kernel
theorem dX_needRoom_1 : decode cX_needRoom 1 = .ok (.getfield 157, 3) := by decide +kernel
theorem dX_needRoom_4 : decode cX_needRoom 4 = .ok (.iload_n 1, 1) := by decide +kernel
theorem dX_needRoom_5 : decode cX_needRoom 5 = .ok (.iadd, 1) := by decide +kernel
theorem dX_needRoom_6 : decode cX_needRoom 6 = .ok (.bipush 40, 2) := by decide +kernel
theorem dX_needRoom_8 : decode cX_needRoom 8 = .ok (.if_icmp .le 13, 3) := by decide +kernel
theorem dX_needRoom_11 : decode cX_needRoom 11 = .ok (.new 95, 3) := by decide +kernel
theorem dX_needRoom_14 : decode cX_needRoom 14 = .ok (.dup, 1) := by decide +kernel
theorem dX_needRoom_15 : decode cX_needRoom 15 = .ok (.ldc 180, 2) := by decide +kernel
theorem dX_needRoom_17 : decode cX_needRoom 17 = .ok (.invokespecial 99, 3) := by decide +kernel
theorem dX_needRoom_20 : decode cX_needRoom 20 = .ok (.athrow, 1) := by decide +kernel
theorem dX_needRoom_21 : decode cX_needRoom 21 = .ok (.return_, 1) := by decide +kernel
theorem dX_addPiece_0 : decode cX_addPiece 0 = .ok (.aload_n 0, 1) := by decide +kernel
theorem dX_addPiece_1 : decode cX_addPiece 1 = .ok (.getfield 157, 3) := by decide +kernel
theorem dX_addPiece_4 : decode cX_addPiece 4 = .ok (.istore 5, 2) := by decide +kernel
theorem dX_addPiece_6 : decode cX_addPiece 6 = .ok (.aload_n 0, 1) := by decide +kernel
theorem dX_addPiece_7 : decode cX_addPiece 7 = .ok (.getfield 9, 3) := by decide +kernel
theorem dX_addPiece_10 : decode cX_addPiece 10 = .ok (.iload 5, 2) := by decide +kernel
theorem dX_addPiece_12 : decode cX_addPiece 12 = .ok (.iload_n 1, 1) := by decide +kernel
theorem dX_addPiece_13 : decode cX_addPiece 13 = .ok (.iastore, 1) := by decide +kernel
theorem dX_addPiece_14 : decode cX_addPiece 14 = .ok (.aload_n 0, 1) := by decide +kernel
theorem dX_addPiece_15 : decode cX_addPiece 15 = .ok (.getfield 13, 3) := by decide +kernel
theorem dX_addPiece_18 : decode cX_addPiece 18 = .ok (.iload 5, 2) := by decide +kernel
theorem dX_addPiece_20 : decode cX_addPiece 20 = .ok (.iload_n 3, 1) := by decide +kernel
theorem dX_addPiece_21 : decode cX_addPiece 21 = .ok (.iastore, 1) := by decide +kernel
theorem dX_addPiece_22 : decode cX_addPiece 22 = .ok (.aload_n 0, 1) := by decide +kernel
theorem dX_addPiece_23 : decode cX_addPiece 23 = .ok (.getfield 16, 3) := by decide +kernel
theorem dX_addPiece_26 : decode cX_addPiece 26 = .ok (.iload 5, 2) := by decide +kernel
theorem dX_addPiece_28 : decode cX_addPiece 28 = .ok (.iload 4, 2) := by decide +kernel
theorem dX_addPiece_30 : decode cX_addPiece 30 = .ok (.iastore, 1) := by decide +kernel
theorem dX_addPiece_31 : decode cX_addPiece 31 = .ok (.aload_n 0, 1) := by decide +kernel
theorem dX_addPiece_32 : decode cX_addPiece 32 = .ok (.getfield 19, 3) := by decide +kernel
theorem dX_addPiece_35 : decode cX_addPiece 35 = .ok (.iload 5, 2) := by decide +kernel
theorem dX_addPiece_37 : decode cX_addPiece 37 = .ok (.iconst 0, 1) := by decide +kernel
theorem dX_addPiece_38 : decode cX_addPiece 38 = .ok (.iastore, 1) := by decide +kernel
theorem dX_addPiece_39 : decode cX_addPiece 39 = .ok (.aload_n 0, 1) := by decide +kernel
theorem dX_addPiece_40 : decode cX_addPiece 40 = .ok (.getfield 22, 3) := by decide +kernel
theorem dX_addPiece_43 : decode cX_addPiece 43 = .ok (.iload 5, 2) := by decide +kernel
theorem dX_addPiece_45 : decode cX_addPiece 45 = .ok (.iload_n 2, 1) := by decide +kernel
theorem dX_addPiece_46 : decode cX_addPiece 46 = .ok (.iastore, 1) := by decide +kernel
theorem dX_addPiece_47 : decode cX_addPiece 47 = .ok (.aload_n 0, 1) := by decide +kernel
theorem dX_addPiece_48 : decode cX_addPiece 48 = .ok (.getfield 25, 3) := by decide +kernel
theorem dX_addPiece_51 : decode cX_addPiece 51 = .ok (.iload 5, 2) := by decide +kernel
theorem dX_addPiece_53 : decode cX_addPiece 53 = .ok (.iconst (-1), 1) := by decide +kernel
theorem dX_addPiece_54 : decode cX_addPiece 54 = .ok (.iastore, 1) := by decide +kernel
theorem dX_addPiece_55 : decode cX_addPiece 55 = .ok (.aload_n 0, 1) := by decide +kernel
theorem dX_addPiece_56 : decode cX_addPiece 56 = .ok (.getfield 28, 3) := by decide +kernel
theorem dX_addPiece_59 : decode cX_addPiece 59 = .ok (.iload 5, 2) := by decide +kernel
theorem dX_addPiece_61 : decode cX_addPiece 61 = .ok (.iload_n 2, 1) := by decide +kernel
theorem dX_addPiece_62 : decode cX_addPiece 62 = .ok (.iconst (-1), 1) := by decide +kernel
theorem dX_addPiece_63 : decode cX_addPiece 63 = .ok (.if_icmp .ne 7, 3) := by decide +kernel
theorem dX_addPiece_66 : decode cX_addPiece 66 = .ok (.iconst 0, 1) := by decide +kernel
theorem dX_addPiece_67 : decode cX_addPiece 67 = .ok (.goto 9, 3) := by decide +kernel
theorem dX_addPiece_70 : decode cX_addPiece 70 = .ok (.aload_n 0, 1) := by decide +kernel
theorem dX_addPiece_71 : decode cX_addPiece 71 = .ok (.getfield 28, 3) := by decide +kernel
theorem dX_addPiece_74 : decode cX_addPiece 74 = .ok (.iload_n 2, 1) := by decide +kernel
theorem dX_addPiece_75 : decode cX_addPiece 75 = .ok (.iaload, 1) := by decide +kernel
theorem dX_addPiece_76 : decode cX_addPiece 76 = .ok (.iastore, 1) := by decide +kernel
theorem dX_addPiece_77 : decode cX_addPiece 77 = .ok (.aload_n 0, 1) := by decide +kernel
theorem dX_addPiece_78 : decode cX_addPiece 78 = .ok (.dup, 1) := by decide +kernel
theorem dX_addPiece_79 : decode cX_addPiece 79 = .ok (.getfield 157, 3) := by decide +kernel
theorem dX_addPiece_82 : decode cX_addPiece 82 = .ok (.iconst 1, 1) := by decide +kernel
theorem dX_addPiece_83 : decode cX_addPiece 83 = .ok (.iadd, 1) := by decide +kernel
theorem dX_addPiece_84 : decode cX_addPiece 84 = .ok (.putfield 157, 3) := by decide +kernel
theorem dX_addPiece_87 : decode cX_addPiece 87 = .ok (.iload 5, 2) := by decide +kernel
theorem dX_addPiece_89 : decode cX_addPiece 89 = .ok (.ireturn, 1) := by decide +kernel
theorem dX_liveWeight_0 : decode cX_liveWeight 0 = .ok (.lconst 0, 1) := by decide +kernel
theorem dX_liveWeight_1 : decode cX_liveWeight 1 = .ok (.lstore_n 1, 1) := by decide +kernel
theorem dX_liveWeight_2 : decode cX_liveWeight 2 = .ok (.iconst 0, 1) := by decide +kernel
theorem dX_liveWeight_3 : decode cX_liveWeight 3 = .ok (.istore_n 3, 1) := by decide +kernel
theorem dX_liveWeight_4 : decode cX_liveWeight 4 = .ok (.iload_n 3, 1) := by decide +kernel
theorem dX_liveWeight_5 : decode cX_liveWeight 5 = .ok (.aload_n 0, 1) := by decide +kernel
theorem dX_liveWeight_6 : decode cX_liveWeight 6 = .ok (.getfield 157, 3) := by decide +kernel
theorem dX_liveWeight_9 : decode cX_liveWeight 9 = .ok (.if_icmp .ge 27, 3) := by decide +kernel
theorem dX_liveWeight_12 : decode cX_liveWeight 12 = .ok (.aload_n 0, 1) := by decide +kernel
theorem dX_liveWeight_13 : decode cX_liveWeight 13 = .ok (.iload_n 3, 1) := by decide +kernel
theorem dX_liveWeight_14 : decode cX_liveWeight 14 = .ok (.invokevirtual 123, 3) := by decide +kernel
theorem dX_liveWeight_17 : decode cX_liveWeight 17 = .ok (.ifCond .eq 13, 3) := by decide +kernel
theorem dX_liveWeight_20 : decode cX_liveWeight 20 = .ok (.lload_n 1, 1) := by decide +kernel
theorem dX_liveWeight_21 : decode cX_liveWeight 21 = .ok (.aload_n 0, 1) := by decide +kernel
theorem dX_liveWeight_22 : decode cX_liveWeight 22 = .ok (.getfield 13, 3) := by decide +kernel
theorem dX_liveWeight_25 : decode cX_liveWeight 25 = .ok (.iload_n 3, 1) := by decide +kernel
theorem dX_liveWeight_26 : decode cX_liveWeight 26 = .ok (.iaload, 1) := by decide +kernel
theorem dX_liveWeight_27 : decode cX_liveWeight 27 = .ok (.i2l, 1) := by decide +kernel
theorem dX_liveWeight_28 : decode cX_liveWeight 28 = .ok (.ladd, 1) := by decide +kernel
theorem dX_liveWeight_29 : decode cX_liveWeight 29 = .ok (.lstore_n 1, 1) := by decide +kernel
theorem dX_liveWeight_30 : decode cX_liveWeight 30 = .ok (.iinc 3 1, 3) := by decide +kernel
theorem dX_liveWeight_33 : decode cX_liveWeight 33 = .ok (.goto (-29), 3) := by decide +kernel
theorem dX_liveWeight_36 : decode cX_liveWeight 36 = .ok (.lload_n 1, 1) := by decide +kernel
theorem dX_liveWeight_37 : decode cX_liveWeight 37 = .ok (.lreturn, 1) := by decide +kernel
theorem dX_walkBack_0 : decode cX_walkBack 0 = .ok (.aload_n 0, 1) := by decide +kernel
theorem dX_walkBack_1 : decode cX_walkBack 1 = .ok (.getfield 53, 3) := by decide +kernel
theorem dX_walkBack_4 : decode cX_walkBack 4 = .ok (.iload_n 2, 1) := by decide +kernel
theorem dX_walkBack_5 : decode cX_walkBack 5 = .ok (.i2l, 1) := by decide +kernel
theorem dX_walkBack_6 : decode cX_walkBack 6 = .ok (.lconst 1, 1) := by decide +kernel
theorem dX_walkBack_7 : decode cX_walkBack 7 = .ok (.invokevirtual 182, 3) := by decide +kernel
theorem dX_walkBack_10 : decode cX_walkBack 10 = .ok (.iload_n 1, 1) := by decide +kernel
theorem dX_walkBack_11 : decode cX_walkBack 11 = .ok (.istore_n 3, 1) := by decide +kernel
theorem dX_walkBack_12 : decode cX_walkBack 12 = .ok (.iconst 0, 1) := by decide +kernel
theorem dX_walkBack_13 : decode cX_walkBack 13 = .ok (.istore 4, 2) := by decide +kernel
theorem dX_walkBack_15 : decode cX_walkBack 15 = .ok (.iload 4, 2) := by decide +kernel
theorem dX_walkBack_17 : decode cX_walkBack 17 = .ok (.bipush 40, 2) := by decide +kernel
theorem dX_walkBack_19 : decode cX_walkBack 19 = .ok (.if_icmp .ge 30, 3) := by decide +kernel
theorem dX_walkBack_22 : decode cX_walkBack 22 = .ok (.aload_n 0, 1) := by decide +kernel
theorem dX_walkBack_23 : decode cX_walkBack 23 = .ok (.iload_n 3, 1) := by decide +kernel
theorem dX_walkBack_24 : decode cX_walkBack 24 = .ok (.invokevirtual 186, 3) := by decide +kernel
theorem dX_walkBack_27 : decode cX_walkBack 27 = .ok (.istore 5, 2) := by decide +kernel
theorem dX_walkBack_29 : decode cX_walkBack 29 = .ok (.aload_n 0, 1) := by decide +kernel
theorem dX_walkBack_30 : decode cX_walkBack 30 = .ok (.iload 5, 2) := by decide +kernel
theorem dX_walkBack_32 : decode cX_walkBack 32 = .ok (.invokevirtual 164, 3) := by decide +kernel
theorem dX_walkBack_35 : decode cX_walkBack 35 = .ok (.ifCond .ne 5, 3) := by decide +kernel
theorem dX_walkBack_38 : decode cX_walkBack 38 = .ok (.iload_n 3, 1) := by decide +kernel
theorem dX_walkBack_39 : decode cX_walkBack 39 = .ok (.ireturn, 1) := by decide +kernel
theorem dX_walkBack_40 : decode cX_walkBack 40 = .ok (.iload 5, 2) := by decide +kernel
theorem dX_walkBack_42 : decode cX_walkBack 42 = .ok (.istore_n 3, 1) := by decide +kernel
theorem dX_walkBack_43 : decode cX_walkBack 43 = .ok (.iinc 4 1, 3) := by decide +kernel
theorem dX_walkBack_46 : decode cX_walkBack 46 = .ok (.goto (-31), 3) := by decide +kernel
theorem dX_walkBack_49 : decode cX_walkBack 49 = .ok (.iload_n 3, 1) := by decide +kernel
theorem dX_walkBack_50 : decode cX_walkBack 50 = .ok (.ireturn, 1) := by decide +kernel
theorem dX_stepBack_0 : decode cX_stepBack 0 = .ok (.aload_n 0, 1) := by decide +kernel
theorem dX_stepBack_1 : decode cX_stepBack 1 = .ok (.getfield 9, 3) := by decide +kernel
theorem dX_stepBack_4 : decode cX_stepBack 4 = .ok (.iload_n 1, 1) := by decide +kernel
theorem dX_stepBack_5 : decode cX_stepBack 5 = .ok (.iaload, 1) := by decide +kernel
theorem dX_stepBack_6 : decode cX_stepBack 6 = .ok (.tableswitch 121 2 4 #[26, 47, 93], 26) := by decide +kernel
theorem dX_stepBack_32 : decode cX_stepBack 32 = .ok (.aload_n 0, 1) := by decide +kernel
theorem dX_stepBack_33 : decode cX_stepBack 33 = .ok (.getfield 53, 3) := by decide +kernel
theorem dX_stepBack_36 : decode cX_stepBack 36 = .ok (.aload_n 0, 1) := by decide +kernel
theorem dX_stepBack_37 : decode cX_stepBack 37 = .ok (.getfield 31, 3) := by decide +kernel
theorem dX_stepBack_40 : decode cX_stepBack 40 = .ok (.iload_n 1, 1) := by decide +kernel
theorem dX_stepBack_41 : decode cX_stepBack 41 = .ok (.iaload, 1) := by decide +kernel
theorem dX_stepBack_42 : decode cX_stepBack 42 = .ok (.i2l, 1) := by decide +kernel
theorem dX_stepBack_43 : decode cX_stepBack 43 = .ok (.invokevirtual 190, 3) := by decide +kernel
theorem dX_stepBack_46 : decode cX_stepBack 46 = .ok (.aload_n 0, 1) := by decide +kernel
theorem dX_stepBack_47 : decode cX_stepBack 47 = .ok (.getfield 22, 3) := by decide +kernel
theorem dX_stepBack_50 : decode cX_stepBack 50 = .ok (.iload_n 1, 1) := by decide +kernel
theorem dX_stepBack_51 : decode cX_stepBack 51 = .ok (.iaload, 1) := by decide +kernel
theorem dX_stepBack_52 : decode cX_stepBack 52 = .ok (.ireturn, 1) := by decide +kernel
theorem dX_stepBack_53 : decode cX_stepBack 53 = .ok (.aload_n 0, 1) := by decide +kernel
theorem dX_stepBack_54 : decode cX_stepBack 54 = .ok (.getfield 53, 3) := by decide +kernel
theorem dX_stepBack_57 : decode cX_stepBack 57 = .ok (.aload_n 0, 1) := by decide +kernel
theorem dX_stepBack_58 : decode cX_stepBack 58 = .ok (.getfield 31, 3) := by decide +kernel
theorem dX_stepBack_61 : decode cX_stepBack 61 = .ok (.iload_n 1, 1) := by decide +kernel
theorem dX_stepBack_62 : decode cX_stepBack 62 = .ok (.iaload, 1) := by decide +kernel
theorem dX_stepBack_63 : decode cX_stepBack 63 = .ok (.i2l, 1) := by decide +kernel
theorem dX_stepBack_64 : decode cX_stepBack 64 = .ok (.invokevirtual 194, 3) := by decide +kernel
theorem dX_stepBack_67 : decode cX_stepBack 67 = .ok (.ifCond .eq 10, 3) := by decide +kernel
theorem dX_stepBack_70 : decode cX_stepBack 70 = .ok (.aload_n 0, 1) := by decide +kernel
theorem dX_stepBack_71 : decode cX_stepBack 71 = .ok (.getfield 22, 3) := by decide +kernel
theorem dX_stepBack_74 : decode cX_stepBack 74 = .ok (.iload_n 1, 1) := by decide +kernel
theorem dX_stepBack_75 : decode cX_stepBack 75 = .ok (.iaload, 1) := by decide +kernel
theorem dX_stepBack_76 : decode cX_stepBack 76 = .ok (.ireturn, 1) := by decide +kernel
theorem dX_stepBack_77 : decode cX_stepBack 77 = .ok (.aload_n 0, 1) := by decide +kernel
theorem dX_stepBack_78 : decode cX_stepBack 78 = .ok (.getfield 53, 3) := by decide +kernel
theorem dX_stepBack_81 : decode cX_stepBack 81 = .ok (.aload_n 0, 1) := by decide +kernel
theorem dX_stepBack_82 : decode cX_stepBack 82 = .ok (.getfield 31, 3) := by decide +kernel
theorem dX_stepBack_85 : decode cX_stepBack 85 = .ok (.iload_n 1, 1) := by decide +kernel
theorem dX_stepBack_86 : decode cX_stepBack 86 = .ok (.iaload, 1) := by decide +kernel
theorem dX_stepBack_87 : decode cX_stepBack 87 = .ok (.ineg, 1) := by decide +kernel
theorem dX_stepBack_88 : decode cX_stepBack 88 = .ok (.i2l, 1) := by decide +kernel
theorem dX_stepBack_89 : decode cX_stepBack 89 = .ok (.invokevirtual 190, 3) := by decide +kernel
theorem dX_stepBack_92 : decode cX_stepBack 92 = .ok (.aload_n 0, 1) := by decide +kernel
theorem dX_stepBack_93 : decode cX_stepBack 93 = .ok (.getfield 25, 3) := by decide +kernel
theorem dX_stepBack_96 : decode cX_stepBack 96 = .ok (.iload_n 1, 1) := by decide +kernel
theorem dX_stepBack_97 : decode cX_stepBack 97 = .ok (.iaload, 1) := by decide +kernel
theorem dX_stepBack_98 : decode cX_stepBack 98 = .ok (.ireturn, 1) := by decide +kernel
theorem dX_stepBack_99 : decode cX_stepBack 99 = .ok (.aload_n 0, 1) := by decide +kernel
theorem dX_stepBack_100 : decode cX_stepBack 100 = .ok (.getfield 53, 3) := by decide +kernel
theorem dX_stepBack_103 : decode cX_stepBack 103 = .ok (.aload_n 0, 1) := by decide +kernel
theorem dX_stepBack_104 : decode cX_stepBack 104 = .ok (.getfield 37, 3) := by decide +kernel
theorem dX_stepBack_107 : decode cX_stepBack 107 = .ok (.iload_n 1, 1) := by decide +kernel
theorem dX_stepBack_108 : decode cX_stepBack 108 = .ok (.iaload, 1) := by decide +kernel
theorem dX_stepBack_109 : decode cX_stepBack 109 = .ok (.i2l, 1) := by decide +kernel
theorem dX_stepBack_110 : decode cX_stepBack 110 = .ok (.aload_n 0, 1) := by decide +kernel
theorem dX_stepBack_111 : decode cX_stepBack 111 = .ok (.getfield 34, 3) := by decide +kernel
theorem dX_stepBack_114 : decode cX_stepBack 114 = .ok (.iload_n 1, 1) := by decide +kernel
theorem dX_stepBack_115 : decode cX_stepBack 115 = .ok (.iaload, 1) := by decide +kernel
theorem dX_stepBack_116 : decode cX_stepBack 116 = .ok (.i2l, 1) := by decide +kernel
theorem dX_stepBack_117 : decode cX_stepBack 117 = .ok (.invokevirtual 198, 3) := by decide +kernel
theorem dX_stepBack_120 : decode cX_stepBack 120 = .ok (.aload_n 0, 1) := by decide +kernel
theorem dX_stepBack_121 : decode cX_stepBack 121 = .ok (.getfield 22, 3) := by decide +kernel
theorem dX_stepBack_124 : decode cX_stepBack 124 = .ok (.iload_n 1, 1) := by decide +kernel
theorem dX_stepBack_125 : decode cX_stepBack 125 = .ok (.iaload, 1) := by decide +kernel
theorem dX_stepBack_126 : decode cX_stepBack 126 = .ok (.ireturn, 1) := by decide +kernel
theorem dX_stepBack_127 : decode cX_stepBack 127 = .ok (.aload_n 0, 1) := by decide +kernel
theorem dX_stepBack_128 : decode cX_stepBack 128 = .ok (.getfield 22, 3) := by decide +kernel
theorem dX_stepBack_131 : decode cX_stepBack 131 = .ok (.iload_n 1, 1) := by decide +kernel
theorem dX_stepBack_132 : decode cX_stepBack 132 = .ok (.iaload, 1) := by decide +kernel
theorem dX_stepBack_133 : decode cX_stepBack 133 = .ok (.ireturn, 1) := by decide +kernel
theorem dX_follow_0 : decode cX_follow 0 = .ok (.iconst 0, 1) := by decide +kernel
theorem dX_follow_1 : decode cX_follow 1 = .ok (.istore_n 2, 1) := by decide +kernel
theorem dX_follow_2 : decode cX_follow 2 = .ok (.iload_n 2, 1) := by decide +kernel
theorem dX_follow_3 : decode cX_follow 3 = .ok (.aload_n 0, 1) := by decide +kernel
theorem dX_follow_4 : decode cX_follow 4 = .ok (.getfield 157, 3) := by decide +kernel
theorem dX_follow_7 : decode cX_follow 7 = .ok (.if_icmp .ge 58, 3) := by decide +kernel
theorem dX_follow_10 : decode cX_follow 10 = .ok (.aload_n 0, 1) := by decide +kernel
theorem dX_follow_11 : decode cX_follow 11 = .ok (.iload_n 1, 1) := by decide +kernel
theorem dX_follow_12 : decode cX_follow 12 = .ok (.iload_n 2, 1) := by decide +kernel
theorem dX_follow_13 : decode cX_follow 13 = .ok (.invokevirtual 201, 3) := by decide +kernel
theorem dX_follow_16 : decode cX_follow 16 = .ok (.istore_n 3, 1) := by decide +kernel
theorem dX_follow_17 : decode cX_follow 17 = .ok (.aload_n 0, 1) := by decide +kernel
theorem dX_follow_18 : decode cX_follow 18 = .ok (.getfield 57, 3) := by decide +kernel
theorem dX_follow_21 : decode cX_follow 21 = .ok (.iload_n 2, 1) := by decide +kernel
theorem dX_follow_22 : decode cX_follow 22 = .ok (.iload_n 3, 1) := by decide +kernel
theorem dX_follow_23 : decode cX_follow 23 = .ok (.ifCond .eq 13, 3) := by decide +kernel
theorem dX_follow_26 : decode cX_follow 26 = .ok (.aload_n 0, 1) := by decide +kernel
theorem dX_follow_27 : decode cX_follow 27 = .ok (.getfield 53, 3) := by decide +kernel
theorem dX_follow_30 : decode cX_follow 30 = .ok (.getfield 136, 3) := by decide +kernel
theorem dX_follow_33 : decode cX_follow 33 = .ok (.goto 4, 3) := by decide +kernel
theorem dX_follow_36 : decode cX_follow 36 = .ok (.lconst 0, 1) := by decide +kernel
theorem dX_follow_37 : decode cX_follow 37 = .ok (.lastore, 1) := by decide +kernel
theorem dX_follow_38 : decode cX_follow 38 = .ok (.aload_n 0, 1) := by decide +kernel
theorem dX_follow_39 : decode cX_follow 39 = .ok (.getfield 60, 3) := by decide +kernel
theorem dX_follow_42 : decode cX_follow 42 = .ok (.iload_n 2, 1) := by decide +kernel
theorem dX_follow_43 : decode cX_follow 43 = .ok (.iload_n 3, 1) := by decide +kernel
theorem dX_follow_44 : decode cX_follow 44 = .ok (.ifCond .eq 13, 3) := by decide +kernel
theorem dX_follow_47 : decode cX_follow 47 = .ok (.aload_n 0, 1) := by decide +kernel
theorem dX_follow_48 : decode cX_follow 48 = .ok (.getfield 53, 3) := by decide +kernel
theorem dX_follow_51 : decode cX_follow 51 = .ok (.getfield 139, 3) := by decide +kernel
theorem dX_follow_54 : decode cX_follow 54 = .ok (.goto 4, 3) := by decide +kernel
theorem dX_follow_57 : decode cX_follow 57 = .ok (.lconst 0, 1) := by decide +kernel
theorem dX_follow_58 : decode cX_follow 58 = .ok (.lastore, 1) := by decide +kernel
theorem dX_follow_59 : decode cX_follow 59 = .ok (.iinc 2 1, 3) := by decide +kernel
theorem dX_follow_62 : decode cX_follow 62 = .ok (.goto (-60), 3) := by decide +kernel
theorem dX_follow_65 : decode cX_follow 65 = .ok (.return_, 1) := by decide +kernel
theorem dX_stepForward_0 : decode cX_stepForward 0 = .ok (.aload_n 0, 1) := by decide +kernel
theorem dX_stepForward_1 : decode cX_stepForward 1 = .ok (.aload_n 0, 1) := by decide +kernel
theorem dX_stepForward_2 : decode cX_stepForward 2 = .ok (.getfield 22, 3) := by decide +kernel
theorem dX_stepForward_5 : decode cX_stepForward 5 = .ok (.iload_n 2, 1) := by decide +kernel
theorem dX_stepForward_6 : decode cX_stepForward 6 = .ok (.iaload, 1) := by decide +kernel
theorem dX_stepForward_7 : decode cX_stepForward 7 = .ok (.invokevirtual 205, 3) := by decide +kernel
theorem dX_stepForward_10 : decode cX_stepForward 10 = .ok (.istore_n 3, 1) := by decide +kernel
theorem dX_stepForward_11 : decode cX_stepForward 11 = .ok (.aload_n 0, 1) := by decide +kernel
theorem dX_stepForward_12 : decode cX_stepForward 12 = .ok (.getfield 9, 3) := by decide +kernel
theorem dX_stepForward_15 : decode cX_stepForward 15 = .ok (.iload_n 2, 1) := by decide +kernel
theorem dX_stepForward_16 : decode cX_stepForward 16 = .ok (.iaload, 1) := by decide +kernel
theorem dX_stepForward_17 : decode cX_stepForward 17 = .ok (.tableswitch 214 0 4 #[35, 70, 97, 137, 172], 35) := by decide +kernel
theorem dX_stepForward_52 : decode cX_stepForward 52 = .ok (.aload_n 0, 1) := by decide +kernel
theorem dX_stepForward_53 : decode cX_stepForward 53 = .ok (.getfield 53, 3) := by decide +kernel
theorem dX_stepForward_56 : decode cX_stepForward 56 = .ok (.aload_n 0, 1) := by decide +kernel
theorem dX_stepForward_57 : decode cX_stepForward 57 = .ok (.getfield 43, 3) := by decide +kernel
theorem dX_stepForward_60 : decode cX_stepForward 60 = .ok (.iload_n 1, 1) := by decide +kernel
theorem dX_stepForward_61 : decode cX_stepForward 61 = .ok (.laload, 1) := by decide +kernel
theorem dX_stepForward_62 : decode cX_stepForward 62 = .ok (.aload_n 0, 1) := by decide +kernel
theorem dX_stepForward_63 : decode cX_stepForward 63 = .ok (.getfield 47, 3) := by decide +kernel
theorem dX_stepForward_66 : decode cX_stepForward 66 = .ok (.iload_n 1, 1) := by decide +kernel
theorem dX_stepForward_67 : decode cX_stepForward 67 = .ok (.laload, 1) := by decide +kernel
theorem dX_stepForward_68 : decode cX_stepForward 68 = .ok (.invokevirtual 182, 3) := by decide +kernel
theorem dX_stepForward_71 : decode cX_stepForward 71 = .ok (.aload_n 0, 1) := by decide +kernel
theorem dX_stepForward_72 : decode cX_stepForward 72 = .ok (.getfield 40, 3) := by decide +kernel
theorem dX_stepForward_75 : decode cX_stepForward 75 = .ok (.iload_n 1, 1) := by decide +kernel
theorem dX_stepForward_76 : decode cX_stepForward 76 = .ok (.iaload, 1) := by decide +kernel
theorem dX_stepForward_77 : decode cX_stepForward 77 = .ok (.iload_n 2, 1) := by decide +kernel
theorem dX_stepForward_78 : decode cX_stepForward 78 = .ok (.if_icmp .ne 7, 3) := by decide +kernel
theorem dX_stepForward_81 : decode cX_stepForward 81 = .ok (.iconst 1, 1) := by decide +kernel
theorem dX_stepForward_82 : decode cX_stepForward 82 = .ok (.goto 4, 3) := by decide +kernel
theorem dX_stepForward_85 : decode cX_stepForward 85 = .ok (.iconst 0, 1) := by decide +kernel
theorem dX_stepForward_86 : decode cX_stepForward 86 = .ok (.ireturn, 1) := by decide +kernel
theorem dX_stepForward_87 : decode cX_stepForward 87 = .ok (.iload_n 3, 1) := by decide +kernel
theorem dX_stepForward_88 : decode cX_stepForward 88 = .ok (.ifCond .eq 24, 3) := by decide +kernel
theorem dX_stepForward_91 : decode cX_stepForward 91 = .ok (.aload_n 0, 1) := by decide +kernel
theorem dX_stepForward_92 : decode cX_stepForward 92 = .ok (.getfield 53, 3) := by decide +kernel
theorem dX_stepForward_95 : decode cX_stepForward 95 = .ok (.aload_n 0, 1) := by decide +kernel
theorem dX_stepForward_96 : decode cX_stepForward 96 = .ok (.getfield 31, 3) := by decide +kernel
theorem dX_stepForward_99 : decode cX_stepForward 99 = .ok (.iload_n 2, 1) := by decide +kernel
theorem dX_stepForward_100 : decode cX_stepForward 100 = .ok (.iaload, 1) := by decide +kernel
theorem dX_stepForward_101 : decode cX_stepForward 101 = .ok (.i2l, 1) := by decide +kernel
theorem dX_stepForward_102 : decode cX_stepForward 102 = .ok (.invokevirtual 194, 3) := by decide +kernel
theorem dX_stepForward_105 : decode cX_stepForward 105 = .ok (.ifCond .eq 7, 3) := by decide +kernel
theorem dX_stepForward_108 : decode cX_stepForward 108 = .ok (.iconst 1, 1) := by decide +kernel
theorem dX_stepForward_109 : decode cX_stepForward 109 = .ok (.goto 4, 3) := by decide +kernel
theorem dX_stepForward_112 : decode cX_stepForward 112 = .ok (.iconst 0, 1) := by decide +kernel
theorem dX_stepForward_113 : decode cX_stepForward 113 = .ok (.ireturn, 1) := by decide +kernel
theorem dX_stepForward_114 : decode cX_stepForward 114 = .ok (.iload_n 3, 1) := by decide +kernel
theorem dX_stepForward_115 : decode cX_stepForward 115 = .ok (.ifCond .eq 20, 3) := by decide +kernel
theorem dX_stepForward_118 : decode cX_stepForward 118 = .ok (.aload_n 0, 1) := by decide +kernel
theorem dX_stepForward_119 : decode cX_stepForward 119 = .ok (.getfield 53, 3) := by decide +kernel
theorem dX_stepForward_122 : decode cX_stepForward 122 = .ok (.aload_n 0, 1) := by decide +kernel
theorem dX_stepForward_123 : decode cX_stepForward 123 = .ok (.getfield 31, 3) := by decide +kernel
theorem dX_stepForward_126 : decode cX_stepForward 126 = .ok (.iload_n 2, 1) := by decide +kernel
theorem dX_stepForward_127 : decode cX_stepForward 127 = .ok (.iaload, 1) := by decide +kernel
theorem dX_stepForward_128 : decode cX_stepForward 128 = .ok (.i2l, 1) := by decide +kernel
theorem dX_stepForward_129 : decode cX_stepForward 129 = .ok (.invokevirtual 194, 3) := by decide +kernel
theorem dX_stepForward_132 : decode cX_stepForward 132 = .ok (.ifCond .eq 5, 3) := by decide +kernel
theorem dX_stepForward_135 : decode cX_stepForward 135 = .ok (.iconst 0, 1) := by decide +kernel
theorem dX_stepForward_136 : decode cX_stepForward 136 = .ok (.ireturn, 1) := by decide +kernel
theorem dX_stepForward_137 : decode cX_stepForward 137 = .ok (.aload_n 0, 1) := by decide +kernel
theorem dX_stepForward_138 : decode cX_stepForward 138 = .ok (.getfield 53, 3) := by decide +kernel
theorem dX_stepForward_141 : decode cX_stepForward 141 = .ok (.aload_n 0, 1) := by decide +kernel
theorem dX_stepForward_142 : decode cX_stepForward 142 = .ok (.getfield 31, 3) := by decide +kernel
theorem dX_stepForward_145 : decode cX_stepForward 145 = .ok (.iload_n 2, 1) := by decide +kernel
theorem dX_stepForward_146 : decode cX_stepForward 146 = .ok (.iaload, 1) := by decide +kernel
theorem dX_stepForward_147 : decode cX_stepForward 147 = .ok (.ineg, 1) := by decide +kernel
theorem dX_stepForward_148 : decode cX_stepForward 148 = .ok (.i2l, 1) := by decide +kernel
theorem dX_stepForward_149 : decode cX_stepForward 149 = .ok (.invokevirtual 190, 3) := by decide +kernel
theorem dX_stepForward_152 : decode cX_stepForward 152 = .ok (.iconst 1, 1) := by decide +kernel
theorem dX_stepForward_153 : decode cX_stepForward 153 = .ok (.ireturn, 1) := by decide +kernel
theorem dX_stepForward_154 : decode cX_stepForward 154 = .ok (.iload_n 3, 1) := by decide +kernel
theorem dX_stepForward_155 : decode cX_stepForward 155 = .ok (.ifCond .ne 16, 3) := by decide +kernel
theorem dX_stepForward_158 : decode cX_stepForward 158 = .ok (.aload_n 0, 1) := by decide +kernel
theorem dX_stepForward_159 : decode cX_stepForward 159 = .ok (.aload_n 0, 1) := by decide +kernel
theorem dX_stepForward_160 : decode cX_stepForward 160 = .ok (.getfield 25, 3) := by decide +kernel
theorem dX_stepForward_163 : decode cX_stepForward 163 = .ok (.iload_n 2, 1) := by decide +kernel
theorem dX_stepForward_164 : decode cX_stepForward 164 = .ok (.iaload, 1) := by decide +kernel
theorem dX_stepForward_165 : decode cX_stepForward 165 = .ok (.invokevirtual 205, 3) := by decide +kernel
theorem dX_stepForward_168 : decode cX_stepForward 168 = .ok (.ifCond .ne 5, 3) := by decide +kernel
theorem dX_stepForward_171 : decode cX_stepForward 171 = .ok (.iload_n 3, 1) := by decide +kernel
theorem dX_stepForward_172 : decode cX_stepForward 172 = .ok (.ireturn, 1) := by decide +kernel
theorem dX_stepForward_173 : decode cX_stepForward 173 = .ok (.aload_n 0, 1) := by decide +kernel
theorem dX_stepForward_174 : decode cX_stepForward 174 = .ok (.getfield 53, 3) := by decide +kernel
theorem dX_stepForward_177 : decode cX_stepForward 177 = .ok (.aload_n 0, 1) := by decide +kernel
theorem dX_stepForward_178 : decode cX_stepForward 178 = .ok (.getfield 31, 3) := by decide +kernel
theorem dX_stepForward_181 : decode cX_stepForward 181 = .ok (.iload_n 2, 1) := by decide +kernel
theorem dX_stepForward_182 : decode cX_stepForward 182 = .ok (.iaload, 1) := by decide +kernel
theorem dX_stepForward_183 : decode cX_stepForward 183 = .ok (.i2l, 1) := by decide +kernel
theorem dX_stepForward_184 : decode cX_stepForward 184 = .ok (.invokevirtual 190, 3) := by decide +kernel
theorem dX_stepForward_187 : decode cX_stepForward 187 = .ok (.iconst 1, 1) := by decide +kernel
theorem dX_stepForward_188 : decode cX_stepForward 188 = .ok (.ireturn, 1) := by decide +kernel
theorem dX_stepForward_189 : decode cX_stepForward 189 = .ok (.iload_n 3, 1) := by decide +kernel
theorem dX_stepForward_190 : decode cX_stepForward 190 = .ok (.ifCond .ne 5, 3) := by decide +kernel
theorem dX_stepForward_193 : decode cX_stepForward 193 = .ok (.iconst 0, 1) := by decide +kernel
theorem dX_stepForward_194 : decode cX_stepForward 194 = .ok (.ireturn, 1) := by decide +kernel
theorem dX_stepForward_195 : decode cX_stepForward 195 = .ok (.aload_n 0, 1) := by decide +kernel
theorem dX_stepForward_196 : decode cX_stepForward 196 = .ok (.getfield 53, 3) := by decide +kernel
theorem dX_stepForward_199 : decode cX_stepForward 199 = .ok (.aload_n 0, 1) := by decide +kernel
theorem dX_stepForward_200 : decode cX_stepForward 200 = .ok (.getfield 34, 3) := by decide +kernel
theorem dX_stepForward_203 : decode cX_stepForward 203 = .ok (.iload_n 2, 1) := by decide +kernel
theorem dX_stepForward_204 : decode cX_stepForward 204 = .ok (.iaload, 1) := by decide +kernel
theorem dX_stepForward_205 : decode cX_stepForward 205 = .ok (.i2l, 1) := by decide +kernel
theorem dX_stepForward_206 : decode cX_stepForward 206 = .ok (.aload_n 0, 1) := by decide +kernel
theorem dX_stepForward_207 : decode cX_stepForward 207 = .ok (.getfield 37, 3) := by decide +kernel
theorem dX_stepForward_210 : decode cX_stepForward 210 = .ok (.iload_n 2, 1) := by decide +kernel
theorem dX_stepForward_211 : decode cX_stepForward 211 = .ok (.iaload, 1) := by decide +kernel
theorem dX_stepForward_212 : decode cX_stepForward 212 = .ok (.i2l, 1) := by decide +kernel
theorem dX_stepForward_213 : decode cX_stepForward 213 = .ok (.invokevirtual 198, 3) := by decide +kernel
theorem dX_stepForward_216 : decode cX_stepForward 216 = .ok (.aload_n 0, 1) := by decide +kernel
theorem dX_stepForward_217 : decode cX_stepForward 217 = .ok (.getfield 53, 3) := by decide +kernel
theorem dX_stepForward_220 : decode cX_stepForward 220 = .ok (.aload_n 0, 1) := by decide +kernel
theorem dX_stepForward_221 : decode cX_stepForward 221 = .ok (.getfield 16, 3) := by decide +kernel
theorem dX_stepForward_224 : decode cX_stepForward 224 = .ok (.iload_n 2, 1) := by decide +kernel
theorem dX_stepForward_225 : decode cX_stepForward 225 = .ok (.iaload, 1) := by decide +kernel
theorem dX_stepForward_226 : decode cX_stepForward 226 = .ok (.i2l, 1) := by decide +kernel
theorem dX_stepForward_227 : decode cX_stepForward 227 = .ok (.invokevirtual 194, 3) := by decide +kernel
theorem dX_stepForward_230 : decode cX_stepForward 230 = .ok (.ireturn, 1) := by decide +kernel
theorem dX_stepForward_231 : decode cX_stepForward 231 = .ok (.iload_n 3, 1) := by decide +kernel
theorem dX_stepForward_232 : decode cX_stepForward 232 = .ok (.ireturn, 1) := by decide +kernel
theorem dX_takeFound_0 : decode cX_takeFound 0 = .ok (.aload_n 0, 1) := by decide +kernel
theorem dX_takeFound_1 : decode cX_takeFound 1 = .ok (.iload_n 1, 1) := by decide +kernel
theorem dX_takeFound_2 : decode cX_takeFound 2 = .ok (.invokevirtual 164, 3) := by decide +kernel
theorem dX_takeFound_5 : decode cX_takeFound 5 = .ok (.ifCond .ne 5, 3) := by decide +kernel
theorem dX_takeFound_8 : decode cX_takeFound 8 = .ok (.iconst 0, 1) := by decide +kernel
theorem dX_takeFound_9 : decode cX_takeFound 9 = .ok (.ireturn, 1) := by decide +kernel
theorem dX_takeFound_10 : decode cX_takeFound 10 = .ok (.aload_n 0, 1) := by decide +kernel
theorem dX_takeFound_11 : decode cX_takeFound 11 = .ok (.getfield 53, 3) := by decide +kernel
theorem dX_takeFound_14 : decode cX_takeFound 14 = .ok (.aload_n 0, 1) := by decide +kernel
theorem dX_takeFound_15 : decode cX_takeFound 15 = .ok (.getfield 57, 3) := by decide +kernel
theorem dX_takeFound_18 : decode cX_takeFound 18 = .ok (.iload_n 1, 1) := by decide +kernel
theorem dX_takeFound_19 : decode cX_takeFound 19 = .ok (.laload, 1) := by decide +kernel
theorem dX_takeFound_20 : decode cX_takeFound 20 = .ok (.aload_n 0, 1) := by decide +kernel
theorem dX_takeFound_21 : decode cX_takeFound 21 = .ok (.getfield 60, 3) := by decide +kernel
theorem dX_takeFound_24 : decode cX_takeFound 24 = .ok (.iload_n 1, 1) := by decide +kernel
theorem dX_takeFound_25 : decode cX_takeFound 25 = .ok (.laload, 1) := by decide +kernel
theorem dX_takeFound_26 : decode cX_takeFound 26 = .ok (.invokevirtual 182, 3) := by decide +kernel
theorem dX_takeFound_29 : decode cX_takeFound 29 = .ok (.aload_n 0, 1) := by decide +kernel
theorem dX_takeFound_30 : decode cX_takeFound 30 = .ok (.getfield 60, 3) := by decide +kernel
theorem dX_takeFound_33 : decode cX_takeFound 33 = .ok (.iload_n 1, 1) := by decide +kernel
theorem dX_takeFound_34 : decode cX_takeFound 34 = .ok (.laload, 1) := by decide +kernel
theorem dX_takeFound_35 : decode cX_takeFound 35 = .ok (.lconst 0, 1) := by decide +kernel
theorem dX_takeFound_36 : decode cX_takeFound 36 = .ok (.lcmp, 1) := by decide +kernel
theorem dX_takeFound_37 : decode cX_takeFound 37 = .ok (.ifCond .eq 7, 3) := by decide +kernel
theorem dX_takeFound_40 : decode cX_takeFound 40 = .ok (.iconst 1, 1) := by decide +kernel
theorem dX_takeFound_41 : decode cX_takeFound 41 = .ok (.goto 4, 3) := by decide +kernel
theorem dX_takeFound_44 : decode cX_takeFound 44 = .ok (.iconst 0, 1) := by decide +kernel
theorem dX_takeFound_45 : decode cX_takeFound 45 = .ok (.ireturn, 1) := by decide +kernel
theorem dP_init_0 : decode cP_init 0 = .ok (.aload_n 0, 1) := by decide +kernel
theorem dP_init_1 : decode cP_init 1 = .ok (.invokespecial 1, 3) := by decide +kernel
theorem dP_init_4 : decode cP_init 4 = .ok (.return_, 1) := by decide +kernel
theorem dP_set_0 : decode cP_set 0 = .ok (.aload_n 0, 1) := by decide +kernel
theorem dP_set_1 : decode cP_set 1 = .ok (.lload_n 1, 1) := by decide +kernel
theorem dP_set_2 : decode cP_set 2 = .ok (.putfield 7, 3) := by decide +kernel
theorem dP_set_5 : decode cP_set 5 = .ok (.aload_n 0, 1) := by decide +kernel
theorem dP_set_6 : decode cP_set 6 = .ok (.lload_n 3, 1) := by decide +kernel
theorem dP_set_7 : decode cP_set 7 = .ok (.putfield 13, 3) := by decide +kernel
theorem dP_set_10 : decode cP_set 10 = .ok (.return_, 1) := by decide +kernel
theorem dP_move_0 : decode cP_move 0 = .ok (.aload_n 0, 1) := by decide +kernel
theorem dP_move_1 : decode cP_move 1 = .ok (.dup, 1) := by decide +kernel
theorem dP_move_2 : decode cP_move 2 = .ok (.getfield 7, 3) := by decide +kernel
theorem dP_move_5 : decode cP_move 5 = .ok (.lload_n 1, 1) := by decide +kernel
theorem dP_move_6 : decode cP_move 6 = .ok (.aload_n 0, 1) := by decide +kernel
theorem dP_move_7 : decode cP_move 7 = .ok (.getfield 13, 3) := by decide +kernel
theorem dP_move_10 : decode cP_move 10 = .ok (.lmul, 1) := by decide +kernel
theorem dP_move_11 : decode cP_move 11 = .ok (.ladd, 1) := by decide +kernel
theorem dP_move_12 : decode cP_move 12 = .ok (.putfield 7, 3) := by decide +kernel
theorem dP_move_15 : decode cP_move 15 = .ok (.return_, 1) := by decide +kernel
theorem dP_stretch_0 : decode cP_stretch 0 = .ok (.aload_n 0, 1) := by decide +kernel
theorem dP_stretch_1 : decode cP_stretch 1 = .ok (.dup, 1) := by decide +kernel
theorem dP_stretch_2 : decode cP_stretch 2 = .ok (.getfield 7, 3) := by decide +kernel
theorem dP_stretch_5 : decode cP_stretch 5 = .ok (.lload_n 1, 1) := by decide +kernel
theorem dP_stretch_6 : decode cP_stretch 6 = .ok (.lmul, 1) := by decide +kernel
theorem dP_stretch_7 : decode cP_stretch 7 = .ok (.putfield 7, 3) := by decide +kernel
theorem dP_stretch_10 : decode cP_stretch 10 = .ok (.aload_n 0, 1) := by decide +kernel
theorem dP_stretch_11 : decode cP_stretch 11 = .ok (.dup, 1) := by decide +kernel
theorem dP_stretch_12 : decode cP_stretch 12 = .ok (.getfield 13, 3) := by decide +kernel
theorem dP_stretch_15 : decode cP_stretch 15 = .ok (.lload_n 3, 1) := by decide +kernel
theorem dP_stretch_16 : decode cP_stretch 16 = .ok (.lmul, 1) := by decide +kernel
theorem dP_stretch_17 : decode cP_stretch 17 = .ok (.putfield 13, 3) := by decide +kernel
theorem dP_stretch_20 : decode cP_stretch 20 = .ok (.aload_n 0, 1) := by decide +kernel
theorem dP_stretch_21 : decode cP_stretch 21 = .ok (.getfield 7, 3) := by decide +kernel
theorem dP_stretch_24 : decode cP_stretch 24 = .ok (.aload_n 0, 1) := by decide +kernel
theorem dP_stretch_25 : decode cP_stretch 25 = .ok (.getfield 13, 3) := by decide +kernel
theorem dP_stretch_28 : decode cP_stretch 28 = .ok (.invokestatic 16, 3) := by decide +kernel
theorem dP_stretch_31 : decode cP_stretch 31 = .ok (.lstore 5, 2) := by decide +kernel
theorem dP_stretch_33 : decode cP_stretch 33 = .ok (.lload 5, 2) := by decide +kernel
theorem dP_stretch_35 : decode cP_stretch 35 = .ok (.lconst 1, 1) := by decide +kernel
theorem dP_stretch_36 : decode cP_stretch 36 = .ok (.lcmp, 1) := by decide +kernel
theorem dP_stretch_37 : decode cP_stretch 37 = .ok (.ifCond .le 25, 3) := by decide +kernel
theorem dP_stretch_40 : decode cP_stretch 40 = .ok (.aload_n 0, 1) := by decide +kernel
theorem dP_stretch_41 : decode cP_stretch 41 = .ok (.dup, 1) := by decide +kernel
theorem dP_stretch_42 : decode cP_stretch 42 = .ok (.getfield 7, 3) := by decide +kernel
theorem dP_stretch_45 : decode cP_stretch 45 = .ok (.lload 5, 2) := by decide +kernel
theorem dP_stretch_47 : decode cP_stretch 47 = .ok (.ldiv, 1) := by decide +kernel
theorem dP_stretch_48 : decode cP_stretch 48 = .ok (.putfield 7, 3) := by decide +kernel
theorem dP_stretch_51 : decode cP_stretch 51 = .ok (.aload_n 0, 1) := by decide +kernel
theorem dP_stretch_52 : decode cP_stretch 52 = .ok (.dup, 1) := by decide +kernel
theorem dP_stretch_53 : decode cP_stretch 53 = .ok (.getfield 13, 3) := by decide +kernel
theorem dP_stretch_56 : decode cP_stretch 56 = .ok (.lload 5, 2) := by decide +kernel
theorem dP_stretch_58 : decode cP_stretch 58 = .ok (.ldiv, 1) := by decide +kernel
theorem dP_stretch_59 : decode cP_stretch 59 = .ok (.putfield 13, 3) := by decide +kernel
theorem dP_stretch_62 : decode cP_stretch 62 = .ok (.return_, 1) := by decide +kernel
theorem dP_isBelow_0 : decode cP_isBelow 0 = .ok (.aload_n 0, 1) := by decide +kernel
theorem dP_isBelow_1 : decode cP_isBelow 1 = .ok (.getfield 7, 3) := by decide +kernel
theorem dP_isBelow_4 : decode cP_isBelow 4 = .ok (.lload_n 1, 1) := by decide +kernel
theorem dP_isBelow_5 : decode cP_isBelow 5 = .ok (.aload_n 0, 1) := by decide +kernel
theorem dP_isBelow_6 : decode cP_isBelow 6 = .ok (.getfield 13, 3) := by decide +kernel
theorem dP_isBelow_9 : decode cP_isBelow 9 = .ok (.lmul, 1) := by decide +kernel
theorem dP_isBelow_10 : decode cP_isBelow 10 = .ok (.lcmp, 1) := by decide +kernel
theorem dP_isBelow_11 : decode cP_isBelow 11 = .ok (.ifCond .ge 7, 3) := by decide +kernel
theorem dP_isBelow_14 : decode cP_isBelow 14 = .ok (.iconst 1, 1) := by decide +kernel
theorem dP_isBelow_15 : decode cP_isBelow 15 = .ok (.goto 4, 3) := by decide +kernel
theorem dP_isBelow_18 : decode cP_isBelow 18 = .ok (.iconst 0, 1) := by decide +kernel
theorem dP_isBelow_19 : decode cP_isBelow 19 = .ok (.ireturn, 1) := by decide +kernel
theorem dP_commonDivisor_0 : decode cP_commonDivisor 0 = .ok (.lload_n 0, 1) := by decide +kernel
theorem dP_commonDivisor_1 : decode cP_commonDivisor 1 = .ok (.lstore 4, 2) := by decide +kernel
theorem dP_commonDivisor_3 : decode cP_commonDivisor 3 = .ok (.lload_n 2, 1) := by decide +kernel
theorem dP_commonDivisor_4 : decode cP_commonDivisor 4 = .ok (.lstore 6, 2) := by decide +kernel
theorem dP_commonDivisor_6 : decode cP_commonDivisor 6 = .ok (.iconst 0, 1) := by decide +kernel
theorem dP_commonDivisor_7 : decode cP_commonDivisor 7 = .ok (.istore 8, 2) := by decide +kernel
theorem dP_commonDivisor_9 : decode cP_commonDivisor 9 = .ok (.iload 8, 2) := by decide +kernel
theorem dP_commonDivisor_11 : decode cP_commonDivisor 11 = .ok (.bipush 100, 2) := by decide +kernel
theorem dP_commonDivisor_13 : decode cP_commonDivisor 13 = .ok (.if_icmp .ge 31, 3) := by decide +kernel
theorem dP_commonDivisor_16 : decode cP_commonDivisor 16 = .ok (.lload 6, 2) := by decide +kernel
theorem dP_commonDivisor_18 : decode cP_commonDivisor 18 = .ok (.lconst 0, 1) := by decide +kernel
theorem dP_commonDivisor_19 : decode cP_commonDivisor 19 = .ok (.lcmp, 1) := by decide +kernel
theorem dP_commonDivisor_20 : decode cP_commonDivisor 20 = .ok (.ifCond .eq 24, 3) := by decide +kernel
theorem dP_commonDivisor_23 : decode cP_commonDivisor 23 = .ok (.lload 4, 2) := by decide +kernel
theorem dP_commonDivisor_25 : decode cP_commonDivisor 25 = .ok (.lload 6, 2) := by decide +kernel
theorem dP_commonDivisor_27 : decode cP_commonDivisor 27 = .ok (.lrem, 1) := by decide +kernel
theorem dP_commonDivisor_28 : decode cP_commonDivisor 28 = .ok (.lstore 9, 2) := by decide +kernel
theorem dP_commonDivisor_30 : decode cP_commonDivisor 30 = .ok (.lload 6, 2) := by decide +kernel
theorem dP_commonDivisor_32 : decode cP_commonDivisor 32 = .ok (.lstore 4, 2) := by decide +kernel
theorem dP_commonDivisor_34 : decode cP_commonDivisor 34 = .ok (.lload 9, 2) := by decide +kernel
theorem dP_commonDivisor_36 : decode cP_commonDivisor 36 = .ok (.lstore 6, 2) := by decide +kernel
theorem dP_commonDivisor_38 : decode cP_commonDivisor 38 = .ok (.iinc 8 1, 3) := by decide +kernel
theorem dP_commonDivisor_41 : decode cP_commonDivisor 41 = .ok (.goto (-32), 3) := by decide +kernel
theorem dP_commonDivisor_44 : decode cP_commonDivisor 44 = .ok (.lload 4, 2) := by decide +kernel
theorem dP_commonDivisor_46 : decode cP_commonDivisor 46 = .ok (.lreturn, 1) := by decide +kernel
end
section
theorem dM_init_0 : decode cM_init 0 = .ok (.aload_n 0, 1) := by decide +kernel
theorem dM_init_1 : decode cM_init 1 = .ok (.invokespecial 1, 3) := by decide +kernel
theorem dM_init_4 : decode cM_init 4 = .ok (.aload_n 0, 1) := by decide +kernel
theorem dM_init_5 : decode cM_init 5 = .ok (.bipush 40, 2) := by decide +kernel
theorem dM_init_7 : decode cM_init 7 = .ok (.newarray .int, 2) := by decide +kernel
theorem dM_init_9 : decode cM_init 9 = .ok (.putfield 7, 3) := by decide +kernel
theorem dM_init_12 : decode cM_init 12 = .ok (.aload_n 0, 1) := by decide +kernel
theorem dM_init_13 : decode cM_init 13 = .ok (.bipush 40, 2) := by decide +kernel
theorem dM_init_15 : decode cM_init 15 = .ok (.newarray .int, 2) := by decide +kernel
theorem dM_init_17 : decode cM_init 17 = .ok (.putfield 13, 3) := by decide +kernel
theorem dM_init_20 : decode cM_init 20 = .ok (.aload_n 0, 1) := by decide +kernel
theorem dM_init_21 : decode cM_init 21 = .ok (.bipush 40, 2) := by decide +kernel
theorem dM_init_23 : decode cM_init 23 = .ok (.newarray .int, 2) := by decide +kernel
theorem dM_init_25 : decode cM_init 25 = .ok (.putfield 16, 3) := by decide +kernel
theorem dM_init_28 : decode cM_init 28 = .ok (.aload_n 0, 1) := by decide +kernel
theorem dM_init_29 : decode cM_init 29 = .ok (.bipush 40, 2) := by decide +kernel
theorem dM_init_31 : decode cM_init 31 = .ok (.newarray .int, 2) := by decide +kernel
theorem dM_init_33 : decode cM_init 33 = .ok (.putfield 19, 3) := by decide +kernel
theorem dM_init_36 : decode cM_init 36 = .ok (.aload_n 0, 1) := by decide +kernel
theorem dM_init_37 : decode cM_init 37 = .ok (.bipush 40, 2) := by decide +kernel
theorem dM_init_39 : decode cM_init 39 = .ok (.newarray .boolean, 2) := by decide +kernel
theorem dM_init_41 : decode cM_init 41 = .ok (.putfield 22, 3) := by decide +kernel
theorem dM_init_44 : decode cM_init 44 = .ok (.aload_n 0, 1) := by decide +kernel
theorem dM_init_45 : decode cM_init 45 = .ok (.bipush 40, 2) := by decide +kernel
theorem dM_init_47 : decode cM_init 47 = .ok (.newarray .int, 2) := by decide +kernel
theorem dM_init_49 : decode cM_init 49 = .ok (.putfield 26, 3) := by decide +kernel
theorem dM_init_52 : decode cM_init 52 = .ok (.aload_n 0, 1) := by decide +kernel
theorem dM_init_53 : decode cM_init 53 = .ok (.bipush 40, 2) := by decide +kernel
theorem dM_init_55 : decode cM_init 55 = .ok (.newarray .int, 2) := by decide +kernel
theorem dM_init_57 : decode cM_init 57 = .ok (.putfield 29, 3) := by decide +kernel
theorem dM_init_60 : decode cM_init 60 = .ok (.aload_n 0, 1) := by decide +kernel
theorem dM_init_61 : decode cM_init 61 = .ok (.bipush 40, 2) := by decide +kernel
theorem dM_init_63 : decode cM_init 63 = .ok (.newarray .int, 2) := by decide +kernel
theorem dM_init_65 : decode cM_init 65 = .ok (.putfield 32, 3) := by decide +kernel
theorem dM_init_68 : decode cM_init 68 = .ok (.aload_n 0, 1) := by decide +kernel
theorem dM_init_69 : decode cM_init 69 = .ok (.bipush 40, 2) := by decide +kernel
theorem dM_init_71 : decode cM_init 71 = .ok (.newarray .int, 2) := by decide +kernel
theorem dM_init_73 : decode cM_init 73 = .ok (.putfield 35, 3) := by decide +kernel
theorem dM_init_76 : decode cM_init 76 = .ok (.aload_n 0, 1) := by decide +kernel
theorem dM_init_77 : decode cM_init 77 = .ok (.bipush 40, 2) := by decide +kernel
theorem dM_init_79 : decode cM_init 79 = .ok (.newarray .int, 2) := by decide +kernel
theorem dM_init_81 : decode cM_init 81 = .ok (.putfield 38, 3) := by decide +kernel
theorem dM_init_84 : decode cM_init 84 = .ok (.aload_n 0, 1) := by decide +kernel
theorem dM_init_85 : decode cM_init 85 = .ok (.bipush 40, 2) := by decide +kernel
theorem dM_init_87 : decode cM_init 87 = .ok (.newarray .int, 2) := by decide +kernel
theorem dM_init_89 : decode cM_init 89 = .ok (.putfield 41, 3) := by decide +kernel
theorem dM_init_92 : decode cM_init 92 = .ok (.aload_n 0, 1) := by decide +kernel
theorem dM_init_93 : decode cM_init 93 = .ok (.bipush 10, 2) := by decide +kernel
theorem dM_init_95 : decode cM_init 95 = .ok (.newarray .int, 2) := by decide +kernel
theorem dM_init_97 : decode cM_init 97 = .ok (.putfield 44, 3) := by decide +kernel
theorem dM_init_100 : decode cM_init 100 = .ok (.aload_n 0, 1) := by decide +kernel
theorem dM_init_101 : decode cM_init 101 = .ok (.bipush 10, 2) := by decide +kernel
theorem dM_init_103 : decode cM_init 103 = .ok (.newarray .long, 2) := by decide +kernel
theorem dM_init_105 : decode cM_init 105 = .ok (.putfield 47, 3) := by decide +kernel
theorem dM_init_108 : decode cM_init 108 = .ok (.aload_n 0, 1) := by decide +kernel
theorem dM_init_109 : decode cM_init 109 = .ok (.bipush 10, 2) := by decide +kernel
theorem dM_init_111 : decode cM_init 111 = .ok (.newarray .long, 2) := by decide +kernel
theorem dM_init_113 : decode cM_init 113 = .ok (.putfield 51, 3) := by decide +kernel
theorem dM_init_116 : decode cM_init 116 = .ok (.aload_n 0, 1) := by decide +kernel
theorem dM_init_117 : decode cM_init 117 = .ok (.bipush 40, 2) := by decide +kernel
theorem dM_init_119 : decode cM_init 119 = .ok (.newarray .long, 2) := by decide +kernel
theorem dM_init_121 : decode cM_init 121 = .ok (.putfield 54, 3) := by decide +kernel
theorem dM_init_124 : decode cM_init 124 = .ok (.aload_n 0, 1) := by decide +kernel
theorem dM_init_125 : decode cM_init 125 = .ok (.bipush 40, 2) := by decide +kernel
theorem dM_init_127 : decode cM_init 127 = .ok (.newarray .long, 2) := by decide +kernel
theorem dM_init_129 : decode cM_init 129 = .ok (.putfield 57, 3) := by decide +kernel
theorem dM_init_132 : decode cM_init 132 = .ok (.return_, 1) := by decide +kernel
theorem dM_thrown_0 : decode cM_thrown 0 = .ok (.aload_n 0, 1) := by decide +kernel
theorem dM_thrown_1 : decode cM_thrown 1 = .ok (.getfield 60, 3) := by decide +kernel
theorem dM_thrown_4 : decode cM_thrown 4 = .ok (.ireturn, 1) := by decide +kernel
theorem dM_throwing_0 : decode cM_throwing 0 = .ok (.aload_n 0, 1) := by decide +kernel
theorem dM_throwing_1 : decode cM_throwing 1 = .ok (.iload_n 1, 1) := by decide +kernel
theorem dM_throwing_2 : decode cM_throwing 2 = .ok (.ifCond .eq 7, 3) := by decide +kernel
theorem dM_throwing_5 : decode cM_throwing 5 = .ok (.iconst 1, 1) := by decide +kernel
theorem dM_throwing_6 : decode cM_throwing 6 = .ok (.goto 29, 3) := by decide +kernel
theorem dM_throwing_9 : decode cM_throwing 9 = .ok (.iload_n 2, 1) := by decide +kernel
theorem dM_throwing_10 : decode cM_throwing 10 = .ok (.ifCond .eq 7, 3) := by decide +kernel
theorem dM_throwing_13 : decode cM_throwing 13 = .ok (.iconst 2, 1) := by decide +kernel
theorem dM_throwing_14 : decode cM_throwing 14 = .ok (.goto 21, 3) := by decide +kernel
theorem dM_throwing_17 : decode cM_throwing 17 = .ok (.iload_n 3, 1) := by decide +kernel
theorem dM_throwing_18 : decode cM_throwing 18 = .ok (.ifCond .eq 7, 3) := by decide +kernel
theorem dM_throwing_21 : decode cM_throwing 21 = .ok (.iconst 3, 1) := by decide +kernel
theorem dM_throwing_22 : decode cM_throwing 22 = .ok (.goto 13, 3) := by decide +kernel
theorem dM_throwing_25 : decode cM_throwing 25 = .ok (.iload 4, 2) := by decide +kernel
theorem dM_throwing_27 : decode cM_throwing 27 = .ok (.ifCond .eq 7, 3) := by decide +kernel
theorem dM_throwing_30 : decode cM_throwing 30 = .ok (.iconst 4, 1) := by decide +kernel
theorem dM_throwing_31 : decode cM_throwing 31 = .ok (.goto 4, 3) := by decide +kernel
theorem dM_throwing_34 : decode cM_throwing 34 = .ok (.iconst 0, 1) := by decide +kernel
theorem dM_throwing_35 : decode cM_throwing 35 = .ok (.putfield 60, 3) := by decide +kernel
theorem dM_throwing_38 : decode cM_throwing 38 = .ok (.aload_n 0, 1) := by decide +kernel
theorem dM_throwing_39 : decode cM_throwing 39 = .ok (.getfield 60, 3) := by decide +kernel
theorem dM_throwing_42 : decode cM_throwing 42 = .ok (.ifCond .le 7, 3) := by decide +kernel
theorem dM_throwing_45 : decode cM_throwing 45 = .ok (.iconst 1, 1) := by decide +kernel
theorem dM_throwing_46 : decode cM_throwing 46 = .ok (.goto 4, 3) := by decide +kernel
theorem dM_throwing_49 : decode cM_throwing 49 = .ok (.iconst 0, 1) := by decide +kernel
theorem dM_throwing_50 : decode cM_throwing 50 = .ok (.ireturn, 1) := by decide +kernel
theorem dM_in_0 : decode cM_in 0 = .ok (.iload_n 0, 1) := by decide +kernel
theorem dM_in_1 : decode cM_in 1 = .ok (.iload_n 1, 1) := by decide +kernel
theorem dM_in_2 : decode cM_in 2 = .ok (.if_icmp .lt 12, 3) := by decide +kernel
theorem dM_in_5 : decode cM_in 5 = .ok (.iload_n 0, 1) := by decide +kernel
theorem dM_in_6 : decode cM_in 6 = .ok (.iload_n 2, 1) := by decide +kernel
theorem dM_in_7 : decode cM_in 7 = .ok (.if_icmp .gt 7, 3) := by decide +kernel
theorem dM_in_10 : decode cM_in 10 = .ok (.iconst 1, 1) := by decide +kernel
theorem dM_in_11 : decode cM_in 11 = .ok (.goto 4, 3) := by decide +kernel
theorem dM_in_14 : decode cM_in 14 = .ok (.iconst 0, 1) := by decide +kernel
theorem dM_in_15 : decode cM_in 15 = .ok (.ireturn, 1) := by decide +kernel
theorem dM_isPiece_0 : decode cM_isPiece 0 = .ok (.iload_n 1, 1) := by decide +kernel
theorem dM_isPiece_1 : decode cM_isPiece 1 = .ok (.iconst 0, 1) := by decide +kernel
theorem dM_isPiece_2 : decode cM_isPiece 2 = .ok (.aload_n 0, 1) := by decide +kernel
theorem dM_isPiece_3 : decode cM_isPiece 3 = .ok (.getfield 64, 3) := by decide +kernel
theorem dM_isPiece_6 : decode cM_isPiece 6 = .ok (.iconst 1, 1) := by decide +kernel
theorem dM_isPiece_7 : decode cM_isPiece 7 = .ok (.isub, 1) := by decide +kernel
theorem dM_isPiece_8 : decode cM_isPiece 8 = .ok (.invokestatic 67, 3) := by decide +kernel
theorem dM_isPiece_11 : decode cM_isPiece 11 = .ok (.ireturn, 1) := by decide +kernel
theorem dM_isAtHand_0 : decode cM_isAtHand 0 = .ok (.aload_n 0, 1) := by decide +kernel
theorem dM_isAtHand_1 : decode cM_isAtHand 1 = .ok (.iload_n 1, 1) := by decide +kernel
theorem dM_isAtHand_2 : decode cM_isAtHand 2 = .ok (.invokevirtual 71, 3) := by decide +kernel
theorem dM_isAtHand_5 : decode cM_isAtHand 5 = .ok (.ifCond .eq 25, 3) := by decide +kernel
theorem dM_isAtHand_8 : decode cM_isAtHand 8 = .ok (.aload_n 0, 1) := by decide +kernel
theorem dM_isAtHand_9 : decode cM_isAtHand 9 = .ok (.getfield 19, 3) := by decide +kernel
theorem dM_isAtHand_12 : decode cM_isAtHand 12 = .ok (.iload_n 1, 1) := by decide +kernel
theorem dM_isAtHand_13 : decode cM_isAtHand 13 = .ok (.iaload, 1) := by decide +kernel
theorem dM_isAtHand_14 : decode cM_isAtHand 14 = .ok (.ifCond .ne 16, 3) := by decide +kernel
theorem dM_isAtHand_17 : decode cM_isAtHand 17 = .ok (.aload_n 0, 1) := by decide +kernel
theorem dM_isAtHand_18 : decode cM_isAtHand 18 = .ok (.getfield 22, 3) := by decide +kernel
theorem dM_isAtHand_21 : decode cM_isAtHand 21 = .ok (.iload_n 1, 1) := by decide +kernel
theorem dM_isAtHand_22 : decode cM_isAtHand 22 = .ok (.baload, 1) := by decide +kernel
theorem dM_isAtHand_23 : decode cM_isAtHand 23 = .ok (.ifCond .ne 7, 3) := by decide +kernel
theorem dM_isAtHand_26 : decode cM_isAtHand 26 = .ok (.iconst 1, 1) := by decide +kernel
theorem dM_isAtHand_27 : decode cM_isAtHand 27 = .ok (.goto 4, 3) := by decide +kernel
theorem dM_isAtHand_30 : decode cM_isAtHand 30 = .ok (.iconst 0, 1) := by decide +kernel
theorem dM_isAtHand_31 : decode cM_isAtHand 31 = .ok (.ireturn, 1) := by decide +kernel
theorem dM_add_0 : decode cM_add 0 = .ok (.aload_n 0, 1) := by decide +kernel
theorem dM_add_1 : decode cM_add 1 = .ok (.getfield 7, 3) := by decide +kernel
theorem dM_add_4 : decode cM_add 4 = .ok (.aload_n 0, 1) := by decide +kernel
theorem dM_add_5 : decode cM_add 5 = .ok (.getfield 64, 3) := by decide +kernel
theorem dM_add_8 : decode cM_add 8 = .ok (.iload_n 1, 1) := by decide +kernel
theorem dM_add_9 : decode cM_add 9 = .ok (.iastore, 1) := by decide +kernel
theorem dM_add_10 : decode cM_add 10 = .ok (.aload_n 0, 1) := by decide +kernel
theorem dM_add_11 : decode cM_add 11 = .ok (.getfield 13, 3) := by decide +kernel
theorem dM_add_14 : decode cM_add 14 = .ok (.aload_n 0, 1) := by decide +kernel
theorem dM_add_15 : decode cM_add 15 = .ok (.getfield 64, 3) := by decide +kernel
theorem dM_add_18 : decode cM_add 18 = .ok (.iload_n 3, 1) := by decide +kernel
theorem dM_add_19 : decode cM_add 19 = .ok (.iastore, 1) := by decide +kernel
theorem dM_add_20 : decode cM_add 20 = .ok (.aload_n 0, 1) := by decide +kernel
theorem dM_add_21 : decode cM_add 21 = .ok (.getfield 16, 3) := by decide +kernel
theorem dM_add_24 : decode cM_add 24 = .ok (.aload_n 0, 1) := by decide +kernel
theorem dM_add_25 : decode cM_add 25 = .ok (.getfield 64, 3) := by decide +kernel
theorem dM_add_28 : decode cM_add 28 = .ok (.iload 4, 2) := by decide +kernel
theorem dM_add_30 : decode cM_add 30 = .ok (.iastore, 1) := by decide +kernel
theorem dM_add_31 : decode cM_add 31 = .ok (.aload_n 0, 1) := by decide +kernel
theorem dM_add_32 : decode cM_add 32 = .ok (.getfield 19, 3) := by decide +kernel
theorem dM_add_35 : decode cM_add 35 = .ok (.aload_n 0, 1) := by decide +kernel
theorem dM_add_36 : decode cM_add 36 = .ok (.getfield 64, 3) := by decide +kernel
theorem dM_add_39 : decode cM_add 39 = .ok (.iconst 0, 1) := by decide +kernel
theorem dM_add_40 : decode cM_add 40 = .ok (.iastore, 1) := by decide +kernel
theorem dM_add_41 : decode cM_add 41 = .ok (.aload_n 0, 1) := by decide +kernel
theorem dM_add_42 : decode cM_add 42 = .ok (.getfield 22, 3) := by decide +kernel
theorem dM_add_45 : decode cM_add 45 = .ok (.aload_n 0, 1) := by decide +kernel
theorem dM_add_46 : decode cM_add 46 = .ok (.getfield 64, 3) := by decide +kernel
theorem dM_add_49 : decode cM_add 49 = .ok (.iconst 0, 1) := by decide +kernel
theorem dM_add_50 : decode cM_add 50 = .ok (.bastore, 1) := by decide +kernel
theorem dM_add_51 : decode cM_add 51 = .ok (.aload_n 0, 1) := by decide +kernel
theorem dM_add_52 : decode cM_add 52 = .ok (.getfield 26, 3) := by decide +kernel
theorem dM_add_55 : decode cM_add 55 = .ok (.aload_n 0, 1) := by decide +kernel
theorem dM_add_56 : decode cM_add 56 = .ok (.getfield 64, 3) := by decide +kernel
theorem dM_add_59 : decode cM_add 59 = .ok (.iload_n 2, 1) := by decide +kernel
theorem dM_add_60 : decode cM_add 60 = .ok (.iastore, 1) := by decide +kernel
theorem dM_add_61 : decode cM_add 61 = .ok (.aload_n 0, 1) := by decide +kernel
theorem dM_add_62 : decode cM_add 62 = .ok (.getfield 29, 3) := by decide +kernel
theorem dM_add_65 : decode cM_add 65 = .ok (.aload_n 0, 1) := by decide +kernel
theorem dM_add_66 : decode cM_add 66 = .ok (.getfield 64, 3) := by decide +kernel
theorem dM_add_69 : decode cM_add 69 = .ok (.iconst (-1), 1) := by decide +kernel
theorem dM_add_70 : decode cM_add 70 = .ok (.iastore, 1) := by decide +kernel
theorem dM_add_71 : decode cM_add 71 = .ok (.aload_n 0, 1) := by decide +kernel
theorem dM_add_72 : decode cM_add 72 = .ok (.getfield 41, 3) := by decide +kernel
theorem dM_add_75 : decode cM_add 75 = .ok (.aload_n 0, 1) := by decide +kernel
theorem dM_add_76 : decode cM_add 76 = .ok (.getfield 64, 3) := by decide +kernel
theorem dM_add_79 : decode cM_add 79 = .ok (.iload_n 2, 1) := by decide +kernel
theorem dM_add_80 : decode cM_add 80 = .ok (.ifCond .ge 7, 3) := by decide +kernel
theorem dM_add_83 : decode cM_add 83 = .ok (.iconst 0, 1) := by decide +kernel
theorem dM_add_84 : decode cM_add 84 = .ok (.goto 9, 3) := by decide +kernel
theorem dM_add_87 : decode cM_add 87 = .ok (.aload_n 0, 1) := by decide +kernel
theorem dM_add_88 : decode cM_add 88 = .ok (.getfield 41, 3) := by decide +kernel
theorem dM_add_91 : decode cM_add 91 = .ok (.iload_n 2, 1) := by decide +kernel
theorem dM_add_92 : decode cM_add 92 = .ok (.iaload, 1) := by decide +kernel
theorem dM_add_93 : decode cM_add 93 = .ok (.iastore, 1) := by decide +kernel
theorem dM_add_94 : decode cM_add 94 = .ok (.iload_n 2, 1) := by decide +kernel
theorem dM_add_95 : decode cM_add 95 = .ok (.ifCond .lt 10, 3) := by decide +kernel
theorem dM_add_98 : decode cM_add 98 = .ok (.aload_n 0, 1) := by decide +kernel
theorem dM_add_99 : decode cM_add 99 = .ok (.getfield 19, 3) := by decide +kernel
theorem dM_add_102 : decode cM_add 102 = .ok (.iload_n 2, 1) := by decide +kernel
theorem dM_add_103 : decode cM_add 103 = .ok (.iconst 1, 1) := by decide +kernel
theorem dM_add_104 : decode cM_add 104 = .ok (.iastore, 1) := by decide +kernel
theorem dM_add_105 : decode cM_add 105 = .ok (.aload_n 0, 1) := by decide +kernel
theorem dM_add_106 : decode cM_add 106 = .ok (.dup, 1) := by decide +kernel
theorem dM_add_107 : decode cM_add 107 = .ok (.getfield 64, 3) := by decide +kernel
theorem dM_add_110 : decode cM_add 110 = .ok (.iconst 1, 1) := by decide +kernel
theorem dM_add_111 : decode cM_add 111 = .ok (.iadd, 1) := by decide +kernel
theorem dM_add_112 : decode cM_add 112 = .ok (.putfield 64, 3) := by decide +kernel
theorem dM_add_115 : decode cM_add 115 = .ok (.aload_n 0, 1) := by decide +kernel
theorem dM_add_116 : decode cM_add 116 = .ok (.getfield 64, 3) := by decide +kernel
theorem dM_add_119 : decode cM_add 119 = .ok (.iconst 1, 1) := by decide +kernel
theorem dM_add_120 : decode cM_add 120 = .ok (.isub, 1) := by decide +kernel
theorem dM_add_121 : decode cM_add 121 = .ok (.ireturn, 1) := by decide +kernel
theorem dM_melt_0 : decode cM_melt 0 = .ok (.aload_n 0, 1) := by decide +kernel
theorem dM_melt_1 : decode cM_melt 1 = .ok (.iload_n 1, 1) := by decide +kernel
theorem dM_melt_2 : decode cM_melt 2 = .ok (.iconst 1, 1) := by decide +kernel
theorem dM_melt_3 : decode cM_melt 3 = .ok (.ldc 75, 2) := by decide +kernel
theorem dM_melt_5 : decode cM_melt 5 = .ok (.invokestatic 67, 3) := by decide +kernel
theorem dM_melt_8 : decode cM_melt 8 = .ok (.ifCond .eq 13, 3) := by decide +kernel
theorem dM_melt_11 : decode cM_melt 11 = .ok (.iload_n 2, 1) := by decide +kernel
theorem dM_melt_12 : decode cM_melt 12 = .ok (.iconst 1, 1) := by decide +kernel
theorem dM_melt_13 : decode cM_melt 13 = .ok (.ldc 75, 2) := by decide +kernel
theorem dM_melt_15 : decode cM_melt 15 = .ok (.invokestatic 67, 3) := by decide +kernel
theorem dM_melt_18 : decode cM_melt 18 = .ok (.ifCond .ne 7, 3) := by decide +kernel
theorem dM_melt_21 : decode cM_melt 21 = .ok (.iconst 1, 1) := by decide +kernel
theorem dM_melt_22 : decode cM_melt 22 = .ok (.goto 4, 3) := by decide +kernel
theorem dM_melt_25 : decode cM_melt 25 = .ok (.iconst 0, 1) := by decide +kernel
theorem dM_melt_26 : decode cM_melt 26 = .ok (.aload_n 0, 1) := by decide +kernel
theorem dM_melt_27 : decode cM_melt 27 = .ok (.getfield 64, 3) := by decide +kernel
theorem dM_melt_30 : decode cM_melt 30 = .ok (.bipush 40, 2) := by decide +kernel
theorem dM_melt_32 : decode cM_melt 32 = .ok (.if_icmp .ne 7, 3) := by decide +kernel
theorem dM_melt_35 : decode cM_melt 35 = .ok (.iconst 1, 1) := by decide +kernel
theorem dM_melt_36 : decode cM_melt 36 = .ok (.goto 4, 3) := by decide +kernel
theorem dM_melt_39 : decode cM_melt 39 = .ok (.iconst 0, 1) := by decide +kernel
theorem dM_melt_40 : decode cM_melt 40 = .ok (.iconst 0, 1) := by decide +kernel
theorem dM_melt_41 : decode cM_melt 41 = .ok (.iconst 0, 1) := by decide +kernel
theorem dM_melt_42 : decode cM_melt 42 = .ok (.invokevirtual 76, 3) := by decide +kernel
theorem dM_melt_45 : decode cM_melt 45 = .ok (.ifCond .eq 5, 3) := by decide +kernel
theorem dM_melt_48 : decode cM_melt 48 = .ok (.iconst 0, 1) := by decide +kernel
theorem dM_melt_49 : decode cM_melt 49 = .ok (.ireturn, 1) := by decide +kernel
theorem dM_melt_50 : decode cM_melt 50 = .ok (.aload_n 0, 1) := by decide +kernel
theorem dM_melt_51 : decode cM_melt 51 = .ok (.dup, 1) := by decide +kernel
theorem dM_melt_52 : decode cM_melt 52 = .ok (.getfield 80, 3) := by decide +kernel
theorem dM_melt_55 : decode cM_melt 55 = .ok (.iload_n 1, 1) := by decide +kernel
theorem dM_melt_56 : decode cM_melt 56 = .ok (.i2l, 1) := by decide +kernel
theorem dM_melt_57 : decode cM_melt 57 = .ok (.ladd, 1) := by decide +kernel
theorem dM_melt_58 : decode cM_melt 58 = .ok (.putfield 80, 3) := by decide +kernel
theorem dM_melt_61 : decode cM_melt 61 = .ok (.aload_n 0, 1) := by decide +kernel
theorem dM_melt_62 : decode cM_melt 62 = .ok (.iconst 0, 1) := by decide +kernel
theorem dM_melt_63 : decode cM_melt 63 = .ok (.iconst (-1), 1) := by decide +kernel
theorem dM_melt_64 : decode cM_melt 64 = .ok (.iload_n 1, 1) := by decide +kernel
theorem dM_melt_65 : decode cM_melt 65 = .ok (.iload_n 2, 1) := by decide +kernel
theorem dM_melt_66 : decode cM_melt 66 = .ok (.invokevirtual 84, 3) := by decide +kernel
theorem dM_melt_69 : decode cM_melt 69 = .ok (.ireturn, 1) := by decide +kernel
theorem dM_cut_0 : decode cM_cut 0 = .ok (.aload_n 0, 1) := by decide +kernel
theorem dM_cut_1 : decode cM_cut 1 = .ok (.iload_n 1, 1) := by decide +kernel
theorem dM_cut_2 : decode cM_cut 2 = .ok (.invokevirtual 71, 3) := by decide +kernel
theorem dM_cut_5 : decode cM_cut 5 = .ok (.ifCond .ne 7, 3) := by decide +kernel
theorem dM_cut_8 : decode cM_cut 8 = .ok (.iconst 1, 1) := by decide +kernel
theorem dM_cut_9 : decode cM_cut 9 = .ok (.goto 4, 3) := by decide +kernel
theorem dM_cut_12 : decode cM_cut 12 = .ok (.iconst 0, 1) := by decide +kernel
theorem dM_cut_13 : decode cM_cut 13 = .ok (.istore_n 3, 1) := by decide +kernel
theorem dM_cut_14 : decode cM_cut 14 = .ok (.aload_n 0, 1) := by decide +kernel
theorem dM_cut_15 : decode cM_cut 15 = .ok (.iload_n 3, 1) := by decide +kernel
theorem dM_cut_16 : decode cM_cut 16 = .ok (.aload_n 0, 1) := by decide +kernel
theorem dM_cut_17 : decode cM_cut 17 = .ok (.iload_n 1, 1) := by decide +kernel
theorem dM_cut_18 : decode cM_cut 18 = .ok (.invokevirtual 88, 3) := by decide +kernel
theorem dM_cut_21 : decode cM_cut 21 = .ok (.ifCond .ne 7, 3) := by decide +kernel
theorem dM_cut_24 : decode cM_cut 24 = .ok (.iconst 1, 1) := by decide +kernel
theorem dM_cut_25 : decode cM_cut 25 = .ok (.goto 4, 3) := by decide +kernel
theorem dM_cut_28 : decode cM_cut 28 = .ok (.iconst 0, 1) := by decide +kernel
theorem dM_cut_29 : decode cM_cut 29 = .ok (.iload_n 3, 1) := by decide +kernel
theorem dM_cut_30 : decode cM_cut 30 = .ok (.ifCond .ne 31, 3) := by decide +kernel
theorem dM_cut_33 : decode cM_cut 33 = .ok (.iload_n 2, 1) := by decide +kernel
theorem dM_cut_34 : decode cM_cut 34 = .ok (.iconst 1, 1) := by decide +kernel
theorem dM_cut_35 : decode cM_cut 35 = .ok (.aload_n 0, 1) := by decide +kernel
theorem dM_cut_36 : decode cM_cut 36 = .ok (.getfield 16, 3) := by decide +kernel
theorem dM_cut_39 : decode cM_cut 39 = .ok (.iload_n 3, 1) := by decide +kernel
theorem dM_cut_40 : decode cM_cut 40 = .ok (.ifCond .eq 7, 3) := by decide +kernel
theorem dM_cut_43 : decode cM_cut 43 = .ok (.iconst 0, 1) := by decide +kernel
theorem dM_cut_44 : decode cM_cut 44 = .ok (.goto 4, 3) := by decide +kernel
theorem dM_cut_47 : decode cM_cut 47 = .ok (.iload_n 1, 1) := by decide +kernel
theorem dM_cut_48 : decode cM_cut 48 = .ok (.iaload, 1) := by decide +kernel
theorem dM_cut_49 : decode cM_cut 49 = .ok (.iconst 1, 1) := by decide +kernel
theorem dM_cut_50 : decode cM_cut 50 = .ok (.isub, 1) := by decide +kernel
theorem dM_cut_51 : decode cM_cut 51 = .ok (.invokestatic 67, 3) := by decide +kernel
theorem dM_cut_54 : decode cM_cut 54 = .ok (.ifCond .ne 7, 3) := by decide +kernel
theorem dM_cut_57 : decode cM_cut 57 = .ok (.iconst 1, 1) := by decide +kernel
theorem dM_cut_58 : decode cM_cut 58 = .ok (.goto 4, 3) := by decide +kernel
theorem dM_cut_61 : decode cM_cut 61 = .ok (.iconst 0, 1) := by decide +kernel
theorem dM_cut_62 : decode cM_cut 62 = .ok (.aload_n 0, 1) := by decide +kernel
theorem dM_cut_63 : decode cM_cut 63 = .ok (.getfield 64, 3) := by decide +kernel
theorem dM_cut_66 : decode cM_cut 66 = .ok (.iconst 2, 1) := by decide +kernel
theorem dM_cut_67 : decode cM_cut 67 = .ok (.iadd, 1) := by decide +kernel
theorem dM_cut_68 : decode cM_cut 68 = .ok (.bipush 40, 2) := by decide +kernel
theorem dM_cut_70 : decode cM_cut 70 = .ok (.if_icmp .le 7, 3) := by decide +kernel
theorem dM_cut_73 : decode cM_cut 73 = .ok (.iconst 1, 1) := by decide +kernel
theorem dM_cut_74 : decode cM_cut 74 = .ok (.goto 4, 3) := by decide +kernel
theorem dM_cut_77 : decode cM_cut 77 = .ok (.iconst 0, 1) := by decide +kernel
theorem dM_cut_78 : decode cM_cut 78 = .ok (.invokevirtual 76, 3) := by decide +kernel
theorem dM_cut_81 : decode cM_cut 81 = .ok (.ifCond .eq 5, 3) := by decide +kernel
theorem dM_cut_84 : decode cM_cut 84 = .ok (.iconst 0, 1) := by decide +kernel
theorem dM_cut_85 : decode cM_cut 85 = .ok (.ireturn, 1) := by decide +kernel
theorem dM_cut_86 : decode cM_cut 86 = .ok (.aload_n 0, 1) := by decide +kernel
theorem dM_cut_87 : decode cM_cut 87 = .ok (.getfield 13, 3) := by decide +kernel
theorem dM_cut_90 : decode cM_cut 90 = .ok (.iload_n 1, 1) := by decide +kernel
theorem dM_cut_91 : decode cM_cut 91 = .ok (.iaload, 1) := by decide +kernel
theorem dM_cut_92 : decode cM_cut 92 = .ok (.i2l, 1) := by decide +kernel
theorem dM_cut_93 : decode cM_cut 93 = .ok (.iload_n 2, 1) := by decide +kernel
theorem dM_cut_94 : decode cM_cut 94 = .ok (.i2l, 1) := by decide +kernel
theorem dM_cut_95 : decode cM_cut 95 = .ok (.lmul, 1) := by decide +kernel
theorem dM_cut_96 : decode cM_cut 96 = .ok (.aload_n 0, 1) := by decide +kernel
theorem dM_cut_97 : decode cM_cut 97 = .ok (.getfield 16, 3) := by decide +kernel
theorem dM_cut_100 : decode cM_cut 100 = .ok (.iload_n 1, 1) := by decide +kernel
theorem dM_cut_101 : decode cM_cut 101 = .ok (.iaload, 1) := by decide +kernel
theorem dM_cut_102 : decode cM_cut 102 = .ok (.i2l, 1) := by decide +kernel
theorem dM_cut_103 : decode cM_cut 103 = .ok (.ldiv, 1) := by decide +kernel
theorem dM_cut_104 : decode cM_cut 104 = .ok (.l2i, 1) := by decide +kernel
theorem dM_cut_105 : decode cM_cut 105 = .ok (.istore 4, 2) := by decide +kernel
theorem dM_cut_107 : decode cM_cut 107 = .ok (.aload_n 0, 1) := by decide +kernel
theorem dM_cut_108 : decode cM_cut 108 = .ok (.iconst 1, 1) := by decide +kernel
theorem dM_cut_109 : decode cM_cut 109 = .ok (.iload_n 1, 1) := by decide +kernel
theorem dM_cut_110 : decode cM_cut 110 = .ok (.iload 4, 2) := by decide +kernel
theorem dM_cut_112 : decode cM_cut 112 = .ok (.iload_n 2, 1) := by decide +kernel
theorem dM_cut_113 : decode cM_cut 113 = .ok (.invokevirtual 84, 3) := by decide +kernel
theorem dM_cut_116 : decode cM_cut 116 = .ok (.istore 5, 2) := by decide +kernel
theorem dM_cut_118 : decode cM_cut 118 = .ok (.aload_n 0, 1) := by decide +kernel
theorem dM_cut_119 : decode cM_cut 119 = .ok (.iconst 2, 1) := by decide +kernel
theorem dM_cut_120 : decode cM_cut 120 = .ok (.iload_n 1, 1) := by decide +kernel
theorem dM_cut_121 : decode cM_cut 121 = .ok (.aload_n 0, 1) := by decide +kernel
theorem dM_cut_122 : decode cM_cut 122 = .ok (.getfield 13, 3) := by decide +kernel
theorem dM_cut_125 : decode cM_cut 125 = .ok (.iload_n 1, 1) := by decide +kernel
theorem dM_cut_126 : decode cM_cut 126 = .ok (.iaload, 1) := by decide +kernel
theorem dM_cut_127 : decode cM_cut 127 = .ok (.iload 4, 2) := by decide +kernel
theorem dM_cut_129 : decode cM_cut 129 = .ok (.isub, 1) := by decide +kernel
theorem dM_cut_130 : decode cM_cut 130 = .ok (.aload_n 0, 1) := by decide +kernel
theorem dM_cut_131 : decode cM_cut 131 = .ok (.getfield 16, 3) := by decide +kernel
theorem dM_cut_134 : decode cM_cut 134 = .ok (.iload_n 1, 1) := by decide +kernel
theorem dM_cut_135 : decode cM_cut 135 = .ok (.iaload, 1) := by decide +kernel
theorem dM_cut_136 : decode cM_cut 136 = .ok (.iload_n 2, 1) := by decide +kernel
theorem dM_cut_137 : decode cM_cut 137 = .ok (.isub, 1) := by decide +kernel
theorem dM_cut_138 : decode cM_cut 138 = .ok (.invokevirtual 84, 3) := by decide +kernel
theorem dM_cut_141 : decode cM_cut 141 = .ok (.istore 6, 2) := by decide +kernel
theorem dM_cut_143 : decode cM_cut 143 = .ok (.aload_n 0, 1) := by decide +kernel
theorem dM_cut_144 : decode cM_cut 144 = .ok (.getfield 32, 3) := by decide +kernel
theorem dM_cut_147 : decode cM_cut 147 = .ok (.iload 5, 2) := by decide +kernel
theorem dM_cut_149 : decode cM_cut 149 = .ok (.iload_n 2, 1) := by decide +kernel
theorem dM_cut_150 : decode cM_cut 150 = .ok (.iastore, 1) := by decide +kernel
theorem dM_cut_151 : decode cM_cut 151 = .ok (.aload_n 0, 1) := by decide +kernel
theorem dM_cut_152 : decode cM_cut 152 = .ok (.getfield 32, 3) := by decide +kernel
theorem dM_cut_155 : decode cM_cut 155 = .ok (.iload 6, 2) := by decide +kernel
theorem dM_cut_157 : decode cM_cut 157 = .ok (.iload_n 2, 1) := by decide +kernel
theorem dM_cut_158 : decode cM_cut 158 = .ok (.iastore, 1) := by decide +kernel
theorem dM_cut_159 : decode cM_cut 159 = .ok (.iload 5, 2) := by decide +kernel
theorem dM_cut_161 : decode cM_cut 161 = .ok (.ireturn, 1) := by decide +kernel
theorem dM_weld_0 : decode cM_weld 0 = .ok (.aload_n 0, 1) := by decide +kernel
theorem dM_weld_1 : decode cM_weld 1 = .ok (.iload_n 1, 1) := by decide +kernel
theorem dM_weld_2 : decode cM_weld 2 = .ok (.invokevirtual 71, 3) := by decide +kernel
theorem dM_weld_5 : decode cM_weld 5 = .ok (.ifCond .eq 16, 3) := by decide +kernel
theorem dM_weld_8 : decode cM_weld 8 = .ok (.aload_n 0, 1) := by decide +kernel
theorem dM_weld_9 : decode cM_weld 9 = .ok (.iload_n 2, 1) := by decide +kernel
theorem dM_weld_10 : decode cM_weld 10 = .ok (.invokevirtual 71, 3) := by decide +kernel
theorem dM_weld_13 : decode cM_weld 13 = .ok (.ifCond .eq 8, 3) := by decide +kernel
theorem dM_weld_16 : decode cM_weld 16 = .ok (.iload_n 1, 1) := by decide +kernel
theorem dM_weld_17 : decode cM_weld 17 = .ok (.iload_n 2, 1) := by decide +kernel
theorem dM_weld_18 : decode cM_weld 18 = .ok (.if_icmp .ne 7, 3) := by decide +kernel
theorem dM_weld_21 : decode cM_weld 21 = .ok (.iconst 1, 1) := by decide +kernel
theorem dM_weld_22 : decode cM_weld 22 = .ok (.goto 4, 3) := by decide +kernel
theorem dM_weld_25 : decode cM_weld 25 = .ok (.iconst 0, 1) := by decide +kernel
theorem dM_weld_26 : decode cM_weld 26 = .ok (.istore_n 3, 1) := by decide +kernel
theorem dM_weld_27 : decode cM_weld 27 = .ok (.iload_n 3, 1) := by decide +kernel
theorem dM_weld_28 : decode cM_weld 28 = .ok (.ifCond .ne 75, 3) := by decide +kernel
theorem dM_weld_31 : decode cM_weld 31 = .ok (.aload_n 0, 1) := by decide +kernel
theorem dM_weld_32 : decode cM_weld 32 = .ok (.getfield 13, 3) := by decide +kernel
theorem dM_weld_35 : decode cM_weld 35 = .ok (.iload_n 3, 1) := by decide +kernel
theorem dM_weld_36 : decode cM_weld 36 = .ok (.ifCond .eq 7, 3) := by decide +kernel
theorem dM_weld_39 : decode cM_weld 39 = .ok (.iconst 0, 1) := by decide +kernel
theorem dM_weld_40 : decode cM_weld 40 = .ok (.goto 4, 3) := by decide +kernel
theorem dM_weld_43 : decode cM_weld 43 = .ok (.iload_n 1, 1) := by decide +kernel
theorem dM_weld_44 : decode cM_weld 44 = .ok (.iaload, 1) := by decide +kernel
theorem dM_weld_45 : decode cM_weld 45 = .ok (.ldc 91, 2) := by decide +kernel
theorem dM_weld_47 : decode cM_weld 47 = .ok (.aload_n 0, 1) := by decide +kernel
theorem dM_weld_48 : decode cM_weld 48 = .ok (.getfield 13, 3) := by decide +kernel
theorem dM_weld_51 : decode cM_weld 51 = .ok (.iload_n 3, 1) := by decide +kernel
theorem dM_weld_52 : decode cM_weld 52 = .ok (.ifCond .eq 7, 3) := by decide +kernel
theorem dM_weld_55 : decode cM_weld 55 = .ok (.iconst 0, 1) := by decide +kernel
theorem dM_weld_56 : decode cM_weld 56 = .ok (.goto 4, 3) := by decide +kernel
theorem dM_weld_59 : decode cM_weld 59 = .ok (.iload_n 2, 1) := by decide +kernel
theorem dM_weld_60 : decode cM_weld 60 = .ok (.iaload, 1) := by decide +kernel
theorem dM_weld_61 : decode cM_weld 61 = .ok (.isub, 1) := by decide +kernel
theorem dM_weld_62 : decode cM_weld 62 = .ok (.if_icmp .gt 37, 3) := by decide +kernel
theorem dM_weld_65 : decode cM_weld 65 = .ok (.aload_n 0, 1) := by decide +kernel
theorem dM_weld_66 : decode cM_weld 66 = .ok (.getfield 16, 3) := by decide +kernel
theorem dM_weld_69 : decode cM_weld 69 = .ok (.iload_n 3, 1) := by decide +kernel
theorem dM_weld_70 : decode cM_weld 70 = .ok (.ifCond .eq 7, 3) := by decide +kernel
theorem dM_weld_73 : decode cM_weld 73 = .ok (.iconst 0, 1) := by decide +kernel
theorem dM_weld_74 : decode cM_weld 74 = .ok (.goto 4, 3) := by decide +kernel
theorem dM_weld_77 : decode cM_weld 77 = .ok (.iload_n 1, 1) := by decide +kernel
theorem dM_weld_78 : decode cM_weld 78 = .ok (.iaload, 1) := by decide +kernel
theorem dM_weld_79 : decode cM_weld 79 = .ok (.ldc 91, 2) := by decide +kernel
theorem dM_weld_81 : decode cM_weld 81 = .ok (.aload_n 0, 1) := by decide +kernel
theorem dM_weld_82 : decode cM_weld 82 = .ok (.getfield 16, 3) := by decide +kernel
theorem dM_weld_85 : decode cM_weld 85 = .ok (.iload_n 3, 1) := by decide +kernel
theorem dM_weld_86 : decode cM_weld 86 = .ok (.ifCond .eq 7, 3) := by decide +kernel
theorem dM_weld_89 : decode cM_weld 89 = .ok (.iconst 0, 1) := by decide +kernel
theorem dM_weld_90 : decode cM_weld 90 = .ok (.goto 4, 3) := by decide +kernel
theorem dM_weld_93 : decode cM_weld 93 = .ok (.iload_n 2, 1) := by decide +kernel
theorem dM_weld_94 : decode cM_weld 94 = .ok (.iaload, 1) := by decide +kernel
theorem dM_weld_95 : decode cM_weld 95 = .ok (.isub, 1) := by decide +kernel
theorem dM_weld_96 : decode cM_weld 96 = .ok (.if_icmp .le 7, 3) := by decide +kernel
theorem dM_weld_99 : decode cM_weld 99 = .ok (.iconst 1, 1) := by decide +kernel
theorem dM_weld_100 : decode cM_weld 100 = .ok (.goto 4, 3) := by decide +kernel
theorem dM_weld_103 : decode cM_weld 103 = .ok (.iconst 0, 1) := by decide +kernel
theorem dM_weld_104 : decode cM_weld 104 = .ok (.istore 4, 2) := by decide +kernel
theorem dM_weld_106 : decode cM_weld 106 = .ok (.aload_n 0, 1) := by decide +kernel
theorem dM_weld_107 : decode cM_weld 107 = .ok (.iload_n 3, 1) := by decide +kernel
theorem dM_weld_108 : decode cM_weld 108 = .ok (.aload_n 0, 1) := by decide +kernel
theorem dM_weld_109 : decode cM_weld 109 = .ok (.iload_n 1, 1) := by decide +kernel
theorem dM_weld_110 : decode cM_weld 110 = .ok (.invokevirtual 88, 3) := by decide +kernel
theorem dM_weld_113 : decode cM_weld 113 = .ok (.ifCond .eq 11, 3) := by decide +kernel
theorem dM_weld_116 : decode cM_weld 116 = .ok (.aload_n 0, 1) := by decide +kernel
theorem dM_weld_117 : decode cM_weld 117 = .ok (.iload_n 2, 1) := by decide +kernel
theorem dM_weld_118 : decode cM_weld 118 = .ok (.invokevirtual 88, 3) := by decide +kernel
theorem dM_weld_121 : decode cM_weld 121 = .ok (.ifCond .ne 7, 3) := by decide +kernel
theorem dM_weld_124 : decode cM_weld 124 = .ok (.iconst 1, 1) := by decide +kernel
theorem dM_weld_125 : decode cM_weld 125 = .ok (.goto 4, 3) := by decide +kernel
theorem dM_weld_128 : decode cM_weld 128 = .ok (.iconst 0, 1) := by decide +kernel
theorem dM_weld_129 : decode cM_weld 129 = .ok (.aload_n 0, 1) := by decide +kernel
theorem dM_weld_130 : decode cM_weld 130 = .ok (.getfield 64, 3) := by decide +kernel
theorem dM_weld_133 : decode cM_weld 133 = .ok (.bipush 40, 2) := by decide +kernel
theorem dM_weld_135 : decode cM_weld 135 = .ok (.if_icmp .eq 8, 3) := by decide +kernel
theorem dM_weld_138 : decode cM_weld 138 = .ok (.iload 4, 2) := by decide +kernel
theorem dM_weld_140 : decode cM_weld 140 = .ok (.ifCond .eq 7, 3) := by decide +kernel
theorem dM_weld_143 : decode cM_weld 143 = .ok (.iconst 1, 1) := by decide +kernel
theorem dM_weld_144 : decode cM_weld 144 = .ok (.goto 4, 3) := by decide +kernel
theorem dM_weld_147 : decode cM_weld 147 = .ok (.iconst 0, 1) := by decide +kernel
theorem dM_weld_148 : decode cM_weld 148 = .ok (.iconst 0, 1) := by decide +kernel
theorem dM_weld_149 : decode cM_weld 149 = .ok (.invokevirtual 76, 3) := by decide +kernel
theorem dM_weld_152 : decode cM_weld 152 = .ok (.ifCond .eq 5, 3) := by decide +kernel
theorem dM_weld_155 : decode cM_weld 155 = .ok (.iconst 0, 1) := by decide +kernel
theorem dM_weld_156 : decode cM_weld 156 = .ok (.ireturn, 1) := by decide +kernel
theorem dM_weld_157 : decode cM_weld 157 = .ok (.aload_n 0, 1) := by decide +kernel
theorem dM_weld_158 : decode cM_weld 158 = .ok (.iconst 3, 1) := by decide +kernel
theorem dM_weld_159 : decode cM_weld 159 = .ok (.iload_n 1, 1) := by decide +kernel
theorem dM_weld_160 : decode cM_weld 160 = .ok (.aload_n 0, 1) := by decide +kernel
theorem dM_weld_161 : decode cM_weld 161 = .ok (.getfield 13, 3) := by decide +kernel
theorem dM_weld_164 : decode cM_weld 164 = .ok (.iload_n 1, 1) := by decide +kernel
theorem dM_weld_165 : decode cM_weld 165 = .ok (.iaload, 1) := by decide +kernel
theorem dM_weld_166 : decode cM_weld 166 = .ok (.aload_n 0, 1) := by decide +kernel
theorem dM_weld_167 : decode cM_weld 167 = .ok (.getfield 13, 3) := by decide +kernel
theorem dM_weld_170 : decode cM_weld 170 = .ok (.iload_n 2, 1) := by decide +kernel
theorem dM_weld_171 : decode cM_weld 171 = .ok (.iaload, 1) := by decide +kernel
theorem dM_weld_172 : decode cM_weld 172 = .ok (.iadd, 1) := by decide +kernel
theorem dM_weld_173 : decode cM_weld 173 = .ok (.aload_n 0, 1) := by decide +kernel
theorem dM_weld_174 : decode cM_weld 174 = .ok (.getfield 16, 3) := by decide +kernel
theorem dM_weld_177 : decode cM_weld 177 = .ok (.iload_n 1, 1) := by decide +kernel
theorem dM_weld_178 : decode cM_weld 178 = .ok (.iaload, 1) := by decide +kernel
theorem dM_weld_179 : decode cM_weld 179 = .ok (.aload_n 0, 1) := by decide +kernel
theorem dM_weld_180 : decode cM_weld 180 = .ok (.getfield 16, 3) := by decide +kernel
theorem dM_weld_183 : decode cM_weld 183 = .ok (.iload_n 2, 1) := by decide +kernel
theorem dM_weld_184 : decode cM_weld 184 = .ok (.iaload, 1) := by decide +kernel
theorem dM_weld_185 : decode cM_weld 185 = .ok (.iadd, 1) := by decide +kernel
theorem dM_weld_186 : decode cM_weld 186 = .ok (.invokevirtual 84, 3) := by decide +kernel
theorem dM_weld_189 : decode cM_weld 189 = .ok (.istore 5, 2) := by decide +kernel
theorem dM_weld_191 : decode cM_weld 191 = .ok (.aload_n 0, 1) := by decide +kernel
theorem dM_weld_192 : decode cM_weld 192 = .ok (.getfield 29, 3) := by decide +kernel
theorem dM_weld_195 : decode cM_weld 195 = .ok (.iload 5, 2) := by decide +kernel
theorem dM_weld_197 : decode cM_weld 197 = .ok (.iload_n 2, 1) := by decide +kernel
theorem dM_weld_198 : decode cM_weld 198 = .ok (.iastore, 1) := by decide +kernel
theorem dM_weld_199 : decode cM_weld 199 = .ok (.aload_n 0, 1) := by decide +kernel
theorem dM_weld_200 : decode cM_weld 200 = .ok (.getfield 19, 3) := by decide +kernel
theorem dM_weld_203 : decode cM_weld 203 = .ok (.iload_n 2, 1) := by decide +kernel
theorem dM_weld_204 : decode cM_weld 204 = .ok (.iconst 1, 1) := by decide +kernel
theorem dM_weld_205 : decode cM_weld 205 = .ok (.iastore, 1) := by decide +kernel
theorem dM_weld_206 : decode cM_weld 206 = .ok (.aload_n 0, 1) := by decide +kernel
theorem dM_weld_207 : decode cM_weld 207 = .ok (.getfield 41, 3) := by decide +kernel
theorem dM_weld_210 : decode cM_weld 210 = .ok (.iload 5, 2) := by decide +kernel
theorem dM_weld_212 : decode cM_weld 212 = .ok (.aload_n 0, 1) := by decide +kernel
theorem dM_weld_213 : decode cM_weld 213 = .ok (.getfield 41, 3) := by decide +kernel
theorem dM_weld_216 : decode cM_weld 216 = .ok (.iload_n 1, 1) := by decide +kernel
theorem dM_weld_217 : decode cM_weld 217 = .ok (.iaload, 1) := by decide +kernel
theorem dM_weld_218 : decode cM_weld 218 = .ok (.aload_n 0, 1) := by decide +kernel
theorem dM_weld_219 : decode cM_weld 219 = .ok (.getfield 41, 3) := by decide +kernel
theorem dM_weld_222 : decode cM_weld 222 = .ok (.iload_n 2, 1) := by decide +kernel
theorem dM_weld_223 : decode cM_weld 223 = .ok (.iaload, 1) := by decide +kernel
theorem dM_weld_224 : decode cM_weld 224 = .ok (.if_icmp .le 12, 3) := by decide +kernel
theorem dM_weld_227 : decode cM_weld 227 = .ok (.aload_n 0, 1) := by decide +kernel
theorem dM_weld_228 : decode cM_weld 228 = .ok (.getfield 41, 3) := by decide +kernel
theorem dM_weld_231 : decode cM_weld 231 = .ok (.iload_n 1, 1) := by decide +kernel
theorem dM_weld_232 : decode cM_weld 232 = .ok (.iaload, 1) := by decide +kernel
theorem dM_weld_233 : decode cM_weld 233 = .ok (.goto 9, 3) := by decide +kernel
theorem dM_weld_236 : decode cM_weld 236 = .ok (.aload_n 0, 1) := by decide +kernel
theorem dM_weld_237 : decode cM_weld 237 = .ok (.getfield 41, 3) := by decide +kernel
theorem dM_weld_240 : decode cM_weld 240 = .ok (.iload_n 2, 1) := by decide +kernel
theorem dM_weld_241 : decode cM_weld 241 = .ok (.iaload, 1) := by decide +kernel
theorem dM_weld_242 : decode cM_weld 242 = .ok (.iastore, 1) := by decide +kernel
theorem dM_weld_243 : decode cM_weld 243 = .ok (.iload 5, 2) := by decide +kernel
theorem dM_weld_245 : decode cM_weld 245 = .ok (.ireturn, 1) := by decide +kernel
theorem dM_roll_0 : decode cM_roll 0 = .ok (.aload_n 0, 1) := by decide +kernel
theorem dM_roll_1 : decode cM_roll 1 = .ok (.iload_n 1, 1) := by decide +kernel
theorem dM_roll_2 : decode cM_roll 2 = .ok (.invokevirtual 71, 3) := by decide +kernel
theorem dM_roll_5 : decode cM_roll 5 = .ok (.ifCond .ne 7, 3) := by decide +kernel
theorem dM_roll_8 : decode cM_roll 8 = .ok (.iconst 1, 1) := by decide +kernel
theorem dM_roll_9 : decode cM_roll 9 = .ok (.goto 4, 3) := by decide +kernel
theorem dM_roll_12 : decode cM_roll 12 = .ok (.iconst 0, 1) := by decide +kernel
theorem dM_roll_13 : decode cM_roll 13 = .ok (.istore 4, 2) := by decide +kernel
theorem dM_roll_15 : decode cM_roll 15 = .ok (.iload_n 2, 1) := by decide +kernel
theorem dM_roll_16 : decode cM_roll 16 = .ok (.iconst 1, 1) := by decide +kernel
theorem dM_roll_17 : decode cM_roll 17 = .ok (.bipush 20, 2) := by decide +kernel
theorem dM_roll_19 : decode cM_roll 19 = .ok (.invokestatic 67, 3) := by decide +kernel
theorem dM_roll_22 : decode cM_roll 22 = .ok (.ifCond .eq 13, 3) := by decide +kernel
theorem dM_roll_25 : decode cM_roll 25 = .ok (.iload_n 3, 1) := by decide +kernel
theorem dM_roll_26 : decode cM_roll 26 = .ok (.iconst 1, 1) := by decide +kernel
theorem dM_roll_27 : decode cM_roll 27 = .ok (.bipush 20, 2) := by decide +kernel
theorem dM_roll_29 : decode cM_roll 29 = .ok (.invokestatic 67, 3) := by decide +kernel
theorem dM_roll_32 : decode cM_roll 32 = .ok (.ifCond .ne 7, 3) := by decide +kernel
theorem dM_roll_35 : decode cM_roll 35 = .ok (.iconst 1, 1) := by decide +kernel
theorem dM_roll_36 : decode cM_roll 36 = .ok (.goto 4, 3) := by decide +kernel
theorem dM_roll_39 : decode cM_roll 39 = .ok (.iconst 0, 1) := by decide +kernel
theorem dM_roll_40 : decode cM_roll 40 = .ok (.istore 5, 2) := by decide +kernel
theorem dM_roll_42 : decode cM_roll 42 = .ok (.iload 4, 2) := by decide +kernel
theorem dM_roll_44 : decode cM_roll 44 = .ok (.ifCond .ne 8, 3) := by decide +kernel
theorem dM_roll_47 : decode cM_roll 47 = .ok (.iload 5, 2) := by decide +kernel
theorem dM_roll_49 : decode cM_roll 49 = .ok (.ifCond .eq 7, 3) := by decide +kernel
theorem dM_roll_52 : decode cM_roll 52 = .ok (.lconst 1, 1) := by decide +kernel
theorem dM_roll_53 : decode cM_roll 53 = .ok (.goto 16, 3) := by decide +kernel
theorem dM_roll_56 : decode cM_roll 56 = .ok (.aload_n 0, 1) := by decide +kernel
theorem dM_roll_57 : decode cM_roll 57 = .ok (.getfield 16, 3) := by decide +kernel
theorem dM_roll_60 : decode cM_roll 60 = .ok (.iload_n 1, 1) := by decide +kernel
theorem dM_roll_61 : decode cM_roll 61 = .ok (.iaload, 1) := by decide +kernel
theorem dM_roll_62 : decode cM_roll 62 = .ok (.i2l, 1) := by decide +kernel
theorem dM_roll_63 : decode cM_roll 63 = .ok (.iload_n 2, 1) := by decide +kernel
theorem dM_roll_64 : decode cM_roll 64 = .ok (.i2l, 1) := by decide +kernel
theorem dM_roll_65 : decode cM_roll 65 = .ok (.lmul, 1) := by decide +kernel
theorem dM_roll_66 : decode cM_roll 66 = .ok (.iload_n 3, 1) := by decide +kernel
theorem dM_roll_67 : decode cM_roll 67 = .ok (.i2l, 1) := by decide +kernel
theorem dM_roll_68 : decode cM_roll 68 = .ok (.ldiv, 1) := by decide +kernel
theorem dM_roll_69 : decode cM_roll 69 = .ok (.lstore 6, 2) := by decide +kernel
theorem dM_roll_71 : decode cM_roll 71 = .ok (.aload_n 0, 1) := by decide +kernel
theorem dM_roll_72 : decode cM_roll 72 = .ok (.getfield 64, 3) := by decide +kernel
theorem dM_roll_75 : decode cM_roll 75 = .ok (.bipush 40, 2) := by decide +kernel
theorem dM_roll_77 : decode cM_roll 77 = .ok (.if_icmp .eq 43, 3) := by decide +kernel
theorem dM_roll_80 : decode cM_roll 80 = .ok (.iload 4, 2) := by decide +kernel
theorem dM_roll_82 : decode cM_roll 82 = .ok (.ifCond .ne 22, 3) := by decide +kernel
theorem dM_roll_85 : decode cM_roll 85 = .ok (.aload_n 0, 1) := by decide +kernel
theorem dM_roll_86 : decode cM_roll 86 = .ok (.getfield 41, 3) := by decide +kernel
theorem dM_roll_89 : decode cM_roll 89 = .ok (.iload 4, 2) := by decide +kernel
theorem dM_roll_91 : decode cM_roll 91 = .ok (.ifCond .eq 7, 3) := by decide +kernel
theorem dM_roll_94 : decode cM_roll 94 = .ok (.iconst 0, 1) := by decide +kernel
theorem dM_roll_95 : decode cM_roll 95 = .ok (.goto 4, 3) := by decide +kernel
theorem dM_roll_98 : decode cM_roll 98 = .ok (.iload_n 1, 1) := by decide +kernel
theorem dM_roll_99 : decode cM_roll 99 = .ok (.iaload, 1) := by decide +kernel
theorem dM_roll_100 : decode cM_roll 100 = .ok (.iconst 3, 1) := by decide +kernel
theorem dM_roll_101 : decode cM_roll 101 = .ok (.if_icmp .eq 19, 3) := by decide +kernel
theorem dM_roll_104 : decode cM_roll 104 = .ok (.lload 6, 2) := by decide +kernel
theorem dM_roll_106 : decode cM_roll 106 = .ok (.lconst 1, 1) := by decide +kernel
theorem dM_roll_107 : decode cM_roll 107 = .ok (.lcmp, 1) := by decide +kernel
theorem dM_roll_108 : decode cM_roll 108 = .ok (.ifCond .lt 12, 3) := by decide +kernel
theorem dM_roll_111 : decode cM_roll 111 = .ok (.lload 6, 2) := by decide +kernel
theorem dM_roll_113 : decode cM_roll 113 = .ok (.ldc2_w 92, 3) := by decide +kernel
theorem dM_roll_116 : decode cM_roll 116 = .ok (.lcmp, 1) := by decide +kernel
theorem dM_roll_117 : decode cM_roll 117 = .ok (.ifCond .le 7, 3) := by decide +kernel
theorem dM_roll_120 : decode cM_roll 120 = .ok (.iconst 1, 1) := by decide +kernel
theorem dM_roll_121 : decode cM_roll 121 = .ok (.goto 4, 3) := by decide +kernel
theorem dM_roll_124 : decode cM_roll 124 = .ok (.iconst 0, 1) := by decide +kernel
theorem dM_roll_125 : decode cM_roll 125 = .ok (.istore 8, 2) := by decide +kernel
theorem dM_roll_127 : decode cM_roll 127 = .ok (.aload_n 0, 1) := by decide +kernel
theorem dM_roll_128 : decode cM_roll 128 = .ok (.iload 4, 2) := by decide +kernel
theorem dM_roll_130 : decode cM_roll 130 = .ok (.aload_n 0, 1) := by decide +kernel
theorem dM_roll_131 : decode cM_roll 131 = .ok (.iload_n 1, 1) := by decide +kernel
theorem dM_roll_132 : decode cM_roll 132 = .ok (.invokevirtual 88, 3) := by decide +kernel
theorem dM_roll_135 : decode cM_roll 135 = .ok (.ifCond .ne 7, 3) := by decide +kernel
theorem dM_roll_138 : decode cM_roll 138 = .ok (.iconst 1, 1) := by decide +kernel
theorem dM_roll_139 : decode cM_roll 139 = .ok (.goto 4, 3) := by decide +kernel
theorem dM_roll_142 : decode cM_roll 142 = .ok (.iconst 0, 1) := by decide +kernel
theorem dM_roll_143 : decode cM_roll 143 = .ok (.iload 5, 2) := by decide +kernel
theorem dM_roll_145 : decode cM_roll 145 = .ok (.iload 8, 2) := by decide +kernel
theorem dM_roll_147 : decode cM_roll 147 = .ok (.invokevirtual 76, 3) := by decide +kernel
theorem dM_roll_150 : decode cM_roll 150 = .ok (.ifCond .eq 5, 3) := by decide +kernel
theorem dM_roll_153 : decode cM_roll 153 = .ok (.iconst 0, 1) := by decide +kernel
theorem dM_roll_154 : decode cM_roll 154 = .ok (.ireturn, 1) := by decide +kernel
theorem dM_roll_155 : decode cM_roll 155 = .ok (.aload_n 0, 1) := by decide +kernel
theorem dM_roll_156 : decode cM_roll 156 = .ok (.iconst 4, 1) := by decide +kernel
theorem dM_roll_157 : decode cM_roll 157 = .ok (.iload_n 1, 1) := by decide +kernel
theorem dM_roll_158 : decode cM_roll 158 = .ok (.aload_n 0, 1) := by decide +kernel
theorem dM_roll_159 : decode cM_roll 159 = .ok (.getfield 13, 3) := by decide +kernel
theorem dM_roll_162 : decode cM_roll 162 = .ok (.iload_n 1, 1) := by decide +kernel
theorem dM_roll_163 : decode cM_roll 163 = .ok (.iaload, 1) := by decide +kernel
theorem dM_roll_164 : decode cM_roll 164 = .ok (.lload 6, 2) := by decide +kernel
theorem dM_roll_166 : decode cM_roll 166 = .ok (.l2i, 1) := by decide +kernel
theorem dM_roll_167 : decode cM_roll 167 = .ok (.invokevirtual 84, 3) := by decide +kernel
theorem dM_roll_170 : decode cM_roll 170 = .ok (.istore 9, 2) := by decide +kernel
theorem dM_roll_172 : decode cM_roll 172 = .ok (.aload_n 0, 1) := by decide +kernel
theorem dM_roll_173 : decode cM_roll 173 = .ok (.getfield 35, 3) := by decide +kernel
theorem dM_roll_176 : decode cM_roll 176 = .ok (.iload 9, 2) := by decide +kernel
theorem dM_roll_178 : decode cM_roll 178 = .ok (.iload_n 2, 1) := by decide +kernel
theorem dM_roll_179 : decode cM_roll 179 = .ok (.iastore, 1) := by decide +kernel
theorem dM_roll_180 : decode cM_roll 180 = .ok (.aload_n 0, 1) := by decide +kernel
theorem dM_roll_181 : decode cM_roll 181 = .ok (.getfield 38, 3) := by decide +kernel
theorem dM_roll_184 : decode cM_roll 184 = .ok (.iload 9, 2) := by decide +kernel
theorem dM_roll_186 : decode cM_roll 186 = .ok (.iload_n 3, 1) := by decide +kernel
theorem dM_roll_187 : decode cM_roll 187 = .ok (.iastore, 1) := by decide +kernel
theorem dM_roll_188 : decode cM_roll 188 = .ok (.aload_n 0, 1) := by decide +kernel
theorem dM_roll_189 : decode cM_roll 189 = .ok (.getfield 41, 3) := by decide +kernel
theorem dM_roll_192 : decode cM_roll 192 = .ok (.iload 9, 2) := by decide +kernel
theorem dM_roll_194 : decode cM_roll 194 = .ok (.dup2, 1) := by decide +kernel
theorem dM_roll_195 : decode cM_roll 195 = .ok (.iaload, 1) := by decide +kernel
theorem dM_roll_196 : decode cM_roll 196 = .ok (.iconst 1, 1) := by decide +kernel
theorem dM_roll_197 : decode cM_roll 197 = .ok (.iadd, 1) := by decide +kernel
theorem dM_roll_198 : decode cM_roll 198 = .ok (.iastore, 1) := by decide +kernel
theorem dM_roll_199 : decode cM_roll 199 = .ok (.iload 9, 2) := by decide +kernel
theorem dM_roll_201 : decode cM_roll 201 = .ok (.ireturn, 1) := by decide +kernel
theorem dM_slit_0 : decode cM_slit 0 = .ok (.aload_n 0, 1) := by decide +kernel
theorem dM_slit_1 : decode cM_slit 1 = .ok (.aload_n 0, 1) := by decide +kernel
theorem dM_slit_2 : decode cM_slit 2 = .ok (.iload_n 1, 1) := by decide +kernel
theorem dM_slit_3 : decode cM_slit 3 = .ok (.invokevirtual 71, 3) := by decide +kernel
theorem dM_slit_6 : decode cM_slit 6 = .ok (.ifCond .ne 7, 3) := by decide +kernel
theorem dM_slit_9 : decode cM_slit 9 = .ok (.iconst 1, 1) := by decide +kernel
theorem dM_slit_10 : decode cM_slit 10 = .ok (.goto 4, 3) := by decide +kernel
theorem dM_slit_13 : decode cM_slit 13 = .ok (.iconst 0, 1) := by decide +kernel
theorem dM_slit_14 : decode cM_slit 14 = .ok (.aload_n 0, 1) := by decide +kernel
theorem dM_slit_15 : decode cM_slit 15 = .ok (.iload_n 1, 1) := by decide +kernel
theorem dM_slit_16 : decode cM_slit 16 = .ok (.invokevirtual 88, 3) := by decide +kernel
theorem dM_slit_19 : decode cM_slit 19 = .ok (.ifCond .ne 7, 3) := by decide +kernel
theorem dM_slit_22 : decode cM_slit 22 = .ok (.iconst 1, 1) := by decide +kernel
theorem dM_slit_23 : decode cM_slit 23 = .ok (.goto 4, 3) := by decide +kernel
theorem dM_slit_26 : decode cM_slit 26 = .ok (.iconst 0, 1) := by decide +kernel
theorem dM_slit_27 : decode cM_slit 27 = .ok (.iload_n 2, 1) := by decide +kernel
theorem dM_slit_28 : decode cM_slit 28 = .ok (.iconst 2, 1) := by decide +kernel
theorem dM_slit_29 : decode cM_slit 29 = .ok (.iconst 4, 1) := by decide +kernel
theorem dM_slit_30 : decode cM_slit 30 = .ok (.invokestatic 67, 3) := by decide +kernel
theorem dM_slit_33 : decode cM_slit 33 = .ok (.ifCond .ne 7, 3) := by decide +kernel
theorem dM_slit_36 : decode cM_slit 36 = .ok (.iconst 1, 1) := by decide +kernel
theorem dM_slit_37 : decode cM_slit 37 = .ok (.goto 4, 3) := by decide +kernel
theorem dM_slit_40 : decode cM_slit 40 = .ok (.iconst 0, 1) := by decide +kernel
theorem dM_slit_41 : decode cM_slit 41 = .ok (.aload_n 0, 1) := by decide +kernel
theorem dM_slit_42 : decode cM_slit 42 = .ok (.getfield 64, 3) := by decide +kernel
theorem dM_slit_45 : decode cM_slit 45 = .ok (.iload_n 2, 1) := by decide +kernel
theorem dM_slit_46 : decode cM_slit 46 = .ok (.iadd, 1) := by decide +kernel
theorem dM_slit_47 : decode cM_slit 47 = .ok (.bipush 40, 2) := by decide +kernel
theorem dM_slit_49 : decode cM_slit 49 = .ok (.if_icmp .le 7, 3) := by decide +kernel
theorem dM_slit_52 : decode cM_slit 52 = .ok (.iconst 1, 1) := by decide +kernel
theorem dM_slit_53 : decode cM_slit 53 = .ok (.goto 4, 3) := by decide +kernel
theorem dM_slit_56 : decode cM_slit 56 = .ok (.iconst 0, 1) := by decide +kernel
theorem dM_slit_57 : decode cM_slit 57 = .ok (.invokevirtual 76, 3) := by decide +kernel
theorem dM_slit_60 : decode cM_slit 60 = .ok (.ifCond .eq 5, 3) := by decide +kernel
theorem dM_slit_63 : decode cM_slit 63 = .ok (.iconst 0, 1) := by decide +kernel
theorem dM_slit_64 : decode cM_slit 64 = .ok (.ireturn, 1) := by decide +kernel
theorem dM_slit_65 : decode cM_slit 65 = .ok (.iconst 0, 1) := by decide +kernel
theorem dM_slit_66 : decode cM_slit 66 = .ok (.istore_n 3, 1) := by decide +kernel
theorem dM_slit_67 : decode cM_slit 67 = .ok (.iload_n 3, 1) := by decide +kernel
theorem dM_slit_68 : decode cM_slit 68 = .ok (.iload_n 2, 1) := by decide +kernel
theorem dM_slit_69 : decode cM_slit 69 = .ok (.if_icmp .ge 47, 3) := by decide +kernel
theorem dM_slit_72 : decode cM_slit 72 = .ok (.aload_n 0, 1) := by decide +kernel
theorem dM_slit_73 : decode cM_slit 73 = .ok (.iconst 5, 1) := by decide +kernel
theorem dM_slit_74 : decode cM_slit 74 = .ok (.iload_n 1, 1) := by decide +kernel
theorem dM_slit_75 : decode cM_slit 75 = .ok (.aload_n 0, 1) := by decide +kernel
theorem dM_slit_76 : decode cM_slit 76 = .ok (.getfield 13, 3) := by decide +kernel
theorem dM_slit_79 : decode cM_slit 79 = .ok (.iload_n 1, 1) := by decide +kernel
theorem dM_slit_80 : decode cM_slit 80 = .ok (.iaload, 1) := by decide +kernel
theorem dM_slit_81 : decode cM_slit 81 = .ok (.iload_n 2, 1) := by decide +kernel
theorem dM_slit_82 : decode cM_slit 82 = .ok (.idiv, 1) := by decide +kernel
theorem dM_slit_83 : decode cM_slit 83 = .ok (.iload_n 3, 1) := by decide +kernel
theorem dM_slit_84 : decode cM_slit 84 = .ok (.ifCond .ne 14, 3) := by decide +kernel
theorem dM_slit_87 : decode cM_slit 87 = .ok (.aload_n 0, 1) := by decide +kernel
theorem dM_slit_88 : decode cM_slit 88 = .ok (.getfield 13, 3) := by decide +kernel
theorem dM_slit_91 : decode cM_slit 91 = .ok (.iload_n 1, 1) := by decide +kernel
theorem dM_slit_92 : decode cM_slit 92 = .ok (.iaload, 1) := by decide +kernel
theorem dM_slit_93 : decode cM_slit 93 = .ok (.iload_n 2, 1) := by decide +kernel
theorem dM_slit_94 : decode cM_slit 94 = .ok (.irem, 1) := by decide +kernel
theorem dM_slit_95 : decode cM_slit 95 = .ok (.goto 4, 3) := by decide +kernel
theorem dM_slit_98 : decode cM_slit 98 = .ok (.iconst 0, 1) := by decide +kernel
theorem dM_slit_99 : decode cM_slit 99 = .ok (.iadd, 1) := by decide +kernel
theorem dM_slit_100 : decode cM_slit 100 = .ok (.aload_n 0, 1) := by decide +kernel
theorem dM_slit_101 : decode cM_slit 101 = .ok (.getfield 16, 3) := by decide +kernel
theorem dM_slit_104 : decode cM_slit 104 = .ok (.iload_n 1, 1) := by decide +kernel
theorem dM_slit_105 : decode cM_slit 105 = .ok (.iaload, 1) := by decide +kernel
theorem dM_slit_106 : decode cM_slit 106 = .ok (.invokevirtual 84, 3) := by decide +kernel
theorem dM_slit_109 : decode cM_slit 109 = .ok (.pop, 1) := by decide +kernel
theorem dM_slit_110 : decode cM_slit 110 = .ok (.iinc 3 1, 3) := by decide +kernel
theorem dM_slit_113 : decode cM_slit 113 = .ok (.goto (-46), 3) := by decide +kernel
theorem dM_slit_116 : decode cM_slit 116 = .ok (.aload_n 0, 1) := by decide +kernel
theorem dM_slit_117 : decode cM_slit 117 = .ok (.getfield 64, 3) := by decide +kernel
theorem dM_slit_120 : decode cM_slit 120 = .ok (.iload_n 2, 1) := by decide +kernel
theorem dM_slit_121 : decode cM_slit 121 = .ok (.isub, 1) := by decide +kernel
theorem dM_slit_122 : decode cM_slit 122 = .ok (.ireturn, 1) := by decide +kernel
theorem dM_hold_0 : decode cM_hold 0 = .ok (.aload_n 0, 1) := by decide +kernel
theorem dM_hold_1 : decode cM_hold 1 = .ok (.iload_n 1, 1) := by decide +kernel
theorem dM_hold_2 : decode cM_hold 2 = .ok (.invokevirtual 71, 3) := by decide +kernel
theorem dM_hold_5 : decode cM_hold 5 = .ok (.ifCond .ne 7, 3) := by decide +kernel
theorem dM_hold_8 : decode cM_hold 8 = .ok (.iconst 1, 1) := by decide +kernel
theorem dM_hold_9 : decode cM_hold 9 = .ok (.goto 4, 3) := by decide +kernel
theorem dM_hold_12 : decode cM_hold 12 = .ok (.iconst 0, 1) := by decide +kernel
theorem dM_hold_13 : decode cM_hold 13 = .ok (.istore_n 3, 1) := by decide +kernel
theorem dM_hold_14 : decode cM_hold 14 = .ok (.aload_n 0, 1) := by decide +kernel
theorem dM_hold_15 : decode cM_hold 15 = .ok (.iload_n 3, 1) := by decide +kernel
theorem dM_hold_16 : decode cM_hold 16 = .ok (.iload_n 3, 1) := by decide +kernel
theorem dM_hold_17 : decode cM_hold 17 = .ok (.ifCond .ne 42, 3) := by decide +kernel
theorem dM_hold_20 : decode cM_hold 20 = .ok (.aload_n 0, 1) := by decide +kernel
theorem dM_hold_21 : decode cM_hold 21 = .ok (.getfield 19, 3) := by decide +kernel
theorem dM_hold_24 : decode cM_hold 24 = .ok (.iload_n 3, 1) := by decide +kernel
theorem dM_hold_25 : decode cM_hold 25 = .ok (.ifCond .eq 7, 3) := by decide +kernel
theorem dM_hold_28 : decode cM_hold 28 = .ok (.iconst 0, 1) := by decide +kernel
theorem dM_hold_29 : decode cM_hold 29 = .ok (.goto 4, 3) := by decide +kernel
theorem dM_hold_32 : decode cM_hold 32 = .ok (.iload_n 1, 1) := by decide +kernel
theorem dM_hold_33 : decode cM_hold 33 = .ok (.iaload, 1) := by decide +kernel
theorem dM_hold_34 : decode cM_hold 34 = .ok (.ifCond .ne 21, 3) := by decide +kernel
theorem dM_hold_37 : decode cM_hold 37 = .ok (.aload_n 0, 1) := by decide +kernel
theorem dM_hold_38 : decode cM_hold 38 = .ok (.getfield 22, 3) := by decide +kernel
theorem dM_hold_41 : decode cM_hold 41 = .ok (.iload_n 3, 1) := by decide +kernel
theorem dM_hold_42 : decode cM_hold 42 = .ok (.ifCond .eq 7, 3) := by decide +kernel
theorem dM_hold_45 : decode cM_hold 45 = .ok (.iconst 0, 1) := by decide +kernel
theorem dM_hold_46 : decode cM_hold 46 = .ok (.goto 4, 3) := by decide +kernel
theorem dM_hold_49 : decode cM_hold 49 = .ok (.iload_n 1, 1) := by decide +kernel
theorem dM_hold_50 : decode cM_hold 50 = .ok (.baload, 1) := by decide +kernel
theorem dM_hold_51 : decode cM_hold 51 = .ok (.iload_n 2, 1) := by decide +kernel
theorem dM_hold_52 : decode cM_hold 52 = .ok (.if_icmp .ne 7, 3) := by decide +kernel
theorem dM_hold_55 : decode cM_hold 55 = .ok (.iconst 1, 1) := by decide +kernel
theorem dM_hold_56 : decode cM_hold 56 = .ok (.goto 4, 3) := by decide +kernel
theorem dM_hold_59 : decode cM_hold 59 = .ok (.iconst 0, 1) := by decide +kernel
theorem dM_hold_60 : decode cM_hold 60 = .ok (.iconst 0, 1) := by decide +kernel
theorem dM_hold_61 : decode cM_hold 61 = .ok (.iconst 0, 1) := by decide +kernel
theorem dM_hold_62 : decode cM_hold 62 = .ok (.invokevirtual 76, 3) := by decide +kernel
theorem dM_hold_65 : decode cM_hold 65 = .ok (.ifCond .eq 4, 3) := by decide +kernel
theorem dM_hold_68 : decode cM_hold 68 = .ok (.return_, 1) := by decide +kernel
theorem dM_hold_69 : decode cM_hold 69 = .ok (.aload_n 0, 1) := by decide +kernel
theorem dM_hold_70 : decode cM_hold 70 = .ok (.getfield 22, 3) := by decide +kernel
theorem dM_hold_73 : decode cM_hold 73 = .ok (.iload_n 1, 1) := by decide +kernel
theorem dM_hold_74 : decode cM_hold 74 = .ok (.iload_n 2, 1) := by decide +kernel
theorem dM_hold_75 : decode cM_hold 75 = .ok (.bastore, 1) := by decide +kernel
theorem dM_hold_76 : decode cM_hold 76 = .ok (.return_, 1) := by decide +kernel
theorem dM_scrap_0 : decode cM_scrap 0 = .ok (.aload_n 0, 1) := by decide +kernel
theorem dM_scrap_1 : decode cM_scrap 1 = .ok (.aload_n 0, 1) := by decide +kernel
theorem dM_scrap_2 : decode cM_scrap 2 = .ok (.iload_n 1, 1) := by decide +kernel
theorem dM_scrap_3 : decode cM_scrap 3 = .ok (.invokevirtual 71, 3) := by decide +kernel
theorem dM_scrap_6 : decode cM_scrap 6 = .ok (.ifCond .ne 7, 3) := by decide +kernel
theorem dM_scrap_9 : decode cM_scrap 9 = .ok (.iconst 1, 1) := by decide +kernel
theorem dM_scrap_10 : decode cM_scrap 10 = .ok (.goto 4, 3) := by decide +kernel
theorem dM_scrap_13 : decode cM_scrap 13 = .ok (.iconst 0, 1) := by decide +kernel
theorem dM_scrap_14 : decode cM_scrap 14 = .ok (.aload_n 0, 1) := by decide +kernel
theorem dM_scrap_15 : decode cM_scrap 15 = .ok (.iload_n 1, 1) := by decide +kernel
theorem dM_scrap_16 : decode cM_scrap 16 = .ok (.invokevirtual 88, 3) := by decide +kernel
theorem dM_scrap_19 : decode cM_scrap 19 = .ok (.ifCond .ne 7, 3) := by decide +kernel
theorem dM_scrap_22 : decode cM_scrap 22 = .ok (.iconst 1, 1) := by decide +kernel
theorem dM_scrap_23 : decode cM_scrap 23 = .ok (.goto 4, 3) := by decide +kernel
theorem dM_scrap_26 : decode cM_scrap 26 = .ok (.iconst 0, 1) := by decide +kernel
theorem dM_scrap_27 : decode cM_scrap 27 = .ok (.iconst 0, 1) := by decide +kernel
theorem dM_scrap_28 : decode cM_scrap 28 = .ok (.iconst 0, 1) := by decide +kernel
theorem dM_scrap_29 : decode cM_scrap 29 = .ok (.invokevirtual 76, 3) := by decide +kernel
theorem dM_scrap_32 : decode cM_scrap 32 = .ok (.ifCond .eq 5, 3) := by decide +kernel
theorem dM_scrap_35 : decode cM_scrap 35 = .ok (.iconst 0, 1) := by decide +kernel
theorem dM_scrap_36 : decode cM_scrap 36 = .ok (.ireturn, 1) := by decide +kernel
theorem dM_scrap_37 : decode cM_scrap 37 = .ok (.aload_n 0, 1) := by decide +kernel
theorem dM_scrap_38 : decode cM_scrap 38 = .ok (.getfield 19, 3) := by decide +kernel
theorem dM_scrap_41 : decode cM_scrap 41 = .ok (.iload_n 1, 1) := by decide +kernel
theorem dM_scrap_42 : decode cM_scrap 42 = .ok (.iconst 2, 1) := by decide +kernel
theorem dM_scrap_43 : decode cM_scrap 43 = .ok (.iastore, 1) := by decide +kernel
theorem dM_scrap_44 : decode cM_scrap 44 = .ok (.aload_n 0, 1) := by decide +kernel
theorem dM_scrap_45 : decode cM_scrap 45 = .ok (.dup, 1) := by decide +kernel
theorem dM_scrap_46 : decode cM_scrap 46 = .ok (.getfield 94, 3) := by decide +kernel
theorem dM_scrap_49 : decode cM_scrap 49 = .ok (.aload_n 0, 1) := by decide +kernel
theorem dM_scrap_50 : decode cM_scrap 50 = .ok (.getfield 13, 3) := by decide +kernel
theorem dM_scrap_53 : decode cM_scrap 53 = .ok (.iload_n 1, 1) := by decide +kernel
theorem dM_scrap_54 : decode cM_scrap 54 = .ok (.iaload, 1) := by decide +kernel
theorem dM_scrap_55 : decode cM_scrap 55 = .ok (.iadd, 1) := by decide +kernel
theorem dM_scrap_56 : decode cM_scrap 56 = .ok (.putfield 94, 3) := by decide +kernel
theorem dM_scrap_59 : decode cM_scrap 59 = .ok (.aload_n 0, 1) := by decide +kernel
theorem dM_scrap_60 : decode cM_scrap 60 = .ok (.getfield 94, 3) := by decide +kernel
theorem dM_scrap_63 : decode cM_scrap 63 = .ok (.ireturn, 1) := by decide +kernel
theorem dM_back_0 : decode cM_back 0 = .ok (.iload_n 1, 1) := by decide +kernel
theorem dM_back_1 : decode cM_back 1 = .ok (.iconst 1, 1) := by decide +kernel
theorem dM_back_2 : decode cM_back 2 = .ok (.bipush 100, 2) := by decide +kernel
theorem dM_back_4 : decode cM_back 4 = .ok (.invokestatic 67, 3) := by decide +kernel
theorem dM_back_7 : decode cM_back 7 = .ok (.ifCond .eq 13, 3) := by decide +kernel
theorem dM_back_10 : decode cM_back 10 = .ok (.iload_n 2, 1) := by decide +kernel
theorem dM_back_11 : decode cM_back 11 = .ok (.iconst 1, 1) := by decide +kernel
theorem dM_back_12 : decode cM_back 12 = .ok (.ldc 75, 2) := by decide +kernel
theorem dM_back_14 : decode cM_back 14 = .ok (.invokestatic 67, 3) := by decide +kernel
theorem dM_back_17 : decode cM_back 17 = .ok (.ifCond .ne 7, 3) := by decide +kernel
theorem dM_back_20 : decode cM_back 20 = .ok (.iconst 1, 1) := by decide +kernel
theorem dM_back_21 : decode cM_back 21 = .ok (.goto 4, 3) := by decide +kernel
theorem dM_back_24 : decode cM_back 24 = .ok (.iconst 0, 1) := by decide +kernel
theorem dM_back_25 : decode cM_back 25 = .ok (.istore_n 3, 1) := by decide +kernel
theorem dM_back_26 : decode cM_back 26 = .ok (.iload_n 3, 1) := by decide +kernel
theorem dM_back_27 : decode cM_back 27 = .ok (.ifCond .eq 7, 3) := by decide +kernel
theorem dM_back_30 : decode cM_back 30 = .ok (.iconst 1, 1) := by decide +kernel
theorem dM_back_31 : decode cM_back 31 = .ok (.goto 16, 3) := by decide +kernel
theorem dM_back_34 : decode cM_back 34 = .ok (.aload_n 0, 1) := by decide +kernel
theorem dM_back_35 : decode cM_back 35 = .ok (.getfield 94, 3) := by decide +kernel
theorem dM_back_38 : decode cM_back 38 = .ok (.i2l, 1) := by decide +kernel
theorem dM_back_39 : decode cM_back 39 = .ok (.iload_n 1, 1) := by decide +kernel
theorem dM_back_40 : decode cM_back 40 = .ok (.i2l, 1) := by decide +kernel
theorem dM_back_41 : decode cM_back 41 = .ok (.lmul, 1) := by decide +kernel
theorem dM_back_42 : decode cM_back 42 = .ok (.ldc2_w 97, 3) := by decide +kernel
theorem dM_back_45 : decode cM_back 45 = .ok (.ldiv, 1) := by decide +kernel
theorem dM_back_46 : decode cM_back 46 = .ok (.l2i, 1) := by decide +kernel
theorem dM_back_47 : decode cM_back 47 = .ok (.istore 4, 2) := by decide +kernel
theorem dM_back_49 : decode cM_back 49 = .ok (.aload_n 0, 1) := by decide +kernel
theorem dM_back_50 : decode cM_back 50 = .ok (.iload_n 3, 1) := by decide +kernel
theorem dM_back_51 : decode cM_back 51 = .ok (.iload 4, 2) := by decide +kernel
theorem dM_back_53 : decode cM_back 53 = .ok (.iconst 1, 1) := by decide +kernel
theorem dM_back_54 : decode cM_back 54 = .ok (.if_icmp .lt 12, 3) := by decide +kernel
theorem dM_back_57 : decode cM_back 57 = .ok (.aload_n 0, 1) := by decide +kernel
theorem dM_back_58 : decode cM_back 58 = .ok (.getfield 64, 3) := by decide +kernel
theorem dM_back_61 : decode cM_back 61 = .ok (.bipush 40, 2) := by decide +kernel
theorem dM_back_63 : decode cM_back 63 = .ok (.if_icmp .ne 7, 3) := by decide +kernel
theorem dM_back_66 : decode cM_back 66 = .ok (.iconst 1, 1) := by decide +kernel
theorem dM_back_67 : decode cM_back 67 = .ok (.goto 4, 3) := by decide +kernel
theorem dM_back_70 : decode cM_back 70 = .ok (.iconst 0, 1) := by decide +kernel
theorem dM_back_71 : decode cM_back 71 = .ok (.iconst 0, 1) := by decide +kernel
theorem dM_back_72 : decode cM_back 72 = .ok (.iconst 0, 1) := by decide +kernel
theorem dM_back_73 : decode cM_back 73 = .ok (.invokevirtual 76, 3) := by decide +kernel
theorem dM_back_76 : decode cM_back 76 = .ok (.ifCond .eq 5, 3) := by decide +kernel
theorem dM_back_79 : decode cM_back 79 = .ok (.iconst 0, 1) := by decide +kernel
theorem dM_back_80 : decode cM_back 80 = .ok (.ireturn, 1) := by decide +kernel
theorem dM_back_81 : decode cM_back 81 = .ok (.aload_n 0, 1) := by decide +kernel
theorem dM_back_82 : decode cM_back 82 = .ok (.dup, 1) := by decide +kernel
theorem dM_back_83 : decode cM_back 83 = .ok (.getfield 94, 3) := by decide +kernel
theorem dM_back_86 : decode cM_back 86 = .ok (.iload 4, 2) := by decide +kernel
theorem dM_back_88 : decode cM_back 88 = .ok (.isub, 1) := by decide +kernel
theorem dM_back_89 : decode cM_back 89 = .ok (.putfield 94, 3) := by decide +kernel
theorem dM_back_92 : decode cM_back 92 = .ok (.aload_n 0, 1) := by decide +kernel
theorem dM_back_93 : decode cM_back 93 = .ok (.iconst 0, 1) := by decide +kernel
theorem dM_back_94 : decode cM_back 94 = .ok (.iconst (-1), 1) := by decide +kernel
theorem dM_back_95 : decode cM_back 95 = .ok (.iload 4, 2) := by decide +kernel
theorem dM_back_97 : decode cM_back 97 = .ok (.iload_n 2, 1) := by decide +kernel
theorem dM_back_98 : decode cM_back 98 = .ok (.invokevirtual 84, 3) := by decide +kernel
theorem dM_back_101 : decode cM_back 101 = .ok (.ireturn, 1) := by decide +kernel
theorem dM_at_0 : decode cM_at 0 = .ok (.aload_n 0, 1) := by decide +kernel
theorem dM_at_1 : decode cM_at 1 = .ok (.aload_n 0, 1) := by decide +kernel
theorem dM_at_2 : decode cM_at 2 = .ok (.iload_n 1, 1) := by decide +kernel
theorem dM_at_3 : decode cM_at 3 = .ok (.invokevirtual 71, 3) := by decide +kernel
theorem dM_at_6 : decode cM_at 6 = .ok (.ifCond .eq 13, 3) := by decide +kernel
theorem dM_at_9 : decode cM_at 9 = .ok (.iload_n 2, 1) := by decide +kernel
theorem dM_at_10 : decode cM_at 10 = .ok (.iconst 0, 1) := by decide +kernel
theorem dM_at_11 : decode cM_at 11 = .ok (.bipush 6, 2) := by decide +kernel
theorem dM_at_13 : decode cM_at 13 = .ok (.invokestatic 67, 3) := by decide +kernel
theorem dM_at_16 : decode cM_at 16 = .ok (.ifCond .ne 7, 3) := by decide +kernel
theorem dM_at_19 : decode cM_at 19 = .ok (.iconst 1, 1) := by decide +kernel
theorem dM_at_20 : decode cM_at 20 = .ok (.goto 4, 3) := by decide +kernel
theorem dM_at_23 : decode cM_at 23 = .ok (.iconst 0, 1) := by decide +kernel
theorem dM_at_24 : decode cM_at 24 = .ok (.iconst 0, 1) := by decide +kernel
theorem dM_at_25 : decode cM_at 25 = .ok (.iconst 0, 1) := by decide +kernel
theorem dM_at_26 : decode cM_at 26 = .ok (.iconst 0, 1) := by decide +kernel
theorem dM_at_27 : decode cM_at 27 = .ok (.invokevirtual 76, 3) := by decide +kernel
theorem dM_at_30 : decode cM_at 30 = .ok (.ifCond .eq 5, 3) := by decide +kernel
theorem dM_at_33 : decode cM_at 33 = .ok (.iconst 0, 1) := by decide +kernel
theorem dM_at_34 : decode cM_at 34 = .ok (.ireturn, 1) := by decide +kernel
theorem dM_at_35 : decode cM_at 35 = .ok (.iload_n 2, 1) := by decide +kernel
theorem dM_at_36 : decode cM_at 36 = .ok (.iconst 3, 1) := by decide +kernel
theorem dM_at_37 : decode cM_at 37 = .ok (.if_icmp .ge 37, 3) := by decide +kernel
theorem dM_at_40 : decode cM_at 40 = .ok (.iload_n 2, 1) := by decide +kernel
theorem dM_at_41 : decode cM_at 41 = .ok (.ifCond .ne 12, 3) := by decide +kernel
theorem dM_at_44 : decode cM_at 44 = .ok (.aload_n 0, 1) := by decide +kernel
theorem dM_at_45 : decode cM_at 45 = .ok (.getfield 13, 3) := by decide +kernel
theorem dM_at_48 : decode cM_at 48 = .ok (.iload_n 1, 1) := by decide +kernel
theorem dM_at_49 : decode cM_at 49 = .ok (.iaload, 1) := by decide +kernel
theorem dM_at_50 : decode cM_at 50 = .ok (.goto 23, 3) := by decide +kernel
theorem dM_at_53 : decode cM_at 53 = .ok (.iload_n 2, 1) := by decide +kernel
theorem dM_at_54 : decode cM_at 54 = .ok (.iconst 1, 1) := by decide +kernel
theorem dM_at_55 : decode cM_at 55 = .ok (.if_icmp .ne 12, 3) := by decide +kernel
theorem dM_at_58 : decode cM_at 58 = .ok (.aload_n 0, 1) := by decide +kernel
theorem dM_at_59 : decode cM_at 59 = .ok (.getfield 16, 3) := by decide +kernel
theorem dM_at_62 : decode cM_at 62 = .ok (.iload_n 1, 1) := by decide +kernel
theorem dM_at_63 : decode cM_at 63 = .ok (.iaload, 1) := by decide +kernel
theorem dM_at_64 : decode cM_at 64 = .ok (.goto 9, 3) := by decide +kernel
theorem dM_at_67 : decode cM_at 67 = .ok (.aload_n 0, 1) := by decide +kernel
theorem dM_at_68 : decode cM_at 68 = .ok (.getfield 19, 3) := by decide +kernel
theorem dM_at_71 : decode cM_at 71 = .ok (.iload_n 1, 1) := by decide +kernel
theorem dM_at_72 : decode cM_at 72 = .ok (.iaload, 1) := by decide +kernel
theorem dM_at_73 : decode cM_at 73 = .ok (.ireturn, 1) := by decide +kernel
theorem dM_at_74 : decode cM_at 74 = .ok (.iload_n 2, 1) := by decide +kernel
theorem dM_at_75 : decode cM_at 75 = .ok (.iconst 3, 1) := by decide +kernel
theorem dM_at_76 : decode cM_at 76 = .ok (.if_icmp .ne 20, 3) := by decide +kernel
theorem dM_at_79 : decode cM_at 79 = .ok (.aload_n 0, 1) := by decide +kernel
theorem dM_at_80 : decode cM_at 80 = .ok (.getfield 22, 3) := by decide +kernel
theorem dM_at_83 : decode cM_at 83 = .ok (.iload_n 1, 1) := by decide +kernel
theorem dM_at_84 : decode cM_at 84 = .ok (.baload, 1) := by decide +kernel
theorem dM_at_85 : decode cM_at 85 = .ok (.ifCond .eq 7, 3) := by decide +kernel
theorem dM_at_88 : decode cM_at 88 = .ok (.iconst 1, 1) := by decide +kernel
theorem dM_at_89 : decode cM_at 89 = .ok (.goto 41, 3) := by decide +kernel
theorem dM_at_92 : decode cM_at 92 = .ok (.iconst 0, 1) := by decide +kernel
theorem dM_at_93 : decode cM_at 93 = .ok (.goto 37, 3) := by decide +kernel
theorem dM_at_96 : decode cM_at 96 = .ok (.iload_n 2, 1) := by decide +kernel
theorem dM_at_97 : decode cM_at 97 = .ok (.iconst 4, 1) := by decide +kernel
theorem dM_at_98 : decode cM_at 98 = .ok (.if_icmp .ne 12, 3) := by decide +kernel
theorem dM_at_101 : decode cM_at 101 = .ok (.aload_n 0, 1) := by decide +kernel
theorem dM_at_102 : decode cM_at 102 = .ok (.getfield 26, 3) := by decide +kernel
theorem dM_at_105 : decode cM_at 105 = .ok (.iload_n 1, 1) := by decide +kernel
theorem dM_at_106 : decode cM_at 106 = .ok (.iaload, 1) := by decide +kernel
theorem dM_at_107 : decode cM_at 107 = .ok (.goto 23, 3) := by decide +kernel
theorem dM_at_110 : decode cM_at 110 = .ok (.iload_n 2, 1) := by decide +kernel
theorem dM_at_111 : decode cM_at 111 = .ok (.iconst 5, 1) := by decide +kernel
theorem dM_at_112 : decode cM_at 112 = .ok (.if_icmp .ne 12, 3) := by decide +kernel
theorem dM_at_115 : decode cM_at 115 = .ok (.aload_n 0, 1) := by decide +kernel
theorem dM_at_116 : decode cM_at 116 = .ok (.getfield 29, 3) := by decide +kernel
theorem dM_at_119 : decode cM_at 119 = .ok (.iload_n 1, 1) := by decide +kernel
theorem dM_at_120 : decode cM_at 120 = .ok (.iaload, 1) := by decide +kernel
theorem dM_at_121 : decode cM_at 121 = .ok (.goto 9, 3) := by decide +kernel
theorem dM_at_124 : decode cM_at 124 = .ok (.aload_n 0, 1) := by decide +kernel
theorem dM_at_125 : decode cM_at 125 = .ok (.getfield 41, 3) := by decide +kernel
theorem dM_at_128 : decode cM_at 128 = .ok (.iload_n 1, 1) := by decide +kernel
theorem dM_at_129 : decode cM_at 129 = .ok (.iaload, 1) := by decide +kernel
theorem dM_at_130 : decode cM_at 130 = .ok (.ireturn, 1) := by decide +kernel
theorem dM_lowest_0 : decode cM_lowest 0 = .ok (.aload_n 0, 1) := by decide +kernel
theorem dM_lowest_1 : decode cM_lowest 1 = .ok (.getfield 99, 3) := by decide +kernel
theorem dM_lowest_4 : decode cM_lowest 4 = .ok (.lstore_n 1, 1) := by decide +kernel
theorem dM_lowest_5 : decode cM_lowest 5 = .ok (.aload_n 0, 1) := by decide +kernel
theorem dM_lowest_6 : decode cM_lowest 6 = .ok (.getfield 102, 3) := by decide +kernel
theorem dM_lowest_9 : decode cM_lowest 9 = .ok (.lstore_n 3, 1) := by decide +kernel
theorem dM_lowest_10 : decode cM_lowest 10 = .ok (.lload_n 3, 1) := by decide +kernel
theorem dM_lowest_11 : decode cM_lowest 11 = .ok (.lconst 0, 1) := by decide +kernel
theorem dM_lowest_12 : decode cM_lowest 12 = .ok (.lcmp, 1) := by decide +kernel
theorem dM_lowest_13 : decode cM_lowest 13 = .ok (.ifCond .le 16, 3) := by decide +kernel
theorem dM_lowest_16 : decode cM_lowest 16 = .ok (.lload_n 1, 1) := by decide +kernel
theorem dM_lowest_17 : decode cM_lowest 17 = .ok (.lload_n 3, 1) := by decide +kernel
theorem dM_lowest_18 : decode cM_lowest 18 = .ok (.lrem, 1) := by decide +kernel
theorem dM_lowest_19 : decode cM_lowest 19 = .ok (.lstore 5, 2) := by decide +kernel
theorem dM_lowest_21 : decode cM_lowest 21 = .ok (.lload_n 3, 1) := by decide +kernel
theorem dM_lowest_22 : decode cM_lowest 22 = .ok (.lstore_n 1, 1) := by decide +kernel
theorem dM_lowest_23 : decode cM_lowest 23 = .ok (.lload 5, 2) := by decide +kernel
theorem dM_lowest_25 : decode cM_lowest 25 = .ok (.lstore_n 3, 1) := by decide +kernel
theorem dM_lowest_26 : decode cM_lowest 26 = .ok (.goto (-16), 3) := by decide +kernel
theorem dM_lowest_29 : decode cM_lowest 29 = .ok (.aload_n 0, 1) := by decide +kernel
theorem dM_lowest_30 : decode cM_lowest 30 = .ok (.aload_n 0, 1) := by decide +kernel
theorem dM_lowest_31 : decode cM_lowest 31 = .ok (.getfield 99, 3) := by decide +kernel
theorem dM_lowest_34 : decode cM_lowest 34 = .ok (.lload_n 1, 1) := by decide +kernel
theorem dM_lowest_35 : decode cM_lowest 35 = .ok (.ldiv, 1) := by decide +kernel
theorem dM_lowest_36 : decode cM_lowest 36 = .ok (.putfield 99, 3) := by decide +kernel
theorem dM_lowest_39 : decode cM_lowest 39 = .ok (.aload_n 0, 1) := by decide +kernel
theorem dM_lowest_40 : decode cM_lowest 40 = .ok (.aload_n 0, 1) := by decide +kernel
theorem dM_lowest_41 : decode cM_lowest 41 = .ok (.getfield 102, 3) := by decide +kernel
theorem dM_lowest_44 : decode cM_lowest 44 = .ok (.lload_n 1, 1) := by decide +kernel
theorem dM_lowest_45 : decode cM_lowest 45 = .ok (.ldiv, 1) := by decide +kernel
theorem dM_lowest_46 : decode cM_lowest 46 = .ok (.putfield 102, 3) := by decide +kernel
theorem dM_lowest_49 : decode cM_lowest 49 = .ok (.return_, 1) := by decide +kernel
theorem dM_goBack_0 : decode cM_goBack 0 = .ok (.iload_n 1, 1) := by decide +kernel
theorem dM_goBack_1 : decode cM_goBack 1 = .ok (.istore_n 3, 1) := by decide +kernel
theorem dM_goBack_2 : decode cM_goBack 2 = .ok (.aload_n 0, 1) := by decide +kernel
theorem dM_goBack_3 : decode cM_goBack 3 = .ok (.iload_n 2, 1) := by decide +kernel
theorem dM_goBack_4 : decode cM_goBack 4 = .ok (.i2l, 1) := by decide +kernel
theorem dM_goBack_5 : decode cM_goBack 5 = .ok (.putfield 99, 3) := by decide +kernel
theorem dM_goBack_8 : decode cM_goBack 8 = .ok (.aload_n 0, 1) := by decide +kernel
theorem dM_goBack_9 : decode cM_goBack 9 = .ok (.lconst 1, 1) := by decide +kernel
theorem dM_goBack_10 : decode cM_goBack 10 = .ok (.putfield 102, 3) := by decide +kernel
theorem dM_goBack_13 : decode cM_goBack 13 = .ok (.aload_n 0, 1) := by decide +kernel
theorem dM_goBack_14 : decode cM_goBack 14 = .ok (.getfield 7, 3) := by decide +kernel
theorem dM_goBack_17 : decode cM_goBack 17 = .ok (.iload_n 3, 1) := by decide +kernel
theorem dM_goBack_18 : decode cM_goBack 18 = .ok (.iaload, 1) := by decide +kernel
theorem dM_goBack_19 : decode cM_goBack 19 = .ok (.ifCond .eq 155, 3) := by decide +kernel
theorem dM_goBack_22 : decode cM_goBack 22 = .ok (.aload_n 0, 1) := by decide +kernel
theorem dM_goBack_23 : decode cM_goBack 23 = .ok (.getfield 26, 3) := by decide +kernel
theorem dM_goBack_26 : decode cM_goBack 26 = .ok (.iload_n 3, 1) := by decide +kernel
theorem dM_goBack_27 : decode cM_goBack 27 = .ok (.iaload, 1) := by decide +kernel
theorem dM_goBack_28 : decode cM_goBack 28 = .ok (.istore 4, 2) := by decide +kernel
theorem dM_goBack_30 : decode cM_goBack 30 = .ok (.aload_n 0, 1) := by decide +kernel
theorem dM_goBack_31 : decode cM_goBack 31 = .ok (.getfield 7, 3) := by decide +kernel
theorem dM_goBack_34 : decode cM_goBack 34 = .ok (.iload_n 3, 1) := by decide +kernel
theorem dM_goBack_35 : decode cM_goBack 35 = .ok (.iaload, 1) := by decide +kernel
theorem dM_goBack_36 : decode cM_goBack 36 = .ok (.iconst 2, 1) := by decide +kernel
theorem dM_goBack_37 : decode cM_goBack 37 = .ok (.if_icmp .ne 24, 3) := by decide +kernel
theorem dM_goBack_40 : decode cM_goBack 40 = .ok (.aload_n 0, 1) := by decide +kernel
theorem dM_goBack_41 : decode cM_goBack 41 = .ok (.aload_n 0, 1) := by decide +kernel
theorem dM_goBack_42 : decode cM_goBack 42 = .ok (.getfield 99, 3) := by decide +kernel
theorem dM_goBack_45 : decode cM_goBack 45 = .ok (.aload_n 0, 1) := by decide +kernel
theorem dM_goBack_46 : decode cM_goBack 46 = .ok (.getfield 32, 3) := by decide +kernel
theorem dM_goBack_49 : decode cM_goBack 49 = .ok (.iload_n 3, 1) := by decide +kernel
theorem dM_goBack_50 : decode cM_goBack 50 = .ok (.iaload, 1) := by decide +kernel
theorem dM_goBack_51 : decode cM_goBack 51 = .ok (.i2l, 1) := by decide +kernel
theorem dM_goBack_52 : decode cM_goBack 52 = .ok (.aload_n 0, 1) := by decide +kernel
theorem dM_goBack_53 : decode cM_goBack 53 = .ok (.getfield 102, 3) := by decide +kernel
theorem dM_goBack_56 : decode cM_goBack 56 = .ok (.lmul, 1) := by decide +kernel
theorem dM_goBack_57 : decode cM_goBack 57 = .ok (.ladd, 1) := by decide +kernel
theorem dM_goBack_58 : decode cM_goBack 58 = .ok (.putfield 99, 3) := by decide +kernel
theorem dM_goBack_61 : decode cM_goBack 61 = .ok (.aload_n 0, 1) := by decide +kernel
theorem dM_goBack_62 : decode cM_goBack 62 = .ok (.getfield 7, 3) := by decide +kernel
theorem dM_goBack_65 : decode cM_goBack 65 = .ok (.iload_n 3, 1) := by decide +kernel
theorem dM_goBack_66 : decode cM_goBack 66 = .ok (.iaload, 1) := by decide +kernel
theorem dM_goBack_67 : decode cM_goBack 67 = .ok (.iconst 4, 1) := by decide +kernel
theorem dM_goBack_68 : decode cM_goBack 68 = .ok (.if_icmp .ne 35, 3) := by decide +kernel
theorem dM_goBack_71 : decode cM_goBack 71 = .ok (.aload_n 0, 1) := by decide +kernel
theorem dM_goBack_72 : decode cM_goBack 72 = .ok (.aload_n 0, 1) := by decide +kernel
theorem dM_goBack_73 : decode cM_goBack 73 = .ok (.getfield 99, 3) := by decide +kernel
theorem dM_goBack_76 : decode cM_goBack 76 = .ok (.aload_n 0, 1) := by decide +kernel
theorem dM_goBack_77 : decode cM_goBack 77 = .ok (.getfield 38, 3) := by decide +kernel
theorem dM_goBack_80 : decode cM_goBack 80 = .ok (.iload_n 3, 1) := by decide +kernel
theorem dM_goBack_81 : decode cM_goBack 81 = .ok (.iaload, 1) := by decide +kernel
theorem dM_goBack_82 : decode cM_goBack 82 = .ok (.i2l, 1) := by decide +kernel
theorem dM_goBack_83 : decode cM_goBack 83 = .ok (.lmul, 1) := by decide +kernel
theorem dM_goBack_84 : decode cM_goBack 84 = .ok (.putfield 99, 3) := by decide +kernel
theorem dM_goBack_87 : decode cM_goBack 87 = .ok (.aload_n 0, 1) := by decide +kernel
theorem dM_goBack_88 : decode cM_goBack 88 = .ok (.aload_n 0, 1) := by decide +kernel
theorem dM_goBack_89 : decode cM_goBack 89 = .ok (.getfield 102, 3) := by decide +kernel
theorem dM_goBack_92 : decode cM_goBack 92 = .ok (.aload_n 0, 1) := by decide +kernel
theorem dM_goBack_93 : decode cM_goBack 93 = .ok (.getfield 35, 3) := by decide +kernel
theorem dM_goBack_96 : decode cM_goBack 96 = .ok (.iload_n 3, 1) := by decide +kernel
theorem dM_goBack_97 : decode cM_goBack 97 = .ok (.iaload, 1) := by decide +kernel
theorem dM_goBack_98 : decode cM_goBack 98 = .ok (.i2l, 1) := by decide +kernel
theorem dM_goBack_99 : decode cM_goBack 99 = .ok (.lmul, 1) := by decide +kernel
theorem dM_goBack_100 : decode cM_goBack 100 = .ok (.putfield 102, 3) := by decide +kernel
theorem dM_goBack_103 : decode cM_goBack 103 = .ok (.aload_n 0, 1) := by decide +kernel
theorem dM_goBack_104 : decode cM_goBack 104 = .ok (.getfield 7, 3) := by decide +kernel
theorem dM_goBack_107 : decode cM_goBack 107 = .ok (.iload_n 3, 1) := by decide +kernel
theorem dM_goBack_108 : decode cM_goBack 108 = .ok (.iaload, 1) := by decide +kernel
theorem dM_goBack_109 : decode cM_goBack 109 = .ok (.iconst 3, 1) := by decide +kernel
theorem dM_goBack_110 : decode cM_goBack 110 = .ok (.if_icmp .ne 54, 3) := by decide +kernel
theorem dM_goBack_113 : decode cM_goBack 113 = .ok (.aload_n 0, 1) := by decide +kernel
theorem dM_goBack_114 : decode cM_goBack 114 = .ok (.getfield 99, 3) := by decide +kernel
theorem dM_goBack_117 : decode cM_goBack 117 = .ok (.aload_n 0, 1) := by decide +kernel
theorem dM_goBack_118 : decode cM_goBack 118 = .ok (.getfield 16, 3) := by decide +kernel
theorem dM_goBack_121 : decode cM_goBack 121 = .ok (.iload 4, 2) := by decide +kernel
theorem dM_goBack_123 : decode cM_goBack 123 = .ok (.iaload, 1) := by decide +kernel
theorem dM_goBack_124 : decode cM_goBack 124 = .ok (.i2l, 1) := by decide +kernel
theorem dM_goBack_125 : decode cM_goBack 125 = .ok (.aload_n 0, 1) := by decide +kernel
theorem dM_goBack_126 : decode cM_goBack 126 = .ok (.getfield 102, 3) := by decide +kernel
theorem dM_goBack_129 : decode cM_goBack 129 = .ok (.lmul, 1) := by decide +kernel
theorem dM_goBack_130 : decode cM_goBack 130 = .ok (.lcmp, 1) := by decide +kernel
theorem dM_goBack_131 : decode cM_goBack 131 = .ok (.ifCond .lt 33, 3) := by decide +kernel
theorem dM_goBack_134 : decode cM_goBack 134 = .ok (.aload_n 0, 1) := by decide +kernel
theorem dM_goBack_135 : decode cM_goBack 135 = .ok (.aload_n 0, 1) := by decide +kernel
theorem dM_goBack_136 : decode cM_goBack 136 = .ok (.getfield 99, 3) := by decide +kernel
theorem dM_goBack_139 : decode cM_goBack 139 = .ok (.aload_n 0, 1) := by decide +kernel
theorem dM_goBack_140 : decode cM_goBack 140 = .ok (.getfield 16, 3) := by decide +kernel
theorem dM_goBack_143 : decode cM_goBack 143 = .ok (.iload 4, 2) := by decide +kernel
theorem dM_goBack_145 : decode cM_goBack 145 = .ok (.iaload, 1) := by decide +kernel
theorem dM_goBack_146 : decode cM_goBack 146 = .ok (.i2l, 1) := by decide +kernel
theorem dM_goBack_147 : decode cM_goBack 147 = .ok (.aload_n 0, 1) := by decide +kernel
theorem dM_goBack_148 : decode cM_goBack 148 = .ok (.getfield 102, 3) := by decide +kernel
theorem dM_goBack_151 : decode cM_goBack 151 = .ok (.lmul, 1) := by decide +kernel
theorem dM_goBack_152 : decode cM_goBack 152 = .ok (.lsub, 1) := by decide +kernel
theorem dM_goBack_153 : decode cM_goBack 153 = .ok (.putfield 99, 3) := by decide +kernel
theorem dM_goBack_156 : decode cM_goBack 156 = .ok (.aload_n 0, 1) := by decide +kernel
theorem dM_goBack_157 : decode cM_goBack 157 = .ok (.getfield 29, 3) := by decide +kernel
theorem dM_goBack_160 : decode cM_goBack 160 = .ok (.iload_n 3, 1) := by decide +kernel
theorem dM_goBack_161 : decode cM_goBack 161 = .ok (.iaload, 1) := by decide +kernel
theorem dM_goBack_162 : decode cM_goBack 162 = .ok (.istore 4, 2) := by decide +kernel
theorem dM_goBack_164 : decode cM_goBack 164 = .ok (.aload_n 0, 1) := by decide +kernel
theorem dM_goBack_165 : decode cM_goBack 165 = .ok (.invokevirtual 105, 3) := by decide +kernel
theorem dM_goBack_168 : decode cM_goBack 168 = .ok (.iload 4, 2) := by decide +kernel
theorem dM_goBack_170 : decode cM_goBack 170 = .ok (.istore_n 3, 1) := by decide +kernel
theorem dM_goBack_171 : decode cM_goBack 171 = .ok (.goto (-158), 3) := by decide +kernel
theorem dM_goBack_174 : decode cM_goBack 174 = .ok (.aload_n 0, 1) := by decide +kernel
theorem dM_goBack_175 : decode cM_goBack 175 = .ok (.invokevirtual 105, 3) := by decide +kernel
theorem dM_goBack_178 : decode cM_goBack 178 = .ok (.aload_n 0, 1) := by decide +kernel
theorem dM_goBack_179 : decode cM_goBack 179 = .ok (.iload_n 3, 1) := by decide +kernel
theorem dM_goBack_180 : decode cM_goBack 180 = .ok (.putfield 108, 3) := by decide +kernel
theorem dM_goBack_183 : decode cM_goBack 183 = .ok (.return_, 1) := by decide +kernel
theorem dM_origin_0 : decode cM_origin 0 = .ok (.aload_n 0, 1) := by decide +kernel
theorem dM_origin_1 : decode cM_origin 1 = .ok (.iload_n 1, 1) := by decide +kernel
theorem dM_origin_2 : decode cM_origin 2 = .ok (.invokevirtual 71, 3) := by decide +kernel
theorem dM_origin_5 : decode cM_origin 5 = .ok (.ifCond .eq 12, 3) := by decide +kernel
theorem dM_origin_8 : decode cM_origin 8 = .ok (.iload_n 3, 1) := by decide +kernel
theorem dM_origin_9 : decode cM_origin 9 = .ok (.iconst 0, 1) := by decide +kernel
theorem dM_origin_10 : decode cM_origin 10 = .ok (.iconst 2, 1) := by decide +kernel
theorem dM_origin_11 : decode cM_origin 11 = .ok (.invokestatic 67, 3) := by decide +kernel
theorem dM_origin_14 : decode cM_origin 14 = .ok (.ifCond .ne 7, 3) := by decide +kernel
theorem dM_origin_17 : decode cM_origin 17 = .ok (.iconst 1, 1) := by decide +kernel
theorem dM_origin_18 : decode cM_origin 18 = .ok (.goto 4, 3) := by decide +kernel
theorem dM_origin_21 : decode cM_origin 21 = .ok (.iconst 0, 1) := by decide +kernel
theorem dM_origin_22 : decode cM_origin 22 = .ok (.istore 4, 2) := by decide +kernel
theorem dM_origin_24 : decode cM_origin 24 = .ok (.aload_n 0, 1) := by decide +kernel
theorem dM_origin_25 : decode cM_origin 25 = .ok (.iload 4, 2) := by decide +kernel
theorem dM_origin_27 : decode cM_origin 27 = .ok (.iload 4, 2) := by decide +kernel
theorem dM_origin_29 : decode cM_origin 29 = .ok (.ifCond .ne 32, 3) := by decide +kernel
theorem dM_origin_32 : decode cM_origin 32 = .ok (.iload_n 2, 1) := by decide +kernel
theorem dM_origin_33 : decode cM_origin 33 = .ok (.iconst 0, 1) := by decide +kernel
theorem dM_origin_34 : decode cM_origin 34 = .ok (.aload_n 0, 1) := by decide +kernel
theorem dM_origin_35 : decode cM_origin 35 = .ok (.getfield 16, 3) := by decide +kernel
theorem dM_origin_38 : decode cM_origin 38 = .ok (.iload 4, 2) := by decide +kernel
theorem dM_origin_40 : decode cM_origin 40 = .ok (.ifCond .eq 7, 3) := by decide +kernel
theorem dM_origin_43 : decode cM_origin 43 = .ok (.iconst 0, 1) := by decide +kernel
theorem dM_origin_44 : decode cM_origin 44 = .ok (.goto 4, 3) := by decide +kernel
theorem dM_origin_47 : decode cM_origin 47 = .ok (.iload_n 1, 1) := by decide +kernel
theorem dM_origin_48 : decode cM_origin 48 = .ok (.iaload, 1) := by decide +kernel
theorem dM_origin_49 : decode cM_origin 49 = .ok (.iconst 1, 1) := by decide +kernel
theorem dM_origin_50 : decode cM_origin 50 = .ok (.isub, 1) := by decide +kernel
theorem dM_origin_51 : decode cM_origin 51 = .ok (.invokestatic 67, 3) := by decide +kernel
theorem dM_origin_54 : decode cM_origin 54 = .ok (.ifCond .ne 7, 3) := by decide +kernel
theorem dM_origin_57 : decode cM_origin 57 = .ok (.iconst 1, 1) := by decide +kernel
theorem dM_origin_58 : decode cM_origin 58 = .ok (.goto 4, 3) := by decide +kernel
theorem dM_origin_61 : decode cM_origin 61 = .ok (.iconst 0, 1) := by decide +kernel
theorem dM_origin_62 : decode cM_origin 62 = .ok (.iconst 0, 1) := by decide +kernel
theorem dM_origin_63 : decode cM_origin 63 = .ok (.iconst 0, 1) := by decide +kernel
theorem dM_origin_64 : decode cM_origin 64 = .ok (.invokevirtual 76, 3) := by decide +kernel
theorem dM_origin_67 : decode cM_origin 67 = .ok (.ifCond .eq 5, 3) := by decide +kernel
theorem dM_origin_70 : decode cM_origin 70 = .ok (.lconst 0, 1) := by decide +kernel
theorem dM_origin_71 : decode cM_origin 71 = .ok (.lreturn, 1) := by decide +kernel
theorem dM_origin_72 : decode cM_origin 72 = .ok (.aload_n 0, 1) := by decide +kernel
theorem dM_origin_73 : decode cM_origin 73 = .ok (.iload_n 1, 1) := by decide +kernel
theorem dM_origin_74 : decode cM_origin 74 = .ok (.iload_n 2, 1) := by decide +kernel
theorem dM_origin_75 : decode cM_origin 75 = .ok (.invokevirtual 111, 3) := by decide +kernel
theorem dM_origin_78 : decode cM_origin 78 = .ok (.iload_n 3, 1) := by decide +kernel
theorem dM_origin_79 : decode cM_origin 79 = .ok (.ifCond .ne 11, 3) := by decide +kernel
theorem dM_origin_82 : decode cM_origin 82 = .ok (.aload_n 0, 1) := by decide +kernel
theorem dM_origin_83 : decode cM_origin 83 = .ok (.getfield 108, 3) := by decide +kernel
theorem dM_origin_86 : decode cM_origin 86 = .ok (.i2l, 1) := by decide +kernel
theorem dM_origin_87 : decode cM_origin 87 = .ok (.goto 19, 3) := by decide +kernel
theorem dM_origin_90 : decode cM_origin 90 = .ok (.iload_n 3, 1) := by decide +kernel
theorem dM_origin_91 : decode cM_origin 91 = .ok (.iconst 1, 1) := by decide +kernel
theorem dM_origin_92 : decode cM_origin 92 = .ok (.if_icmp .ne 10, 3) := by decide +kernel
theorem dM_origin_95 : decode cM_origin 95 = .ok (.aload_n 0, 1) := by decide +kernel
theorem dM_origin_96 : decode cM_origin 96 = .ok (.getfield 99, 3) := by decide +kernel
theorem dM_origin_99 : decode cM_origin 99 = .ok (.goto 7, 3) := by decide +kernel
theorem dM_origin_102 : decode cM_origin 102 = .ok (.aload_n 0, 1) := by decide +kernel
theorem dM_origin_103 : decode cM_origin 103 = .ok (.getfield 102, 3) := by decide +kernel
theorem dM_origin_106 : decode cM_origin 106 = .ok (.lreturn, 1) := by decide +kernel
theorem dM_defect_0 : decode cM_defect 0 = .ok (.aload_n 0, 1) := by decide +kernel
theorem dM_defect_1 : decode cM_defect 1 = .ok (.iload_n 1, 1) := by decide +kernel
theorem dM_defect_2 : decode cM_defect 2 = .ok (.invokevirtual 71, 3) := by decide +kernel
theorem dM_defect_5 : decode cM_defect 5 = .ok (.ifCond .ne 7, 3) := by decide +kernel
theorem dM_defect_8 : decode cM_defect 8 = .ok (.iconst 1, 1) := by decide +kernel
theorem dM_defect_9 : decode cM_defect 9 = .ok (.goto 4, 3) := by decide +kernel
theorem dM_defect_12 : decode cM_defect 12 = .ok (.iconst 0, 1) := by decide +kernel
theorem dM_defect_13 : decode cM_defect 13 = .ok (.istore_n 3, 1) := by decide +kernel
theorem dM_defect_14 : decode cM_defect 14 = .ok (.aload_n 0, 1) := by decide +kernel
theorem dM_defect_15 : decode cM_defect 15 = .ok (.iload_n 3, 1) := by decide +kernel
theorem dM_defect_16 : decode cM_defect 16 = .ok (.iload_n 3, 1) := by decide +kernel
theorem dM_defect_17 : decode cM_defect 17 = .ok (.ifCond .ne 31, 3) := by decide +kernel
theorem dM_defect_20 : decode cM_defect 20 = .ok (.iload_n 2, 1) := by decide +kernel
theorem dM_defect_21 : decode cM_defect 21 = .ok (.iconst 0, 1) := by decide +kernel
theorem dM_defect_22 : decode cM_defect 22 = .ok (.aload_n 0, 1) := by decide +kernel
theorem dM_defect_23 : decode cM_defect 23 = .ok (.getfield 16, 3) := by decide +kernel
theorem dM_defect_26 : decode cM_defect 26 = .ok (.iload_n 3, 1) := by decide +kernel
theorem dM_defect_27 : decode cM_defect 27 = .ok (.ifCond .eq 7, 3) := by decide +kernel
theorem dM_defect_30 : decode cM_defect 30 = .ok (.iconst 0, 1) := by decide +kernel
theorem dM_defect_31 : decode cM_defect 31 = .ok (.goto 4, 3) := by decide +kernel
theorem dM_defect_34 : decode cM_defect 34 = .ok (.iload_n 1, 1) := by decide +kernel
theorem dM_defect_35 : decode cM_defect 35 = .ok (.iaload, 1) := by decide +kernel
theorem dM_defect_36 : decode cM_defect 36 = .ok (.iconst 1, 1) := by decide +kernel
theorem dM_defect_37 : decode cM_defect 37 = .ok (.isub, 1) := by decide +kernel
theorem dM_defect_38 : decode cM_defect 38 = .ok (.invokestatic 67, 3) := by decide +kernel
theorem dM_defect_41 : decode cM_defect 41 = .ok (.ifCond .ne 7, 3) := by decide +kernel
theorem dM_defect_44 : decode cM_defect 44 = .ok (.iconst 1, 1) := by decide +kernel
theorem dM_defect_45 : decode cM_defect 45 = .ok (.goto 4, 3) := by decide +kernel
theorem dM_defect_48 : decode cM_defect 48 = .ok (.iconst 0, 1) := by decide +kernel
theorem dM_defect_49 : decode cM_defect 49 = .ok (.aload_n 0, 1) := by decide +kernel
theorem dM_defect_50 : decode cM_defect 50 = .ok (.getfield 115, 3) := by decide +kernel
theorem dM_defect_53 : decode cM_defect 53 = .ok (.bipush 10, 2) := by decide +kernel
theorem dM_defect_55 : decode cM_defect 55 = .ok (.if_icmp .ne 7, 3) := by decide +kernel
theorem dM_defect_58 : decode cM_defect 58 = .ok (.iconst 1, 1) := by decide +kernel
theorem dM_defect_59 : decode cM_defect 59 = .ok (.goto 4, 3) := by decide +kernel
theorem dM_defect_62 : decode cM_defect 62 = .ok (.iconst 0, 1) := by decide +kernel
theorem dM_defect_63 : decode cM_defect 63 = .ok (.iconst 0, 1) := by decide +kernel
theorem dM_defect_64 : decode cM_defect 64 = .ok (.invokevirtual 76, 3) := by decide +kernel
theorem dM_defect_67 : decode cM_defect 67 = .ok (.ifCond .eq 5, 3) := by decide +kernel
theorem dM_defect_70 : decode cM_defect 70 = .ok (.iconst 0, 1) := by decide +kernel
theorem dM_defect_71 : decode cM_defect 71 = .ok (.ireturn, 1) := by decide +kernel
theorem dM_defect_72 : decode cM_defect 72 = .ok (.aload_n 0, 1) := by decide +kernel
theorem dM_defect_73 : decode cM_defect 73 = .ok (.iload_n 1, 1) := by decide +kernel
theorem dM_defect_74 : decode cM_defect 74 = .ok (.iload_n 2, 1) := by decide +kernel
theorem dM_defect_75 : decode cM_defect 75 = .ok (.invokevirtual 111, 3) := by decide +kernel
theorem dM_defect_78 : decode cM_defect 78 = .ok (.aload_n 0, 1) := by decide +kernel
theorem dM_defect_79 : decode cM_defect 79 = .ok (.getfield 44, 3) := by decide +kernel
theorem dM_defect_82 : decode cM_defect 82 = .ok (.aload_n 0, 1) := by decide +kernel
theorem dM_defect_83 : decode cM_defect 83 = .ok (.getfield 115, 3) := by decide +kernel
theorem dM_defect_86 : decode cM_defect 86 = .ok (.aload_n 0, 1) := by decide +kernel
theorem dM_defect_87 : decode cM_defect 87 = .ok (.getfield 108, 3) := by decide +kernel
theorem dM_defect_90 : decode cM_defect 90 = .ok (.iastore, 1) := by decide +kernel
theorem dM_defect_91 : decode cM_defect 91 = .ok (.aload_n 0, 1) := by decide +kernel
theorem dM_defect_92 : decode cM_defect 92 = .ok (.getfield 47, 3) := by decide +kernel
theorem dM_defect_95 : decode cM_defect 95 = .ok (.aload_n 0, 1) := by decide +kernel
theorem dM_defect_96 : decode cM_defect 96 = .ok (.getfield 115, 3) := by decide +kernel
theorem dM_defect_99 : decode cM_defect 99 = .ok (.aload_n 0, 1) := by decide +kernel
theorem dM_defect_100 : decode cM_defect 100 = .ok (.getfield 99, 3) := by decide +kernel
theorem dM_defect_103 : decode cM_defect 103 = .ok (.lastore, 1) := by decide +kernel
theorem dM_defect_104 : decode cM_defect 104 = .ok (.aload_n 0, 1) := by decide +kernel
theorem dM_defect_105 : decode cM_defect 105 = .ok (.getfield 51, 3) := by decide +kernel
theorem dM_defect_108 : decode cM_defect 108 = .ok (.aload_n 0, 1) := by decide +kernel
theorem dM_defect_109 : decode cM_defect 109 = .ok (.getfield 115, 3) := by decide +kernel
theorem dM_defect_112 : decode cM_defect 112 = .ok (.aload_n 0, 1) := by decide +kernel
theorem dM_defect_113 : decode cM_defect 113 = .ok (.getfield 102, 3) := by decide +kernel
theorem dM_defect_116 : decode cM_defect 116 = .ok (.lastore, 1) := by decide +kernel
theorem dM_defect_117 : decode cM_defect 117 = .ok (.aload_n 0, 1) := by decide +kernel
theorem dM_defect_118 : decode cM_defect 118 = .ok (.dup, 1) := by decide +kernel
theorem dM_defect_119 : decode cM_defect 119 = .ok (.getfield 115, 3) := by decide +kernel
theorem dM_defect_122 : decode cM_defect 122 = .ok (.iconst 1, 1) := by decide +kernel
theorem dM_defect_123 : decode cM_defect 123 = .ok (.iadd, 1) := by decide +kernel
theorem dM_defect_124 : decode cM_defect 124 = .ok (.putfield 115, 3) := by decide +kernel
theorem dM_defect_127 : decode cM_defect 127 = .ok (.aload_n 0, 1) := by decide +kernel
theorem dM_defect_128 : decode cM_defect 128 = .ok (.getfield 115, 3) := by decide +kernel
theorem dM_defect_131 : decode cM_defect 131 = .ok (.iconst 1, 1) := by decide +kernel
theorem dM_defect_132 : decode cM_defect 132 = .ok (.isub, 1) := by decide +kernel
theorem dM_defect_133 : decode cM_defect 133 = .ok (.ireturn, 1) := by decide +kernel
theorem dM_takes_0 : decode cM_takes 0 = .ok (.aload_n 0, 1) := by decide +kernel
theorem dM_takes_1 : decode cM_takes 1 = .ok (.aload_n 0, 1) := by decide +kernel
theorem dM_takes_2 : decode cM_takes 2 = .ok (.getfield 54, 3) := by decide +kernel
theorem dM_takes_5 : decode cM_takes 5 = .ok (.iload_n 1, 1) := by decide +kernel
theorem dM_takes_6 : decode cM_takes 6 = .ok (.laload, 1) := by decide +kernel
theorem dM_takes_7 : decode cM_takes 7 = .ok (.putfield 99, 3) := by decide +kernel
theorem dM_takes_10 : decode cM_takes 10 = .ok (.aload_n 0, 1) := by decide +kernel
theorem dM_takes_11 : decode cM_takes 11 = .ok (.aload_n 0, 1) := by decide +kernel
theorem dM_takes_12 : decode cM_takes 12 = .ok (.getfield 57, 3) := by decide +kernel
theorem dM_takes_15 : decode cM_takes 15 = .ok (.iload_n 1, 1) := by decide +kernel
theorem dM_takes_16 : decode cM_takes 16 = .ok (.laload, 1) := by decide +kernel
theorem dM_takes_17 : decode cM_takes 17 = .ok (.putfield 102, 3) := by decide +kernel
theorem dM_takes_20 : decode cM_takes 20 = .ok (.aload_n 0, 1) := by decide +kernel
theorem dM_takes_21 : decode cM_takes 21 = .ok (.getfield 99, 3) := by decide +kernel
theorem dM_takes_24 : decode cM_takes 24 = .ok (.lconst 0, 1) := by decide +kernel
theorem dM_takes_25 : decode cM_takes 25 = .ok (.lcmp, 1) := by decide +kernel
theorem dM_takes_26 : decode cM_takes 26 = .ok (.ifCond .lt 7, 3) := by decide +kernel
theorem dM_takes_29 : decode cM_takes 29 = .ok (.iconst 1, 1) := by decide +kernel
theorem dM_takes_30 : decode cM_takes 30 = .ok (.goto 4, 3) := by decide +kernel
theorem dM_takes_33 : decode cM_takes 33 = .ok (.iconst 0, 1) := by decide +kernel
theorem dM_takes_34 : decode cM_takes 34 = .ok (.ireturn, 1) := by decide +kernel
theorem dM_reaches_0 : decode cM_reaches 0 = .ok (.aload_n 0, 1) := by decide +kernel
theorem dM_reaches_1 : decode cM_reaches 1 = .ok (.getfield 7, 3) := by decide +kernel
theorem dM_reaches_4 : decode cM_reaches 4 = .ok (.iload_n 1, 1) := by decide +kernel
theorem dM_reaches_5 : decode cM_reaches 5 = .ok (.iaload, 1) := by decide +kernel
theorem dM_reaches_6 : decode cM_reaches 6 = .ok (.iconst 3, 1) := by decide +kernel
theorem dM_reaches_7 : decode cM_reaches 7 = .ok (.if_icmp .ne 61, 3) := by decide +kernel
theorem dM_reaches_10 : decode cM_reaches 10 = .ok (.aload_n 0, 1) := by decide +kernel
theorem dM_reaches_11 : decode cM_reaches 11 = .ok (.aload_n 0, 1) := by decide +kernel
theorem dM_reaches_12 : decode cM_reaches 12 = .ok (.getfield 26, 3) := by decide +kernel
theorem dM_reaches_15 : decode cM_reaches 15 = .ok (.iload_n 1, 1) := by decide +kernel
theorem dM_reaches_16 : decode cM_reaches 16 = .ok (.iaload, 1) := by decide +kernel
theorem dM_reaches_17 : decode cM_reaches 17 = .ok (.invokevirtual 118, 3) := by decide +kernel
theorem dM_reaches_20 : decode cM_reaches 20 = .ok (.ifCond .eq 5, 3) := by decide +kernel
theorem dM_reaches_23 : decode cM_reaches 23 = .ok (.iconst 1, 1) := by decide +kernel
theorem dM_reaches_24 : decode cM_reaches 24 = .ok (.ireturn, 1) := by decide +kernel
theorem dM_reaches_25 : decode cM_reaches 25 = .ok (.aload_n 0, 1) := by decide +kernel
theorem dM_reaches_26 : decode cM_reaches 26 = .ok (.aload_n 0, 1) := by decide +kernel
theorem dM_reaches_27 : decode cM_reaches 27 = .ok (.getfield 29, 3) := by decide +kernel
theorem dM_reaches_30 : decode cM_reaches 30 = .ok (.iload_n 1, 1) := by decide +kernel
theorem dM_reaches_31 : decode cM_reaches 31 = .ok (.iaload, 1) := by decide +kernel
theorem dM_reaches_32 : decode cM_reaches 32 = .ok (.invokevirtual 118, 3) := by decide +kernel
theorem dM_reaches_35 : decode cM_reaches 35 = .ok (.ifCond .ne 5, 3) := by decide +kernel
theorem dM_reaches_38 : decode cM_reaches 38 = .ok (.iconst 0, 1) := by decide +kernel
theorem dM_reaches_39 : decode cM_reaches 39 = .ok (.ireturn, 1) := by decide +kernel
theorem dM_reaches_40 : decode cM_reaches 40 = .ok (.aload_n 0, 1) := by decide +kernel
theorem dM_reaches_41 : decode cM_reaches 41 = .ok (.aload_n 0, 1) := by decide +kernel
theorem dM_reaches_42 : decode cM_reaches 42 = .ok (.getfield 99, 3) := by decide +kernel
theorem dM_reaches_45 : decode cM_reaches 45 = .ok (.aload_n 0, 1) := by decide +kernel
theorem dM_reaches_46 : decode cM_reaches 46 = .ok (.getfield 16, 3) := by decide +kernel
theorem dM_reaches_49 : decode cM_reaches 49 = .ok (.aload_n 0, 1) := by decide +kernel
theorem dM_reaches_50 : decode cM_reaches 50 = .ok (.getfield 26, 3) := by decide +kernel
theorem dM_reaches_53 : decode cM_reaches 53 = .ok (.iload_n 1, 1) := by decide +kernel
theorem dM_reaches_54 : decode cM_reaches 54 = .ok (.iaload, 1) := by decide +kernel
theorem dM_reaches_55 : decode cM_reaches 55 = .ok (.iaload, 1) := by decide +kernel
theorem dM_reaches_56 : decode cM_reaches 56 = .ok (.i2l, 1) := by decide +kernel
theorem dM_reaches_57 : decode cM_reaches 57 = .ok (.aload_n 0, 1) := by decide +kernel
theorem dM_reaches_58 : decode cM_reaches 58 = .ok (.getfield 102, 3) := by decide +kernel
theorem dM_reaches_61 : decode cM_reaches 61 = .ok (.lmul, 1) := by decide +kernel
theorem dM_reaches_62 : decode cM_reaches 62 = .ok (.ladd, 1) := by decide +kernel
theorem dM_reaches_63 : decode cM_reaches 63 = .ok (.putfield 99, 3) := by decide +kernel
theorem dM_reaches_66 : decode cM_reaches 66 = .ok (.iconst 1, 1) := by decide +kernel
theorem dM_reaches_67 : decode cM_reaches 67 = .ok (.ireturn, 1) := by decide +kernel
theorem dM_reaches_68 : decode cM_reaches 68 = .ok (.aload_n 0, 1) := by decide +kernel
theorem dM_reaches_69 : decode cM_reaches 69 = .ok (.aload_n 0, 1) := by decide +kernel
theorem dM_reaches_70 : decode cM_reaches 70 = .ok (.getfield 26, 3) := by decide +kernel
theorem dM_reaches_73 : decode cM_reaches 73 = .ok (.iload_n 1, 1) := by decide +kernel
theorem dM_reaches_74 : decode cM_reaches 74 = .ok (.iaload, 1) := by decide +kernel
theorem dM_reaches_75 : decode cM_reaches 75 = .ok (.invokevirtual 118, 3) := by decide +kernel
theorem dM_reaches_78 : decode cM_reaches 78 = .ok (.ifCond .ne 5, 3) := by decide +kernel
theorem dM_reaches_81 : decode cM_reaches 81 = .ok (.iconst 0, 1) := by decide +kernel
theorem dM_reaches_82 : decode cM_reaches 82 = .ok (.ireturn, 1) := by decide +kernel
theorem dM_reaches_83 : decode cM_reaches 83 = .ok (.aload_n 0, 1) := by decide +kernel
theorem dM_reaches_84 : decode cM_reaches 84 = .ok (.getfield 7, 3) := by decide +kernel
theorem dM_reaches_87 : decode cM_reaches 87 = .ok (.iload_n 1, 1) := by decide +kernel
theorem dM_reaches_88 : decode cM_reaches 88 = .ok (.iaload, 1) := by decide +kernel
theorem dM_reaches_89 : decode cM_reaches 89 = .ok (.iconst 1, 1) := by decide +kernel
theorem dM_reaches_90 : decode cM_reaches 90 = .ok (.if_icmp .ne 29, 3) := by decide +kernel
theorem dM_reaches_93 : decode cM_reaches 93 = .ok (.aload_n 0, 1) := by decide +kernel
theorem dM_reaches_94 : decode cM_reaches 94 = .ok (.getfield 99, 3) := by decide +kernel
theorem dM_reaches_97 : decode cM_reaches 97 = .ok (.aload_n 0, 1) := by decide +kernel
theorem dM_reaches_98 : decode cM_reaches 98 = .ok (.getfield 32, 3) := by decide +kernel
theorem dM_reaches_101 : decode cM_reaches 101 = .ok (.iload_n 1, 1) := by decide +kernel
theorem dM_reaches_102 : decode cM_reaches 102 = .ok (.iaload, 1) := by decide +kernel
theorem dM_reaches_103 : decode cM_reaches 103 = .ok (.i2l, 1) := by decide +kernel
theorem dM_reaches_104 : decode cM_reaches 104 = .ok (.aload_n 0, 1) := by decide +kernel
theorem dM_reaches_105 : decode cM_reaches 105 = .ok (.getfield 102, 3) := by decide +kernel
theorem dM_reaches_108 : decode cM_reaches 108 = .ok (.lmul, 1) := by decide +kernel
theorem dM_reaches_109 : decode cM_reaches 109 = .ok (.lcmp, 1) := by decide +kernel
theorem dM_reaches_110 : decode cM_reaches 110 = .ok (.ifCond .ge 7, 3) := by decide +kernel
theorem dM_reaches_113 : decode cM_reaches 113 = .ok (.iconst 1, 1) := by decide +kernel
theorem dM_reaches_114 : decode cM_reaches 114 = .ok (.goto 4, 3) := by decide +kernel
theorem dM_reaches_117 : decode cM_reaches 117 = .ok (.iconst 0, 1) := by decide +kernel
theorem dM_reaches_118 : decode cM_reaches 118 = .ok (.ireturn, 1) := by decide +kernel
theorem dM_reaches_119 : decode cM_reaches 119 = .ok (.aload_n 0, 1) := by decide +kernel
theorem dM_reaches_120 : decode cM_reaches 120 = .ok (.getfield 7, 3) := by decide +kernel
theorem dM_reaches_123 : decode cM_reaches 123 = .ok (.iload_n 1, 1) := by decide +kernel
theorem dM_reaches_124 : decode cM_reaches 124 = .ok (.iaload, 1) := by decide +kernel
theorem dM_reaches_125 : decode cM_reaches 125 = .ok (.iconst 2, 1) := by decide +kernel
theorem dM_reaches_126 : decode cM_reaches 126 = .ok (.if_icmp .ne 39, 3) := by decide +kernel
theorem dM_reaches_129 : decode cM_reaches 129 = .ok (.aload_n 0, 1) := by decide +kernel
theorem dM_reaches_130 : decode cM_reaches 130 = .ok (.aload_n 0, 1) := by decide +kernel
theorem dM_reaches_131 : decode cM_reaches 131 = .ok (.getfield 99, 3) := by decide +kernel
theorem dM_reaches_134 : decode cM_reaches 134 = .ok (.aload_n 0, 1) := by decide +kernel
theorem dM_reaches_135 : decode cM_reaches 135 = .ok (.getfield 32, 3) := by decide +kernel
theorem dM_reaches_138 : decode cM_reaches 138 = .ok (.iload_n 1, 1) := by decide +kernel
theorem dM_reaches_139 : decode cM_reaches 139 = .ok (.iaload, 1) := by decide +kernel
theorem dM_reaches_140 : decode cM_reaches 140 = .ok (.i2l, 1) := by decide +kernel
theorem dM_reaches_141 : decode cM_reaches 141 = .ok (.aload_n 0, 1) := by decide +kernel
theorem dM_reaches_142 : decode cM_reaches 142 = .ok (.getfield 102, 3) := by decide +kernel
theorem dM_reaches_145 : decode cM_reaches 145 = .ok (.lmul, 1) := by decide +kernel
theorem dM_reaches_146 : decode cM_reaches 146 = .ok (.lsub, 1) := by decide +kernel
theorem dM_reaches_147 : decode cM_reaches 147 = .ok (.putfield 99, 3) := by decide +kernel
theorem dM_reaches_150 : decode cM_reaches 150 = .ok (.aload_n 0, 1) := by decide +kernel
theorem dM_reaches_151 : decode cM_reaches 151 = .ok (.getfield 99, 3) := by decide +kernel
theorem dM_reaches_154 : decode cM_reaches 154 = .ok (.lconst 0, 1) := by decide +kernel
theorem dM_reaches_155 : decode cM_reaches 155 = .ok (.lcmp, 1) := by decide +kernel
theorem dM_reaches_156 : decode cM_reaches 156 = .ok (.ifCond .lt 7, 3) := by decide +kernel
theorem dM_reaches_159 : decode cM_reaches 159 = .ok (.iconst 1, 1) := by decide +kernel
theorem dM_reaches_160 : decode cM_reaches 160 = .ok (.goto 4, 3) := by decide +kernel
theorem dM_reaches_163 : decode cM_reaches 163 = .ok (.iconst 0, 1) := by decide +kernel
theorem dM_reaches_164 : decode cM_reaches 164 = .ok (.ireturn, 1) := by decide +kernel
theorem dM_reaches_165 : decode cM_reaches 165 = .ok (.aload_n 0, 1) := by decide +kernel
theorem dM_reaches_166 : decode cM_reaches 166 = .ok (.getfield 7, 3) := by decide +kernel
theorem dM_reaches_169 : decode cM_reaches 169 = .ok (.iload_n 1, 1) := by decide +kernel
theorem dM_reaches_170 : decode cM_reaches 170 = .ok (.iaload, 1) := by decide +kernel
theorem dM_reaches_171 : decode cM_reaches 171 = .ok (.iconst 4, 1) := by decide +kernel
theorem dM_reaches_172 : decode cM_reaches 172 = .ok (.if_icmp .ne 61, 3) := by decide +kernel
theorem dM_reaches_175 : decode cM_reaches 175 = .ok (.aload_n 0, 1) := by decide +kernel
theorem dM_reaches_176 : decode cM_reaches 176 = .ok (.aload_n 0, 1) := by decide +kernel
theorem dM_reaches_177 : decode cM_reaches 177 = .ok (.getfield 99, 3) := by decide +kernel
theorem dM_reaches_180 : decode cM_reaches 180 = .ok (.aload_n 0, 1) := by decide +kernel
theorem dM_reaches_181 : decode cM_reaches 181 = .ok (.getfield 35, 3) := by decide +kernel
theorem dM_reaches_184 : decode cM_reaches 184 = .ok (.iload_n 1, 1) := by decide +kernel
theorem dM_reaches_185 : decode cM_reaches 185 = .ok (.iaload, 1) := by decide +kernel
theorem dM_reaches_186 : decode cM_reaches 186 = .ok (.i2l, 1) := by decide +kernel
theorem dM_reaches_187 : decode cM_reaches 187 = .ok (.lmul, 1) := by decide +kernel
theorem dM_reaches_188 : decode cM_reaches 188 = .ok (.putfield 99, 3) := by decide +kernel
theorem dM_reaches_191 : decode cM_reaches 191 = .ok (.aload_n 0, 1) := by decide +kernel
theorem dM_reaches_192 : decode cM_reaches 192 = .ok (.aload_n 0, 1) := by decide +kernel
theorem dM_reaches_193 : decode cM_reaches 193 = .ok (.getfield 102, 3) := by decide +kernel
theorem dM_reaches_196 : decode cM_reaches 196 = .ok (.aload_n 0, 1) := by decide +kernel
theorem dM_reaches_197 : decode cM_reaches 197 = .ok (.getfield 38, 3) := by decide +kernel
theorem dM_reaches_200 : decode cM_reaches 200 = .ok (.iload_n 1, 1) := by decide +kernel
theorem dM_reaches_201 : decode cM_reaches 201 = .ok (.iaload, 1) := by decide +kernel
theorem dM_reaches_202 : decode cM_reaches 202 = .ok (.i2l, 1) := by decide +kernel
theorem dM_reaches_203 : decode cM_reaches 203 = .ok (.lmul, 1) := by decide +kernel
theorem dM_reaches_204 : decode cM_reaches 204 = .ok (.putfield 102, 3) := by decide +kernel
theorem dM_reaches_207 : decode cM_reaches 207 = .ok (.aload_n 0, 1) := by decide +kernel
theorem dM_reaches_208 : decode cM_reaches 208 = .ok (.getfield 99, 3) := by decide +kernel
theorem dM_reaches_211 : decode cM_reaches 211 = .ok (.aload_n 0, 1) := by decide +kernel
theorem dM_reaches_212 : decode cM_reaches 212 = .ok (.getfield 16, 3) := by decide +kernel
theorem dM_reaches_215 : decode cM_reaches 215 = .ok (.iload_n 1, 1) := by decide +kernel
theorem dM_reaches_216 : decode cM_reaches 216 = .ok (.iaload, 1) := by decide +kernel
theorem dM_reaches_217 : decode cM_reaches 217 = .ok (.i2l, 1) := by decide +kernel
theorem dM_reaches_218 : decode cM_reaches 218 = .ok (.aload_n 0, 1) := by decide +kernel
theorem dM_reaches_219 : decode cM_reaches 219 = .ok (.getfield 102, 3) := by decide +kernel
theorem dM_reaches_222 : decode cM_reaches 222 = .ok (.lmul, 1) := by decide +kernel
theorem dM_reaches_223 : decode cM_reaches 223 = .ok (.lcmp, 1) := by decide +kernel
theorem dM_reaches_224 : decode cM_reaches 224 = .ok (.ifCond .ge 7, 3) := by decide +kernel
theorem dM_reaches_227 : decode cM_reaches 227 = .ok (.iconst 1, 1) := by decide +kernel
theorem dM_reaches_228 : decode cM_reaches 228 = .ok (.goto 4, 3) := by decide +kernel
theorem dM_reaches_231 : decode cM_reaches 231 = .ok (.iconst 0, 1) := by decide +kernel
theorem dM_reaches_232 : decode cM_reaches 232 = .ok (.ireturn, 1) := by decide +kernel
theorem dM_reaches_233 : decode cM_reaches 233 = .ok (.iconst 1, 1) := by decide +kernel
theorem dM_reaches_234 : decode cM_reaches 234 = .ok (.ireturn, 1) := by decide +kernel
theorem dM_goForward_0 : decode cM_goForward 0 = .ok (.iconst 0, 1) := by decide +kernel
theorem dM_goForward_1 : decode cM_goForward 1 = .ok (.istore_n 2, 1) := by decide +kernel
theorem dM_goForward_2 : decode cM_goForward 2 = .ok (.iload_n 2, 1) := by decide +kernel
theorem dM_goForward_3 : decode cM_goForward 3 = .ok (.aload_n 0, 1) := by decide +kernel
theorem dM_goForward_4 : decode cM_goForward 4 = .ok (.getfield 64, 3) := by decide +kernel
theorem dM_goForward_7 : decode cM_goForward 7 = .ok (.if_icmp .ge 121, 3) := by decide +kernel
theorem dM_goForward_10 : decode cM_goForward 10 = .ok (.aload_n 0, 1) := by decide +kernel
theorem dM_goForward_11 : decode cM_goForward 11 = .ok (.getfield 7, 3) := by decide +kernel
theorem dM_goForward_14 : decode cM_goForward 14 = .ok (.iload_n 2, 1) := by decide +kernel
theorem dM_goForward_15 : decode cM_goForward 15 = .ok (.iaload, 1) := by decide +kernel
theorem dM_goForward_16 : decode cM_goForward 16 = .ok (.ifCond .ne 21, 3) := by decide +kernel
theorem dM_goForward_19 : decode cM_goForward 19 = .ok (.aload_n 0, 1) := by decide +kernel
theorem dM_goForward_20 : decode cM_goForward 20 = .ok (.getfield 44, 3) := by decide +kernel
theorem dM_goForward_23 : decode cM_goForward 23 = .ok (.iload_n 1, 1) := by decide +kernel
theorem dM_goForward_24 : decode cM_goForward 24 = .ok (.iaload, 1) := by decide +kernel
theorem dM_goForward_25 : decode cM_goForward 25 = .ok (.iload_n 2, 1) := by decide +kernel
theorem dM_goForward_26 : decode cM_goForward 26 = .ok (.if_icmp .ne 7, 3) := by decide +kernel
theorem dM_goForward_29 : decode cM_goForward 29 = .ok (.iconst 1, 1) := by decide +kernel
theorem dM_goForward_30 : decode cM_goForward 30 = .ok (.goto 12, 3) := by decide +kernel
theorem dM_goForward_33 : decode cM_goForward 33 = .ok (.iconst 0, 1) := by decide +kernel
theorem dM_goForward_34 : decode cM_goForward 34 = .ok (.goto 8, 3) := by decide +kernel
theorem dM_goForward_37 : decode cM_goForward 37 = .ok (.aload_n 0, 1) := by decide +kernel
theorem dM_goForward_38 : decode cM_goForward 38 = .ok (.iload_n 2, 1) := by decide +kernel
theorem dM_goForward_39 : decode cM_goForward 39 = .ok (.invokevirtual 121, 3) := by decide +kernel
theorem dM_goForward_42 : decode cM_goForward 42 = .ok (.istore_n 3, 1) := by decide +kernel
theorem dM_goForward_43 : decode cM_goForward 43 = .ok (.iload_n 3, 1) := by decide +kernel
theorem dM_goForward_44 : decode cM_goForward 44 = .ok (.ifCond .eq 32, 3) := by decide +kernel
theorem dM_goForward_47 : decode cM_goForward 47 = .ok (.aload_n 0, 1) := by decide +kernel
theorem dM_goForward_48 : decode cM_goForward 48 = .ok (.getfield 7, 3) := by decide +kernel
theorem dM_goForward_51 : decode cM_goForward 51 = .ok (.iload_n 2, 1) := by decide +kernel
theorem dM_goForward_52 : decode cM_goForward 52 = .ok (.iaload, 1) := by decide +kernel
theorem dM_goForward_53 : decode cM_goForward 53 = .ok (.ifCond .ne 23, 3) := by decide +kernel
theorem dM_goForward_56 : decode cM_goForward 56 = .ok (.aload_n 0, 1) := by decide +kernel
theorem dM_goForward_57 : decode cM_goForward 57 = .ok (.aload_n 0, 1) := by decide +kernel
theorem dM_goForward_58 : decode cM_goForward 58 = .ok (.getfield 47, 3) := by decide +kernel
theorem dM_goForward_61 : decode cM_goForward 61 = .ok (.iload_n 1, 1) := by decide +kernel
theorem dM_goForward_62 : decode cM_goForward 62 = .ok (.laload, 1) := by decide +kernel
theorem dM_goForward_63 : decode cM_goForward 63 = .ok (.putfield 99, 3) := by decide +kernel
theorem dM_goForward_66 : decode cM_goForward 66 = .ok (.aload_n 0, 1) := by decide +kernel
theorem dM_goForward_67 : decode cM_goForward 67 = .ok (.aload_n 0, 1) := by decide +kernel
theorem dM_goForward_68 : decode cM_goForward 68 = .ok (.getfield 51, 3) := by decide +kernel
theorem dM_goForward_71 : decode cM_goForward 71 = .ok (.iload_n 1, 1) := by decide +kernel
theorem dM_goForward_72 : decode cM_goForward 72 = .ok (.laload, 1) := by decide +kernel
theorem dM_goForward_73 : decode cM_goForward 73 = .ok (.putfield 102, 3) := by decide +kernel
theorem dM_goForward_76 : decode cM_goForward 76 = .ok (.iload_n 3, 1) := by decide +kernel
theorem dM_goForward_77 : decode cM_goForward 77 = .ok (.ifCond .eq 7, 3) := by decide +kernel
theorem dM_goForward_80 : decode cM_goForward 80 = .ok (.aload_n 0, 1) := by decide +kernel
theorem dM_goForward_81 : decode cM_goForward 81 = .ok (.invokevirtual 105, 3) := by decide +kernel
theorem dM_goForward_84 : decode cM_goForward 84 = .ok (.aload_n 0, 1) := by decide +kernel
theorem dM_goForward_85 : decode cM_goForward 85 = .ok (.getfield 54, 3) := by decide +kernel
theorem dM_goForward_88 : decode cM_goForward 88 = .ok (.iload_n 2, 1) := by decide +kernel
theorem dM_goForward_89 : decode cM_goForward 89 = .ok (.iload_n 3, 1) := by decide +kernel
theorem dM_goForward_90 : decode cM_goForward 90 = .ok (.ifCond .eq 10, 3) := by decide +kernel
theorem dM_goForward_93 : decode cM_goForward 93 = .ok (.aload_n 0, 1) := by decide +kernel
theorem dM_goForward_94 : decode cM_goForward 94 = .ok (.getfield 99, 3) := by decide +kernel
theorem dM_goForward_97 : decode cM_goForward 97 = .ok (.goto 6, 3) := by decide +kernel
theorem dM_goForward_100 : decode cM_goForward 100 = .ok (.ldc2_w 124, 3) := by decide +kernel
theorem dM_goForward_103 : decode cM_goForward 103 = .ok (.lastore, 1) := by decide +kernel
theorem dM_goForward_104 : decode cM_goForward 104 = .ok (.aload_n 0, 1) := by decide +kernel
theorem dM_goForward_105 : decode cM_goForward 105 = .ok (.getfield 57, 3) := by decide +kernel
theorem dM_goForward_108 : decode cM_goForward 108 = .ok (.iload_n 2, 1) := by decide +kernel
theorem dM_goForward_109 : decode cM_goForward 109 = .ok (.iload_n 3, 1) := by decide +kernel
theorem dM_goForward_110 : decode cM_goForward 110 = .ok (.ifCond .eq 10, 3) := by decide +kernel
theorem dM_goForward_113 : decode cM_goForward 113 = .ok (.aload_n 0, 1) := by decide +kernel
theorem dM_goForward_114 : decode cM_goForward 114 = .ok (.getfield 102, 3) := by decide +kernel
theorem dM_goForward_117 : decode cM_goForward 117 = .ok (.goto 4, 3) := by decide +kernel
theorem dM_goForward_120 : decode cM_goForward 120 = .ok (.lconst 1, 1) := by decide +kernel
theorem dM_goForward_121 : decode cM_goForward 121 = .ok (.lastore, 1) := by decide +kernel
theorem dM_goForward_122 : decode cM_goForward 122 = .ok (.iinc 2 1, 3) := by decide +kernel
theorem dM_goForward_125 : decode cM_goForward 125 = .ok (.goto (-123), 3) := by decide +kernel
theorem dM_goForward_128 : decode cM_goForward 128 = .ok (.return_, 1) := by decide +kernel
theorem dM_isDefect_0 : decode cM_isDefect 0 = .ok (.iload_n 1, 1) := by decide +kernel
theorem dM_isDefect_1 : decode cM_isDefect 1 = .ok (.iconst 0, 1) := by decide +kernel
theorem dM_isDefect_2 : decode cM_isDefect 2 = .ok (.aload_n 0, 1) := by decide +kernel
theorem dM_isDefect_3 : decode cM_isDefect 3 = .ok (.getfield 115, 3) := by decide +kernel
theorem dM_isDefect_6 : decode cM_isDefect 6 = .ok (.iconst 1, 1) := by decide +kernel
theorem dM_isDefect_7 : decode cM_isDefect 7 = .ok (.isub, 1) := by decide +kernel
theorem dM_isDefect_8 : decode cM_isDefect 8 = .ok (.invokestatic 67, 3) := by decide +kernel
theorem dM_isDefect_11 : decode cM_isDefect 11 = .ok (.ireturn, 1) := by decide +kernel
theorem dM_has_0 : decode cM_has 0 = .ok (.aload_n 0, 1) := by decide +kernel
theorem dM_has_1 : decode cM_has 1 = .ok (.aload_n 0, 1) := by decide +kernel
theorem dM_has_2 : decode cM_has 2 = .ok (.iload_n 1, 1) := by decide +kernel
theorem dM_has_3 : decode cM_has 3 = .ok (.invokevirtual 126, 3) := by decide +kernel
theorem dM_has_6 : decode cM_has 6 = .ok (.ifCond .eq 20, 3) := by decide +kernel
theorem dM_has_9 : decode cM_has 9 = .ok (.aload_n 0, 1) := by decide +kernel
theorem dM_has_10 : decode cM_has 10 = .ok (.iload_n 2, 1) := by decide +kernel
theorem dM_has_11 : decode cM_has 11 = .ok (.invokevirtual 71, 3) := by decide +kernel
theorem dM_has_14 : decode cM_has 14 = .ok (.ifCond .eq 12, 3) := by decide +kernel
theorem dM_has_17 : decode cM_has 17 = .ok (.iload_n 3, 1) := by decide +kernel
theorem dM_has_18 : decode cM_has 18 = .ok (.iconst 0, 1) := by decide +kernel
theorem dM_has_19 : decode cM_has 19 = .ok (.iconst 1, 1) := by decide +kernel
theorem dM_has_20 : decode cM_has 20 = .ok (.invokestatic 67, 3) := by decide +kernel
theorem dM_has_23 : decode cM_has 23 = .ok (.ifCond .ne 7, 3) := by decide +kernel
theorem dM_has_26 : decode cM_has 26 = .ok (.iconst 1, 1) := by decide +kernel
theorem dM_has_27 : decode cM_has 27 = .ok (.goto 4, 3) := by decide +kernel
theorem dM_has_30 : decode cM_has 30 = .ok (.iconst 0, 1) := by decide +kernel
theorem dM_has_31 : decode cM_has 31 = .ok (.iconst 0, 1) := by decide +kernel
theorem dM_has_32 : decode cM_has 32 = .ok (.iconst 0, 1) := by decide +kernel
theorem dM_has_33 : decode cM_has 33 = .ok (.iconst 0, 1) := by decide +kernel
theorem dM_has_34 : decode cM_has 34 = .ok (.invokevirtual 76, 3) := by decide +kernel
theorem dM_has_37 : decode cM_has 37 = .ok (.ifCond .eq 5, 3) := by decide +kernel
theorem dM_has_40 : decode cM_has 40 = .ok (.lconst 0, 1) := by decide +kernel
theorem dM_has_41 : decode cM_has 41 = .ok (.lreturn, 1) := by decide +kernel
theorem dM_has_42 : decode cM_has 42 = .ok (.aload_n 0, 1) := by decide +kernel
theorem dM_has_43 : decode cM_has 43 = .ok (.iload_n 1, 1) := by decide +kernel
theorem dM_has_44 : decode cM_has 44 = .ok (.invokevirtual 129, 3) := by decide +kernel
theorem dM_has_47 : decode cM_has 47 = .ok (.aload_n 0, 1) := by decide +kernel
theorem dM_has_48 : decode cM_has 48 = .ok (.getfield 54, 3) := by decide +kernel
theorem dM_has_51 : decode cM_has 51 = .ok (.iload_n 2, 1) := by decide +kernel
theorem dM_has_52 : decode cM_has 52 = .ok (.laload, 1) := by decide +kernel
theorem dM_has_53 : decode cM_has 53 = .ok (.lconst 0, 1) := by decide +kernel
theorem dM_has_54 : decode cM_has 54 = .ok (.lcmp, 1) := by decide +kernel
theorem dM_has_55 : decode cM_has 55 = .ok (.ifCond .ge 9, 3) := by decide +kernel
theorem dM_has_58 : decode cM_has 58 = .ok (.ldc2_w 124, 3) := by decide +kernel
theorem dM_has_61 : decode cM_has 61 = .ok (.goto 22, 3) := by decide +kernel
theorem dM_has_64 : decode cM_has 64 = .ok (.iload_n 3, 1) := by decide +kernel
theorem dM_has_65 : decode cM_has 65 = .ok (.ifCond .ne 12, 3) := by decide +kernel
theorem dM_has_68 : decode cM_has 68 = .ok (.aload_n 0, 1) := by decide +kernel
theorem dM_has_69 : decode cM_has 69 = .ok (.getfield 54, 3) := by decide +kernel
theorem dM_has_72 : decode cM_has 72 = .ok (.iload_n 2, 1) := by decide +kernel
theorem dM_has_73 : decode cM_has 73 = .ok (.laload, 1) := by decide +kernel
theorem dM_has_74 : decode cM_has 74 = .ok (.goto 9, 3) := by decide +kernel
theorem dM_has_77 : decode cM_has 77 = .ok (.aload_n 0, 1) := by decide +kernel
theorem dM_has_78 : decode cM_has 78 = .ok (.getfield 57, 3) := by decide +kernel
theorem dM_has_81 : decode cM_has 81 = .ok (.iload_n 2, 1) := by decide +kernel
theorem dM_has_82 : decode cM_has 82 = .ok (.laload, 1) := by decide +kernel
theorem dM_has_83 : decode cM_has 83 = .ok (.lreturn, 1) := by decide +kernel
theorem dM_recall_0 : decode cM_recall 0 = .ok (.aload_n 0, 1) := by decide +kernel
theorem dM_recall_1 : decode cM_recall 1 = .ok (.aload_n 0, 1) := by decide +kernel
theorem dM_recall_2 : decode cM_recall 2 = .ok (.iload_n 1, 1) := by decide +kernel
theorem dM_recall_3 : decode cM_recall 3 = .ok (.invokevirtual 126, 3) := by decide +kernel
theorem dM_recall_6 : decode cM_recall 6 = .ok (.ifCond .eq 7, 3) := by decide +kernel
theorem dM_recall_9 : decode cM_recall 9 = .ok (.iload_n 2, 1) := by decide +kernel
theorem dM_recall_10 : decode cM_recall 10 = .ok (.ifCond .ge 7, 3) := by decide +kernel
theorem dM_recall_13 : decode cM_recall 13 = .ok (.iconst 1, 1) := by decide +kernel
theorem dM_recall_14 : decode cM_recall 14 = .ok (.goto 4, 3) := by decide +kernel
theorem dM_recall_17 : decode cM_recall 17 = .ok (.iconst 0, 1) := by decide +kernel
theorem dM_recall_18 : decode cM_recall 18 = .ok (.iconst 0, 1) := by decide +kernel
theorem dM_recall_19 : decode cM_recall 19 = .ok (.iconst 0, 1) := by decide +kernel
theorem dM_recall_20 : decode cM_recall 20 = .ok (.iconst 0, 1) := by decide +kernel
theorem dM_recall_21 : decode cM_recall 21 = .ok (.invokevirtual 76, 3) := by decide +kernel
theorem dM_recall_24 : decode cM_recall 24 = .ok (.ifCond .eq 5, 3) := by decide +kernel
theorem dM_recall_27 : decode cM_recall 27 = .ok (.iconst 0, 1) := by decide +kernel
theorem dM_recall_28 : decode cM_recall 28 = .ok (.ireturn, 1) := by decide +kernel
theorem dM_recall_29 : decode cM_recall 29 = .ok (.aload_n 0, 1) := by decide +kernel
theorem dM_recall_30 : decode cM_recall 30 = .ok (.iload_n 1, 1) := by decide +kernel
theorem dM_recall_31 : decode cM_recall 31 = .ok (.invokevirtual 129, 3) := by decide +kernel
theorem dM_recall_34 : decode cM_recall 34 = .ok (.iconst 0, 1) := by decide +kernel
theorem dM_recall_35 : decode cM_recall 35 = .ok (.istore_n 3, 1) := by decide +kernel
theorem dM_recall_36 : decode cM_recall 36 = .ok (.iconst 0, 1) := by decide +kernel
theorem dM_recall_37 : decode cM_recall 37 = .ok (.istore 4, 2) := by decide +kernel
theorem dM_recall_39 : decode cM_recall 39 = .ok (.iload 4, 2) := by decide +kernel
theorem dM_recall_41 : decode cM_recall 41 = .ok (.aload_n 0, 1) := by decide +kernel
theorem dM_recall_42 : decode cM_recall 42 = .ok (.getfield 64, 3) := by decide +kernel
theorem dM_recall_45 : decode cM_recall 45 = .ok (.if_icmp .ge 42, 3) := by decide +kernel
theorem dM_recall_48 : decode cM_recall 48 = .ok (.aload_n 0, 1) := by decide +kernel
theorem dM_recall_49 : decode cM_recall 49 = .ok (.getfield 19, 3) := by decide +kernel
theorem dM_recall_52 : decode cM_recall 52 = .ok (.iload 4, 2) := by decide +kernel
theorem dM_recall_54 : decode cM_recall 54 = .ok (.iaload, 1) := by decide +kernel
theorem dM_recall_55 : decode cM_recall 55 = .ok (.ifCond .ne 26, 3) := by decide +kernel
theorem dM_recall_58 : decode cM_recall 58 = .ok (.aload_n 0, 1) := by decide +kernel
theorem dM_recall_59 : decode cM_recall 59 = .ok (.getfield 54, 3) := by decide +kernel
theorem dM_recall_62 : decode cM_recall 62 = .ok (.iload 4, 2) := by decide +kernel
theorem dM_recall_64 : decode cM_recall 64 = .ok (.laload, 1) := by decide +kernel
theorem dM_recall_65 : decode cM_recall 65 = .ok (.lconst 0, 1) := by decide +kernel
theorem dM_recall_66 : decode cM_recall 66 = .ok (.lcmp, 1) := by decide +kernel
theorem dM_recall_67 : decode cM_recall 67 = .ok (.ifCond .lt 14, 3) := by decide +kernel
theorem dM_recall_70 : decode cM_recall 70 = .ok (.iload_n 3, 1) := by decide +kernel
theorem dM_recall_71 : decode cM_recall 71 = .ok (.iload_n 2, 1) := by decide +kernel
theorem dM_recall_72 : decode cM_recall 72 = .ok (.if_icmp .ne 6, 3) := by decide +kernel
theorem dM_recall_75 : decode cM_recall 75 = .ok (.iload 4, 2) := by decide +kernel
theorem dM_recall_77 : decode cM_recall 77 = .ok (.ireturn, 1) := by decide +kernel
theorem dM_recall_78 : decode cM_recall 78 = .ok (.iinc 3 1, 3) := by decide +kernel
theorem dM_recall_81 : decode cM_recall 81 = .ok (.iinc 4 1, 3) := by decide +kernel
theorem dM_recall_84 : decode cM_recall 84 = .ok (.goto (-45), 3) := by decide +kernel
theorem dM_recall_87 : decode cM_recall 87 = .ok (.iconst (-1), 1) := by decide +kernel
theorem dM_recall_88 : decode cM_recall 88 = .ok (.ireturn, 1) := by decide +kernel
theorem dM_told_0 : decode cM_told 0 = .ok (.aload_n 0, 1) := by decide +kernel
theorem dM_told_1 : decode cM_told 1 = .ok (.iload_n 1, 1) := by decide +kernel
theorem dM_told_2 : decode cM_told 2 = .ok (.iconst 0, 1) := by decide +kernel
theorem dM_told_3 : decode cM_told 3 = .ok (.iconst 2, 1) := by decide +kernel
theorem dM_told_4 : decode cM_told 4 = .ok (.invokestatic 67, 3) := by decide +kernel
theorem dM_told_7 : decode cM_told 7 = .ok (.ifCond .ne 7, 3) := by decide +kernel
theorem dM_told_10 : decode cM_told 10 = .ok (.iconst 1, 1) := by decide +kernel
theorem dM_told_11 : decode cM_told 11 = .ok (.goto 4, 3) := by decide +kernel
theorem dM_told_14 : decode cM_told 14 = .ok (.iconst 0, 1) := by decide +kernel
theorem dM_told_15 : decode cM_told 15 = .ok (.iconst 0, 1) := by decide +kernel
theorem dM_told_16 : decode cM_told 16 = .ok (.iconst 0, 1) := by decide +kernel
theorem dM_told_17 : decode cM_told 17 = .ok (.iconst 0, 1) := by decide +kernel
theorem dM_told_18 : decode cM_told 18 = .ok (.invokevirtual 76, 3) := by decide +kernel
theorem dM_told_21 : decode cM_told 21 = .ok (.ifCond .eq 5, 3) := by decide +kernel
theorem dM_told_24 : decode cM_told 24 = .ok (.lconst 0, 1) := by decide +kernel
theorem dM_told_25 : decode cM_told 25 = .ok (.lreturn, 1) := by decide +kernel
theorem dM_told_26 : decode cM_told 26 = .ok (.iload_n 1, 1) := by decide +kernel
theorem dM_told_27 : decode cM_told 27 = .ok (.ifCond .le 21, 3) := by decide +kernel
theorem dM_told_30 : decode cM_told 30 = .ok (.iload_n 1, 1) := by decide +kernel
theorem dM_told_31 : decode cM_told 31 = .ok (.iconst 1, 1) := by decide +kernel
theorem dM_told_32 : decode cM_told 32 = .ok (.if_icmp .ne 11, 3) := by decide +kernel
theorem dM_told_35 : decode cM_told 35 = .ok (.aload_n 0, 1) := by decide +kernel
theorem dM_told_36 : decode cM_told 36 = .ok (.getfield 94, 3) := by decide +kernel
theorem dM_told_39 : decode cM_told 39 = .ok (.i2l, 1) := by decide +kernel
theorem dM_told_40 : decode cM_told 40 = .ok (.goto 7, 3) := by decide +kernel
theorem dM_told_43 : decode cM_told 43 = .ok (.aload_n 0, 1) := by decide +kernel
theorem dM_told_44 : decode cM_told 44 = .ok (.getfield 80, 3) := by decide +kernel
theorem dM_told_47 : decode cM_told 47 = .ok (.lreturn, 1) := by decide +kernel
theorem dM_told_48 : decode cM_told 48 = .ok (.lconst 0, 1) := by decide +kernel
theorem dM_told_49 : decode cM_told 49 = .ok (.lstore_n 2, 1) := by decide +kernel
theorem dM_told_50 : decode cM_told 50 = .ok (.iconst 0, 1) := by decide +kernel
theorem dM_told_51 : decode cM_told 51 = .ok (.istore 4, 2) := by decide +kernel
theorem dM_told_53 : decode cM_told 53 = .ok (.iload 4, 2) := by decide +kernel
theorem dM_told_55 : decode cM_told 55 = .ok (.aload_n 0, 1) := by decide +kernel
theorem dM_told_56 : decode cM_told 56 = .ok (.getfield 64, 3) := by decide +kernel
theorem dM_told_59 : decode cM_told 59 = .ok (.if_icmp .ge 34, 3) := by decide +kernel
theorem dM_told_62 : decode cM_told 62 = .ok (.lload_n 2, 1) := by decide +kernel
theorem dM_told_63 : decode cM_told 63 = .ok (.aload_n 0, 1) := by decide +kernel
theorem dM_told_64 : decode cM_told 64 = .ok (.getfield 19, 3) := by decide +kernel
theorem dM_told_67 : decode cM_told 67 = .ok (.iload 4, 2) := by decide +kernel
theorem dM_told_69 : decode cM_told 69 = .ok (.iaload, 1) := by decide +kernel
theorem dM_told_70 : decode cM_told 70 = .ok (.ifCond .ne 14, 3) := by decide +kernel
theorem dM_told_73 : decode cM_told 73 = .ok (.aload_n 0, 1) := by decide +kernel
theorem dM_told_74 : decode cM_told 74 = .ok (.getfield 13, 3) := by decide +kernel
theorem dM_told_77 : decode cM_told 77 = .ok (.iload 4, 2) := by decide +kernel
theorem dM_told_79 : decode cM_told 79 = .ok (.iaload, 1) := by decide +kernel
theorem dM_told_80 : decode cM_told 80 = .ok (.i2l, 1) := by decide +kernel
theorem dM_told_81 : decode cM_told 81 = .ok (.goto 4, 3) := by decide +kernel
theorem dM_told_84 : decode cM_told 84 = .ok (.lconst 0, 1) := by decide +kernel
theorem dM_told_85 : decode cM_told 85 = .ok (.ladd, 1) := by decide +kernel
theorem dM_told_86 : decode cM_told 86 = .ok (.lstore_n 2, 1) := by decide +kernel
theorem dM_told_87 : decode cM_told 87 = .ok (.iinc 4 1, 3) := by decide +kernel
theorem dM_told_90 : decode cM_told 90 = .ok (.goto (-37), 3) := by decide +kernel
theorem dM_told_93 : decode cM_told 93 = .ok (.lload_n 2, 1) := by decide +kernel
theorem dM_told_94 : decode cM_told 94 = .ok (.lreturn, 1) := by decide +kernel
end
section
theorem dL_melt_0 : decode cL_melt 0 = .ok (.aload_n 3, 1) := by decide +kernel
theorem dL_melt_1 : decode cL_melt 1 = .ok (.iconst 0, 1) := by decide +kernel
theorem dL_melt_2 : decode cL_melt 2 = .ok (.aload_n 0, 1) := by decide +kernel
theorem dL_melt_3 : decode cL_melt 3 = .ok (.iload_n 1, 1) := by decide +kernel
theorem dL_melt_4 : decode cL_melt 4 = .ok (.iload_n 2, 1) := by decide +kernel
theorem dL_melt_5 : decode cL_melt 5 = .ok (.invokevirtual 7, 3) := by decide +kernel
theorem dL_melt_8 : decode cL_melt 8 = .ok (.i2l, 1) := by decide +kernel
theorem dL_melt_9 : decode cL_melt 9 = .ok (.lastore, 1) := by decide +kernel
theorem dL_melt_10 : decode cL_melt 10 = .ok (.goto 11, 3) := by decide +kernel
theorem dL_melt_13 : decode cL_melt 13 = .ok (.astore 4, 2) := by decide +kernel
theorem dL_melt_15 : decode cL_melt 15 = .ok (.iconst 1, 1) := by decide +kernel
theorem dL_melt_16 : decode cL_melt 16 = .ok (.ireturn, 1) := by decide +kernel
theorem dL_melt_17 : decode cL_melt 17 = .ok (.astore 4, 2) := by decide +kernel
theorem dL_melt_19 : decode cL_melt 19 = .ok (.iconst 2, 1) := by decide +kernel
theorem dL_melt_20 : decode cL_melt 20 = .ok (.ireturn, 1) := by decide +kernel
theorem dL_melt_21 : decode cL_melt 21 = .ok (.iconst 0, 1) := by decide +kernel
theorem dL_melt_22 : decode cL_melt 22 = .ok (.ireturn, 1) := by decide +kernel
theorem dL_cut_0 : decode cL_cut 0 = .ok (.aload_n 3, 1) := by decide +kernel
theorem dL_cut_1 : decode cL_cut 1 = .ok (.iconst 0, 1) := by decide +kernel
theorem dL_cut_2 : decode cL_cut 2 = .ok (.aload_n 0, 1) := by decide +kernel
theorem dL_cut_3 : decode cL_cut 3 = .ok (.iload_n 1, 1) := by decide +kernel
theorem dL_cut_4 : decode cL_cut 4 = .ok (.iload_n 2, 1) := by decide +kernel
theorem dL_cut_5 : decode cL_cut 5 = .ok (.invokevirtual 17, 3) := by decide +kernel
theorem dL_cut_8 : decode cL_cut 8 = .ok (.i2l, 1) := by decide +kernel
theorem dL_cut_9 : decode cL_cut 9 = .ok (.lastore, 1) := by decide +kernel
theorem dL_cut_10 : decode cL_cut 10 = .ok (.goto 19, 3) := by decide +kernel
theorem dL_cut_13 : decode cL_cut 13 = .ok (.astore 4, 2) := by decide +kernel
theorem dL_cut_15 : decode cL_cut 15 = .ok (.iconst 1, 1) := by decide +kernel
theorem dL_cut_16 : decode cL_cut 16 = .ok (.ireturn, 1) := by decide +kernel
theorem dL_cut_17 : decode cL_cut 17 = .ok (.astore 4, 2) := by decide +kernel
theorem dL_cut_19 : decode cL_cut 19 = .ok (.iconst 2, 1) := by decide +kernel
theorem dL_cut_20 : decode cL_cut 20 = .ok (.ireturn, 1) := by decide +kernel
theorem dL_cut_21 : decode cL_cut 21 = .ok (.astore 4, 2) := by decide +kernel
theorem dL_cut_23 : decode cL_cut 23 = .ok (.iconst 3, 1) := by decide +kernel
theorem dL_cut_24 : decode cL_cut 24 = .ok (.ireturn, 1) := by decide +kernel
theorem dL_cut_25 : decode cL_cut 25 = .ok (.astore 4, 2) := by decide +kernel
theorem dL_cut_27 : decode cL_cut 27 = .ok (.iconst 4, 1) := by decide +kernel
theorem dL_cut_28 : decode cL_cut 28 = .ok (.ireturn, 1) := by decide +kernel
theorem dL_cut_29 : decode cL_cut 29 = .ok (.iconst 0, 1) := by decide +kernel
theorem dL_cut_30 : decode cL_cut 30 = .ok (.ireturn, 1) := by decide +kernel
theorem dL_weld_0 : decode cL_weld 0 = .ok (.aload_n 3, 1) := by decide +kernel
theorem dL_weld_1 : decode cL_weld 1 = .ok (.iconst 0, 1) := by decide +kernel
theorem dL_weld_2 : decode cL_weld 2 = .ok (.aload_n 0, 1) := by decide +kernel
theorem dL_weld_3 : decode cL_weld 3 = .ok (.iload_n 1, 1) := by decide +kernel
theorem dL_weld_4 : decode cL_weld 4 = .ok (.iload_n 2, 1) := by decide +kernel
theorem dL_weld_5 : decode cL_weld 5 = .ok (.invokevirtual 24, 3) := by decide +kernel
theorem dL_weld_8 : decode cL_weld 8 = .ok (.i2l, 1) := by decide +kernel
theorem dL_weld_9 : decode cL_weld 9 = .ok (.lastore, 1) := by decide +kernel
theorem dL_weld_10 : decode cL_weld 10 = .ok (.goto 15, 3) := by decide +kernel
theorem dL_weld_13 : decode cL_weld 13 = .ok (.astore 4, 2) := by decide +kernel
theorem dL_weld_15 : decode cL_weld 15 = .ok (.iconst 1, 1) := by decide +kernel
theorem dL_weld_16 : decode cL_weld 16 = .ok (.ireturn, 1) := by decide +kernel
theorem dL_weld_17 : decode cL_weld 17 = .ok (.astore 4, 2) := by decide +kernel
theorem dL_weld_19 : decode cL_weld 19 = .ok (.iconst 2, 1) := by decide +kernel
theorem dL_weld_20 : decode cL_weld 20 = .ok (.ireturn, 1) := by decide +kernel
theorem dL_weld_21 : decode cL_weld 21 = .ok (.astore 4, 2) := by decide +kernel
theorem dL_weld_23 : decode cL_weld 23 = .ok (.iconst 3, 1) := by decide +kernel
theorem dL_weld_24 : decode cL_weld 24 = .ok (.ireturn, 1) := by decide +kernel
theorem dL_weld_25 : decode cL_weld 25 = .ok (.iconst 0, 1) := by decide +kernel
theorem dL_weld_26 : decode cL_weld 26 = .ok (.ireturn, 1) := by decide +kernel
theorem dL_roll_0 : decode cL_roll 0 = .ok (.aload 4, 2) := by decide +kernel
theorem dL_roll_2 : decode cL_roll 2 = .ok (.iconst 0, 1) := by decide +kernel
theorem dL_roll_3 : decode cL_roll 3 = .ok (.aload_n 0, 1) := by decide +kernel
theorem dL_roll_4 : decode cL_roll 4 = .ok (.iload_n 1, 1) := by decide +kernel
theorem dL_roll_5 : decode cL_roll 5 = .ok (.iload_n 2, 1) := by decide +kernel
theorem dL_roll_6 : decode cL_roll 6 = .ok (.iload_n 3, 1) := by decide +kernel
theorem dL_roll_7 : decode cL_roll 7 = .ok (.invokevirtual 27, 3) := by decide +kernel
theorem dL_roll_10 : decode cL_roll 10 = .ok (.i2l, 1) := by decide +kernel
theorem dL_roll_11 : decode cL_roll 11 = .ok (.lastore, 1) := by decide +kernel
theorem dL_roll_12 : decode cL_roll 12 = .ok (.goto 19, 3) := by decide +kernel
theorem dL_roll_15 : decode cL_roll 15 = .ok (.astore 5, 2) := by decide +kernel
theorem dL_roll_17 : decode cL_roll 17 = .ok (.iconst 1, 1) := by decide +kernel
theorem dL_roll_18 : decode cL_roll 18 = .ok (.ireturn, 1) := by decide +kernel
theorem dL_roll_19 : decode cL_roll 19 = .ok (.astore 5, 2) := by decide +kernel
theorem dL_roll_21 : decode cL_roll 21 = .ok (.iconst 2, 1) := by decide +kernel
theorem dL_roll_22 : decode cL_roll 22 = .ok (.ireturn, 1) := by decide +kernel
theorem dL_roll_23 : decode cL_roll 23 = .ok (.astore 5, 2) := by decide +kernel
theorem dL_roll_25 : decode cL_roll 25 = .ok (.iconst 3, 1) := by decide +kernel
theorem dL_roll_26 : decode cL_roll 26 = .ok (.ireturn, 1) := by decide +kernel
theorem dL_roll_27 : decode cL_roll 27 = .ok (.astore 5, 2) := by decide +kernel
theorem dL_roll_29 : decode cL_roll 29 = .ok (.iconst 4, 1) := by decide +kernel
theorem dL_roll_30 : decode cL_roll 30 = .ok (.ireturn, 1) := by decide +kernel
theorem dL_roll_31 : decode cL_roll 31 = .ok (.iconst 0, 1) := by decide +kernel
theorem dL_roll_32 : decode cL_roll 32 = .ok (.ireturn, 1) := by decide +kernel
theorem dL_slit_0 : decode cL_slit 0 = .ok (.aload_n 3, 1) := by decide +kernel
theorem dL_slit_1 : decode cL_slit 1 = .ok (.iconst 0, 1) := by decide +kernel
theorem dL_slit_2 : decode cL_slit 2 = .ok (.aload_n 0, 1) := by decide +kernel
theorem dL_slit_3 : decode cL_slit 3 = .ok (.iload_n 1, 1) := by decide +kernel
theorem dL_slit_4 : decode cL_slit 4 = .ok (.iload_n 2, 1) := by decide +kernel
theorem dL_slit_5 : decode cL_slit 5 = .ok (.invokevirtual 31, 3) := by decide +kernel
theorem dL_slit_8 : decode cL_slit 8 = .ok (.i2l, 1) := by decide +kernel
theorem dL_slit_9 : decode cL_slit 9 = .ok (.lastore, 1) := by decide +kernel
theorem dL_slit_10 : decode cL_slit 10 = .ok (.goto 19, 3) := by decide +kernel
theorem dL_slit_13 : decode cL_slit 13 = .ok (.astore 4, 2) := by decide +kernel
theorem dL_slit_15 : decode cL_slit 15 = .ok (.iconst 1, 1) := by decide +kernel
theorem dL_slit_16 : decode cL_slit 16 = .ok (.ireturn, 1) := by decide +kernel
theorem dL_slit_17 : decode cL_slit 17 = .ok (.astore 4, 2) := by decide +kernel
theorem dL_slit_19 : decode cL_slit 19 = .ok (.iconst 2, 1) := by decide +kernel
theorem dL_slit_20 : decode cL_slit 20 = .ok (.ireturn, 1) := by decide +kernel
theorem dL_slit_21 : decode cL_slit 21 = .ok (.astore 4, 2) := by decide +kernel
theorem dL_slit_23 : decode cL_slit 23 = .ok (.iconst 3, 1) := by decide +kernel
theorem dL_slit_24 : decode cL_slit 24 = .ok (.ireturn, 1) := by decide +kernel
theorem dL_slit_25 : decode cL_slit 25 = .ok (.astore 4, 2) := by decide +kernel
theorem dL_slit_27 : decode cL_slit 27 = .ok (.iconst 4, 1) := by decide +kernel
theorem dL_slit_28 : decode cL_slit 28 = .ok (.ireturn, 1) := by decide +kernel
theorem dL_slit_29 : decode cL_slit 29 = .ok (.iconst 0, 1) := by decide +kernel
theorem dL_slit_30 : decode cL_slit 30 = .ok (.ireturn, 1) := by decide +kernel
theorem dL_hold_0 : decode cL_hold 0 = .ok (.aload_n 0, 1) := by decide +kernel
theorem dL_hold_1 : decode cL_hold 1 = .ok (.iload_n 1, 1) := by decide +kernel
theorem dL_hold_2 : decode cL_hold 2 = .ok (.iload_n 2, 1) := by decide +kernel
theorem dL_hold_3 : decode cL_hold 3 = .ok (.invokevirtual 34, 3) := by decide +kernel
theorem dL_hold_6 : decode cL_hold 6 = .ok (.goto 9, 3) := by decide +kernel
theorem dL_hold_9 : decode cL_hold 9 = .ok (.astore_n 3, 1) := by decide +kernel
theorem dL_hold_10 : decode cL_hold 10 = .ok (.iconst 1, 1) := by decide +kernel
theorem dL_hold_11 : decode cL_hold 11 = .ok (.ireturn, 1) := by decide +kernel
theorem dL_hold_12 : decode cL_hold 12 = .ok (.astore_n 3, 1) := by decide +kernel
theorem dL_hold_13 : decode cL_hold 13 = .ok (.iconst 2, 1) := by decide +kernel
theorem dL_hold_14 : decode cL_hold 14 = .ok (.ireturn, 1) := by decide +kernel
theorem dL_hold_15 : decode cL_hold 15 = .ok (.iconst 0, 1) := by decide +kernel
theorem dL_hold_16 : decode cL_hold 16 = .ok (.ireturn, 1) := by decide +kernel
theorem dL_scrap_0 : decode cL_scrap 0 = .ok (.aload_n 2, 1) := by decide +kernel
theorem dL_scrap_1 : decode cL_scrap 1 = .ok (.iconst 0, 1) := by decide +kernel
theorem dL_scrap_2 : decode cL_scrap 2 = .ok (.aload_n 0, 1) := by decide +kernel
theorem dL_scrap_3 : decode cL_scrap 3 = .ok (.iload_n 1, 1) := by decide +kernel
theorem dL_scrap_4 : decode cL_scrap 4 = .ok (.invokevirtual 38, 3) := by decide +kernel
theorem dL_scrap_7 : decode cL_scrap 7 = .ok (.i2l, 1) := by decide +kernel
theorem dL_scrap_8 : decode cL_scrap 8 = .ok (.lastore, 1) := by decide +kernel
theorem dL_scrap_9 : decode cL_scrap 9 = .ok (.goto 9, 3) := by decide +kernel
theorem dL_scrap_12 : decode cL_scrap 12 = .ok (.astore_n 3, 1) := by decide +kernel
theorem dL_scrap_13 : decode cL_scrap 13 = .ok (.iconst 1, 1) := by decide +kernel
theorem dL_scrap_14 : decode cL_scrap 14 = .ok (.ireturn, 1) := by decide +kernel
theorem dL_scrap_15 : decode cL_scrap 15 = .ok (.astore_n 3, 1) := by decide +kernel
theorem dL_scrap_16 : decode cL_scrap 16 = .ok (.iconst 2, 1) := by decide +kernel
theorem dL_scrap_17 : decode cL_scrap 17 = .ok (.ireturn, 1) := by decide +kernel
theorem dL_scrap_18 : decode cL_scrap 18 = .ok (.iconst 0, 1) := by decide +kernel
theorem dL_scrap_19 : decode cL_scrap 19 = .ok (.ireturn, 1) := by decide +kernel
theorem dL_back_0 : decode cL_back 0 = .ok (.aload_n 3, 1) := by decide +kernel
theorem dL_back_1 : decode cL_back 1 = .ok (.iconst 0, 1) := by decide +kernel
theorem dL_back_2 : decode cL_back 2 = .ok (.aload_n 0, 1) := by decide +kernel
theorem dL_back_3 : decode cL_back 3 = .ok (.iload_n 1, 1) := by decide +kernel
theorem dL_back_4 : decode cL_back 4 = .ok (.iload_n 2, 1) := by decide +kernel
theorem dL_back_5 : decode cL_back 5 = .ok (.invokevirtual 42, 3) := by decide +kernel
theorem dL_back_8 : decode cL_back 8 = .ok (.i2l, 1) := by decide +kernel
theorem dL_back_9 : decode cL_back 9 = .ok (.lastore, 1) := by decide +kernel
theorem dL_back_10 : decode cL_back 10 = .ok (.goto 11, 3) := by decide +kernel
theorem dL_back_13 : decode cL_back 13 = .ok (.astore 4, 2) := by decide +kernel
theorem dL_back_15 : decode cL_back 15 = .ok (.iconst 1, 1) := by decide +kernel
theorem dL_back_16 : decode cL_back 16 = .ok (.ireturn, 1) := by decide +kernel
theorem dL_back_17 : decode cL_back 17 = .ok (.astore 4, 2) := by decide +kernel
theorem dL_back_19 : decode cL_back 19 = .ok (.iconst 2, 1) := by decide +kernel
theorem dL_back_20 : decode cL_back 20 = .ok (.ireturn, 1) := by decide +kernel
theorem dL_back_21 : decode cL_back 21 = .ok (.iconst 0, 1) := by decide +kernel
theorem dL_back_22 : decode cL_back 22 = .ok (.ireturn, 1) := by decide +kernel
theorem dL_at_0 : decode cL_at 0 = .ok (.aload_n 3, 1) := by decide +kernel
theorem dL_at_1 : decode cL_at 1 = .ok (.iconst 0, 1) := by decide +kernel
theorem dL_at_2 : decode cL_at 2 = .ok (.aload_n 0, 1) := by decide +kernel
theorem dL_at_3 : decode cL_at 3 = .ok (.iload_n 1, 1) := by decide +kernel
theorem dL_at_4 : decode cL_at 4 = .ok (.iload_n 2, 1) := by decide +kernel
theorem dL_at_5 : decode cL_at 5 = .ok (.invokevirtual 45, 3) := by decide +kernel
theorem dL_at_8 : decode cL_at 8 = .ok (.i2l, 1) := by decide +kernel
theorem dL_at_9 : decode cL_at 9 = .ok (.lastore, 1) := by decide +kernel
theorem dL_at_10 : decode cL_at 10 = .ok (.goto 7, 3) := by decide +kernel
theorem dL_at_13 : decode cL_at 13 = .ok (.astore 4, 2) := by decide +kernel
theorem dL_at_15 : decode cL_at 15 = .ok (.iconst 1, 1) := by decide +kernel
theorem dL_at_16 : decode cL_at 16 = .ok (.ireturn, 1) := by decide +kernel
theorem dL_at_17 : decode cL_at 17 = .ok (.iconst 0, 1) := by decide +kernel
theorem dL_at_18 : decode cL_at 18 = .ok (.ireturn, 1) := by decide +kernel
theorem dL_origin_0 : decode cL_origin 0 = .ok (.aload 4, 2) := by decide +kernel
theorem dL_origin_2 : decode cL_origin 2 = .ok (.iconst 0, 1) := by decide +kernel
theorem dL_origin_3 : decode cL_origin 3 = .ok (.aload_n 0, 1) := by decide +kernel
theorem dL_origin_4 : decode cL_origin 4 = .ok (.iload_n 1, 1) := by decide +kernel
theorem dL_origin_5 : decode cL_origin 5 = .ok (.iload_n 2, 1) := by decide +kernel
theorem dL_origin_6 : decode cL_origin 6 = .ok (.iload_n 3, 1) := by decide +kernel
theorem dL_origin_7 : decode cL_origin 7 = .ok (.invokevirtual 48, 3) := by decide +kernel
theorem dL_origin_10 : decode cL_origin 10 = .ok (.lastore, 1) := by decide +kernel
theorem dL_origin_11 : decode cL_origin 11 = .ok (.goto 11, 3) := by decide +kernel
theorem dL_origin_14 : decode cL_origin 14 = .ok (.astore 5, 2) := by decide +kernel
theorem dL_origin_16 : decode cL_origin 16 = .ok (.iconst 1, 1) := by decide +kernel
theorem dL_origin_17 : decode cL_origin 17 = .ok (.ireturn, 1) := by decide +kernel
theorem dL_origin_18 : decode cL_origin 18 = .ok (.astore 5, 2) := by decide +kernel
theorem dL_origin_20 : decode cL_origin 20 = .ok (.iconst 2, 1) := by decide +kernel
theorem dL_origin_21 : decode cL_origin 21 = .ok (.ireturn, 1) := by decide +kernel
theorem dL_origin_22 : decode cL_origin 22 = .ok (.iconst 0, 1) := by decide +kernel
theorem dL_origin_23 : decode cL_origin 23 = .ok (.ireturn, 1) := by decide +kernel
theorem dL_defect_0 : decode cL_defect 0 = .ok (.aload_n 3, 1) := by decide +kernel
theorem dL_defect_1 : decode cL_defect 1 = .ok (.iconst 0, 1) := by decide +kernel
theorem dL_defect_2 : decode cL_defect 2 = .ok (.aload_n 0, 1) := by decide +kernel
theorem dL_defect_3 : decode cL_defect 3 = .ok (.iload_n 1, 1) := by decide +kernel
theorem dL_defect_4 : decode cL_defect 4 = .ok (.iload_n 2, 1) := by decide +kernel
theorem dL_defect_5 : decode cL_defect 5 = .ok (.invokevirtual 52, 3) := by decide +kernel
theorem dL_defect_8 : decode cL_defect 8 = .ok (.i2l, 1) := by decide +kernel
theorem dL_defect_9 : decode cL_defect 9 = .ok (.lastore, 1) := by decide +kernel
theorem dL_defect_10 : decode cL_defect 10 = .ok (.goto 15, 3) := by decide +kernel
theorem dL_defect_13 : decode cL_defect 13 = .ok (.astore 4, 2) := by decide +kernel
theorem dL_defect_15 : decode cL_defect 15 = .ok (.iconst 1, 1) := by decide +kernel
theorem dL_defect_16 : decode cL_defect 16 = .ok (.ireturn, 1) := by decide +kernel
theorem dL_defect_17 : decode cL_defect 17 = .ok (.astore 4, 2) := by decide +kernel
theorem dL_defect_19 : decode cL_defect 19 = .ok (.iconst 2, 1) := by decide +kernel
theorem dL_defect_20 : decode cL_defect 20 = .ok (.ireturn, 1) := by decide +kernel
theorem dL_defect_21 : decode cL_defect 21 = .ok (.astore 4, 2) := by decide +kernel
theorem dL_defect_23 : decode cL_defect 23 = .ok (.iconst 3, 1) := by decide +kernel
theorem dL_defect_24 : decode cL_defect 24 = .ok (.ireturn, 1) := by decide +kernel
theorem dL_defect_25 : decode cL_defect 25 = .ok (.iconst 0, 1) := by decide +kernel
theorem dL_defect_26 : decode cL_defect 26 = .ok (.ireturn, 1) := by decide +kernel
theorem dL_has_0 : decode cL_has 0 = .ok (.aload 4, 2) := by decide +kernel
theorem dL_has_2 : decode cL_has 2 = .ok (.iconst 0, 1) := by decide +kernel
theorem dL_has_3 : decode cL_has 3 = .ok (.aload_n 0, 1) := by decide +kernel
theorem dL_has_4 : decode cL_has 4 = .ok (.iload_n 1, 1) := by decide +kernel
theorem dL_has_5 : decode cL_has 5 = .ok (.iload_n 2, 1) := by decide +kernel
theorem dL_has_6 : decode cL_has 6 = .ok (.iload_n 3, 1) := by decide +kernel
theorem dL_has_7 : decode cL_has 7 = .ok (.invokevirtual 55, 3) := by decide +kernel
theorem dL_has_10 : decode cL_has 10 = .ok (.lastore, 1) := by decide +kernel
theorem dL_has_11 : decode cL_has 11 = .ok (.goto 7, 3) := by decide +kernel
theorem dL_has_14 : decode cL_has 14 = .ok (.astore 5, 2) := by decide +kernel
theorem dL_has_16 : decode cL_has 16 = .ok (.iconst 1, 1) := by decide +kernel
theorem dL_has_17 : decode cL_has 17 = .ok (.ireturn, 1) := by decide +kernel
theorem dL_has_18 : decode cL_has 18 = .ok (.iconst 0, 1) := by decide +kernel
theorem dL_has_19 : decode cL_has 19 = .ok (.ireturn, 1) := by decide +kernel
theorem dL_recall_0 : decode cL_recall 0 = .ok (.aload_n 3, 1) := by decide +kernel
theorem dL_recall_1 : decode cL_recall 1 = .ok (.iconst 0, 1) := by decide +kernel
theorem dL_recall_2 : decode cL_recall 2 = .ok (.aload_n 0, 1) := by decide +kernel
theorem dL_recall_3 : decode cL_recall 3 = .ok (.iload_n 1, 1) := by decide +kernel
theorem dL_recall_4 : decode cL_recall 4 = .ok (.iload_n 2, 1) := by decide +kernel
theorem dL_recall_5 : decode cL_recall 5 = .ok (.invokevirtual 58, 3) := by decide +kernel
theorem dL_recall_8 : decode cL_recall 8 = .ok (.i2l, 1) := by decide +kernel
theorem dL_recall_9 : decode cL_recall 9 = .ok (.lastore, 1) := by decide +kernel
theorem dL_recall_10 : decode cL_recall 10 = .ok (.goto 7, 3) := by decide +kernel
theorem dL_recall_13 : decode cL_recall 13 = .ok (.astore 4, 2) := by decide +kernel
theorem dL_recall_15 : decode cL_recall 15 = .ok (.iconst 1, 1) := by decide +kernel
theorem dL_recall_16 : decode cL_recall 16 = .ok (.ireturn, 1) := by decide +kernel
theorem dL_recall_17 : decode cL_recall 17 = .ok (.iconst 0, 1) := by decide +kernel
theorem dL_recall_18 : decode cL_recall 18 = .ok (.ireturn, 1) := by decide +kernel
theorem dL_told_0 : decode cL_told 0 = .ok (.aload_n 2, 1) := by decide +kernel
theorem dL_told_1 : decode cL_told 1 = .ok (.iconst 0, 1) := by decide +kernel
theorem dL_told_2 : decode cL_told 2 = .ok (.aload_n 0, 1) := by decide +kernel
theorem dL_told_3 : decode cL_told 3 = .ok (.iload_n 1, 1) := by decide +kernel
theorem dL_told_4 : decode cL_told 4 = .ok (.invokevirtual 61, 3) := by decide +kernel
theorem dL_told_7 : decode cL_told 7 = .ok (.lastore, 1) := by decide +kernel
theorem dL_told_8 : decode cL_told 8 = .ok (.goto 6, 3) := by decide +kernel
theorem dL_told_11 : decode cL_told 11 = .ok (.astore_n 3, 1) := by decide +kernel
theorem dL_told_12 : decode cL_told 12 = .ok (.iconst 1, 1) := by decide +kernel
theorem dL_told_13 : decode cL_told 13 = .ok (.ireturn, 1) := by decide +kernel
theorem dL_told_14 : decode cL_told 14 = .ok (.iconst 0, 1) := by decide +kernel
theorem dL_told_15 : decode cL_told 15 = .ok (.ireturn, 1) := by decide +kernel
theorem dL_law_0 : decode code 0 = .ok (.new 8, 3) := by decide +kernel
theorem dL_law_3 : decode code 3 = .ok (.dup, 1) := by decide +kernel
theorem dL_law_4 : decode code 4 = .ok (.invokespecial 65, 3) := by decide +kernel
theorem dL_law_7 : decode code 7 = .ok (.astore_n 1, 1) := by decide +kernel
theorem dL_law_8 : decode code 8 = .ok (.new 66, 3) := by decide +kernel
theorem dL_law_11 : decode code 11 = .ok (.dup, 1) := by decide +kernel
theorem dL_law_12 : decode code 12 = .ok (.invokespecial 68, 3) := by decide +kernel
theorem dL_law_15 : decode code 15 = .ok (.astore_n 2, 1) := by decide +kernel
theorem dL_law_16 : decode code 16 = .ok (.iconst 1, 1) := by decide +kernel
theorem dL_law_17 : decode code 17 = .ok (.newarray .long, 2) := by decide +kernel
theorem dL_law_19 : decode code 19 = .ok (.astore_n 3, 1) := by decide +kernel
theorem dL_law_20 : decode code 20 = .ok (.iconst 0, 1) := by decide +kernel
theorem dL_law_21 : decode code 21 = .ok (.istore 4, 2) := by decide +kernel
theorem dL_law_23 : decode code 23 = .ok (.iload 4, 2) := by decide +kernel
theorem dL_law_25 : decode code 25 = .ok (.aload_n 0, 1) := by decide +kernel
theorem dL_law_26 : decode code 26 = .ok (.arraylength, 1) := by decide +kernel
theorem dL_law_27 : decode code 27 = .ok (.iconst 4, 1) := by decide +kernel
theorem dL_law_28 : decode code 28 = .ok (.isub, 1) := by decide +kernel
theorem dL_law_29 : decode code 29 = .ok (.if_icmp .gt 1042, 3) := by decide +kernel
theorem dL_law_32 : decode code 32 = .ok (.aload_n 0, 1) := by decide +kernel
theorem dL_law_33 : decode code 33 = .ok (.iload 4, 2) := by decide +kernel
theorem dL_law_35 : decode code 35 = .ok (.iaload, 1) := by decide +kernel
theorem dL_law_36 : decode code 36 = .ok (.bipush 15, 2) := by decide +kernel
theorem dL_law_38 : decode code 38 = .ok (.iand, 1) := by decide +kernel
theorem dL_law_39 : decode code 39 = .ok (.tableswitch 1026 0 13 #[69, 137, 205, 273, 353, 421, 485, 541, 609, 677, 756, 824, 903, 971], 69) := by decide +kernel
theorem dL_law_108 : decode code 108 = .ok (.aload_n 1, 1) := by decide +kernel
theorem dL_law_109 : decode code 109 = .ok (.aload_n 0, 1) := by decide +kernel
theorem dL_law_110 : decode code 110 = .ok (.iload 4, 2) := by decide +kernel
theorem dL_law_112 : decode code 112 = .ok (.iconst 1, 1) := by decide +kernel
theorem dL_law_113 : decode code 113 = .ok (.iadd, 1) := by decide +kernel
theorem dL_law_114 : decode code 114 = .ok (.iaload, 1) := by decide +kernel
theorem dL_law_115 : decode code 115 = .ok (.aload_n 0, 1) := by decide +kernel
theorem dL_law_116 : decode code 116 = .ok (.iload 4, 2) := by decide +kernel
theorem dL_law_118 : decode code 118 = .ok (.iconst 2, 1) := by decide +kernel
theorem dL_law_119 : decode code 119 = .ok (.iadd, 1) := by decide +kernel
theorem dL_law_120 : decode code 120 = .ok (.iaload, 1) := by decide +kernel
theorem dL_law_121 : decode code 121 = .ok (.aload_n 3, 1) := by decide +kernel
theorem dL_law_122 : decode code 122 = .ok (.invokestatic 69, 3) := by decide +kernel
theorem dL_law_125 : decode code 125 = .ok (.istore 5, 2) := by decide +kernel
theorem dL_law_127 : decode code 127 = .ok (.aload_n 2, 1) := by decide +kernel
theorem dL_law_128 : decode code 128 = .ok (.aload_n 0, 1) := by decide +kernel
theorem dL_law_129 : decode code 129 = .ok (.iload 4, 2) := by decide +kernel
theorem dL_law_131 : decode code 131 = .ok (.iconst 1, 1) := by decide +kernel
theorem dL_law_132 : decode code 132 = .ok (.iadd, 1) := by decide +kernel
theorem dL_law_133 : decode code 133 = .ok (.iaload, 1) := by decide +kernel
theorem dL_law_134 : decode code 134 = .ok (.aload_n 0, 1) := by decide +kernel
theorem dL_law_135 : decode code 135 = .ok (.iload 4, 2) := by decide +kernel
theorem dL_law_137 : decode code 137 = .ok (.iconst 2, 1) := by decide +kernel
theorem dL_law_138 : decode code 138 = .ok (.iadd, 1) := by decide +kernel
theorem dL_law_139 : decode code 139 = .ok (.iaload, 1) := by decide +kernel
theorem dL_law_140 : decode code 140 = .ok (.invokevirtual 74, 3) := by decide +kernel
theorem dL_law_143 : decode code 143 = .ok (.istore 6, 2) := by decide +kernel
theorem dL_law_145 : decode code 145 = .ok (.aload_n 2, 1) := by decide +kernel
theorem dL_law_146 : decode code 146 = .ok (.invokevirtual 75, 3) := by decide +kernel
theorem dL_law_149 : decode code 149 = .ok (.iload 5, 2) := by decide +kernel
theorem dL_law_151 : decode code 151 = .ok (.if_icmp .eq 5, 3) := by decide +kernel
theorem dL_law_154 : decode code 154 = .ok (.iconst 0, 1) := by decide +kernel
theorem dL_law_155 : decode code 155 = .ok (.ireturn, 1) := by decide +kernel
theorem dL_law_156 : decode code 156 = .ok (.iload 5, 2) := by decide +kernel
theorem dL_law_158 : decode code 158 = .ok (.ifCond .ne 15, 3) := by decide +kernel
theorem dL_law_161 : decode code 161 = .ok (.aload_n 3, 1) := by decide +kernel
theorem dL_law_162 : decode code 162 = .ok (.iconst 0, 1) := by decide +kernel
theorem dL_law_163 : decode code 163 = .ok (.laload, 1) := by decide +kernel
theorem dL_law_164 : decode code 164 = .ok (.iload 6, 2) := by decide +kernel
theorem dL_law_166 : decode code 166 = .ok (.i2l, 1) := by decide +kernel
theorem dL_law_167 : decode code 167 = .ok (.lcmp, 1) := by decide +kernel
theorem dL_law_168 : decode code 168 = .ok (.ifCond .eq 5, 3) := by decide +kernel
theorem dL_law_171 : decode code 171 = .ok (.iconst 0, 1) := by decide +kernel
theorem dL_law_172 : decode code 172 = .ok (.ireturn, 1) := by decide +kernel
theorem dL_law_173 : decode code 173 = .ok (.goto 892, 3) := by decide +kernel
theorem dL_law_176 : decode code 176 = .ok (.aload_n 1, 1) := by decide +kernel
theorem dL_law_177 : decode code 177 = .ok (.aload_n 0, 1) := by decide +kernel
theorem dL_law_178 : decode code 178 = .ok (.iload 4, 2) := by decide +kernel
theorem dL_law_180 : decode code 180 = .ok (.iconst 1, 1) := by decide +kernel
theorem dL_law_181 : decode code 181 = .ok (.iadd, 1) := by decide +kernel
theorem dL_law_182 : decode code 182 = .ok (.iaload, 1) := by decide +kernel
theorem dL_law_183 : decode code 183 = .ok (.aload_n 0, 1) := by decide +kernel
theorem dL_law_184 : decode code 184 = .ok (.iload 4, 2) := by decide +kernel
theorem dL_law_186 : decode code 186 = .ok (.iconst 2, 1) := by decide +kernel
theorem dL_law_187 : decode code 187 = .ok (.iadd, 1) := by decide +kernel
theorem dL_law_188 : decode code 188 = .ok (.iaload, 1) := by decide +kernel
theorem dL_law_189 : decode code 189 = .ok (.aload_n 3, 1) := by decide +kernel
theorem dL_law_190 : decode code 190 = .ok (.invokestatic 79, 3) := by decide +kernel
theorem dL_law_193 : decode code 193 = .ok (.istore 5, 2) := by decide +kernel
theorem dL_law_195 : decode code 195 = .ok (.aload_n 2, 1) := by decide +kernel
theorem dL_law_196 : decode code 196 = .ok (.aload_n 0, 1) := by decide +kernel
theorem dL_law_197 : decode code 197 = .ok (.iload 4, 2) := by decide +kernel
theorem dL_law_199 : decode code 199 = .ok (.iconst 1, 1) := by decide +kernel
theorem dL_law_200 : decode code 200 = .ok (.iadd, 1) := by decide +kernel
theorem dL_law_201 : decode code 201 = .ok (.iaload, 1) := by decide +kernel
theorem dL_law_202 : decode code 202 = .ok (.aload_n 0, 1) := by decide +kernel
theorem dL_law_203 : decode code 203 = .ok (.iload 4, 2) := by decide +kernel
theorem dL_law_205 : decode code 205 = .ok (.iconst 2, 1) := by decide +kernel
theorem dL_law_206 : decode code 206 = .ok (.iadd, 1) := by decide +kernel
theorem dL_law_207 : decode code 207 = .ok (.iaload, 1) := by decide +kernel
theorem dL_law_208 : decode code 208 = .ok (.invokevirtual 81, 3) := by decide +kernel
theorem dL_law_211 : decode code 211 = .ok (.istore 6, 2) := by decide +kernel
theorem dL_law_213 : decode code 213 = .ok (.aload_n 2, 1) := by decide +kernel
theorem dL_law_214 : decode code 214 = .ok (.invokevirtual 75, 3) := by decide +kernel
theorem dL_law_217 : decode code 217 = .ok (.iload 5, 2) := by decide +kernel
theorem dL_law_219 : decode code 219 = .ok (.if_icmp .eq 5, 3) := by decide +kernel
theorem dL_law_222 : decode code 222 = .ok (.iconst 0, 1) := by decide +kernel
theorem dL_law_223 : decode code 223 = .ok (.ireturn, 1) := by decide +kernel
theorem dL_law_224 : decode code 224 = .ok (.iload 5, 2) := by decide +kernel
theorem dL_law_226 : decode code 226 = .ok (.ifCond .ne 15, 3) := by decide +kernel
theorem dL_law_229 : decode code 229 = .ok (.aload_n 3, 1) := by decide +kernel
theorem dL_law_230 : decode code 230 = .ok (.iconst 0, 1) := by decide +kernel
theorem dL_law_231 : decode code 231 = .ok (.laload, 1) := by decide +kernel
theorem dL_law_232 : decode code 232 = .ok (.iload 6, 2) := by decide +kernel
theorem dL_law_234 : decode code 234 = .ok (.i2l, 1) := by decide +kernel
theorem dL_law_235 : decode code 235 = .ok (.lcmp, 1) := by decide +kernel
theorem dL_law_236 : decode code 236 = .ok (.ifCond .eq 5, 3) := by decide +kernel
theorem dL_law_239 : decode code 239 = .ok (.iconst 0, 1) := by decide +kernel
theorem dL_law_240 : decode code 240 = .ok (.ireturn, 1) := by decide +kernel
theorem dL_law_241 : decode code 241 = .ok (.goto 824, 3) := by decide +kernel
theorem dL_law_244 : decode code 244 = .ok (.aload_n 1, 1) := by decide +kernel
theorem dL_law_245 : decode code 245 = .ok (.aload_n 0, 1) := by decide +kernel
theorem dL_law_246 : decode code 246 = .ok (.iload 4, 2) := by decide +kernel
theorem dL_law_248 : decode code 248 = .ok (.iconst 1, 1) := by decide +kernel
theorem dL_law_249 : decode code 249 = .ok (.iadd, 1) := by decide +kernel
theorem dL_law_250 : decode code 250 = .ok (.iaload, 1) := by decide +kernel
theorem dL_law_251 : decode code 251 = .ok (.aload_n 0, 1) := by decide +kernel
theorem dL_law_252 : decode code 252 = .ok (.iload 4, 2) := by decide +kernel
theorem dL_law_254 : decode code 254 = .ok (.iconst 2, 1) := by decide +kernel
theorem dL_law_255 : decode code 255 = .ok (.iadd, 1) := by decide +kernel
theorem dL_law_256 : decode code 256 = .ok (.iaload, 1) := by decide +kernel
theorem dL_law_257 : decode code 257 = .ok (.aload_n 3, 1) := by decide +kernel
theorem dL_law_258 : decode code 258 = .ok (.invokestatic 82, 3) := by decide +kernel
theorem dL_law_261 : decode code 261 = .ok (.istore 5, 2) := by decide +kernel
theorem dL_law_263 : decode code 263 = .ok (.aload_n 2, 1) := by decide +kernel
theorem dL_law_264 : decode code 264 = .ok (.aload_n 0, 1) := by decide +kernel
theorem dL_law_265 : decode code 265 = .ok (.iload 4, 2) := by decide +kernel
theorem dL_law_267 : decode code 267 = .ok (.iconst 1, 1) := by decide +kernel
theorem dL_law_268 : decode code 268 = .ok (.iadd, 1) := by decide +kernel
theorem dL_law_269 : decode code 269 = .ok (.iaload, 1) := by decide +kernel
theorem dL_law_270 : decode code 270 = .ok (.aload_n 0, 1) := by decide +kernel
theorem dL_law_271 : decode code 271 = .ok (.iload 4, 2) := by decide +kernel
theorem dL_law_273 : decode code 273 = .ok (.iconst 2, 1) := by decide +kernel
theorem dL_law_274 : decode code 274 = .ok (.iadd, 1) := by decide +kernel
theorem dL_law_275 : decode code 275 = .ok (.iaload, 1) := by decide +kernel
theorem dL_law_276 : decode code 276 = .ok (.invokevirtual 84, 3) := by decide +kernel
theorem dL_law_279 : decode code 279 = .ok (.istore 6, 2) := by decide +kernel
theorem dL_law_281 : decode code 281 = .ok (.aload_n 2, 1) := by decide +kernel
theorem dL_law_282 : decode code 282 = .ok (.invokevirtual 75, 3) := by decide +kernel
theorem dL_law_285 : decode code 285 = .ok (.iload 5, 2) := by decide +kernel
theorem dL_law_287 : decode code 287 = .ok (.if_icmp .eq 5, 3) := by decide +kernel
theorem dL_law_290 : decode code 290 = .ok (.iconst 0, 1) := by decide +kernel
theorem dL_law_291 : decode code 291 = .ok (.ireturn, 1) := by decide +kernel
theorem dL_law_292 : decode code 292 = .ok (.iload 5, 2) := by decide +kernel
theorem dL_law_294 : decode code 294 = .ok (.ifCond .ne 15, 3) := by decide +kernel
theorem dL_law_297 : decode code 297 = .ok (.aload_n 3, 1) := by decide +kernel
theorem dL_law_298 : decode code 298 = .ok (.iconst 0, 1) := by decide +kernel
theorem dL_law_299 : decode code 299 = .ok (.laload, 1) := by decide +kernel
theorem dL_law_300 : decode code 300 = .ok (.iload 6, 2) := by decide +kernel
theorem dL_law_302 : decode code 302 = .ok (.i2l, 1) := by decide +kernel
theorem dL_law_303 : decode code 303 = .ok (.lcmp, 1) := by decide +kernel
theorem dL_law_304 : decode code 304 = .ok (.ifCond .eq 5, 3) := by decide +kernel
theorem dL_law_307 : decode code 307 = .ok (.iconst 0, 1) := by decide +kernel
theorem dL_law_308 : decode code 308 = .ok (.ireturn, 1) := by decide +kernel
theorem dL_law_309 : decode code 309 = .ok (.goto 756, 3) := by decide +kernel
theorem dL_law_312 : decode code 312 = .ok (.aload_n 1, 1) := by decide +kernel
theorem dL_law_313 : decode code 313 = .ok (.aload_n 0, 1) := by decide +kernel
theorem dL_law_314 : decode code 314 = .ok (.iload 4, 2) := by decide +kernel
theorem dL_law_316 : decode code 316 = .ok (.iconst 1, 1) := by decide +kernel
theorem dL_law_317 : decode code 317 = .ok (.iadd, 1) := by decide +kernel
theorem dL_law_318 : decode code 318 = .ok (.iaload, 1) := by decide +kernel
theorem dL_law_319 : decode code 319 = .ok (.aload_n 0, 1) := by decide +kernel
theorem dL_law_320 : decode code 320 = .ok (.iload 4, 2) := by decide +kernel
theorem dL_law_322 : decode code 322 = .ok (.iconst 2, 1) := by decide +kernel
theorem dL_law_323 : decode code 323 = .ok (.iadd, 1) := by decide +kernel
theorem dL_law_324 : decode code 324 = .ok (.iaload, 1) := by decide +kernel
theorem dL_law_325 : decode code 325 = .ok (.aload_n 0, 1) := by decide +kernel
theorem dL_law_326 : decode code 326 = .ok (.iload 4, 2) := by decide +kernel
theorem dL_law_328 : decode code 328 = .ok (.iconst 3, 1) := by decide +kernel
theorem dL_law_329 : decode code 329 = .ok (.iadd, 1) := by decide +kernel
theorem dL_law_330 : decode code 330 = .ok (.iaload, 1) := by decide +kernel
theorem dL_law_331 : decode code 331 = .ok (.aload_n 3, 1) := by decide +kernel
theorem dL_law_332 : decode code 332 = .ok (.invokestatic 85, 3) := by decide +kernel
theorem dL_law_335 : decode code 335 = .ok (.istore 5, 2) := by decide +kernel
theorem dL_law_337 : decode code 337 = .ok (.aload_n 2, 1) := by decide +kernel
theorem dL_law_338 : decode code 338 = .ok (.aload_n 0, 1) := by decide +kernel
theorem dL_law_339 : decode code 339 = .ok (.iload 4, 2) := by decide +kernel
theorem dL_law_341 : decode code 341 = .ok (.iconst 1, 1) := by decide +kernel
theorem dL_law_342 : decode code 342 = .ok (.iadd, 1) := by decide +kernel
theorem dL_law_343 : decode code 343 = .ok (.iaload, 1) := by decide +kernel
theorem dL_law_344 : decode code 344 = .ok (.aload_n 0, 1) := by decide +kernel
theorem dL_law_345 : decode code 345 = .ok (.iload 4, 2) := by decide +kernel
theorem dL_law_347 : decode code 347 = .ok (.iconst 2, 1) := by decide +kernel
theorem dL_law_348 : decode code 348 = .ok (.iadd, 1) := by decide +kernel
theorem dL_law_349 : decode code 349 = .ok (.iaload, 1) := by decide +kernel
theorem dL_law_350 : decode code 350 = .ok (.aload_n 0, 1) := by decide +kernel
theorem dL_law_351 : decode code 351 = .ok (.iload 4, 2) := by decide +kernel
theorem dL_law_353 : decode code 353 = .ok (.iconst 3, 1) := by decide +kernel
theorem dL_law_354 : decode code 354 = .ok (.iadd, 1) := by decide +kernel
theorem dL_law_355 : decode code 355 = .ok (.iaload, 1) := by decide +kernel
theorem dL_law_356 : decode code 356 = .ok (.invokevirtual 88, 3) := by decide +kernel
theorem dL_law_359 : decode code 359 = .ok (.istore 6, 2) := by decide +kernel
theorem dL_law_361 : decode code 361 = .ok (.aload_n 2, 1) := by decide +kernel
theorem dL_law_362 : decode code 362 = .ok (.invokevirtual 75, 3) := by decide +kernel
theorem dL_law_365 : decode code 365 = .ok (.iload 5, 2) := by decide +kernel
theorem dL_law_367 : decode code 367 = .ok (.if_icmp .eq 5, 3) := by decide +kernel
theorem dL_law_370 : decode code 370 = .ok (.iconst 0, 1) := by decide +kernel
theorem dL_law_371 : decode code 371 = .ok (.ireturn, 1) := by decide +kernel
theorem dL_law_372 : decode code 372 = .ok (.iload 5, 2) := by decide +kernel
theorem dL_law_374 : decode code 374 = .ok (.ifCond .ne 15, 3) := by decide +kernel
theorem dL_law_377 : decode code 377 = .ok (.aload_n 3, 1) := by decide +kernel
theorem dL_law_378 : decode code 378 = .ok (.iconst 0, 1) := by decide +kernel
theorem dL_law_379 : decode code 379 = .ok (.laload, 1) := by decide +kernel
theorem dL_law_380 : decode code 380 = .ok (.iload 6, 2) := by decide +kernel
theorem dL_law_382 : decode code 382 = .ok (.i2l, 1) := by decide +kernel
theorem dL_law_383 : decode code 383 = .ok (.lcmp, 1) := by decide +kernel
theorem dL_law_384 : decode code 384 = .ok (.ifCond .eq 5, 3) := by decide +kernel
theorem dL_law_387 : decode code 387 = .ok (.iconst 0, 1) := by decide +kernel
theorem dL_law_388 : decode code 388 = .ok (.ireturn, 1) := by decide +kernel
theorem dL_law_389 : decode code 389 = .ok (.goto 676, 3) := by decide +kernel
theorem dL_law_392 : decode code 392 = .ok (.aload_n 1, 1) := by decide +kernel
theorem dL_law_393 : decode code 393 = .ok (.aload_n 0, 1) := by decide +kernel
theorem dL_law_394 : decode code 394 = .ok (.iload 4, 2) := by decide +kernel
theorem dL_law_396 : decode code 396 = .ok (.iconst 1, 1) := by decide +kernel
theorem dL_law_397 : decode code 397 = .ok (.iadd, 1) := by decide +kernel
theorem dL_law_398 : decode code 398 = .ok (.iaload, 1) := by decide +kernel
theorem dL_law_399 : decode code 399 = .ok (.aload_n 0, 1) := by decide +kernel
theorem dL_law_400 : decode code 400 = .ok (.iload 4, 2) := by decide +kernel
theorem dL_law_402 : decode code 402 = .ok (.iconst 2, 1) := by decide +kernel
theorem dL_law_403 : decode code 403 = .ok (.iadd, 1) := by decide +kernel
theorem dL_law_404 : decode code 404 = .ok (.iaload, 1) := by decide +kernel
theorem dL_law_405 : decode code 405 = .ok (.aload_n 3, 1) := by decide +kernel
theorem dL_law_406 : decode code 406 = .ok (.invokestatic 89, 3) := by decide +kernel
theorem dL_law_409 : decode code 409 = .ok (.istore 5, 2) := by decide +kernel
theorem dL_law_411 : decode code 411 = .ok (.aload_n 2, 1) := by decide +kernel
theorem dL_law_412 : decode code 412 = .ok (.aload_n 0, 1) := by decide +kernel
theorem dL_law_413 : decode code 413 = .ok (.iload 4, 2) := by decide +kernel
theorem dL_law_415 : decode code 415 = .ok (.iconst 1, 1) := by decide +kernel
theorem dL_law_416 : decode code 416 = .ok (.iadd, 1) := by decide +kernel
theorem dL_law_417 : decode code 417 = .ok (.iaload, 1) := by decide +kernel
theorem dL_law_418 : decode code 418 = .ok (.aload_n 0, 1) := by decide +kernel
theorem dL_law_419 : decode code 419 = .ok (.iload 4, 2) := by decide +kernel
theorem dL_law_421 : decode code 421 = .ok (.iconst 2, 1) := by decide +kernel
theorem dL_law_422 : decode code 422 = .ok (.iadd, 1) := by decide +kernel
theorem dL_law_423 : decode code 423 = .ok (.iaload, 1) := by decide +kernel
theorem dL_law_424 : decode code 424 = .ok (.invokevirtual 91, 3) := by decide +kernel
theorem dL_law_427 : decode code 427 = .ok (.istore 6, 2) := by decide +kernel
theorem dL_law_429 : decode code 429 = .ok (.aload_n 2, 1) := by decide +kernel
theorem dL_law_430 : decode code 430 = .ok (.invokevirtual 75, 3) := by decide +kernel
theorem dL_law_433 : decode code 433 = .ok (.iload 5, 2) := by decide +kernel
theorem dL_law_435 : decode code 435 = .ok (.if_icmp .eq 5, 3) := by decide +kernel
theorem dL_law_438 : decode code 438 = .ok (.iconst 0, 1) := by decide +kernel
theorem dL_law_439 : decode code 439 = .ok (.ireturn, 1) := by decide +kernel
theorem dL_law_440 : decode code 440 = .ok (.iload 5, 2) := by decide +kernel
theorem dL_law_442 : decode code 442 = .ok (.ifCond .ne 15, 3) := by decide +kernel
theorem dL_law_445 : decode code 445 = .ok (.aload_n 3, 1) := by decide +kernel
theorem dL_law_446 : decode code 446 = .ok (.iconst 0, 1) := by decide +kernel
theorem dL_law_447 : decode code 447 = .ok (.laload, 1) := by decide +kernel
theorem dL_law_448 : decode code 448 = .ok (.iload 6, 2) := by decide +kernel
theorem dL_law_450 : decode code 450 = .ok (.i2l, 1) := by decide +kernel
theorem dL_law_451 : decode code 451 = .ok (.lcmp, 1) := by decide +kernel
theorem dL_law_452 : decode code 452 = .ok (.ifCond .eq 5, 3) := by decide +kernel
theorem dL_law_455 : decode code 455 = .ok (.iconst 0, 1) := by decide +kernel
theorem dL_law_456 : decode code 456 = .ok (.ireturn, 1) := by decide +kernel
theorem dL_law_457 : decode code 457 = .ok (.goto 608, 3) := by decide +kernel
theorem dL_law_460 : decode code 460 = .ok (.aload_n 1, 1) := by decide +kernel
theorem dL_law_461 : decode code 461 = .ok (.aload_n 0, 1) := by decide +kernel
theorem dL_law_462 : decode code 462 = .ok (.iload 4, 2) := by decide +kernel
theorem dL_law_464 : decode code 464 = .ok (.iconst 1, 1) := by decide +kernel
theorem dL_law_465 : decode code 465 = .ok (.iadd, 1) := by decide +kernel
theorem dL_law_466 : decode code 466 = .ok (.iaload, 1) := by decide +kernel
theorem dL_law_467 : decode code 467 = .ok (.aload_n 0, 1) := by decide +kernel
theorem dL_law_468 : decode code 468 = .ok (.iload 4, 2) := by decide +kernel
theorem dL_law_470 : decode code 470 = .ok (.iconst 2, 1) := by decide +kernel
theorem dL_law_471 : decode code 471 = .ok (.iadd, 1) := by decide +kernel
theorem dL_law_472 : decode code 472 = .ok (.iaload, 1) := by decide +kernel
theorem dL_law_473 : decode code 473 = .ok (.ifCond .eq 7, 3) := by decide +kernel
theorem dL_law_476 : decode code 476 = .ok (.iconst 1, 1) := by decide +kernel
theorem dL_law_477 : decode code 477 = .ok (.goto 4, 3) := by decide +kernel
theorem dL_law_480 : decode code 480 = .ok (.iconst 0, 1) := by decide +kernel
theorem dL_law_481 : decode code 481 = .ok (.invokestatic 92, 3) := by decide +kernel
theorem dL_law_484 : decode code 484 = .ok (.istore 5, 2) := by decide +kernel
theorem dL_law_486 : decode code 486 = .ok (.aload_n 2, 1) := by decide +kernel
theorem dL_law_487 : decode code 487 = .ok (.aload_n 0, 1) := by decide +kernel
theorem dL_law_488 : decode code 488 = .ok (.iload 4, 2) := by decide +kernel
theorem dL_law_490 : decode code 490 = .ok (.iconst 1, 1) := by decide +kernel
theorem dL_law_491 : decode code 491 = .ok (.iadd, 1) := by decide +kernel
theorem dL_law_492 : decode code 492 = .ok (.iaload, 1) := by decide +kernel
theorem dL_law_493 : decode code 493 = .ok (.aload_n 0, 1) := by decide +kernel
theorem dL_law_494 : decode code 494 = .ok (.iload 4, 2) := by decide +kernel
theorem dL_law_496 : decode code 496 = .ok (.iconst 2, 1) := by decide +kernel
theorem dL_law_497 : decode code 497 = .ok (.iadd, 1) := by decide +kernel
theorem dL_law_498 : decode code 498 = .ok (.iaload, 1) := by decide +kernel
theorem dL_law_499 : decode code 499 = .ok (.ifCond .eq 7, 3) := by decide +kernel
theorem dL_law_502 : decode code 502 = .ok (.iconst 1, 1) := by decide +kernel
theorem dL_law_503 : decode code 503 = .ok (.goto 4, 3) := by decide +kernel
theorem dL_law_506 : decode code 506 = .ok (.iconst 0, 1) := by decide +kernel
theorem dL_law_507 : decode code 507 = .ok (.invokevirtual 95, 3) := by decide +kernel
theorem dL_law_510 : decode code 510 = .ok (.aload_n 2, 1) := by decide +kernel
theorem dL_law_511 : decode code 511 = .ok (.invokevirtual 75, 3) := by decide +kernel
theorem dL_law_514 : decode code 514 = .ok (.iload 5, 2) := by decide +kernel
theorem dL_law_516 : decode code 516 = .ok (.if_icmp .eq 5, 3) := by decide +kernel
theorem dL_law_519 : decode code 519 = .ok (.iconst 0, 1) := by decide +kernel
theorem dL_law_520 : decode code 520 = .ok (.ireturn, 1) := by decide +kernel
theorem dL_law_521 : decode code 521 = .ok (.goto 544, 3) := by decide +kernel
theorem dL_law_524 : decode code 524 = .ok (.aload_n 1, 1) := by decide +kernel
theorem dL_law_525 : decode code 525 = .ok (.aload_n 0, 1) := by decide +kernel
theorem dL_law_526 : decode code 526 = .ok (.iload 4, 2) := by decide +kernel
theorem dL_law_528 : decode code 528 = .ok (.iconst 1, 1) := by decide +kernel
theorem dL_law_529 : decode code 529 = .ok (.iadd, 1) := by decide +kernel
theorem dL_law_530 : decode code 530 = .ok (.iaload, 1) := by decide +kernel
theorem dL_law_531 : decode code 531 = .ok (.aload_n 3, 1) := by decide +kernel
theorem dL_law_532 : decode code 532 = .ok (.invokestatic 96, 3) := by decide +kernel
theorem dL_law_535 : decode code 535 = .ok (.istore 5, 2) := by decide +kernel
theorem dL_law_537 : decode code 537 = .ok (.aload_n 2, 1) := by decide +kernel
theorem dL_law_538 : decode code 538 = .ok (.aload_n 0, 1) := by decide +kernel
theorem dL_law_539 : decode code 539 = .ok (.iload 4, 2) := by decide +kernel
theorem dL_law_541 : decode code 541 = .ok (.iconst 1, 1) := by decide +kernel
theorem dL_law_542 : decode code 542 = .ok (.iadd, 1) := by decide +kernel
theorem dL_law_543 : decode code 543 = .ok (.iaload, 1) := by decide +kernel
theorem dL_law_544 : decode code 544 = .ok (.invokevirtual 99, 3) := by decide +kernel
theorem dL_law_547 : decode code 547 = .ok (.istore 6, 2) := by decide +kernel
theorem dL_law_549 : decode code 549 = .ok (.aload_n 2, 1) := by decide +kernel
theorem dL_law_550 : decode code 550 = .ok (.invokevirtual 75, 3) := by decide +kernel
theorem dL_law_553 : decode code 553 = .ok (.iload 5, 2) := by decide +kernel
theorem dL_law_555 : decode code 555 = .ok (.if_icmp .eq 5, 3) := by decide +kernel
theorem dL_law_558 : decode code 558 = .ok (.iconst 0, 1) := by decide +kernel
theorem dL_law_559 : decode code 559 = .ok (.ireturn, 1) := by decide +kernel
theorem dL_law_560 : decode code 560 = .ok (.iload 5, 2) := by decide +kernel
theorem dL_law_562 : decode code 562 = .ok (.ifCond .ne 15, 3) := by decide +kernel
theorem dL_law_565 : decode code 565 = .ok (.aload_n 3, 1) := by decide +kernel
theorem dL_law_566 : decode code 566 = .ok (.iconst 0, 1) := by decide +kernel
theorem dL_law_567 : decode code 567 = .ok (.laload, 1) := by decide +kernel
theorem dL_law_568 : decode code 568 = .ok (.iload 6, 2) := by decide +kernel
theorem dL_law_570 : decode code 570 = .ok (.i2l, 1) := by decide +kernel
theorem dL_law_571 : decode code 571 = .ok (.lcmp, 1) := by decide +kernel
theorem dL_law_572 : decode code 572 = .ok (.ifCond .eq 5, 3) := by decide +kernel
theorem dL_law_575 : decode code 575 = .ok (.iconst 0, 1) := by decide +kernel
theorem dL_law_576 : decode code 576 = .ok (.ireturn, 1) := by decide +kernel
theorem dL_law_577 : decode code 577 = .ok (.goto 488, 3) := by decide +kernel
theorem dL_law_580 : decode code 580 = .ok (.aload_n 1, 1) := by decide +kernel
theorem dL_law_581 : decode code 581 = .ok (.aload_n 0, 1) := by decide +kernel
theorem dL_law_582 : decode code 582 = .ok (.iload 4, 2) := by decide +kernel
theorem dL_law_584 : decode code 584 = .ok (.iconst 1, 1) := by decide +kernel
theorem dL_law_585 : decode code 585 = .ok (.iadd, 1) := by decide +kernel
theorem dL_law_586 : decode code 586 = .ok (.iaload, 1) := by decide +kernel
theorem dL_law_587 : decode code 587 = .ok (.aload_n 0, 1) := by decide +kernel
theorem dL_law_588 : decode code 588 = .ok (.iload 4, 2) := by decide +kernel
theorem dL_law_590 : decode code 590 = .ok (.iconst 2, 1) := by decide +kernel
theorem dL_law_591 : decode code 591 = .ok (.iadd, 1) := by decide +kernel
theorem dL_law_592 : decode code 592 = .ok (.iaload, 1) := by decide +kernel
theorem dL_law_593 : decode code 593 = .ok (.aload_n 3, 1) := by decide +kernel
theorem dL_law_594 : decode code 594 = .ok (.invokestatic 100, 3) := by decide +kernel
theorem dL_law_597 : decode code 597 = .ok (.istore 5, 2) := by decide +kernel
theorem dL_law_599 : decode code 599 = .ok (.aload_n 2, 1) := by decide +kernel
theorem dL_law_600 : decode code 600 = .ok (.aload_n 0, 1) := by decide +kernel
theorem dL_law_601 : decode code 601 = .ok (.iload 4, 2) := by decide +kernel
theorem dL_law_603 : decode code 603 = .ok (.iconst 1, 1) := by decide +kernel
theorem dL_law_604 : decode code 604 = .ok (.iadd, 1) := by decide +kernel
theorem dL_law_605 : decode code 605 = .ok (.iaload, 1) := by decide +kernel
theorem dL_law_606 : decode code 606 = .ok (.aload_n 0, 1) := by decide +kernel
theorem dL_law_607 : decode code 607 = .ok (.iload 4, 2) := by decide +kernel
theorem dL_law_609 : decode code 609 = .ok (.iconst 2, 1) := by decide +kernel
theorem dL_law_610 : decode code 610 = .ok (.iadd, 1) := by decide +kernel
theorem dL_law_611 : decode code 611 = .ok (.iaload, 1) := by decide +kernel
theorem dL_law_612 : decode code 612 = .ok (.invokevirtual 102, 3) := by decide +kernel
theorem dL_law_615 : decode code 615 = .ok (.istore 6, 2) := by decide +kernel
theorem dL_law_617 : decode code 617 = .ok (.aload_n 2, 1) := by decide +kernel
theorem dL_law_618 : decode code 618 = .ok (.invokevirtual 75, 3) := by decide +kernel
theorem dL_law_621 : decode code 621 = .ok (.iload 5, 2) := by decide +kernel
theorem dL_law_623 : decode code 623 = .ok (.if_icmp .eq 5, 3) := by decide +kernel
theorem dL_law_626 : decode code 626 = .ok (.iconst 0, 1) := by decide +kernel
theorem dL_law_627 : decode code 627 = .ok (.ireturn, 1) := by decide +kernel
theorem dL_law_628 : decode code 628 = .ok (.iload 5, 2) := by decide +kernel
theorem dL_law_630 : decode code 630 = .ok (.ifCond .ne 15, 3) := by decide +kernel
theorem dL_law_633 : decode code 633 = .ok (.aload_n 3, 1) := by decide +kernel
theorem dL_law_634 : decode code 634 = .ok (.iconst 0, 1) := by decide +kernel
theorem dL_law_635 : decode code 635 = .ok (.laload, 1) := by decide +kernel
theorem dL_law_636 : decode code 636 = .ok (.iload 6, 2) := by decide +kernel
theorem dL_law_638 : decode code 638 = .ok (.i2l, 1) := by decide +kernel
theorem dL_law_639 : decode code 639 = .ok (.lcmp, 1) := by decide +kernel
theorem dL_law_640 : decode code 640 = .ok (.ifCond .eq 5, 3) := by decide +kernel
theorem dL_law_643 : decode code 643 = .ok (.iconst 0, 1) := by decide +kernel
theorem dL_law_644 : decode code 644 = .ok (.ireturn, 1) := by decide +kernel
theorem dL_law_645 : decode code 645 = .ok (.goto 420, 3) := by decide +kernel
theorem dL_law_648 : decode code 648 = .ok (.aload_n 1, 1) := by decide +kernel
theorem dL_law_649 : decode code 649 = .ok (.aload_n 0, 1) := by decide +kernel
theorem dL_law_650 : decode code 650 = .ok (.iload 4, 2) := by decide +kernel
theorem dL_law_652 : decode code 652 = .ok (.iconst 1, 1) := by decide +kernel
theorem dL_law_653 : decode code 653 = .ok (.iadd, 1) := by decide +kernel
theorem dL_law_654 : decode code 654 = .ok (.iaload, 1) := by decide +kernel
theorem dL_law_655 : decode code 655 = .ok (.aload_n 0, 1) := by decide +kernel
theorem dL_law_656 : decode code 656 = .ok (.iload 4, 2) := by decide +kernel
theorem dL_law_658 : decode code 658 = .ok (.iconst 2, 1) := by decide +kernel
theorem dL_law_659 : decode code 659 = .ok (.iadd, 1) := by decide +kernel
theorem dL_law_660 : decode code 660 = .ok (.iaload, 1) := by decide +kernel
theorem dL_law_661 : decode code 661 = .ok (.aload_n 3, 1) := by decide +kernel
theorem dL_law_662 : decode code 662 = .ok (.invokestatic 103, 3) := by decide +kernel
theorem dL_law_665 : decode code 665 = .ok (.istore 5, 2) := by decide +kernel
theorem dL_law_667 : decode code 667 = .ok (.aload_n 2, 1) := by decide +kernel
theorem dL_law_668 : decode code 668 = .ok (.aload_n 0, 1) := by decide +kernel
theorem dL_law_669 : decode code 669 = .ok (.iload 4, 2) := by decide +kernel
theorem dL_law_671 : decode code 671 = .ok (.iconst 1, 1) := by decide +kernel
theorem dL_law_672 : decode code 672 = .ok (.iadd, 1) := by decide +kernel
theorem dL_law_673 : decode code 673 = .ok (.iaload, 1) := by decide +kernel
theorem dL_law_674 : decode code 674 = .ok (.aload_n 0, 1) := by decide +kernel
theorem dL_law_675 : decode code 675 = .ok (.iload 4, 2) := by decide +kernel
theorem dL_law_677 : decode code 677 = .ok (.iconst 2, 1) := by decide +kernel
theorem dL_law_678 : decode code 678 = .ok (.iadd, 1) := by decide +kernel
theorem dL_law_679 : decode code 679 = .ok (.iaload, 1) := by decide +kernel
theorem dL_law_680 : decode code 680 = .ok (.invokevirtual 105, 3) := by decide +kernel
theorem dL_law_683 : decode code 683 = .ok (.istore 6, 2) := by decide +kernel
theorem dL_law_685 : decode code 685 = .ok (.aload_n 2, 1) := by decide +kernel
theorem dL_law_686 : decode code 686 = .ok (.invokevirtual 75, 3) := by decide +kernel
theorem dL_law_689 : decode code 689 = .ok (.iload 5, 2) := by decide +kernel
theorem dL_law_691 : decode code 691 = .ok (.if_icmp .eq 5, 3) := by decide +kernel
theorem dL_law_694 : decode code 694 = .ok (.iconst 0, 1) := by decide +kernel
theorem dL_law_695 : decode code 695 = .ok (.ireturn, 1) := by decide +kernel
theorem dL_law_696 : decode code 696 = .ok (.iload 5, 2) := by decide +kernel
theorem dL_law_698 : decode code 698 = .ok (.ifCond .ne 15, 3) := by decide +kernel
theorem dL_law_701 : decode code 701 = .ok (.aload_n 3, 1) := by decide +kernel
theorem dL_law_702 : decode code 702 = .ok (.iconst 0, 1) := by decide +kernel
theorem dL_law_703 : decode code 703 = .ok (.laload, 1) := by decide +kernel
theorem dL_law_704 : decode code 704 = .ok (.iload 6, 2) := by decide +kernel
theorem dL_law_706 : decode code 706 = .ok (.i2l, 1) := by decide +kernel
theorem dL_law_707 : decode code 707 = .ok (.lcmp, 1) := by decide +kernel
theorem dL_law_708 : decode code 708 = .ok (.ifCond .eq 5, 3) := by decide +kernel
theorem dL_law_711 : decode code 711 = .ok (.iconst 0, 1) := by decide +kernel
theorem dL_law_712 : decode code 712 = .ok (.ireturn, 1) := by decide +kernel
theorem dL_law_713 : decode code 713 = .ok (.goto 352, 3) := by decide +kernel
theorem dL_law_716 : decode code 716 = .ok (.aload_n 1, 1) := by decide +kernel
theorem dL_law_717 : decode code 717 = .ok (.aload_n 0, 1) := by decide +kernel
theorem dL_law_718 : decode code 718 = .ok (.iload 4, 2) := by decide +kernel
theorem dL_law_720 : decode code 720 = .ok (.iconst 1, 1) := by decide +kernel
theorem dL_law_721 : decode code 721 = .ok (.iadd, 1) := by decide +kernel
theorem dL_law_722 : decode code 722 = .ok (.iaload, 1) := by decide +kernel
theorem dL_law_723 : decode code 723 = .ok (.aload_n 0, 1) := by decide +kernel
theorem dL_law_724 : decode code 724 = .ok (.iload 4, 2) := by decide +kernel
theorem dL_law_726 : decode code 726 = .ok (.iconst 2, 1) := by decide +kernel
theorem dL_law_727 : decode code 727 = .ok (.iadd, 1) := by decide +kernel
theorem dL_law_728 : decode code 728 = .ok (.iaload, 1) := by decide +kernel
theorem dL_law_729 : decode code 729 = .ok (.aload_n 0, 1) := by decide +kernel
theorem dL_law_730 : decode code 730 = .ok (.iload 4, 2) := by decide +kernel
theorem dL_law_732 : decode code 732 = .ok (.iconst 3, 1) := by decide +kernel
theorem dL_law_733 : decode code 733 = .ok (.iadd, 1) := by decide +kernel
theorem dL_law_734 : decode code 734 = .ok (.iaload, 1) := by decide +kernel
theorem dL_law_735 : decode code 735 = .ok (.aload_n 3, 1) := by decide +kernel
theorem dL_law_736 : decode code 736 = .ok (.invokestatic 106, 3) := by decide +kernel
theorem dL_law_739 : decode code 739 = .ok (.istore 5, 2) := by decide +kernel
theorem dL_law_741 : decode code 741 = .ok (.aload_n 2, 1) := by decide +kernel
theorem dL_law_742 : decode code 742 = .ok (.aload_n 0, 1) := by decide +kernel
theorem dL_law_743 : decode code 743 = .ok (.iload 4, 2) := by decide +kernel
theorem dL_law_745 : decode code 745 = .ok (.iconst 1, 1) := by decide +kernel
theorem dL_law_746 : decode code 746 = .ok (.iadd, 1) := by decide +kernel
theorem dL_law_747 : decode code 747 = .ok (.iaload, 1) := by decide +kernel
theorem dL_law_748 : decode code 748 = .ok (.aload_n 0, 1) := by decide +kernel
theorem dL_law_749 : decode code 749 = .ok (.iload 4, 2) := by decide +kernel
theorem dL_law_751 : decode code 751 = .ok (.iconst 2, 1) := by decide +kernel
theorem dL_law_752 : decode code 752 = .ok (.iadd, 1) := by decide +kernel
theorem dL_law_753 : decode code 753 = .ok (.iaload, 1) := by decide +kernel
theorem dL_law_754 : decode code 754 = .ok (.aload_n 0, 1) := by decide +kernel
theorem dL_law_755 : decode code 755 = .ok (.iload 4, 2) := by decide +kernel
theorem dL_law_757 : decode code 757 = .ok (.iconst 3, 1) := by decide +kernel
theorem dL_law_758 : decode code 758 = .ok (.iadd, 1) := by decide +kernel
theorem dL_law_759 : decode code 759 = .ok (.iaload, 1) := by decide +kernel
theorem dL_law_760 : decode code 760 = .ok (.invokevirtual 108, 3) := by decide +kernel
theorem dL_law_763 : decode code 763 = .ok (.lstore 6, 2) := by decide +kernel
theorem dL_law_765 : decode code 765 = .ok (.aload_n 2, 1) := by decide +kernel
theorem dL_law_766 : decode code 766 = .ok (.invokevirtual 75, 3) := by decide +kernel
theorem dL_law_769 : decode code 769 = .ok (.iload 5, 2) := by decide +kernel
theorem dL_law_771 : decode code 771 = .ok (.if_icmp .eq 5, 3) := by decide +kernel
theorem dL_law_774 : decode code 774 = .ok (.iconst 0, 1) := by decide +kernel
theorem dL_law_775 : decode code 775 = .ok (.ireturn, 1) := by decide +kernel
theorem dL_law_776 : decode code 776 = .ok (.iload 5, 2) := by decide +kernel
theorem dL_law_778 : decode code 778 = .ok (.ifCond .ne 14, 3) := by decide +kernel
theorem dL_law_781 : decode code 781 = .ok (.aload_n 3, 1) := by decide +kernel
theorem dL_law_782 : decode code 782 = .ok (.iconst 0, 1) := by decide +kernel
theorem dL_law_783 : decode code 783 = .ok (.laload, 1) := by decide +kernel
theorem dL_law_784 : decode code 784 = .ok (.lload 6, 2) := by decide +kernel
theorem dL_law_786 : decode code 786 = .ok (.lcmp, 1) := by decide +kernel
theorem dL_law_787 : decode code 787 = .ok (.ifCond .eq 5, 3) := by decide +kernel
theorem dL_law_790 : decode code 790 = .ok (.iconst 0, 1) := by decide +kernel
theorem dL_law_791 : decode code 791 = .ok (.ireturn, 1) := by decide +kernel
theorem dL_law_792 : decode code 792 = .ok (.goto 273, 3) := by decide +kernel
theorem dL_law_795 : decode code 795 = .ok (.aload_n 1, 1) := by decide +kernel
theorem dL_law_796 : decode code 796 = .ok (.aload_n 0, 1) := by decide +kernel
theorem dL_law_797 : decode code 797 = .ok (.iload 4, 2) := by decide +kernel
theorem dL_law_799 : decode code 799 = .ok (.iconst 1, 1) := by decide +kernel
theorem dL_law_800 : decode code 800 = .ok (.iadd, 1) := by decide +kernel
theorem dL_law_801 : decode code 801 = .ok (.iaload, 1) := by decide +kernel
theorem dL_law_802 : decode code 802 = .ok (.aload_n 0, 1) := by decide +kernel
theorem dL_law_803 : decode code 803 = .ok (.iload 4, 2) := by decide +kernel
theorem dL_law_805 : decode code 805 = .ok (.iconst 2, 1) := by decide +kernel
theorem dL_law_806 : decode code 806 = .ok (.iadd, 1) := by decide +kernel
theorem dL_law_807 : decode code 807 = .ok (.iaload, 1) := by decide +kernel
theorem dL_law_808 : decode code 808 = .ok (.aload_n 3, 1) := by decide +kernel
theorem dL_law_809 : decode code 809 = .ok (.invokestatic 109, 3) := by decide +kernel
theorem dL_law_812 : decode code 812 = .ok (.istore 5, 2) := by decide +kernel
theorem dL_law_814 : decode code 814 = .ok (.aload_n 2, 1) := by decide +kernel
theorem dL_law_815 : decode code 815 = .ok (.aload_n 0, 1) := by decide +kernel
theorem dL_law_816 : decode code 816 = .ok (.iload 4, 2) := by decide +kernel
theorem dL_law_818 : decode code 818 = .ok (.iconst 1, 1) := by decide +kernel
theorem dL_law_819 : decode code 819 = .ok (.iadd, 1) := by decide +kernel
theorem dL_law_820 : decode code 820 = .ok (.iaload, 1) := by decide +kernel
theorem dL_law_821 : decode code 821 = .ok (.aload_n 0, 1) := by decide +kernel
theorem dL_law_822 : decode code 822 = .ok (.iload 4, 2) := by decide +kernel
theorem dL_law_824 : decode code 824 = .ok (.iconst 2, 1) := by decide +kernel
theorem dL_law_825 : decode code 825 = .ok (.iadd, 1) := by decide +kernel
theorem dL_law_826 : decode code 826 = .ok (.iaload, 1) := by decide +kernel
theorem dL_law_827 : decode code 827 = .ok (.invokevirtual 111, 3) := by decide +kernel
theorem dL_law_830 : decode code 830 = .ok (.istore 6, 2) := by decide +kernel
theorem dL_law_832 : decode code 832 = .ok (.aload_n 2, 1) := by decide +kernel
theorem dL_law_833 : decode code 833 = .ok (.invokevirtual 75, 3) := by decide +kernel
theorem dL_law_836 : decode code 836 = .ok (.iload 5, 2) := by decide +kernel
theorem dL_law_838 : decode code 838 = .ok (.if_icmp .eq 5, 3) := by decide +kernel
theorem dL_law_841 : decode code 841 = .ok (.iconst 0, 1) := by decide +kernel
theorem dL_law_842 : decode code 842 = .ok (.ireturn, 1) := by decide +kernel
theorem dL_law_843 : decode code 843 = .ok (.iload 5, 2) := by decide +kernel
theorem dL_law_845 : decode code 845 = .ok (.ifCond .ne 15, 3) := by decide +kernel
theorem dL_law_848 : decode code 848 = .ok (.aload_n 3, 1) := by decide +kernel
theorem dL_law_849 : decode code 849 = .ok (.iconst 0, 1) := by decide +kernel
theorem dL_law_850 : decode code 850 = .ok (.laload, 1) := by decide +kernel
theorem dL_law_851 : decode code 851 = .ok (.iload 6, 2) := by decide +kernel
theorem dL_law_853 : decode code 853 = .ok (.i2l, 1) := by decide +kernel
theorem dL_law_854 : decode code 854 = .ok (.lcmp, 1) := by decide +kernel
theorem dL_law_855 : decode code 855 = .ok (.ifCond .eq 5, 3) := by decide +kernel
theorem dL_law_858 : decode code 858 = .ok (.iconst 0, 1) := by decide +kernel
theorem dL_law_859 : decode code 859 = .ok (.ireturn, 1) := by decide +kernel
theorem dL_law_860 : decode code 860 = .ok (.goto 205, 3) := by decide +kernel
theorem dL_law_863 : decode code 863 = .ok (.aload_n 1, 1) := by decide +kernel
theorem dL_law_864 : decode code 864 = .ok (.aload_n 0, 1) := by decide +kernel
theorem dL_law_865 : decode code 865 = .ok (.iload 4, 2) := by decide +kernel
theorem dL_law_867 : decode code 867 = .ok (.iconst 1, 1) := by decide +kernel
theorem dL_law_868 : decode code 868 = .ok (.iadd, 1) := by decide +kernel
theorem dL_law_869 : decode code 869 = .ok (.iaload, 1) := by decide +kernel
theorem dL_law_870 : decode code 870 = .ok (.aload_n 0, 1) := by decide +kernel
theorem dL_law_871 : decode code 871 = .ok (.iload 4, 2) := by decide +kernel
theorem dL_law_873 : decode code 873 = .ok (.iconst 2, 1) := by decide +kernel
theorem dL_law_874 : decode code 874 = .ok (.iadd, 1) := by decide +kernel
theorem dL_law_875 : decode code 875 = .ok (.iaload, 1) := by decide +kernel
theorem dL_law_876 : decode code 876 = .ok (.aload_n 0, 1) := by decide +kernel
theorem dL_law_877 : decode code 877 = .ok (.iload 4, 2) := by decide +kernel
theorem dL_law_879 : decode code 879 = .ok (.iconst 3, 1) := by decide +kernel
theorem dL_law_880 : decode code 880 = .ok (.iadd, 1) := by decide +kernel
theorem dL_law_881 : decode code 881 = .ok (.iaload, 1) := by decide +kernel
theorem dL_law_882 : decode code 882 = .ok (.aload_n 3, 1) := by decide +kernel
theorem dL_law_883 : decode code 883 = .ok (.invokestatic 112, 3) := by decide +kernel
theorem dL_law_886 : decode code 886 = .ok (.istore 5, 2) := by decide +kernel
theorem dL_law_888 : decode code 888 = .ok (.aload_n 2, 1) := by decide +kernel
theorem dL_law_889 : decode code 889 = .ok (.aload_n 0, 1) := by decide +kernel
theorem dL_law_890 : decode code 890 = .ok (.iload 4, 2) := by decide +kernel
theorem dL_law_892 : decode code 892 = .ok (.iconst 1, 1) := by decide +kernel
theorem dL_law_893 : decode code 893 = .ok (.iadd, 1) := by decide +kernel
theorem dL_law_894 : decode code 894 = .ok (.iaload, 1) := by decide +kernel
theorem dL_law_895 : decode code 895 = .ok (.aload_n 0, 1) := by decide +kernel
theorem dL_law_896 : decode code 896 = .ok (.iload 4, 2) := by decide +kernel
theorem dL_law_898 : decode code 898 = .ok (.iconst 2, 1) := by decide +kernel
theorem dL_law_899 : decode code 899 = .ok (.iadd, 1) := by decide +kernel
theorem dL_law_900 : decode code 900 = .ok (.iaload, 1) := by decide +kernel
theorem dL_law_901 : decode code 901 = .ok (.aload_n 0, 1) := by decide +kernel
theorem dL_law_902 : decode code 902 = .ok (.iload 4, 2) := by decide +kernel
theorem dL_law_904 : decode code 904 = .ok (.iconst 3, 1) := by decide +kernel
theorem dL_law_905 : decode code 905 = .ok (.iadd, 1) := by decide +kernel
theorem dL_law_906 : decode code 906 = .ok (.iaload, 1) := by decide +kernel
theorem dL_law_907 : decode code 907 = .ok (.invokevirtual 114, 3) := by decide +kernel
theorem dL_law_910 : decode code 910 = .ok (.lstore 6, 2) := by decide +kernel
theorem dL_law_912 : decode code 912 = .ok (.aload_n 2, 1) := by decide +kernel
theorem dL_law_913 : decode code 913 = .ok (.invokevirtual 75, 3) := by decide +kernel
theorem dL_law_916 : decode code 916 = .ok (.iload 5, 2) := by decide +kernel
theorem dL_law_918 : decode code 918 = .ok (.if_icmp .eq 5, 3) := by decide +kernel
theorem dL_law_921 : decode code 921 = .ok (.iconst 0, 1) := by decide +kernel
theorem dL_law_922 : decode code 922 = .ok (.ireturn, 1) := by decide +kernel
theorem dL_law_923 : decode code 923 = .ok (.iload 5, 2) := by decide +kernel
theorem dL_law_925 : decode code 925 = .ok (.ifCond .ne 14, 3) := by decide +kernel
theorem dL_law_928 : decode code 928 = .ok (.aload_n 3, 1) := by decide +kernel
theorem dL_law_929 : decode code 929 = .ok (.iconst 0, 1) := by decide +kernel
theorem dL_law_930 : decode code 930 = .ok (.laload, 1) := by decide +kernel
theorem dL_law_931 : decode code 931 = .ok (.lload 6, 2) := by decide +kernel
theorem dL_law_933 : decode code 933 = .ok (.lcmp, 1) := by decide +kernel
theorem dL_law_934 : decode code 934 = .ok (.ifCond .eq 5, 3) := by decide +kernel
theorem dL_law_937 : decode code 937 = .ok (.iconst 0, 1) := by decide +kernel
theorem dL_law_938 : decode code 938 = .ok (.ireturn, 1) := by decide +kernel
theorem dL_law_939 : decode code 939 = .ok (.goto 126, 3) := by decide +kernel
theorem dL_law_942 : decode code 942 = .ok (.aload_n 1, 1) := by decide +kernel
theorem dL_law_943 : decode code 943 = .ok (.aload_n 0, 1) := by decide +kernel
theorem dL_law_944 : decode code 944 = .ok (.iload 4, 2) := by decide +kernel
theorem dL_law_946 : decode code 946 = .ok (.iconst 1, 1) := by decide +kernel
theorem dL_law_947 : decode code 947 = .ok (.iadd, 1) := by decide +kernel
theorem dL_law_948 : decode code 948 = .ok (.iaload, 1) := by decide +kernel
theorem dL_law_949 : decode code 949 = .ok (.aload_n 0, 1) := by decide +kernel
theorem dL_law_950 : decode code 950 = .ok (.iload 4, 2) := by decide +kernel
theorem dL_law_952 : decode code 952 = .ok (.iconst 2, 1) := by decide +kernel
theorem dL_law_953 : decode code 953 = .ok (.iadd, 1) := by decide +kernel
theorem dL_law_954 : decode code 954 = .ok (.iaload, 1) := by decide +kernel
theorem dL_law_955 : decode code 955 = .ok (.aload_n 3, 1) := by decide +kernel
theorem dL_law_956 : decode code 956 = .ok (.invokestatic 115, 3) := by decide +kernel
theorem dL_law_959 : decode code 959 = .ok (.istore 5, 2) := by decide +kernel
theorem dL_law_961 : decode code 961 = .ok (.aload_n 2, 1) := by decide +kernel
theorem dL_law_962 : decode code 962 = .ok (.aload_n 0, 1) := by decide +kernel
theorem dL_law_963 : decode code 963 = .ok (.iload 4, 2) := by decide +kernel
theorem dL_law_965 : decode code 965 = .ok (.iconst 1, 1) := by decide +kernel
theorem dL_law_966 : decode code 966 = .ok (.iadd, 1) := by decide +kernel
theorem dL_law_967 : decode code 967 = .ok (.iaload, 1) := by decide +kernel
theorem dL_law_968 : decode code 968 = .ok (.aload_n 0, 1) := by decide +kernel
theorem dL_law_969 : decode code 969 = .ok (.iload 4, 2) := by decide +kernel
theorem dL_law_971 : decode code 971 = .ok (.iconst 2, 1) := by decide +kernel
theorem dL_law_972 : decode code 972 = .ok (.iadd, 1) := by decide +kernel
theorem dL_law_973 : decode code 973 = .ok (.iaload, 1) := by decide +kernel
theorem dL_law_974 : decode code 974 = .ok (.invokevirtual 117, 3) := by decide +kernel
theorem dL_law_977 : decode code 977 = .ok (.istore 6, 2) := by decide +kernel
theorem dL_law_979 : decode code 979 = .ok (.aload_n 2, 1) := by decide +kernel
theorem dL_law_980 : decode code 980 = .ok (.invokevirtual 75, 3) := by decide +kernel
theorem dL_law_983 : decode code 983 = .ok (.iload 5, 2) := by decide +kernel
theorem dL_law_985 : decode code 985 = .ok (.if_icmp .eq 5, 3) := by decide +kernel
theorem dL_law_988 : decode code 988 = .ok (.iconst 0, 1) := by decide +kernel
theorem dL_law_989 : decode code 989 = .ok (.ireturn, 1) := by decide +kernel
theorem dL_law_990 : decode code 990 = .ok (.iload 5, 2) := by decide +kernel
theorem dL_law_992 : decode code 992 = .ok (.ifCond .ne 15, 3) := by decide +kernel
theorem dL_law_995 : decode code 995 = .ok (.aload_n 3, 1) := by decide +kernel
theorem dL_law_996 : decode code 996 = .ok (.iconst 0, 1) := by decide +kernel
theorem dL_law_997 : decode code 997 = .ok (.laload, 1) := by decide +kernel
theorem dL_law_998 : decode code 998 = .ok (.iload 6, 2) := by decide +kernel
theorem dL_law_1000 : decode code 1000 = .ok (.i2l, 1) := by decide +kernel
theorem dL_law_1001 : decode code 1001 = .ok (.lcmp, 1) := by decide +kernel
theorem dL_law_1002 : decode code 1002 = .ok (.ifCond .eq 5, 3) := by decide +kernel
theorem dL_law_1005 : decode code 1005 = .ok (.iconst 0, 1) := by decide +kernel
theorem dL_law_1006 : decode code 1006 = .ok (.ireturn, 1) := by decide +kernel
theorem dL_law_1007 : decode code 1007 = .ok (.goto 58, 3) := by decide +kernel
theorem dL_law_1010 : decode code 1010 = .ok (.aload_n 1, 1) := by decide +kernel
theorem dL_law_1011 : decode code 1011 = .ok (.aload_n 0, 1) := by decide +kernel
theorem dL_law_1012 : decode code 1012 = .ok (.iload 4, 2) := by decide +kernel
theorem dL_law_1014 : decode code 1014 = .ok (.iconst 1, 1) := by decide +kernel
theorem dL_law_1015 : decode code 1015 = .ok (.iadd, 1) := by decide +kernel
theorem dL_law_1016 : decode code 1016 = .ok (.iaload, 1) := by decide +kernel
theorem dL_law_1017 : decode code 1017 = .ok (.aload_n 3, 1) := by decide +kernel
theorem dL_law_1018 : decode code 1018 = .ok (.invokestatic 118, 3) := by decide +kernel
theorem dL_law_1021 : decode code 1021 = .ok (.istore 5, 2) := by decide +kernel
theorem dL_law_1023 : decode code 1023 = .ok (.aload_n 2, 1) := by decide +kernel
theorem dL_law_1024 : decode code 1024 = .ok (.aload_n 0, 1) := by decide +kernel
theorem dL_law_1025 : decode code 1025 = .ok (.iload 4, 2) := by decide +kernel
theorem dL_law_1027 : decode code 1027 = .ok (.iconst 1, 1) := by decide +kernel
theorem dL_law_1028 : decode code 1028 = .ok (.iadd, 1) := by decide +kernel
theorem dL_law_1029 : decode code 1029 = .ok (.iaload, 1) := by decide +kernel
theorem dL_law_1030 : decode code 1030 = .ok (.invokevirtual 120, 3) := by decide +kernel
theorem dL_law_1033 : decode code 1033 = .ok (.lstore 6, 2) := by decide +kernel
theorem dL_law_1035 : decode code 1035 = .ok (.aload_n 2, 1) := by decide +kernel
theorem dL_law_1036 : decode code 1036 = .ok (.invokevirtual 75, 3) := by decide +kernel
theorem dL_law_1039 : decode code 1039 = .ok (.iload 5, 2) := by decide +kernel
theorem dL_law_1041 : decode code 1041 = .ok (.if_icmp .eq 5, 3) := by decide +kernel
theorem dL_law_1044 : decode code 1044 = .ok (.iconst 0, 1) := by decide +kernel
theorem dL_law_1045 : decode code 1045 = .ok (.ireturn, 1) := by decide +kernel
theorem dL_law_1046 : decode code 1046 = .ok (.iload 5, 2) := by decide +kernel
theorem dL_law_1048 : decode code 1048 = .ok (.ifCond .ne 14, 3) := by decide +kernel
theorem dL_law_1051 : decode code 1051 = .ok (.aload_n 3, 1) := by decide +kernel
theorem dL_law_1052 : decode code 1052 = .ok (.iconst 0, 1) := by decide +kernel
theorem dL_law_1053 : decode code 1053 = .ok (.laload, 1) := by decide +kernel
theorem dL_law_1054 : decode code 1054 = .ok (.lload 6, 2) := by decide +kernel
theorem dL_law_1056 : decode code 1056 = .ok (.lcmp, 1) := by decide +kernel
theorem dL_law_1057 : decode code 1057 = .ok (.ifCond .eq 5, 3) := by decide +kernel
theorem dL_law_1060 : decode code 1060 = .ok (.iconst 0, 1) := by decide +kernel
theorem dL_law_1061 : decode code 1061 = .ok (.ireturn, 1) := by decide +kernel
theorem dL_law_1062 : decode code 1062 = .ok (.goto 3, 3) := by decide +kernel
theorem dL_law_1065 : decode code 1065 = .ok (.iinc 4 4, 3) := by decide +kernel
theorem dL_law_1068 : decode code 1068 = .ok (.goto (-1045), 3) := by decide +kernel
theorem dL_law_1071 : decode code 1071 = .ok (.iconst 1, 1) := by decide +kernel
theorem dL_law_1072 : decode code 1072 = .ok (.ireturn, 1) := by decide +kernel
end
section
/-! BASE: contracts over a world (a list of cells that a function gives of a state), calls over it, returns, throws. -/
section GBASE
theorem g_fm {α : Type} {f : Nat → Option α} : ∀ {l : List Nat} {w : List α}, l.map f = w.map some → l.filterMap f = w
  | [], [], _ => rfl
  | [], _ :: _, h => by cases h
  | _ :: _, [], h => by cases h
  | i :: l, x :: w, h => by
    have h1 : f i = some x := (List.cons.inj h).1
    have h2 : l.map f = w.map some := (List.cons.inj h).2
    rw [List.filterMap_cons_some h1, g_fm h2]
theorem g_nd : ∀ l : List Nat, l.Nodup → va_nd l = true
  | [], _ => rfl
  | a :: l, h => by
    have h1 := List.nodup_cons.mp h
    simp only [va_nd, g_nd l h1.2, Bool.and_true, decide_eq_true_eq]
    exact h1.1
theorem g_ndm (n k : Nat) : va_nd ((List.range n).map (fun i => k + i)) = true :=
  g_nd _ (List.pairwise_map.mpr (List.Pairwise.imp (fun h h2 => h (by omega)) List.nodup_range))
theorem g_rangeL {α : Type} (w1 w2 : List α) : (List.range w1.length).map (fun i => (w1 ++ w2)[i]?) = w1.map some := by
  apply List.ext_getElem?
  intro i
  rw [List.getElem?_map, List.getElem?_map]
  rcases Nat.lt_or_ge i w1.length with h | h
  · rw [List.getElem?_range h, List.getElem?_eq_getElem h]
    show some ((w1 ++ w2)[i]?) = _
    rw [List.getElem?_append_left h, List.getElem?_eq_getElem h]
    rfl
  · rw [List.getElem?_eq_none (by simpa using h), List.getElem?_eq_none h]
    rfl
theorem g_rangeR {α : Type} (w1 w2 : List α) : ((List.range w2.length).map (fun i => w1.length + i)).map (fun i => (w1 ++ w2)[i]?) = w2.map some := by
  apply List.ext_getElem?
  intro i
  rw [List.getElem?_map, List.getElem?_map, List.getElem?_map]
  rcases Nat.lt_or_ge i w2.length with h | h
  · rw [List.getElem?_range h, List.getElem?_eq_getElem h]
    show some ((w1 ++ w2)[w1.length + i]?) = _
    rw [List.getElem?_append_right (Nat.le_add_right _ _), Nat.add_sub_cancel_left, List.getElem?_eq_getElem h]
    rfl
  · rw [List.getElem?_eq_none (by simpa using h), List.getElem?_eq_none h]
    rfl
theorem g_sufP {D : va_G} {cl : List vw_C} {w1 w2 : va_W} {H : Heap} (h : va_P D cl (w1 ++ w2) H) : va_P D cl w2 H := h.sub _ (g_fm (g_rangeR w1 w2))
theorem g_sufD {A : Nat → Prop} {w1 w2 : va_W} (h : va_D A (w1 ++ w2)) : va_D A w2 := h.sub _ (g_ndm _ _) (g_rangeR w1 w2)
theorem g_freeS {A0 : Nat → Prop} {w1 w2 : va_W} {H0 H : Heap} {locs : List Loc} (hD : va_D A0 (w1 ++ w2)) (hS : va_S A0 H0 H locs) (hA : ∀ q, H0.size ≤ q → A0 q) : ∀ q, va_A w2 H.size q → A0 q := va_free hD hS hA _ (g_rangeR w1 w2)
theorem g_joinS {A0 : Nat → Prop} {D : va_G} {cl : List vw_C} {w1 w2 u : va_W} {H H1 : Heap} (hP : va_P D cl (w1 ++ w2) H) (hD : va_D A0 (w1 ++ w2)) (hk : ∀ q : Nat, q < H.size → ¬ va_A w2 H.size q → H1[q]? = H[q]?) (hF : ∀ q, va_A w2 H.size q → A0 q) (hP1 : va_P D cl u H1) (hD1 : va_D (va_A w2 H.size) u) : va_P D cl (w1 ++ u) H1 ∧ va_D A0 (w1 ++ u) :=
  va_join (wc := w2) (wr := w1) hP hD ((List.range w2.length).map (fun i => w1.length + i)) (List.range w1.length) (g_rangeR w1 w2) (g_rangeL w1 w2) (g_nd _ List.nodup_range) (fun i hi hj => by
    have h1 := List.mem_range.mp hi
    obtain ⟨j, -, rfl⟩ := List.mem_map.mp hj
    omega) hk hF hP1 hD1
theorem g_swapP {D : va_G} {cl : List vw_C} {w1 w2 : va_W} {H : Heap} (h : va_P D cl (w1 ++ w2) H) : va_P D cl (w2 ++ w1) H := by
  intro k q hk
  have hm : q ∈ w1 ++ w2 := by
    rcases List.mem_append.mp (List.mem_of_getElem? hk) with h1 | h1
    · exact List.mem_append_right _ h1
    · exact List.mem_append_left _ h1
  obtain ⟨i, hi⟩ := List.mem_iff_getElem?.mp hm
  exact h i q hi
theorem g_swapD {A : Nat → Prop} {w1 w2 : va_W} (h : va_D A (w1 ++ w2)) : va_D A (w2 ++ w1) := by
  have key : ∀ (i : Nat) (p : Nat × va_E), (w2 ++ w1)[i]? = some p → (i < w2.length ∧ (w1 ++ w2)[w1.length + i]? = some p) ∨ (w2.length ≤ i ∧ i - w2.length < w1.length ∧ (w1 ++ w2)[i - w2.length]? = some p) := by
    intro i p hi
    rcases Nat.lt_or_ge i w2.length with h1 | h1
    · left
      refine ⟨h1, ?_⟩
      rw [List.getElem?_append_right (Nat.le_add_right _ _), Nat.add_sub_cancel_left]
      rwa [List.getElem?_append_left h1] at hi
    · right
      rw [List.getElem?_append_right h1] at hi
      have h2 : i - w2.length < w1.length := (List.getElem?_eq_some_iff.mp hi).1
      refine ⟨h1, h2, ?_⟩
      rw [List.getElem?_append_left h2]
      exact hi
  constructor
  · intro i j p q hi hj hpq
    rcases key i p hi with ⟨a1, b1⟩ | ⟨a1, a2, b1⟩ <;> rcases key j q hj with ⟨c1, d1⟩ | ⟨c1, c2, d1⟩ <;>
      (have := h.1 _ _ _ _ b1 d1 hpq; omega)
  · intro k q hk
    have hm : q ∈ w1 ++ w2 := by
      rcases List.mem_append.mp (List.mem_of_getElem? hk) with h1 | h1
      · exact List.mem_append_right _ h1
      · exact List.mem_append_left _ h1
    obtain ⟨i, hi⟩ := List.mem_iff_getElem?.mp hm
    exact h.2 i q hi
end GBASE
/-! what the whole run takes as given, beside the words: words across the nest, classes that aren't castable, texts, two statics of Throwable -/
def gGF (A : Nat → Prop) (U : State) : Prop :=
  (∀ w ∈ gNW, va_Nw w U) ∧ (∀ q ∈ gNC, va_Nc q.1 q.2 U) ∧ (∀ q ∈ gSR, ∃ sa, vk_R q.1 q.2.1 q.2.2 sa U) ∧ vx_Zq Bundle.tN "UNASSIGNED_STACK" Bundle.steD A U U.heap ∧ vx_Zq Bundle.tN "SUPPRESSED_SENTINEL" Bundle.listD A U U.heap
theorem gGF.same {A : Nat → Prop} {u U : State} (hv : u.vm = U.vm) (hh : U.heap = u.heap) (h : gGF A u) : gGF A U := by
  obtain ⟨h1, h2, h3, h4, h5⟩ := h
  have ha : u.vm.Alike U.vm := by rw [hv]; exact Vm.Alike.refl _
  refine ⟨fun w hw => va_Nw.same (gNW_t w hw) hv (h1 w hw), fun q hq => va_Nc.moved ha (h2 q hq), fun q hq => ?_, ?_, ?_⟩
  · obtain ⟨sa, hs⟩ := h3 q hq
    exact ⟨sa, hs.same hv.symm⟩
  · rw [hh]; exact h4.moved ha
  · rw [hh]; exact h5.moved ha
theorem gGF.call {A B : Nat → Prop} {s U : State} {H : Heap} {locs : List Loc} (h : gGF A s) (hS : va_S A s.heap H locs) (hF : ∀ q, B q → A q) (hU : U.heap = H) (hW : s.WarmedH U.vm) : gGF B U := by
  obtain ⟨h1, h2, h3, h4, h5⟩ := h
  refine ⟨fun w hw => gNW_warm hW w hw (h1 w hw), fun q hq => va_Nc.moved hW.alike (h2 q hq), fun q hq => ?_, ?_, ?_⟩
  · obtain ⟨sa, hs⟩ := h3 q hq
    exact ⟨sa, hs.warm hW⟩
  · rw [hU]; exact ((h4.moved hW.alike).kept hS.2.1).narrow hF
  · rw [hU]; exact ((h5.moved hW.alike).kept hS.2.1).narrow hF
/-! contracts -/
def gPre (D : va_G) (tys : List (ClassId × FieldType)) (av : List Value) (w0 : va_W) (sz : Nat) : Array Value → State → Prop :=
  va_Pc av (fun U => U.heap.size = sz ∧ va_P D vwCl w0 U.heap ∧ va_K D vwCl tys U ∧ va_D (fun _ => True) w0 ∧ gGF (va_A w0 sz) U)
theorem gPre_blind {D : va_G} {tys : List (ClassId × FieldType)} {av : List Value} {w0 : va_W} {sz : Nat} : FrameBlind (gPre D tys av w0 sz) := fun a U g mk q => by
  obtain ⟨q0, q1, qP, qK, qD, qG⟩ := q
  exact ⟨q0, q1, qP, va_K.moved (u := U) (U := U.calling g mk a) (Vm.Alike.refl U.vm) qK, qD, gGF.same (u := U) (U := U.calling g mk a) rfl rfl qG⟩
def gB (D : va_G) (tys : List (ClassId × FieldType)) (A : Nat → Prop) (w : va_W) (t : State) : Prop := va_P D vwCl w t.heap ∧ va_K D vwCl tys t ∧ va_D A w
def gXC {St : Type} (D : va_G) (tys : List (ClassId × FieldType)) (wf : St → va_W) (xp : String → St → Prop) (A : Nat → Prop) : String → State → State → Prop :=
  vx_X (fun u : String × St => xp u.1 u.2) (fun E u t => E = u.1 ∧ gB D tys A (wf u.2) t) A
def gQi {St : Type} (D : va_G) (tys : List (ClassId × FieldType)) (wf : St → va_W) (post : Int32 → St → Prop) (A : Nat → Prop) : Array Value → State → Outcome → State → Prop := va_Qi post (fun S => gB D tys A (wf S)) A
def gQz {St : Type} (D : va_G) (tys : List (ClassId × FieldType)) (wf : St → va_W) (post : Int32 → St → Prop) (A : Nat → Prop) : Array Value → State → Outcome → State → Prop := va_Qi (fun r S => (r = 0 ∨ r = 1) ∧ post r S) (fun S => gB D tys A (wf S)) A
def gQl {St : Type} (D : va_G) (tys : List (ClassId × FieldType)) (wf : St → va_W) (post : Int64 → St → Prop) (A : Nat → Prop) : Array Value → State → Outcome → State → Prop := va_Ql post (fun S => gB D tys A (wf S)) A
def gQv {St : Type} (D : va_G) (tys : List (ClassId × FieldType)) (wf : St → va_W) (post : St → Prop) (A : Nat → Prop) : Array Value → State → Outcome → State → Prop := va_Qv post (fun S => gB D tys A (wf S)) A
/-- a return of a method that may throw: nothing new was made -/
def gT (Qc : Array Value → State → Outcome → State → Prop) (A : Nat → Prop) : Array Value → State → Outcome → State → Prop := fun a st o t => Qc a st o t ∧ ∃ L, FrameEnd st o t L 0 0 ∧ ∀ q ∈ L, A q.base
def gMi {St : Type} (l : Launch) (y : MethodName) (ws : List Cond) (rm : Room) (D : va_G) (tys : List (ClassId × FieldType)) (av : List Value) (w0 : va_W) (wf : St → va_W) (post : Int32 → St → Prop) : Prop :=
  ∀ sz : Nat, Met l y ws rm (gPre D tys av w0 sz) (gQi D tys wf post (va_A w0 sz)) rm.cells rm.slots (va_A w0 sz)
def gXi {St : Type} (l : Launch) (y : MethodName) (ws : List Cond) (rm : Room) (D : va_G) (tys : List (ClassId × FieldType)) (av : List Value) (w0 : va_W) (wf : St → va_W) (post : Int32 → St → Prop) (xp : String → St → Prop) : Prop :=
  ∀ sz : Nat, vx_Met l y ws rm (gPre D tys av w0 sz) (gT (gQi D tys wf post (va_A w0 sz)) (va_A w0 sz)) (gXC D tys wf xp (va_A w0 sz)) rm.cells rm.slots (va_A w0 sz)
def gMz {St : Type} (l : Launch) (y : MethodName) (ws : List Cond) (rm : Room) (D : va_G) (tys : List (ClassId × FieldType)) (av : List Value) (w0 : va_W) (wf : St → va_W) (post : Int32 → St → Prop) : Prop :=
  ∀ sz : Nat, Met l y ws rm (gPre D tys av w0 sz) (gQz D tys wf post (va_A w0 sz)) rm.cells rm.slots (va_A w0 sz)
def gXz {St : Type} (l : Launch) (y : MethodName) (ws : List Cond) (rm : Room) (D : va_G) (tys : List (ClassId × FieldType)) (av : List Value) (w0 : va_W) (wf : St → va_W) (post : Int32 → St → Prop) (xp : String → St → Prop) : Prop :=
  ∀ sz : Nat, vx_Met l y ws rm (gPre D tys av w0 sz) (gT (gQz D tys wf post (va_A w0 sz)) (va_A w0 sz)) (gXC D tys wf xp (va_A w0 sz)) rm.cells rm.slots (va_A w0 sz)
def gMl {St : Type} (l : Launch) (y : MethodName) (ws : List Cond) (rm : Room) (D : va_G) (tys : List (ClassId × FieldType)) (av : List Value) (w0 : va_W) (wf : St → va_W) (post : Int64 → St → Prop) : Prop :=
  ∀ sz : Nat, Met l y ws rm (gPre D tys av w0 sz) (gQl D tys wf post (va_A w0 sz)) rm.cells rm.slots (va_A w0 sz)
def gXl {St : Type} (l : Launch) (y : MethodName) (ws : List Cond) (rm : Room) (D : va_G) (tys : List (ClassId × FieldType)) (av : List Value) (w0 : va_W) (wf : St → va_W) (post : Int64 → St → Prop) (xp : String → St → Prop) : Prop :=
  ∀ sz : Nat, vx_Met l y ws rm (gPre D tys av w0 sz) (gT (gQl D tys wf post (va_A w0 sz)) (va_A w0 sz)) (gXC D tys wf xp (va_A w0 sz)) rm.cells rm.slots (va_A w0 sz)
def gMv {St : Type} (l : Launch) (y : MethodName) (ws : List Cond) (rm : Room) (D : va_G) (tys : List (ClassId × FieldType)) (av : List Value) (w0 : va_W) (wf : St → va_W) (post : St → Prop) : Prop :=
  ∀ sz : Nat, Met l y ws rm (gPre D tys av w0 sz) (gQv D tys wf post (va_A w0 sz)) rm.cells rm.slots (va_A w0 sz)
def gXv {St : Type} (l : Launch) (y : MethodName) (ws : List Cond) (rm : Room) (D : va_G) (tys : List (ClassId × FieldType)) (av : List Value) (w0 : va_W) (wf : St → va_W) (post : St → Prop) (xp : String → St → Prop) : Prop :=
  ∀ sz : Nat, vx_Met l y ws rm (gPre D tys av w0 sz) (gT (gQv D tys wf post (va_A w0 sz)) (va_A w0 sz)) (gXC D tys wf xp (va_A w0 sz)) rm.cells rm.slots (va_A w0 sz)
section GCALL
variable {p : Program} {l : Launch} {e : Env} {R : Room} {s : State} {m : MethodId} {args : Array Value} {below : List Frame} {meth : Method} {c : Code} {H : Heap} {locs : List Loc} {cells slots : Nat} {Q : State → Prop}
variable {D : va_G} {tys : List (ClassId × FieldType)} {A : Nat → Prop} {St : Type} {wf wfc : St → va_W} {w wr wc : va_W} {mc ms pc : Nat} {ls : Array Slot} {st0 rest : List Value} {a9 : Array Value} {cc : ByteArray}
theorem g_tight {T T' st₀ t : State} {L L9 : List Loc} {o : Outcome} (X : Stand p l e R s m args below meth c T locs cells slots) (hT : T.heap = H) (X' : Stand p l e R s m args below meth c T' (locs ++ L) (cells + mc) (slots + ms)) (h0 : st₀.heap = H) (e1 : T'.heap = t.heap) (hE : FrameEnd st₀ o t L9 0 0) : Stand p l e R s m args below meth c T' (locs ++ L) cells slots := by
  obtain ⟨-, -, -, q2, q3, -, -, q6⟩ := hE
  obtain ⟨z1, z2, z3, z4, z5, z6⟩ := X'.same
  obtain ⟨-, -, y3, -, y5, -⟩ := X.same
  have q2 : st₀.heap.size ≤ t.heap.size := q2
  have q3 : t.heap.size ≤ st₀.heap.size + 0 := q3
  have y3 : T.heap.size ≤ s.heap.size + cells := y3
  have y5 : ((T.heap.toList.drop s.heap.size).map (·.slots.size)).sum ≤ slots := y5
  have hsz : T'.heap.size = T.heap.size := by rw [e1, hT, ← h0]; omega
  have hm : T'.heap.toList.map (·.slots.size) = T.heap.toList.map (·.slots.size) := by
    apply List.ext_getElem?
    intro i
    rw [List.getElem?_map, List.getElem?_map, Array.getElem?_toList, Array.getElem?_toList]
    rcases Nat.lt_or_ge i T.heap.size with hi | hi
    · have hc : st₀.heap[i]? = some T.heap[i] := by rw [h0, ← hT]; exact Array.getElem?_eq_getElem hi
      obtain ⟨c', h1, -, h3, -⟩ := q6 i _ hc
      have h1 : t.heap[i]? = some c' := h1
      rw [e1, h1, Array.getElem?_eq_getElem hi]
      show some c'.slots.size = some T.heap[i].slots.size
      rw [h3]
    · rw [Array.getElem?_eq_none hi, Array.getElem?_eq_none (by omega)]
  refine { X' with same := ⟨z1, z2, ?_, z4, ?_, z6⟩ }
  · show T'.heap.size ≤ s.heap.size + cells
    omega
  · show ((T'.heap.toList.drop s.heap.size).map (·.slots.size)).sum ≤ slots
    rw [List.map_drop, hm, ← List.map_drop]
    exact y5
theorem g_preV {b : Addr} {As : List Value} {q0 ci : Nat} {q : vw_C} {fs : List Value} {C : String} (hK : va_K D vwCl tys s) (hG : gGF A s) (hA : ∀ q, s.heap.size ≤ q → A q) (hP : va_P D vwCl (wr ++ wc) H) (hD : va_D A (wr ++ wc)) (hS : va_S A s.heap H locs) (hc : vwCl[ci]? = some q) (he : wc[q0]? = some (b, .inr (ci, fs))) (hC : q.1 = C) : PreV s H C b (gPre D tys (.ref b :: As) wc H.size) As :=
  ⟨gPre_blind, by have h1 := va_recv hK (g_sufP hP) hc he; rwa [hC] at h1, fun U hU hW => ⟨rfl, by rw [hU], by rw [hU]; exact g_sufP hP, va_K.moved hW.alike hK, (g_sufD hD).weaken (fun _ _ _ _ => trivial), hG.call hS (g_freeS hD hS hA) hU hW⟩⟩
theorem g_preS {As : List Value} (hK : va_K D vwCl tys s) (hG : gGF A s) (hA : ∀ q, s.heap.size ≤ q → A q) (hP : va_P D vwCl (wr ++ wc) H) (hD : va_D A (wr ++ wc)) (hS : va_S A s.heap H locs) : PreS s H (gPre D tys As wc H.size) As :=
  ⟨gPre_blind, fun U hU hW => ⟨rfl, by rw [hU], by rw [hU]; exact g_sufP hP, va_K.moved hW.alike hK, (g_sufD hD).weaken (fun _ _ _ _ => trivial), hG.call hS (g_freeS hD hS hA) hU hW⟩⟩
theorem gk_i {post : Int32 → St → Prop} (hP : va_P D vwCl (wr ++ wc) H) (hD : va_D A (wr ++ wc)) (hS : va_S A s.heap H locs) (hA : ∀ q, s.heap.size ≤ q → A q)
    (hr : va_Run p l e R s m args below meth c H locs cells slots mc ms (F0 m pc ls st0) rest (gQi D tys wfc post (va_A wc H.size) a9) (va_A wc H.size))
    (kk : ∀ (r : Int32) (S1 : St) (H1 : Heap) (locs1 : List Loc), post r S1 → va_P D vwCl (wr ++ wfc S1) H1 → va_D A (wr ++ wfc S1) → va_S A s.heap H1 locs1 → W p l e R s m args below meth c H1 locs1 (cells + mc) (slots + ms) Q (F0 m (pc + 3) ls (.int r :: rest))) :
    W p l e R s m args below meth c H locs cells slots Q (F0 m pc ls st0) := by
  have hFc := g_freeS hD hS hA
  refine va_calli hr hS (fun q _ h => hFc q h) hFc (fun r u t H1 locs1 ht hvm hw hB hz1 hk1 hS1 => ?_)
  obtain ⟨hP1, hK1, hD1⟩ := hB
  rw [ht] at hP1
  obtain ⟨h1, h2⟩ := g_joinS hP hD hk1 hFc hP1 hD1
  exact kk r u H1 locs1 hw h1 h2 hS1
theorem gk_xi {post : Int32 → St → Prop} {xp : String → St → Prop} (hP : va_P D vwCl (wr ++ wc) H) (hD : va_D A (wr ++ wc)) (hS : va_S A s.heap H locs) (hA : ∀ q, s.heap.size ≤ q → A q)
    (hr : vx_Run p l e R s m args below meth c H locs cells slots mc ms (F0 m pc ls st0) rest (gT (gQi D tys wfc post (va_A wc H.size)) (va_A wc H.size) a9) (gXC D tys wfc xp (va_A wc H.size)) (va_A wc H.size))
    (kx : ∀ (E : String) (S1 : St) (ce : Cell) (q9 : Addr) (H1 : Heap) (locs1 : List Loc), xp E S1 → va_P D vwCl (wr ++ wfc S1) H1 → va_D A (wr ++ wfc S1) → va_S A s.heap H1 locs1 → H1[q9]? = some ce → ce.vm = .none → s.vm.findClass E = some ce.cls → vx_W p l e R s m args below meth c H1 locs1 (cells + mc) (slots + ms) Q (F0 m pc ls rest) q9)
    (kk : ∀ (r : Int32) (S1 : St) (H1 : Heap) (locs1 : List Loc), post r S1 → va_P D vwCl (wr ++ wfc S1) H1 → va_D A (wr ++ wfc S1) → va_S A s.heap H1 locs1 → W p l e R s m args below meth c H1 locs1 cells slots Q (F0 m (pc + 3) ls (.int r :: rest))) :
    W p l e R s m args below meth c H locs cells slots Q (F0 m pc ls st0) := by
  have hFc := g_freeS hD hS hA
  intro T hT X
  rcases hr T hT X with ⟨v, st₀, t, T', L, h0, X', hL, e1, e2, ⟨⟨⟨r, u, hv, hp, hb⟩, hF⟩, L9, hE9, -⟩, st⟩ | ⟨q, st₀, t, T', L, E, ce, h0, X', hL, e1, e2, ⟨u, hp, hb, hF⟩, hce, hcv, hcl, st⟩
  · cases hv
    obtain ⟨k1, k2, k3⟩ := vx_keep h0 e1 hS (fun q _ h => hFc q h) hFc hL hF
    have X9 := g_tight X hT X' h0 e1 hE9
    obtain ⟨hP1, hK1, hD1⟩ := hb
    rw [← e1] at hP1
    obtain ⟨h1, h2⟩ := g_joinS hP hD k2 hFc hP1 hD1
    obtain ⟨t2, a1, b1⟩ := kk r u T'.heap (locs ++ L) hp h1 h2 k3 T' rfl X9
    exact ⟨t2, st t2 a1, b1⟩
  · obtain ⟨k1, k2, k3⟩ := vx_keep h0 e1 hS (fun q _ h => hFc q h) hFc hL hF
    obtain ⟨e3, hP1, hK1, hD1⟩ := hb
    subst e3
    rw [← e1] at hP1
    obtain ⟨h1, h2⟩ := g_joinS hP hD k2 hFc hP1 hD1
    obtain ⟨t2, a1, b1⟩ := kx u.1 u.2 ce q T'.heap (locs ++ L) hp h1 h2 k3 (by rw [e1]; exact hce) hcv hcl T' rfl X'
    exact ⟨t2, st.trans a1, b1⟩
theorem gk_z {post : Int32 → St → Prop} (hP : va_P D vwCl (wr ++ wc) H) (hD : va_D A (wr ++ wc)) (hS : va_S A s.heap H locs) (hA : ∀ q, s.heap.size ≤ q → A q)
    (hr : va_Run p l e R s m args below meth c H locs cells slots mc ms (F0 m pc ls st0) rest (gQz D tys wfc post (va_A wc H.size) a9) (va_A wc H.size))
    (kk : ∀ (r : Int32) (S1 : St) (hz : r = 0 ∨ r = 1) (H1 : Heap) (locs1 : List Loc), post r S1 → va_P D vwCl (wr ++ wfc S1) H1 → va_D A (wr ++ wfc S1) → va_S A s.heap H1 locs1 → W p l e R s m args below meth c H1 locs1 (cells + mc) (slots + ms) Q (F0 m (pc + 3) ls (.int r :: rest))) :
    W p l e R s m args below meth c H locs cells slots Q (F0 m pc ls st0) := by
  have hFc := g_freeS hD hS hA
  refine va_calli hr hS (fun q _ h => hFc q h) hFc (fun r u t H1 locs1 ht hvm hw hB hz1 hk1 hS1 => ?_)
  obtain ⟨hP1, hK1, hD1⟩ := hB
  rw [ht] at hP1
  obtain ⟨h1, h2⟩ := g_joinS hP hD hk1 hFc hP1 hD1
  exact kk r u hw.1 H1 locs1 hw.2 h1 h2 hS1
theorem gk_xz {post : Int32 → St → Prop} {xp : String → St → Prop} (hP : va_P D vwCl (wr ++ wc) H) (hD : va_D A (wr ++ wc)) (hS : va_S A s.heap H locs) (hA : ∀ q, s.heap.size ≤ q → A q)
    (hr : vx_Run p l e R s m args below meth c H locs cells slots mc ms (F0 m pc ls st0) rest (gT (gQz D tys wfc post (va_A wc H.size)) (va_A wc H.size) a9) (gXC D tys wfc xp (va_A wc H.size)) (va_A wc H.size))
    (kx : ∀ (E : String) (S1 : St) (ce : Cell) (q9 : Addr) (H1 : Heap) (locs1 : List Loc), xp E S1 → va_P D vwCl (wr ++ wfc S1) H1 → va_D A (wr ++ wfc S1) → va_S A s.heap H1 locs1 → H1[q9]? = some ce → ce.vm = .none → s.vm.findClass E = some ce.cls → vx_W p l e R s m args below meth c H1 locs1 (cells + mc) (slots + ms) Q (F0 m pc ls rest) q9)
    (kk : ∀ (r : Int32) (S1 : St) (hz : r = 0 ∨ r = 1) (H1 : Heap) (locs1 : List Loc), post r S1 → va_P D vwCl (wr ++ wfc S1) H1 → va_D A (wr ++ wfc S1) → va_S A s.heap H1 locs1 → W p l e R s m args below meth c H1 locs1 cells slots Q (F0 m (pc + 3) ls (.int r :: rest))) :
    W p l e R s m args below meth c H locs cells slots Q (F0 m pc ls st0) := by
  have hFc := g_freeS hD hS hA
  intro T hT X
  rcases hr T hT X with ⟨v, st₀, t, T', L, h0, X', hL, e1, e2, ⟨⟨⟨r, u, hv, hp, hb⟩, hF⟩, L9, hE9, -⟩, st⟩ | ⟨q, st₀, t, T', L, E, ce, h0, X', hL, e1, e2, ⟨u, hp, hb, hF⟩, hce, hcv, hcl, st⟩
  · cases hv
    obtain ⟨k1, k2, k3⟩ := vx_keep h0 e1 hS (fun q _ h => hFc q h) hFc hL hF
    have X9 := g_tight X hT X' h0 e1 hE9
    obtain ⟨hP1, hK1, hD1⟩ := hb
    rw [← e1] at hP1
    obtain ⟨h1, h2⟩ := g_joinS hP hD k2 hFc hP1 hD1
    obtain ⟨t2, a1, b1⟩ := kk r u hp.1 T'.heap (locs ++ L) hp.2 h1 h2 k3 T' rfl X9
    exact ⟨t2, st t2 a1, b1⟩
  · obtain ⟨k1, k2, k3⟩ := vx_keep h0 e1 hS (fun q _ h => hFc q h) hFc hL hF
    obtain ⟨e3, hP1, hK1, hD1⟩ := hb
    subst e3
    rw [← e1] at hP1
    obtain ⟨h1, h2⟩ := g_joinS hP hD k2 hFc hP1 hD1
    obtain ⟨t2, a1, b1⟩ := kx u.1 u.2 ce q T'.heap (locs ++ L) hp h1 h2 k3 (by rw [e1]; exact hce) hcv hcl T' rfl X'
    exact ⟨t2, st.trans a1, b1⟩
theorem gk_l {post : Int64 → St → Prop} (hP : va_P D vwCl (wr ++ wc) H) (hD : va_D A (wr ++ wc)) (hS : va_S A s.heap H locs) (hA : ∀ q, s.heap.size ≤ q → A q)
    (hr : va_Run p l e R s m args below meth c H locs cells slots mc ms (F0 m pc ls st0) rest (gQl D tys wfc post (va_A wc H.size) a9) (va_A wc H.size))
    (kk : ∀ (r : Int64) (S1 : St) (H1 : Heap) (locs1 : List Loc), post r S1 → va_P D vwCl (wr ++ wfc S1) H1 → va_D A (wr ++ wfc S1) → va_S A s.heap H1 locs1 → W p l e R s m args below meth c H1 locs1 (cells + mc) (slots + ms) Q (F0 m (pc + 3) ls (.long r :: rest))) :
    W p l e R s m args below meth c H locs cells slots Q (F0 m pc ls st0) := by
  have hFc := g_freeS hD hS hA
  refine va_calll hr hS (fun q _ h => hFc q h) hFc (fun r u t H1 locs1 ht hvm hw hB hz1 hk1 hS1 => ?_)
  obtain ⟨hP1, hK1, hD1⟩ := hB
  rw [ht] at hP1
  obtain ⟨h1, h2⟩ := g_joinS hP hD hk1 hFc hP1 hD1
  exact kk r u H1 locs1 hw h1 h2 hS1
theorem gk_xl {post : Int64 → St → Prop} {xp : String → St → Prop} (hP : va_P D vwCl (wr ++ wc) H) (hD : va_D A (wr ++ wc)) (hS : va_S A s.heap H locs) (hA : ∀ q, s.heap.size ≤ q → A q)
    (hr : vx_Run p l e R s m args below meth c H locs cells slots mc ms (F0 m pc ls st0) rest (gT (gQl D tys wfc post (va_A wc H.size)) (va_A wc H.size) a9) (gXC D tys wfc xp (va_A wc H.size)) (va_A wc H.size))
    (kx : ∀ (E : String) (S1 : St) (ce : Cell) (q9 : Addr) (H1 : Heap) (locs1 : List Loc), xp E S1 → va_P D vwCl (wr ++ wfc S1) H1 → va_D A (wr ++ wfc S1) → va_S A s.heap H1 locs1 → H1[q9]? = some ce → ce.vm = .none → s.vm.findClass E = some ce.cls → vx_W p l e R s m args below meth c H1 locs1 (cells + mc) (slots + ms) Q (F0 m pc ls rest) q9)
    (kk : ∀ (r : Int64) (S1 : St) (H1 : Heap) (locs1 : List Loc), post r S1 → va_P D vwCl (wr ++ wfc S1) H1 → va_D A (wr ++ wfc S1) → va_S A s.heap H1 locs1 → W p l e R s m args below meth c H1 locs1 cells slots Q (F0 m (pc + 3) ls (.long r :: rest))) :
    W p l e R s m args below meth c H locs cells slots Q (F0 m pc ls st0) := by
  have hFc := g_freeS hD hS hA
  intro T hT X
  rcases hr T hT X with ⟨v, st₀, t, T', L, h0, X', hL, e1, e2, ⟨⟨⟨r, u, hv, hp, hb⟩, hF⟩, L9, hE9, -⟩, st⟩ | ⟨q, st₀, t, T', L, E, ce, h0, X', hL, e1, e2, ⟨u, hp, hb, hF⟩, hce, hcv, hcl, st⟩
  · cases hv
    obtain ⟨k1, k2, k3⟩ := vx_keep h0 e1 hS (fun q _ h => hFc q h) hFc hL hF
    have X9 := g_tight X hT X' h0 e1 hE9
    obtain ⟨hP1, hK1, hD1⟩ := hb
    rw [← e1] at hP1
    obtain ⟨h1, h2⟩ := g_joinS hP hD k2 hFc hP1 hD1
    obtain ⟨t2, a1, b1⟩ := kk r u T'.heap (locs ++ L) hp h1 h2 k3 T' rfl X9
    exact ⟨t2, st t2 a1, b1⟩
  · obtain ⟨k1, k2, k3⟩ := vx_keep h0 e1 hS (fun q _ h => hFc q h) hFc hL hF
    obtain ⟨e3, hP1, hK1, hD1⟩ := hb
    subst e3
    rw [← e1] at hP1
    obtain ⟨h1, h2⟩ := g_joinS hP hD k2 hFc hP1 hD1
    obtain ⟨t2, a1, b1⟩ := kx u.1 u.2 ce q T'.heap (locs ++ L) hp h1 h2 k3 (by rw [e1]; exact hce) hcv hcl T' rfl X'
    exact ⟨t2, st.trans a1, b1⟩
theorem gk_v {post : St → Prop} (hP : va_P D vwCl (wr ++ wc) H) (hD : va_D A (wr ++ wc)) (hS : va_S A s.heap H locs) (hA : ∀ q, s.heap.size ≤ q → A q)
    (hr : va_Run p l e R s m args below meth c H locs cells slots mc ms (F0 m pc ls st0) rest (gQv D tys wfc post (va_A wc H.size) a9) (va_A wc H.size))
    (kk : ∀ (S1 : St) (H1 : Heap) (locs1 : List Loc), post S1 → va_P D vwCl (wr ++ wfc S1) H1 → va_D A (wr ++ wfc S1) → va_S A s.heap H1 locs1 → W p l e R s m args below meth c H1 locs1 (cells + mc) (slots + ms) Q (F0 m (pc + 3) ls (rest))) :
    W p l e R s m args below meth c H locs cells slots Q (F0 m pc ls st0) := by
  have hFc := g_freeS hD hS hA
  refine va_callv hr hS (fun q _ h => hFc q h) hFc (fun u t H1 locs1 ht hvm hw hB hz1 hk1 hS1 => ?_)
  obtain ⟨hP1, hK1, hD1⟩ := hB
  rw [ht] at hP1
  obtain ⟨h1, h2⟩ := g_joinS hP hD hk1 hFc hP1 hD1
  exact kk u H1 locs1 hw h1 h2 hS1
theorem gk_xv {post : St → Prop} {xp : String → St → Prop} (hP : va_P D vwCl (wr ++ wc) H) (hD : va_D A (wr ++ wc)) (hS : va_S A s.heap H locs) (hA : ∀ q, s.heap.size ≤ q → A q)
    (hr : vx_Run p l e R s m args below meth c H locs cells slots mc ms (F0 m pc ls st0) rest (gT (gQv D tys wfc post (va_A wc H.size)) (va_A wc H.size) a9) (gXC D tys wfc xp (va_A wc H.size)) (va_A wc H.size))
    (kx : ∀ (E : String) (S1 : St) (ce : Cell) (q9 : Addr) (H1 : Heap) (locs1 : List Loc), xp E S1 → va_P D vwCl (wr ++ wfc S1) H1 → va_D A (wr ++ wfc S1) → va_S A s.heap H1 locs1 → H1[q9]? = some ce → ce.vm = .none → s.vm.findClass E = some ce.cls → vx_W p l e R s m args below meth c H1 locs1 (cells + mc) (slots + ms) Q (F0 m pc ls rest) q9)
    (kk : ∀ (S1 : St) (H1 : Heap) (locs1 : List Loc), post S1 → va_P D vwCl (wr ++ wfc S1) H1 → va_D A (wr ++ wfc S1) → va_S A s.heap H1 locs1 → W p l e R s m args below meth c H1 locs1 cells slots Q (F0 m (pc + 3) ls (rest))) :
    W p l e R s m args below meth c H locs cells slots Q (F0 m pc ls st0) := by
  have hFc := g_freeS hD hS hA
  intro T hT X
  rcases hr T hT X with ⟨v, st₀, t, T', L, h0, X', hL, e1, e2, ⟨⟨⟨u, hv, hp, hb⟩, hF⟩, L9, hE9, -⟩, st⟩ | ⟨q, st₀, t, T', L, E, ce, h0, X', hL, e1, e2, ⟨u, hp, hb, hF⟩, hce, hcv, hcl, st⟩
  · cases hv
    obtain ⟨k1, k2, k3⟩ := vx_keep h0 e1 hS (fun q _ h => hFc q h) hFc hL hF
    have X9 := g_tight X hT X' h0 e1 hE9
    obtain ⟨hP1, hK1, hD1⟩ := hb
    rw [← e1] at hP1
    obtain ⟨h1, h2⟩ := g_joinS hP hD k2 hFc hP1 hD1
    obtain ⟨t2, a1, b1⟩ := kk u T'.heap (locs ++ L) hp h1 h2 k3 T' rfl X9
    exact ⟨t2, st t2 a1, b1⟩
  · obtain ⟨k1, k2, k3⟩ := vx_keep h0 e1 hS (fun q _ h => hFc q h) hFc hL hF
    obtain ⟨e3, hP1, hK1, hD1⟩ := hb
    subst e3
    rw [← e1] at hP1
    obtain ⟨h1, h2⟩ := g_joinS hP hD k2 hFc hP1 hD1
    obtain ⟨t2, a1, b1⟩ := kx u.1 u.2 ce q T'.heap (locs ++ L) hp h1 h2 k3 (by rw [e1]; exact hce) hcv hcl T' rfl X'
    exact ⟨t2, st.trans a1, b1⟩
theorem gr_i {S : St} {v : Int32} {post : Int32 → St → Prop} (hx : p.tables.exec = Jvm.exec) (hb : c.code = cc) (hr : meth.sig.returnType = some .int) (hlocks : meth.locks = false) (hK : va_K D vwCl tys s) (hP : va_P D vwCl (wf S) H) (hD : va_D A (wf S)) (hS : va_S A s.heap H locs) (hw : post v S) (hc : cells ≤ mc) (hs : slots ≤ ms) (hdg : decode cc pc = .ok (.ireturn, 1)) :
    W p l e R s m args below meth c H locs cells slots (MQ below (gQi D tys wf post A) args s mc ms A) (F0 m pc ls [.int v]) := by
  refine W.widen hc hs ?_
  exact W.iret hx hb hr (fun t ht hW => ⟨⟨v, S, rfl, hw, by rw [ht]; exact hP, va_K.moved hW.alike hK, hD⟩, hS.F ht⟩) hS.2.2 hdg hlocks
theorem gx_i {S : St} {v : Int32} {post : Int32 → St → Prop} {XC : String → State → State → Prop} (hx : p.tables.exec = Jvm.exec) (hb : c.code = cc) (hr : meth.sig.returnType = some .int) (hlocks : meth.locks = false) (hK : va_K D vwCl tys s) (hP : va_P D vwCl (wf S) H) (hD : va_D A (wf S)) (hS : va_S A s.heap H locs) (hw : post v S) (hdg : decode cc pc = .ok (.ireturn, 1)) :
    W p l e R s m args below meth c H locs 0 0 (vx_MQ below (gT (gQi D tys wf post A) A) XC args s mc ms A) (F0 m pc ls [.int v]) := by
  intro T hT X
  obtain ⟨t, a1, o, b1, b2, b3, L, b4, b5⟩ := gr_i (mc := 0) (ms := 0) hx hb hr hlocks hK hP hD hS hw (Nat.le_refl 0) (Nat.le_refl 0) hdg T hT X
  exact ⟨t, a1, o, b1, b2, Or.inl ⟨⟨b3, L, b4, b5⟩, L, ⟨b4.1, b4.2.1, b4.2.2.mono (Nat.zero_le _) (Nat.zero_le _)⟩, b5⟩⟩
theorem gr_l {S : St} {v : Int64} {post : Int64 → St → Prop} (hx : p.tables.exec = Jvm.exec) (hb : c.code = cc) (hr : meth.sig.returnType = some .long) (hlocks : meth.locks = false) (hK : va_K D vwCl tys s) (hP : va_P D vwCl (wf S) H) (hD : va_D A (wf S)) (hS : va_S A s.heap H locs) (hw : post v S) (hc : cells ≤ mc) (hs : slots ≤ ms) (hdg : decode cc pc = .ok (.lreturn, 1)) :
    W p l e R s m args below meth c H locs cells slots (MQ below (gQl D tys wf post A) args s mc ms A) (F0 m pc ls [.long v]) := by
  refine W.widen hc hs ?_
  exact W.lret hx hb hr (fun t ht hW => ⟨⟨v, S, rfl, hw, by rw [ht]; exact hP, va_K.moved hW.alike hK, hD⟩, hS.F ht⟩) hS.2.2 hdg hlocks
theorem gx_l {S : St} {v : Int64} {post : Int64 → St → Prop} {XC : String → State → State → Prop} (hx : p.tables.exec = Jvm.exec) (hb : c.code = cc) (hr : meth.sig.returnType = some .long) (hlocks : meth.locks = false) (hK : va_K D vwCl tys s) (hP : va_P D vwCl (wf S) H) (hD : va_D A (wf S)) (hS : va_S A s.heap H locs) (hw : post v S) (hdg : decode cc pc = .ok (.lreturn, 1)) :
    W p l e R s m args below meth c H locs 0 0 (vx_MQ below (gT (gQl D tys wf post A) A) XC args s mc ms A) (F0 m pc ls [.long v]) := by
  intro T hT X
  obtain ⟨t, a1, o, b1, b2, b3, L, b4, b5⟩ := gr_l (mc := 0) (ms := 0) hx hb hr hlocks hK hP hD hS hw (Nat.le_refl 0) (Nat.le_refl 0) hdg T hT X
  exact ⟨t, a1, o, b1, b2, Or.inl ⟨⟨b3, L, b4, b5⟩, L, ⟨b4.1, b4.2.1, b4.2.2.mono (Nat.zero_le _) (Nat.zero_le _)⟩, b5⟩⟩
theorem gr_v {S : St} {post : St → Prop} (hx : p.tables.exec = Jvm.exec) (hb : c.code = cc) (hr : meth.sig.returnType = none) (hlocks : meth.locks = false) (hK : va_K D vwCl tys s) (hP : va_P D vwCl (wf S) H) (hD : va_D A (wf S)) (hS : va_S A s.heap H locs) (hw : post S) (hc : cells ≤ mc) (hs : slots ≤ ms) (hdg : decode cc pc = .ok (.return_, 1)) :
    W p l e R s m args below meth c H locs cells slots (MQ below (gQv D tys wf post A) args s mc ms A) (F0 m pc ls []) := by
  refine W.widen hc hs ?_
  exact W.vret hx hb hr (fun t ht hW => ⟨⟨S, rfl, hw, by rw [ht]; exact hP, va_K.moved hW.alike hK, hD⟩, hS.F ht⟩) hS.2.2 hdg hlocks
theorem gx_v {S : St} {post : St → Prop} {XC : String → State → State → Prop} (hx : p.tables.exec = Jvm.exec) (hb : c.code = cc) (hr : meth.sig.returnType = none) (hlocks : meth.locks = false) (hK : va_K D vwCl tys s) (hP : va_P D vwCl (wf S) H) (hD : va_D A (wf S)) (hS : va_S A s.heap H locs) (hw : post S) (hdg : decode cc pc = .ok (.return_, 1)) :
    W p l e R s m args below meth c H locs 0 0 (vx_MQ below (gT (gQv D tys wf post A) A) XC args s mc ms A) (F0 m pc ls []) := by
  intro T hT X
  obtain ⟨t, a1, o, b1, b2, b3, L, b4, b5⟩ := gr_v (mc := 0) (ms := 0) hx hb hr hlocks hK hP hD hS hw (Nat.le_refl 0) (Nat.le_refl 0) hdg T hT X
  exact ⟨t, a1, o, b1, b2, Or.inl ⟨⟨b3, L, b4, b5⟩, L, ⟨b4.1, b4.2.1, b4.2.2.mono (Nat.zero_le _) (Nat.zero_le _)⟩, b5⟩⟩
theorem gr_z {S : St} {v : Int32} {post : Int32 → St → Prop} (hx : p.tables.exec = Jvm.exec) (hb : c.code = cc) (hr : meth.sig.returnType = some .boolean) (hlocks : meth.locks = false) (hz : v = 0 ∨ v = 1) (hK : va_K D vwCl tys s) (hP : va_P D vwCl (wf S) H) (hD : va_D A (wf S)) (hS : va_S A s.heap H locs) (hw : post v S) (hc : cells ≤ mc) (hs : slots ≤ ms) (hdg : decode cc pc = .ok (.ireturn, 1)) :
    W p l e R s m args below meth c H locs cells slots (MQ below (gQz D tys wf post A) args s mc ms A) (F0 m pc ls [.int v]) := by
  refine W.widen hc hs ?_
  exact W.zret hx hb hr (by rcases hz with rfl | rfl <;> rfl) (fun t ht hW => ⟨⟨v, S, rfl, ⟨hz, hw⟩, by rw [ht]; exact hP, va_K.moved hW.alike hK, hD⟩, hS.F ht⟩) hS.2.2 hdg hlocks
/-- an exception of a callee goes on to the caller -/
theorem gx_out {S : St} {E : String} {ce : Cell} {q : Addr} {Qc : Array Value → State → Outcome → State → Prop} {xp : String → St → Prop} (hEx : ∀ x ∈ c.exceptionTable.toList, False) (hlocks : meth.locks = false) (hce : H[q]? = some ce) (hcv : ce.vm = .none) (hcl : s.vm.findClass E = some ce.cls) (hK : va_K D vwCl tys s) (hw : xp E S) (hP : va_P D vwCl (wf S) H) (hD : va_D A (wf S)) (hS : va_S A s.heap H locs) (hc : cells ≤ mc) (hs : slots ≤ ms) :
    vx_W p l e R s m args below meth c H locs cells slots (vx_MQ below Qc (gXC D tys wf xp A) args s mc ms A) (F0 m pc ls rest) q :=
  vx_out (fun x hx => (hEx x hx).elim) hlocks hce hcv hcl (fun t ht ha => ⟨(E, S), hw, ⟨rfl, by rw [ht]; exact hP, va_K.moved ha hK, hD⟩, hS.F ht⟩) hS.2.2 hc hs
/-- throw new E("text") -/
theorem g_throw {S : St} {own cls text : String} {ik is ic : Nat} {Qc : Array Value → State → Outcome → State → Prop} {xp : String → St → Prop} (hx : p.tables.exec = Jvm.exec) (hb : c.code = cc) (hl9 : l.stackTraces = false) (hown : s.vm.findClass own = some m.cls)
    (hk : (Cond.classLink own ik cls).before args s = true) (hini : (Cond.initialized cls).before args s = true) (hstr : ∃ sa, vk_R own is text sa s) (hat : ∀ w ∈ vx_atS own ic cls ["java/lang/RuntimeException", "java/lang/Exception"], w.before args s = true)
    (hcls : Bundle.fit cls = true) (hnames : ∀ n ∈ ["java/lang/RuntimeException", "java/lang/Exception"], Bundle.fit n = true)
    (hgood : ∀ w ∈ Cond.classLink own ik cls :: Cond.initialized cls :: vx_atS own ic cls ["java/lang/RuntimeException", "java/lang/Exception"], vx_ot w = true)
    (hG : gGF A s) (hK : va_K D vwCl tys s) (hP : va_P D vwCl (wf S) H) (hD : va_D A (wf S)) (hS : va_S A s.heap H locs) (hsize : ls.size = c.maxLocals)
    (d0 : decode cc pc = .ok (.new ik, 3)) (d3 : decode cc (pc + 3) = .ok (.dup, 1)) (d4 : decode cc (pc + 4) = .ok (.ldc is, 2)) (d6 : decode cc (pc + 6) = .ok (.invokespecial ic, 3)) (d9 : decode cc (pc + 9) = .ok (.athrow, 1))
    (hEx : ∀ x ∈ c.exceptionTable.toList, False) (hRf : 5 < R.frames) (hRl : (rest.map fun v => v.category).sum + 82 ≤ R.locals) (hRc : cells + 1 ≤ R.cells) (hRs : slots + 6 ≤ R.slots) (hlocks : meth.locks = false) (hw : xp cls S) (hc : cells + 1 ≤ mc) (hs : slots + 6 ≤ ms) :
    W p l e R s m args below meth c H locs cells slots (vx_MQ below Qc (gXC D tys wf xp A) args s mc ms A) (F0 m pc ls rest) := by
  obtain ⟨sa, hstr⟩ := hstr
  exact vx_throwS (names := ["java/lang/RuntimeException", "java/lang/Exception"]) hx hb hl9 hown hcls hnames hk hini hstr hat hgood hG.2.2.2.1 hG.2.2.2.2 hS hsize d0 d3 d4 d6 d9 (fun x hx => (hEx x hx).elim) hRf hRl hRc hRs hlocks
    (fun t ha hsz hk => ⟨(cls, S), hw, ⟨rfl, hP.kept (fun k q hq => hk q.1 (hP k q hq).lt), va_K.moved ha hK, hD⟩, Nat.le_trans hS.1 hsz, fun q h1 h2 => (hk q (Nat.lt_of_lt_of_le h1 hS.1)).trans (hS.2.1 q h1 h2)⟩) hS.2.2 hc hs
theorem g_iast {H0 : Heap} {S' : St} {a : Nat} (hexec : p.tables.exec = Jvm.exec) (hb : c.code = cc) (hK : va_K D vwCl tys s) (hP : va_P D vwCl w H) (hD : va_D A w) (hS : va_S A H0 H locs) (q0 t0 : Nat) {cA : ClassId} {n : Nat} {f : Nat → Int32} (ha : w[q0]? = some (a, .inl (cA, n, .inl f))) (ht : tys[t0]? = some (cA, .int)) {i : Int32} {x : Int32} (hset : w.set q0 (a, .inl (cA, n, .inl (upd f i.toNatClampNeg x))) = wf S') (hin : vp_in i n) (hdg : decode cc pc = .ok (.iastore, 1))
    (kk : ∀ (S1 : St) (e1 : S1 = S') (H1 : Heap) (locs1 : List Loc), va_P D vwCl (wf S1) H1 → va_D A (wf S1) → va_S A H0 H1 locs1 → W p l e R s m args below meth c H1 locs1 cells slots Q (F0 m (pc + 1) ls rest)) : W p l e R s m args below meth c H locs cells slots Q (F0 m pc ls (.int x :: .int i :: .ref a :: rest)) :=
  va_iast hexec hb hK hP hD hS q0 t0 ha ht hin hdg (fun H1 locs1 h1 h2 h3 => kk S' rfl H1 locs1 (hset ▸ h1) (hset ▸ h2) h3)
theorem g_last {H0 : Heap} {S' : St} {a : Nat} (hexec : p.tables.exec = Jvm.exec) (hb : c.code = cc) (hK : va_K D vwCl tys s) (hP : va_P D vwCl w H) (hD : va_D A w) (hS : va_S A H0 H locs) (q0 t0 : Nat) {cA : ClassId} {n : Nat} {f : Nat → Int64} (ha : w[q0]? = some (a, .inl (cA, n, .inr (.inl f)))) (ht : tys[t0]? = some (cA, .long)) {i : Int32} {x : Int64} (hset : w.set q0 (a, .inl (cA, n, .inr (.inl (vp_updL f i.toNatClampNeg x)))) = wf S') (hin : vp_in i n) (hdg : decode cc pc = .ok (.lastore, 1))
    (kk : ∀ (S1 : St) (e1 : S1 = S') (H1 : Heap) (locs1 : List Loc), va_P D vwCl (wf S1) H1 → va_D A (wf S1) → va_S A H0 H1 locs1 → W p l e R s m args below meth c H1 locs1 cells slots Q (F0 m (pc + 1) ls rest)) : W p l e R s m args below meth c H locs cells slots Q (F0 m pc ls (.long x :: .int i :: .ref a :: rest)) :=
  va_last hexec hb hK hP hD hS q0 t0 ha ht hin hdg (fun H1 locs1 h1 h2 h3 => kk S' rfl H1 locs1 (hset ▸ h1) (hset ▸ h2) h3)
theorem g_put {H0 : Heap} {S' : St} {a : Nat} (hexec : p.tables.exec = Jvm.exec) (hb : c.code = cc) {own ref C : String} {T : u_T} {N ci index : Nat} {Ts : List Cond} (hts : ∀ w ∈ Ts, w.before args s = true) (hin : ∀ w ∈ u_ws C T N, w ∈ Ts) (ty0 : Nat → FieldType) (hty : ∀ k, k < N → parseFieldDescriptor (T k).2.2.1 = some (ty0 k)) (hnm : ∀ a, a < N → ∀ b, b < N → a ≠ b → (T a).2.1 ≠ (T b).2.1) (hown : s.vm.findClass own = some m.cls) (hK : va_K D vwCl tys s) (hP : va_P D vwCl w H) (hD : va_D A w) (hS0 : va_S A H0 H locs) (q0 : Nat) {fs : List Value} (he : w[q0]? = some (a, .inr (ci, fs))) (hc : vwCl[ci]? = some (C, T, N)) (k : Nat) (hk : k < N) (hlink : (Cond.fieldLink own index ref (T k).2.1 (T k).2.2.1).before args s = true) (hsame : ∀ x, s.fieldFound? (T k).1 (T k).2.1 (T k).2.2.1 = some x → s.fieldFound? ref (T k).2.1 (T k).2.2.1 = some x) (hfin : (T k).2.2.2 = false) {ty : FieldType} {v : Value} (hd : parseFieldDescriptor (T k).2.2.1 = some ty) (hn : narrow ty v = v) (hfit : fits ty v = true) (hl : k < fs.length) (hset : w.set q0 (a, .inr (ci, fs.set k v)) = wf S')
    (hdg : decode cc pc = .ok (.putfield index, 3)) (kk : ∀ (S1 : St) (e1 : S1 = S') (H1 : Heap) (locs1 : List Loc), va_P D vwCl (wf S1) H1 → va_D A (wf S1) → va_S A H0 H1 locs1 → W p l e R s m args below meth c H1 locs1 cells slots Q (F0 m (pc + 3) ls rest)) : W p l e R s m args below meth c H locs cells slots Q (F0 m pc ls (v :: .ref a :: rest)) :=
  va_put hexec hb hts hin ty0 hty hnm hown hK hP hD hS0 q0 he hc k hk hlink hsame hfin hd hn hfit hl hdg (fun H1 locs1 h1 h2 h3 => kk S' rfl H1 locs1 (hset ▸ h1) (hset ▸ h2) h3)
/-- a new array of a class that is known -/
theorem g_newa {H0 : Heap} (hexec : p.tables.exec = Jvm.exec) (hb : c.code = cc) {atype : ArrayType} (harr : (Cond.arrayClass (newarray.typeOf atype)).before args s = true) {ty : FieldType} (hty : newarray.typeOf atype = ty) {cA : ClassId} (hcA : s.vm.findClass ("[" ++ ty.toString) = some cA) (hP : va_P D vwCl w H) (hD : va_D A w) (hS : va_S A H0 H locs) (hA : ∀ q, H0.size ≤ q → A q)
    {n : Int32} {N' : Nat} {a0 : vp_A} (ha : vp_cell cA a0 = arrV cA N' (fun _ => defaultValue ty)) (hn : ¬ n < 0) (hN : n.toNatClampNeg = N') (hbytes : N' * componentBytes ty ≤ 536870912) (hcells : cells + 1 ≤ R.cells) (hslots : slots + N' ≤ R.slots) (hdg : decode cc pc = .ok (.newarray atype, 2))
    (kk : ∀ (q : Nat) (H1 : Heap), va_P D vwCl (w ++ [(q, .inl (cA, a0))]) H1 → va_D A (w ++ [(q, .inl (cA, a0))]) → va_S A H0 H1 locs → W p l e R s m args below meth c H1 locs (cells + 1) (slots + N') Q (F0 m (pc + 2) ls (.ref q :: rest))) : W p l e R s m args below meth c H locs cells slots Q (F0 m pc ls (.int n :: rest)) := by
  subst hty
  refine va_newaK hexec hb harr rfl hdg rfl hn hN hbytes hcells hslots rfl fun H1 cB e1 z1 o1 hAr hNm => ?_
  have hcc : cB = cA := Option.some.inj (hNm.symm.trans hcA)
  subst hcc
  have hk : ∀ (k : Nat) (x : Nat × va_E), w[k]? = some x → H1[x.1]? = H[x.1]? := fun k x hx => o1 x.1 ((hP k x hx).lt)
  refine kk H.size H1 ((hP.kept hk).app (fun k x hx => ?_)) (hD.push hP rfl (hA _ hS.1)) ⟨Nat.le_trans hS.1 (by omega), fun x h1 h2 => (o1 x (Nat.lt_of_lt_of_le h1 hS.1)).trans (hS.2.1 x h1 h2), hS.2.2⟩
  match k, hx with
  | 0, hx => cases hx; show H1[H.size]? = some (vp_cell _ _); rw [e1, ha]
  | k + 1, hx => simp at hx
end GCALL
/-! a body gives a contract -/
section GOF
variable {l : Launch} {y : MethodName} {ws ws' : List Cond} {rm : Room} {D : va_G} {tys : List (ClassId × FieldType)} {av : List Value} {w0 : va_W} {St : Type} {wf : St → va_W} {cc : ByteArray} {maxL : Nat} {ret : Option FieldType} {own : String}
theorem g_ofMi {post : Int32 → St → Prop} (hy : plainName y.cls = true) (hw : ws = Cond.code y cc maxL ret :: ws') (hcls : y.cls = own) (hlen : (lg_sl av).length ≤ maxL)
    (body : ∀ (p : Program) (e : Env) (s : State) (m : MethodId) (below : List Frame) (meth : Method) (c : Code) (A : Nat → Prop) (H : Heap) (locs : List Loc) (ls : Array Slot), CallFix p m c cc maxL s av.toArray ws own → meth.sig.returnType = ret → meth.locks = false → va_K D vwCl tys s → gGF A s → (∀ q, s.heap.size ≤ q → A q) → va_P D vwCl w0 H → va_D A w0 → va_S A s.heap H locs → lv_has ls maxL (lv_args 0 av) →
      W p l e (headSpec ws rm).room s m av.toArray below meth c H locs 0 0 (MQ below (gQi D tys wf post A) av.toArray s rm.cells rm.slots A) (F0 m 0 ls [])) : gMi l y ws rm D tys av w0 wf post := by
  intro sz
  refine Met.ofW (cc := cc) (maxL := maxL) (ret := ret) hy hw ?_
  intro p e s m args below meth c s₁ B hml hv
  obtain ⟨rfl, hsz, hP, hK, hD0, hG⟩ := hv
  subst hsz
  have hts := atoms_spec (ws := ws) B.pre
  have hown : s.vm.findClass own = some m.cls := by rw [← hcls]; exact findClass_of_methodNamed B.named
  have hl := lv_entry av (n := maxL) hlen
  rw [lg_entry_eq]
  refine body p e s m below meth c (va_A w0 s.heap.size) s.heap [] _ ⟨B.exec, B.bytes, hml, hown, hts⟩ B.returns B.notSynchronized hK hG (fun q h => Or.inr h) hP hD0.self va_S.rf hl
theorem g_ofXi {post : Int32 → St → Prop} {xp : String → St → Prop} (hy : plainName y.cls = true) (hw : ws = Cond.code y cc maxL ret :: ws') (hcls : y.cls = own) (hlen : (lg_sl av).length ≤ maxL)
    (body : ∀ (p : Program) (e : Env) (s : State) (m : MethodId) (below : List Frame) (meth : Method) (c : Code) (A : Nat → Prop) (H : Heap) (locs : List Loc) (ls : Array Slot), CallFix p m c cc maxL s av.toArray ws own → meth.sig.returnType = ret → meth.locks = false → (∀ x ∈ c.exceptionTable.toList, False) → va_K D vwCl tys s → gGF A s → (∀ q, s.heap.size ≤ q → A q) → va_P D vwCl w0 H → va_D A w0 → va_S A s.heap H locs → lv_has ls maxL (lv_args 0 av) →
      W p l e (headSpec ws rm).room s m av.toArray below meth c H locs 0 0 (vx_MQ below (gT (gQi D tys wf post A) A) (gXC D tys wf xp A) av.toArray s rm.cells rm.slots A) (F0 m 0 ls [])) : gXi l y ws rm D tys av w0 wf post xp := by
  intro sz
  refine vx_ofW (cc := cc) (maxL := maxL) (ret := ret) hy hw ?_
  intro p e s m args below meth c s₁ B hml hEx hv
  obtain ⟨rfl, hsz, hP, hK, hD0, hG⟩ := hv
  subst hsz
  have hts := atoms_spec (ws := ws) B.pre
  have hown : s.vm.findClass own = some m.cls := by rw [← hcls]; exact findClass_of_methodNamed B.named
  have hl := lv_entry av (n := maxL) hlen
  rw [lg_entry_eq]
  refine body p e s m below meth c (va_A w0 s.heap.size) s.heap [] _ ⟨B.exec, B.bytes, hml, hown, hts⟩ B.returns B.notSynchronized hEx hK hG (fun q h => Or.inr h) hP hD0.self va_S.rf hl
theorem g_ofWi {post : Int32 → St → Prop} {hh : List (Nat × Nat × Nat × Nat)} (hy : plainName y.cls = true) (hw : ws = Cond.codeWith y cc maxL ret hh :: ws') (hcls : y.cls = own) (hlen : (lg_sl av).length ≤ maxL)
    (body : ∀ (p : Program) (e : Env) (s : State) (m : MethodId) (below : List Frame) (meth : Method) (c : Code) (A : Nat → Prop) (H : Heap) (locs : List Loc) (ls : Array Slot), CallFix p m c cc maxL s av.toArray ws own → meth.sig.returnType = ret → meth.locks = false → c.exceptionTable.toList = tableOf hh → va_K D vwCl tys s → gGF A s → (∀ q, s.heap.size ≤ q → A q) → va_P D vwCl w0 H → va_D A w0 → va_S A s.heap H locs → lv_has ls maxL (lv_args 0 av) →
      W p l e (headSpec ws rm).room s m av.toArray below meth c H locs 0 0 (MQ below (gQi D tys wf post A) av.toArray s rm.cells rm.slots A) (F0 m 0 ls [])) : gMi l y ws rm D tys av w0 wf post := by
  intro sz
  refine va_MetW (cc := cc) (maxL := maxL) (ret := ret) (hh := hh) hy hw ?_
  intro p e s m args below meth c s₁ B hml hv
  obtain ⟨rfl, hsz, hP, hK, hD0, hG⟩ := hv
  subst hsz
  have hts := atoms_spec (ws := ws) B.pre
  have hown : s.vm.findClass own = some m.cls := by rw [← hcls]; exact findClass_of_methodNamed B.named
  have hl := lv_entry av (n := maxL) hlen
  rw [lg_entry_eq]
  refine body p e s m below meth c (va_A w0 s.heap.size) s.heap [] _ ⟨B.exec, B.bytes, hml, hown, hts⟩ B.returns B.notSynchronized (vx_table (x := y) B (hts _ (by rw [hw]; exact List.mem_cons_self))) hK hG (fun q h => Or.inr h) hP hD0.self va_S.rf hl
theorem g_ofMz {post : Int32 → St → Prop} (hy : plainName y.cls = true) (hw : ws = Cond.code y cc maxL ret :: ws') (hcls : y.cls = own) (hlen : (lg_sl av).length ≤ maxL)
    (body : ∀ (p : Program) (e : Env) (s : State) (m : MethodId) (below : List Frame) (meth : Method) (c : Code) (A : Nat → Prop) (H : Heap) (locs : List Loc) (ls : Array Slot), CallFix p m c cc maxL s av.toArray ws own → meth.sig.returnType = ret → meth.locks = false → va_K D vwCl tys s → gGF A s → (∀ q, s.heap.size ≤ q → A q) → va_P D vwCl w0 H → va_D A w0 → va_S A s.heap H locs → lv_has ls maxL (lv_args 0 av) →
      W p l e (headSpec ws rm).room s m av.toArray below meth c H locs 0 0 (MQ below (gQz D tys wf post A) av.toArray s rm.cells rm.slots A) (F0 m 0 ls [])) : gMz l y ws rm D tys av w0 wf post := by
  intro sz
  refine Met.ofW (cc := cc) (maxL := maxL) (ret := ret) hy hw ?_
  intro p e s m args below meth c s₁ B hml hv
  obtain ⟨rfl, hsz, hP, hK, hD0, hG⟩ := hv
  subst hsz
  have hts := atoms_spec (ws := ws) B.pre
  have hown : s.vm.findClass own = some m.cls := by rw [← hcls]; exact findClass_of_methodNamed B.named
  have hl := lv_entry av (n := maxL) hlen
  rw [lg_entry_eq]
  refine body p e s m below meth c (va_A w0 s.heap.size) s.heap [] _ ⟨B.exec, B.bytes, hml, hown, hts⟩ B.returns B.notSynchronized hK hG (fun q h => Or.inr h) hP hD0.self va_S.rf hl
theorem g_ofXz {post : Int32 → St → Prop} {xp : String → St → Prop} (hy : plainName y.cls = true) (hw : ws = Cond.code y cc maxL ret :: ws') (hcls : y.cls = own) (hlen : (lg_sl av).length ≤ maxL)
    (body : ∀ (p : Program) (e : Env) (s : State) (m : MethodId) (below : List Frame) (meth : Method) (c : Code) (A : Nat → Prop) (H : Heap) (locs : List Loc) (ls : Array Slot), CallFix p m c cc maxL s av.toArray ws own → meth.sig.returnType = ret → meth.locks = false → (∀ x ∈ c.exceptionTable.toList, False) → va_K D vwCl tys s → gGF A s → (∀ q, s.heap.size ≤ q → A q) → va_P D vwCl w0 H → va_D A w0 → va_S A s.heap H locs → lv_has ls maxL (lv_args 0 av) →
      W p l e (headSpec ws rm).room s m av.toArray below meth c H locs 0 0 (vx_MQ below (gT (gQz D tys wf post A) A) (gXC D tys wf xp A) av.toArray s rm.cells rm.slots A) (F0 m 0 ls [])) : gXz l y ws rm D tys av w0 wf post xp := by
  intro sz
  refine vx_ofW (cc := cc) (maxL := maxL) (ret := ret) hy hw ?_
  intro p e s m args below meth c s₁ B hml hEx hv
  obtain ⟨rfl, hsz, hP, hK, hD0, hG⟩ := hv
  subst hsz
  have hts := atoms_spec (ws := ws) B.pre
  have hown : s.vm.findClass own = some m.cls := by rw [← hcls]; exact findClass_of_methodNamed B.named
  have hl := lv_entry av (n := maxL) hlen
  rw [lg_entry_eq]
  refine body p e s m below meth c (va_A w0 s.heap.size) s.heap [] _ ⟨B.exec, B.bytes, hml, hown, hts⟩ B.returns B.notSynchronized hEx hK hG (fun q h => Or.inr h) hP hD0.self va_S.rf hl
theorem g_ofWz {post : Int32 → St → Prop} {hh : List (Nat × Nat × Nat × Nat)} (hy : plainName y.cls = true) (hw : ws = Cond.codeWith y cc maxL ret hh :: ws') (hcls : y.cls = own) (hlen : (lg_sl av).length ≤ maxL)
    (body : ∀ (p : Program) (e : Env) (s : State) (m : MethodId) (below : List Frame) (meth : Method) (c : Code) (A : Nat → Prop) (H : Heap) (locs : List Loc) (ls : Array Slot), CallFix p m c cc maxL s av.toArray ws own → meth.sig.returnType = ret → meth.locks = false → c.exceptionTable.toList = tableOf hh → va_K D vwCl tys s → gGF A s → (∀ q, s.heap.size ≤ q → A q) → va_P D vwCl w0 H → va_D A w0 → va_S A s.heap H locs → lv_has ls maxL (lv_args 0 av) →
      W p l e (headSpec ws rm).room s m av.toArray below meth c H locs 0 0 (MQ below (gQz D tys wf post A) av.toArray s rm.cells rm.slots A) (F0 m 0 ls [])) : gMz l y ws rm D tys av w0 wf post := by
  intro sz
  refine va_MetW (cc := cc) (maxL := maxL) (ret := ret) (hh := hh) hy hw ?_
  intro p e s m args below meth c s₁ B hml hv
  obtain ⟨rfl, hsz, hP, hK, hD0, hG⟩ := hv
  subst hsz
  have hts := atoms_spec (ws := ws) B.pre
  have hown : s.vm.findClass own = some m.cls := by rw [← hcls]; exact findClass_of_methodNamed B.named
  have hl := lv_entry av (n := maxL) hlen
  rw [lg_entry_eq]
  refine body p e s m below meth c (va_A w0 s.heap.size) s.heap [] _ ⟨B.exec, B.bytes, hml, hown, hts⟩ B.returns B.notSynchronized (vx_table (x := y) B (hts _ (by rw [hw]; exact List.mem_cons_self))) hK hG (fun q h => Or.inr h) hP hD0.self va_S.rf hl
theorem g_ofMl {post : Int64 → St → Prop} (hy : plainName y.cls = true) (hw : ws = Cond.code y cc maxL ret :: ws') (hcls : y.cls = own) (hlen : (lg_sl av).length ≤ maxL)
    (body : ∀ (p : Program) (e : Env) (s : State) (m : MethodId) (below : List Frame) (meth : Method) (c : Code) (A : Nat → Prop) (H : Heap) (locs : List Loc) (ls : Array Slot), CallFix p m c cc maxL s av.toArray ws own → meth.sig.returnType = ret → meth.locks = false → va_K D vwCl tys s → gGF A s → (∀ q, s.heap.size ≤ q → A q) → va_P D vwCl w0 H → va_D A w0 → va_S A s.heap H locs → lv_has ls maxL (lv_args 0 av) →
      W p l e (headSpec ws rm).room s m av.toArray below meth c H locs 0 0 (MQ below (gQl D tys wf post A) av.toArray s rm.cells rm.slots A) (F0 m 0 ls [])) : gMl l y ws rm D tys av w0 wf post := by
  intro sz
  refine Met.ofW (cc := cc) (maxL := maxL) (ret := ret) hy hw ?_
  intro p e s m args below meth c s₁ B hml hv
  obtain ⟨rfl, hsz, hP, hK, hD0, hG⟩ := hv
  subst hsz
  have hts := atoms_spec (ws := ws) B.pre
  have hown : s.vm.findClass own = some m.cls := by rw [← hcls]; exact findClass_of_methodNamed B.named
  have hl := lv_entry av (n := maxL) hlen
  rw [lg_entry_eq]
  refine body p e s m below meth c (va_A w0 s.heap.size) s.heap [] _ ⟨B.exec, B.bytes, hml, hown, hts⟩ B.returns B.notSynchronized hK hG (fun q h => Or.inr h) hP hD0.self va_S.rf hl
theorem g_ofXl {post : Int64 → St → Prop} {xp : String → St → Prop} (hy : plainName y.cls = true) (hw : ws = Cond.code y cc maxL ret :: ws') (hcls : y.cls = own) (hlen : (lg_sl av).length ≤ maxL)
    (body : ∀ (p : Program) (e : Env) (s : State) (m : MethodId) (below : List Frame) (meth : Method) (c : Code) (A : Nat → Prop) (H : Heap) (locs : List Loc) (ls : Array Slot), CallFix p m c cc maxL s av.toArray ws own → meth.sig.returnType = ret → meth.locks = false → (∀ x ∈ c.exceptionTable.toList, False) → va_K D vwCl tys s → gGF A s → (∀ q, s.heap.size ≤ q → A q) → va_P D vwCl w0 H → va_D A w0 → va_S A s.heap H locs → lv_has ls maxL (lv_args 0 av) →
      W p l e (headSpec ws rm).room s m av.toArray below meth c H locs 0 0 (vx_MQ below (gT (gQl D tys wf post A) A) (gXC D tys wf xp A) av.toArray s rm.cells rm.slots A) (F0 m 0 ls [])) : gXl l y ws rm D tys av w0 wf post xp := by
  intro sz
  refine vx_ofW (cc := cc) (maxL := maxL) (ret := ret) hy hw ?_
  intro p e s m args below meth c s₁ B hml hEx hv
  obtain ⟨rfl, hsz, hP, hK, hD0, hG⟩ := hv
  subst hsz
  have hts := atoms_spec (ws := ws) B.pre
  have hown : s.vm.findClass own = some m.cls := by rw [← hcls]; exact findClass_of_methodNamed B.named
  have hl := lv_entry av (n := maxL) hlen
  rw [lg_entry_eq]
  refine body p e s m below meth c (va_A w0 s.heap.size) s.heap [] _ ⟨B.exec, B.bytes, hml, hown, hts⟩ B.returns B.notSynchronized hEx hK hG (fun q h => Or.inr h) hP hD0.self va_S.rf hl
theorem g_ofWl {post : Int64 → St → Prop} {hh : List (Nat × Nat × Nat × Nat)} (hy : plainName y.cls = true) (hw : ws = Cond.codeWith y cc maxL ret hh :: ws') (hcls : y.cls = own) (hlen : (lg_sl av).length ≤ maxL)
    (body : ∀ (p : Program) (e : Env) (s : State) (m : MethodId) (below : List Frame) (meth : Method) (c : Code) (A : Nat → Prop) (H : Heap) (locs : List Loc) (ls : Array Slot), CallFix p m c cc maxL s av.toArray ws own → meth.sig.returnType = ret → meth.locks = false → c.exceptionTable.toList = tableOf hh → va_K D vwCl tys s → gGF A s → (∀ q, s.heap.size ≤ q → A q) → va_P D vwCl w0 H → va_D A w0 → va_S A s.heap H locs → lv_has ls maxL (lv_args 0 av) →
      W p l e (headSpec ws rm).room s m av.toArray below meth c H locs 0 0 (MQ below (gQl D tys wf post A) av.toArray s rm.cells rm.slots A) (F0 m 0 ls [])) : gMl l y ws rm D tys av w0 wf post := by
  intro sz
  refine va_MetW (cc := cc) (maxL := maxL) (ret := ret) (hh := hh) hy hw ?_
  intro p e s m args below meth c s₁ B hml hv
  obtain ⟨rfl, hsz, hP, hK, hD0, hG⟩ := hv
  subst hsz
  have hts := atoms_spec (ws := ws) B.pre
  have hown : s.vm.findClass own = some m.cls := by rw [← hcls]; exact findClass_of_methodNamed B.named
  have hl := lv_entry av (n := maxL) hlen
  rw [lg_entry_eq]
  refine body p e s m below meth c (va_A w0 s.heap.size) s.heap [] _ ⟨B.exec, B.bytes, hml, hown, hts⟩ B.returns B.notSynchronized (vx_table (x := y) B (hts _ (by rw [hw]; exact List.mem_cons_self))) hK hG (fun q h => Or.inr h) hP hD0.self va_S.rf hl
theorem g_ofMv {post : St → Prop} (hy : plainName y.cls = true) (hw : ws = Cond.code y cc maxL ret :: ws') (hcls : y.cls = own) (hlen : (lg_sl av).length ≤ maxL)
    (body : ∀ (p : Program) (e : Env) (s : State) (m : MethodId) (below : List Frame) (meth : Method) (c : Code) (A : Nat → Prop) (H : Heap) (locs : List Loc) (ls : Array Slot), CallFix p m c cc maxL s av.toArray ws own → meth.sig.returnType = ret → meth.locks = false → va_K D vwCl tys s → gGF A s → (∀ q, s.heap.size ≤ q → A q) → va_P D vwCl w0 H → va_D A w0 → va_S A s.heap H locs → lv_has ls maxL (lv_args 0 av) →
      W p l e (headSpec ws rm).room s m av.toArray below meth c H locs 0 0 (MQ below (gQv D tys wf post A) av.toArray s rm.cells rm.slots A) (F0 m 0 ls [])) : gMv l y ws rm D tys av w0 wf post := by
  intro sz
  refine Met.ofW (cc := cc) (maxL := maxL) (ret := ret) hy hw ?_
  intro p e s m args below meth c s₁ B hml hv
  obtain ⟨rfl, hsz, hP, hK, hD0, hG⟩ := hv
  subst hsz
  have hts := atoms_spec (ws := ws) B.pre
  have hown : s.vm.findClass own = some m.cls := by rw [← hcls]; exact findClass_of_methodNamed B.named
  have hl := lv_entry av (n := maxL) hlen
  rw [lg_entry_eq]
  refine body p e s m below meth c (va_A w0 s.heap.size) s.heap [] _ ⟨B.exec, B.bytes, hml, hown, hts⟩ B.returns B.notSynchronized hK hG (fun q h => Or.inr h) hP hD0.self va_S.rf hl
theorem g_ofXv {post : St → Prop} {xp : String → St → Prop} (hy : plainName y.cls = true) (hw : ws = Cond.code y cc maxL ret :: ws') (hcls : y.cls = own) (hlen : (lg_sl av).length ≤ maxL)
    (body : ∀ (p : Program) (e : Env) (s : State) (m : MethodId) (below : List Frame) (meth : Method) (c : Code) (A : Nat → Prop) (H : Heap) (locs : List Loc) (ls : Array Slot), CallFix p m c cc maxL s av.toArray ws own → meth.sig.returnType = ret → meth.locks = false → (∀ x ∈ c.exceptionTable.toList, False) → va_K D vwCl tys s → gGF A s → (∀ q, s.heap.size ≤ q → A q) → va_P D vwCl w0 H → va_D A w0 → va_S A s.heap H locs → lv_has ls maxL (lv_args 0 av) →
      W p l e (headSpec ws rm).room s m av.toArray below meth c H locs 0 0 (vx_MQ below (gT (gQv D tys wf post A) A) (gXC D tys wf xp A) av.toArray s rm.cells rm.slots A) (F0 m 0 ls [])) : gXv l y ws rm D tys av w0 wf post xp := by
  intro sz
  refine vx_ofW (cc := cc) (maxL := maxL) (ret := ret) hy hw ?_
  intro p e s m args below meth c s₁ B hml hEx hv
  obtain ⟨rfl, hsz, hP, hK, hD0, hG⟩ := hv
  subst hsz
  have hts := atoms_spec (ws := ws) B.pre
  have hown : s.vm.findClass own = some m.cls := by rw [← hcls]; exact findClass_of_methodNamed B.named
  have hl := lv_entry av (n := maxL) hlen
  rw [lg_entry_eq]
  refine body p e s m below meth c (va_A w0 s.heap.size) s.heap [] _ ⟨B.exec, B.bytes, hml, hown, hts⟩ B.returns B.notSynchronized hEx hK hG (fun q h => Or.inr h) hP hD0.self va_S.rf hl
theorem g_ofWv {post : St → Prop} {hh : List (Nat × Nat × Nat × Nat)} (hy : plainName y.cls = true) (hw : ws = Cond.codeWith y cc maxL ret hh :: ws') (hcls : y.cls = own) (hlen : (lg_sl av).length ≤ maxL)
    (body : ∀ (p : Program) (e : Env) (s : State) (m : MethodId) (below : List Frame) (meth : Method) (c : Code) (A : Nat → Prop) (H : Heap) (locs : List Loc) (ls : Array Slot), CallFix p m c cc maxL s av.toArray ws own → meth.sig.returnType = ret → meth.locks = false → c.exceptionTable.toList = tableOf hh → va_K D vwCl tys s → gGF A s → (∀ q, s.heap.size ≤ q → A q) → va_P D vwCl w0 H → va_D A w0 → va_S A s.heap H locs → lv_has ls maxL (lv_args 0 av) →
      W p l e (headSpec ws rm).room s m av.toArray below meth c H locs 0 0 (MQ below (gQv D tys wf post A) av.toArray s rm.cells rm.slots A) (F0 m 0 ls [])) : gMv l y ws rm D tys av w0 wf post := by
  intro sz
  refine va_MetW (cc := cc) (maxL := maxL) (ret := ret) (hh := hh) hy hw ?_
  intro p e s m args below meth c s₁ B hml hv
  obtain ⟨rfl, hsz, hP, hK, hD0, hG⟩ := hv
  subst hsz
  have hts := atoms_spec (ws := ws) B.pre
  have hown : s.vm.findClass own = some m.cls := by rw [← hcls]; exact findClass_of_methodNamed B.named
  have hl := lv_entry av (n := maxL) hlen
  rw [lg_entry_eq]
  refine body p e s m below meth c (va_A w0 s.heap.size) s.heap [] _ ⟨B.exec, B.bytes, hml, hown, hts⟩ B.returns B.notSynchronized (vx_table (x := y) B (hts _ (by rw [hw]; exact List.mem_cons_self))) hK hG (fun q h => Or.inr h) hP hD0.self va_S.rf hl
theorem g_ofIv {post : St → Prop} (hy : plainName y.cls = true) (hw : ws = Cond.code y cc maxL ret :: ws') (hcls : y.cls = own) (hlen : (lg_sl av).length ≤ maxL)
    (body : ∀ (p : Program) (e : Env) (s : State) (m : MethodId) (below : List Frame) (meth : Method) (c : Code) (A : Nat → Prop) (H : Heap) (locs : List Loc) (ls : Array Slot), CallFix p m c cc maxL s av.toArray ws own → meth.sig.returnType = ret → meth.locks = false → meth.name = y.name → va_K D vwCl tys s → gGF A s → (∀ q, s.heap.size ≤ q → A q) → va_P D vwCl w0 H → va_D A w0 → va_S A s.heap H locs → lv_has ls maxL (lv_args 0 av) →
      W p l e (headSpec ws rm).room s m av.toArray below meth c H locs 0 0 (MQ below (gQv D tys wf post A) av.toArray s rm.cells rm.slots A) (F0 m 0 ls [])) : gMv l y ws rm D tys av w0 wf post := by
  intro sz
  refine Met.ofW (cc := cc) (maxL := maxL) (ret := ret) hy hw ?_
  intro p e s m args below meth c s₁ B hml hv
  obtain ⟨rfl, hsz, hP, hK, hD0, hG⟩ := hv
  subst hsz
  have hts := atoms_spec (ws := ws) B.pre
  have hown : s.vm.findClass own = some m.cls := by rw [← hcls]; exact findClass_of_methodNamed B.named
  have hl := lv_entry av (n := maxL) hlen
  rw [lg_entry_eq]
  refine body p e s m below meth c (va_A w0 s.heap.size) s.heap [] _ ⟨B.exec, B.bytes, hml, hown, hts⟩ B.returns B.notSynchronized (name_of_methodNamed B.named B.method).1 hK hG (fun q h => Or.inr h) hP hD0.self va_S.rf hl
end GOF

theorem g_at_IAE {args : Array Value} {s : State} {A : Nat → Prop} (hts : ∀ w ∈ gW, w.before args s = true) (hG : gGF A s) : ∀ w ∈ vx_atS RX9 179 "java/lang/IllegalArgumentException" ["java/lang/RuntimeException", "java/lang/Exception"], w.before args s = true := vx_hat (B := gBad_IAE) (fun w h => hts w (gWt_IAE_in w h)) gB9_IAE (fun w h => va_Nw.use (gBad_IAE_t w h) (hG.1 w (gBad_IAE_in w h)))
theorem gO_IAE_175 : ∀ w ∈ Cond.classLink RX9 175 "java/lang/IllegalArgumentException" :: Cond.initialized "java/lang/IllegalArgumentException" :: vx_atS RX9 179 "java/lang/IllegalArgumentException" ["java/lang/RuntimeException", "java/lang/Exception"], vx_ot w = true := by decide +kernel
theorem g_at_IOB {args : Array Value} {s : State} {A : Nat → Prop} (hts : ∀ w ∈ gW, w.before args s = true) (hG : gGF A s) : ∀ w ∈ vx_atS RX9 90 "java/lang/IndexOutOfBoundsException" ["java/lang/RuntimeException", "java/lang/Exception"], w.before args s = true := vx_hat (B := gBad_IOB) (fun w h => hts w (gWt_IOB_in w h)) gB9_IOB (fun w h => va_Nw.use (gBad_IOB_t w h) (hG.1 w (gBad_IOB_in w h)))
theorem gO_IOB_86 : ∀ w ∈ Cond.classLink RX9 86 "java/lang/IndexOutOfBoundsException" :: Cond.initialized "java/lang/IndexOutOfBoundsException" :: vx_atS RX9 90 "java/lang/IndexOutOfBoundsException" ["java/lang/RuntimeException", "java/lang/Exception"], vx_ot w = true := by decide +kernel
theorem g_at_ISE {args : Array Value} {s : State} {A : Nat → Prop} (hts : ∀ w ∈ gW, w.before args s = true) (hG : gGF A s) : ∀ w ∈ vx_atS RX9 114 "java/lang/IllegalStateException" ["java/lang/RuntimeException", "java/lang/Exception"], w.before args s = true := vx_hat (B := gBad_ISE) (fun w h => hts w (gWt_ISE_in w h)) gB9_ISE (fun w h => va_Nw.use (gBad_ISE_t w h) (hG.1 w (gBad_ISE_in w h)))
theorem gO_ISE_110 : ∀ w ∈ Cond.classLink RX9 110 "java/lang/IllegalStateException" :: Cond.initialized "java/lang/IllegalStateException" :: vx_atS RX9 114 "java/lang/IllegalStateException" ["java/lang/RuntimeException", "java/lang/Exception"], vx_ot w = true := by decide +kernel
theorem g_at_UOE {args : Array Value} {s : State} {A : Nat → Prop} (hts : ∀ w ∈ gW, w.before args s = true) (hG : gGF A s) : ∀ w ∈ vx_atS RX9 99 "java/lang/UnsupportedOperationException" ["java/lang/RuntimeException", "java/lang/Exception"], w.before args s = true := vx_hat (B := gBad_UOE) (fun w h => hts w (gWt_UOE_in w h)) gB9_UOE (fun w h => va_Nw.use (gBad_UOE_t w h) (hG.1 w (gBad_UOE_in w h)))
theorem gO_UOE_95 : ∀ w ∈ Cond.classLink RX9 95 "java/lang/UnsupportedOperationException" :: Cond.initialized "java/lang/UnsupportedOperationException" :: vx_atS RX9 99 "java/lang/UnsupportedOperationException" ["java/lang/RuntimeException", "java/lang/Exception"], vx_ot w = true := by decide +kernel
end
section
abbrev XSt : Type := (Nat → Int32) × (Nat → Int32) × (Nat → Int32) × (Nat → Int32) × (Nat → Int32) × (Nat → Int32) × (Nat → Int32) × (Nat → Int32) × (Nat → Int32) × (Nat → Int32) × (Nat → Int32) × (Nat → Int64) × (Nat → Int64) × (Nat → Int64) × (Nat → Int64) × Int32 × Int32 × Int32 × Int64 × Int64 × Int64
abbrev xKi (S : XSt) : (Nat → Int32) := S.1
abbrev xWe (S : XSt) : (Nat → Int32) := S.2.1
abbrev xLe (S : XSt) : (Nat → Int32) := S.2.2.1
abbrev xSt (S : XSt) : (Nat → Int32) := S.2.2.2.1
abbrev xSo (S : XSt) : (Nat → Int32) := S.2.2.2.2.1
abbrev xSe (S : XSt) : (Nat → Int32) := S.2.2.2.2.2.1
abbrev xRo (S : XSt) : (Nat → Int32) := S.2.2.2.2.2.2.1
abbrev xSm (S : XSt) : (Nat → Int32) := S.2.2.2.2.2.2.2.1
abbrev xRU (S : XSt) : (Nat → Int32) := S.2.2.2.2.2.2.2.2.1
abbrev xRL (S : XSt) : (Nat → Int32) := S.2.2.2.2.2.2.2.2.2.1
abbrev xDM (S : XSt) : (Nat → Int32) := S.2.2.2.2.2.2.2.2.2.2.1
abbrev xDU (S : XSt) : (Nat → Int64) := S.2.2.2.2.2.2.2.2.2.2.2.1
abbrev xDL (S : XSt) : (Nat → Int64) := S.2.2.2.2.2.2.2.2.2.2.2.2.1
abbrev xFU (S : XSt) : (Nat → Int64) := S.2.2.2.2.2.2.2.2.2.2.2.2.2.1
abbrev xFL (S : XSt) : (Nat → Int64) := S.2.2.2.2.2.2.2.2.2.2.2.2.2.2.1
abbrev xpc (S : XSt) : Int32 := S.2.2.2.2.2.2.2.2.2.2.2.2.2.2.2.1
abbrev xdc (S : XSt) : Int32 := S.2.2.2.2.2.2.2.2.2.2.2.2.2.2.2.2.1
abbrev xhp (S : XSt) : Int32 := S.2.2.2.2.2.2.2.2.2.2.2.2.2.2.2.2.2.1
abbrev xml (S : XSt) : Int64 := S.2.2.2.2.2.2.2.2.2.2.2.2.2.2.2.2.2.2.1
abbrev xup (S : XSt) : Int64 := S.2.2.2.2.2.2.2.2.2.2.2.2.2.2.2.2.2.2.2.1
abbrev xlo (S : XSt) : Int64 := S.2.2.2.2.2.2.2.2.2.2.2.2.2.2.2.2.2.2.2.2
abbrev xsKi (S : XSt) (v : (Nat → Int32)) : XSt := (v, S.2)
def xuKi (S : XSt) (i : Int32) (x : Int32) : XSt := xsKi S (upd (xKi S) i.toNatClampNeg x)
abbrev xsWe (S : XSt) (v : (Nat → Int32)) : XSt := (S.1, v, S.2.2)
def xuWe (S : XSt) (i : Int32) (x : Int32) : XSt := xsWe S (upd (xWe S) i.toNatClampNeg x)
abbrev xsLe (S : XSt) (v : (Nat → Int32)) : XSt := (S.1, S.2.1, v, S.2.2.2)
def xuLe (S : XSt) (i : Int32) (x : Int32) : XSt := xsLe S (upd (xLe S) i.toNatClampNeg x)
abbrev xsSt (S : XSt) (v : (Nat → Int32)) : XSt := (S.1, S.2.1, S.2.2.1, v, S.2.2.2.2)
def xuSt (S : XSt) (i : Int32) (x : Int32) : XSt := xsSt S (upd (xSt S) i.toNatClampNeg x)
abbrev xsSo (S : XSt) (v : (Nat → Int32)) : XSt := (S.1, S.2.1, S.2.2.1, S.2.2.2.1, v, S.2.2.2.2.2)
def xuSo (S : XSt) (i : Int32) (x : Int32) : XSt := xsSo S (upd (xSo S) i.toNatClampNeg x)
abbrev xsSe (S : XSt) (v : (Nat → Int32)) : XSt := (S.1, S.2.1, S.2.2.1, S.2.2.2.1, S.2.2.2.2.1, v, S.2.2.2.2.2.2)
def xuSe (S : XSt) (i : Int32) (x : Int32) : XSt := xsSe S (upd (xSe S) i.toNatClampNeg x)
abbrev xsRo (S : XSt) (v : (Nat → Int32)) : XSt := (S.1, S.2.1, S.2.2.1, S.2.2.2.1, S.2.2.2.2.1, S.2.2.2.2.2.1, v, S.2.2.2.2.2.2.2)
def xuRo (S : XSt) (i : Int32) (x : Int32) : XSt := xsRo S (upd (xRo S) i.toNatClampNeg x)
abbrev xsSm (S : XSt) (v : (Nat → Int32)) : XSt := (S.1, S.2.1, S.2.2.1, S.2.2.2.1, S.2.2.2.2.1, S.2.2.2.2.2.1, S.2.2.2.2.2.2.1, v, S.2.2.2.2.2.2.2.2)
def xuSm (S : XSt) (i : Int32) (x : Int32) : XSt := xsSm S (upd (xSm S) i.toNatClampNeg x)
abbrev xsRU (S : XSt) (v : (Nat → Int32)) : XSt := (S.1, S.2.1, S.2.2.1, S.2.2.2.1, S.2.2.2.2.1, S.2.2.2.2.2.1, S.2.2.2.2.2.2.1, S.2.2.2.2.2.2.2.1, v, S.2.2.2.2.2.2.2.2.2)
def xuRU (S : XSt) (i : Int32) (x : Int32) : XSt := xsRU S (upd (xRU S) i.toNatClampNeg x)
abbrev xsRL (S : XSt) (v : (Nat → Int32)) : XSt := (S.1, S.2.1, S.2.2.1, S.2.2.2.1, S.2.2.2.2.1, S.2.2.2.2.2.1, S.2.2.2.2.2.2.1, S.2.2.2.2.2.2.2.1, S.2.2.2.2.2.2.2.2.1, v, S.2.2.2.2.2.2.2.2.2.2)
def xuRL (S : XSt) (i : Int32) (x : Int32) : XSt := xsRL S (upd (xRL S) i.toNatClampNeg x)
abbrev xsDM (S : XSt) (v : (Nat → Int32)) : XSt := (S.1, S.2.1, S.2.2.1, S.2.2.2.1, S.2.2.2.2.1, S.2.2.2.2.2.1, S.2.2.2.2.2.2.1, S.2.2.2.2.2.2.2.1, S.2.2.2.2.2.2.2.2.1, S.2.2.2.2.2.2.2.2.2.1, v, S.2.2.2.2.2.2.2.2.2.2.2)
def xuDM (S : XSt) (i : Int32) (x : Int32) : XSt := xsDM S (upd (xDM S) i.toNatClampNeg x)
abbrev xsDU (S : XSt) (v : (Nat → Int64)) : XSt := (S.1, S.2.1, S.2.2.1, S.2.2.2.1, S.2.2.2.2.1, S.2.2.2.2.2.1, S.2.2.2.2.2.2.1, S.2.2.2.2.2.2.2.1, S.2.2.2.2.2.2.2.2.1, S.2.2.2.2.2.2.2.2.2.1, S.2.2.2.2.2.2.2.2.2.2.1, v, S.2.2.2.2.2.2.2.2.2.2.2.2)
def xuDU (S : XSt) (i : Int32) (x : Int64) : XSt := xsDU S (vp_updL (xDU S) i.toNatClampNeg x)
abbrev xsDL (S : XSt) (v : (Nat → Int64)) : XSt := (S.1, S.2.1, S.2.2.1, S.2.2.2.1, S.2.2.2.2.1, S.2.2.2.2.2.1, S.2.2.2.2.2.2.1, S.2.2.2.2.2.2.2.1, S.2.2.2.2.2.2.2.2.1, S.2.2.2.2.2.2.2.2.2.1, S.2.2.2.2.2.2.2.2.2.2.1, S.2.2.2.2.2.2.2.2.2.2.2.1, v, S.2.2.2.2.2.2.2.2.2.2.2.2.2)
def xuDL (S : XSt) (i : Int32) (x : Int64) : XSt := xsDL S (vp_updL (xDL S) i.toNatClampNeg x)
abbrev xsFU (S : XSt) (v : (Nat → Int64)) : XSt := (S.1, S.2.1, S.2.2.1, S.2.2.2.1, S.2.2.2.2.1, S.2.2.2.2.2.1, S.2.2.2.2.2.2.1, S.2.2.2.2.2.2.2.1, S.2.2.2.2.2.2.2.2.1, S.2.2.2.2.2.2.2.2.2.1, S.2.2.2.2.2.2.2.2.2.2.1, S.2.2.2.2.2.2.2.2.2.2.2.1, S.2.2.2.2.2.2.2.2.2.2.2.2.1, v, S.2.2.2.2.2.2.2.2.2.2.2.2.2.2)
def xuFU (S : XSt) (i : Int32) (x : Int64) : XSt := xsFU S (vp_updL (xFU S) i.toNatClampNeg x)
abbrev xsFL (S : XSt) (v : (Nat → Int64)) : XSt := (S.1, S.2.1, S.2.2.1, S.2.2.2.1, S.2.2.2.2.1, S.2.2.2.2.2.1, S.2.2.2.2.2.2.1, S.2.2.2.2.2.2.2.1, S.2.2.2.2.2.2.2.2.1, S.2.2.2.2.2.2.2.2.2.1, S.2.2.2.2.2.2.2.2.2.2.1, S.2.2.2.2.2.2.2.2.2.2.2.1, S.2.2.2.2.2.2.2.2.2.2.2.2.1, S.2.2.2.2.2.2.2.2.2.2.2.2.2.1, v, S.2.2.2.2.2.2.2.2.2.2.2.2.2.2.2)
def xuFL (S : XSt) (i : Int32) (x : Int64) : XSt := xsFL S (vp_updL (xFL S) i.toNatClampNeg x)
abbrev xspc (S : XSt) (v : Int32) : XSt := (S.1, S.2.1, S.2.2.1, S.2.2.2.1, S.2.2.2.2.1, S.2.2.2.2.2.1, S.2.2.2.2.2.2.1, S.2.2.2.2.2.2.2.1, S.2.2.2.2.2.2.2.2.1, S.2.2.2.2.2.2.2.2.2.1, S.2.2.2.2.2.2.2.2.2.2.1, S.2.2.2.2.2.2.2.2.2.2.2.1, S.2.2.2.2.2.2.2.2.2.2.2.2.1, S.2.2.2.2.2.2.2.2.2.2.2.2.2.1, S.2.2.2.2.2.2.2.2.2.2.2.2.2.2.1, v, S.2.2.2.2.2.2.2.2.2.2.2.2.2.2.2.2)
abbrev xsdc (S : XSt) (v : Int32) : XSt := (S.1, S.2.1, S.2.2.1, S.2.2.2.1, S.2.2.2.2.1, S.2.2.2.2.2.1, S.2.2.2.2.2.2.1, S.2.2.2.2.2.2.2.1, S.2.2.2.2.2.2.2.2.1, S.2.2.2.2.2.2.2.2.2.1, S.2.2.2.2.2.2.2.2.2.2.1, S.2.2.2.2.2.2.2.2.2.2.2.1, S.2.2.2.2.2.2.2.2.2.2.2.2.1, S.2.2.2.2.2.2.2.2.2.2.2.2.2.1, S.2.2.2.2.2.2.2.2.2.2.2.2.2.2.1, S.2.2.2.2.2.2.2.2.2.2.2.2.2.2.2.1, v, S.2.2.2.2.2.2.2.2.2.2.2.2.2.2.2.2.2)
abbrev xshp (S : XSt) (v : Int32) : XSt := (S.1, S.2.1, S.2.2.1, S.2.2.2.1, S.2.2.2.2.1, S.2.2.2.2.2.1, S.2.2.2.2.2.2.1, S.2.2.2.2.2.2.2.1, S.2.2.2.2.2.2.2.2.1, S.2.2.2.2.2.2.2.2.2.1, S.2.2.2.2.2.2.2.2.2.2.1, S.2.2.2.2.2.2.2.2.2.2.2.1, S.2.2.2.2.2.2.2.2.2.2.2.2.1, S.2.2.2.2.2.2.2.2.2.2.2.2.2.1, S.2.2.2.2.2.2.2.2.2.2.2.2.2.2.1, S.2.2.2.2.2.2.2.2.2.2.2.2.2.2.2.1, S.2.2.2.2.2.2.2.2.2.2.2.2.2.2.2.2.1, v, S.2.2.2.2.2.2.2.2.2.2.2.2.2.2.2.2.2.2)
abbrev xsml (S : XSt) (v : Int64) : XSt := (S.1, S.2.1, S.2.2.1, S.2.2.2.1, S.2.2.2.2.1, S.2.2.2.2.2.1, S.2.2.2.2.2.2.1, S.2.2.2.2.2.2.2.1, S.2.2.2.2.2.2.2.2.1, S.2.2.2.2.2.2.2.2.2.1, S.2.2.2.2.2.2.2.2.2.2.1, S.2.2.2.2.2.2.2.2.2.2.2.1, S.2.2.2.2.2.2.2.2.2.2.2.2.1, S.2.2.2.2.2.2.2.2.2.2.2.2.2.1, S.2.2.2.2.2.2.2.2.2.2.2.2.2.2.1, S.2.2.2.2.2.2.2.2.2.2.2.2.2.2.2.1, S.2.2.2.2.2.2.2.2.2.2.2.2.2.2.2.2.1, S.2.2.2.2.2.2.2.2.2.2.2.2.2.2.2.2.2.1, v, S.2.2.2.2.2.2.2.2.2.2.2.2.2.2.2.2.2.2.2)
abbrev xsup (S : XSt) (v : Int64) : XSt := (S.1, S.2.1, S.2.2.1, S.2.2.2.1, S.2.2.2.2.1, S.2.2.2.2.2.1, S.2.2.2.2.2.2.1, S.2.2.2.2.2.2.2.1, S.2.2.2.2.2.2.2.2.1, S.2.2.2.2.2.2.2.2.2.1, S.2.2.2.2.2.2.2.2.2.2.1, S.2.2.2.2.2.2.2.2.2.2.2.1, S.2.2.2.2.2.2.2.2.2.2.2.2.1, S.2.2.2.2.2.2.2.2.2.2.2.2.2.1, S.2.2.2.2.2.2.2.2.2.2.2.2.2.2.1, S.2.2.2.2.2.2.2.2.2.2.2.2.2.2.2.1, S.2.2.2.2.2.2.2.2.2.2.2.2.2.2.2.2.1, S.2.2.2.2.2.2.2.2.2.2.2.2.2.2.2.2.2.1, S.2.2.2.2.2.2.2.2.2.2.2.2.2.2.2.2.2.2.1, v, S.2.2.2.2.2.2.2.2.2.2.2.2.2.2.2.2.2.2.2.2)
abbrev xslo (S : XSt) (v : Int64) : XSt := (S.1, S.2.1, S.2.2.1, S.2.2.2.1, S.2.2.2.2.1, S.2.2.2.2.2.1, S.2.2.2.2.2.2.1, S.2.2.2.2.2.2.2.1, S.2.2.2.2.2.2.2.2.1, S.2.2.2.2.2.2.2.2.2.1, S.2.2.2.2.2.2.2.2.2.2.1, S.2.2.2.2.2.2.2.2.2.2.2.1, S.2.2.2.2.2.2.2.2.2.2.2.2.1, S.2.2.2.2.2.2.2.2.2.2.2.2.2.1, S.2.2.2.2.2.2.2.2.2.2.2.2.2.2.1, S.2.2.2.2.2.2.2.2.2.2.2.2.2.2.2.1, S.2.2.2.2.2.2.2.2.2.2.2.2.2.2.2.2.1, S.2.2.2.2.2.2.2.2.2.2.2.2.2.2.2.2.2.1, S.2.2.2.2.2.2.2.2.2.2.2.2.2.2.2.2.2.2.1, S.2.2.2.2.2.2.2.2.2.2.2.2.2.2.2.2.2.2.2.1, v)
def XW (cI cL cZ : ClassId) (h : Nat) (a : Nat → Nat) (S : XSt) : va_W := [(h, .inr (1, [.ref (a 0), .ref (a 1), .ref (a 2), .ref (a 3), .ref (a 4), .ref (a 5), .ref (a 6), .ref (a 7), .ref (a 8), .ref (a 9), .int (xpc S), .ref (a 10), .ref (a 11), .ref (a 12), .int (xdc S), .int (xhp S), .long (xml S), .ref (a 15), .ref (a 13), .ref (a 14)])),
  (a 0, .inl (cI, 40, .inl (xKi S))),
  (a 1, .inl (cI, 40, .inl (xWe S))),
  (a 2, .inl (cI, 40, .inl (xLe S))),
  (a 3, .inl (cI, 40, .inl (xSt S))),
  (a 4, .inl (cI, 40, .inl (xSo S))),
  (a 5, .inl (cI, 40, .inl (xSe S))),
  (a 6, .inl (cI, 40, .inl (xRo S))),
  (a 7, .inl (cI, 40, .inl (xSm S))),
  (a 8, .inl (cI, 40, .inl (xRU S))),
  (a 9, .inl (cI, 40, .inl (xRL S))),
  (a 10, .inl (cI, 10, .inl (xDM S))),
  (a 11, .inl (cL, 10, .inr (.inl (xDU S)))),
  (a 12, .inl (cL, 10, .inr (.inl (xDL S)))),
  (a 13, .inl (cL, 40, .inr (.inl (xFU S)))),
  (a 14, .inl (cL, 40, .inr (.inl (xFL S)))),
  (a 15, .inr (0, [.long (xup S), .long (xlo S)]))]
theorem XWc_0 (cI cL cZ : ClassId) (h : Nat) (a : Nat → Nat) (S : XSt) : (XW cI cL cZ h a S)[0]? = some (h, .inr (1, [.ref (a 0), .ref (a 1), .ref (a 2), .ref (a 3), .ref (a 4), .ref (a 5), .ref (a 6), .ref (a 7), .ref (a 8), .ref (a 9), .int (xpc S), .ref (a 10), .ref (a 11), .ref (a 12), .int (xdc S), .int (xhp S), .long (xml S), .ref (a 15), .ref (a 13), .ref (a 14)])) := rfl
theorem XWc_1 (cI cL cZ : ClassId) (h : Nat) (a : Nat → Nat) (S : XSt) : (XW cI cL cZ h a S)[1]? = some (a 0, .inl (cI, 40, .inl (xKi S))) := rfl
theorem XWc_2 (cI cL cZ : ClassId) (h : Nat) (a : Nat → Nat) (S : XSt) : (XW cI cL cZ h a S)[2]? = some (a 1, .inl (cI, 40, .inl (xWe S))) := rfl
theorem XWc_3 (cI cL cZ : ClassId) (h : Nat) (a : Nat → Nat) (S : XSt) : (XW cI cL cZ h a S)[3]? = some (a 2, .inl (cI, 40, .inl (xLe S))) := rfl
theorem XWc_4 (cI cL cZ : ClassId) (h : Nat) (a : Nat → Nat) (S : XSt) : (XW cI cL cZ h a S)[4]? = some (a 3, .inl (cI, 40, .inl (xSt S))) := rfl
theorem XWc_5 (cI cL cZ : ClassId) (h : Nat) (a : Nat → Nat) (S : XSt) : (XW cI cL cZ h a S)[5]? = some (a 4, .inl (cI, 40, .inl (xSo S))) := rfl
theorem XWc_6 (cI cL cZ : ClassId) (h : Nat) (a : Nat → Nat) (S : XSt) : (XW cI cL cZ h a S)[6]? = some (a 5, .inl (cI, 40, .inl (xSe S))) := rfl
theorem XWc_7 (cI cL cZ : ClassId) (h : Nat) (a : Nat → Nat) (S : XSt) : (XW cI cL cZ h a S)[7]? = some (a 6, .inl (cI, 40, .inl (xRo S))) := rfl
theorem XWc_8 (cI cL cZ : ClassId) (h : Nat) (a : Nat → Nat) (S : XSt) : (XW cI cL cZ h a S)[8]? = some (a 7, .inl (cI, 40, .inl (xSm S))) := rfl
theorem XWc_9 (cI cL cZ : ClassId) (h : Nat) (a : Nat → Nat) (S : XSt) : (XW cI cL cZ h a S)[9]? = some (a 8, .inl (cI, 40, .inl (xRU S))) := rfl
theorem XWc_10 (cI cL cZ : ClassId) (h : Nat) (a : Nat → Nat) (S : XSt) : (XW cI cL cZ h a S)[10]? = some (a 9, .inl (cI, 40, .inl (xRL S))) := rfl
theorem XWc_11 (cI cL cZ : ClassId) (h : Nat) (a : Nat → Nat) (S : XSt) : (XW cI cL cZ h a S)[11]? = some (a 10, .inl (cI, 10, .inl (xDM S))) := rfl
theorem XWc_12 (cI cL cZ : ClassId) (h : Nat) (a : Nat → Nat) (S : XSt) : (XW cI cL cZ h a S)[12]? = some (a 11, .inl (cL, 10, .inr (.inl (xDU S)))) := rfl
theorem XWc_13 (cI cL cZ : ClassId) (h : Nat) (a : Nat → Nat) (S : XSt) : (XW cI cL cZ h a S)[13]? = some (a 12, .inl (cL, 10, .inr (.inl (xDL S)))) := rfl
theorem XWc_14 (cI cL cZ : ClassId) (h : Nat) (a : Nat → Nat) (S : XSt) : (XW cI cL cZ h a S)[14]? = some (a 13, .inl (cL, 40, .inr (.inl (xFU S)))) := rfl
theorem XWc_15 (cI cL cZ : ClassId) (h : Nat) (a : Nat → Nat) (S : XSt) : (XW cI cL cZ h a S)[15]? = some (a 14, .inl (cL, 40, .inr (.inl (xFL S)))) := rfl
theorem XWc_16 (cI cL cZ : ClassId) (h : Nat) (a : Nat → Nat) (S : XSt) : (XW cI cL cZ h a S)[16]? = some (a 15, .inr (0, [.long (xup S), .long (xlo S)])) := rfl
def xS0 : XSt := (fun _ => 0, fun _ => 0, fun _ => 0, fun _ => 0, fun _ => 0, fun _ => 0, fun _ => 0, fun _ => 0, fun _ => 0, fun _ => 0, fun _ => 0, fun _ => 0, fun _ => 0, fun _ => 0, fun _ => 0, 0, 0, 0, 0, 0, 0)
abbrev MSt : Type := (Nat → Int32) × (Nat → Int32) × (Nat → Int32) × (Nat → Int32) × (Nat → Int32) × (Nat → Int32) × (Nat → Int32) × (Nat → Int32) × (Nat → Int32) × (Nat → Int32) × (Nat → Int32) × (Nat → Int32) × (Nat → Int64) × (Nat → Int64) × (Nat → Int64) × (Nat → Int64) × Int32 × Int32 × Int32 × Int64 × Int32 × Int32 × Int64 × Int64
abbrev mKi (S : MSt) : (Nat → Int32) := S.1
abbrev mWe (S : MSt) : (Nat → Int32) := S.2.1
abbrev mLe (S : MSt) : (Nat → Int32) := S.2.2.1
abbrev mSt (S : MSt) : (Nat → Int32) := S.2.2.2.1
abbrev mHe (S : MSt) : (Nat → Int32) := S.2.2.2.2.1
abbrev mOf (S : MSt) : (Nat → Int32) := S.2.2.2.2.2.1
abbrev mOt (S : MSt) : (Nat → Int32) := S.2.2.2.2.2.2.1
abbrev mCu (S : MSt) : (Nat → Int32) := S.2.2.2.2.2.2.2.1
abbrev mOv (S : MSt) : (Nat → Int32) := S.2.2.2.2.2.2.2.2.1
abbrev mUn (S : MSt) : (Nat → Int32) := S.2.2.2.2.2.2.2.2.2.1
abbrev mRo (S : MSt) : (Nat → Int32) := S.2.2.2.2.2.2.2.2.2.2.1
abbrev mDM (S : MSt) : (Nat → Int32) := S.2.2.2.2.2.2.2.2.2.2.2.1
abbrev mDU (S : MSt) : (Nat → Int64) := S.2.2.2.2.2.2.2.2.2.2.2.2.1
abbrev mDL (S : MSt) : (Nat → Int64) := S.2.2.2.2.2.2.2.2.2.2.2.2.2.1
abbrev mFU (S : MSt) : (Nat → Int64) := S.2.2.2.2.2.2.2.2.2.2.2.2.2.2.1
abbrev mFL (S : MSt) : (Nat → Int64) := S.2.2.2.2.2.2.2.2.2.2.2.2.2.2.2.1
abbrev mth (S : MSt) : Int32 := S.2.2.2.2.2.2.2.2.2.2.2.2.2.2.2.2.1
abbrev mpc (S : MSt) : Int32 := S.2.2.2.2.2.2.2.2.2.2.2.2.2.2.2.2.2.1
abbrev mhp (S : MSt) : Int32 := S.2.2.2.2.2.2.2.2.2.2.2.2.2.2.2.2.2.2.1
abbrev mml (S : MSt) : Int64 := S.2.2.2.2.2.2.2.2.2.2.2.2.2.2.2.2.2.2.2.1
abbrev mdc (S : MSt) : Int32 := S.2.2.2.2.2.2.2.2.2.2.2.2.2.2.2.2.2.2.2.2.1
abbrev mme (S : MSt) : Int32 := S.2.2.2.2.2.2.2.2.2.2.2.2.2.2.2.2.2.2.2.2.2.1
abbrev mup (S : MSt) : Int64 := S.2.2.2.2.2.2.2.2.2.2.2.2.2.2.2.2.2.2.2.2.2.2.1
abbrev mlo (S : MSt) : Int64 := S.2.2.2.2.2.2.2.2.2.2.2.2.2.2.2.2.2.2.2.2.2.2.2
abbrev msKi (S : MSt) (v : (Nat → Int32)) : MSt := (v, S.2)
def muKi (S : MSt) (i : Int32) (x : Int32) : MSt := msKi S (upd (mKi S) i.toNatClampNeg x)
abbrev msWe (S : MSt) (v : (Nat → Int32)) : MSt := (S.1, v, S.2.2)
def muWe (S : MSt) (i : Int32) (x : Int32) : MSt := msWe S (upd (mWe S) i.toNatClampNeg x)
abbrev msLe (S : MSt) (v : (Nat → Int32)) : MSt := (S.1, S.2.1, v, S.2.2.2)
def muLe (S : MSt) (i : Int32) (x : Int32) : MSt := msLe S (upd (mLe S) i.toNatClampNeg x)
abbrev msSt (S : MSt) (v : (Nat → Int32)) : MSt := (S.1, S.2.1, S.2.2.1, v, S.2.2.2.2)
def muSt (S : MSt) (i : Int32) (x : Int32) : MSt := msSt S (upd (mSt S) i.toNatClampNeg x)
abbrev msHe (S : MSt) (v : (Nat → Int32)) : MSt := (S.1, S.2.1, S.2.2.1, S.2.2.2.1, v, S.2.2.2.2.2)
def muHe (S : MSt) (i : Int32) (x : Int32) : MSt := msHe S (upd (mHe S) i.toNatClampNeg (vp_nar .boolean x))
abbrev msOf (S : MSt) (v : (Nat → Int32)) : MSt := (S.1, S.2.1, S.2.2.1, S.2.2.2.1, S.2.2.2.2.1, v, S.2.2.2.2.2.2)
def muOf (S : MSt) (i : Int32) (x : Int32) : MSt := msOf S (upd (mOf S) i.toNatClampNeg x)
abbrev msOt (S : MSt) (v : (Nat → Int32)) : MSt := (S.1, S.2.1, S.2.2.1, S.2.2.2.1, S.2.2.2.2.1, S.2.2.2.2.2.1, v, S.2.2.2.2.2.2.2)
def muOt (S : MSt) (i : Int32) (x : Int32) : MSt := msOt S (upd (mOt S) i.toNatClampNeg x)
abbrev msCu (S : MSt) (v : (Nat → Int32)) : MSt := (S.1, S.2.1, S.2.2.1, S.2.2.2.1, S.2.2.2.2.1, S.2.2.2.2.2.1, S.2.2.2.2.2.2.1, v, S.2.2.2.2.2.2.2.2)
def muCu (S : MSt) (i : Int32) (x : Int32) : MSt := msCu S (upd (mCu S) i.toNatClampNeg x)
abbrev msOv (S : MSt) (v : (Nat → Int32)) : MSt := (S.1, S.2.1, S.2.2.1, S.2.2.2.1, S.2.2.2.2.1, S.2.2.2.2.2.1, S.2.2.2.2.2.2.1, S.2.2.2.2.2.2.2.1, v, S.2.2.2.2.2.2.2.2.2)
def muOv (S : MSt) (i : Int32) (x : Int32) : MSt := msOv S (upd (mOv S) i.toNatClampNeg x)
abbrev msUn (S : MSt) (v : (Nat → Int32)) : MSt := (S.1, S.2.1, S.2.2.1, S.2.2.2.1, S.2.2.2.2.1, S.2.2.2.2.2.1, S.2.2.2.2.2.2.1, S.2.2.2.2.2.2.2.1, S.2.2.2.2.2.2.2.2.1, v, S.2.2.2.2.2.2.2.2.2.2)
def muUn (S : MSt) (i : Int32) (x : Int32) : MSt := msUn S (upd (mUn S) i.toNatClampNeg x)
abbrev msRo (S : MSt) (v : (Nat → Int32)) : MSt := (S.1, S.2.1, S.2.2.1, S.2.2.2.1, S.2.2.2.2.1, S.2.2.2.2.2.1, S.2.2.2.2.2.2.1, S.2.2.2.2.2.2.2.1, S.2.2.2.2.2.2.2.2.1, S.2.2.2.2.2.2.2.2.2.1, v, S.2.2.2.2.2.2.2.2.2.2.2)
def muRo (S : MSt) (i : Int32) (x : Int32) : MSt := msRo S (upd (mRo S) i.toNatClampNeg x)
abbrev msDM (S : MSt) (v : (Nat → Int32)) : MSt := (S.1, S.2.1, S.2.2.1, S.2.2.2.1, S.2.2.2.2.1, S.2.2.2.2.2.1, S.2.2.2.2.2.2.1, S.2.2.2.2.2.2.2.1, S.2.2.2.2.2.2.2.2.1, S.2.2.2.2.2.2.2.2.2.1, S.2.2.2.2.2.2.2.2.2.2.1, v, S.2.2.2.2.2.2.2.2.2.2.2.2)
def muDM (S : MSt) (i : Int32) (x : Int32) : MSt := msDM S (upd (mDM S) i.toNatClampNeg x)
abbrev msDU (S : MSt) (v : (Nat → Int64)) : MSt := (S.1, S.2.1, S.2.2.1, S.2.2.2.1, S.2.2.2.2.1, S.2.2.2.2.2.1, S.2.2.2.2.2.2.1, S.2.2.2.2.2.2.2.1, S.2.2.2.2.2.2.2.2.1, S.2.2.2.2.2.2.2.2.2.1, S.2.2.2.2.2.2.2.2.2.2.1, S.2.2.2.2.2.2.2.2.2.2.2.1, v, S.2.2.2.2.2.2.2.2.2.2.2.2.2)
def muDU (S : MSt) (i : Int32) (x : Int64) : MSt := msDU S (vp_updL (mDU S) i.toNatClampNeg x)
abbrev msDL (S : MSt) (v : (Nat → Int64)) : MSt := (S.1, S.2.1, S.2.2.1, S.2.2.2.1, S.2.2.2.2.1, S.2.2.2.2.2.1, S.2.2.2.2.2.2.1, S.2.2.2.2.2.2.2.1, S.2.2.2.2.2.2.2.2.1, S.2.2.2.2.2.2.2.2.2.1, S.2.2.2.2.2.2.2.2.2.2.1, S.2.2.2.2.2.2.2.2.2.2.2.1, S.2.2.2.2.2.2.2.2.2.2.2.2.1, v, S.2.2.2.2.2.2.2.2.2.2.2.2.2.2)
def muDL (S : MSt) (i : Int32) (x : Int64) : MSt := msDL S (vp_updL (mDL S) i.toNatClampNeg x)
abbrev msFU (S : MSt) (v : (Nat → Int64)) : MSt := (S.1, S.2.1, S.2.2.1, S.2.2.2.1, S.2.2.2.2.1, S.2.2.2.2.2.1, S.2.2.2.2.2.2.1, S.2.2.2.2.2.2.2.1, S.2.2.2.2.2.2.2.2.1, S.2.2.2.2.2.2.2.2.2.1, S.2.2.2.2.2.2.2.2.2.2.1, S.2.2.2.2.2.2.2.2.2.2.2.1, S.2.2.2.2.2.2.2.2.2.2.2.2.1, S.2.2.2.2.2.2.2.2.2.2.2.2.2.1, v, S.2.2.2.2.2.2.2.2.2.2.2.2.2.2.2)
def muFU (S : MSt) (i : Int32) (x : Int64) : MSt := msFU S (vp_updL (mFU S) i.toNatClampNeg x)
abbrev msFL (S : MSt) (v : (Nat → Int64)) : MSt := (S.1, S.2.1, S.2.2.1, S.2.2.2.1, S.2.2.2.2.1, S.2.2.2.2.2.1, S.2.2.2.2.2.2.1, S.2.2.2.2.2.2.2.1, S.2.2.2.2.2.2.2.2.1, S.2.2.2.2.2.2.2.2.2.1, S.2.2.2.2.2.2.2.2.2.2.1, S.2.2.2.2.2.2.2.2.2.2.2.1, S.2.2.2.2.2.2.2.2.2.2.2.2.1, S.2.2.2.2.2.2.2.2.2.2.2.2.2.1, S.2.2.2.2.2.2.2.2.2.2.2.2.2.2.1, v, S.2.2.2.2.2.2.2.2.2.2.2.2.2.2.2.2)
def muFL (S : MSt) (i : Int32) (x : Int64) : MSt := msFL S (vp_updL (mFL S) i.toNatClampNeg x)
abbrev msth (S : MSt) (v : Int32) : MSt := (S.1, S.2.1, S.2.2.1, S.2.2.2.1, S.2.2.2.2.1, S.2.2.2.2.2.1, S.2.2.2.2.2.2.1, S.2.2.2.2.2.2.2.1, S.2.2.2.2.2.2.2.2.1, S.2.2.2.2.2.2.2.2.2.1, S.2.2.2.2.2.2.2.2.2.2.1, S.2.2.2.2.2.2.2.2.2.2.2.1, S.2.2.2.2.2.2.2.2.2.2.2.2.1, S.2.2.2.2.2.2.2.2.2.2.2.2.2.1, S.2.2.2.2.2.2.2.2.2.2.2.2.2.2.1, S.2.2.2.2.2.2.2.2.2.2.2.2.2.2.2.1, v, S.2.2.2.2.2.2.2.2.2.2.2.2.2.2.2.2.2)
abbrev mspc (S : MSt) (v : Int32) : MSt := (S.1, S.2.1, S.2.2.1, S.2.2.2.1, S.2.2.2.2.1, S.2.2.2.2.2.1, S.2.2.2.2.2.2.1, S.2.2.2.2.2.2.2.1, S.2.2.2.2.2.2.2.2.1, S.2.2.2.2.2.2.2.2.2.1, S.2.2.2.2.2.2.2.2.2.2.1, S.2.2.2.2.2.2.2.2.2.2.2.1, S.2.2.2.2.2.2.2.2.2.2.2.2.1, S.2.2.2.2.2.2.2.2.2.2.2.2.2.1, S.2.2.2.2.2.2.2.2.2.2.2.2.2.2.1, S.2.2.2.2.2.2.2.2.2.2.2.2.2.2.2.1, S.2.2.2.2.2.2.2.2.2.2.2.2.2.2.2.2.1, v, S.2.2.2.2.2.2.2.2.2.2.2.2.2.2.2.2.2.2)
abbrev mshp (S : MSt) (v : Int32) : MSt := (S.1, S.2.1, S.2.2.1, S.2.2.2.1, S.2.2.2.2.1, S.2.2.2.2.2.1, S.2.2.2.2.2.2.1, S.2.2.2.2.2.2.2.1, S.2.2.2.2.2.2.2.2.1, S.2.2.2.2.2.2.2.2.2.1, S.2.2.2.2.2.2.2.2.2.2.1, S.2.2.2.2.2.2.2.2.2.2.2.1, S.2.2.2.2.2.2.2.2.2.2.2.2.1, S.2.2.2.2.2.2.2.2.2.2.2.2.2.1, S.2.2.2.2.2.2.2.2.2.2.2.2.2.2.1, S.2.2.2.2.2.2.2.2.2.2.2.2.2.2.2.1, S.2.2.2.2.2.2.2.2.2.2.2.2.2.2.2.2.1, S.2.2.2.2.2.2.2.2.2.2.2.2.2.2.2.2.2.1, v, S.2.2.2.2.2.2.2.2.2.2.2.2.2.2.2.2.2.2.2)
abbrev msml (S : MSt) (v : Int64) : MSt := (S.1, S.2.1, S.2.2.1, S.2.2.2.1, S.2.2.2.2.1, S.2.2.2.2.2.1, S.2.2.2.2.2.2.1, S.2.2.2.2.2.2.2.1, S.2.2.2.2.2.2.2.2.1, S.2.2.2.2.2.2.2.2.2.1, S.2.2.2.2.2.2.2.2.2.2.1, S.2.2.2.2.2.2.2.2.2.2.2.1, S.2.2.2.2.2.2.2.2.2.2.2.2.1, S.2.2.2.2.2.2.2.2.2.2.2.2.2.1, S.2.2.2.2.2.2.2.2.2.2.2.2.2.2.1, S.2.2.2.2.2.2.2.2.2.2.2.2.2.2.2.1, S.2.2.2.2.2.2.2.2.2.2.2.2.2.2.2.2.1, S.2.2.2.2.2.2.2.2.2.2.2.2.2.2.2.2.2.1, S.2.2.2.2.2.2.2.2.2.2.2.2.2.2.2.2.2.2.1, v, S.2.2.2.2.2.2.2.2.2.2.2.2.2.2.2.2.2.2.2.2)
abbrev msdc (S : MSt) (v : Int32) : MSt := (S.1, S.2.1, S.2.2.1, S.2.2.2.1, S.2.2.2.2.1, S.2.2.2.2.2.1, S.2.2.2.2.2.2.1, S.2.2.2.2.2.2.2.1, S.2.2.2.2.2.2.2.2.1, S.2.2.2.2.2.2.2.2.2.1, S.2.2.2.2.2.2.2.2.2.2.1, S.2.2.2.2.2.2.2.2.2.2.2.1, S.2.2.2.2.2.2.2.2.2.2.2.2.1, S.2.2.2.2.2.2.2.2.2.2.2.2.2.1, S.2.2.2.2.2.2.2.2.2.2.2.2.2.2.1, S.2.2.2.2.2.2.2.2.2.2.2.2.2.2.2.1, S.2.2.2.2.2.2.2.2.2.2.2.2.2.2.2.2.1, S.2.2.2.2.2.2.2.2.2.2.2.2.2.2.2.2.2.1, S.2.2.2.2.2.2.2.2.2.2.2.2.2.2.2.2.2.2.1, S.2.2.2.2.2.2.2.2.2.2.2.2.2.2.2.2.2.2.2.1, v, S.2.2.2.2.2.2.2.2.2.2.2.2.2.2.2.2.2.2.2.2.2)
abbrev msme (S : MSt) (v : Int32) : MSt := (S.1, S.2.1, S.2.2.1, S.2.2.2.1, S.2.2.2.2.1, S.2.2.2.2.2.1, S.2.2.2.2.2.2.1, S.2.2.2.2.2.2.2.1, S.2.2.2.2.2.2.2.2.1, S.2.2.2.2.2.2.2.2.2.1, S.2.2.2.2.2.2.2.2.2.2.1, S.2.2.2.2.2.2.2.2.2.2.2.1, S.2.2.2.2.2.2.2.2.2.2.2.2.1, S.2.2.2.2.2.2.2.2.2.2.2.2.2.1, S.2.2.2.2.2.2.2.2.2.2.2.2.2.2.1, S.2.2.2.2.2.2.2.2.2.2.2.2.2.2.2.1, S.2.2.2.2.2.2.2.2.2.2.2.2.2.2.2.2.1, S.2.2.2.2.2.2.2.2.2.2.2.2.2.2.2.2.2.1, S.2.2.2.2.2.2.2.2.2.2.2.2.2.2.2.2.2.2.1, S.2.2.2.2.2.2.2.2.2.2.2.2.2.2.2.2.2.2.2.1, S.2.2.2.2.2.2.2.2.2.2.2.2.2.2.2.2.2.2.2.2.1, v, S.2.2.2.2.2.2.2.2.2.2.2.2.2.2.2.2.2.2.2.2.2.2)
abbrev msup (S : MSt) (v : Int64) : MSt := (S.1, S.2.1, S.2.2.1, S.2.2.2.1, S.2.2.2.2.1, S.2.2.2.2.2.1, S.2.2.2.2.2.2.1, S.2.2.2.2.2.2.2.1, S.2.2.2.2.2.2.2.2.1, S.2.2.2.2.2.2.2.2.2.1, S.2.2.2.2.2.2.2.2.2.2.1, S.2.2.2.2.2.2.2.2.2.2.2.1, S.2.2.2.2.2.2.2.2.2.2.2.2.1, S.2.2.2.2.2.2.2.2.2.2.2.2.2.1, S.2.2.2.2.2.2.2.2.2.2.2.2.2.2.1, S.2.2.2.2.2.2.2.2.2.2.2.2.2.2.2.1, S.2.2.2.2.2.2.2.2.2.2.2.2.2.2.2.2.1, S.2.2.2.2.2.2.2.2.2.2.2.2.2.2.2.2.2.1, S.2.2.2.2.2.2.2.2.2.2.2.2.2.2.2.2.2.2.1, S.2.2.2.2.2.2.2.2.2.2.2.2.2.2.2.2.2.2.2.1, S.2.2.2.2.2.2.2.2.2.2.2.2.2.2.2.2.2.2.2.2.1, S.2.2.2.2.2.2.2.2.2.2.2.2.2.2.2.2.2.2.2.2.2.1, v, S.2.2.2.2.2.2.2.2.2.2.2.2.2.2.2.2.2.2.2.2.2.2.2)
abbrev mslo (S : MSt) (v : Int64) : MSt := (S.1, S.2.1, S.2.2.1, S.2.2.2.1, S.2.2.2.2.1, S.2.2.2.2.2.1, S.2.2.2.2.2.2.1, S.2.2.2.2.2.2.2.1, S.2.2.2.2.2.2.2.2.1, S.2.2.2.2.2.2.2.2.2.1, S.2.2.2.2.2.2.2.2.2.2.1, S.2.2.2.2.2.2.2.2.2.2.2.1, S.2.2.2.2.2.2.2.2.2.2.2.2.1, S.2.2.2.2.2.2.2.2.2.2.2.2.2.1, S.2.2.2.2.2.2.2.2.2.2.2.2.2.2.1, S.2.2.2.2.2.2.2.2.2.2.2.2.2.2.2.1, S.2.2.2.2.2.2.2.2.2.2.2.2.2.2.2.2.1, S.2.2.2.2.2.2.2.2.2.2.2.2.2.2.2.2.2.1, S.2.2.2.2.2.2.2.2.2.2.2.2.2.2.2.2.2.2.1, S.2.2.2.2.2.2.2.2.2.2.2.2.2.2.2.2.2.2.2.1, S.2.2.2.2.2.2.2.2.2.2.2.2.2.2.2.2.2.2.2.2.1, S.2.2.2.2.2.2.2.2.2.2.2.2.2.2.2.2.2.2.2.2.2.1, S.2.2.2.2.2.2.2.2.2.2.2.2.2.2.2.2.2.2.2.2.2.2.1, v)
def MW (cI cL cZ : ClassId) (hm : Nat) (am : Nat → Nat) (S : MSt) : va_W := [(hm, .inr (2, [.int (mth S), .int (mpc S), .ref (am 0), .ref (am 1), .ref (am 2), .ref (am 3), .ref (am 4), .ref (am 5), .ref (am 6), .ref (am 7), .ref (am 8), .ref (am 9), .ref (am 10), .int (mhp S), .long (mml S), .int (mdc S), .ref (am 11), .ref (am 12), .ref (am 13), .int (mme S), .long (mup S), .long (mlo S), .ref (am 14), .ref (am 15)])),
  (am 0, .inl (cI, 40, .inl (mKi S))),
  (am 1, .inl (cI, 40, .inl (mWe S))),
  (am 2, .inl (cI, 40, .inl (mLe S))),
  (am 3, .inl (cI, 40, .inl (mSt S))),
  (am 4, .inl (cZ, 40, .inl (mHe S))),
  (am 5, .inl (cI, 40, .inl (mOf S))),
  (am 6, .inl (cI, 40, .inl (mOt S))),
  (am 7, .inl (cI, 40, .inl (mCu S))),
  (am 8, .inl (cI, 40, .inl (mOv S))),
  (am 9, .inl (cI, 40, .inl (mUn S))),
  (am 10, .inl (cI, 40, .inl (mRo S))),
  (am 11, .inl (cI, 10, .inl (mDM S))),
  (am 12, .inl (cL, 10, .inr (.inl (mDU S)))),
  (am 13, .inl (cL, 10, .inr (.inl (mDL S)))),
  (am 14, .inl (cL, 40, .inr (.inl (mFU S)))),
  (am 15, .inl (cL, 40, .inr (.inl (mFL S))))]
theorem MWc_0 (cI cL cZ : ClassId) (hm : Nat) (am : Nat → Nat) (S : MSt) : (MW cI cL cZ hm am S)[0]? = some (hm, .inr (2, [.int (mth S), .int (mpc S), .ref (am 0), .ref (am 1), .ref (am 2), .ref (am 3), .ref (am 4), .ref (am 5), .ref (am 6), .ref (am 7), .ref (am 8), .ref (am 9), .ref (am 10), .int (mhp S), .long (mml S), .int (mdc S), .ref (am 11), .ref (am 12), .ref (am 13), .int (mme S), .long (mup S), .long (mlo S), .ref (am 14), .ref (am 15)])) := rfl
theorem MWc_1 (cI cL cZ : ClassId) (hm : Nat) (am : Nat → Nat) (S : MSt) : (MW cI cL cZ hm am S)[1]? = some (am 0, .inl (cI, 40, .inl (mKi S))) := rfl
theorem MWc_2 (cI cL cZ : ClassId) (hm : Nat) (am : Nat → Nat) (S : MSt) : (MW cI cL cZ hm am S)[2]? = some (am 1, .inl (cI, 40, .inl (mWe S))) := rfl
theorem MWc_3 (cI cL cZ : ClassId) (hm : Nat) (am : Nat → Nat) (S : MSt) : (MW cI cL cZ hm am S)[3]? = some (am 2, .inl (cI, 40, .inl (mLe S))) := rfl
theorem MWc_4 (cI cL cZ : ClassId) (hm : Nat) (am : Nat → Nat) (S : MSt) : (MW cI cL cZ hm am S)[4]? = some (am 3, .inl (cI, 40, .inl (mSt S))) := rfl
theorem MWc_5 (cI cL cZ : ClassId) (hm : Nat) (am : Nat → Nat) (S : MSt) : (MW cI cL cZ hm am S)[5]? = some (am 4, .inl (cZ, 40, .inl (mHe S))) := rfl
theorem MWc_6 (cI cL cZ : ClassId) (hm : Nat) (am : Nat → Nat) (S : MSt) : (MW cI cL cZ hm am S)[6]? = some (am 5, .inl (cI, 40, .inl (mOf S))) := rfl
theorem MWc_7 (cI cL cZ : ClassId) (hm : Nat) (am : Nat → Nat) (S : MSt) : (MW cI cL cZ hm am S)[7]? = some (am 6, .inl (cI, 40, .inl (mOt S))) := rfl
theorem MWc_8 (cI cL cZ : ClassId) (hm : Nat) (am : Nat → Nat) (S : MSt) : (MW cI cL cZ hm am S)[8]? = some (am 7, .inl (cI, 40, .inl (mCu S))) := rfl
theorem MWc_9 (cI cL cZ : ClassId) (hm : Nat) (am : Nat → Nat) (S : MSt) : (MW cI cL cZ hm am S)[9]? = some (am 8, .inl (cI, 40, .inl (mOv S))) := rfl
theorem MWc_10 (cI cL cZ : ClassId) (hm : Nat) (am : Nat → Nat) (S : MSt) : (MW cI cL cZ hm am S)[10]? = some (am 9, .inl (cI, 40, .inl (mUn S))) := rfl
theorem MWc_11 (cI cL cZ : ClassId) (hm : Nat) (am : Nat → Nat) (S : MSt) : (MW cI cL cZ hm am S)[11]? = some (am 10, .inl (cI, 40, .inl (mRo S))) := rfl
theorem MWc_12 (cI cL cZ : ClassId) (hm : Nat) (am : Nat → Nat) (S : MSt) : (MW cI cL cZ hm am S)[12]? = some (am 11, .inl (cI, 10, .inl (mDM S))) := rfl
theorem MWc_13 (cI cL cZ : ClassId) (hm : Nat) (am : Nat → Nat) (S : MSt) : (MW cI cL cZ hm am S)[13]? = some (am 12, .inl (cL, 10, .inr (.inl (mDU S)))) := rfl
theorem MWc_14 (cI cL cZ : ClassId) (hm : Nat) (am : Nat → Nat) (S : MSt) : (MW cI cL cZ hm am S)[14]? = some (am 13, .inl (cL, 10, .inr (.inl (mDL S)))) := rfl
theorem MWc_15 (cI cL cZ : ClassId) (hm : Nat) (am : Nat → Nat) (S : MSt) : (MW cI cL cZ hm am S)[15]? = some (am 14, .inl (cL, 40, .inr (.inl (mFU S)))) := rfl
theorem MWc_16 (cI cL cZ : ClassId) (hm : Nat) (am : Nat → Nat) (S : MSt) : (MW cI cL cZ hm am S)[16]? = some (am 15, .inl (cL, 40, .inr (.inl (mFL S)))) := rfl
def mS0 : MSt := (fun _ => 0, fun _ => 0, fun _ => 0, fun _ => 0, fun _ => 0, fun _ => 0, fun _ => 0, fun _ => 0, fun _ => 0, fun _ => 0, fun _ => 0, fun _ => 0, fun _ => 0, fun _ => 0, fun _ => 0, fun _ => 0, 0, 0, 0, 0, 0, 0, 0, 0)
end
section
def wp_P_set (post : XSt → Prop) (p0 : Int64) (p1 : Int64) (S : XSt) : Prop := (∀ S1 : XSt, S1 = xsup S p0 → (∀ S2 : XSt, S2 = xslo S1 p1 → (post S2)))
set_option maxHeartbeats 4000000 in
set_option maxRecDepth 100000 in
theorem c_P_set (l : Launch) (hl9 : l.stackTraces = false) (D : va_G) (cI cL cZ : ClassId) (h : Nat) (a : Nat → Nat) (post : XSt → Prop) (p0 : Int64) (p1 : Int64) (S : XSt) (hw : wp_P_set post p0 p1 S) : gMv l yP_set wsP_set ({ frames := 0, cells := 0, slots := 0, locals := 0 }) D [(cI, .int), (cL, .long), (cZ, .boolean)] [.ref (a 15), .long p0, .long p1] (XW cI cL cZ h a S) (XW cI cL cZ h a) post := by
  refine g_ofMv (cc := cP_set) (maxL := 5) (ret := none) (own := RP9) (by decide) rfl rfl (Nat.le_of_ble_eq_true rfl) ?_
  intro p e s m below meth c A H locs ls C hr hlocks hK hG hA hP hD hS hl
  obtain ⟨hx, hb, hml, hown, hts⟩ := id C
  have hts := fun w (h9 : w ∈ gW) => hts w (List.mem_cons_of_mem _ h9)
  have hto := fun w (h9 : w ∈ gWo) => hts w (gWo_in w h9)
  have hl : lv_has ls 5 [(0, .ref (a 15)), (1, .long p0), (3, .long p1)] := hl
  dsimp only [wp_P_set] at hw
  refine lv_aload_n hx hb dP_set_0 rfl (lv_at hl 0 rfl) ?_
  refine lv_lload_n hx hb dP_set_1 rfl (lv_at hl 1 rfl) ?_
  refine g_put (wf := XW cI cL cZ h a) (S' := xsup S p0) (ci := 0) (v := .long p0) (ty := .long) (C := RP9) (T := TP9) (N := 2) hx hb hts iP9 tyP9 tyP9_ok nmP9 hown hK hP hD hS 16 (XWc_16 cI cL cZ h a S) rfl 0 (by decide) (hto (.fieldLink RP9 7 "PieceTrace$Place" "upper" "J") (by decide +kernel)) (fun _ h9 => h9) rfl (by decide +kernel) rfl rfl (Nat.le_of_ble_eq_true rfl) rfl dP_set_2 (fun S1 eS1 H locs hP hD hS => ?_)
  have hw := hw S1 eS1
  refine lv_aload_n hx hb dP_set_5 rfl (lv_at hl 0 rfl) ?_
  refine lv_lload_n hx hb dP_set_6 rfl (lv_at hl 2 rfl) ?_
  refine g_put (wf := XW cI cL cZ h a) (S' := xslo S1 p1) (ci := 0) (v := .long p1) (ty := .long) (C := RP9) (T := TP9) (N := 2) hx hb hts iP9 tyP9 tyP9_ok nmP9 hown hK hP hD hS 16 (XWc_16 cI cL cZ h a S1) rfl 1 (by decide) (hto (.fieldLink RP9 13 "PieceTrace$Place" "lower" "J") (by decide +kernel)) (fun _ h9 => h9) rfl (by decide +kernel) rfl rfl (Nat.le_of_ble_eq_true rfl) rfl dP_set_7 (fun S2 eS2 H locs hP hD hS => ?_)
  have hw := hw S2 eS2
  exact gr_v hx hb hr hlocks hK hP hD hS hw (Nat.le_of_ble_eq_true rfl) (Nat.le_of_ble_eq_true rfl) dP_set_10
def wp_P_move (post : XSt → Prop) (p0 : Int64) (S : XSt) : Prop := (∀ S1 : XSt, S1 = xsup S ((xup S) + (p0 * (xlo S))) → (post S1))
set_option maxHeartbeats 4000000 in
set_option maxRecDepth 100000 in
theorem c_P_move (l : Launch) (hl9 : l.stackTraces = false) (D : va_G) (cI cL cZ : ClassId) (h : Nat) (a : Nat → Nat) (post : XSt → Prop) (p0 : Int64) (S : XSt) (hw : wp_P_move post p0 S) : gMv l yP_move wsP_move ({ frames := 0, cells := 0, slots := 0, locals := 0 }) D [(cI, .int), (cL, .long), (cZ, .boolean)] [.ref (a 15), .long p0] (XW cI cL cZ h a S) (XW cI cL cZ h a) post := by
  refine g_ofMv (cc := cP_move) (maxL := 3) (ret := none) (own := RP9) (by decide) rfl rfl (Nat.le_of_ble_eq_true rfl) ?_
  intro p e s m below meth c A H locs ls C hr hlocks hK hG hA hP hD hS hl
  obtain ⟨hx, hb, hml, hown, hts⟩ := id C
  have hts := fun w (h9 : w ∈ gW) => hts w (List.mem_cons_of_mem _ h9)
  have hto := fun w (h9 : w ∈ gWo) => hts w (gWo_in w h9)
  have hl : lv_has ls 3 [(0, .ref (a 15)), (1, .long p0)] := hl
  dsimp only [wp_P_move] at hw
  refine lv_aload_n hx hb dP_move_0 rfl (lv_at hl 0 rfl) ?_
  refine lv_dup hx hb dP_move_1 rfl ?_
  refine va_get (ci := 0) (v := .long (xup S)) (C := RP9) (T := TP9) (N := 2) hx hb hts iP9 hown hK hP 16 (XWc_16 cI cL cZ h a S) rfl 0 (by decide) (hto (.fieldLink RP9 7 "PieceTrace$Place" "upper" "J") (by decide +kernel)) (fun _ h9 => h9) rfl dP_move_2 ?_
  refine lv_lload_n hx hb dP_move_5 rfl (lv_at hl 1 rfl) ?_
  refine lv_aload_n hx hb dP_move_6 rfl (lv_at hl 0 rfl) ?_
  refine va_get (ci := 0) (v := .long (xlo S)) (C := RP9) (T := TP9) (N := 2) hx hb hts iP9 hown hK hP 16 (XWc_16 cI cL cZ h a S) rfl 1 (by decide) (hto (.fieldLink RP9 13 "PieceTrace$Place" "lower" "J") (by decide +kernel)) (fun _ h9 => h9) rfl dP_move_7 ?_
  refine lv_lmul hx hb dP_move_10 ?_
  refine lv_ladd hx hb dP_move_11 ?_
  refine g_put (wf := XW cI cL cZ h a) (S' := xsup S ((xup S) + (p0 * (xlo S)))) (ci := 0) (v := .long ((xup S) + (p0 * (xlo S)))) (ty := .long) (C := RP9) (T := TP9) (N := 2) hx hb hts iP9 tyP9 tyP9_ok nmP9 hown hK hP hD hS 16 (XWc_16 cI cL cZ h a S) rfl 0 (by decide) (hto (.fieldLink RP9 7 "PieceTrace$Place" "upper" "J") (by decide +kernel)) (fun _ h9 => h9) rfl (by decide +kernel) rfl rfl (Nat.le_of_ble_eq_true rfl) rfl dP_move_12 (fun S1 eS1 H locs hP hD hS => ?_)
  have hw := hw S1 eS1
  exact gr_v hx hb hr hlocks hK hP hD hS hw (Nat.le_of_ble_eq_true rfl) (Nat.le_of_ble_eq_true rfl) dP_move_15
def wp_P_isBelow (post : Int32 → XSt → Prop) (p0 : Int64) (S : XSt) : Prop := (((p0 * (xlo S)) ≤ (xup S) → (post 0 S)) ∧ (¬ (p0 * (xlo S)) ≤ (xup S) → (post 1 S)))
set_option maxHeartbeats 4000000 in
set_option maxRecDepth 100000 in
theorem c_P_isBelow (l : Launch) (hl9 : l.stackTraces = false) (D : va_G) (cI cL cZ : ClassId) (h : Nat) (a : Nat → Nat) (post : Int32 → XSt → Prop) (p0 : Int64) (S : XSt) (hw : wp_P_isBelow post p0 S) : gMz l yP_isBelow wsP_isBelow ({ frames := 0, cells := 0, slots := 0, locals := 0 }) D [(cI, .int), (cL, .long), (cZ, .boolean)] [.ref (a 15), .long p0] (XW cI cL cZ h a S) (XW cI cL cZ h a) post := by
  refine g_ofMz (cc := cP_isBelow) (maxL := 3) (ret := (some .boolean)) (own := RP9) (by decide) rfl rfl (Nat.le_of_ble_eq_true rfl) ?_
  intro p e s m below meth c A H locs ls C hr hlocks hK hG hA hP hD hS hl
  obtain ⟨hx, hb, hml, hown, hts⟩ := id C
  have hts := fun w (h9 : w ∈ gW) => hts w (List.mem_cons_of_mem _ h9)
  have hto := fun w (h9 : w ∈ gWo) => hts w (gWo_in w h9)
  have hl : lv_has ls 3 [(0, .ref (a 15)), (1, .long p0)] := hl
  dsimp only [wp_P_isBelow] at hw
  refine lv_aload_n hx hb dP_isBelow_0 rfl (lv_at hl 0 rfl) ?_
  refine va_get (ci := 0) (v := .long (xup S)) (C := RP9) (T := TP9) (N := 2) hx hb hts iP9 hown hK hP 16 (XWc_16 cI cL cZ h a S) rfl 0 (by decide) (hto (.fieldLink RP9 7 "PieceTrace$Place" "upper" "J") (by decide +kernel)) (fun _ h9 => h9) rfl dP_isBelow_1 ?_
  refine lv_lload_n hx hb dP_isBelow_4 rfl (lv_at hl 1 rfl) ?_
  refine lv_aload_n hx hb dP_isBelow_5 rfl (lv_at hl 0 rfl) ?_
  refine va_get (ci := 0) (v := .long (xlo S)) (C := RP9) (T := TP9) (N := 2) hx hb hts iP9 hown hK hP 16 (XWc_16 cI cL cZ h a S) rfl 1 (by decide) (hto (.fieldLink RP9 13 "PieceTrace$Place" "lower" "J") (by decide +kernel)) (fun _ h9 => h9) rfl dP_isBelow_6 ?_
  refine lv_lmul hx hb dP_isBelow_9 ?_
  refine W.lcmp hx hb dP_isBelow_10 ?_
  refine lv_if_ge (tgt := 18) hx hb dP_isBelow_11 (by decide) (fun c1 => ?_) (fun c1 => ?_)
  · have c1 : (p0 * (xlo S)) ≤ (xup S) := (lg_cmp_ge _ _).mp c1
    have hw := hw.1 c1
    refine lv_iconst (v := 0) hx hb dP_isBelow_18 (by decide) ?_
    exact gr_z hx hb hr hlocks (Or.inl rfl) hK hP hD hS hw (Nat.le_of_ble_eq_true rfl) (Nat.le_of_ble_eq_true rfl) dP_isBelow_19
  · have c1 : ¬ (p0 * (xlo S)) ≤ (xup S) := fun h9 => c1 ((lg_cmp_ge _ _).mpr h9)
    have hw := hw.2 c1
    refine lv_iconst (v := 1) hx hb dP_isBelow_14 (by decide) ?_
    refine lv_goto (tgt := 19) hx hb dP_isBelow_15 (by decide) ?_
    exact gr_z hx hb hr hlocks (Or.inr rfl) hK hP hD hS hw (Nat.le_of_ble_eq_true rfl) (Nat.le_of_ble_eq_true rfl) dP_isBelow_19
def wpL_P_commonDivisor_9 (post : Int64 → XSt → Prop) (p0 : Int64) (p1 : Int64) : Nat → XSt → Int64 → Int64 → Int32 → Prop
  | 0 => fun _ _ _ _ => False
  | n + 1 => fun S u4 u6 u8 => ((100 ≤ u8 → (post u4 S)) ∧ (¬ 100 ≤ u8 → ((u6 = 0 → (post u4 S)) ∧ (¬ u6 = 0 → (¬ u6 = 0 ∧ (∀ v9_4 : Int64, v9_4 = (u4 - u4 / u6 * u6) → (∀ v8_5 : Int32, v8_5 = u8 + 1 → (wpL_P_commonDivisor_9 post p0 p1 n S u6 v9_4 v8_5))))))))
def wp_P_commonDivisor (post : Int64 → XSt → Prop) (p0 : Int64) (p1 : Int64) (S : XSt) : Prop := (∃ n : Nat, wpL_P_commonDivisor_9 post p0 p1 n S p0 p1 0)
set_option maxHeartbeats 4000000 in
set_option maxRecDepth 100000 in
theorem c_P_commonDivisor (l : Launch) (hl9 : l.stackTraces = false) (D : va_G) (cI cL cZ : ClassId) (h : Nat) (a : Nat → Nat) (post : Int64 → XSt → Prop) (p0 : Int64) (p1 : Int64) (S : XSt) (hw : wp_P_commonDivisor post p0 p1 S) : gMl l yP_commonDivisor wsP_commonDivisor ({ frames := 0, cells := 0, slots := 0, locals := 0 }) D [(cI, .int), (cL, .long), (cZ, .boolean)] [.long p0, .long p1] (XW cI cL cZ h a S) (XW cI cL cZ h a) post := by
  refine g_ofMl (cc := cP_commonDivisor) (maxL := 11) (ret := (some .long)) (own := RP9) (by decide) rfl rfl (Nat.le_of_ble_eq_true rfl) ?_
  intro p e s m below meth c A H locs ls C hr hlocks hK hG hA hP hD hS hl
  obtain ⟨hx, hb, hml, hown, hts⟩ := id C
  have hts := fun w (h9 : w ∈ gW) => hts w (List.mem_cons_of_mem _ h9)
  have hto := fun w (h9 : w ∈ gWo) => hts w (gWo_in w h9)
  have hl : lv_has ls 11 [(0, .long p0), (2, .long p1)] := hl
  dsimp only [wp_P_commonDivisor] at hw
  refine lv_lload_n hx hb dP_commonDivisor_0 rfl (lv_at hl 0 rfl) ?_
  refine lv_lstore (lv' := [(4, .long p0), (0, .long p0), (2, .long p1)]) hx hb dP_commonDivisor_1 hl (by decide) rfl (fun ls hl => ?_)
  refine lv_lload_n hx hb dP_commonDivisor_3 rfl (lv_at hl 2 rfl) ?_
  refine lv_lstore (lv' := [(6, .long p1), (4, .long p0), (0, .long p0), (2, .long p1)]) hx hb dP_commonDivisor_4 hl (by decide) rfl (fun ls hl => ?_)
  refine lv_iconst (v := 0) hx hb dP_commonDivisor_6 (by decide) ?_
  refine lv_istore (lv' := [(8, .int 0), (6, .long p1), (4, .long p0), (0, .long p0), (2, .long p1)]) hx hb dP_commonDivisor_7 hl (by decide) rfl (fun ls hl => ?_)
  obtain ⟨n, hw⟩ := hw
  have hL : ∀ (n : Nat) (S : XSt) (u4 : Int64) (u6 : Int64) (u8 : Int32) (H : Heap) (locs : List Loc) (ls : Array Slot), wpL_P_commonDivisor_9 post p0 p1 n S u4 u6 u8 → va_P D vwCl (XW cI cL cZ h a S) H → va_D A (XW cI cL cZ h a S) → va_S A s.heap H locs → lv_has ls 11 [(4, .long u4), (6, .long u6), (8, .int u8)] → W p l e (headSpec wsP_commonDivisor { frames := 0, cells := 0, slots := 0, locals := 0 }).room s m ([.long p0, .long p1] : List Value).toArray below meth c H locs 0 0 (MQ below (gQl D [(cI, .int), (cL, .long), (cZ, .boolean)] (XW cI cL cZ h a) post A) ([.long p0, .long p1] : List Value).toArray s 0 0 A) (F0 m 9 ls []) := by
    intro n
    induction n with
    | zero => intro S u4 u6 u8 H locs ls hw; exact hw.elim
    | succ n ih =>
      intro S u4 u6 u8 H locs ls hw hP hD hS hl
      dsimp only [wpL_P_commonDivisor_9] at hw
      refine lv_iload hx hb dP_commonDivisor_9 (lv_at hl 2 rfl) ?_
      refine lv_bipush (v := 100) hx hb dP_commonDivisor_11 (by decide) ?_
      refine lv_icmp_ge (tgt := 44) hx hb dP_commonDivisor_13 (by decide) (fun c1 => ?_) (fun c1 => ?_)
      · have hw := hw.1 c1
        refine lv_lload hx hb dP_commonDivisor_44 (lv_at hl 0 rfl) ?_
        exact gr_l hx hb hr hlocks hK hP hD hS hw (Nat.le_of_ble_eq_true rfl) (Nat.le_of_ble_eq_true rfl) dP_commonDivisor_46
      · have hw := hw.2 c1
        refine lv_lload hx hb dP_commonDivisor_16 (lv_at hl 1 rfl) ?_
        refine lv_lconst (v := 0) hx hb dP_commonDivisor_18 (by decide) ?_
        refine W.lcmp hx hb dP_commonDivisor_19 ?_
        refine lv_if_eq (tgt := 44) hx hb dP_commonDivisor_20 (by decide) (fun c2 => ?_) (fun c2 => ?_)
        · have c2 : u6 = 0 := (lg_cmp_eq _ _).mp c2
          have hw := hw.1 c2
          refine lv_lload hx hb dP_commonDivisor_44 (lv_at hl 0 rfl) ?_
          exact gr_l hx hb hr hlocks hK hP hD hS hw (Nat.le_of_ble_eq_true rfl) (Nat.le_of_ble_eq_true rfl) dP_commonDivisor_46
        · have c2 : ¬ u6 = 0 := fun h9 => c2 ((lg_cmp_eq _ _).mpr h9)
          have hw := hw.2 c2
          refine lv_lload hx hb dP_commonDivisor_23 (lv_at hl 0 rfl) ?_
          refine lv_lload hx hb dP_commonDivisor_25 (lv_at hl 1 rfl) ?_
          obtain ⟨hz3, hw⟩ := hw
          refine lv_lrem hx hb dP_commonDivisor_27 hz3 ?_
          refine lv_topl (fun v9_4 ev9_4 => ?_)
          have hw := hw v9_4 ev9_4
          refine lv_lstore (lv' := [(9, .long v9_4), (4, .long u4), (6, .long u6), (8, .int u8)]) hx hb dP_commonDivisor_28 hl (by decide) rfl (fun ls hl => ?_)
          refine lv_lload hx hb dP_commonDivisor_30 (lv_at hl 2 rfl) ?_
          refine lv_lstore (lv' := [(4, .long u6), (9, .long v9_4), (6, .long u6), (8, .int u8)]) hx hb dP_commonDivisor_32 hl (by decide) rfl (fun ls hl => ?_)
          refine lv_lload hx hb dP_commonDivisor_34 (lv_at hl 1 rfl) ?_
          refine lv_lstore (lv' := [(6, .long v9_4), (4, .long u6), (9, .long v9_4), (8, .int u8)]) hx hb dP_commonDivisor_36 hl (by decide) rfl (fun ls hl => ?_)
          obtain ⟨v8_5, ev8_5⟩ : ∃ y : Int32, y = u8 + 1 := ⟨_, rfl⟩
          have hw := hw v8_5 ev8_5
          refine lv_iinc (v := v8_5) (lv' := [(8, .int v8_5), (6, .long v9_4), (4, .long u6), (9, .long v9_4)]) hx hb dP_commonDivisor_38 hl (k := 3) rfl (by rw [ev8_5]; rfl) (by decide) rfl (fun ls hl => ?_)
          refine lv_goto (tgt := 9) hx hb dP_commonDivisor_41 (by decide) ?_
          refine W.widen (k := 0) (n := 0) (Nat.le_of_ble_eq_true rfl) (Nat.le_of_ble_eq_true rfl) ?_
          exact ih S u6 v9_4 v8_5 H locs ls hw hP hD hS (lv_sub hl [2, 1, 0] rfl)
  refine W.widen (k := 0) (n := 0) (Nat.le_of_ble_eq_true rfl) (Nat.le_of_ble_eq_true rfl) ?_
  exact hL n S p0 p1 0 H locs ls hw hP hD hS (lv_sub hl [2, 1, 0] rfl)
def wp_P_stretch (post : XSt → Prop) (p0 : Int64) (p1 : Int64) (S : XSt) : Prop := (∀ S1 : XSt, S1 = xsup S ((xup S) * p0) → (∀ S2 : XSt, S2 = xslo S1 ((xlo S1) * p1) → (wp_P_commonDivisor (fun r4 S3 => ((r4 ≤ 1 → (post S3)) ∧ (¬ r4 ≤ 1 → (¬ r4 = 0 ∧ (∀ S7 : XSt, S7 = xsup S3 ((xup S3) / r4) → (¬ r4 = 0 ∧ (∀ S9 : XSt, S9 = xslo S7 ((xlo S7) / r4) → (post S9)))))))) (xup S2) (xlo S2) S2)))
set_option maxHeartbeats 4000000 in
set_option maxRecDepth 100000 in
theorem c_P_stretch (l : Launch) (hl9 : l.stackTraces = false) (D : va_G) (cI cL cZ : ClassId) (h : Nat) (a : Nat → Nat) (post : XSt → Prop) (p0 : Int64) (p1 : Int64) (S : XSt) (hw : wp_P_stretch post p0 p1 S) : gMv l yP_stretch wsP_stretch ({ frames := 1, cells := 0, slots := 0, locals := 30 }) D [(cI, .int), (cL, .long), (cZ, .boolean)] [.ref (a 15), .long p0, .long p1] (XW cI cL cZ h a S) (XW cI cL cZ h a) post := by
  refine g_ofMv (cc := cP_stretch) (maxL := 7) (ret := none) (own := RP9) (by decide) rfl rfl (Nat.le_of_ble_eq_true rfl) ?_
  intro p e s m below meth c A H locs ls C hr hlocks hK hG hA hP hD hS hl
  obtain ⟨hx, hb, hml, hown, hts⟩ := id C
  have hts := fun w (h9 : w ∈ gW) => hts w (List.mem_cons_of_mem _ h9)
  have hto := fun w (h9 : w ∈ gWo) => hts w (gWo_in w h9)
  have hl : lv_has ls 7 [(0, .ref (a 15)), (1, .long p0), (3, .long p1)] := hl
  dsimp only [wp_P_stretch] at hw
  refine lv_aload_n hx hb dP_stretch_0 rfl (lv_at hl 0 rfl) ?_
  refine lv_dup hx hb dP_stretch_1 rfl ?_
  refine va_get (ci := 0) (v := .long (xup S)) (C := RP9) (T := TP9) (N := 2) hx hb hts iP9 hown hK hP 16 (XWc_16 cI cL cZ h a S) rfl 0 (by decide) (hto (.fieldLink RP9 7 "PieceTrace$Place" "upper" "J") (by decide +kernel)) (fun _ h9 => h9) rfl dP_stretch_2 ?_
  refine lv_lload_n hx hb dP_stretch_5 rfl (lv_at hl 1 rfl) ?_
  refine lv_lmul hx hb dP_stretch_6 ?_
  refine g_put (wf := XW cI cL cZ h a) (S' := xsup S ((xup S) * p0)) (ci := 0) (v := .long ((xup S) * p0)) (ty := .long) (C := RP9) (T := TP9) (N := 2) hx hb hts iP9 tyP9 tyP9_ok nmP9 hown hK hP hD hS 16 (XWc_16 cI cL cZ h a S) rfl 0 (by decide) (hto (.fieldLink RP9 7 "PieceTrace$Place" "upper" "J") (by decide +kernel)) (fun _ h9 => h9) rfl (by decide +kernel) rfl rfl (Nat.le_of_ble_eq_true rfl) rfl dP_stretch_7 (fun S1 eS1 H locs hP hD hS => ?_)
  have hw := hw S1 eS1
  refine lv_aload_n hx hb dP_stretch_10 rfl (lv_at hl 0 rfl) ?_
  refine lv_dup hx hb dP_stretch_11 rfl ?_
  refine va_get (ci := 0) (v := .long (xlo S1)) (C := RP9) (T := TP9) (N := 2) hx hb hts iP9 hown hK hP 16 (XWc_16 cI cL cZ h a S1) rfl 1 (by decide) (hto (.fieldLink RP9 13 "PieceTrace$Place" "lower" "J") (by decide +kernel)) (fun _ h9 => h9) rfl dP_stretch_12 ?_
  refine lv_lload_n hx hb dP_stretch_15 rfl (lv_at hl 2 rfl) ?_
  refine lv_lmul hx hb dP_stretch_16 ?_
  refine g_put (wf := XW cI cL cZ h a) (S' := xslo S1 ((xlo S1) * p1)) (ci := 0) (v := .long ((xlo S1) * p1)) (ty := .long) (C := RP9) (T := TP9) (N := 2) hx hb hts iP9 tyP9 tyP9_ok nmP9 hown hK hP hD hS 16 (XWc_16 cI cL cZ h a S1) rfl 1 (by decide) (hto (.fieldLink RP9 13 "PieceTrace$Place" "lower" "J") (by decide +kernel)) (fun _ h9 => h9) rfl (by decide +kernel) rfl rfl (Nat.le_of_ble_eq_true rfl) rfl dP_stretch_17 (fun S2 eS2 H locs hP hD hS => ?_)
  have hw := hw S2 eS2
  refine lv_aload_n hx hb dP_stretch_20 rfl (lv_at hl 0 rfl) ?_
  refine va_get (ci := 0) (v := .long (xup S2)) (C := RP9) (T := TP9) (N := 2) hx hb hts iP9 hown hK hP 16 (XWc_16 cI cL cZ h a S2) rfl 0 (by decide) (hto (.fieldLink RP9 7 "PieceTrace$Place" "upper" "J") (by decide +kernel)) (fun _ h9 => h9) rfl dP_stretch_21 ?_
  refine lv_aload_n hx hb dP_stretch_24 rfl (lv_at hl 0 rfl) ?_
  refine va_get (ci := 0) (v := .long (xlo S2)) (C := RP9) (T := TP9) (N := 2) hx hb hts iP9 hown hK hP 16 (XWc_16 cI cL cZ h a S2) rfl 1 (by decide) (hto (.fieldLink RP9 13 "PieceTrace$Place" "lower" "J") (by decide +kernel)) (fun _ h9 => h9) rfl dP_stretch_25 ?_
  refine gk_l (wr := []) (wc := XW cI cL cZ h a S2) (wfc := XW cI cL cZ h a) hP hD hS hA (va_runS (As := [.long (xup S2), .long (xlo S2)]) (rest := []) C (c_P_commonDivisor l hl9 D cI cL cZ h a _ (xup S2) (xlo S2) S2 hw H.size) (va_cwS 2 hts (gGS (by decide +kernel) kP_commonDivisor) rfl rfl rfl (by decide +kernel) ⟨Nat.le_of_ble_eq_true rfl, Nat.le_of_ble_eq_true rfl⟩) (g_preS (wr := []) (wc := XW cI cL cZ h a S2) hK hG hA hP hD hS) rfl rfl hl.1 rfl (lv_room (Nat.le_of_ble_eq_true rfl)) dP_stretch_28 ⟨Nat.le_of_ble_eq_true rfl, Nat.le_of_ble_eq_true rfl⟩) (fun r4 S3 H locs hw hP hD hS => ?_)
  have hP : va_P D vwCl (XW cI cL cZ h a S3) H := hP
  have hD : va_D A (XW cI cL cZ h a S3) := hD
  refine lv_lstore (lv' := [(5, .long r4), (0, .ref (a 15)), (1, .long p0), (3, .long p1)]) hx hb dP_stretch_31 hl (by decide) rfl (fun ls hl => ?_)
  refine lv_lload hx hb dP_stretch_33 (lv_at hl 0 rfl) ?_
  refine lv_lconst (v := 1) hx hb dP_stretch_35 (by decide) ?_
  refine W.lcmp hx hb dP_stretch_36 ?_
  refine lv_if_le (tgt := 62) hx hb dP_stretch_37 (by decide) (fun c5 => ?_) (fun c5 => ?_)
  · have c5 : r4 ≤ 1 := (lg_cmp_le _ _).mp c5
    have hw := hw.1 c5
    exact gr_v hx hb hr hlocks hK hP hD hS hw (Nat.le_of_ble_eq_true rfl) (Nat.le_of_ble_eq_true rfl) dP_stretch_62
  · have c5 : ¬ r4 ≤ 1 := fun h9 => c5 ((lg_cmp_le _ _).mpr h9)
    have hw := hw.2 c5
    refine lv_aload_n hx hb dP_stretch_40 rfl (lv_at hl 1 rfl) ?_
    refine lv_dup hx hb dP_stretch_41 rfl ?_
    refine va_get (ci := 0) (v := .long (xup S3)) (C := RP9) (T := TP9) (N := 2) hx hb hts iP9 hown hK hP 16 (XWc_16 cI cL cZ h a S3) rfl 0 (by decide) (hto (.fieldLink RP9 7 "PieceTrace$Place" "upper" "J") (by decide +kernel)) (fun _ h9 => h9) rfl dP_stretch_42 ?_
    refine lv_lload hx hb dP_stretch_45 (lv_at hl 0 rfl) ?_
    obtain ⟨hz6, hw⟩ := hw
    refine lv_ldiv hx hb dP_stretch_47 hz6 ?_
    refine g_put (wf := XW cI cL cZ h a) (S' := xsup S3 ((xup S3) / r4)) (ci := 0) (v := .long ((xup S3) / r4)) (ty := .long) (C := RP9) (T := TP9) (N := 2) hx hb hts iP9 tyP9 tyP9_ok nmP9 hown hK hP hD hS 16 (XWc_16 cI cL cZ h a S3) rfl 0 (by decide) (hto (.fieldLink RP9 7 "PieceTrace$Place" "upper" "J") (by decide +kernel)) (fun _ h9 => h9) rfl (by decide +kernel) rfl rfl (Nat.le_of_ble_eq_true rfl) rfl dP_stretch_48 (fun S7 eS7 H locs hP hD hS => ?_)
    have hw := hw S7 eS7
    refine lv_aload_n hx hb dP_stretch_51 rfl (lv_at hl 1 rfl) ?_
    refine lv_dup hx hb dP_stretch_52 rfl ?_
    refine va_get (ci := 0) (v := .long (xlo S7)) (C := RP9) (T := TP9) (N := 2) hx hb hts iP9 hown hK hP 16 (XWc_16 cI cL cZ h a S7) rfl 1 (by decide) (hto (.fieldLink RP9 13 "PieceTrace$Place" "lower" "J") (by decide +kernel)) (fun _ h9 => h9) rfl dP_stretch_53 ?_
    refine lv_lload hx hb dP_stretch_56 (lv_at hl 0 rfl) ?_
    obtain ⟨hz8, hw⟩ := hw
    refine lv_ldiv hx hb dP_stretch_58 hz8 ?_
    refine g_put (wf := XW cI cL cZ h a) (S' := xslo S7 ((xlo S7) / r4)) (ci := 0) (v := .long ((xlo S7) / r4)) (ty := .long) (C := RP9) (T := TP9) (N := 2) hx hb hts iP9 tyP9 tyP9_ok nmP9 hown hK hP hD hS 16 (XWc_16 cI cL cZ h a S7) rfl 1 (by decide) (hto (.fieldLink RP9 13 "PieceTrace$Place" "lower" "J") (by decide +kernel)) (fun _ h9 => h9) rfl (by decide +kernel) rfl rfl (Nat.le_of_ble_eq_true rfl) rfl dP_stretch_59 (fun S9 eS9 H locs hP hD hS => ?_)
    have hw := hw S9 eS9
    exact gr_v hx hb hr hlocks hK hP hD hS hw (Nat.le_of_ble_eq_true rfl) (Nat.le_of_ble_eq_true rfl) dP_stretch_62
end
