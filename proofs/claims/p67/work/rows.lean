section
/-! ===== BEGIN words of one list among another's, by their places ===== -/
theorem goodIn_r {big : List Cond} (ws : List Cond) (ps : List Nat) (hp : ws = ps.filterMap (fun i => big[i]?)) (h : ws.all goodWord = true) : GoodIn big ws := by
  intro w hw
  have h1 := List.all_eq_true.mp h w hw
  rw [hp] at hw
  obtain ⟨i, -, hi⟩ := List.mem_filterMap.mp hw
  have hm : w ∈ big := by first | exact List.mem_of_getElem? hi | exact List.getElem?_mem hi
  exact ⟨hm, good_of_word h1⟩
theorem goodIn_app {big a b : List Cond} (ha : GoodIn big a) (hb : GoodIn big b) : GoodIn big (a ++ b) := fun w h => (List.mem_append.mp h).elim (ha w) (hb w)
theorem goodIn_ca {big a b : List Cond} {c : Cond} (ha : GoodIn big (c :: a)) (hb : GoodIn big b) : GoodIn big (c :: (a ++ b)) := fun w h => (List.mem_cons.mp h).elim (fun e => ha w (List.mem_cons.mpr (Or.inl e))) (fun h => (List.mem_append.mp h).elim (fun h => ha w (List.mem_cons.mpr (Or.inr h))) (hb w))
theorem goodIn_sub {big ws : List Cond} (hm : ∀ w ∈ ws, w ∈ big) (h : ws.all goodWord = true) : GoodIn big ws := fun w hw => ⟨hm w hw, good_of_word (List.all_eq_true.mp h w hw)⟩
/-! ===== END ===== -/

/-! ===== BEGIN exceptions that leave a method, and their catching by the caller (launches without stack traces) ===== -/
section VXA
/-! The laws vx_back, vx_callV, vx_callS, vx_callSW, vx_throw0, vx_throwS follow proofs of the library, with one case more: JvmDerived/Free/Laws.lean (Back.of_free), Shelf42/LK1.lean (callV, callS), Shelf/KitTraced.lean (throwNew0V, throwNewS). -/
/-- where a method has thrown q: the class by its name, the cell, what was written, the world -/
def vx_T (XC : String → State → State → Prop) (st : State) (q : Addr) (t : State) (mc ms : Nat) (free : Addr → Prop) : Prop :=
  ∃ (E : String) (ce : Cell) (L : List Loc), XC E st t ∧ t.heap[q]? = some ce ∧ ce.vm = .none ∧ st.vm.findClass E = some ce.cls ∧ st.WarmedH t.vm ∧ st.sameButNew ({ t with vm := st.vm } : State) L mc ms ∧ ∀ z ∈ L, free z.base
def vx_Q (Qc : Array Value → State → Outcome → State → Prop) (XC : String → State → State → Prop) (mc ms : Nat) (free : Addr → Prop) : Array Value → State → Outcome → State → Prop := fun a st o t =>
  (Qc a st o t ∧ ∃ L, FrameEnd st o t L mc ms ∧ ∀ q ∈ L, free q.base) ∨ ∃ q, o = .threw q ∧ vx_T XC st q t mc ms free
/-- a callee that returns or throws -/
def vx_Met (l : Launch) (y : MethodName) (ws : List Cond) (rm : Room) (Pc : Array Value → State → Prop) (Qc : Array Value → State → Outcome → State → Prop) (XC : String → State → State → Prop) (mc ms : Nat) (free : Addr → Prop) : Prop :=
  MetFree l y (headSpec ws rm) Pc (fun _ _ _ _ _ => True) (vx_Q Qc XC mc ms free)
def vx_Post (XC : String → State → State → Prop) (mc ms : Nat) (free : Addr → Prop) : Pt → Array Value → Addr → Pt → Prop := fun A a q B =>
  ∃ (g : JFrame) (mk : MethodId) (t : State) (L : List Loc) (E : String) (ce : Cell), B.U.heap = t.heap ∧ B.U.vm = t.vm ∧ XC E (A.U.calling g mk a) t ∧ t.heap[q]? = some ce ∧ ce.vm = .none ∧ A.U.vm.findClass E = some ce.cls ∧ B.locs = A.locs ++ L ∧ (∀ z ∈ L, free z.base) ∧ B.cells = A.cells + mc ∧ B.slots = A.slots + ms
def vx_Back (l : Launch) (R : Room) (p : Program) (e : Env) (below : List Frame) (s : State) (sargs : Array Value) (y : MethodName) (len W9 : Nat)
    (Pre : Pt → Array Value → Prop) (Post : Pt → Array Value → Option Value → Pt → Prop) (PostX : Pt → Array Value → Addr → Pt → Prop) : Prop :=
  ∀ (m : MethodId) (meth : Method) (c : Code) (A : Pt) (g : JFrame) (ig : Instr) (mk : MethodId) (a : Array Value),
    Stand p l e R s m sargs below meth c A.U A.locs A.cells A.slots → g.method = m → g.locals.size = c.maxLocals → decode c.code g.pc = .ok (ig, len) →
    2 * g.monitorRoom + (g.stack.map fun v => v.category).sum ≤ W9 → A.U.methodNamed? y = some mk → Pre A a →
    (∃ (v : Option Value) (B : Pt), Stand p l e R s m sargs below meth c B.U B.locs B.cells B.slots ∧ Post A a v B ∧
      Steps p.tables e below (doInvoke e (A.U.setTop g) [] mk a).1 (B.U.setTop { g with pc := g.pc + len, stack := v.toList ++ g.stack })) ∨
    (∃ (q : Addr) (B : Pt), Stand p l e R s m sargs below meth c B.U B.locs B.cells B.slots ∧ PostX A a q B ∧
      Steps p.tables e below (doInvoke e (A.U.setTop g) [] mk a).1 ((B.U.setTop g).pushFrame (.throwing q)))
section Payer
variable {l : Launch} {R : Room} {p : Program} {e : Env} {below : List Frame} {s : State} {sargs : Array Value} {y : MethodName} {len W9 : Nat}
theorem vx_back {ws : List Cond} {rm : Room} {Pc : Array Value → State → Prop} {Qc : Array Value → State → Outcome → State → Prop} {XC : String → State → State → Prop} {mc ms : Nat} {free : Addr → Prop} {bytes : ByteArray} {maxL : Nat} {ret : Option FieldType}
    (hM : vx_Met l y ws rm Pc Qc XC mc ms free) (hblind : FrameBlind Pc) (hrc : rm.cells = mc) (hrs : rm.slots = ms)
    (hframes : rm.frames + 1 ≤ R.frames) (hlocals : W9 + (maxL + 11) + rm.locals ≤ R.locals)
    (hws : ∀ w ∈ ws, ∀ a' U, s.WarmedH U.vm → w.before a' U = true) (hcode : Cond.code y bytes maxL ret ∈ ws) (hinit : ∀ a' U, s.WarmedH U.vm → (Cond.initialized y.cls).before a' U = true) :
    vx_Back l R p e below s sargs y len W9 (PreOf R mc ms Pc) (PostOf Qc mc ms free) (vx_Post XC mc ms free) := by
  intro m meth c A g ig mk a X hg hsize hdg hW hn hp
  have h1 : (headSpec ws rm).pre.before a A.U = true := atoms_intro fun w hw => hws w hw _ _ X.warmed
  have h2 : (Cond.code y bytes maxL ret).before a A.U = true := hws _ hcode _ _ X.warmed
  have h3 : (Cond.initialized y.cls).before a A.U = true := hinit _ _ X.warmed
  have h4 : A.cells + (headSpec ws rm).room.cells ≤ R.cells := by rw [show (headSpec ws rm).room.cells = mc from hrc]; exact hp.1
  have h5 : A.slots + (headSpec ws rm).room.slots ≤ R.slots := by rw [show (headSpec ws rm).room.slots = ms from hrs]; exact hp.2.1
  have hPc : Pc a (A.U.calling g mk a) := hblind _ _ _ _ hp.2.2
  obtain ⟨U, Ls, c0, s0⟩ := A
  dsimp only [Pt.U, Pt.locs, Pt.cells, Pt.slots] at h1 h2 h3 h4 h5 X hn hPc ⊢
  obtain ⟨methY, cY, hmY, hcY, -, hlY, -, -, -, -⟩ := Cond.code_spec hn h2
  obtain ⟨kY, hkY, -⟩ := className_of_methodNamed hn
  have hinitY : kY.init = .initialized := Cond.initialized_spec (findClass_of_methodNamed hn) hkY h3
  have h : At U g.method c below := by rw [hg]; exact X.here
  have hlocals9 : W9 + (maxL + 11) + (headSpec ws rm).room.locals ≤ R.locals := hlocals
  have happ : (headSpec ws rm).appliesLoose y e.platform (U.calling g mk a) = true :=
    Spec.appliesLoose_calling (g := g) h hdg hn hkY hinitY
      (X.room_calling (g := g) (R' := (headSpec ws rm).room) hsize hmY hcY hframes (by rw [hlY]; omega) h4 h5) h1
  obtain ⟨mid, hmid⟩ := h.above
  have hfr : (U.setTop g).frames = (.java g :: mid) ++ below := by rw [State.frames_setTop' g h.top, hmid]; rfl
  obtain ⟨o, s₂, hsteps, -, hend, hq⟩ := Steps.callFree hM p X.admits X.cas X.clock (acts := []) hfr happ hPc trivial
  have hq' : vx_Q Qc XC mc ms free a (U.calling g mk a) o s₂ := hq
  rw [State.frames_setTop' g h.top] at hend
  obtain ⟨g₀, hg0⟩ := Option.isSome_iff_exists.mp h.top
  obtain ⟨r, hr⟩ := State.topJava?_eq_some.mp hg0
  have hr' : (({ U with heap := s₂.heap, slotsUsed := s₂.slotsUsed } : State).setVm s₂.vm).frames = .java g₀ :: r := hr
  rcases hq' with ⟨hqc, L, hfe, hL⟩ | ⟨q, rfl, E, ce, L, hx, hce, hcv, hcl, hW₂, hsm, hL⟩
  · obtain ⟨⟨v, rfl⟩, hW₂, e2, q2, q3, q4, q5, q6⟩ := id hfe
    have e3 : s₂ = ({ (U.calling g mk a).setFrames s₂.frames with heap := s₂.heap, slotsUsed := s₂.slotsUsed } : State).setVm s₂.vm := by
      have : s₂ = ({ s₂ with vm := (U.calling g mk a).vm } : State).setVm s₂.vm := rfl
      rw [e2] at this
      exact this
    obtain ⟨c₂, i₂, len₂, hc₂, hd₂, hf₂⟩ := hend
    have hW' : U.WarmedH s₂.vm := hW₂
    have hcc : c₂ = c := by
      have h1 : s₂.code? g.method = U.code? g.method := by
        rw [State.code?_eq, State.code?_eq, hW'.alike.method?]
      exact Option.some.inj (hc₂.symm.trans (h1.trans h.code))
    subst hcc
    have hlen : len₂ = len := by rw [hdg] at hd₂; cases hd₂; rfl
    subst hlen
    have hs₂ : s₂ = (({ U with heap := s₂.heap, slotsUsed := s₂.slotsUsed } : State).setVm s₂.vm).setTop { g with pc := g.pc + len₂, stack := v.toList ++ g.stack } := by
      refine e3.trans ?_
      rw [hf₂, State.calling_eq h.top, State.setFrames_setFrames, State.setTop_of_frames _ hr', hr]
      rfl
    have hsame : U.sameButNew ({ U with heap := s₂.heap, slotsUsed := s₂.slotsUsed } : State) L mc ms := by
      refine ⟨?_, q2, q3, q4, q5, q6⟩
      obtain ⟨t, ht, -⟩ := State.frames_cons hr
      show ({ U with heap := s₂.heap, slotsUsed := s₂.slotsUsed } : State) = { U.setFrames U.frames with heap := s₂.heap, slotsUsed := s₂.slotsUsed }
      rw [State.setFrames_self ht]
    subst hg
    refine Or.inl ⟨v, ⟨(({ U with heap := s₂.heap, slotsUsed := s₂.slotsUsed } : State).setVm s₂.vm), Ls ++ L, c0 + mc, s0 + ms⟩,
      ⟨X.admits, X.cas, X.clock, X.frames, X.room, X.hears, X.method, X.code, (X.here.setHeapUsed s₂.heap s₂.slotsUsed).setVm hW'.alike, X.tail, State.WarmedH.trans X.warmed hW', X.limits, X.bytes, X.same.trans (hsame.setVm s.vm)⟩,
      ⟨g, mk, s₂, L, rfl, rfl, hqc, rfl, hL, rfl, rfl⟩, ?_⟩
    show Steps p.tables e below _ ((({ U with heap := s₂.heap, slotsUsed := s₂.slotsUsed } : State).setVm s₂.vm).setTop { g with pc := g.pc + len₂, stack := v.toList ++ g.stack })
    rw [← hs₂]
    exact hsteps
  · obtain ⟨e2, q2, q3, q4, q5, q6⟩ := id hsm
    have e3 : s₂ = ({ (U.calling g mk a).setFrames s₂.frames with heap := s₂.heap, slotsUsed := s₂.slotsUsed } : State).setVm s₂.vm := by
      have : s₂ = ({ s₂ with vm := (U.calling g mk a).vm } : State).setVm s₂.vm := rfl
      rw [e2] at this
      exact this
    have hf₂ : s₂.frames = .throwing q :: .java g :: U.frames.tail := hend
    have hW' : U.WarmedH s₂.vm := hW₂
    have hs₂ : s₂ = ((({ U with heap := s₂.heap, slotsUsed := s₂.slotsUsed } : State).setVm s₂.vm).setTop g).pushFrame (.throwing q) := by
      refine e3.trans ?_
      rw [hf₂, State.calling_eq h.top, State.setFrames_setFrames, State.pushFrame, State.frames_setTop _ hr', State.setTop_of_frames _ hr', State.setFrames_setFrames, hr]
      rfl
    have hsame : U.sameButNew ({ U with heap := s₂.heap, slotsUsed := s₂.slotsUsed } : State) L mc ms := by
      refine ⟨?_, q2, q3, q4, q5, q6⟩
      obtain ⟨t, ht, -⟩ := State.frames_cons hr
      show ({ U with heap := s₂.heap, slotsUsed := s₂.slotsUsed } : State) = { U.setFrames U.frames with heap := s₂.heap, slotsUsed := s₂.slotsUsed }
      rw [State.setFrames_self ht]
    subst hg
    refine Or.inr ⟨q, ⟨(({ U with heap := s₂.heap, slotsUsed := s₂.slotsUsed } : State).setVm s₂.vm), Ls ++ L, c0 + mc, s0 + ms⟩,
      ⟨X.admits, X.cas, X.clock, X.frames, X.room, X.hears, X.method, X.code, (X.here.setHeapUsed s₂.heap s₂.slotsUsed).setVm hW'.alike, X.tail, State.WarmedH.trans X.warmed hW', X.limits, X.bytes, X.same.trans (hsame.setVm s.vm)⟩,
      ⟨g, mk, s₂, L, E, ce, rfl, rfl, hx, hce, hcv, hcl, rfl, hL, rfl, rfl⟩, ?_⟩
    show Steps p.tables e below _ (((({ U with heap := s₂.heap, slotsUsed := s₂.slotsUsed } : State).setVm s₂.vm).setTop g).pushFrame (.throwing q))
    rw [← hs₂]
    exact hsteps
end Payer
section Calls
variable {p : Program} {l : Launch} {e : Env} {R : Room} {s : State} {m : MethodId} {args : Array Value} {below : List Frame} {meth : Method} {c : Code} {T : State} {locs : List Loc} {cells slots : Nat}
theorem vx_callV (X : Stand p l e R s m args below meth c T locs cells slots) (hexec : p.tables.exec = Jvm.exec) {own C : String} {index : Nat} {y : MethodName} {bytes : ByteArray} {maxL : Nat} {ret : Option FieldType}
    (hown : s.vm.findClass own = some m.cls) (hlink : (Cond.methodLink own index y).before args s = true) (hinst : (Cond.instanceMethod y).before args s = true) (hsel : (Cond.selects C y y).before args s = true)
    (hcode : (Cond.code y bytes maxL ret).before args s = true) (hy : y.cls ≠ "java/lang/invoke/MethodHandle" ∧ y.cls ≠ "java/lang/invoke/VarHandle")
    {W9 : Nat} {Pre : Pt → Array Value → Prop} {Post : Pt → Array Value → Option Value → Pt → Prop} {PostX : Pt → Array Value → Addr → Pt → Prop} (hK : vx_Back l R p e below s args y 3 W9 Pre Post PostX)
    {b : Addr} {cellB : Cell} (hcell : T.heap[b]? = some cellB) (hobj : cellB.vm.isStatics = false) (hcls : s.vm.findClass C = some cellB.cls)
    {g : JFrame} (hg : g.method = m) (hsize : g.locals.size = c.maxLocals) {argsL rest : List Value} (hlen : ∀ sig, parseMethodDescriptor y.desc = some sig → argsL.length = sig.parameters.length)
    (hstack : g.stack = argsL.reverse ++ .ref b :: rest) (hW : 2 * g.monitorRoom + (rest.map fun v => v.category).sum ≤ W9) (hdg : decode c.code g.pc = .ok (.invokevirtual index, 3))
    (hpre : ∀ vm₁, s.WarmedH vm₁ → Pre ⟨T.setVm vm₁, locs, cells, slots⟩ (Value.ref b :: argsL).toArray) :
    (∃ (v : Option Value) (vm₁ : Vm) (B : Pt), s.WarmedH vm₁ ∧ Stand p l e R s m args below meth c B.U B.locs B.cells B.slots ∧ Post ⟨T.setVm vm₁, locs, cells, slots⟩ (Value.ref b :: argsL).toArray v B ∧
      ∀ target, Steps p.tables e below (B.U.setTop { g with pc := g.pc + 3, stack := v.toList ++ rest }) target → Steps p.tables e below (T.setTop g) target) ∨
    (∃ (q : Addr) (vm₁ : Vm) (B : Pt), s.WarmedH vm₁ ∧ Stand p l e R s m args below meth c B.U B.locs B.cells B.slots ∧ PostX ⟨T.setVm vm₁, locs, cells, slots⟩ (Value.ref b :: argsL).toArray q B ∧
      Steps p.tables e below (T.setTop g) ((B.U.setTop { g with stack := rest }).pushFrame (.throwing q))) := by
  obtain ⟨mk, methM, hnamed, hmethM, hstM, habM⟩ := Cond.instanceMethod_spec hinst
  obtain ⟨methM', cM, hmethM', -, -, -, -, -, -, hsigM⟩ := Cond.code_spec hnamed hcode
  cases hmethM.symm.trans hmethM'
  obtain ⟨c2, r2, m2, q1, q2, q3, q4, kP, hkP, hkPi⟩ := Cond.selects_spec hsel
  cases hcls.symm.trans q1
  cases (State.methodFound?_of_named hnamed hy).symm.trans q2
  cases hnamed.symm.trans q3
  have hselP : selectMethod e.platform s.vm cellB.cls mk = .method mk := by rw [Launch.admits_selectMethod X.admits]; exact q4
  obtain ⟨vm₁, X₁, hstep₁⟩ := X.invokevirtual hexec hown hlink hnamed hmethM hstM hkP hkPi hy (a := b) (cell := cellB) hcell
    (fun z h => by rw [h] at hobj; cases hobj) hselP hmethM habM hkP hkPi (g := g) hg (argsL := argsL) (rest := rest) (hlen _ hsigM) hstack hdg
  rcases hK m meth c ⟨T.setVm vm₁, locs, cells, slots⟩ { g with stack := rest } (.invokevirtual index) mk (Value.ref b :: argsL).toArray X₁ hg hsize hdg hW (X₁.named hnamed) (hpre vm₁ X₁.warmed) with ⟨v, B, X', hpost, hsteps⟩ | ⟨q, B, X', hpost, hsteps⟩
  · exact Or.inl ⟨v, vm₁, B, X₁.warmed, X', hpost, fun target h => hstep₁ _ fun acts => by rw [doInvoke_state]; exact hsteps.trans h⟩
  · exact Or.inr ⟨q, vm₁, B, X₁.warmed, X', hpost, hstep₁ _ fun acts => by rw [doInvoke_state]; exact hsteps⟩
theorem vx_callS (X : Stand p l e R s m args below meth c T locs cells slots) (hexec : p.tables.exec = Jvm.exec) {own : String} {index : Nat} {y : MethodName} {bytes : ByteArray} {maxL : Nat} {ret : Option FieldType}
    (hown : s.vm.findClass own = some m.cls) (hlink : (Cond.methodLink own index y).before args s = true) (hstat : (Cond.static y).before args s = true) (hinit : (Cond.initialized y.cls).before args s = true)
    (hcode : (Cond.code y bytes maxL ret).before args s = true) (hy : y.cls ≠ "java/lang/invoke/MethodHandle" ∧ y.cls ≠ "java/lang/invoke/VarHandle")
    {W9 : Nat} {Pre : Pt → Array Value → Prop} {Post : Pt → Array Value → Option Value → Pt → Prop} {PostX : Pt → Array Value → Addr → Pt → Prop} (hK : vx_Back l R p e below s args y 3 W9 Pre Post PostX)
    {g : JFrame} (hg : g.method = m) (hsize : g.locals.size = c.maxLocals) {argsL rest : List Value} (hlen : ∀ sig, parseMethodDescriptor y.desc = some sig → argsL.length = sig.parameters.length)
    (hstack : g.stack = argsL.reverse ++ rest) (hW : 2 * g.monitorRoom + (rest.map fun v => v.category).sum ≤ W9) (hdg : decode c.code g.pc = .ok (.invokestatic index, 3))
    (hpre : ∀ vm₁, s.WarmedH vm₁ → Pre ⟨T.setVm vm₁, locs, cells, slots⟩ argsL.toArray) :
    (∃ (v : Option Value) (vm₁ : Vm) (B : Pt), s.WarmedH vm₁ ∧ Stand p l e R s m args below meth c B.U B.locs B.cells B.slots ∧ Post ⟨T.setVm vm₁, locs, cells, slots⟩ argsL.toArray v B ∧
      ∀ target, Steps p.tables e below (B.U.setTop { g with pc := g.pc + 3, stack := v.toList ++ rest }) target → Steps p.tables e below (T.setTop g) target) ∨
    (∃ (q : Addr) (vm₁ : Vm) (B : Pt), s.WarmedH vm₁ ∧ Stand p l e R s m args below meth c B.U B.locs B.cells B.slots ∧ PostX ⟨T.setVm vm₁, locs, cells, slots⟩ argsL.toArray q B ∧
      Steps p.tables e below (T.setTop g) ((B.U.setTop { g with stack := rest }).pushFrame (.throwing q))) := by
  obtain ⟨mk, hnamed⟩ := Cond.code_named hcode
  obtain ⟨methM, cM, hmethM, -, -, -, -, -, -, hsigM⟩ := Cond.code_spec hnamed hcode
  have hstatic : methM.isStatic = true := Cond.static_spec hnamed hmethM hstat
  obtain ⟨kP, hkP, -⟩ := className_of_methodNamed hnamed
  have hinitP : kP.init = .initialized := Cond.initialized_spec (findClass_of_methodNamed hnamed) hkP hinit
  obtain ⟨vm₁, X₁, hstep₁⟩ := X.invokestatic hexec hown hlink hnamed hmethM hstatic hkP hinitP hy (g := g) hg (argsL := argsL) (rest := rest) (hlen _ hsigM) hstack hdg
  rcases hK m meth c ⟨T.setVm vm₁, locs, cells, slots⟩ { g with stack := rest } (.invokestatic index) mk argsL.toArray X₁ hg hsize hdg hW (X₁.named hnamed) (hpre vm₁ X₁.warmed) with ⟨v, B, X', hpost, hsteps⟩ | ⟨q, B, X', hpost, hsteps⟩
  · exact Or.inl ⟨v, vm₁, B, X₁.warmed, X', hpost, fun target h => hstep₁ _ fun acts => by rw [doInvoke_state]; exact hsteps.trans h⟩
  · exact Or.inr ⟨q, vm₁, B, X₁.warmed, X', hpost, hstep₁ _ fun acts => by rw [doInvoke_state]; exact hsteps⟩
end Calls
theorem vx_cls {s : State} {T : State} {vm₁ : Vm} {E : String} {k : ClassId} (hW : s.WarmedH vm₁) (h : (T.setVm vm₁).vm.findClass E = some k) : s.vm.findClass E = some k := by
  have h1 : vm₁.findClass E = some k := h
  rw [hW.alike.findClass] at h1
  exact h1
/-- the method's frame g, with q thrown over it -/
def vx_W (p : Program) (l : Launch) (e : Env) (R : Room) (s : State) (m : MethodId) (args : Array Value) (below : List Frame) (meth : Method) (c : Code) (H : Heap) (locs : List Loc) (cells slots : Nat) (Q : State → Prop) (g : JFrame) (q : Addr) : Prop :=
  ∀ T : State, T.heap = H → Stand p l e R s m args below meth c T locs cells slots → ∃ t, Steps p.tables e below ((T.setTop g).pushFrame (.throwing q)) t ∧ Q t
def vx_Run (p : Program) (l : Launch) (e : Env) (R : Room) (s : State) (m : MethodId) (args : Array Value) (below : List Frame) (meth : Method) (c : Code) (H : Heap) (locs : List Loc) (cells slots mc ms : Nat) (g : JFrame) (rest : List Value) (Qa : State → Outcome → State → Prop) (XC : String → State → State → Prop) (free : Addr → Prop) : Prop :=
  ∀ T : State, T.heap = H → Stand p l e R s m args below meth c T locs cells slots →
    (∃ (v : Option Value) (st₀ t T' : State) (L : List Loc), st₀.heap = H ∧ Stand p l e R s m args below meth c T' (locs ++ L) (cells + mc) (slots + ms) ∧ (∀ q ∈ L, free q.base) ∧ T'.heap = t.heap ∧ T'.vm = t.vm ∧ Qa st₀ (.returned v) t ∧
      Goes p e below T g T' { g with pc := g.pc + 3, stack := v.toList ++ rest }) ∨
    (∃ (q : Addr) (st₀ t T' : State) (L : List Loc) (E : String) (ce : Cell), st₀.heap = H ∧ Stand p l e R s m args below meth c T' (locs ++ L) (cells + mc) (slots + ms) ∧ (∀ z ∈ L, free z.base) ∧ T'.heap = t.heap ∧ T'.vm = t.vm ∧ XC E st₀ t ∧ t.heap[q]? = some ce ∧ ce.vm = .none ∧ s.vm.findClass E = some ce.cls ∧
      Steps p.tables e below (T.setTop g) ((T'.setTop { g with stack := rest }).pushFrame (.throwing q)))
def vx_X {S : Type} (px : S → Prop) (B : String → S → State → Prop) (A : Nat → Prop) : String → State → State → Prop := fun E st t => ∃ u : S, px u ∧ B E u t ∧ va_F A st t
section Runs
variable {p : Program} {l : Launch} {e : Env} {R : Room} {s : State} {m : MethodId} {args : Array Value} {below : List Frame} {meth : Method} {c : Code} {H : Heap} {locs : List Loc} {cells slots : Nat}
variable {y : MethodName} {bytes cc : ByteArray} {maxL nL mc ms n index : Nat} {ret : Option FieldType} {ws : List Cond} {rm : Room} {Pc : Array Value → State → Prop} {Qc : Array Value → State → Outcome → State → Prop} {XC : String → State → State → Prop} {free : Addr → Prop} {Ts : List Cond} {own C : String} {b : Addr} {As rest : List Value} {g : JFrame}
theorem vx_callBack (cb : CallB R s args own index y bytes maxL ret ws rm mc ms n) (hM : vx_Met l y ws rm Pc Qc XC mc ms free) (hbl : FrameBlind Pc) : vx_Back l R p e below s args y 3 8 (PreOf R mc ms Pc) (PostOf Qc mc ms free) (vx_Post XC mc ms free) := by
  obtain ⟨hrc, hrs, hfr, hlo, hws, hcw, -, hini, -⟩ := cb
  exact vx_back (bytes := bytes) (maxL := maxL) (ret := ret) hM hbl hrc hrs hfr hlo hws hcw (fun a' U hW => word_at hW (Or.inl (by first | rfl | simp [Cond.onTables, Cond.keeps, Cond.steady])) hini)
theorem vx_runV (S : CallFix p m c cc nL s args Ts own) (hM : vx_Met l y ws rm Pc Qc XC mc ms free) (cw : CallW R s args own C index y bytes maxL ret ws rm mc ms n) (hp : PreV s H C b Pc As)
    (hg : g.method = m) (hn : As.length = n) (hsize : g.locals.size = nL) (hstack : g.stack = As.reverse ++ .ref b :: rest) (hW : 2 * g.monitorRoom + (rest.map fun v => v.category).sum ≤ 8) (hdg : decode cc g.pc = .ok (.invokevirtual index, 3)) (hf : cells + mc ≤ R.cells ∧ slots + ms ≤ R.slots) :
    vx_Run p l e R s m args below meth c H locs cells slots mc ms g rest (Qc (Value.ref b :: As).toArray) XC free := by
  have hK : vx_Back l R p e below s args y 3 8 (PreOf R mc ms Pc) (PostOf Qc mc ms free) (vx_Post XC mc ms free) := vx_callBack cw.1 hM hp.1
  obtain ⟨⟨-, -, -, -, -, -, hcode, -, hy, hlen, hl⟩, hin, hse⟩ := cw
  obtain ⟨hx, hb, hml, ho, -⟩ := S
  obtain ⟨-, ⟨cellB, hcB, hoB, hclB⟩, hPc⟩ := hp
  intro T hT X
  rcases vx_callV X hx (C := C) (bytes := bytes) (maxL := maxL) (ret := ret) ho hl hin hse hcode hy hK (by rw [hT]; exact hcB) hoB hclB hg (hsize.trans hml.symm) (argsL := As) (rest := rest) (fun sig h => hn.trans (hlen sig h)) hstack hW (by rw [hb]; exact hdg)
    (fun vm₁ hW₁ => ⟨hf.1, hf.2, hPc (T.setVm vm₁) hT hW₁⟩) with ⟨v, vm₁, ⟨U', l2, c2, s2⟩, hW₁, X', ⟨g', mk, t, L, e1, e2, hq, h1, hL, h2, h3⟩, st⟩ | ⟨q, vm₁, ⟨U', l2, c2, s2⟩, hW₁, X', ⟨g', mk, t, L, E, ce, e1, e2, hq, hce, hcv, hcl, h1, hL, h2, h3⟩, st⟩
  · dsimp only [Pt.U, Pt.locs, Pt.cells, Pt.slots] at X' e1 e2 h1 h2 h3 st
    subst h1; subst h2; subst h3
    exact Or.inl ⟨v, (T.setVm vm₁).calling g' mk (Value.ref b :: As).toArray, t, U', L, hT, X', hL, e1, e2, hq, st⟩
  · dsimp only [Pt.U, Pt.locs, Pt.cells, Pt.slots] at X' e1 e2 h1 h2 h3 st hcl
    subst h1; subst h2; subst h3
    exact Or.inr ⟨q, (T.setVm vm₁).calling g' mk (Value.ref b :: As).toArray, t, U', L, E, ce, hT, X', hL, e1, e2, hq, hce, hcv, vx_cls hW₁ hcl, st⟩
theorem vx_runS (S : CallFix p m c cc nL s args Ts own) (hM : vx_Met l y ws rm Pc Qc XC mc ms free) (cw : CallB R s args own index y bytes maxL ret ws rm mc ms n ∧ (Cond.static y).before args s = true) (hp : PreS s H Pc As)
    (hg : g.method = m) (hn : As.length = n) (hsize : g.locals.size = nL) (hstack : g.stack = As.reverse ++ rest) (hW : 2 * g.monitorRoom + (rest.map fun v => v.category).sum ≤ 8) (hdg : decode cc g.pc = .ok (.invokestatic index, 3)) (hf : cells + mc ≤ R.cells ∧ slots + ms ≤ R.slots) :
    vx_Run p l e R s m args below meth c H locs cells slots mc ms g rest (Qc As.toArray) XC free := by
  have hK : vx_Back l R p e below s args y 3 8 (PreOf R mc ms Pc) (PostOf Qc mc ms free) (vx_Post XC mc ms free) := vx_callBack cw.1 hM hp.1
  obtain ⟨⟨-, -, -, -, -, -, hcode, hini, hy, hlen, hl⟩, hstt⟩ := cw
  obtain ⟨hx, hb, hml, ho, -⟩ := S
  intro T hT X
  rcases vx_callS X hx (bytes := bytes) (maxL := maxL) (ret := ret) ho hl hstt hini hcode hy hK hg (hsize.trans hml.symm) (argsL := As) (rest := rest) (fun sig h => hn.trans (hlen sig h)) hstack hW (by rw [hb]; exact hdg)
    (fun vm₁ hW₁ => ⟨hf.1, hf.2, hp.2 (T.setVm vm₁) hT hW₁⟩) with ⟨v, vm₁, ⟨U', l2, c2, s2⟩, hW₁, X', ⟨g', mk, t, L, e1, e2, hq, h1, hL, h2, h3⟩, st⟩ | ⟨q, vm₁, ⟨U', l2, c2, s2⟩, hW₁, X', ⟨g', mk, t, L, E, ce, e1, e2, hq, hce, hcv, hcl, h1, hL, h2, h3⟩, st⟩
  · dsimp only [Pt.U, Pt.locs, Pt.cells, Pt.slots] at X' e1 e2 h1 h2 h3 st
    subst h1; subst h2; subst h3
    exact Or.inl ⟨v, (T.setVm vm₁).calling g' mk As.toArray, t, U', L, hT, X', hL, e1, e2, hq, st⟩
  · dsimp only [Pt.U, Pt.locs, Pt.cells, Pt.slots] at X' e1 e2 h1 h2 h3 st hcl
    subst h1; subst h2; subst h3
    exact Or.inr ⟨q, (T.setVm vm₁).calling g' mk As.toArray, t, U', L, E, ce, hT, X', hL, e1, e2, hq, hce, hcv, vx_cls hW₁ hcl, st⟩
end Runs
section Rows
variable {p : Program} {l : Launch} {e : Env} {R : Room} {s : State} {m : MethodId} {args : Array Value} {below : List Frame} {meth : Method} {c : Code} {H : Heap} {locs : List Loc} {cells slots : Nat} {Q : State → Prop}
variable {mc ms : Nat} {free : Addr → Prop} {A0 A1 : Nat → Prop} {H0 : Heap} {a : Array Value} {pc : Nat} {ls : Array Slot} {st0 rest : List Value}
theorem vx_keep {st₀ t T' : State} {L : List Loc} (h0 : st₀.heap = H) (e1 : T'.heap = t.heap) (hS : va_S A0 H0 H locs) (hA : ∀ q, q < H.size → A1 q → A0 q) (hf : ∀ q, free q → A0 q) (hL : ∀ q ∈ L, free q.base) (hF : va_F A1 st₀ t) :
    H.size ≤ T'.heap.size ∧ (∀ q : Nat, q < H.size → ¬ A1 q → T'.heap[q]? = H[q]?) ∧ va_S A0 H0 T'.heap (locs ++ L) := by
  obtain ⟨hz, hk⟩ := hF
  rw [h0] at hz hk
  exact ⟨by rw [e1]; exact hz, fun q h1 h2 => by rw [e1]; exact hk q h1 h2,
    ⟨Nat.le_trans hS.1 (by rw [e1]; exact hz), fun q h1 h2 => by rw [e1, hk q (Nat.lt_of_lt_of_le h1 hS.1) (fun z => h2 (hA q (Nat.lt_of_lt_of_le h1 hS.1) z))]; exact hS.2.1 q h1 h2, fun q hq => by
      rcases List.mem_append.mp hq with h | h
      · exact hS.2.2 q h
      · exact hf _ (hL q h)⟩⟩
theorem vx_calli {S SX : Type} {post : Int32 → S → Prop} {px : SX → Prop} {B : S → State → Prop} {BX : String → SX → State → Prop} {AX : Nat → Prop} (hr : vx_Run p l e R s m args below meth c H locs cells slots mc ms (F0 m pc ls st0) rest (va_Qi post B A1 a) (vx_X px BX AX) free) (hS : va_S A0 H0 H locs) (hA : ∀ q, q < H.size → A1 q → A0 q) (hf : ∀ q, free q → A0 q) (hAX : ∀ q, q < H.size → AX q → A0 q)
    (kx : ∀ (E : String) (ce : Cell) (q9 : Addr) (u : SX) (t : State) (H1 : Heap) (locs1 : List Loc), t.heap = H1 → s.vm.Alike t.vm → px u → BX E u t → H.size ≤ H1.size → (∀ q : Nat, q < H.size → ¬ AX q → H1[q]? = H[q]?) → va_S A0 H0 H1 locs1 → H1[q9]? = some ce → ce.vm = .none → s.vm.findClass E = some ce.cls → vx_W p l e R s m args below meth c H1 locs1 (cells + mc) (slots + ms) Q (F0 m pc ls rest) q9)
    (kk : ∀ (r : Int32) (u : S) (t : State) (H1 : Heap) (locs1 : List Loc), t.heap = H1 → s.vm.Alike t.vm → post r u → B u t → H.size ≤ H1.size → (∀ q : Nat, q < H.size → ¬ A1 q → H1[q]? = H[q]?) → va_S A0 H0 H1 locs1 → W p l e R s m args below meth c H1 locs1 (cells + mc) (slots + ms) Q (F0 m (pc + 3) ls (.int r :: rest))) : W p l e R s m args below meth c H locs cells slots Q (F0 m pc ls st0) := by
  intro T hT X
  rcases hr T hT X with ⟨v, st₀, t, T', L, h0, X', hL, e1, e2, ⟨⟨r, u, hv, hp, hb⟩, hF⟩, st⟩ | ⟨q, st₀, t, T', L, E, ce, h0, X', hL, e1, e2, ⟨u, hp, hb, hF⟩, hce, hcv, hcl, st⟩
  · cases hv
    obtain ⟨k1, k2, k3⟩ := vx_keep h0 e1 hS hA hf hL hF
    obtain ⟨t2, a1, b1⟩ := kk r u t T'.heap (locs ++ L) e1.symm (by rw [← e2]; exact X'.warmed.alike) hp hb k1 k2 k3 T' rfl X'
    exact ⟨t2, st t2 a1, b1⟩
  · obtain ⟨k1, k2, k3⟩ := vx_keep h0 e1 hS hAX hf hL hF
    obtain ⟨t2, a1, b1⟩ := kx E ce q u t T'.heap (locs ++ L) e1.symm (by rw [← e2]; exact X'.warmed.alike) hp hb k1 k2 k3 (by rw [e1]; exact hce) hcv hcl T' rfl X'
    exact ⟨t2, st.trans a1, b1⟩
theorem vx_calll {S SX : Type} {post : Int64 → S → Prop} {px : SX → Prop} {B : S → State → Prop} {BX : String → SX → State → Prop} {AX : Nat → Prop} (hr : vx_Run p l e R s m args below meth c H locs cells slots mc ms (F0 m pc ls st0) rest (va_Ql post B A1 a) (vx_X px BX AX) free) (hS : va_S A0 H0 H locs) (hA : ∀ q, q < H.size → A1 q → A0 q) (hf : ∀ q, free q → A0 q) (hAX : ∀ q, q < H.size → AX q → A0 q)
    (kx : ∀ (E : String) (ce : Cell) (q9 : Addr) (u : SX) (t : State) (H1 : Heap) (locs1 : List Loc), t.heap = H1 → s.vm.Alike t.vm → px u → BX E u t → H.size ≤ H1.size → (∀ q : Nat, q < H.size → ¬ AX q → H1[q]? = H[q]?) → va_S A0 H0 H1 locs1 → H1[q9]? = some ce → ce.vm = .none → s.vm.findClass E = some ce.cls → vx_W p l e R s m args below meth c H1 locs1 (cells + mc) (slots + ms) Q (F0 m pc ls rest) q9)
    (kk : ∀ (r : Int64) (u : S) (t : State) (H1 : Heap) (locs1 : List Loc), t.heap = H1 → s.vm.Alike t.vm → post r u → B u t → H.size ≤ H1.size → (∀ q : Nat, q < H.size → ¬ A1 q → H1[q]? = H[q]?) → va_S A0 H0 H1 locs1 → W p l e R s m args below meth c H1 locs1 (cells + mc) (slots + ms) Q (F0 m (pc + 3) ls (.long r :: rest))) : W p l e R s m args below meth c H locs cells slots Q (F0 m pc ls st0) := by
  intro T hT X
  rcases hr T hT X with ⟨v, st₀, t, T', L, h0, X', hL, e1, e2, ⟨⟨r, u, hv, hp, hb⟩, hF⟩, st⟩ | ⟨q, st₀, t, T', L, E, ce, h0, X', hL, e1, e2, ⟨u, hp, hb, hF⟩, hce, hcv, hcl, st⟩
  · cases hv
    obtain ⟨k1, k2, k3⟩ := vx_keep h0 e1 hS hA hf hL hF
    obtain ⟨t2, a1, b1⟩ := kk r u t T'.heap (locs ++ L) e1.symm (by rw [← e2]; exact X'.warmed.alike) hp hb k1 k2 k3 T' rfl X'
    exact ⟨t2, st t2 a1, b1⟩
  · obtain ⟨k1, k2, k3⟩ := vx_keep h0 e1 hS hAX hf hL hF
    obtain ⟨t2, a1, b1⟩ := kx E ce q u t T'.heap (locs ++ L) e1.symm (by rw [← e2]; exact X'.warmed.alike) hp hb k1 k2 k3 (by rw [e1]; exact hce) hcv hcl T' rfl X'
    exact ⟨t2, st.trans a1, b1⟩
theorem vx_callf {S SX : Type} {post : UInt32 → S → Prop} {px : SX → Prop} {B : S → State → Prop} {BX : String → SX → State → Prop} {AX : Nat → Prop} (hr : vx_Run p l e R s m args below meth c H locs cells slots mc ms (F0 m pc ls st0) rest (va_Qf post B A1 a) (vx_X px BX AX) free) (hS : va_S A0 H0 H locs) (hA : ∀ q, q < H.size → A1 q → A0 q) (hf : ∀ q, free q → A0 q) (hAX : ∀ q, q < H.size → AX q → A0 q)
    (kx : ∀ (E : String) (ce : Cell) (q9 : Addr) (u : SX) (t : State) (H1 : Heap) (locs1 : List Loc), t.heap = H1 → s.vm.Alike t.vm → px u → BX E u t → H.size ≤ H1.size → (∀ q : Nat, q < H.size → ¬ AX q → H1[q]? = H[q]?) → va_S A0 H0 H1 locs1 → H1[q9]? = some ce → ce.vm = .none → s.vm.findClass E = some ce.cls → vx_W p l e R s m args below meth c H1 locs1 (cells + mc) (slots + ms) Q (F0 m pc ls rest) q9)
    (kk : ∀ (r : UInt32) (u : S) (t : State) (H1 : Heap) (locs1 : List Loc), t.heap = H1 → s.vm.Alike t.vm → post r u → B u t → H.size ≤ H1.size → (∀ q : Nat, q < H.size → ¬ A1 q → H1[q]? = H[q]?) → va_S A0 H0 H1 locs1 → W p l e R s m args below meth c H1 locs1 (cells + mc) (slots + ms) Q (F0 m (pc + 3) ls (.float r :: rest))) : W p l e R s m args below meth c H locs cells slots Q (F0 m pc ls st0) := by
  intro T hT X
  rcases hr T hT X with ⟨v, st₀, t, T', L, h0, X', hL, e1, e2, ⟨⟨r, u, hv, hp, hb⟩, hF⟩, st⟩ | ⟨q, st₀, t, T', L, E, ce, h0, X', hL, e1, e2, ⟨u, hp, hb, hF⟩, hce, hcv, hcl, st⟩
  · cases hv
    obtain ⟨k1, k2, k3⟩ := vx_keep h0 e1 hS hA hf hL hF
    obtain ⟨t2, a1, b1⟩ := kk r u t T'.heap (locs ++ L) e1.symm (by rw [← e2]; exact X'.warmed.alike) hp hb k1 k2 k3 T' rfl X'
    exact ⟨t2, st t2 a1, b1⟩
  · obtain ⟨k1, k2, k3⟩ := vx_keep h0 e1 hS hAX hf hL hF
    obtain ⟨t2, a1, b1⟩ := kx E ce q u t T'.heap (locs ++ L) e1.symm (by rw [← e2]; exact X'.warmed.alike) hp hb k1 k2 k3 (by rw [e1]; exact hce) hcv hcl T' rfl X'
    exact ⟨t2, st.trans a1, b1⟩
theorem vx_calld {S SX : Type} {post : UInt64 → S → Prop} {px : SX → Prop} {B : S → State → Prop} {BX : String → SX → State → Prop} {AX : Nat → Prop} (hr : vx_Run p l e R s m args below meth c H locs cells slots mc ms (F0 m pc ls st0) rest (va_Qd post B A1 a) (vx_X px BX AX) free) (hS : va_S A0 H0 H locs) (hA : ∀ q, q < H.size → A1 q → A0 q) (hf : ∀ q, free q → A0 q) (hAX : ∀ q, q < H.size → AX q → A0 q)
    (kx : ∀ (E : String) (ce : Cell) (q9 : Addr) (u : SX) (t : State) (H1 : Heap) (locs1 : List Loc), t.heap = H1 → s.vm.Alike t.vm → px u → BX E u t → H.size ≤ H1.size → (∀ q : Nat, q < H.size → ¬ AX q → H1[q]? = H[q]?) → va_S A0 H0 H1 locs1 → H1[q9]? = some ce → ce.vm = .none → s.vm.findClass E = some ce.cls → vx_W p l e R s m args below meth c H1 locs1 (cells + mc) (slots + ms) Q (F0 m pc ls rest) q9)
    (kk : ∀ (r : UInt64) (u : S) (t : State) (H1 : Heap) (locs1 : List Loc), t.heap = H1 → s.vm.Alike t.vm → post r u → B u t → H.size ≤ H1.size → (∀ q : Nat, q < H.size → ¬ A1 q → H1[q]? = H[q]?) → va_S A0 H0 H1 locs1 → W p l e R s m args below meth c H1 locs1 (cells + mc) (slots + ms) Q (F0 m (pc + 3) ls (.double r :: rest))) : W p l e R s m args below meth c H locs cells slots Q (F0 m pc ls st0) := by
  intro T hT X
  rcases hr T hT X with ⟨v, st₀, t, T', L, h0, X', hL, e1, e2, ⟨⟨r, u, hv, hp, hb⟩, hF⟩, st⟩ | ⟨q, st₀, t, T', L, E, ce, h0, X', hL, e1, e2, ⟨u, hp, hb, hF⟩, hce, hcv, hcl, st⟩
  · cases hv
    obtain ⟨k1, k2, k3⟩ := vx_keep h0 e1 hS hA hf hL hF
    obtain ⟨t2, a1, b1⟩ := kk r u t T'.heap (locs ++ L) e1.symm (by rw [← e2]; exact X'.warmed.alike) hp hb k1 k2 k3 T' rfl X'
    exact ⟨t2, st t2 a1, b1⟩
  · obtain ⟨k1, k2, k3⟩ := vx_keep h0 e1 hS hAX hf hL hF
    obtain ⟨t2, a1, b1⟩ := kx E ce q u t T'.heap (locs ++ L) e1.symm (by rw [← e2]; exact X'.warmed.alike) hp hb k1 k2 k3 (by rw [e1]; exact hce) hcv hcl T' rfl X'
    exact ⟨t2, st.trans a1, b1⟩
theorem vx_callv {S SX : Type} {post : S → Prop} {px : SX → Prop} {B : S → State → Prop} {BX : String → SX → State → Prop} {AX : Nat → Prop} (hr : vx_Run p l e R s m args below meth c H locs cells slots mc ms (F0 m pc ls st0) rest (va_Qv post B A1 a) (vx_X px BX AX) free) (hS : va_S A0 H0 H locs) (hA : ∀ q, q < H.size → A1 q → A0 q) (hf : ∀ q, free q → A0 q) (hAX : ∀ q, q < H.size → AX q → A0 q)
    (kx : ∀ (E : String) (ce : Cell) (q9 : Addr) (u : SX) (t : State) (H1 : Heap) (locs1 : List Loc), t.heap = H1 → s.vm.Alike t.vm → px u → BX E u t → H.size ≤ H1.size → (∀ q : Nat, q < H.size → ¬ AX q → H1[q]? = H[q]?) → va_S A0 H0 H1 locs1 → H1[q9]? = some ce → ce.vm = .none → s.vm.findClass E = some ce.cls → vx_W p l e R s m args below meth c H1 locs1 (cells + mc) (slots + ms) Q (F0 m pc ls rest) q9)
    (kk : ∀ (u : S) (t : State) (H1 : Heap) (locs1 : List Loc), t.heap = H1 → s.vm.Alike t.vm → post u → B u t → H.size ≤ H1.size → (∀ q : Nat, q < H.size → ¬ A1 q → H1[q]? = H[q]?) → va_S A0 H0 H1 locs1 → W p l e R s m args below meth c H1 locs1 (cells + mc) (slots + ms) Q (F0 m (pc + 3) ls (rest))) : W p l e R s m args below meth c H locs cells slots Q (F0 m pc ls st0) := by
  intro T hT X
  rcases hr T hT X with ⟨v, st₀, t, T', L, h0, X', hL, e1, e2, ⟨⟨u, hv, hp, hb⟩, hF⟩, st⟩ | ⟨q, st₀, t, T', L, E, ce, h0, X', hL, e1, e2, ⟨u, hp, hb, hF⟩, hce, hcv, hcl, st⟩
  · cases hv
    obtain ⟨k1, k2, k3⟩ := vx_keep h0 e1 hS hA hf hL hF
    obtain ⟨t2, a1, b1⟩ := kk u t T'.heap (locs ++ L) e1.symm (by rw [← e2]; exact X'.warmed.alike) hp hb k1 k2 k3 T' rfl X'
    exact ⟨t2, st t2 a1, b1⟩
  · obtain ⟨k1, k2, k3⟩ := vx_keep h0 e1 hS hAX hf hL hF
    obtain ⟨t2, a1, b1⟩ := kx E ce q u t T'.heap (locs ++ L) e1.symm (by rw [← e2]; exact X'.warmed.alike) hp hb k1 k2 k3 (by rw [e1]; exact hce) hcv hcl T' rfl X'
    exact ⟨t2, st.trans a1, b1⟩
/-- caught by the row x of this method's table; the rows ahead don't take it -/
theorem vx_catch {own name : String} {E : String} {ce : Cell} {q : Addr} (hown : s.vm.findClass own = some m.cls) (pre : List ExceptionTableEntry) (x : ExceptionTableEntry) (suf : List ExceptionTableEntry) (hsplit : c.exceptionTable.toList = pre ++ x :: suf)
    (hpass : ∀ z ∈ pre, covers z pc = false ∨ (z.catchType ≠ 0 ∧ ∃ nm : String, (Cond.classLink own z.catchType nm).before args s = true ∧ va_Nc E nm s)) (hx : covers x pc = true) (h0 : x.catchType ≠ 0)
    (hlink : (Cond.classLink own x.catchType name).before args s = true) (hcast : (Cond.castable E name).before args s = true) (hcell : H[q]? = some ce) (hv : ce.vm = .none) (hcl : s.vm.findClass E = some ce.cls)
    (kk : W p l e R s m args below meth c H locs cells slots Q (F0 m x.handlerPc ls [.ref q])) : vx_W p l e R s m args below meth c H locs cells slots Q (F0 m pc ls rest) q := by
  intro T hT X
  have hpl : e.platform.magicAccessors = ({} : Platform).magicAccessors := by rw [X.admits.platform]
  obtain ⟨c3, c4, hc3, hc4, hasg⟩ := Cond.castable_spec hcast
  cases Option.some.inj (hc3.symm.trans hcl)
  obtain ⟨c5, hc5, hcl5⟩ := Cond.classLink_spec hown hlink e.platform hpl
  cases Option.some.inj (hc4.symm.trans hc5)
  obtain ⟨vm', X', st⟩ := X.thenCaughtThrough q (g := F0 m pc ls rest) rfl (Steps.refl _) (by rw [hT]; exact hcell) (by rw [hv]; rfl) (by obtain ⟨k9, h9, -⟩ := Vm.findClass_spec hcl; exact ⟨k9, h9⟩) pre x suf hsplit
    (fun z hz => by
      rcases hpass z hz with h | ⟨hz0, nm, hl1, hn1⟩
      · exact Or.inl h
      · obtain ⟨c6, hc6, hcl6⟩ := Cond.classLink_spec hown hl1 e.platform hpl
        obtain ⟨a8, b8, h1, h2, h3⟩ := hn1
        cases Option.some.inj (h1.symm.trans hcl)
        cases Option.some.inj (h2.symm.trans hc6)
        exact Or.inr ⟨hz0, _, hcl6, h3⟩) hx (Or.inr ⟨h0, c4, hcl5, hasg⟩)
  obtain ⟨t, a1, b1⟩ := kk (T.setVm vm') hT X'
  exact ⟨t, st.trans a1, b1⟩
end Rows
section Ends
variable {p : Program} {l : Launch} {e : Env} {R : Room} {s : State} {m : MethodId} {args : Array Value} {below : List Frame} {meth : Method} {c : Code} {H : Heap} {locs : List Loc} {cells slots : Nat} {Q : State → Prop}
variable {mc ms : Nat} {free : Addr → Prop} {A0 A1 : Nat → Prop} {H0 : Heap} {a : Array Value} {ls : Array Slot} {st0 rest : List Value}
variable {Qc : Array Value → State → Outcome → State → Prop} {XC : String → State → State → Prop}
/-- what a body that may throw owes at its end -/
def vx_MQ (below : List Frame) (Qc : Array Value → State → Outcome → State → Prop) (XC : String → State → State → Prop) (a : Array Value) (s : State) (mc ms : Nat) (free : Addr → Prop) : State → Prop := fun t =>
  ∃ o, t.status = .running ∧ Ended t below o ∧ vx_Q Qc XC mc ms free a s o t
theorem vx_ret {g : JFrame} {mc ms : Nat} (k : W p l e R s m args below meth c H locs cells slots (MQ below Qc args s mc ms free) g) : W p l e R s m args below meth c H locs cells slots (vx_MQ below Qc XC args s mc ms free) g := by
  intro T hT X
  obtain ⟨t, a1, o, b1, b2, b3, b4⟩ := k T hT X
  exact ⟨t, a1, o, b1, b2, Or.inl ⟨b3, b4⟩⟩
/-- not caught here: it goes on to the caller -/
theorem vx_widen {g : JFrame} {q : Addr} {k n : Nat} (h1 : cells ≤ k) (h2 : slots ≤ n) (kk : vx_W p l e R s m args below meth c H locs k n Q g q) : vx_W p l e R s m args below meth c H locs cells slots Q g q := fun T hT X => kk T hT (stand_widen X h1 h2)
theorem vx_out {pc : Nat} {E : String} {ce : Cell} {q : Addr} {mc ms : Nat} (hout : ∀ x ∈ c.exceptionTable.toList, covers x pc = false) (hlocks : meth.locks = false) (hcell : H[q]? = some ce) (hv : ce.vm = .none) (hcl : s.vm.findClass E = some ce.cls)
    (hx : ∀ t : State, t.heap = H → s.vm.Alike t.vm → XC E s t) (hf : ∀ z ∈ locs, free z.base) (hc : cells ≤ mc) (hs : slots ≤ ms) :
    vx_W p l e R s m args below meth c H locs cells slots (vx_MQ below Qc XC args s mc ms free) (F0 m pc ls rest) q := by
  intro T hT X
  obtain ⟨st1, hrun, hend, hW, hsm⟩ := X.leaveThrown q (g := F0 m pc ls rest) rfl rfl rfl hout hlocks
  have hcell9 : (T.setFrames (.throwing q :: below)).heap[q]? = some ce := by
    show T.heap[q]? = some ce
    rw [hT]; exact hcell
  exact ⟨_, st1, .threw q, hrun, hend, Or.inr ⟨q, rfl, E, ce, locs, hx _ hT hW.alike, hcell9, hv, hcl, hW, hsm.mono hc hs, hf⟩⟩
theorem vx_frame {U : State} {k n : Nat} (h : s.sameButNew ({ U with vm := s.vm } : State) locs k n) : s.heap.size ≤ U.heap.size ∧ ∀ q : Nat, q < s.heap.size → (∀ z ∈ locs, z.base ≠ q) → U.heap[q]? = s.heap[q]? := by
  obtain ⟨-, h2, -, -, -, h6⟩ := h
  refine ⟨h2, fun q hq hz => ?_⟩
  obtain ⟨c9, e1, e2, e3, e4⟩ := h6 q _ (Array.getElem?_eq_getElem hq)
  have hs : c9.slots = (s.heap[q]).slots := Array.ext_getElem? fun i => e4 i fun hm => hz _ hm rfl
  have h9 : c9 = s.heap[q] := by
    rw [hs] at e2
    exact e2
  have e5 : U.heap[q]? = some c9 := e1
  rw [e5, h9, Array.getElem?_eq_getElem hq]
/-- the words of a throw but the four that speak of the heap -/
def vx_no (w : Cond) : Bool := decide (w ≠ .isRef (.static Bundle.tN "UNASSIGNED_STACK" Bundle.steD)) && decide (w ≠ .isRef (.static Bundle.tN "SUPPRESSED_SENTINEL" Bundle.listD)) && decide (w ≠ .laysStatic Bundle.tN "UNASSIGNED_STACK" Bundle.steD) && decide (w ≠ .laysStatic Bundle.tN "SUPPRESSED_SENTINEL" Bundle.listD)
def vx_at0 (own : String) (ic : Nat) (X : String) (names : List String) : List Cond := (Bundle.ownAtoms0 own ic X names).filter vx_no
def vx_atS (own : String) (ic : Nat) (X : String) (names : List String) : List Cond := (Bundle.ownAtoms own ic X names).filter vx_no
/-- a word that the tables alone decide, or a good one -/
def vx_ot (w : Cond) : Bool := w.onTables || goodWord w
theorem vx_ot_at {args a' : Array Value} {s U : State} {w : Cond} (hW : s.WarmedH U.vm) (hvm : s.vm = U.vm) (hg : vx_ot w = true) (h : w.before args s = true) : w.before a' U = true := by
  simp only [vx_ot, Bool.or_eq_true] at hg
  rcases hg with hg | hg
  · exact va_tabs hg hvm h
  · exact word_at hW (good_of_word hg) h
/-- a list's words: the good ones out of the method's own list, the others by premises of their own -/
theorem vx_hat {args : Array Value} {s : State} {L B : List Cond} (h1 : ∀ w ∈ L.filter goodWord, w.before args s = true) (h2 : ∀ w ∈ L.filter (fun w => !goodWord w), w ∈ B) (h3 : ∀ w ∈ B, w.before args s = true) : ∀ w ∈ L, w.before args s = true := by
  intro w hw
  by_cases g : goodWord w = true
  · exact h1 w (List.mem_filter.mpr ⟨hw, g⟩)
  · refine h3 w (h2 w (List.mem_filter.mpr ⟨hw, ?_⟩))
    show (!goodWord w) = true
    cases hgw : goodWord w
    · rfl
    · exact absurd hgw g
theorem vx_c {args : Array Value} {s : State} {w : Cond} {B : List Cond} (h : w.before args s = true) (t : ∀ w ∈ B, w.before args s = true) : ∀ w' ∈ w :: B, w'.before args s = true := fun w' h' => (List.mem_cons.mp h').elim (fun e => by rw [e]; exact h) (t w')
theorem vx_n {args : Array Value} {s : State} : ∀ w ∈ ([] : List Cond), w.before args s = true := fun _ h => nomatch h
theorem vx_own {args : Array Value} {s : State} {L : List Cond} (h1 : ∀ w ∈ L.filter vx_no, w.before args s = true)
    (hU : (Cond.isRef (.static Bundle.tN "UNASSIGNED_STACK" Bundle.steD)).before args s = true) (hN : (Cond.isRef (.static Bundle.tN "SUPPRESSED_SENTINEL" Bundle.listD)).before args s = true)
    (lU : (Cond.laysStatic Bundle.tN "UNASSIGNED_STACK" Bundle.steD).before args s = true) (lN : (Cond.laysStatic Bundle.tN "SUPPRESSED_SENTINEL" Bundle.listD).before args s = true) : ∀ w ∈ L, w.before args s = true := by
  intro w hw
  by_cases e1 : w = .isRef (.static Bundle.tN "UNASSIGNED_STACK" Bundle.steD)
  · rw [e1]; exact hU
  · by_cases e2 : w = .isRef (.static Bundle.tN "SUPPRESSED_SENTINEL" Bundle.listD)
    · rw [e2]; exact hN
    · by_cases e3 : w = .laysStatic Bundle.tN "UNASSIGNED_STACK" Bundle.steD
      · rw [e3]; exact lU
      · by_cases e4 : w = .laysStatic Bundle.tN "SUPPRESSED_SENTINEL" Bundle.listD
        · rw [e4]; exact lN
        · exact h1 w (List.mem_filter.mpr ⟨hw, by unfold vx_no; rw [decide_eq_true e1, decide_eq_true e2, decide_eq_true e3, decide_eq_true e4]; rfl⟩)
/-- where a static field lies, its class's statics cell in H -/
def vx_L (C n d : String) (A : Nat → Prop) (U : State) (H : Heap) : Prop := ∃ (c : ClassId) (k : Class) (i : Nat) (f : Field) (a : Nat) (cell : Cell), U.vm.findClass C = some c ∧ U.fieldFound? C n d = some (c, k, i, f) ∧ f.isStatic = true ∧ k.statics = some a ∧ H[a]? = some cell ∧ cell.vm.isStatics = true ∧ cell.cls = c ∧ f.slot < cell.slots.size ∧ k.staticTypes[f.slot]? = some f.type ∧ ¬ A a
theorem vx_L.moved {C n d : String} {A : Nat → Prop} {u U : State} {H : Heap} (hvm : u.vm.Alike U.vm) (h : vx_L C n d A u H) : vx_L C n d A U H := by
  obtain ⟨c, k, i, f, a, cell, h1, h2, h3, h4, h5, h6, h7, h8, h9, h10⟩ := h
  obtain ⟨k', hi', he⟩ := State.fieldFound?_setVm hvm h2
  exact ⟨c, k', i, f, a, cell, by rw [hvm.findClass]; exact h1, hi', h3, by rw [he]; exact h4, h5, h6, h7, h8, by rw [he]; exact h9, h10⟩
theorem vx_L.kept {C n d : String} {A : Nat → Prop} {U : State} {H H1 : Heap} (h : vx_L C n d A U H) (hq : ∀ a : Nat, a < H.size → ¬ A a → H1[a]? = H[a]?) : vx_L C n d A U H1 := by
  obtain ⟨c, k, i, f, a, cell, h1, h2, h3, h4, h5, h6, h7, h8, h9, h10⟩ := h
  exact ⟨c, k, i, f, a, cell, h1, h2, h3, h4, by rw [hq a (Array.getElem?_eq_some_iff.mp h5).1 h10]; exact h5, h6, h7, h8, h9, h10⟩
theorem vx_L.narrow {C n d : String} {A B : Nat → Prop} {U : State} {H : Heap} (h : vx_L C n d A U H) (hAB : ∀ q, B q → A q) : vx_L C n d B U H := by
  obtain ⟨c, k, i, f, a, cell, h1, h2, h3, h4, h5, h6, h7, h8, h9, h10⟩ := h
  exact ⟨c, k, i, f, a, cell, h1, h2, h3, h4, h5, h6, h7, h8, h9, fun z => h10 (hAB _ z)⟩
theorem vx_L.word {C n d : String} {A : Nat → Prop} {s : State} {args : Array Value} (h : vx_L C n d A s s.heap) : (Cond.laysStatic C n d).before args s = true := by
  obtain ⟨c, k, i, f, a, cell, h1, h2, h3, h4, h5, h6, h7, h8, h9, -⟩ := h
  show (Cond.laysStatic C n d).holds args s none s [] = true
  exact Cond.laysStatic_of h1 h2 h3 h4 h5 h6 h7 h8 h9
/-- .. and what it holds: null or some reference -/
def vx_Zq (C n d : String) (A : Nat → Prop) (U : State) (H : Heap) : Prop := va_Zq C n d A U H ∧ vx_L C n d A U H
theorem vx_Zq.moved {C n d : String} {A : Nat → Prop} {u U : State} {H : Heap} (hvm : u.vm.Alike U.vm) (h : vx_Zq C n d A u H) : vx_Zq C n d A U H := ⟨va_Zq.moved hvm h.1, vx_L.moved hvm h.2⟩
theorem vx_Zq.kept {C n d : String} {A : Nat → Prop} {U : State} {H H1 : Heap} (h : vx_Zq C n d A U H) (hq : ∀ a : Nat, a < H.size → ¬ A a → H1[a]? = H[a]?) : vx_Zq C n d A U H1 := ⟨va_Zq.kept h.1 hq, vx_L.kept h.2 hq⟩
theorem vx_Zq.narrow {C n d : String} {A B : Nat → Prop} {U : State} {H : Heap} (h : vx_Zq C n d A U H) (hAB : ∀ q, B q → A q) : vx_Zq C n d B U H := ⟨va_Zq.narrow h.1 hAB, vx_L.narrow h.2 hAB⟩
theorem vx_Zqof {args : Array Value} {s : State} {C n d : String} {A : Nat → Prop} (hl : (Cond.laysStatic C n d).before args s = true) (hini : (Cond.initialized C).before args s = true) (h : (Cond.isRef (.static C n d)).before args s = true) (hA : ∀ a : Nat, a < s.heap.size → ¬ A a) : vx_Zq C n d A s s.heap := by
  refine ⟨va_Zqof hl hini h hA, ?_⟩
  obtain ⟨c, k, i, f, a, cell, h1, h2, h3, h4, h5, h6, h7, h8, h9⟩ := Cond.laysStatic_spec hl
  exact ⟨c, k, i, f, a, cell, h1, h2, h3, h4, h5, h6, h7, h8, h9, hA a (Array.getElem?_eq_some_iff.mp h5).1⟩
theorem vx_isRef {C n d : String} {v : Value} {A : Nat → Prop} {s : State} {args : Array Value} (h : va_Z C n d v A s s.heap) (hv : v.isRef = true) : (Cond.isRef (.static C n d)).before args s = true := by
  obtain ⟨cf, kf, fi, f, a, cell, h1, h2, h3, h4, h5, h6, h7, -⟩ := h
  have he : (Term.static C n d).eval args s none [] s = some v := by
    simp [Term.eval, State.fieldNamed?, h1, h2, h4, h5, h6, h7]
  simp only [Cond.before, Cond.holds, Cond.value, he]
  cases v <;> simp_all [Value.isRef]
theorem vx_isRefq {C n d : String} {A : Nat → Prop} {s : State} {args : Array Value} (h : va_Zq C n d A s s.heap) : (Cond.isRef (.static C n d)).before args s = true := by
  rcases h with h | ⟨t, h⟩
  · exact vx_isRef h rfl
  · exact vx_isRef h rfl
/-- the same frame, seen from here: as if the method were called anew in this heap -/
theorem vx_rebase {T : State} (X : Stand p l e R s m args below meth c T locs cells slots) {R' : Room} (hf : R'.frames ≤ R.frames) (hl : R'.locals ≤ R.locals) (hc : cells + R'.cells ≤ R.cells) (hs : slots + R'.slots ≤ R.slots) :
    Stand p l e R' ((T.setVm s.vm).setFrames (.invoking m args :: below)) m args below meth c T [] 0 0 := by
  have htop : (T.setVm s.vm).topJava?.isSome := X.here.top
  have hF : ((T.setVm s.vm).setFrames (.invoking m args :: below)).frames = .invoking m args :: below := State.frames_setFrames _ (State.cur_lt_of_top htop)
  obtain ⟨g₀, hg0⟩ := Option.isSome_iff_exists.mp htop
  obtain ⟨r, hr⟩ := State.topJava?_eq_some.mp hg0
  have hl9 : e.platform.stackLimits (T.setVm s.vm).me = e.platform.stackLimits s.me := X.limits
  have hb9 : (T.setVm s.vm).me.stackBytes = s.me.stackBytes := X.bytes
  refine ⟨X.admits, X.cas, X.clock, hF, ?_, X.hears, X.method, X.code, X.here, X.tail, X.warmed, ?_, ?_, ?_⟩
  · have h := X.room
    have hU : ((T.setVm s.vm).setFrames (.invoking m args :: below)).localsInUse = s.localsInUse := by
      rw [State.localsInUse_invoking hF (meth := meth) (c := c) X.method X.code, State.localsInUse_invoking X.frames X.method X.code]
    simp only [State.hasRoom, Bool.and_eq_true, decide_eq_true_eq] at h ⊢
    obtain ⟨⟨⟨⟨h1, h2, h3, h4, h5, h6⟩, h7⟩, h8⟩, h9⟩ := h
    rw [X.frames, List.length_cons] at h2 h3
    have q1 := X.heapSize
    have q2 := X.used
    simp only [hF, hU, List.length_cons, State.stackLimits_setFrames, State.stackBytes_setFrames, hl9, hb9]
    refine ⟨⟨⟨⟨by omega, by omega, by omega, by omega, by omega, h6⟩, ?_⟩, ?_⟩, X.book⟩
    · show T.heap.size + R'.cells ≤ e.platform.maxCells
      omega
    · show T.slotsUsed + R'.slots ≤ e.platform.maxSlots
      omega
  · rw [State.stackLimits_setFrames]; rfl
  · rw [State.stackBytes_setFrames]; rfl
  · refine ⟨?_, Nat.le_refl _, Nat.le_refl _, ?_, ?_, fun a c9 h9 => ⟨c9, h9, rfl, rfl, fun _ _ => rfl⟩⟩
    · obtain ⟨t, ht, -⟩ := State.frames_cons hr
      show T.setVm s.vm = { ((T.setVm s.vm).setFrames (.invoking m args :: below)).setFrames (T.setVm s.vm).frames with heap := T.heap, slotsUsed := T.slotsUsed }
      rw [State.setFrames_setFrames, State.setFrames_self ht]
      rfl
    · show T.slotsUsed = T.slotsUsed + ((T.heap.toList.drop T.heap.size).map (·.slots.size)).sum
      rw [List.drop_eq_nil_of_le (Nat.le_of_eq Array.length_toList)]
      rfl
    · show ((T.heap.toList.drop T.heap.size).map (·.slots.size)).sum ≤ 0
      rw [List.drop_eq_nil_of_le (Nat.le_of_eq Array.length_toList)]
      exact Nat.le_refl _
/-- 'throw new E()': new; dup; invokespecial; athrow -/
theorem vx_throw0 {cc : ByteArray} {pc : Nat} (hexec : p.tables.exec = Jvm.exec) (hb : c.code = cc) (hl : l.stackTraces = false) {own cls : String} {names : List String} {ik ic mc ms : Nat} {A : Nat → Prop}
    (hown : s.vm.findClass own = some m.cls) (hcls : Bundle.fit cls = true) (hnames : ∀ n ∈ names, Bundle.fit n = true)
    (hk : (Cond.classLink own ik cls).before args s = true) (hini : (Cond.initialized cls).before args s = true) (hat : ∀ w ∈ vx_at0 own ic cls names, w.before args s = true)
    (hgood : ∀ w ∈ Cond.classLink own ik cls :: Cond.initialized cls :: vx_at0 own ic cls names, vx_ot w = true)
    (hU : vx_Zq Bundle.tN "UNASSIGNED_STACK" Bundle.steD A s s.heap) (hN : vx_Zq Bundle.tN "SUPPRESSED_SENTINEL" Bundle.listD A s s.heap) (hS : va_S A s.heap H locs) (hsize : ls.size = c.maxLocals)
    (d0 : decode cc pc = .ok (.new ik, 3)) (d3 : decode cc (pc + 3) = .ok (.dup, 1)) (d4 : decode cc (pc + 4) = .ok (.invokespecial ic, 3)) (d7 : decode cc (pc + 7) = .ok (.athrow, 1))
    (hout : ∀ x ∈ c.exceptionTable.toList, covers x (pc + 7) = false)
    (hRframes : names.length + 3 < R.frames) (hRlocals : (rest.map fun v => v.category).sum + (13 * (names.length + 1) + 42) ≤ R.locals) (hRcells : cells + 1 ≤ R.cells) (hRslots : slots + 6 ≤ R.slots) (hlocks : meth.locks = false)
    (hx : ∀ t : State, s.vm.Alike t.vm → H.size ≤ t.heap.size → (∀ q : Nat, q < H.size → t.heap[q]? = H[q]?) → XC cls s t)
    (hf : ∀ z ∈ locs, free z.base) (hc : cells + 1 ≤ mc) (hs : slots + 6 ≤ ms) :
    W p l e R s m args below meth c H locs cells slots (vx_MQ below Qc XC args s mc ms free) (F0 m pc ls rest) := by
  intro T hT X
  have htr : e.platform.stackTraces = false := (show e.platform.stackTraces = l.stackTraces by rw [X.admits.platform]).trans hl
  have Y := vx_rebase X (R' := { frames := R.frames, locals := R.locals, cells := 1, slots := 6 }) (Nat.le_refl _) (Nat.le_refl _) hRcells hRslots
  obtain ⟨s', hA⟩ : ∃ z, z = (T.setVm s.vm).setFrames (.invoking m args :: below) := ⟨_, rfl⟩
  rw [← hA] at Y
  have hvm : s'.vm = s.vm := by rw [hA]; rfl
  have hhp : s'.heap = H := by rw [hA]; exact hT
  have hW0 : s.WarmedH s'.vm := by rw [hvm]; exact State.WarmedH.refl s
  have hat' : ∀ w ∈ vx_at0 own ic cls names, w.before args s' = true := fun w hw => vx_ot_at hW0 hvm.symm (hgood w (List.mem_cons_of_mem _ (List.mem_cons_of_mem _ hw))) (hat w hw)
  have hk' : (Cond.classLink own ik cls).before args s' = true := vx_ot_at hW0 hvm.symm (hgood _ List.mem_cons_self) hk
  have hini' : (Cond.initialized cls).before args s' = true := vx_ot_at hW0 hvm.symm (hgood _ (List.mem_cons_of_mem _ List.mem_cons_self)) hini
  have hU' : vx_Zq Bundle.tN "UNASSIGNED_STACK" Bundle.steD A s' s'.heap := by rw [hhp]; exact vx_Zq.moved hW0.alike (hU.kept hS.2.1)
  have hN' : vx_Zq Bundle.tN "SUPPRESSED_SENTINEL" Bundle.listD A s' s'.heap := by rw [hhp]; exact vx_Zq.moved hW0.alike (hN.kept hS.2.1)
  have h : ∀ w ∈ Bundle.ownAtoms0 own ic cls names, w.before args s' = true := vx_own hat' (vx_isRefq hU'.1) (vx_isRefq hN'.1) hU'.2.word hN'.2.word
  have hown' : s'.vm.findClass own = some m.cls := by rw [hvm]; exact hown
  have hins : (Cond.instantiable cls 6).before args s' = true := h _ (by simp [Bundle.ownAtoms0])
  obtain ⟨vm₁, cX, kX, hfX, hkX, -, -, X₁, st1⟩ := Y.newCold hexec (own := own) (C := cls) (index := ik) (n := 6) hown' hk' hins hini'
    (g := F0 m pc ls rest) rfl (by rw [hb]; exact d0) (Nat.le_refl _) (Nat.le_refl _)
  generalize hT1 : (T.setVm vm₁).pushCell { cls := cX, slots := kX.instanceTypes.map defaultValue, vm := .none } = T1 at X₁ st1
  have hcat : (Value.ref T.heap.size).category = 1 := rfl
  have hcellA : T1.heap[T.heap.size]? = some (freshCell cX kX) := by rw [← hT1]; exact State.heap_pushCell_size _ _
  have d3' : decode c.code (pc + 3) = .ok (.dup, 1) := by rw [hb]; exact d3
  obtain ⟨U, hsteps, hrun, hend, hW, hsame, ce, hce, hO⟩ := X₁.ctorThrow0 hexec htr (own := own) (cls := cls) (names := names) (ic := ic) hown' hcls hnames h (fun x hx => nomatch hx) hfX hkX hcellA (by rw [hhp, hT]; exact Nat.le_refl _)
    (g := { method := m, pc := pc + 4, locals := ls, stack := .ref T.heap.size :: .ref T.heap.size :: rest, locked := none }) rfl hsize rfl rfl (rest := rest) rfl
    (by rw [hb]; exact d4) (by rw [hb]; exact d7) hout hRframes (by simp only [List.map_cons, List.sum_cons, hcat]; omega) hlocks
  obtain ⟨f1, f2⟩ := vx_frame hsame
  rw [hhp] at f1 f2
  have hWs : s.WarmedH U.vm := State.WarmedH.trans hW0 hW
  have hcl : s.vm.findClass cls = some ce.cls := by
    have h9 := hO.cls
    rw [hvm] at h9
    exact h9
  have hall : s.sameButNew ({ U with vm := s.vm } : State) locs mc ms := by
    subst hA
    obtain ⟨e1, e2⟩ := hsame
    rw [State.setFrames_setFrames] at e1
    have h2 : (T.setVm s.vm).sameButNew ({ U with vm := s.vm } : State) [] (0 + 1) (0 + 6) := ⟨e1, e2⟩
    have h3 := X.same.trans h2
    rw [List.append_nil] at h3
    exact h3.mono hc hs
  refine ⟨U, ?_, .threw T.heap.size, hrun, hend, Or.inr ⟨T.heap.size, rfl, cls, ce, locs, hx U hWs.alike f1 (fun q hq => f2 q hq (fun z hz => nomatch hz)), hce, hO.vm, hcl, hWs, hall, hf⟩⟩
  refine st1 _ ?_
  show Steps p.tables e below (T1.setTop { method := m, pc := pc + 3, locals := ls, stack := .ref T.heap.size :: rest, locked := none }) _
  jvm_step X₁.here [X₁.here.top, hexec, d3', Value.category]
  exact hsteps
/-- 'throw new E("text")': new; dup; ldc; invokespecial; athrow -/
theorem vx_throwS {cc : ByteArray} {pc : Nat} (hexec : p.tables.exec = Jvm.exec) (hb : c.code = cc) (hl : l.stackTraces = false) {own cls text : String} {names : List String} {ik is ic mc ms sa : Nat} {A : Nat → Prop}
    (hown : s.vm.findClass own = some m.cls) (hcls : Bundle.fit cls = true) (hnames : ∀ n ∈ names, Bundle.fit n = true)
    (hk : (Cond.classLink own ik cls).before args s = true) (hini : (Cond.initialized cls).before args s = true) (hstr : vk_R own is text sa s) (hat : ∀ w ∈ vx_atS own ic cls names, w.before args s = true)
    (hgood : ∀ w ∈ Cond.classLink own ik cls :: Cond.initialized cls :: vx_atS own ic cls names, vx_ot w = true)
    (hU : vx_Zq Bundle.tN "UNASSIGNED_STACK" Bundle.steD A s s.heap) (hN : vx_Zq Bundle.tN "SUPPRESSED_SENTINEL" Bundle.listD A s s.heap) (hS : va_S A s.heap H locs) (hsize : ls.size = c.maxLocals)
    (d0 : decode cc pc = .ok (.new ik, 3)) (d3 : decode cc (pc + 3) = .ok (.dup, 1)) (d4 : decode cc (pc + 4) = .ok (.ldc is, 2)) (d6 : decode cc (pc + 6) = .ok (.invokespecial ic, 3)) (d9 : decode cc (pc + 9) = .ok (.athrow, 1))
    (hout : ∀ x ∈ c.exceptionTable.toList, covers x (pc + 9) = false)
    (hRframes : names.length + 3 < R.frames) (hRlocals : (rest.map fun v => v.category).sum + (13 * (names.length + 1) + 43) ≤ R.locals) (hRcells : cells + 1 ≤ R.cells) (hRslots : slots + 6 ≤ R.slots) (hlocks : meth.locks = false)
    (hx : ∀ t : State, s.vm.Alike t.vm → H.size ≤ t.heap.size → (∀ q : Nat, q < H.size → t.heap[q]? = H[q]?) → XC cls s t)
    (hf : ∀ z ∈ locs, free z.base) (hc : cells + 1 ≤ mc) (hs : slots + 6 ≤ ms) :
    W p l e R s m args below meth c H locs cells slots (vx_MQ below Qc XC args s mc ms free) (F0 m pc ls rest) := by
  intro T hT X
  have htr : e.platform.stackTraces = false := (show e.platform.stackTraces = l.stackTraces by rw [X.admits.platform]).trans hl
  have Y := vx_rebase X (R' := { frames := R.frames, locals := R.locals, cells := 1, slots := 6 }) (Nat.le_refl _) (Nat.le_refl _) hRcells hRslots
  obtain ⟨s', hA⟩ : ∃ z, z = (T.setVm s.vm).setFrames (.invoking m args :: below) := ⟨_, rfl⟩
  rw [← hA] at Y
  have hvm : s'.vm = s.vm := by rw [hA]; rfl
  have hhp : s'.heap = H := by rw [hA]; exact hT
  have hW0 : s.WarmedH s'.vm := by rw [hvm]; exact State.WarmedH.refl s
  have hat' : ∀ w ∈ vx_atS own ic cls names, w.before args s' = true := fun w hw => vx_ot_at hW0 hvm.symm (hgood w (List.mem_cons_of_mem _ (List.mem_cons_of_mem _ hw))) (hat w hw)
  have hk' : (Cond.classLink own ik cls).before args s' = true := vx_ot_at hW0 hvm.symm (hgood _ List.mem_cons_self) hk
  have hini' : (Cond.initialized cls).before args s' = true := vx_ot_at hW0 hvm.symm (hgood _ (List.mem_cons_of_mem _ List.mem_cons_self)) hini
  have hU' : vx_Zq Bundle.tN "UNASSIGNED_STACK" Bundle.steD A s' s'.heap := by rw [hhp]; exact vx_Zq.moved hW0.alike (hU.kept hS.2.1)
  have hN' : vx_Zq Bundle.tN "SUPPRESSED_SENTINEL" Bundle.listD A s' s'.heap := by rw [hhp]; exact vx_Zq.moved hW0.alike (hN.kept hS.2.1)
  have h : ∀ w ∈ Bundle.ownAtoms own ic cls names, w.before args s' = true := vx_own hat' (vx_isRefq hU'.1) (vx_isRefq hN'.1) hU'.2.word hN'.2.word
  have hown' : s'.vm.findClass own = some m.cls := by rw [hvm]; exact hown
  have hins : (Cond.instantiable cls 6).before args s' = true := h _ (by simp [Bundle.ownAtoms])
  obtain ⟨vm₁, cX, kX, hfX, hkX, -, -, X₁, st1⟩ := Y.newCold hexec (own := own) (C := cls) (index := ik) (n := 6) hown' hk' hins hini'
    (g := F0 m pc ls rest) rfl (by rw [hb]; exact d0) (Nat.le_refl _) (Nat.le_refl _)
  generalize hT1 : (T.setVm vm₁).pushCell { cls := cX, slots := kX.instanceTypes.map defaultValue, vm := .none } = T1 at X₁ st1
  have hcat : (Value.ref T.heap.size).category = 1 := rfl
  have hcellA : T1.heap[T.heap.size]? = some (freshCell cX kX) := by rw [← hT1]; exact State.heap_pushCell_size _ _
  have d3' : decode c.code (pc + 3) = .ok (.dup, 1) := by rw [hb]; exact d3
  have d4' : decode c.code (pc + 4) = .ok (.ldc is, 2) := by rw [hb]; exact d4
  have hstr' : vk_R own is text sa s' := vk_R.warm hW0 hstr
  obtain ⟨U, hsteps, hrun, hend, hW, hsame, ce, hce, hO⟩ := X₁.ctorThrowS hexec htr (own := own) (cls := cls) (names := names) (ic := ic) hown' hcls hnames h (fun x hx => nomatch hx) hfX hkX hcellA (by rw [hhp, hT]; exact Nat.le_refl _) (msg := .ref sa) rfl
    (g := { method := m, pc := pc + 6, locals := ls, stack := .ref sa :: .ref T.heap.size :: .ref T.heap.size :: rest, locked := none }) rfl hsize rfl rfl (rest := rest) rfl
    (by rw [hb]; exact d6) (by rw [hb]; exact d9) hout hRframes (by simp only [List.map_cons, List.sum_cons, hcat]; omega) hlocks
  obtain ⟨f1, f2⟩ := vx_frame hsame
  rw [hhp] at f1 f2
  have hWs : s.WarmedH U.vm := State.WarmedH.trans hW0 hW
  have hcl : s.vm.findClass cls = some ce.cls := by
    have h9 := hO.cls
    rw [hvm] at h9
    exact h9
  have hall : s.sameButNew ({ U with vm := s.vm } : State) locs mc ms := by
    subst hA
    obtain ⟨e1, e2⟩ := hsame
    rw [State.setFrames_setFrames] at e1
    have h2 : (T.setVm s.vm).sameButNew ({ U with vm := s.vm } : State) [] (0 + 1) (0 + 6) := ⟨e1, e2⟩
    have h3 := X.same.trans h2
    rw [List.append_nil] at h3
    exact h3.mono hc hs
  refine ⟨U, ?_, .threw T.heap.size, hrun, hend, Or.inr ⟨T.heap.size, rfl, cls, ce, locs, hx U hWs.alike f1 (fun q hq => f2 q hq (fun z hz => nomatch hz)), hce, hO.vm, hcl, hWs, hall, hf⟩⟩
  refine st1 _ ?_
  show Steps p.tables e below (T1.setTop { method := m, pc := pc + 3, locals := ls, stack := .ref T.heap.size :: rest, locked := none }) _
  jvm_step X₁.here [X₁.here.top, hexec, d3', Value.category]
  exact X₁.ldcString hexec (own := own) (text := text) (index := is) (a := sa) hown' hstr'.1 hstr'.2
    (g := { method := m, pc := pc + 4, locals := ls, stack := .ref T.heap.size :: .ref T.heap.size :: rest, locked := none }) rfl d4' _ hsteps
/-- 'throw new E("text")', the text by a wide index -/
theorem vx_throwSW {cc : ByteArray} {pc : Nat} (hexec : p.tables.exec = Jvm.exec) (hb : c.code = cc) (hl : l.stackTraces = false) {own cls text : String} {names : List String} {ik is ic mc ms sa : Nat} {A : Nat → Prop}
    (hown : s.vm.findClass own = some m.cls) (hcls : Bundle.fit cls = true) (hnames : ∀ n ∈ names, Bundle.fit n = true)
    (hk : (Cond.classLink own ik cls).before args s = true) (hini : (Cond.initialized cls).before args s = true) (hstr : vk_R own is text sa s) (hat : ∀ w ∈ vx_atS own ic cls names, w.before args s = true)
    (hgood : ∀ w ∈ Cond.classLink own ik cls :: Cond.initialized cls :: vx_atS own ic cls names, vx_ot w = true)
    (hU : vx_Zq Bundle.tN "UNASSIGNED_STACK" Bundle.steD A s s.heap) (hN : vx_Zq Bundle.tN "SUPPRESSED_SENTINEL" Bundle.listD A s s.heap) (hS : va_S A s.heap H locs) (hsize : ls.size = c.maxLocals)
    (d0 : decode cc pc = .ok (.new ik, 3)) (d3 : decode cc (pc + 3) = .ok (.dup, 1)) (d4 : decode cc (pc + 4) = .ok (.ldc_w is, 3)) (d7 : decode cc (pc + 7) = .ok (.invokespecial ic, 3)) (d10 : decode cc (pc + 10) = .ok (.athrow, 1))
    (hout : ∀ x ∈ c.exceptionTable.toList, covers x (pc + 10) = false)
    (hRframes : names.length + 3 < R.frames) (hRlocals : (rest.map fun v => v.category).sum + (13 * (names.length + 1) + 43) ≤ R.locals) (hRcells : cells + 1 ≤ R.cells) (hRslots : slots + 6 ≤ R.slots) (hlocks : meth.locks = false)
    (hx : ∀ t : State, s.vm.Alike t.vm → H.size ≤ t.heap.size → (∀ q : Nat, q < H.size → t.heap[q]? = H[q]?) → XC cls s t)
    (hf : ∀ z ∈ locs, free z.base) (hc : cells + 1 ≤ mc) (hs : slots + 6 ≤ ms) :
    W p l e R s m args below meth c H locs cells slots (vx_MQ below Qc XC args s mc ms free) (F0 m pc ls rest) := by
  intro T hT X
  have htr : e.platform.stackTraces = false := (show e.platform.stackTraces = l.stackTraces by rw [X.admits.platform]).trans hl
  have Y := vx_rebase X (R' := { frames := R.frames, locals := R.locals, cells := 1, slots := 6 }) (Nat.le_refl _) (Nat.le_refl _) hRcells hRslots
  obtain ⟨s', hA⟩ : ∃ z, z = (T.setVm s.vm).setFrames (.invoking m args :: below) := ⟨_, rfl⟩
  rw [← hA] at Y
  have hvm : s'.vm = s.vm := by rw [hA]; rfl
  have hhp : s'.heap = H := by rw [hA]; exact hT
  have hW0 : s.WarmedH s'.vm := by rw [hvm]; exact State.WarmedH.refl s
  have hat' : ∀ w ∈ vx_atS own ic cls names, w.before args s' = true := fun w hw => vx_ot_at hW0 hvm.symm (hgood w (List.mem_cons_of_mem _ (List.mem_cons_of_mem _ hw))) (hat w hw)
  have hk' : (Cond.classLink own ik cls).before args s' = true := vx_ot_at hW0 hvm.symm (hgood _ List.mem_cons_self) hk
  have hini' : (Cond.initialized cls).before args s' = true := vx_ot_at hW0 hvm.symm (hgood _ (List.mem_cons_of_mem _ List.mem_cons_self)) hini
  have hU' : vx_Zq Bundle.tN "UNASSIGNED_STACK" Bundle.steD A s' s'.heap := by rw [hhp]; exact vx_Zq.moved hW0.alike (hU.kept hS.2.1)
  have hN' : vx_Zq Bundle.tN "SUPPRESSED_SENTINEL" Bundle.listD A s' s'.heap := by rw [hhp]; exact vx_Zq.moved hW0.alike (hN.kept hS.2.1)
  have h : ∀ w ∈ Bundle.ownAtoms own ic cls names, w.before args s' = true := vx_own hat' (vx_isRefq hU'.1) (vx_isRefq hN'.1) hU'.2.word hN'.2.word
  have hown' : s'.vm.findClass own = some m.cls := by rw [hvm]; exact hown
  have hins : (Cond.instantiable cls 6).before args s' = true := h _ (by simp [Bundle.ownAtoms])
  obtain ⟨vm₁, cX, kX, hfX, hkX, -, -, X₁, st1⟩ := Y.newCold hexec (own := own) (C := cls) (index := ik) (n := 6) hown' hk' hins hini'
    (g := F0 m pc ls rest) rfl (by rw [hb]; exact d0) (Nat.le_refl _) (Nat.le_refl _)
  generalize hT1 : (T.setVm vm₁).pushCell { cls := cX, slots := kX.instanceTypes.map defaultValue, vm := .none } = T1 at X₁ st1
  have hcat : (Value.ref T.heap.size).category = 1 := rfl
  have hcellA : T1.heap[T.heap.size]? = some (freshCell cX kX) := by rw [← hT1]; exact State.heap_pushCell_size _ _
  have d3' : decode c.code (pc + 3) = .ok (.dup, 1) := by rw [hb]; exact d3
  have d4' : decode c.code (pc + 4) = .ok (.ldc_w is, 3) := by rw [hb]; exact d4
  have hstr' : vk_R own is text sa s' := vk_R.warm hW0 hstr
  obtain ⟨U, hsteps, hrun, hend, hW, hsame, ce, hce, hO⟩ := X₁.ctorThrowS hexec htr (own := own) (cls := cls) (names := names) (ic := ic) hown' hcls hnames h (fun x hx => nomatch hx) hfX hkX hcellA (by rw [hhp, hT]; exact Nat.le_refl _) (msg := .ref sa) rfl
    (g := { method := m, pc := pc + 7, locals := ls, stack := .ref sa :: .ref T.heap.size :: .ref T.heap.size :: rest, locked := none }) rfl hsize rfl rfl (rest := rest) rfl
    (by rw [hb]; exact d7) (by rw [hb]; exact d10) hout hRframes (by simp only [List.map_cons, List.sum_cons, hcat]; omega) hlocks
  obtain ⟨f1, f2⟩ := vx_frame hsame
  rw [hhp] at f1 f2
  have hWs : s.WarmedH U.vm := State.WarmedH.trans hW0 hW
  have hcl : s.vm.findClass cls = some ce.cls := by
    have h9 := hO.cls
    rw [hvm] at h9
    exact h9
  have hall : s.sameButNew ({ U with vm := s.vm } : State) locs mc ms := by
    subst hA
    obtain ⟨e1, e2⟩ := hsame
    rw [State.setFrames_setFrames] at e1
    have h2 : (T.setVm s.vm).sameButNew ({ U with vm := s.vm } : State) [] (0 + 1) (0 + 6) := ⟨e1, e2⟩
    have h3 := X.same.trans h2
    rw [List.append_nil] at h3
    exact h3.mono hc hs
  refine ⟨U, ?_, .threw T.heap.size, hrun, hend, Or.inr ⟨T.heap.size, rfl, cls, ce, locs, hx U hWs.alike f1 (fun q hq => f2 q hq (fun z hz => nomatch hz)), hce, hO.vm, hcl, hWs, hall, hf⟩⟩
  refine st1 _ ?_
  show Steps p.tables e below (T1.setTop { method := m, pc := pc + 3, locals := ls, stack := .ref T.heap.size :: rest, locked := none }) _
  jvm_step X₁.here [X₁.here.top, hexec, d3', Value.category]
  exact X₁.ldcStringW hexec (own := own) (text := text) (index := is) (a := sa) hown' hstr'.1 hstr'.2
    (g := { method := m, pc := pc + 4, locals := ls, stack := .ref T.heap.size :: .ref T.heap.size :: rest, locked := none }) rfl d4' _ hsteps
end Ends
section Bodies
variable {l : Launch}
theorem vx_ofW {y : MethodName} {ws ws' : List Cond} {rm : Room} {Pc : Array Value → State → Prop} {Qc : Array Value → State → Outcome → State → Prop} {XC : String → State → State → Prop} {mc ms : Nat} {free : Addr → Prop} {cc : ByteArray} {maxL : Nat} {ret : Option FieldType}
    (hy : plainName y.cls = true) (hw : ws = Cond.code y cc maxL ret :: ws')
    (body : ∀ p e s m args below meth c s₁, BodyLoose p l y (headSpec ws rm) cc maxL ret e s m args below meth c s₁ → c.maxLocals = maxL → (∀ x ∈ c.exceptionTable.toList, False) → Pc args s →
      W p l e (headSpec ws rm).room s m args below meth c s.heap [] 0 0 (vx_MQ below Qc XC args s mc ms free) (entryFrame m args maxL)) : vx_Met l y ws rm Pc Qc XC mc ms free := by
  refine MetFree.of_bodyS (code := cc) (maxLocals := maxL) (ret := ret) hy ?_ ?_
  · intro args s m h hn
    obtain ⟨meth, c, h1, h2, h3, h4, h5, h6, -, -⟩ := Cond.code_spec hn (atoms_spec (ws := ws) h _ (by rw [hw]; exact List.mem_cons_self))
    exact ⟨meth, c, h1, h2, h3, h4, h5, h6⟩
  · intro p e s m args below meth c s₁ B hml hP _
    have hh0 : s₁.heap = s.heap := by rw [B.state]; rfl
    have ht : ∀ x ∈ c.exceptionTable.toList, False := by
      obtain ⟨meth9, c9, h1, h2, -, -, -, -, h7, -⟩ := Cond.code_spec B.named (atoms_spec (ws := ws) B.pre _ (by rw [hw]; exact List.mem_cons_self))
      cases Option.some.inj (h1.symm.trans B.method)
      cases Option.some.inj (h2.symm.trans (Stand.of_body B).code)
      intro x hx
      rw [Array.isEmpty_iff.mp h7] at hx
      cases hx
    obtain ⟨t, a1, o, b1, b2, b3⟩ := body p e s m args below meth c s₁ B hml ht hP s₁ hh0 (Stand.of_body B)
    exact ⟨t, o, a1, b1, b2, b3⟩
/-- the table of a body with handlers -/
theorem vx_table {p : Program} {x y : MethodName} {S : Spec} {cc bytes : ByteArray} {maxL maxL' : Nat} {ret ret' : Option FieldType} {e : Env} {s s₁ : State} {m : MethodId} {args : Array Value} {below : List Frame} {meth : Method} {c : Code} {hh : List (Nat × Nat × Nat × Nat)}
    (B : BodyLoose p l y S cc maxL ret e s m args below meth c s₁) (h : (Cond.codeWith y bytes maxL' ret' hh).before args s = true) : c.exceptionTable.toList = tableOf hh := by
  obtain ⟨m9, meth9, c9, hn9, h1, h2, -, -, h6, -⟩ := Cond.codeWith_spec h
  cases Option.some.inj (hn9.symm.trans B.named)
  cases Option.some.inj (h1.symm.trans B.method)
  cases Option.some.inj (h2.symm.trans (Stand.of_body B).code)
  rw [← h6, table_eq]
end Bodies
end VXA
/-! ===== END ===== -/
/-! ===== BEGIN a static call of a method with an exception table ===== -/
section VXS
variable {p : Program} {l : Launch} {e : Env} {R : Room} {s : State} {m : MethodId} {args : Array Value} {below : List Frame} {meth : Method} {c : Code} {T : State} {H : Heap} {locs : List Loc} {cells slots : Nat}
abbrev vx_CSW (R : Room) (s : State) (args : Array Value) (own : String) (index : Nat) (y : MethodName) (bytes : ByteArray) (maxL : Nat) (ret : Option FieldType) (hh : List (Nat × Nat × Nat × Nat)) (ws : List Cond) (rm : Room) (mc ms n : Nat) : Prop :=
  (rm.cells = mc ∧ rm.slots = ms ∧ rm.frames + 1 ≤ R.frames ∧ 8 + (maxL + 11) + rm.locals ≤ R.locals ∧ (∀ w ∈ ws, ∀ (a' : Array Value) (U : State), s.WarmedH U.vm → w.before a' U = true) ∧ Cond.codeWith y bytes maxL ret hh ∈ ws) ∧
  (Cond.codeWith y bytes maxL ret hh).before args s = true ∧ (Cond.initialized y.cls).before args s = true ∧ (y.cls ≠ "java/lang/invoke/MethodHandle" ∧ y.cls ≠ "java/lang/invoke/VarHandle") ∧
  (∀ sig, parseMethodDescriptor y.desc = some sig → n = sig.parameters.length) ∧ (Cond.methodLink own index y).before args s = true ∧ (Cond.static y).before args s = true
theorem vx_cwSW {own : String} {index maxL mc ms : Nat} {y : MethodName} {bytes : ByteArray} {ret : Option FieldType} {hh : List (Nat × Nat × Nat × Nat)} {Ts ws ws' : List Cond} {rm : Room} (n : Nat) (ht : ∀ w ∈ Ts, w.before args s = true) (hT : GoodIn Ts (va_wsS own index y ws)) (hw : ws = Cond.codeWith y bytes maxL ret hh :: ws') (hrc : rm.cells = mc) (hrs : rm.slots = ms)
    (hd : y.cls ≠ "java/lang/invoke/MethodHandle" ∧ y.cls ≠ "java/lang/invoke/VarHandle" ∧ (parseMethodDescriptor y.desc).map (fun d => d.parameters.length) = some n) (hR : rm.frames + 1 ≤ R.frames ∧ 8 + (maxL + 11) + rm.locals ≤ R.locals) :
    vx_CSW R s args own index y bytes maxL ret hh ws rm mc ms n := by
  have ok : ∀ w ∈ va_wsS own index y ws, w.before args s = true := fun w h => ht w (hT w h).1
  have hG : GoodIn Ts ws := fun w h => hT w (by unfold va_wsS; exact List.mem_append_right _ h)
  have hc : Cond.codeWith y bytes maxL ret hh ∈ ws := by rw [hw]; exact List.mem_cons_self
  refine ⟨⟨hrc, hrs, hR.1, hR.2, pay_in ht hG, hc⟩, ht _ (hG _ hc).1, ok _ (by simp [va_wsS]), ⟨hd.1, hd.2.1⟩, fun sig h => ?_, ok _ (by simp [va_wsS]), ok _ (by simp [va_wsS])⟩
  have h2 := hd.2.2
  rw [h] at h2
  exact (Option.some.inj h2).symm
theorem vx_callSW (X : Stand p l e R s m args below meth c T locs cells slots) (hexec : p.tables.exec = Jvm.exec) {own : String} {index : Nat} {y : MethodName} {bytes : ByteArray} {maxL : Nat} {ret : Option FieldType} {hh : List (Nat × Nat × Nat × Nat)}
    (hown : s.vm.findClass own = some m.cls) (hlink : (Cond.methodLink own index y).before args s = true) (hstat : (Cond.static y).before args s = true) (hinit : (Cond.initialized y.cls).before args s = true)
    (hcode : (Cond.codeWith y bytes maxL ret hh).before args s = true) (hy : y.cls ≠ "java/lang/invoke/MethodHandle" ∧ y.cls ≠ "java/lang/invoke/VarHandle")
    {W9 : Nat} {Pre : Pt → Array Value → Prop} {Post : Pt → Array Value → Option Value → Pt → Prop} (hK : Back l R p e below s args y 3 W9 Pre Post)
    {g : JFrame} (hg : g.method = m) (hsize : g.locals.size = c.maxLocals) {argsL rest : List Value} (hlen : ∀ sig, parseMethodDescriptor y.desc = some sig → argsL.length = sig.parameters.length)
    (hstack : g.stack = argsL.reverse ++ rest) (hW : 2 * g.monitorRoom + (rest.map fun v => v.category).sum ≤ W9) (hdg : decode c.code g.pc = .ok (.invokestatic index, 3))
    (hpre : ∀ vm₁, s.WarmedH vm₁ → Pre ⟨T.setVm vm₁, locs, cells, slots⟩ argsL.toArray) :
    ∃ (v : Option Value) (vm₁ : Vm) (B : Pt), s.WarmedH vm₁ ∧ Stand p l e R s m args below meth c B.U B.locs B.cells B.slots ∧ Post ⟨T.setVm vm₁, locs, cells, slots⟩ argsL.toArray v B ∧
      ∀ target, Steps p.tables e below (B.U.setTop { g with pc := g.pc + 3, stack := v.toList ++ rest }) target → Steps p.tables e below (T.setTop g) target := by
  obtain ⟨mk, methM, cM, hnamed, hmethM, -, -, -, -, -, -, hsigM⟩ := Cond.codeWith_spec hcode
  have hstatic : methM.isStatic = true := Cond.static_spec hnamed hmethM hstat
  obtain ⟨kP, hkP, -⟩ := className_of_methodNamed hnamed
  have hinitP : kP.init = .initialized := Cond.initialized_spec (findClass_of_methodNamed hnamed) hkP hinit
  obtain ⟨vm₁, X₁, hstep₁⟩ := X.invokestatic hexec hown hlink hnamed hmethM hstatic hkP hinitP hy (g := g) hg (argsL := argsL) (rest := rest) (hlen _ hsigM) hstack hdg
  obtain ⟨v, B, X', hpost, hsteps⟩ := hK m meth c ⟨T.setVm vm₁, locs, cells, slots⟩ { g with stack := rest } (.invokestatic index) mk argsL.toArray X₁ hg hsize hdg hW (X₁.named hnamed) (hpre vm₁ X₁.warmed)
  exact ⟨v, vm₁, B, X₁.warmed, X', hpost, fun target h => hstep₁ _ fun acts => by rw [doInvoke_state]; exact hsteps.trans h⟩
theorem vx_runSW {y : MethodName} {bytes cc : ByteArray} {maxL nL mc ms n index : Nat} {ret : Option FieldType} {hh : List (Nat × Nat × Nat × Nat)} {ws : List Cond} {rm : Room} {Pc : Array Value → State → Prop} {Qc : Array Value → State → Outcome → State → Prop} {free : Addr → Prop} {Ts : List Cond} {own : String} {As rest : List Value} {g : JFrame}
    (S : CallFix p m c cc nL s args Ts own) (hM : Met l y ws rm Pc Qc mc ms free) (cw : vx_CSW R s args own index y bytes maxL ret hh ws rm mc ms n) (hp : PreS s H Pc As)
    (hg : g.method = m) (hn : As.length = n) (hsize : g.locals.size = nL) (hstack : g.stack = As.reverse ++ rest) (hW : 2 * g.monitorRoom + (rest.map fun v => v.category).sum ≤ 8) (hdg : decode cc g.pc = .ok (.invokestatic index, 3)) (hf : cells + mc ≤ R.cells ∧ slots + ms ≤ R.slots) :
    va_Run p l e R s m args below meth c H locs cells slots mc ms g rest (Qc As.toArray) (free) := by
  obtain ⟨⟨hrc, hrs, hfr, hlo, hws, hcw⟩, hcode, hini, hy, hlen, hl, hstt⟩ := cw
  have hK : Back l R p e below s args y 3 8 (PreOf R mc ms Pc) (PostOf Qc mc ms free) := va_backW (hh := hh) (bytes := bytes) (maxL := maxL) (ret := ret) hM hp.1 hrc hrs hfr hlo hws hcw (fun a' U hW => word_at hW (Or.inl (by first | rfl | simp [Cond.onTables, Cond.keeps, Cond.steady])) hini)
  obtain ⟨hx, hb, hml, ho, -⟩ := S
  intro T hT X
  obtain ⟨v, vm₁, ⟨U', l2, c2, s2⟩, hW₁, X', ⟨g', mk, t, L, e1, e2, hq, h1, hL, h2, h3⟩, st⟩ := vx_callSW X hx (hh := hh) (bytes := bytes) (maxL := maxL) (ret := ret) ho hl hstt hini hcode hy hK hg (hsize.trans hml.symm) (argsL := As) (rest := rest) (fun sig h => hn.trans (hlen sig h)) hstack hW (by rw [hb]; exact hdg)
    (fun vm₁ hW₁ => ⟨hf.1, hf.2, hp.2 (T.setVm vm₁) hT hW₁⟩)
  dsimp only [Pt.U, Pt.locs, Pt.cells, Pt.slots] at X' e1 e2 h1 h2 h3 st
  subst h1; subst h2; subst h3
  exact ⟨v, (T.setVm vm₁).calling g' mk As.toArray, t, U', L, hT, X', hL, e1, e2, hq, st⟩
/-- not caught here, past rows that name other classes: it goes on to the caller -/
theorem vx_outP {p : Program} {l : Launch} {e : Env} {R : Room} {s : State} {m : MethodId} {args : Array Value} {below : List Frame} {meth : Method} {c : Code} {H : Heap} {locs : List Loc} {cells slots : Nat} {free : Addr → Prop} {ls : Array Slot} {rest : List Value} {Qc : Array Value → State → Outcome → State → Prop} {XC : String → State → State → Prop}
    {pc : Nat} {own E : String} {ce : Cell} {q : Addr} {mc ms : Nat} (hown : s.vm.findClass own = some m.cls) (hlocks : meth.locks = false)
    (hpass : ∀ z ∈ c.exceptionTable.toList, covers z pc = false ∨ (z.catchType ≠ 0 ∧ ∃ nm : String, (Cond.classLink own z.catchType nm).before args s = true ∧ va_Nc E nm s)) (hcell : H[q]? = some ce) (hv : ce.vm = .none) (hcl : s.vm.findClass E = some ce.cls)
    (hx : ∀ t : State, t.heap = H → s.vm.Alike t.vm → XC E s t) (hf : ∀ z ∈ locs, free z.base) (hc : cells ≤ mc) (hs : slots ≤ ms) :
    vx_W p l e R s m args below meth c H locs cells slots (vx_MQ below Qc XC args s mc ms free) (F0 m pc ls rest) q := by
  intro T hT X
  have hpl : e.platform.magicAccessors = ({} : Platform).magicAccessors := by rw [X.admits.platform]
  obtain ⟨vm', hW', X', st⟩ := X.outThrough hlocks q (g := F0 m pc ls rest) rfl rfl rfl (cell := ce) (by rw [hT]; exact hcell) (by rw [hv]; rfl)
    (by obtain ⟨k9, h9, -⟩ := Vm.findClass_spec hcl; exact ⟨k9, h9⟩) (fun z hz => by
      rcases hpass z hz with h | ⟨hz0, nm, hl1, hn1⟩
      · exact Or.inl h
      · obtain ⟨c6, hc6, hcl6⟩ := Cond.classLink_spec hown hl1 e.platform hpl
        obtain ⟨a8, b8, h1, h2, h3⟩ := hn1
        cases Option.some.inj (h1.symm.trans hcl)
        cases Option.some.inj (h2.symm.trans hc6)
        exact Or.inr ⟨hz0, _, hcl6, h3⟩)
  obtain ⟨g₀, hfr⟩ := X'.frames_eq
  have hcell9 : ((T.setVm vm').setFrames (.throwing q :: below)).heap[q]? = some ce := by
    show T.heap[q]? = some ce
    rw [hT]; exact hcell
  have hend : Ended ((T.setVm vm').setFrames (.throwing q :: below)) below (.threw q) := State.frames_setFrames _ (State.cur_lt_of_frames hfr)
  refine ⟨(T.setVm vm').setFrames (.throwing q :: below), ?_, .threw q, X'.here.running, hend, Or.inr ⟨q, rfl, E, ce, locs, hx _ hT (X'.ends _).1.alike, hcell9, hv, hcl, (X'.ends _).1, (X'.ends _).2.mono hc hs, hf⟩⟩
  rw [X.pushThrowing_eq]
  exact st
/-- a thing of a world lies in the heap -/
theorem vx_lt {D : va_G} {cl : List vw_C} {ws : va_W} {H1 : Heap} (h : va_P D cl ws H1) {k : Nat} {q : Nat × va_E} (hk : ws[k]? = some q) : q.1 < H1.size := (h k q hk).lt
end VXS
/-! ===== END ===== -/
/-! ===== BEGIN methods with a table of their own: called by a name, returning or throwing ===== -/
section VXH
/-! vx_backW, vx_callVX, vx_callSX, vx_callVW, vx_runVW, vx_runVX, vx_runSX, vx_ofWH follow the same proofs as their sisters above (Free/Laws.lean, Shelf42/LK1.lean); vx_outP calls Shelf42/NT130.lean (outThrough). -/
section
variable {l : Launch} {R : Room} {p : Program} {e : Env} {below : List Frame} {s : State} {sargs : Array Value} {y : MethodName} {len W9 : Nat}
theorem vx_backW {ws : List Cond} {rm : Room} {Pc : Array Value → State → Prop} {Qc : Array Value → State → Outcome → State → Prop} {XC : String → State → State → Prop} {mc ms : Nat} {free : Addr → Prop} {bytes : ByteArray} {maxL : Nat} {ret : Option FieldType} {hh : List (Nat × Nat × Nat × Nat)}
    (hM : vx_Met l y ws rm Pc Qc XC mc ms free) (hblind : FrameBlind Pc) (hrc : rm.cells = mc) (hrs : rm.slots = ms)
    (hframes : rm.frames + 1 ≤ R.frames) (hlocals : W9 + (maxL + 11) + rm.locals ≤ R.locals)
    (hws : ∀ w ∈ ws, ∀ a' U, s.WarmedH U.vm → w.before a' U = true) (hcode : Cond.codeWith y bytes maxL ret hh ∈ ws) (hinit : ∀ a' U, s.WarmedH U.vm → (Cond.initialized y.cls).before a' U = true) :
    vx_Back l R p e below s sargs y len W9 (PreOf R mc ms Pc) (PostOf Qc mc ms free) (vx_Post XC mc ms free) := by
  intro m meth c A g ig mk a X hg hsize hdg hW hn hp
  have h1 : (headSpec ws rm).pre.before a A.U = true := atoms_intro fun w hw => hws w hw _ _ X.warmed
  have h2 : (Cond.codeWith y bytes maxL ret hh).before a A.U = true := hws _ hcode _ _ X.warmed
  have h3 : (Cond.initialized y.cls).before a A.U = true := hinit _ _ X.warmed
  have h4 : A.cells + (headSpec ws rm).room.cells ≤ R.cells := by rw [show (headSpec ws rm).room.cells = mc from hrc]; exact hp.1
  have h5 : A.slots + (headSpec ws rm).room.slots ≤ R.slots := by rw [show (headSpec ws rm).room.slots = ms from hrs]; exact hp.2.1
  have hPc : Pc a (A.U.calling g mk a) := hblind _ _ _ _ hp.2.2
  obtain ⟨U, Ls, c0, s0⟩ := A
  dsimp only [Pt.U, Pt.locs, Pt.cells, Pt.slots] at h1 h2 h3 h4 h5 X hn hPc ⊢
  obtain ⟨m9, methY, cY, hn9, hmY, hcY, -, hlY, -⟩ := Cond.codeWith_spec h2
  cases Option.some.inj (hn9.symm.trans hn)
  obtain ⟨kY, hkY, -⟩ := className_of_methodNamed hn
  have hinitY : kY.init = .initialized := Cond.initialized_spec (findClass_of_methodNamed hn) hkY h3
  have h : At U g.method c below := by rw [hg]; exact X.here
  have hlocals9 : W9 + (maxL + 11) + (headSpec ws rm).room.locals ≤ R.locals := hlocals
  have happ : (headSpec ws rm).appliesLoose y e.platform (U.calling g mk a) = true :=
    Spec.appliesLoose_calling (g := g) h hdg hn hkY hinitY
      (X.room_calling (g := g) (R' := (headSpec ws rm).room) hsize hmY hcY hframes (by rw [hlY]; omega) h4 h5) h1
  obtain ⟨mid, hmid⟩ := h.above
  have hfr : (U.setTop g).frames = (.java g :: mid) ++ below := by rw [State.frames_setTop' g h.top, hmid]; rfl
  obtain ⟨o, s₂, hsteps, -, hend, hq⟩ := Steps.callFree hM p X.admits X.cas X.clock (acts := []) hfr happ hPc trivial
  have hq' : vx_Q Qc XC mc ms free a (U.calling g mk a) o s₂ := hq
  rw [State.frames_setTop' g h.top] at hend
  obtain ⟨g₀, hg0⟩ := Option.isSome_iff_exists.mp h.top
  obtain ⟨r, hr⟩ := State.topJava?_eq_some.mp hg0
  have hr' : (({ U with heap := s₂.heap, slotsUsed := s₂.slotsUsed } : State).setVm s₂.vm).frames = .java g₀ :: r := hr
  rcases hq' with ⟨hqc, L, hfe, hL⟩ | ⟨q, rfl, E, ce, L, hx, hce, hcv, hcl, hW₂, hsm, hL⟩
  · obtain ⟨⟨v, rfl⟩, hW₂, e2, q2, q3, q4, q5, q6⟩ := id hfe
    have e3 : s₂ = ({ (U.calling g mk a).setFrames s₂.frames with heap := s₂.heap, slotsUsed := s₂.slotsUsed } : State).setVm s₂.vm := by
      have : s₂ = ({ s₂ with vm := (U.calling g mk a).vm } : State).setVm s₂.vm := rfl
      rw [e2] at this
      exact this
    obtain ⟨c₂, i₂, len₂, hc₂, hd₂, hf₂⟩ := hend
    have hW' : U.WarmedH s₂.vm := hW₂
    have hcc : c₂ = c := by
      have h1 : s₂.code? g.method = U.code? g.method := by
        rw [State.code?_eq, State.code?_eq, hW'.alike.method?]
      exact Option.some.inj (hc₂.symm.trans (h1.trans h.code))
    subst hcc
    have hlen : len₂ = len := by rw [hdg] at hd₂; cases hd₂; rfl
    subst hlen
    have hs₂ : s₂ = (({ U with heap := s₂.heap, slotsUsed := s₂.slotsUsed } : State).setVm s₂.vm).setTop { g with pc := g.pc + len₂, stack := v.toList ++ g.stack } := by
      refine e3.trans ?_
      rw [hf₂, State.calling_eq h.top, State.setFrames_setFrames, State.setTop_of_frames _ hr', hr]
      rfl
    have hsame : U.sameButNew ({ U with heap := s₂.heap, slotsUsed := s₂.slotsUsed } : State) L mc ms := by
      refine ⟨?_, q2, q3, q4, q5, q6⟩
      obtain ⟨t, ht, -⟩ := State.frames_cons hr
      show ({ U with heap := s₂.heap, slotsUsed := s₂.slotsUsed } : State) = { U.setFrames U.frames with heap := s₂.heap, slotsUsed := s₂.slotsUsed }
      rw [State.setFrames_self ht]
    subst hg
    refine Or.inl ⟨v, ⟨(({ U with heap := s₂.heap, slotsUsed := s₂.slotsUsed } : State).setVm s₂.vm), Ls ++ L, c0 + mc, s0 + ms⟩,
      ⟨X.admits, X.cas, X.clock, X.frames, X.room, X.hears, X.method, X.code, (X.here.setHeapUsed s₂.heap s₂.slotsUsed).setVm hW'.alike, X.tail, State.WarmedH.trans X.warmed hW', X.limits, X.bytes, X.same.trans (hsame.setVm s.vm)⟩,
      ⟨g, mk, s₂, L, rfl, rfl, hqc, rfl, hL, rfl, rfl⟩, ?_⟩
    show Steps p.tables e below _ ((({ U with heap := s₂.heap, slotsUsed := s₂.slotsUsed } : State).setVm s₂.vm).setTop { g with pc := g.pc + len₂, stack := v.toList ++ g.stack })
    rw [← hs₂]
    exact hsteps
  · obtain ⟨e2, q2, q3, q4, q5, q6⟩ := id hsm
    have e3 : s₂ = ({ (U.calling g mk a).setFrames s₂.frames with heap := s₂.heap, slotsUsed := s₂.slotsUsed } : State).setVm s₂.vm := by
      have : s₂ = ({ s₂ with vm := (U.calling g mk a).vm } : State).setVm s₂.vm := rfl
      rw [e2] at this
      exact this
    have hf₂ : s₂.frames = .throwing q :: .java g :: U.frames.tail := hend
    have hW' : U.WarmedH s₂.vm := hW₂
    have hs₂ : s₂ = ((({ U with heap := s₂.heap, slotsUsed := s₂.slotsUsed } : State).setVm s₂.vm).setTop g).pushFrame (.throwing q) := by
      refine e3.trans ?_
      rw [hf₂, State.calling_eq h.top, State.setFrames_setFrames, State.pushFrame, State.frames_setTop _ hr', State.setTop_of_frames _ hr', State.setFrames_setFrames, hr]
      rfl
    have hsame : U.sameButNew ({ U with heap := s₂.heap, slotsUsed := s₂.slotsUsed } : State) L mc ms := by
      refine ⟨?_, q2, q3, q4, q5, q6⟩
      obtain ⟨t, ht, -⟩ := State.frames_cons hr
      show ({ U with heap := s₂.heap, slotsUsed := s₂.slotsUsed } : State) = { U.setFrames U.frames with heap := s₂.heap, slotsUsed := s₂.slotsUsed }
      rw [State.setFrames_self ht]
    subst hg
    refine Or.inr ⟨q, ⟨(({ U with heap := s₂.heap, slotsUsed := s₂.slotsUsed } : State).setVm s₂.vm), Ls ++ L, c0 + mc, s0 + ms⟩,
      ⟨X.admits, X.cas, X.clock, X.frames, X.room, X.hears, X.method, X.code, (X.here.setHeapUsed s₂.heap s₂.slotsUsed).setVm hW'.alike, X.tail, State.WarmedH.trans X.warmed hW', X.limits, X.bytes, X.same.trans (hsame.setVm s.vm)⟩,
      ⟨g, mk, s₂, L, E, ce, rfl, rfl, hx, hce, hcv, hcl, rfl, hL, rfl, rfl⟩, ?_⟩
    show Steps p.tables e below _ (((({ U with heap := s₂.heap, slotsUsed := s₂.slotsUsed } : State).setVm s₂.vm).setTop g).pushFrame (.throwing q))
    rw [← hs₂]
    exact hsteps
end
variable {p : Program} {l : Launch} {e : Env} {R : Room} {s : State} {m : MethodId} {args : Array Value} {below : List Frame} {meth : Method} {c : Code} {T : State} {H : Heap} {locs : List Loc} {cells slots : Nat}
theorem vx_callVX (X : Stand p l e R s m args below meth c T locs cells slots) (hexec : p.tables.exec = Jvm.exec) {own C : String} {index : Nat} {y : MethodName} {bytes : ByteArray} {maxL : Nat} {ret : Option FieldType} {hh : List (Nat × Nat × Nat × Nat)}
    (hown : s.vm.findClass own = some m.cls) (hlink : (Cond.methodLink own index y).before args s = true) (hinst : (Cond.instanceMethod y).before args s = true) (hsel : (Cond.selects C y y).before args s = true)
    (hcode : (Cond.codeWith y bytes maxL ret hh).before args s = true) (hy : y.cls ≠ "java/lang/invoke/MethodHandle" ∧ y.cls ≠ "java/lang/invoke/VarHandle")
    {W9 : Nat} {Pre : Pt → Array Value → Prop} {Post : Pt → Array Value → Option Value → Pt → Prop} {PostX : Pt → Array Value → Addr → Pt → Prop} (hK : vx_Back l R p e below s args y 3 W9 Pre Post PostX)
    {b : Addr} {cellB : Cell} (hcell : T.heap[b]? = some cellB) (hobj : cellB.vm.isStatics = false) (hcls : s.vm.findClass C = some cellB.cls)
    {g : JFrame} (hg : g.method = m) (hsize : g.locals.size = c.maxLocals) {argsL rest : List Value} (hlen : ∀ sig, parseMethodDescriptor y.desc = some sig → argsL.length = sig.parameters.length)
    (hstack : g.stack = argsL.reverse ++ .ref b :: rest) (hW : 2 * g.monitorRoom + (rest.map fun v => v.category).sum ≤ W9) (hdg : decode c.code g.pc = .ok (.invokevirtual index, 3))
    (hpre : ∀ vm₁, s.WarmedH vm₁ → Pre ⟨T.setVm vm₁, locs, cells, slots⟩ (Value.ref b :: argsL).toArray) :
    (∃ (v : Option Value) (vm₁ : Vm) (B : Pt), s.WarmedH vm₁ ∧ Stand p l e R s m args below meth c B.U B.locs B.cells B.slots ∧ Post ⟨T.setVm vm₁, locs, cells, slots⟩ (Value.ref b :: argsL).toArray v B ∧
      ∀ target, Steps p.tables e below (B.U.setTop { g with pc := g.pc + 3, stack := v.toList ++ rest }) target → Steps p.tables e below (T.setTop g) target) ∨
    (∃ (q : Addr) (vm₁ : Vm) (B : Pt), s.WarmedH vm₁ ∧ Stand p l e R s m args below meth c B.U B.locs B.cells B.slots ∧ PostX ⟨T.setVm vm₁, locs, cells, slots⟩ (Value.ref b :: argsL).toArray q B ∧
      Steps p.tables e below (T.setTop g) ((B.U.setTop { g with stack := rest }).pushFrame (.throwing q))) := by
  obtain ⟨mk, methM, hnamed, hmethM, hstM, habM⟩ := Cond.instanceMethod_spec hinst
  obtain ⟨m8, methM', cM, hn8, hmethM', -, -, -, -, -, -, hsigM⟩ := Cond.codeWith_spec hcode
  cases Option.some.inj (hn8.symm.trans hnamed)
  cases hmethM.symm.trans hmethM'
  obtain ⟨c2, r2, m2, q1, q2, q3, q4, kP, hkP, hkPi⟩ := Cond.selects_spec hsel
  cases hcls.symm.trans q1
  cases (State.methodFound?_of_named hnamed hy).symm.trans q2
  cases hnamed.symm.trans q3
  have hselP : selectMethod e.platform s.vm cellB.cls mk = .method mk := by rw [Launch.admits_selectMethod X.admits]; exact q4
  obtain ⟨vm₁, X₁, hstep₁⟩ := X.invokevirtual hexec hown hlink hnamed hmethM hstM hkP hkPi hy (a := b) (cell := cellB) hcell
    (fun z h => by rw [h] at hobj; cases hobj) hselP hmethM habM hkP hkPi (g := g) hg (argsL := argsL) (rest := rest) (hlen _ hsigM) hstack hdg
  rcases hK m meth c ⟨T.setVm vm₁, locs, cells, slots⟩ { g with stack := rest } (.invokevirtual index) mk (Value.ref b :: argsL).toArray X₁ hg hsize hdg hW (X₁.named hnamed) (hpre vm₁ X₁.warmed) with ⟨v, B, X', hpost, hsteps⟩ | ⟨q, B, X', hpost, hsteps⟩
  · exact Or.inl ⟨v, vm₁, B, X₁.warmed, X', hpost, fun target h => hstep₁ _ fun acts => by rw [doInvoke_state]; exact hsteps.trans h⟩
  · exact Or.inr ⟨q, vm₁, B, X₁.warmed, X', hpost, hstep₁ _ fun acts => by rw [doInvoke_state]; exact hsteps⟩
theorem vx_callSX (X : Stand p l e R s m args below meth c T locs cells slots) (hexec : p.tables.exec = Jvm.exec) {own : String} {index : Nat} {y : MethodName} {bytes : ByteArray} {maxL : Nat} {ret : Option FieldType} {hh : List (Nat × Nat × Nat × Nat)}
    (hown : s.vm.findClass own = some m.cls) (hlink : (Cond.methodLink own index y).before args s = true) (hstat : (Cond.static y).before args s = true) (hinit : (Cond.initialized y.cls).before args s = true)
    (hcode : (Cond.codeWith y bytes maxL ret hh).before args s = true) (hy : y.cls ≠ "java/lang/invoke/MethodHandle" ∧ y.cls ≠ "java/lang/invoke/VarHandle")
    {W9 : Nat} {Pre : Pt → Array Value → Prop} {Post : Pt → Array Value → Option Value → Pt → Prop} {PostX : Pt → Array Value → Addr → Pt → Prop} (hK : vx_Back l R p e below s args y 3 W9 Pre Post PostX)
    {g : JFrame} (hg : g.method = m) (hsize : g.locals.size = c.maxLocals) {argsL rest : List Value} (hlen : ∀ sig, parseMethodDescriptor y.desc = some sig → argsL.length = sig.parameters.length)
    (hstack : g.stack = argsL.reverse ++ rest) (hW : 2 * g.monitorRoom + (rest.map fun v => v.category).sum ≤ W9) (hdg : decode c.code g.pc = .ok (.invokestatic index, 3))
    (hpre : ∀ vm₁, s.WarmedH vm₁ → Pre ⟨T.setVm vm₁, locs, cells, slots⟩ argsL.toArray) :
    (∃ (v : Option Value) (vm₁ : Vm) (B : Pt), s.WarmedH vm₁ ∧ Stand p l e R s m args below meth c B.U B.locs B.cells B.slots ∧ Post ⟨T.setVm vm₁, locs, cells, slots⟩ argsL.toArray v B ∧
      ∀ target, Steps p.tables e below (B.U.setTop { g with pc := g.pc + 3, stack := v.toList ++ rest }) target → Steps p.tables e below (T.setTop g) target) ∨
    (∃ (q : Addr) (vm₁ : Vm) (B : Pt), s.WarmedH vm₁ ∧ Stand p l e R s m args below meth c B.U B.locs B.cells B.slots ∧ PostX ⟨T.setVm vm₁, locs, cells, slots⟩ argsL.toArray q B ∧
      Steps p.tables e below (T.setTop g) ((B.U.setTop { g with stack := rest }).pushFrame (.throwing q))) := by
  obtain ⟨mk, methM, cM, hnamed, hmethM, -, -, -, -, -, -, hsigM⟩ := Cond.codeWith_spec hcode
  have hstatic : methM.isStatic = true := Cond.static_spec hnamed hmethM hstat
  obtain ⟨kP, hkP, -⟩ := className_of_methodNamed hnamed
  have hinitP : kP.init = .initialized := Cond.initialized_spec (findClass_of_methodNamed hnamed) hkP hinit
  obtain ⟨vm₁, X₁, hstep₁⟩ := X.invokestatic hexec hown hlink hnamed hmethM hstatic hkP hinitP hy (g := g) hg (argsL := argsL) (rest := rest) (hlen _ hsigM) hstack hdg
  rcases hK m meth c ⟨T.setVm vm₁, locs, cells, slots⟩ { g with stack := rest } (.invokestatic index) mk argsL.toArray X₁ hg hsize hdg hW (X₁.named hnamed) (hpre vm₁ X₁.warmed) with ⟨v, B, X', hpost, hsteps⟩ | ⟨q, B, X', hpost, hsteps⟩
  · exact Or.inl ⟨v, vm₁, B, X₁.warmed, X', hpost, fun target h => hstep₁ _ fun acts => by rw [doInvoke_state]; exact hsteps.trans h⟩
  · exact Or.inr ⟨q, vm₁, B, X₁.warmed, X', hpost, hstep₁ _ fun acts => by rw [doInvoke_state]; exact hsteps⟩
theorem vx_callVW (X : Stand p l e R s m args below meth c T locs cells slots) (hexec : p.tables.exec = Jvm.exec) {own C : String} {index : Nat} {y : MethodName} {bytes : ByteArray} {maxL : Nat} {ret : Option FieldType} {hh : List (Nat × Nat × Nat × Nat)}
    (hown : s.vm.findClass own = some m.cls) (hlink : (Cond.methodLink own index y).before args s = true) (hinst : (Cond.instanceMethod y).before args s = true) (hsel : (Cond.selects C y y).before args s = true)
    (hcode : (Cond.codeWith y bytes maxL ret hh).before args s = true) (hy : y.cls ≠ "java/lang/invoke/MethodHandle" ∧ y.cls ≠ "java/lang/invoke/VarHandle")
    {W9 : Nat} {Pre : Pt → Array Value → Prop} {Post : Pt → Array Value → Option Value → Pt → Prop} (hK : Back l R p e below s args y 3 W9 Pre Post)
    {b : Addr} {cellB : Cell} (hcell : T.heap[b]? = some cellB) (hobj : cellB.vm.isStatics = false) (hcls : s.vm.findClass C = some cellB.cls)
    {g : JFrame} (hg : g.method = m) (hsize : g.locals.size = c.maxLocals) {argsL rest : List Value} (hlen : ∀ sig, parseMethodDescriptor y.desc = some sig → argsL.length = sig.parameters.length)
    (hstack : g.stack = argsL.reverse ++ .ref b :: rest) (hW : 2 * g.monitorRoom + (rest.map fun v => v.category).sum ≤ W9) (hdg : decode c.code g.pc = .ok (.invokevirtual index, 3))
    (hpre : ∀ vm₁, s.WarmedH vm₁ → Pre ⟨T.setVm vm₁, locs, cells, slots⟩ (Value.ref b :: argsL).toArray) :
    ∃ (v : Option Value) (vm₁ : Vm) (B : Pt), s.WarmedH vm₁ ∧ Stand p l e R s m args below meth c B.U B.locs B.cells B.slots ∧ Post ⟨T.setVm vm₁, locs, cells, slots⟩ (Value.ref b :: argsL).toArray v B ∧
      ∀ target, Steps p.tables e below (B.U.setTop { g with pc := g.pc + 3, stack := v.toList ++ rest }) target → Steps p.tables e below (T.setTop g) target := by
  obtain ⟨mk, methM, hnamed, hmethM, hstM, habM⟩ := Cond.instanceMethod_spec hinst
  obtain ⟨m8, methM', cM, hn8, hmethM', -, -, -, -, -, -, hsigM⟩ := Cond.codeWith_spec hcode
  cases Option.some.inj (hn8.symm.trans hnamed)
  cases hmethM.symm.trans hmethM'
  obtain ⟨c2, r2, m2, q1, q2, q3, q4, kP, hkP, hkPi⟩ := Cond.selects_spec hsel
  cases hcls.symm.trans q1
  cases (State.methodFound?_of_named hnamed hy).symm.trans q2
  cases hnamed.symm.trans q3
  have hselP : selectMethod e.platform s.vm cellB.cls mk = .method mk := by rw [Launch.admits_selectMethod X.admits]; exact q4
  obtain ⟨vm₁, X₁, hstep₁⟩ := X.invokevirtual hexec hown hlink hnamed hmethM hstM hkP hkPi hy (a := b) (cell := cellB) hcell
    (fun z h => by rw [h] at hobj; cases hobj) hselP hmethM habM hkP hkPi (g := g) hg (argsL := argsL) (rest := rest) (hlen _ hsigM) hstack hdg
  obtain ⟨v, B, X', hpost, hsteps⟩ := hK m meth c ⟨T.setVm vm₁, locs, cells, slots⟩ { g with stack := rest } (.invokevirtual index) mk (Value.ref b :: argsL).toArray X₁ hg hsize hdg hW (X₁.named hnamed) (hpre vm₁ X₁.warmed)
  exact ⟨v, vm₁, B, X₁.warmed, X', hpost, fun target h => hstep₁ _ fun acts => by rw [doInvoke_state]; exact hsteps.trans h⟩
abbrev vx_CVW (R : Room) (s : State) (args : Array Value) (own C : String) (index : Nat) (y : MethodName) (bytes : ByteArray) (maxL : Nat) (ret : Option FieldType) (hh : List (Nat × Nat × Nat × Nat)) (ws : List Cond) (rm : Room) (mc ms n : Nat) : Prop :=
  (rm.cells = mc ∧ rm.slots = ms ∧ rm.frames + 1 ≤ R.frames ∧ 8 + (maxL + 11) + rm.locals ≤ R.locals ∧ (∀ w ∈ ws, ∀ (a' : Array Value) (U : State), s.WarmedH U.vm → w.before a' U = true) ∧ Cond.codeWith y bytes maxL ret hh ∈ ws) ∧
  (Cond.codeWith y bytes maxL ret hh).before args s = true ∧ (Cond.initialized y.cls).before args s = true ∧ (y.cls ≠ "java/lang/invoke/MethodHandle" ∧ y.cls ≠ "java/lang/invoke/VarHandle") ∧
  (∀ sig, parseMethodDescriptor y.desc = some sig → n = sig.parameters.length) ∧ (Cond.methodLink own index y).before args s = true ∧ (Cond.instanceMethod y).before args s = true ∧ (Cond.selects C y y).before args s = true
theorem vx_cwVW {own C : String} {index maxL mc ms : Nat} {y : MethodName} {bytes : ByteArray} {ret : Option FieldType} {hh : List (Nat × Nat × Nat × Nat)} {Ts ws ws' : List Cond} {rm : Room} (n : Nat) (ht : ∀ w ∈ Ts, w.before args s = true) (hT : GoodIn Ts (wsV own index C y ws)) (hw : ws = Cond.codeWith y bytes maxL ret hh :: ws') (hrc : rm.cells = mc) (hrs : rm.slots = ms)
    (hd : y.cls = C ∧ y.cls ≠ "java/lang/invoke/MethodHandle" ∧ y.cls ≠ "java/lang/invoke/VarHandle" ∧ (parseMethodDescriptor y.desc).map (fun d => d.parameters.length) = some n) (hR : rm.frames + 1 ≤ R.frames ∧ 8 + (maxL + 11) + rm.locals ≤ R.locals) :
    vx_CVW R s args own C index y bytes maxL ret hh ws rm mc ms n := by
  obtain ⟨hC, hd⟩ := hd
  subst hC
  have ok : ∀ w ∈ wsV own index y.cls y ws, w.before args s = true := fun w h => ht w (hT w h).1
  have hG : GoodIn Ts ws := fun w h => hT w (by unfold wsV; exact List.mem_append_right _ h)
  have hc : Cond.codeWith y bytes maxL ret hh ∈ ws := by rw [hw]; exact List.mem_cons_self
  refine ⟨⟨hrc, hrs, hR.1, hR.2, pay_in ht hG, hc⟩, ht _ (hG _ hc).1, ok _ (by simp [wsV]), ⟨hd.1, hd.2.1⟩, fun sig h => ?_, ok _ (by simp [wsV]), ok _ (by simp [wsV]), ok _ (by simp [wsV])⟩
  have h2 := hd.2.2
  rw [h] at h2
  exact (Option.some.inj h2).symm
theorem vx_runVW {y : MethodName} {bytes cc : ByteArray} {maxL nL mc ms n index : Nat} {ret : Option FieldType} {hh : List (Nat × Nat × Nat × Nat)} {ws : List Cond} {rm : Room} {Pc : Array Value → State → Prop} {Qc : Array Value → State → Outcome → State → Prop} {free : Addr → Prop} {Ts : List Cond} {own C : String} {b : Addr} {As rest : List Value} {g : JFrame}
    (S : CallFix p m c cc nL s args Ts own) (hM : Met l y ws rm Pc Qc mc ms free) (cw : vx_CVW R s args own C index y bytes maxL ret hh ws rm mc ms n) (hp : PreV s H C b Pc As)
    (hg : g.method = m) (hn : As.length = n) (hsize : g.locals.size = nL) (hstack : g.stack = As.reverse ++ .ref b :: rest) (hW : 2 * g.monitorRoom + (rest.map fun v => v.category).sum ≤ 8) (hdg : decode cc g.pc = .ok (.invokevirtual index, 3)) (hf : cells + mc ≤ R.cells ∧ slots + ms ≤ R.slots) :
    va_Run p l e R s m args below meth c H locs cells slots mc ms g rest (Qc (Value.ref b :: As).toArray) free := by
  obtain ⟨⟨hrc, hrs, hfr, hlo, hws, hcw⟩, hcode, hini, hy, hlen, hl, hin, hse⟩ := cw
  have hK : Back l R p e below s args y 3 8 (PreOf R mc ms Pc) (PostOf Qc mc ms free) := va_backW (hh := hh) (bytes := bytes) (maxL := maxL) (ret := ret) hM hp.1 hrc hrs hfr hlo hws hcw (fun a' U hW => word_at hW (Or.inl (by first | rfl | simp [Cond.onTables, Cond.keeps, Cond.steady])) hini)
  obtain ⟨hx, hb, hml, ho, -⟩ := S
  obtain ⟨-, ⟨cellB, hcB, hoB, hclB⟩, hPc⟩ := hp
  intro T hT X
  obtain ⟨v, vm₁, ⟨U', l2, c2, s2⟩, hW₁, X', ⟨g', mk, t, L, e1, e2, hq, h1, hL, h2, h3⟩, st⟩ := vx_callVW X hx (C := C) (hh := hh) (bytes := bytes) (maxL := maxL) (ret := ret) ho hl hin hse hcode hy hK (by rw [hT]; exact hcB) hoB hclB hg (hsize.trans hml.symm) (argsL := As) (rest := rest) (fun sig h => hn.trans (hlen sig h)) hstack hW (by rw [hb]; exact hdg)
    (fun vm₁ hW₁ => ⟨hf.1, hf.2, hPc (T.setVm vm₁) hT hW₁⟩)
  dsimp only [Pt.U, Pt.locs, Pt.cells, Pt.slots] at X' e1 e2 h1 h2 h3 st
  subst h1; subst h2; subst h3
  exact ⟨v, (T.setVm vm₁).calling g' mk (Value.ref b :: As).toArray, t, U', L, hT, X', hL, e1, e2, hq, st⟩
section
variable {y : MethodName} {bytes cc : ByteArray} {maxL nL mc ms n index : Nat} {ret : Option FieldType} {ws : List Cond} {rm : Room} {Pc : Array Value → State → Prop} {Qc : Array Value → State → Outcome → State → Prop} {XC : String → State → State → Prop} {free : Addr → Prop} {Ts : List Cond} {own C : String} {b : Addr} {As rest : List Value} {g : JFrame}
theorem vx_runVX {hh : List (Nat × Nat × Nat × Nat)} (S : CallFix p m c cc nL s args Ts own) (hM : vx_Met l y ws rm Pc Qc XC mc ms free) (cw : vx_CVW R s args own C index y bytes maxL ret hh ws rm mc ms n) (hp : PreV s H C b Pc As)
    (hg : g.method = m) (hn : As.length = n) (hsize : g.locals.size = nL) (hstack : g.stack = As.reverse ++ .ref b :: rest) (hW : 2 * g.monitorRoom + (rest.map fun v => v.category).sum ≤ 8) (hdg : decode cc g.pc = .ok (.invokevirtual index, 3)) (hf : cells + mc ≤ R.cells ∧ slots + ms ≤ R.slots) :
    vx_Run p l e R s m args below meth c H locs cells slots mc ms g rest (Qc (Value.ref b :: As).toArray) XC free := by
  obtain ⟨⟨hrc, hrs, hfr, hlo, hws, hcw⟩, hcode, hini, hy, hlen, hl, hin, hse⟩ := cw
  have hK : vx_Back l R p e below s args y 3 8 (PreOf R mc ms Pc) (PostOf Qc mc ms free) (vx_Post XC mc ms free) := vx_backW (hh := hh) (bytes := bytes) (maxL := maxL) (ret := ret) hM hp.1 hrc hrs hfr hlo hws hcw (fun a' U hW => word_at hW (Or.inl (by first | rfl | simp [Cond.onTables, Cond.keeps, Cond.steady])) hini)
  obtain ⟨hx, hb, hml, ho, -⟩ := S
  obtain ⟨-, ⟨cellB, hcB, hoB, hclB⟩, hPc⟩ := hp
  intro T hT X
  rcases vx_callVX X hx (C := C) (hh := hh) (bytes := bytes) (maxL := maxL) (ret := ret) ho hl hin hse hcode hy hK (by rw [hT]; exact hcB) hoB hclB hg (hsize.trans hml.symm) (argsL := As) (rest := rest) (fun sig h => hn.trans (hlen sig h)) hstack hW (by rw [hb]; exact hdg)
    (fun vm₁ hW₁ => ⟨hf.1, hf.2, hPc (T.setVm vm₁) hT hW₁⟩) with ⟨v, vm₁, ⟨U', l2, c2, s2⟩, hW₁, X', ⟨g', mk, t, L, e1, e2, hq, h1, hL, h2, h3⟩, st⟩ | ⟨q, vm₁, ⟨U', l2, c2, s2⟩, hW₁, X', ⟨g', mk, t, L, E, ce, e1, e2, hq, hce, hcv, hcl, h1, hL, h2, h3⟩, st⟩
  · dsimp only [Pt.U, Pt.locs, Pt.cells, Pt.slots] at X' e1 e2 h1 h2 h3 st
    subst h1; subst h2; subst h3
    exact Or.inl ⟨v, (T.setVm vm₁).calling g' mk (Value.ref b :: As).toArray, t, U', L, hT, X', hL, e1, e2, hq, st⟩
  · dsimp only [Pt.U, Pt.locs, Pt.cells, Pt.slots] at X' e1 e2 h1 h2 h3 st hcl
    subst h1; subst h2; subst h3
    exact Or.inr ⟨q, (T.setVm vm₁).calling g' mk (Value.ref b :: As).toArray, t, U', L, E, ce, hT, X', hL, e1, e2, hq, hce, hcv, vx_cls hW₁ hcl, st⟩
theorem vx_runSX {hh : List (Nat × Nat × Nat × Nat)} (S : CallFix p m c cc nL s args Ts own) (hM : vx_Met l y ws rm Pc Qc XC mc ms free) (cw : vx_CSW R s args own index y bytes maxL ret hh ws rm mc ms n) (hp : PreS s H Pc As)
    (hg : g.method = m) (hn : As.length = n) (hsize : g.locals.size = nL) (hstack : g.stack = As.reverse ++ rest) (hW : 2 * g.monitorRoom + (rest.map fun v => v.category).sum ≤ 8) (hdg : decode cc g.pc = .ok (.invokestatic index, 3)) (hf : cells + mc ≤ R.cells ∧ slots + ms ≤ R.slots) :
    vx_Run p l e R s m args below meth c H locs cells slots mc ms g rest (Qc As.toArray) XC free := by
  obtain ⟨⟨hrc, hrs, hfr, hlo, hws, hcw⟩, hcode, hini, hy, hlen, hl, hstt⟩ := cw
  have hK : vx_Back l R p e below s args y 3 8 (PreOf R mc ms Pc) (PostOf Qc mc ms free) (vx_Post XC mc ms free) := vx_backW (hh := hh) (bytes := bytes) (maxL := maxL) (ret := ret) hM hp.1 hrc hrs hfr hlo hws hcw (fun a' U hW => word_at hW (Or.inl (by first | rfl | simp [Cond.onTables, Cond.keeps, Cond.steady])) hini)
  obtain ⟨hx, hb, hml, ho, -⟩ := S
  intro T hT X
  rcases vx_callSX X hx (hh := hh) (bytes := bytes) (maxL := maxL) (ret := ret) ho hl hstt hini hcode hy hK hg (hsize.trans hml.symm) (argsL := As) (rest := rest) (fun sig h => hn.trans (hlen sig h)) hstack hW (by rw [hb]; exact hdg)
    (fun vm₁ hW₁ => ⟨hf.1, hf.2, hp.2 (T.setVm vm₁) hT hW₁⟩) with ⟨v, vm₁, ⟨U', l2, c2, s2⟩, hW₁, X', ⟨g', mk, t, L, e1, e2, hq, h1, hL, h2, h3⟩, st⟩ | ⟨q, vm₁, ⟨U', l2, c2, s2⟩, hW₁, X', ⟨g', mk, t, L, E, ce, e1, e2, hq, hce, hcv, hcl, h1, hL, h2, h3⟩, st⟩
  · dsimp only [Pt.U, Pt.locs, Pt.cells, Pt.slots] at X' e1 e2 h1 h2 h3 st
    subst h1; subst h2; subst h3
    exact Or.inl ⟨v, (T.setVm vm₁).calling g' mk As.toArray, t, U', L, hT, X', hL, e1, e2, hq, st⟩
  · dsimp only [Pt.U, Pt.locs, Pt.cells, Pt.slots] at X' e1 e2 h1 h2 h3 st hcl
    subst h1; subst h2; subst h3
    exact Or.inr ⟨q, (T.setVm vm₁).calling g' mk As.toArray, t, U', L, E, ce, hT, X', hL, e1, e2, hq, hce, hcv, vx_cls hW₁ hcl, st⟩
end
end VXH
theorem vx_ofWH {l : Launch} {y : MethodName} {ws ws' : List Cond} {rm : Room} {Pc : Array Value → State → Prop} {Qc : Array Value → State → Outcome → State → Prop} {XC : String → State → State → Prop} {mc ms : Nat} {free : Addr → Prop} {cc : ByteArray} {maxL : Nat} {ret : Option FieldType} {hh : List (Nat × Nat × Nat × Nat)}
    (hy : plainName y.cls = true) (hw : ws = Cond.codeWith y cc maxL ret hh :: ws')
    (body : ∀ p e s m args below meth c s₁, BodyLoose p l y (headSpec ws rm) cc maxL ret e s m args below meth c s₁ → c.maxLocals = maxL → Pc args s →
      W p l e (headSpec ws rm).room s m args below meth c s.heap [] 0 0 (vx_MQ below Qc XC args s mc ms free) (entryFrame m args maxL)) : vx_Met l y ws rm Pc Qc XC mc ms free := by
  refine MetFree.of_bodyS (code := cc) (maxLocals := maxL) (ret := ret) hy ?_ ?_
  · intro args s m h hn
    obtain ⟨m9, meth, c, hn9, h1, h2, h3, h4, -, h5, h6, -⟩ := Cond.codeWith_spec (atoms_spec (ws := ws) h _ (by rw [hw]; exact List.mem_cons_self))
    cases hn.symm.trans hn9
    exact ⟨meth, c, h1, h2, h3, h4, h5, h6⟩
  · intro p e s m args below meth c s₁ B hml hP _
    have hh0 : s₁.heap = s.heap := by rw [B.state]; rfl
    obtain ⟨t, a1, o, b1, b2, b3⟩ := body p e s m args below meth c s₁ B hml hP s₁ hh0 (Stand.of_body B)
    exact ⟨t, o, a1, b1, b2, b3⟩
/-! ===== END ===== -/

/-! ===== BEGIN what the machine throws by itself, no traces kept ===== -/
section VXM
set_option maxHeartbeats 1000000 in
/-- the machine throws cls with the message text, no traces kept: from its note over the frame g to 'throwing' over the same frame (follows the proofs of Stand.vmThrowsMessage, Shelf/KitTracedVmS.lean, and Stand.throwsMessageColdBareV, StandMessageColdV.lean, without the step out of the frame) -/
theorem vx_vmAt {p : Program} {l : Launch} {e : Env} {R : Room} {s : State} {m₀ : MethodId} {args : Array Value} {below : List Frame} {meth : Method} {c : Code} {W : State} {locs : List Loc} {cells slots : Nat}
    (X : Stand p l e R s m₀ args below meth c W locs cells slots) (hexec : p.tables.exec = Jvm.exec) (htr : e.platform.stackTraces = false) {cls : String} {names : List String} {text : String}
    (hcls : Bundle.fit cls = true) (hnames : ∀ n ∈ names, Bundle.fit n = true) (hsoe : (cls == "java/lang/StackOverflowError") = false) (hoom : (cls == "java/lang/OutOfMemoryError") = false)
    (h : ∀ a ∈ Bundle.messageArmAtoms cls names, a.before args s = true)
    (hlocs : ∀ x ∈ locs, ∀ cell, s.heap[x.base]? = some cell → cell.vm.isStatics = false)
    (htext : (text == notModelled) = false) (hlimit : ¬ (stringBytes (stringToUtf16 text)).size > e.platform.arrayLengthLimit) (hheap : ¬ (stringBytes (stringToUtf16 text)).size * componentBytes .byte > e.platform.maxHeapBytes)
    {g : JFrame} (hg : g.method = m₀) (hsize : g.locals.size = c.maxLocals)
    (hRframes : names.length + 4 < R.frames) (hRlocals : 2 * g.monitorRoom + (g.stack.map fun v => v.category).sum + 10240 ≤ R.locals) (hshort : 13 * names.length + 55 ≤ 10240)
    (hRcells : cells + 3 ≤ R.cells) (hRslots : slots + ((stringBytes (stringToUtf16 text)).size + 4 + 6) ≤ R.slots) (hlocks : meth.locks = false) :
    ∃ (S : State) (q : Addr) (ce : Cell), (∀ target, Steps p.tables e below ((S.setTop g).pushFrame (.throwing q)) target → Steps p.tables e below ((W.setTop g).pushFrame (.throwNew cls (some text) none)) target) ∧
      Stand p l e R s m₀ args below meth c S locs (cells + 3) (slots + ((stringBytes (stringToUtf16 text)).size + 4 + 6)) ∧ S.heap[q]? = some ce ∧ s.vm.findClass cls = some ce.cls ∧ ce.vm = .none := by
  have howns : e.platform.frameOwnsMonitors = true := by rw [X.admits.platform]
  have hfin : e.platform.finalization = false := by rw [X.admits.platform]
  have hpl : e.platform.magicAccessors = ({} : Platform).magicAccessors := by rw [X.admits.platform]
  have a : ∀ x, x ∈ Bundle.messageArmAtoms cls names → x.holds args s none s [] = true := fun x hx => h x hx
  obtain ⟨T, Z0, L, -, Y⟩ := ThrowableC.of_atoms (args := args) howns hfin hpl (fun x hx => h x (by simp [Bundle.messageArmAtoms, hx]))
  obtain ⟨Z, M, LZ, LM, hnZ⟩ := Init0T.ofS_atoms (args := args) hpl L Y (fun x hx => h x (by simp [Bundle.messageArmAtoms, hx]))
  obtain ⟨P1, Ps, hlen, L1, hL, hP1m, hlink1, hlink⟩ := Bundle.chainS (args := args) hpl hnZ names cls hcls hnames (fun x hx => h x (by simp [Bundle.messageArmAtoms, hx]))
  obtain ⟨Zs, LZs, hn4, hfitv, hfitc⟩ := StringT.of_atoms (args := args) (fun x hx => h x (by simp [Bundle.messageArmAtoms, hx]))
  have hfound : s.vm.findClass cls = some P1.m.cls := findClass_of_methodNamed hP1m
  obtain ⟨c1, kX, hc1, hk, hord, -, -, hn6⟩ := Cond.instantiable_spec (a (.instantiable cls 6) (by simp [Bundle.messageArmAtoms]))
  cases Option.some.inj (hc1.symm.trans hfound)
  have hinit := Cond.initialized_spec hfound hk (a (.initialized cls) (by simp [Bundle.messageArmAtoms]))
  have hctor : kX.findMethod "<init>" "(Ljava/lang/String;)V" = some P1.m.idx := findMethod_of_methodNamed hP1m hk
  have hsel0 : selectMethod e.platform s.vm P1.m.cls T.fill0 = .method T.fill0 := by
    obtain ⟨c2, r2, m2, q1, q2, q3, q4, -⟩ := Cond.selects_spec (a (.selects cls Bundle.tFill0 Bundle.tFill0) (by simp [Bundle.messageArmAtoms]))
    cases Option.some.inj (q1.symm.trans hfound)
    cases Option.some.inj (q2.symm.trans (State.methodFound?_of_named Y.fill0 (by decide)))
    cases Option.some.inj (q3.symm.trans Y.fill0)
    rw [Launch.admits_selectMethod X.admits]; exact q4
  have hselF : selectMethod e.platform s.vm P1.m.cls T.fill = .method T.fill := by
    obtain ⟨c2, r2, m2, q1, q2, q3, q4, -⟩ := Cond.selects_spec (a (.selects cls Bundle.tFill Bundle.tFill) (by simp [Bundle.messageArmAtoms]))
    cases Option.some.inj (q1.symm.trans hfound)
    cases Option.some.inj (q2.symm.trans (State.methodFound?_of_named Y.fill (by decide)))
    cases Option.some.inj (q3.symm.trans Y.fill)
    rw [Launch.admits_selectMethod X.admits]; exact q4
  obtain ⟨cellS0, hcS0, hiss⟩ := Y.statics
  obtain ⟨u0, hu0⟩ := Cond.staticRefV Y.unassigned L.unassignedStatic L.statics hcS0 hiss (a (.isRef (.static Bundle.tN "UNASSIGNED_STACK" Bundle.steD)) (by simp [Bundle.messageArmAtoms]))
  obtain ⟨sen, hsen⟩ := Cond.staticRefV Y.sentinel L.sentinelStatic L.statics hcS0 hiss (a (.isRef (.static Bundle.tN "SUPPRESSED_SENTINEL" Bundle.listD)) (by simp [Bundle.messageArmAtoms]))
  obtain ⟨ci198, i198, fB, hk198, hg198, ha198, hsB, -, hnB, htB, hffB⟩ := Cond.ownField (t := .object "java/lang/Object") Y.found L.cls (by decide +kernel) (a (.fieldLink Bundle.tN 198 Bundle.tN "backtrace" "Ljava/lang/Object;") (by simp [Bundle.messageArmAtoms])) (a (.lays Bundle.tN Bundle.tN "backtrace" "Ljava/lang/Object;") (by simp [Bundle.messageArmAtoms])) e.platform hpl
  obtain ⟨cellS, hcS', heS, -, hkeep⟩ := X.same.2.2.2.2.2 T.aS cellS0 hcS0
  have hcellS : W.heap[T.aS]? = some cellS := hcS'
  have hout' : ∀ i, (⟨T.aS, i⟩ : Loc) ∉ locs := fun i hmem => by
    have := hlocs _ hmem cellS0 hcS0
    rw [hiss] at this; cases this
  have hknownS : cellS.vm ≠ .unknown := by
    rw [heS]; intro hu
    rw [show cellS0.vm = .unknown from hu] at hiss
    cases hiss
  have hvU : cellS.slots[T.fUnassigned.slot]? = some u0.v := by rw [hkeep _ (hout' _)]; exact hu0
  have hvSen : cellS.slots[T.fSentinel.slot]? = some sen.v := by rw [hkeep _ (hout' _)]; exact hsen
  obtain ⟨iM, hffM⟩ := Y.msg
  obtain ⟨tyC, dC, hdC, hdnC⟩ := Cond.laysAt hfound hk Y.cause (a (.lays cls Bundle.tN "cause" "Ljava/lang/Throwable;") (by simp [Bundle.messageArmAtoms]))
  obtain ⟨tyS, dS, hdS, hdnS⟩ := Cond.laysAt hfound hk Y.stack (a (.lays cls Bundle.tN "stackTrace" Bundle.steD) (by simp [Bundle.messageArmAtoms]))
  obtain ⟨tyP, dP, hdP, hdnP⟩ := Cond.laysAt hfound hk Y.supp (a (.lays cls Bundle.tN "suppressedExceptions" Bundle.listD) (by simp [Bundle.messageArmAtoms]))
  obtain ⟨tyM, dM, hdM, hdnM⟩ := Cond.laysAt hfound hk hffM (a (.lays cls Bundle.tN "detailMessage" "Ljava/lang/String;") (by simp [Bundle.messageArmAtoms]))
  obtain ⟨tyB, dB, hdB, hdnB⟩ := Cond.laysAt hfound hk hffB (a (.lays cls Bundle.tN "backtrace" "Ljava/lang/Object;") (by simp [Bundle.messageArmAtoms]))
  have bC := Cond.laysApart hdB hdC hdnB hdnC (by rw [hnB, Y.causeName]; decide)
  have bS := Cond.laysApart hdB hdS hdnB hdnS (by rw [hnB, Y.stackName]; decide)
  have bP := Cond.laysApart hdB hdP hdnB hdnP (by rw [hnB, Y.suppName]; decide)
  have hbk : ((preparedCellV T.toThrowableT (freshCell P1.m.cls kX) (W.heap.size + 2) u0 sen).withEntry W.cur).slots[fB.slot]? = some .null := by
    have := fresh_default (c := P1.m.cls) tyB
    rw [htB] at this
    simpa [preparedCellV, Cell.setSlot, Cell.withEntry, Array.getElem?_setIfInBounds, bC, bS, bP, bC.symm, bS.symm, bP.symm, defaultValue] using this
  have tkC := Takes.of_laid (v := .ref (W.heap.size + 2)) hk hord tyC (by rw [Y.causeType]; rfl)
  have tkS := Takes.of_laid (v := u0.v) hk hord tyS (by rw [Y.stackType]; exact fits_refV_array _ u0)
  have tkP := Takes.of_laid (v := sen.v) hk hord tyP (by rw [Y.suppType]; exact fits_refV_object _ sen)
  have tkM := Takes.of_laid (v := .ref (W.heap.size + 1)) hk hord tyM (by rw [Y.msgType]; rfl)
  have hskip : SkipFacts T e.platform s (fun u => u) u0 ((preparedCellV T.toThrowableT (freshCell P1.m.cls kX) (W.heap.size + 2) u0 sen).withEntry W.cur) := ⟨{ ci198 := ci198, i198 := i198, fBack := fB }, ⟨hk198, hg198, ha198, hsB⟩, hbk, fun _ _ => rfl⟩
  have h0 : At W g.method c below := by rw [hg]; exact X.here
  obtain ⟨hbeyond, hfreeW⟩ := X.vmMayThrow hsize (.throwNew cls (some text) none) (fun f hf => by cases hf) rfl hRlocals
  have hfr' : W.frames.length + Ps.length + 4 < (e.platform.stackLimits W.me).1 := by have := X.framesAbove hRframes; omega
  have hwd' : (stackUse (.java g :: W.frames.tail)).2 + 13 * Ps.length + 55 ≤ (e.platform.stackLimits W.me).2 := by have := X.stackAbove hsize (K := 13 * Ps.length + 55) (by omega); omega
  have hslots : W.slotsUsed + (stringBytes (stringToUtf16 text)).size + Zs.kS.instanceTypes.size + kX.instanceTypes.size ≤ e.platform.maxSlots := by
    have := X.slotsAbove hRslots
    rw [hn4, hn6]
    omega
  obtain ⟨vm', hW', st⟩ := Steps.vmThrowsMessageColdByV p (s₀ := s) (S := W) (g := g) h0 hexec T L Z LZ M LM X.warmed (t := W.cur) rfl Zs LZs P1 L1 Ps hL hlink1 hlink hsoe hoom hfound hk hinit hord hctor
    (Launch.admits_hotImplicitExceptions X.admits) hbeyond hfreeW htext hlimit hheap (X.cellsAbove hRcells) hslots (hfitv _) (hfitc _)
    (Nn := fun u => u) heapOnly_id (fun _ _ => rfl) (fun _ => rfl) (fun u x y => setCell_twice _ _ _ _) (fun _ => Nat.le_refl _) (cN := ((preparedCellV T.toThrowableT (freshCell P1.m.cls kX) (W.heap.size + 2) u0 sen).withEntry W.cur))
    hsel0 hcellS hknownS hvU tkS (fun _ hu => hu) (fun _ hu => hu) rfl rfl rfl (by simp [preparedCellV, Cell.setSlot, Cell.withEntry]) hskip (fun _ _ hA hW _ hroom _ hrest => L.nativeOff p htr hA hW hroom hrest) hselF hvSen tkC tkP tkM Y.objLocals rfl hfr' hwd'
  rw [plainBareV_eq T.toThrowableT (W.heap.size + 2) u0 sen (.ref (W.heap.size + 1)) W.cur rfl rfl] at st
  obtain ⟨-, -, w3, w4, -, -, -⟩ := withThrown_facts e.platform W Zs text P1.m.cls kX
  have X3 := ((X.pushed (bytesOf Zs.cB (stringToUtf16 text))).pushed (stringAt Zs.cS Zs.kS Zs.fv Zs.fc (stringToUtf16 text) W.heap.size)).pushed (freshCell P1.m.cls kX)
  rw [← withString_eq] at X3
  have X4 := X3.noted hW'
  have ha : (W.heap.size + 2) < ((withThrown W Zs text P1.m.cls kX).setVm vm').heap.size := by show _ < (withThrown W Zs text P1.m.cls kX).heap.size; rw [w3]; omega
  have hcell : ((withThrown W Zs text P1.m.cls kX).setVm vm').heap[(W.heap.size + 2)]? = some (freshCell P1.m.cls kX) := w4
  have X5 := ((((X4.stored hcell T.fCause.slot (.ref (W.heap.size + 2))).storedAgain ha T.fStack.slot u0.v).storedAgain ha T.fSupp.slot sen.v).storedAgain ha T.fStack.slot u0.v).storedAgain ha T.fMsg.slot (.ref (W.heap.size + 1))
  obtain ⟨g₁, hfrM⟩ := X5.frames_eq
  have hU : ((((withThrown W Zs text P1.m.cls kX).setVm vm').setCell (W.heap.size + 2) (plainBareV T.toThrowableT (freshCell P1.m.cls kX) (W.heap.size + 2) u0 sen (.ref (W.heap.size + 1)))).setTop g).pushFrame (.throwing (W.heap.size + 2)) = (((withThrown W Zs text P1.m.cls kX).setVm vm').setCell (W.heap.size + 2) (plainBareV T.toThrowableT (freshCell P1.m.cls kX) (W.heap.size + 2) u0 sen (.ref (W.heap.size + 1)))).setFrames (.throwing (W.heap.size + 2) :: .java g :: below) := by
    rw [State.pushFrame, State.frames_setTop _ hfrM, State.setTop_of_frames _ hfrM, State.setFrames_setFrames]
  have b1 : (bytesOf Zs.cB (stringToUtf16 text)).slots.size = (stringBytes (stringToUtf16 text)).size := by
    rw [(Cell.writeAll_facts _ _).2.2]; simp [bytes0]
  have b2 : (stringAt Zs.cS Zs.kS Zs.fv Zs.fc (stringToUtf16 text) W.heap.size).slots.size = 4 := by simp [string0, Cell.setSlot, hn4]
  have b3 : (freshCell P1.m.cls kX).slots.size = 6 := by simp [hn6]
  rw [b1, b2, b3] at X5
  have e9 : slots + (stringBytes (stringToUtf16 text)).size + 4 + 6 = slots + ((stringBytes (stringToUtf16 text)).size + 4 + 6) := by omega
  rw [e9] at X5
  simp only [List.append_assoc, List.cons_append, List.nil_append] at X5
  refine ⟨((withThrown W Zs text P1.m.cls kX).setVm vm').setCell (W.heap.size + 2) (plainBareV T.toThrowableT (freshCell P1.m.cls kX) (W.heap.size + 2) u0 sen (.ref (W.heap.size + 1))), W.heap.size + 2, _, fun target ht => st _ (by rw [X.tail, ← hU]; exact ht),
    X5.forget (fun y hy => ?_), heapAt_setCell_self _ ha, hfound, rfl⟩
  simp only [List.mem_cons, List.not_mem_nil, or_false] at hy
  have hge : s.heap.size ≤ W.heap.size := X.same.2.1
  rcases hy with rfl | rfl | rfl | rfl | rfl <;> exact Nat.le_trans hge (Nat.le_add_right _ 2)
set_option maxHeartbeats 1000000 in
/-- the machine throws NullPointerException, no traces kept: from its note over the frame g to 'throwing' over the same frame (follows the proof of Stand.vmThrowsNpe, Shelf42/KT2.lean; throwsNpeColdBareVAt, Shelf42/NT91.lean, called) -/
theorem vx_npeAt {p : Program} {l : Launch} {e : Env} {R : Room} {s : State} {m₀ : MethodId} {args : Array Value} {below : List Frame} {meth : Method} {c : Code} {W : State} {locs : List Loc} {cells slots : Nat}
    (X : Stand p l e R s m₀ args below meth c W locs cells slots) (hexec : p.tables.exec = Jvm.exec) (htr : e.platform.stackTraces = false) {n : Nat}
    (h : ∀ a ∈ Bundle.npeArmAtoms n, a.before args s = true)
    (hlocs : ∀ x ∈ locs, ∀ cell, s.heap[x.base]? = some cell → cell.vm.isStatics = false)
    {g : JFrame} (hg : g.method = m₀) (hsize : g.locals.size = c.maxLocals)
    (hRframes : 7 < R.frames) (hRlocals : 2 * g.monitorRoom + (g.stack.map fun v => v.category).sum + 10240 ≤ R.locals)
    (hRcells : cells + 1 ≤ R.cells) (hRslots : slots + n ≤ R.slots) (hlocks : meth.locks = false) :
    ∃ (S : State) (q : Addr) (ce : Cell), (∀ target, Steps p.tables e below ((S.setTop g).pushFrame (.throwing q)) target → Steps p.tables e below ((W.setTop g).pushFrame (.throwNew "java/lang/NullPointerException" none none)) target) ∧
      Stand p l e R s m₀ args below meth c S locs (cells + 1) (slots + n) ∧ S.heap[q]? = some ce ∧ s.vm.findClass "java/lang/NullPointerException" = some ce.cls ∧ ce.vm = .none := by
  have howns : e.platform.frameOwnsMonitors = true := by rw [X.admits.platform]
  have hfin : e.platform.finalization = false := by rw [X.admits.platform]
  have hpl : e.platform.magicAccessors = ({} : Platform).magicAccessors := by rw [X.admits.platform]
  have hpl2 : e.platform.arrayCloneIsPublic = true := by rw [X.admits.platform]
  have a' : ∀ x, x ∈ Bundle.npeArmAtoms n → x.holds args s none s [] = true := fun x hx => h x hx
  obtain ⟨T, Z, L, LZ, Y⟩ := ThrowableC.of_atoms (args := args) howns hfin hpl (fun x hx => h x (by simp [Bundle.npeArmAtoms, hx]))
  obtain ⟨N, LN, hcN, hnNF, hordN, hffS⟩ := NpeC.of_atoms (args := args) hpl hpl2 L Y (fun x hx => h x (by simp [Bundle.npeArmAtoms, hx]))
  obtain ⟨P1, L1, hP1m, hP1s⟩ := PassC.of_atoms (args := args) (s := s) hpl (X := Bundle.nN) (Y := Bundle.rN) (by decide) (by decide) LibCode.NullPointerException.Init0.at_0 LibCode.NullPointerException.Init0.at_1 LibCode.NullPointerException.Init0.at_4 (fun x hx => h x (by simp [Bundle.npeArmAtoms, hx]))
  obtain ⟨PR, LR, hPRm, hPRs⟩ := PassC.of_atoms (args := args) (s := s) hpl (X := Bundle.rN) (Y := Bundle.eN) (by decide) (by decide) LibCode.RuntimeException.Init0.at_0 LibCode.RuntimeException.Init0.at_1 LibCode.RuntimeException.Init0.at_4 (fun x hx => h x (by simp [Bundle.npeArmAtoms, hx]))
  obtain ⟨PE, LEx, hPEm, hPEs⟩ := PassC.of_atoms (args := args) (s := s) hpl (X := Bundle.eN) (Y := Bundle.tN) (by decide) (by decide) LibCode.Exception.Init0.at_0 LibCode.Exception.Init0.at_1 LibCode.Exception.Init0.at_4 (fun x hx => h x (by simp [Bundle.npeArmAtoms, hx]))
  have hfound : s.vm.findClass Bundle.nN = some P1.m.cls := findClass_of_methodNamed hP1m
  have ecls : N.cN = P1.m.cls := Option.some.inj (hcN.symm.trans hfound)
  have hk : s.vm.classes[P1.m.cls]? = some N.kN := by rw [← ecls]; exact LN.cls
  have hinit := Cond.initialized_spec hfound hk (a' (.initialized Bundle.nN) (by simp [Bundle.npeArmAtoms]))
  have hctor : N.kN.findMethod "<init>" "()V" = some P1.m.idx := findMethod_of_methodNamed hP1m hk
  obtain ⟨c1, k1, hc1, hk1, -, -, -, hn⟩ := Cond.instantiable_spec (a' (.instantiable Bundle.nN n) (by simp [Bundle.npeArmAtoms]))
  cases Option.some.inj (hc1.symm.trans hfound)
  cases Option.some.inj (hk1.symm.trans hk)
  have hfsz : (freshCell P1.m.cls N.kN).slots.size = n := by simp [hn]
  have hlink1 : P1.sup = PR.m := Option.some.inj (hP1s.symm.trans hPRm)
  have hlinkR : PR.sup = PE.m := Option.some.inj (hPRs.symm.trans hPEm)
  have hlinkE : PE.sup = Z.m T.toThrowableT := Option.some.inj (hPEs.symm.trans Y.init0)
  have hLs : ∀ P, P ∈ [PR, PE] → P.Links0 e.platform s := fun P hP => by
    simp only [List.mem_cons, List.not_mem_nil, or_false] at hP
    rcases hP with rfl | rfl
    · exact LR
    · exact LEx
  have hsel0 : selectMethod e.platform s.vm P1.m.cls T.fill0 = .method T.fill0 := by
    obtain ⟨c2, r2, m2, q1, q2, q3, q4, -⟩ := Cond.selects_spec (a' (.selects Bundle.nN Bundle.tFill0 Bundle.tFill0) (by simp [Bundle.npeArmAtoms]))
    cases Option.some.inj (q1.symm.trans hfound)
    cases Option.some.inj (q2.symm.trans (State.methodFound?_of_named Y.fill0 (by decide)))
    cases Option.some.inj (q3.symm.trans Y.fill0)
    rw [Launch.admits_selectMethod X.admits]; exact q4
  have hselF : selectMethod e.platform s.vm P1.m.cls T.fill = .method N.fill := by
    obtain ⟨c2, r2, m2, q1, q2, q3, q4, -⟩ := Cond.selects_spec (a' (.selects Bundle.nN Bundle.tFill Bundle.nFill) (by simp [Bundle.npeArmAtoms]))
    cases Option.some.inj (q1.symm.trans hfound)
    cases Option.some.inj (q2.symm.trans (State.methodFound?_of_named Y.fill (by decide)))
    cases Option.some.inj (q3.symm.trans hnNF)
    rw [Launch.admits_selectMethod X.admits]; exact q4
  obtain ⟨cellS0, hcS0, hiss⟩ := Y.statics
  obtain ⟨u0, hu0⟩ := Cond.staticRefV Y.unassigned L.unassignedStatic L.statics hcS0 hiss (a' (.isRef (.static Bundle.tN "UNASSIGNED_STACK" Bundle.steD)) (by simp [Bundle.npeArmAtoms]))
  obtain ⟨sen, hsen⟩ := Cond.staticRefV Y.sentinel L.sentinelStatic L.statics hcS0 hiss (a' (.isRef (.static Bundle.tN "SUPPRESSED_SENTINEL" Bundle.listD)) (by simp [Bundle.npeArmAtoms]))
  obtain ⟨ci198, i198, fB, hk198, hg198, ha198, hsB, -, hnB, htB, hffB⟩ := Cond.ownField (t := .object "java/lang/Object") Y.found L.cls (by decide +kernel) (a' (.fieldLink Bundle.tN 198 Bundle.tN "backtrace" Bundle.objD) (by simp [Bundle.npeArmAtoms])) (a' (.lays Bundle.tN Bundle.tN "backtrace" Bundle.objD) (by simp [Bundle.npeArmAtoms])) e.platform hpl
  obtain ⟨cellS, hcS', heS, -, hkeep⟩ := X.same.2.2.2.2.2 T.aS cellS0 hcS0
  have hcellS : W.heap[T.aS]? = some cellS := hcS'
  have hout' : ∀ i, (⟨T.aS, i⟩ : Loc) ∉ locs := fun i hmem => by
    have := hlocs _ hmem cellS0 hcS0
    rw [hiss] at this; cases this
  have hknownS : cellS.vm ≠ .unknown := by
    rw [heS]; intro hu
    rw [show cellS0.vm = .unknown from hu] at hiss
    cases hiss
  have hvU : cellS.slots[T.fUnassigned.slot]? = some u0.v := by rw [hkeep _ (hout' _)]; exact hu0
  have hvSen : cellS.slots[T.fSentinel.slot]? = some sen.v := by rw [hkeep _ (hout' _)]; exact hsen
  obtain ⟨tyC, dC, hdC, hdnC⟩ := Cond.laysAt hfound hk Y.cause (a' (.lays Bundle.nN Bundle.tN "cause" "Ljava/lang/Throwable;") (by simp [Bundle.npeArmAtoms]))
  obtain ⟨tyS, dS, hdS, hdnS⟩ := Cond.laysAt hfound hk Y.stack (a' (.lays Bundle.nN Bundle.tN "stackTrace" Bundle.steD) (by simp [Bundle.npeArmAtoms]))
  obtain ⟨tyP, dP, hdP, hdnP⟩ := Cond.laysAt hfound hk Y.supp (a' (.lays Bundle.nN Bundle.tN "suppressedExceptions" Bundle.listD) (by simp [Bundle.npeArmAtoms]))
  obtain ⟨tyX, dX, hdX, hdnX⟩ := Cond.laysAt hfound hk hffS (a' (.lays Bundle.nN Bundle.nN "extendedMessageState" "I") (by simp [Bundle.npeArmAtoms, Bundle.npeAtoms]))
  obtain ⟨hnX, htX⟩ := State.fieldFound?_type hffS (t := .int) (by decide +kernel)
  have xC := Cond.laysApart hdC hdX hdnC hdnX (by rw [hnX, Y.causeName]; decide)
  have xS := Cond.laysApart hdS hdX hdnS hdnX (by rw [hnX, Y.stackName]; decide)
  have xP := Cond.laysApart hdP hdX hdnP hdnX (by rw [hnX, Y.suppName]; decide)
  have hv0 : (freshCell P1.m.cls N.kN).slots[N.fState.slot]? = some (.int 0) := by
    have := fresh_default (c := P1.m.cls) tyX
    rw [htX] at this; exact this
  obtain ⟨tyB, dB, hdB, hdnB⟩ := Cond.laysAt hfound hk hffB (a' (.lays Bundle.nN Bundle.tN "backtrace" Bundle.objD) (by simp [Bundle.npeArmAtoms]))
  have bC := Cond.laysApart hdB hdC hdnB hdnC (by rw [hnB, Y.causeName]; decide)
  have bS := Cond.laysApart hdB hdS hdnB hdnS (by rw [hnB, Y.stackName]; decide)
  have bP := Cond.laysApart hdB hdP hdnB hdnP (by rw [hnB, Y.suppName]; decide)
  have bX := Cond.laysApart hdB hdX hdnB hdnX (by rw [hnB, hnX]; decide)
  have hbk : ((npeCell N.toNpeT (preparedCellV T.toThrowableT (freshCell P1.m.cls N.kN) W.heap.size u0 sen) W.cur).withEntry W.cur).slots[fB.slot]? = some .null := by
    have := fresh_default (c := P1.m.cls) tyB
    rw [htB] at this
    simpa [npeCell, preparedCellV, Cell.setSlot, Cell.withEntry, Array.getElem?_setIfInBounds, bC, bS, bP, bX, bC.symm, bS.symm, bP.symm, bX.symm, defaultValue] using this
  have tkC := Takes.of_laid (v := .ref W.heap.size) hk hordN tyC (by rw [Y.causeType]; rfl)
  have tkS := Takes.of_laid (v := u0.v) hk hordN tyS (by rw [Y.stackType]; exact fits_refV_array _ u0)
  have tkP := Takes.of_laid (v := sen.v) hk hordN tyP (by rw [Y.suppType]; exact fits_refV_object _ sen)
  have tkX := Takes.of_laid (v := .int 1) hk hordN tyX (by rw [htX]; rfl)
  have hskip : SkipFacts T e.platform s (fun u => u) u0 ((npeCell N.toNpeT (preparedCellV T.toThrowableT (freshCell P1.m.cls N.kN) W.heap.size u0 sen) W.cur).withEntry W.cur) := ⟨{ ci198 := ci198, i198 := i198, fBack := fB }, ⟨hk198, hg198, ha198, hsB⟩, hbk, fun _ _ => rfl⟩
  obtain ⟨vm', X3, st, -⟩ := X.throwsNpeColdBareVAt hexec hg hsize T L Z LZ N LN P1 L1 [PR, PE] hLs hlink1 ⟨hlinkR, hlinkE, trivial⟩ hfound hk hinit hordN hctor hsel0 hselF hcellS hknownS hvU hvSen
    hv0 xC xS xP tkC tkS tkP tkX Y.objLocals hskip (fun _ _ hA hW _ hroom _ hrest => L.nativeOff p htr hA hW hroom hrest) (by simpa using hRframes) hRlocals (by simp) hRcells (by rw [hn]; exact hRslots)
  have hlt : W.heap.size < ((W.pushCell (freshCell P1.m.cls N.kN)).setVm vm').heap.size := by
    show W.heap.size < (W.pushCell (freshCell P1.m.cls N.kN)).heap.size
    rw [State.heap_size_pushCell]; omega
  rw [hfsz] at X3
  obtain ⟨g₁, hfrM⟩ := X3.frames_eq
  have hU : ((((W.pushCell (freshCell P1.m.cls N.kN)).setVm vm').setCell W.heap.size (npeBareV T.toThrowableT N.toNpeT (freshCell P1.m.cls N.kN) W.heap.size u0 sen)).setTop g).pushFrame (.throwing W.heap.size) = (((W.pushCell (freshCell P1.m.cls N.kN)).setVm vm').setCell W.heap.size (npeBareV T.toThrowableT N.toNpeT (freshCell P1.m.cls N.kN) W.heap.size u0 sen)).setFrames (.throwing W.heap.size :: .java g :: below) := by
    rw [State.pushFrame, State.frames_setTop _ hfrM, State.setTop_of_frames _ hfrM, State.setFrames_setFrames]
  refine ⟨_, W.heap.size, _, fun target ht => st.trans (by rw [← hU]; exact ht), X3.forget (fun y hy => ?_), heapAt_setCell_self _ hlt, hfound, rfl⟩
  simp only [List.mem_cons, List.not_mem_nil, or_false] at hy
  have hge : s.heap.size ≤ W.heap.size := X.same.2.1
  rcases hy with rfl | rfl | rfl | rfl | rfl <;> exact hge
/-- the words of a machine's NullPointerException, but the four that speak of the heap -/
def vx_atN (n : Nat) : List Cond := (Bundle.npeArmAtoms n).filter vx_no
/-- the words of a machine's throw with a message, but the four that speak of the heap -/
def vx_atM (X : String) (names : List String) : List Cond := (Bundle.messageArmAtoms X names).filter vx_no
section
variable {p : Program} {l : Launch} {e : Env} {R : Room} {s : State} {m : MethodId} {args : Array Value} {below : List Frame} {meth : Method} {c : Code} {H : Heap} {locs : List Loc} {cells slots : Nat}
/-- a frame seen from a rebased start, seen from the first start again -/
theorem vx_back9 {T S : State} {R' : Room} {k n : Nat} (X : Stand p l e R s m args below meth c T locs cells slots) (Y : Stand p l e R' ((T.setVm s.vm).setFrames (.invoking m args :: below)) m args below meth c T [] 0 0) (Z : Stand p l e R' ((T.setVm s.vm).setFrames (.invoking m args :: below)) m args below meth c S [] k n) :
    Stand p l e R s m args below meth c S locs (cells + k) (slots + n) := by
  have hW0 : s.WarmedH ((T.setVm s.vm).setFrames (.invoking m args :: below)).vm := State.WarmedH.refl s
  refine { admits := X.admits, cas := X.cas, clock := X.clock, frames := X.frames, room := X.room, hears := X.hears, method := X.method, code := X.code, here := Z.here, tail := Z.tail, warmed := State.WarmedH.trans hW0 Z.warmed, limits := Z.limits.trans (Y.limits.symm.trans X.limits), bytes := Z.bytes.trans (Y.bytes.symm.trans X.bytes), same := ?_ }
  obtain ⟨e1, e2⟩ := Z.same
  rw [State.setFrames_setFrames] at e1
  have h2 : (T.setVm s.vm).sameButNew (S.setVm s.vm) [] k n := ⟨e1, e2⟩
  have h3 := X.same.trans h2
  rw [List.append_nil] at h3
  exact h3
/-- from the machine's note that E is thrown here with this text -/
def vx_Note (p : Program) (l : Launch) (e : Env) (R : Room) (s : State) (m : MethodId) (args : Array Value) (below : List Frame) (meth : Method) (c : Code) (H : Heap) (locs : List Loc) (cells slots : Nat) (Q : State → Prop) (g : JFrame) (E text : String) : Prop :=
  ∀ T : State, T.heap = H → Stand p l e R s m args below meth c T locs cells slots → ∃ t, Steps p.tables e below ((T.setTop g).pushFrame (.throwNew E (some text) none)) t ∧ Q t
theorem vx_vm {pc : Nat} {ls : Array Slot} {rest : List Value} {Q : State → Prop} (hexec : p.tables.exec = Jvm.exec) (hl : l.stackTraces = false) {cls text : String} {names : List String} {nb : Nat} {A : Nat → Prop}
    (hcls : Bundle.fit cls = true) (hnames : ∀ n ∈ names, Bundle.fit n = true) (hsoe : (cls == "java/lang/StackOverflowError") = false) (hoom : (cls == "java/lang/OutOfMemoryError") = false)
    (hat : ∀ w ∈ vx_atM cls names, w.before args s = true) (hgood : ∀ w ∈ vx_atM cls names, vx_ot w = true)
    (hU : vx_Zq Bundle.tN "UNASSIGNED_STACK" Bundle.steD A s s.heap) (hN : vx_Zq Bundle.tN "SUPPRESSED_SENTINEL" Bundle.listD A s s.heap) (hS : va_S A s.heap H locs) (hsize : ls.size = c.maxLocals)
    (htext : (text == notModelled) = false) (hnb : (stringBytes (stringToUtf16 text)).size ≤ nb) (hnb1 : nb ≤ 1000)
    (hRframes : names.length + 4 < R.frames) (hRlocals : (rest.map fun v => v.category).sum + 10240 ≤ R.locals) (hshort : 13 * names.length + 55 ≤ 10240) (hRcells : cells + 3 ≤ R.cells) (hRslots : slots + (nb + 10) ≤ R.slots) (hlocks : meth.locks = false)
    (k : ∀ (H1 : Heap) (q9 : Addr) (ce : Cell), H.size ≤ H1.size → (∀ q : Nat, q < H.size → H1[q]? = H[q]?) → va_S A s.heap H1 locs → H1[q9]? = some ce → ce.vm = .none → s.vm.findClass cls = some ce.cls → vx_W p l e R s m args below meth c H1 locs (cells + 3) (slots + (nb + 10)) Q (F0 m pc ls rest) q9) :
    vx_Note p l e R s m args below meth c H locs cells slots Q (F0 m pc ls rest) cls text := by
  intro T hT X
  have htr : e.platform.stackTraces = false := (show e.platform.stackTraces = l.stackTraces by rw [X.admits.platform]).trans hl
  have Y := vx_rebase X (R' := { frames := R.frames, locals := R.locals, cells := 3, slots := nb + 10 }) (Nat.le_refl _) (Nat.le_refl _) hRcells hRslots
  have hhp : ((T.setVm s.vm).setFrames (.invoking m args :: below)).heap = H := hT
  have hW0 : s.WarmedH ((T.setVm s.vm).setFrames (.invoking m args :: below)).vm := State.WarmedH.refl s
  have hat' : ∀ w ∈ vx_atM cls names, w.before args ((T.setVm s.vm).setFrames (.invoking m args :: below)) = true := fun w hw => vx_ot_at hW0 rfl (hgood w hw) (hat w hw)
  have hU' : vx_Zq Bundle.tN "UNASSIGNED_STACK" Bundle.steD A ((T.setVm s.vm).setFrames (.invoking m args :: below)) ((T.setVm s.vm).setFrames (.invoking m args :: below)).heap := by rw [hhp]; exact vx_Zq.moved hW0.alike (hU.kept hS.2.1)
  have hN' : vx_Zq Bundle.tN "SUPPRESSED_SENTINEL" Bundle.listD A ((T.setVm s.vm).setFrames (.invoking m args :: below)) ((T.setVm s.vm).setFrames (.invoking m args :: below)).heap := by rw [hhp]; exact vx_Zq.moved hW0.alike (hN.kept hS.2.1)
  obtain ⟨S, q, ce, st, Z, hce, hcl', hv⟩ := vx_vmAt Y hexec htr (cls := cls) (names := names) (text := text) hcls hnames hsoe hoom (vx_own hat' (vx_isRefq hU'.1) (vx_isRefq hN'.1) hU'.2.word hN'.2.word) (fun x hx => nomatch hx) htext
    (by rw [Launch.admits_arrayLengthLimit X.admits]; omega) (by rw [Launch.admits_maxHeapBytes X.admits]; simp only [componentBytes]; omega)
    (g := F0 m pc ls rest) rfl hsize hRframes (by show 2 * 0 + (rest.map fun v => v.category).sum + 10240 ≤ R.locals; omega) hshort (by show 0 + 3 ≤ 3; omega) (by show 0 + (_ + 4 + 6) ≤ nb + 10; omega) hlocks
  obtain ⟨f1, f2⟩ := vx_frame Z.same
  have f1' : H.size ≤ S.heap.size := by rw [← hT]; exact f1
  have f2' : ∀ q : Nat, q < H.size → S.heap[q]? = H[q]? := fun q hq => by
    rw [← hT]
    exact f2 q (by rw [← hT] at hq; exact hq) (fun z hz => nomatch hz)
  have X5 := vx_back9 X Y Z
  have X6 : Stand p l e R s m args below meth c S locs (cells + 3) (slots + (nb + 10)) := { X5 with same := X5.same.mono (by omega) (by omega) }
  obtain ⟨t, a1, b1⟩ := k S.heap q ce f1' f2' ⟨Nat.le_trans hS.1 f1', fun q h1 h2 => (f2' q (Nat.lt_of_lt_of_le h1 hS.1)).trans (hS.2.1 q h1 h2), hS.2.2⟩ hce hv hcl' S rfl X6
  exact ⟨t, st t a1, b1⟩
/-- from the machine's note that NullPointerException is thrown here -/
def vx_NoteN (p : Program) (l : Launch) (e : Env) (R : Room) (s : State) (m : MethodId) (args : Array Value) (below : List Frame) (meth : Method) (c : Code) (H : Heap) (locs : List Loc) (cells slots : Nat) (Q : State → Prop) (g : JFrame) : Prop :=
  ∀ T : State, T.heap = H → Stand p l e R s m args below meth c T locs cells slots → ∃ t, Steps p.tables e below ((T.setTop g).pushFrame (.throwNew "java/lang/NullPointerException" none none)) t ∧ Q t
theorem vx_npe {pc : Nat} {ls : Array Slot} {rest : List Value} {Q : State → Prop} (hexec : p.tables.exec = Jvm.exec) (hl : l.stackTraces = false) {nb : Nat} {A : Nat → Prop}
    (hat : ∀ w ∈ vx_atN nb, w.before args s = true) (hgood : ∀ w ∈ vx_atN nb, vx_ot w = true)
    (hU : vx_Zq Bundle.tN "UNASSIGNED_STACK" Bundle.steD A s s.heap) (hN : vx_Zq Bundle.tN "SUPPRESSED_SENTINEL" Bundle.listD A s s.heap) (hS : va_S A s.heap H locs) (hsize : ls.size = c.maxLocals)
    (hRframes : 7 < R.frames) (hRlocals : (rest.map fun v => v.category).sum + 10240 ≤ R.locals) (hRcells : cells + 1 ≤ R.cells) (hRslots : slots + nb ≤ R.slots) (hlocks : meth.locks = false)
    (k : ∀ (H1 : Heap) (q9 : Addr) (ce : Cell), H.size ≤ H1.size → (∀ q : Nat, q < H.size → H1[q]? = H[q]?) → va_S A s.heap H1 locs → H1[q9]? = some ce → ce.vm = .none → s.vm.findClass "java/lang/NullPointerException" = some ce.cls → vx_W p l e R s m args below meth c H1 locs (cells + 1) (slots + nb) Q (F0 m pc ls rest) q9) :
    vx_NoteN p l e R s m args below meth c H locs cells slots Q (F0 m pc ls rest) := by
  intro T hT X
  have htr : e.platform.stackTraces = false := (show e.platform.stackTraces = l.stackTraces by rw [X.admits.platform]).trans hl
  have Y := vx_rebase X (R' := { frames := R.frames, locals := R.locals, cells := 1, slots := nb }) (Nat.le_refl _) (Nat.le_refl _) hRcells hRslots
  have hhp : ((T.setVm s.vm).setFrames (.invoking m args :: below)).heap = H := hT
  have hW0 : s.WarmedH ((T.setVm s.vm).setFrames (.invoking m args :: below)).vm := State.WarmedH.refl s
  have hat' : ∀ w ∈ vx_atN nb, w.before args ((T.setVm s.vm).setFrames (.invoking m args :: below)) = true := fun w hw => vx_ot_at hW0 rfl (hgood w hw) (hat w hw)
  have hU' : vx_Zq Bundle.tN "UNASSIGNED_STACK" Bundle.steD A ((T.setVm s.vm).setFrames (.invoking m args :: below)) ((T.setVm s.vm).setFrames (.invoking m args :: below)).heap := by rw [hhp]; exact vx_Zq.moved hW0.alike (hU.kept hS.2.1)
  have hN' : vx_Zq Bundle.tN "SUPPRESSED_SENTINEL" Bundle.listD A ((T.setVm s.vm).setFrames (.invoking m args :: below)) ((T.setVm s.vm).setFrames (.invoking m args :: below)).heap := by rw [hhp]; exact vx_Zq.moved hW0.alike (hN.kept hS.2.1)
  obtain ⟨S, q, ce, st, Z, hce, hcl', hv⟩ := vx_npeAt Y hexec htr (n := nb) (vx_own hat' (vx_isRefq hU'.1) (vx_isRefq hN'.1) hU'.2.word hN'.2.word) (fun x hx => nomatch hx)
    (g := F0 m pc ls rest) rfl hsize hRframes (by show 2 * 0 + (rest.map fun v => v.category).sum + 10240 ≤ R.locals; omega) (by show 0 + 1 ≤ 1; omega) (by show 0 + nb ≤ nb; omega) hlocks
  obtain ⟨f1, f2⟩ := vx_frame Z.same
  have f1' : H.size ≤ S.heap.size := by rw [← hT]; exact f1
  have f2' : ∀ q : Nat, q < H.size → S.heap[q]? = H[q]? := fun q hq => by
    rw [← hT]
    exact f2 q (by rw [← hT] at hq; exact hq) (fun z hz => nomatch hz)
  have X5 := vx_back9 X Y Z
  have X6 : Stand p l e R s m args below meth c S locs (cells + 1) (slots + nb) := { X5 with same := X5.same.mono (by omega) (by omega) }
  obtain ⟨t, a1, b1⟩ := k S.heap q ce f1' f2' ⟨Nat.le_trans hS.1 f1', fun q h1 h2 => (f2' q (Nat.lt_of_lt_of_le h1 hS.1)).trans (hS.2.1 q h1 h2), hS.2.2⟩ hce hv hcl' S rfl X6
  exact ⟨t, st t a1, b1⟩
variable {Q : State → Prop} {cc : ByteArray} {pc : Nat} {ls : Array Slot} {rest : List Value}
theorem vx_idivZ (hexec : p.tables.exec = Jvm.exec) (hb : c.code = cc) {a b : Int32} (h0 : b = 0) (d : decode cc pc = .ok (.idiv, 1)) (k : vx_Note p l e R s m args below meth c H locs cells slots Q (F0 m pc ls rest) "java/lang/ArithmeticException" "/ by zero") :
    W p l e R s m args below meth c H locs cells slots Q (F0 m pc ls (.int b :: .int a :: rest)) := by
  intro T hT X
  obtain ⟨t, st, q⟩ := k T hT X
  exact ⟨t, X.idivZero hexec (g := F0 m pc ls (.int b :: .int a :: rest)) rfl (a := a) (rest := rest) (by rw [h0]) (by rw [hb]; exact d) t st, q⟩
theorem vx_iremZ (hexec : p.tables.exec = Jvm.exec) (hb : c.code = cc) {a b : Int32} (h0 : b = 0) (d : decode cc pc = .ok (.irem, 1)) (k : vx_Note p l e R s m args below meth c H locs cells slots Q (F0 m pc ls rest) "java/lang/ArithmeticException" "/ by zero") :
    W p l e R s m args below meth c H locs cells slots Q (F0 m pc ls (.int b :: .int a :: rest)) := by
  intro T hT X
  obtain ⟨t, st, q⟩ := k T hT X
  exact ⟨t, X.iremZero hexec (g := F0 m pc ls (.int b :: .int a :: rest)) rfl (a := a) (rest := rest) (by rw [h0]) (by rw [hb]; exact d) t st, q⟩
theorem vx_ldivZ (hexec : p.tables.exec = Jvm.exec) (hb : c.code = cc) {a b : Int64} (h0 : b = 0) (d : decode cc pc = .ok (.ldiv, 1)) (k : vx_Note p l e R s m args below meth c H locs cells slots Q (F0 m pc ls rest) "java/lang/ArithmeticException" "/ by zero") :
    W p l e R s m args below meth c H locs cells slots Q (F0 m pc ls (.long b :: .long a :: rest)) := by
  intro T hT X
  obtain ⟨t, st, q⟩ := k T hT X
  exact ⟨t, X.ldivZero hexec (g := F0 m pc ls (.long b :: .long a :: rest)) rfl (a := a) (rest := rest) (by rw [h0]) (by rw [hb]; exact d) t st, q⟩
theorem vx_lremZ (hexec : p.tables.exec = Jvm.exec) (hb : c.code = cc) {a b : Int64} (h0 : b = 0) (d : decode cc pc = .ok (.lrem, 1)) (k : vx_Note p l e R s m args below meth c H locs cells slots Q (F0 m pc ls rest) "java/lang/ArithmeticException" "/ by zero") :
    W p l e R s m args below meth c H locs cells slots Q (F0 m pc ls (.long b :: .long a :: rest)) := by
  intro T hT X
  obtain ⟨t, st, q⟩ := k T hT X
  exact ⟨t, X.lremZero hexec (g := F0 m pc ls (.long b :: .long a :: rest)) rfl (a := a) (rest := rest) (by rw [h0]) (by rw [hb]; exact d) t st, q⟩
theorem vx_ialdZ {D : va_G} {cl : List vw_C} {ws : va_W} {tys : List (ClassId × FieldType)} {a : Nat} (hexec : p.tables.exec = Jvm.exec) (hb : c.code = cc) (hK : va_K D cl tys s) (hP : va_P D cl ws H) (q0 t0 : Nat) {cA : ClassId} {n : Nat} {f : Nat → Int32} (ha : ws[q0]? = some (a, .inl (cA, n, .inl f))) (ht : tys[t0]? = some (cA, .int)) {i : Int32} (hout : ¬ vp_in i n) (hdg : decode cc pc = .ok (.iaload, 1))
    (k : ∀ tx : String, tx = (toString "Index " ++ toString i ++ toString " out of bounds for length " ++ toString n : String) → vx_Note p l e R s m args below meth c H locs cells slots Q (F0 m pc ls rest) "java/lang/ArrayIndexOutOfBoundsException" tx) : W p l e R s m args below meth c H locs cells slots Q (F0 m pc ls (.int i :: .ref a :: rest)) := by
  intro T hT X
  obtain ⟨t, st, q⟩ := k _ rfl T hT X
  refine ⟨t, ?_, q⟩
  have h1 := X.ialoadOut hexec (by rw [hT]; exact hP q0 _ ha) ((hK.2 t0 _ ht).1 n (fun j => .int (f j))) (j := i) (by show (i < 0 ∨ (arrV _ _ _).slots.size ≤ _); rw [arrV_size]; exact Classical.byContradiction hout) (g := F0 m pc ls (.int i :: .ref a :: rest)) rfl (rest := rest) rfl (by rw [hb]; exact hdg) t
  simp only [arrV_size] at h1
  exact h1 st
theorem vx_iastZ {D : va_G} {cl : List vw_C} {ws : va_W} {tys : List (ClassId × FieldType)} {a : Nat} (hexec : p.tables.exec = Jvm.exec) (hb : c.code = cc) (hK : va_K D cl tys s) (hP : va_P D cl ws H) (q0 t0 : Nat) {cA : ClassId} {n : Nat} {f : Nat → Int32} (ha : ws[q0]? = some (a, .inl (cA, n, .inl f))) (ht : tys[t0]? = some (cA, .int)) {i : Int32} {x : Int32} (hout : ¬ vp_in i n) (hdg : decode cc pc = .ok (.iastore, 1))
    (k : ∀ tx : String, tx = (toString "Index " ++ toString i ++ toString " out of bounds for length " ++ toString n : String) → vx_Note p l e R s m args below meth c H locs cells slots Q (F0 m pc ls rest) "java/lang/ArrayIndexOutOfBoundsException" tx) : W p l e R s m args below meth c H locs cells slots Q (F0 m pc ls (.int x :: .int i :: .ref a :: rest)) := by
  intro T hT X
  obtain ⟨t, st, q⟩ := k _ rfl T hT X
  refine ⟨t, ?_, q⟩
  have h1 := X.iastoreOut hexec (by rw [hT]; exact hP q0 _ ha) ((hK.2 t0 _ ht).1 n (fun j => .int (f j))) (j := i) (by show (i < 0 ∨ (arrV _ _ _).slots.size ≤ _); rw [arrV_size]; exact Classical.byContradiction hout) (g := F0 m pc ls (.int x :: .int i :: .ref a :: rest)) rfl (rest := rest) rfl (by rw [hb]; exact hdg) t
  simp only [arrV_size] at h1
  exact h1 st
theorem vx_baldZ {D : va_G} {cl : List vw_C} {ws : va_W} {tys : List (ClassId × FieldType)} {a : Nat} (hexec : p.tables.exec = Jvm.exec) (hb : c.code = cc) (hK : va_K D cl tys s) (hP : va_P D cl ws H) (q0 t0 : Nat) {cA : ClassId} {n : Nat} {f : Nat → Int32} (ha : ws[q0]? = some (a, .inl (cA, n, .inl f))) (ht : tys[t0]? = some (cA, .byte)) {i : Int32} (hout : ¬ vp_in i n) (hdg : decode cc pc = .ok (.baload, 1))
    (k : ∀ tx : String, tx = (toString "Index " ++ toString i ++ toString " out of bounds for length " ++ toString n : String) → vx_Note p l e R s m args below meth c H locs cells slots Q (F0 m pc ls rest) "java/lang/ArrayIndexOutOfBoundsException" tx) : W p l e R s m args below meth c H locs cells slots Q (F0 m pc ls (.int i :: .ref a :: rest)) := by
  intro T hT X
  obtain ⟨t, st, q⟩ := k _ rfl T hT X
  refine ⟨t, ?_, q⟩
  have h1 := X.baloadOut hexec (by rw [hT]; exact hP q0 _ ha) ((hK.2 t0 _ ht).1 n (fun j => .int (f j))) (j := i) (by show (i < 0 ∨ (arrV _ _ _).slots.size ≤ _); rw [arrV_size]; exact Classical.byContradiction hout) (g := F0 m pc ls (.int i :: .ref a :: rest)) rfl (rest := rest) rfl (by rw [hb]; exact hdg) t
  simp only [arrV_size] at h1
  exact h1 st
theorem vx_bastZ {D : va_G} {cl : List vw_C} {ws : va_W} {tys : List (ClassId × FieldType)} {a : Nat} (hexec : p.tables.exec = Jvm.exec) (hb : c.code = cc) (hK : va_K D cl tys s) (hP : va_P D cl ws H) (q0 t0 : Nat) {cA : ClassId} {n : Nat} {f : Nat → Int32} (ha : ws[q0]? = some (a, .inl (cA, n, .inl f))) (ht : tys[t0]? = some (cA, .byte)) {i : Int32} {x : Int32} (hout : ¬ vp_in i n) (hdg : decode cc pc = .ok (.bastore, 1))
    (k : ∀ tx : String, tx = (toString "Index " ++ toString i ++ toString " out of bounds for length " ++ toString n : String) → vx_Note p l e R s m args below meth c H locs cells slots Q (F0 m pc ls rest) "java/lang/ArrayIndexOutOfBoundsException" tx) : W p l e R s m args below meth c H locs cells slots Q (F0 m pc ls (.int x :: .int i :: .ref a :: rest)) := by
  intro T hT X
  obtain ⟨t, st, q⟩ := k _ rfl T hT X
  refine ⟨t, ?_, q⟩
  have h1 := X.bastoreOut hexec (by rw [hT]; exact hP q0 _ ha) ((hK.2 t0 _ ht).1 n (fun j => .int (f j))) (j := i) (by show (i < 0 ∨ (arrV _ _ _).slots.size ≤ _); rw [arrV_size]; exact Classical.byContradiction hout) (g := F0 m pc ls (.int x :: .int i :: .ref a :: rest)) rfl (rest := rest) rfl (by rw [hb]; exact hdg) t
  simp only [arrV_size] at h1
  exact h1 st
theorem vx_zaldZ {D : va_G} {cl : List vw_C} {ws : va_W} {tys : List (ClassId × FieldType)} {a : Nat} (hexec : p.tables.exec = Jvm.exec) (hb : c.code = cc) (hK : va_K D cl tys s) (hP : va_P D cl ws H) (q0 t0 : Nat) {cA : ClassId} {n : Nat} {f : Nat → Int32} (ha : ws[q0]? = some (a, .inl (cA, n, .inl f))) (ht : tys[t0]? = some (cA, .boolean)) {i : Int32} (hout : ¬ vp_in i n) (hdg : decode cc pc = .ok (.baload, 1))
    (k : ∀ tx : String, tx = (toString "Index " ++ toString i ++ toString " out of bounds for length " ++ toString n : String) → vx_Note p l e R s m args below meth c H locs cells slots Q (F0 m pc ls rest) "java/lang/ArrayIndexOutOfBoundsException" tx) : W p l e R s m args below meth c H locs cells slots Q (F0 m pc ls (.int i :: .ref a :: rest)) := by
  intro T hT X
  obtain ⟨t, st, q⟩ := k _ rfl T hT X
  refine ⟨t, ?_, q⟩
  have h1 := X.baloadOut hexec (by rw [hT]; exact hP q0 _ ha) ((hK.2 t0 _ ht).1 n (fun j => .int (f j))) (j := i) (by show (i < 0 ∨ (arrV _ _ _).slots.size ≤ _); rw [arrV_size]; exact Classical.byContradiction hout) (g := F0 m pc ls (.int i :: .ref a :: rest)) rfl (rest := rest) rfl (by rw [hb]; exact hdg) t
  simp only [arrV_size] at h1
  exact h1 st
theorem vx_zastZ {D : va_G} {cl : List vw_C} {ws : va_W} {tys : List (ClassId × FieldType)} {a : Nat} (hexec : p.tables.exec = Jvm.exec) (hb : c.code = cc) (hK : va_K D cl tys s) (hP : va_P D cl ws H) (q0 t0 : Nat) {cA : ClassId} {n : Nat} {f : Nat → Int32} (ha : ws[q0]? = some (a, .inl (cA, n, .inl f))) (ht : tys[t0]? = some (cA, .boolean)) {i : Int32} {x : Int32} (hout : ¬ vp_in i n) (hdg : decode cc pc = .ok (.bastore, 1))
    (k : ∀ tx : String, tx = (toString "Index " ++ toString i ++ toString " out of bounds for length " ++ toString n : String) → vx_Note p l e R s m args below meth c H locs cells slots Q (F0 m pc ls rest) "java/lang/ArrayIndexOutOfBoundsException" tx) : W p l e R s m args below meth c H locs cells slots Q (F0 m pc ls (.int x :: .int i :: .ref a :: rest)) := by
  intro T hT X
  obtain ⟨t, st, q⟩ := k _ rfl T hT X
  refine ⟨t, ?_, q⟩
  have h1 := X.bastoreOut hexec (by rw [hT]; exact hP q0 _ ha) ((hK.2 t0 _ ht).1 n (fun j => .int (f j))) (j := i) (by show (i < 0 ∨ (arrV _ _ _).slots.size ≤ _); rw [arrV_size]; exact Classical.byContradiction hout) (g := F0 m pc ls (.int x :: .int i :: .ref a :: rest)) rfl (rest := rest) rfl (by rw [hb]; exact hdg) t
  simp only [arrV_size] at h1
  exact h1 st
theorem vx_caldZ {D : va_G} {cl : List vw_C} {ws : va_W} {tys : List (ClassId × FieldType)} {a : Nat} (hexec : p.tables.exec = Jvm.exec) (hb : c.code = cc) (hK : va_K D cl tys s) (hP : va_P D cl ws H) (q0 t0 : Nat) {cA : ClassId} {n : Nat} {f : Nat → Int32} (ha : ws[q0]? = some (a, .inl (cA, n, .inl f))) (ht : tys[t0]? = some (cA, .char)) {i : Int32} (hout : ¬ vp_in i n) (hdg : decode cc pc = .ok (.caload, 1))
    (k : ∀ tx : String, tx = (toString "Index " ++ toString i ++ toString " out of bounds for length " ++ toString n : String) → vx_Note p l e R s m args below meth c H locs cells slots Q (F0 m pc ls rest) "java/lang/ArrayIndexOutOfBoundsException" tx) : W p l e R s m args below meth c H locs cells slots Q (F0 m pc ls (.int i :: .ref a :: rest)) := by
  intro T hT X
  obtain ⟨t, st, q⟩ := k _ rfl T hT X
  refine ⟨t, ?_, q⟩
  have h1 := X.caloadOut hexec (by rw [hT]; exact hP q0 _ ha) ((hK.2 t0 _ ht).1 n (fun j => .int (f j))) (j := i) (by show (i < 0 ∨ (arrV _ _ _).slots.size ≤ _); rw [arrV_size]; exact Classical.byContradiction hout) (g := F0 m pc ls (.int i :: .ref a :: rest)) rfl (rest := rest) rfl (by rw [hb]; exact hdg) t
  simp only [arrV_size] at h1
  exact h1 st
theorem vx_castZ {D : va_G} {cl : List vw_C} {ws : va_W} {tys : List (ClassId × FieldType)} {a : Nat} (hexec : p.tables.exec = Jvm.exec) (hb : c.code = cc) (hK : va_K D cl tys s) (hP : va_P D cl ws H) (q0 t0 : Nat) {cA : ClassId} {n : Nat} {f : Nat → Int32} (ha : ws[q0]? = some (a, .inl (cA, n, .inl f))) (ht : tys[t0]? = some (cA, .char)) {i : Int32} {x : Int32} (hout : ¬ vp_in i n) (hdg : decode cc pc = .ok (.castore, 1))
    (k : ∀ tx : String, tx = (toString "Index " ++ toString i ++ toString " out of bounds for length " ++ toString n : String) → vx_Note p l e R s m args below meth c H locs cells slots Q (F0 m pc ls rest) "java/lang/ArrayIndexOutOfBoundsException" tx) : W p l e R s m args below meth c H locs cells slots Q (F0 m pc ls (.int x :: .int i :: .ref a :: rest)) := by
  intro T hT X
  obtain ⟨t, st, q⟩ := k _ rfl T hT X
  refine ⟨t, ?_, q⟩
  have h1 := X.castoreOut hexec (by rw [hT]; exact hP q0 _ ha) ((hK.2 t0 _ ht).1 n (fun j => .int (f j))) (j := i) (by show (i < 0 ∨ (arrV _ _ _).slots.size ≤ _); rw [arrV_size]; exact Classical.byContradiction hout) (g := F0 m pc ls (.int x :: .int i :: .ref a :: rest)) rfl (rest := rest) rfl (by rw [hb]; exact hdg) t
  simp only [arrV_size] at h1
  exact h1 st
theorem vx_saldZ {D : va_G} {cl : List vw_C} {ws : va_W} {tys : List (ClassId × FieldType)} {a : Nat} (hexec : p.tables.exec = Jvm.exec) (hb : c.code = cc) (hK : va_K D cl tys s) (hP : va_P D cl ws H) (q0 t0 : Nat) {cA : ClassId} {n : Nat} {f : Nat → Int32} (ha : ws[q0]? = some (a, .inl (cA, n, .inl f))) (ht : tys[t0]? = some (cA, .short)) {i : Int32} (hout : ¬ vp_in i n) (hdg : decode cc pc = .ok (.saload, 1))
    (k : ∀ tx : String, tx = (toString "Index " ++ toString i ++ toString " out of bounds for length " ++ toString n : String) → vx_Note p l e R s m args below meth c H locs cells slots Q (F0 m pc ls rest) "java/lang/ArrayIndexOutOfBoundsException" tx) : W p l e R s m args below meth c H locs cells slots Q (F0 m pc ls (.int i :: .ref a :: rest)) := by
  intro T hT X
  obtain ⟨t, st, q⟩ := k _ rfl T hT X
  refine ⟨t, ?_, q⟩
  have h1 := X.saloadOut hexec (by rw [hT]; exact hP q0 _ ha) ((hK.2 t0 _ ht).1 n (fun j => .int (f j))) (j := i) (by show (i < 0 ∨ (arrV _ _ _).slots.size ≤ _); rw [arrV_size]; exact Classical.byContradiction hout) (g := F0 m pc ls (.int i :: .ref a :: rest)) rfl (rest := rest) rfl (by rw [hb]; exact hdg) t
  simp only [arrV_size] at h1
  exact h1 st
theorem vx_sastZ {D : va_G} {cl : List vw_C} {ws : va_W} {tys : List (ClassId × FieldType)} {a : Nat} (hexec : p.tables.exec = Jvm.exec) (hb : c.code = cc) (hK : va_K D cl tys s) (hP : va_P D cl ws H) (q0 t0 : Nat) {cA : ClassId} {n : Nat} {f : Nat → Int32} (ha : ws[q0]? = some (a, .inl (cA, n, .inl f))) (ht : tys[t0]? = some (cA, .short)) {i : Int32} {x : Int32} (hout : ¬ vp_in i n) (hdg : decode cc pc = .ok (.sastore, 1))
    (k : ∀ tx : String, tx = (toString "Index " ++ toString i ++ toString " out of bounds for length " ++ toString n : String) → vx_Note p l e R s m args below meth c H locs cells slots Q (F0 m pc ls rest) "java/lang/ArrayIndexOutOfBoundsException" tx) : W p l e R s m args below meth c H locs cells slots Q (F0 m pc ls (.int x :: .int i :: .ref a :: rest)) := by
  intro T hT X
  obtain ⟨t, st, q⟩ := k _ rfl T hT X
  refine ⟨t, ?_, q⟩
  have h1 := X.sastoreOut hexec (by rw [hT]; exact hP q0 _ ha) ((hK.2 t0 _ ht).1 n (fun j => .int (f j))) (j := i) (by show (i < 0 ∨ (arrV _ _ _).slots.size ≤ _); rw [arrV_size]; exact Classical.byContradiction hout) (g := F0 m pc ls (.int x :: .int i :: .ref a :: rest)) rfl (rest := rest) rfl (by rw [hb]; exact hdg) t
  simp only [arrV_size] at h1
  exact h1 st
theorem vx_laldZ {D : va_G} {cl : List vw_C} {ws : va_W} {tys : List (ClassId × FieldType)} {a : Nat} (hexec : p.tables.exec = Jvm.exec) (hb : c.code = cc) (hK : va_K D cl tys s) (hP : va_P D cl ws H) (q0 t0 : Nat) {cA : ClassId} {n : Nat} {f : Nat → Int64} (ha : ws[q0]? = some (a, .inl (cA, n, .inr (.inl f)))) (ht : tys[t0]? = some (cA, .long)) {i : Int32} (hout : ¬ vp_in i n) (hdg : decode cc pc = .ok (.laload, 1))
    (k : ∀ tx : String, tx = (toString "Index " ++ toString i ++ toString " out of bounds for length " ++ toString n : String) → vx_Note p l e R s m args below meth c H locs cells slots Q (F0 m pc ls rest) "java/lang/ArrayIndexOutOfBoundsException" tx) : W p l e R s m args below meth c H locs cells slots Q (F0 m pc ls (.int i :: .ref a :: rest)) := by
  intro T hT X
  obtain ⟨t, st, q⟩ := k _ rfl T hT X
  refine ⟨t, ?_, q⟩
  have h1 := X.laloadOut hexec (by rw [hT]; exact hP q0 _ ha) ((hK.2 t0 _ ht).1 n (fun j => .long (f j))) (j := i) (by show (i < 0 ∨ (arrV _ _ _).slots.size ≤ _); rw [arrV_size]; exact Classical.byContradiction hout) (g := F0 m pc ls (.int i :: .ref a :: rest)) rfl (rest := rest) rfl (by rw [hb]; exact hdg) t
  simp only [arrV_size] at h1
  exact h1 st
theorem vx_lastZ {D : va_G} {cl : List vw_C} {ws : va_W} {tys : List (ClassId × FieldType)} {a : Nat} (hexec : p.tables.exec = Jvm.exec) (hb : c.code = cc) (hK : va_K D cl tys s) (hP : va_P D cl ws H) (q0 t0 : Nat) {cA : ClassId} {n : Nat} {f : Nat → Int64} (ha : ws[q0]? = some (a, .inl (cA, n, .inr (.inl f)))) (ht : tys[t0]? = some (cA, .long)) {i : Int32} {x : Int64} (hout : ¬ vp_in i n) (hdg : decode cc pc = .ok (.lastore, 1))
    (k : ∀ tx : String, tx = (toString "Index " ++ toString i ++ toString " out of bounds for length " ++ toString n : String) → vx_Note p l e R s m args below meth c H locs cells slots Q (F0 m pc ls rest) "java/lang/ArrayIndexOutOfBoundsException" tx) : W p l e R s m args below meth c H locs cells slots Q (F0 m pc ls (.long x :: .int i :: .ref a :: rest)) := by
  intro T hT X
  obtain ⟨t, st, q⟩ := k _ rfl T hT X
  refine ⟨t, ?_, q⟩
  have h1 := X.lastoreOut hexec (by rw [hT]; exact hP q0 _ ha) ((hK.2 t0 _ ht).1 n (fun j => .long (f j))) (j := i) (by show (i < 0 ∨ (arrV _ _ _).slots.size ≤ _); rw [arrV_size]; exact Classical.byContradiction hout) (g := F0 m pc ls (.long x :: .int i :: .ref a :: rest)) rfl (rest := rest) rfl (by rw [hb]; exact hdg) t
  simp only [arrV_size] at h1
  exact h1 st
theorem vx_faldZ {D : va_G} {cl : List vw_C} {ws : va_W} {tys : List (ClassId × FieldType)} {a : Nat} (hexec : p.tables.exec = Jvm.exec) (hb : c.code = cc) (hK : va_K D cl tys s) (hP : va_P D cl ws H) (q0 t0 : Nat) {cA : ClassId} {n : Nat} {f : Nat → UInt32} (ha : ws[q0]? = some (a, .inl (cA, n, .inr (.inr (.inl f))))) (ht : tys[t0]? = some (cA, .float)) {i : Int32} (hout : ¬ vp_in i n) (hdg : decode cc pc = .ok (.faload, 1))
    (k : ∀ tx : String, tx = (toString "Index " ++ toString i ++ toString " out of bounds for length " ++ toString n : String) → vx_Note p l e R s m args below meth c H locs cells slots Q (F0 m pc ls rest) "java/lang/ArrayIndexOutOfBoundsException" tx) : W p l e R s m args below meth c H locs cells slots Q (F0 m pc ls (.int i :: .ref a :: rest)) := by
  intro T hT X
  obtain ⟨t, st, q⟩ := k _ rfl T hT X
  refine ⟨t, ?_, q⟩
  have h1 := X.faloadOut hexec (by rw [hT]; exact hP q0 _ ha) ((hK.2 t0 _ ht).1 n (fun j => .float (f j))) (j := i) (by show (i < 0 ∨ (arrV _ _ _).slots.size ≤ _); rw [arrV_size]; exact Classical.byContradiction hout) (g := F0 m pc ls (.int i :: .ref a :: rest)) rfl (rest := rest) rfl (by rw [hb]; exact hdg) t
  simp only [arrV_size] at h1
  exact h1 st
theorem vx_fastZ {D : va_G} {cl : List vw_C} {ws : va_W} {tys : List (ClassId × FieldType)} {a : Nat} (hexec : p.tables.exec = Jvm.exec) (hb : c.code = cc) (hK : va_K D cl tys s) (hP : va_P D cl ws H) (q0 t0 : Nat) {cA : ClassId} {n : Nat} {f : Nat → UInt32} (ha : ws[q0]? = some (a, .inl (cA, n, .inr (.inr (.inl f))))) (ht : tys[t0]? = some (cA, .float)) {i : Int32} {x : UInt32} (hout : ¬ vp_in i n) (hdg : decode cc pc = .ok (.fastore, 1))
    (k : ∀ tx : String, tx = (toString "Index " ++ toString i ++ toString " out of bounds for length " ++ toString n : String) → vx_Note p l e R s m args below meth c H locs cells slots Q (F0 m pc ls rest) "java/lang/ArrayIndexOutOfBoundsException" tx) : W p l e R s m args below meth c H locs cells slots Q (F0 m pc ls (.float x :: .int i :: .ref a :: rest)) := by
  intro T hT X
  obtain ⟨t, st, q⟩ := k _ rfl T hT X
  refine ⟨t, ?_, q⟩
  have h1 := X.fastoreOut hexec (by rw [hT]; exact hP q0 _ ha) ((hK.2 t0 _ ht).1 n (fun j => .float (f j))) (j := i) (by show (i < 0 ∨ (arrV _ _ _).slots.size ≤ _); rw [arrV_size]; exact Classical.byContradiction hout) (g := F0 m pc ls (.float x :: .int i :: .ref a :: rest)) rfl (rest := rest) rfl (by rw [hb]; exact hdg) t
  simp only [arrV_size] at h1
  exact h1 st
theorem vx_daldZ {D : va_G} {cl : List vw_C} {ws : va_W} {tys : List (ClassId × FieldType)} {a : Nat} (hexec : p.tables.exec = Jvm.exec) (hb : c.code = cc) (hK : va_K D cl tys s) (hP : va_P D cl ws H) (q0 t0 : Nat) {cA : ClassId} {n : Nat} {f : Nat → UInt64} (ha : ws[q0]? = some (a, .inl (cA, n, .inr (.inr (.inr (.inl f)))))) (ht : tys[t0]? = some (cA, .double)) {i : Int32} (hout : ¬ vp_in i n) (hdg : decode cc pc = .ok (.daload, 1))
    (k : ∀ tx : String, tx = (toString "Index " ++ toString i ++ toString " out of bounds for length " ++ toString n : String) → vx_Note p l e R s m args below meth c H locs cells slots Q (F0 m pc ls rest) "java/lang/ArrayIndexOutOfBoundsException" tx) : W p l e R s m args below meth c H locs cells slots Q (F0 m pc ls (.int i :: .ref a :: rest)) := by
  intro T hT X
  obtain ⟨t, st, q⟩ := k _ rfl T hT X
  refine ⟨t, ?_, q⟩
  have h1 := X.daloadOut hexec (by rw [hT]; exact hP q0 _ ha) ((hK.2 t0 _ ht).1 n (fun j => .double (f j))) (j := i) (by show (i < 0 ∨ (arrV _ _ _).slots.size ≤ _); rw [arrV_size]; exact Classical.byContradiction hout) (g := F0 m pc ls (.int i :: .ref a :: rest)) rfl (rest := rest) rfl (by rw [hb]; exact hdg) t
  simp only [arrV_size] at h1
  exact h1 st
theorem vx_dastZ {D : va_G} {cl : List vw_C} {ws : va_W} {tys : List (ClassId × FieldType)} {a : Nat} (hexec : p.tables.exec = Jvm.exec) (hb : c.code = cc) (hK : va_K D cl tys s) (hP : va_P D cl ws H) (q0 t0 : Nat) {cA : ClassId} {n : Nat} {f : Nat → UInt64} (ha : ws[q0]? = some (a, .inl (cA, n, .inr (.inr (.inr (.inl f)))))) (ht : tys[t0]? = some (cA, .double)) {i : Int32} {x : UInt64} (hout : ¬ vp_in i n) (hdg : decode cc pc = .ok (.dastore, 1))
    (k : ∀ tx : String, tx = (toString "Index " ++ toString i ++ toString " out of bounds for length " ++ toString n : String) → vx_Note p l e R s m args below meth c H locs cells slots Q (F0 m pc ls rest) "java/lang/ArrayIndexOutOfBoundsException" tx) : W p l e R s m args below meth c H locs cells slots Q (F0 m pc ls (.double x :: .int i :: .ref a :: rest)) := by
  intro T hT X
  obtain ⟨t, st, q⟩ := k _ rfl T hT X
  refine ⟨t, ?_, q⟩
  have h1 := X.dastoreOut hexec (by rw [hT]; exact hP q0 _ ha) ((hK.2 t0 _ ht).1 n (fun j => .double (f j))) (j := i) (by show (i < 0 ∨ (arrV _ _ _).slots.size ≤ _); rw [arrV_size]; exact Classical.byContradiction hout) (g := F0 m pc ls (.double x :: .int i :: .ref a :: rest)) rfl (rest := rest) rfl (by rw [hb]; exact hdg) t
  simp only [arrV_size] at h1
  exact h1 st
theorem vx_arraylengthN (hexec : p.tables.exec = Jvm.exec) (hb : c.code = cc) (hdg : decode cc pc = .ok (.arraylength, 1)) (k : vx_NoteN p l e R s m args below meth c H locs cells slots Q (F0 m pc ls rest)) : W p l e R s m args below meth c H locs cells slots Q (F0 m pc ls (.null :: rest)) := by
  intro T hT X
  obtain ⟨t, st, q⟩ := k T hT X
  exact ⟨t, X.arraylengthNull hexec (g := F0 m pc ls (.null :: rest)) rfl (rest := rest) rfl (by rw [hb]; exact hdg) t st, q⟩
theorem vx_ialoadN (hexec : p.tables.exec = Jvm.exec) (hb : c.code = cc) {i : Int32} (hdg : decode cc pc = .ok (.iaload, 1)) (k : vx_NoteN p l e R s m args below meth c H locs cells slots Q (F0 m pc ls rest)) : W p l e R s m args below meth c H locs cells slots Q (F0 m pc ls (.int i :: .null :: rest)) := by
  intro T hT X
  obtain ⟨t, st, q⟩ := k T hT X
  exact ⟨t, X.ialoadNull hexec (g := F0 m pc ls (.int i :: .null :: rest)) rfl (rest := rest) rfl (by rw [hb]; exact hdg) t st, q⟩
theorem vx_laloadN (hexec : p.tables.exec = Jvm.exec) (hb : c.code = cc) {i : Int32} (hdg : decode cc pc = .ok (.laload, 1)) (k : vx_NoteN p l e R s m args below meth c H locs cells slots Q (F0 m pc ls rest)) : W p l e R s m args below meth c H locs cells slots Q (F0 m pc ls (.int i :: .null :: rest)) := by
  intro T hT X
  obtain ⟨t, st, q⟩ := k T hT X
  exact ⟨t, X.laloadNull hexec (g := F0 m pc ls (.int i :: .null :: rest)) rfl (rest := rest) rfl (by rw [hb]; exact hdg) t st, q⟩
theorem vx_faloadN (hexec : p.tables.exec = Jvm.exec) (hb : c.code = cc) {i : Int32} (hdg : decode cc pc = .ok (.faload, 1)) (k : vx_NoteN p l e R s m args below meth c H locs cells slots Q (F0 m pc ls rest)) : W p l e R s m args below meth c H locs cells slots Q (F0 m pc ls (.int i :: .null :: rest)) := by
  intro T hT X
  obtain ⟨t, st, q⟩ := k T hT X
  exact ⟨t, X.faloadNull hexec (g := F0 m pc ls (.int i :: .null :: rest)) rfl (rest := rest) rfl (by rw [hb]; exact hdg) t st, q⟩
theorem vx_daloadN (hexec : p.tables.exec = Jvm.exec) (hb : c.code = cc) {i : Int32} (hdg : decode cc pc = .ok (.daload, 1)) (k : vx_NoteN p l e R s m args below meth c H locs cells slots Q (F0 m pc ls rest)) : W p l e R s m args below meth c H locs cells slots Q (F0 m pc ls (.int i :: .null :: rest)) := by
  intro T hT X
  obtain ⟨t, st, q⟩ := k T hT X
  exact ⟨t, X.daloadNull hexec (g := F0 m pc ls (.int i :: .null :: rest)) rfl (rest := rest) rfl (by rw [hb]; exact hdg) t st, q⟩
theorem vx_aaloadN (hexec : p.tables.exec = Jvm.exec) (hb : c.code = cc) {i : Int32} (hdg : decode cc pc = .ok (.aaload, 1)) (k : vx_NoteN p l e R s m args below meth c H locs cells slots Q (F0 m pc ls rest)) : W p l e R s m args below meth c H locs cells slots Q (F0 m pc ls (.int i :: .null :: rest)) := by
  intro T hT X
  obtain ⟨t, st, q⟩ := k T hT X
  exact ⟨t, X.aaloadNull hexec (g := F0 m pc ls (.int i :: .null :: rest)) rfl (rest := rest) rfl (by rw [hb]; exact hdg) t st, q⟩
theorem vx_baloadN (hexec : p.tables.exec = Jvm.exec) (hb : c.code = cc) {i : Int32} (hdg : decode cc pc = .ok (.baload, 1)) (k : vx_NoteN p l e R s m args below meth c H locs cells slots Q (F0 m pc ls rest)) : W p l e R s m args below meth c H locs cells slots Q (F0 m pc ls (.int i :: .null :: rest)) := by
  intro T hT X
  obtain ⟨t, st, q⟩ := k T hT X
  exact ⟨t, X.baloadNull hexec (g := F0 m pc ls (.int i :: .null :: rest)) rfl (rest := rest) rfl (by rw [hb]; exact hdg) t st, q⟩
theorem vx_caloadN (hexec : p.tables.exec = Jvm.exec) (hb : c.code = cc) {i : Int32} (hdg : decode cc pc = .ok (.caload, 1)) (k : vx_NoteN p l e R s m args below meth c H locs cells slots Q (F0 m pc ls rest)) : W p l e R s m args below meth c H locs cells slots Q (F0 m pc ls (.int i :: .null :: rest)) := by
  intro T hT X
  obtain ⟨t, st, q⟩ := k T hT X
  exact ⟨t, X.caloadNull hexec (g := F0 m pc ls (.int i :: .null :: rest)) rfl (rest := rest) rfl (by rw [hb]; exact hdg) t st, q⟩
theorem vx_saloadN (hexec : p.tables.exec = Jvm.exec) (hb : c.code = cc) {i : Int32} (hdg : decode cc pc = .ok (.saload, 1)) (k : vx_NoteN p l e R s m args below meth c H locs cells slots Q (F0 m pc ls rest)) : W p l e R s m args below meth c H locs cells slots Q (F0 m pc ls (.int i :: .null :: rest)) := by
  intro T hT X
  obtain ⟨t, st, q⟩ := k T hT X
  exact ⟨t, X.saloadNull hexec (g := F0 m pc ls (.int i :: .null :: rest)) rfl (rest := rest) rfl (by rw [hb]; exact hdg) t st, q⟩
theorem vx_iastoreN (hexec : p.tables.exec = Jvm.exec) (hb : c.code = cc) {x : Int32} {i : Int32} (hdg : decode cc pc = .ok (.iastore, 1)) (k : vx_NoteN p l e R s m args below meth c H locs cells slots Q (F0 m pc ls rest)) : W p l e R s m args below meth c H locs cells slots Q (F0 m pc ls (.int x :: .int i :: .null :: rest)) := by
  intro T hT X
  obtain ⟨t, st, q⟩ := k T hT X
  exact ⟨t, X.iastoreNull hexec (g := F0 m pc ls (.int x :: .int i :: .null :: rest)) rfl (rest := rest) rfl (by rw [hb]; exact hdg) t st, q⟩
theorem vx_lastoreN (hexec : p.tables.exec = Jvm.exec) (hb : c.code = cc) {x : Int64} {i : Int32} (hdg : decode cc pc = .ok (.lastore, 1)) (k : vx_NoteN p l e R s m args below meth c H locs cells slots Q (F0 m pc ls rest)) : W p l e R s m args below meth c H locs cells slots Q (F0 m pc ls (.long x :: .int i :: .null :: rest)) := by
  intro T hT X
  obtain ⟨t, st, q⟩ := k T hT X
  exact ⟨t, X.lastoreNull hexec (g := F0 m pc ls (.long x :: .int i :: .null :: rest)) rfl (rest := rest) rfl (by rw [hb]; exact hdg) t st, q⟩
theorem vx_fastoreN (hexec : p.tables.exec = Jvm.exec) (hb : c.code = cc) {x : UInt32} {i : Int32} (hdg : decode cc pc = .ok (.fastore, 1)) (k : vx_NoteN p l e R s m args below meth c H locs cells slots Q (F0 m pc ls rest)) : W p l e R s m args below meth c H locs cells slots Q (F0 m pc ls (.float x :: .int i :: .null :: rest)) := by
  intro T hT X
  obtain ⟨t, st, q⟩ := k T hT X
  exact ⟨t, X.fastoreNull hexec (g := F0 m pc ls (.float x :: .int i :: .null :: rest)) rfl (rest := rest) rfl (by rw [hb]; exact hdg) t st, q⟩
theorem vx_dastoreN (hexec : p.tables.exec = Jvm.exec) (hb : c.code = cc) {x : UInt64} {i : Int32} (hdg : decode cc pc = .ok (.dastore, 1)) (k : vx_NoteN p l e R s m args below meth c H locs cells slots Q (F0 m pc ls rest)) : W p l e R s m args below meth c H locs cells slots Q (F0 m pc ls (.double x :: .int i :: .null :: rest)) := by
  intro T hT X
  obtain ⟨t, st, q⟩ := k T hT X
  exact ⟨t, X.dastoreNull hexec (g := F0 m pc ls (.double x :: .int i :: .null :: rest)) rfl (rest := rest) rfl (by rw [hb]; exact hdg) t st, q⟩
theorem vx_bastoreN (hexec : p.tables.exec = Jvm.exec) (hb : c.code = cc) {x : Int32} {i : Int32} (hdg : decode cc pc = .ok (.bastore, 1)) (k : vx_NoteN p l e R s m args below meth c H locs cells slots Q (F0 m pc ls rest)) : W p l e R s m args below meth c H locs cells slots Q (F0 m pc ls (.int x :: .int i :: .null :: rest)) := by
  intro T hT X
  obtain ⟨t, st, q⟩ := k T hT X
  exact ⟨t, X.bastoreNull hexec (g := F0 m pc ls (.int x :: .int i :: .null :: rest)) rfl (rest := rest) rfl (by rw [hb]; exact hdg) t st, q⟩
theorem vx_castoreN (hexec : p.tables.exec = Jvm.exec) (hb : c.code = cc) {x : Int32} {i : Int32} (hdg : decode cc pc = .ok (.castore, 1)) (k : vx_NoteN p l e R s m args below meth c H locs cells slots Q (F0 m pc ls rest)) : W p l e R s m args below meth c H locs cells slots Q (F0 m pc ls (.int x :: .int i :: .null :: rest)) := by
  intro T hT X
  obtain ⟨t, st, q⟩ := k T hT X
  exact ⟨t, X.castoreNull hexec (g := F0 m pc ls (.int x :: .int i :: .null :: rest)) rfl (rest := rest) rfl (by rw [hb]; exact hdg) t st, q⟩
theorem vx_sastoreN (hexec : p.tables.exec = Jvm.exec) (hb : c.code = cc) {x : Int32} {i : Int32} (hdg : decode cc pc = .ok (.sastore, 1)) (k : vx_NoteN p l e R s m args below meth c H locs cells slots Q (F0 m pc ls rest)) : W p l e R s m args below meth c H locs cells slots Q (F0 m pc ls (.int x :: .int i :: .null :: rest)) := by
  intro T hT X
  obtain ⟨t, st, q⟩ := k T hT X
  exact ⟨t, X.sastoreNull hexec (g := F0 m pc ls (.int x :: .int i :: .null :: rest)) rfl (rest := rest) rfl (by rw [hb]; exact hdg) t st, q⟩
theorem vx_invokeN {own C : String} {index maxL : Nat} {y : MethodName} {bytes : ByteArray} {ret : Option FieldType} (hexec : p.tables.exec = Jvm.exec) (hb : c.code = cc) (hown : s.vm.findClass own = some m.cls) (hlink : (Cond.methodLink own index y).before args s = true) (hinst : (Cond.instanceMethod y).before args s = true) (hcode : (Cond.code y bytes maxL ret).before args s = true) (hsel : (Cond.selects C y y).before args s = true)
    (hx : y.cls ≠ "java/lang/invoke/MethodHandle" ∧ y.cls ≠ "java/lang/invoke/VarHandle") {As : List Value} (hlen : (parseMethodDescriptor y.desc).map (fun d => d.parameters.length) = some As.length) (hdg : decode cc pc = .ok (.invokevirtual index, 3))
    (k : vx_NoteN p l e R s m args below meth c H locs cells slots Q (F0 m pc ls rest)) {st0 : List Value} (hst : st0 = As.reverse ++ .null :: rest) : W p l e R s m args below meth c H locs cells slots Q (F0 m pc ls st0) := by
  intro T hT X
  obtain ⟨r0, r, hn, hrm, hstR, hsigR⟩ := va_Decl.of hinst hcode
  obtain ⟨c2, r2, m2, q1, q2, q3, q4, kP, hkP, hkPi⟩ := Cond.selects_spec hsel
  cases hn.symm.trans q3
  have hl9 : As.length = r.sig.parameters.length := by
    rw [hsigR] at hlen
    exact (Option.some.inj hlen).symm
  obtain ⟨vm', X1, st1⟩ := X.invokevirtualNull hexec hown hlink hn hrm hstR hkP hkPi hx (g := F0 m pc ls st0) rfl (argsL := As) (rest := rest) hl9 hst (by rw [hb]; exact hdg)
  obtain ⟨t, st, q⟩ := k (T.setVm vm') hT X1
  exact ⟨t, st1 t st, q⟩
theorem vx_newarrayZ {atype : ArrayType} (hexec : p.tables.exec = Jvm.exec) (hb : c.code = cc) {n : Int32} (h0 : n < 0) (hdg : decode cc pc = .ok (.newarray atype, 2)) (k : ∀ tx : String, tx = toString n → vx_Note p l e R s m args below meth c H locs cells slots Q (F0 m pc ls rest) "java/lang/NegativeArraySizeException" tx) : W p l e R s m args below meth c H locs cells slots Q (F0 m pc ls (.int n :: rest)) := by
  intro T hT X
  obtain ⟨t, st, q⟩ := k _ rfl T hT X
  exact ⟨t, X.newarrayNegative hexec (g := F0 m pc ls (.int n :: rest)) rfl h0 (rest := rest) rfl (by rw [hb]; exact hdg) t st, q⟩
end
end VXM
/-! ===== END ===== -/
/-! ===== BEGIN a private method of a nest mate that may throw (follows va_callVN, va_callSN, va_runVN, va_runSN) ===== -/
section
variable {p : Program} {l : Launch} {e : Env} {R : Room} {s : State} {m : MethodId} {args : Array Value} {below : List Frame} {meth : Method} {c : Code} {H : Heap} {locs : List Loc} {cells slots : Nat}
variable {T : State}
theorem vx_callVN (X : Stand p l e R s m args below meth c T locs cells slots) (hexec : p.tables.exec = Jvm.exec) {own C : String} {index : Nat} {host : String} {y : MethodName} {bytes : ByteArray} {maxL : Nat} {ret : Option FieldType}
    (hown : s.vm.findClass own = some m.cls) (hlink : (Cond.methodLinkNest own index y host).before args s = true) (hinst : (Cond.instanceMethod y).before args s = true) (hsel : (Cond.selects C y y).before args s = true)
    (hcode : (Cond.code y bytes maxL ret).before args s = true) (hy : y.cls ≠ "java/lang/invoke/MethodHandle" ∧ y.cls ≠ "java/lang/invoke/VarHandle")
    {W : Nat} {Pre : Pt → Array Value → Prop} {Post : Pt → Array Value → Option Value → Pt → Prop} {PostX : Pt → Array Value → Addr → Pt → Prop} (hK : vx_Back l R p e below s args y 3 W Pre Post PostX)
    {b : Addr} {cellB : Cell} (hcell : T.heap[b]? = some cellB) (hobj : cellB.vm.isStatics = false) (hcls : s.vm.findClass C = some cellB.cls)
    {g : JFrame} (hg : g.method = m) (hsize : g.locals.size = c.maxLocals) {argsL rest : List Value} (hlen : ∀ sig, parseMethodDescriptor y.desc = some sig → argsL.length = sig.parameters.length)
    (hstack : g.stack = argsL.reverse ++ .ref b :: rest) (hW : 2 * g.monitorRoom + (rest.map fun v => v.category).sum ≤ W) (hdg : decode c.code g.pc = .ok (.invokevirtual index, 3))
    (hpre : ∀ vm₁, s.WarmedH vm₁ → Pre ⟨T.setVm vm₁, locs, cells, slots⟩ (Value.ref b :: argsL).toArray) :
    (∃ (v : Option Value) (vm₁ : Vm) (B : Pt), s.WarmedH vm₁ ∧ Stand p l e R s m args below meth c B.U B.locs B.cells B.slots ∧ Post ⟨T.setVm vm₁, locs, cells, slots⟩ (Value.ref b :: argsL).toArray v B ∧
      ∀ target, Steps p.tables e below (B.U.setTop { g with pc := g.pc + 3, stack := v.toList ++ rest }) target → Steps p.tables e below (T.setTop g) target) ∨
    (∃ (q : Addr) (vm₁ : Vm) (B : Pt), s.WarmedH vm₁ ∧ Stand p l e R s m args below meth c B.U B.locs B.cells B.slots ∧ PostX ⟨T.setVm vm₁, locs, cells, slots⟩ (Value.ref b :: argsL).toArray q B ∧
      Steps p.tables e below (T.setTop g) ((B.U.setTop { g with stack := rest }).pushFrame (.throwing q))) := by
  obtain ⟨mk, methM, hnamed, hmethM, hstM, habM⟩ := Cond.instanceMethod_spec hinst
  obtain ⟨methM', cM, hmethM', -, -, -, -, -, -, hsigM⟩ := Cond.code_spec hnamed hcode
  cases hmethM.symm.trans hmethM'
  obtain ⟨c2, r2, m2, q1, q2, q3, q4, kP, hkP, hkPi⟩ := Cond.selects_spec hsel
  cases hcls.symm.trans q1
  cases (State.methodFound?_of_named hnamed hy).symm.trans q2
  cases hnamed.symm.trans q3
  have hselP : selectMethod e.platform s.vm cellB.cls mk = .method mk := by rw [Launch.admits_selectMethod X.admits]; exact q4
  obtain ⟨vm₁, X₁, hstep₁⟩ := X.invokevirtualNest hexec hown hlink hnamed hmethM hstM hkP hkPi hy (a := b) (cell := cellB) hcell
    (fun z h => by rw [h] at hobj; cases hobj) hselP hmethM habM hkP hkPi (g := g) hg (argsL := argsL) (rest := rest) (hlen _ hsigM) hstack hdg
  rcases hK m meth c ⟨T.setVm vm₁, locs, cells, slots⟩ { g with stack := rest } (.invokevirtual index) mk (Value.ref b :: argsL).toArray X₁ hg hsize hdg hW (X₁.named hnamed) (hpre vm₁ X₁.warmed) with ⟨v, B, X', hpost, hsteps⟩ | ⟨q, B, X', hpost, hsteps⟩
  · exact Or.inl ⟨v, vm₁, B, X₁.warmed, X', hpost, fun target h => hstep₁ _ fun acts => by rw [doInvoke_state]; exact hsteps.trans h⟩
  · exact Or.inr ⟨q, vm₁, B, X₁.warmed, X', hpost, hstep₁ _ fun acts => by rw [doInvoke_state]; exact hsteps⟩
theorem vx_callSN (X : Stand p l e R s m args below meth c T locs cells slots) (hexec : p.tables.exec = Jvm.exec) {own : String} {index : Nat} {host : String} {y : MethodName} {bytes : ByteArray} {maxL : Nat} {ret : Option FieldType}
    (hown : s.vm.findClass own = some m.cls) (hlink : (Cond.methodLinkNest own index y host).before args s = true) (hstat : (Cond.static y).before args s = true) (hinit : (Cond.initialized y.cls).before args s = true)
    (hcode : (Cond.code y bytes maxL ret).before args s = true) (hy : y.cls ≠ "java/lang/invoke/MethodHandle" ∧ y.cls ≠ "java/lang/invoke/VarHandle")
    {W : Nat} {Pre : Pt → Array Value → Prop} {Post : Pt → Array Value → Option Value → Pt → Prop} {PostX : Pt → Array Value → Addr → Pt → Prop} (hK : vx_Back l R p e below s args y 3 W Pre Post PostX)
    {g : JFrame} (hg : g.method = m) (hsize : g.locals.size = c.maxLocals) {argsL rest : List Value} (hlen : ∀ sig, parseMethodDescriptor y.desc = some sig → argsL.length = sig.parameters.length)
    (hstack : g.stack = argsL.reverse ++ rest) (hW : 2 * g.monitorRoom + (rest.map fun v => v.category).sum ≤ W) (hdg : decode c.code g.pc = .ok (.invokestatic index, 3))
    (hpre : ∀ vm₁, s.WarmedH vm₁ → Pre ⟨T.setVm vm₁, locs, cells, slots⟩ argsL.toArray) :
    (∃ (v : Option Value) (vm₁ : Vm) (B : Pt), s.WarmedH vm₁ ∧ Stand p l e R s m args below meth c B.U B.locs B.cells B.slots ∧ Post ⟨T.setVm vm₁, locs, cells, slots⟩ argsL.toArray v B ∧
      ∀ target, Steps p.tables e below (B.U.setTop { g with pc := g.pc + 3, stack := v.toList ++ rest }) target → Steps p.tables e below (T.setTop g) target) ∨
    (∃ (q : Addr) (vm₁ : Vm) (B : Pt), s.WarmedH vm₁ ∧ Stand p l e R s m args below meth c B.U B.locs B.cells B.slots ∧ PostX ⟨T.setVm vm₁, locs, cells, slots⟩ argsL.toArray q B ∧
      Steps p.tables e below (T.setTop g) ((B.U.setTop { g with stack := rest }).pushFrame (.throwing q))) := by
  obtain ⟨mk, hnamed⟩ := Cond.code_named hcode
  obtain ⟨methM, cM, hmethM, -, -, -, -, -, -, hsigM⟩ := Cond.code_spec hnamed hcode
  have hstatic : methM.isStatic = true := Cond.static_spec hnamed hmethM hstat
  obtain ⟨kP, hkP, -⟩ := className_of_methodNamed hnamed
  have hinitP : kP.init = .initialized := Cond.initialized_spec (findClass_of_methodNamed hnamed) hkP hinit
  obtain ⟨vm₁, X₁, hstep₁⟩ := X.invokestaticNest hexec hown hlink hnamed hmethM hstatic hkP hinitP hy (g := g) hg (argsL := argsL) (rest := rest) (hlen _ hsigM) hstack hdg
  rcases hK m meth c ⟨T.setVm vm₁, locs, cells, slots⟩ { g with stack := rest } (.invokestatic index) mk argsL.toArray X₁ hg hsize hdg hW (X₁.named hnamed) (hpre vm₁ X₁.warmed) with ⟨v, B, X', hpost, hsteps⟩ | ⟨q, B, X', hpost, hsteps⟩
  · exact Or.inl ⟨v, vm₁, B, X₁.warmed, X', hpost, fun target h => hstep₁ _ fun acts => by rw [doInvoke_state]; exact hsteps.trans h⟩
  · exact Or.inr ⟨q, vm₁, B, X₁.warmed, X', hpost, hstep₁ _ fun acts => by rw [doInvoke_state]; exact hsteps⟩
theorem vx_runVN {y : MethodName} {bytes cc : ByteArray} {maxL nL mc ms n index : Nat} {ret : Option FieldType} {ws : List Cond} {rm : Room} {Pc : Array Value → State → Prop} {Qc : Array Value → State → Outcome → State → Prop} {XC : String → State → State → Prop} {free : Addr → Prop} {Ts : List Cond} {own C host : String} {b : Addr} {As rest : List Value} {g : JFrame}
    (S : CallFix p m c cc nL s args Ts own) (hM : vx_Met l y ws rm Pc Qc XC mc ms free) (cw : va_CN R s args own index y host bytes maxL ret ws rm mc ms n ∧ (Cond.instanceMethod y).before args s = true ∧ (Cond.selects C y y).before args s = true) (hp : PreV s H C b Pc As)
    (hg : g.method = m) (hn : As.length = n) (hsize : g.locals.size = nL) (hstack : g.stack = As.reverse ++ .ref b :: rest) (hW : 2 * g.monitorRoom + (rest.map fun v => v.category).sum ≤ 8) (hdg : decode cc g.pc = .ok (.invokevirtual index, 3)) (hf : cells + mc ≤ R.cells ∧ slots + ms ≤ R.slots) :
    vx_Run p l e R s m args below meth c H locs cells slots mc ms g rest (Qc (Value.ref b :: As).toArray) XC free := by
  obtain ⟨⟨⟨hrc, hrs, hfr, hlo, hws, hcw⟩, hcode, hini, hy, hlen, hl⟩, hx1, hx2⟩ := cw
  have hK : vx_Back l R p e below s args y 3 8 (PreOf R mc ms Pc) (PostOf Qc mc ms free) (vx_Post XC mc ms free) := vx_back (bytes := bytes) (maxL := maxL) (ret := ret) hM hp.1 hrc hrs hfr hlo hws hcw (fun a' U hW => word_at hW (Or.inl (by first | rfl | simp [Cond.onTables, Cond.keeps, Cond.steady])) hini)
  obtain ⟨hx, hb, hml, ho, -⟩ := S
  obtain ⟨-, ⟨cellB, hcB, hoB, hclB⟩, hPc⟩ := hp
  intro T hT X
  rcases vx_callVN X hx (C := C) (bytes := bytes) (maxL := maxL) (ret := ret) ho hl hx1 hx2 hcode hy hK (by rw [hT]; exact hcB) hoB hclB hg (hsize.trans hml.symm) (argsL := As) (rest := rest) (fun sig h => hn.trans (hlen sig h)) hstack hW (by rw [hb]; exact hdg)
    (fun vm₁ hW₁ => ⟨hf.1, hf.2, hPc (T.setVm vm₁) hT hW₁⟩) with ⟨v, vm₁, ⟨U', l2, c2, s2⟩, hW₁, X', ⟨g', mk, t, L, e1, e2, hq, h1, hL, h2, h3⟩, st⟩ | ⟨q, vm₁, ⟨U', l2, c2, s2⟩, hW₁, X', ⟨g', mk, t, L, E, ce, e1, e2, hq, hce, hcv, hcl, h1, hL, h2, h3⟩, st⟩
  · dsimp only [Pt.U, Pt.locs, Pt.cells, Pt.slots] at X' e1 e2 h1 h2 h3 st
    subst h1; subst h2; subst h3
    exact Or.inl ⟨v, (T.setVm vm₁).calling g' mk (Value.ref b :: As).toArray, t, U', L, hT, X', hL, e1, e2, hq, st⟩
  · dsimp only [Pt.U, Pt.locs, Pt.cells, Pt.slots] at X' e1 e2 h1 h2 h3 st hcl
    subst h1; subst h2; subst h3
    exact Or.inr ⟨q, (T.setVm vm₁).calling g' mk (Value.ref b :: As).toArray, t, U', L, E, ce, hT, X', hL, e1, e2, hq, hce, hcv, vx_cls hW₁ hcl, st⟩
theorem vx_runSN {y : MethodName} {bytes cc : ByteArray} {maxL nL mc ms n index : Nat} {ret : Option FieldType} {ws : List Cond} {rm : Room} {Pc : Array Value → State → Prop} {Qc : Array Value → State → Outcome → State → Prop} {XC : String → State → State → Prop} {free : Addr → Prop} {Ts : List Cond} {own host : String} {As rest : List Value} {g : JFrame}
    (S : CallFix p m c cc nL s args Ts own) (hM : vx_Met l y ws rm Pc Qc XC mc ms free) (cw : va_CN R s args own index y host bytes maxL ret ws rm mc ms n ∧ (Cond.static y).before args s = true ∧ True) (hp : PreS s H Pc As)
    (hg : g.method = m) (hn : As.length = n) (hsize : g.locals.size = nL) (hstack : g.stack = As.reverse ++ rest) (hW : 2 * g.monitorRoom + (rest.map fun v => v.category).sum ≤ 8) (hdg : decode cc g.pc = .ok (.invokestatic index, 3)) (hf : cells + mc ≤ R.cells ∧ slots + ms ≤ R.slots) :
    vx_Run p l e R s m args below meth c H locs cells slots mc ms g rest (Qc As.toArray) XC free := by
  obtain ⟨⟨⟨hrc, hrs, hfr, hlo, hws, hcw⟩, hcode, hini, hy, hlen, hl⟩, hx1, hx2⟩ := cw
  have hK : vx_Back l R p e below s args y 3 8 (PreOf R mc ms Pc) (PostOf Qc mc ms free) (vx_Post XC mc ms free) := vx_back (bytes := bytes) (maxL := maxL) (ret := ret) hM hp.1 hrc hrs hfr hlo hws hcw (fun a' U hW => word_at hW (Or.inl (by first | rfl | simp [Cond.onTables, Cond.keeps, Cond.steady])) hini)
  obtain ⟨hx, hb, hml, ho, -⟩ := S
  have hPc := hp.2
  intro T hT X
  rcases vx_callSN X hx (bytes := bytes) (maxL := maxL) (ret := ret) ho hl hx1 hini hcode hy hK hg (hsize.trans hml.symm) (argsL := As) (rest := rest) (fun sig h => hn.trans (hlen sig h)) hstack hW (by rw [hb]; exact hdg)
    (fun vm₁ hW₁ => ⟨hf.1, hf.2, hPc (T.setVm vm₁) hT hW₁⟩) with ⟨v, vm₁, ⟨U', l2, c2, s2⟩, hW₁, X', ⟨g', mk, t, L, e1, e2, hq, h1, hL, h2, h3⟩, st⟩ | ⟨q, vm₁, ⟨U', l2, c2, s2⟩, hW₁, X', ⟨g', mk, t, L, E, ce, e1, e2, hq, hce, hcv, hcl, h1, hL, h2, h3⟩, st⟩
  · dsimp only [Pt.U, Pt.locs, Pt.cells, Pt.slots] at X' e1 e2 h1 h2 h3 st
    subst h1; subst h2; subst h3
    exact Or.inl ⟨v, (T.setVm vm₁).calling g' mk As.toArray, t, U', L, hT, X', hL, e1, e2, hq, st⟩
  · dsimp only [Pt.U, Pt.locs, Pt.cells, Pt.slots] at X' e1 e2 h1 h2 h3 st hcl
    subst h1; subst h2; subst h3
    exact Or.inr ⟨q, (T.setVm vm₁).calling g' mk As.toArray, t, U', L, E, ce, hT, X', hL, e1, e2, hq, hce, hcv, vx_cls hW₁ hcl, st⟩
end
/-! ===== END ===== -/
end
section
/-! ===== a throw with a text, of a class whose constructor passes on by the entry ix (turned from kit/laws/EXCEPTIONS.to-paste) ===== -/
def vy_atoms (own : String) (ic : Nat) (X Y : String) (ix : Nat) (bb : ByteArray) (names : List String) : List Cond :=
  Bundle.throwableAtoms ++ Bundle.throwableSAtoms ++ (Bundle.passSAtoms X Y ix bb ++ Bundle.chainSAtoms Y names) ++
  [.methodLink own ic (Bundle.initS X), .instantiable X 6, .castable X X, .selects X Bundle.tFill0 Bundle.tFill0, .selects X Bundle.tFill Bundle.tFill,
   .lays X Bundle.tN "cause" "Ljava/lang/Throwable;", .lays X Bundle.tN "stackTrace" Bundle.steD, .lays X Bundle.tN "suppressedExceptions" Bundle.listD, .lays X Bundle.tN "detailMessage" "Ljava/lang/String;",
   .isRef (.static Bundle.tN "UNASSIGNED_STACK" Bundle.steD), .isRef (.static Bundle.tN "SUPPRESSED_SENTINEL" Bundle.listD),
   .fieldLink Bundle.tN 198 Bundle.tN "backtrace" "Ljava/lang/Object;", .lays Bundle.tN Bundle.tN "backtrace" "Ljava/lang/Object;", .lays X Bundle.tN "backtrace" "Ljava/lang/Object;"]
def vy_atS (own : String) (ic : Nat) (X Y : String) (ix : Nat) (bb : ByteArray) (names : List String) : List Cond := (vy_atoms own ic X Y ix bb names).filter vx_no
def vy_b (bb : ByteArray) (ix : Nat) : Prop := decode bb 0 = .ok (.aload_n 0, 1) ∧ decode bb 1 = .ok (.aload_n 1, 1) ∧ decode bb 2 = .ok (.invokespecial ix, 3) ∧ decode bb 5 = .ok (.return_, 1)

section
variable {p : Program} {l : Launch} {e : Env} {R : Room} {s : State} {m₀ : MethodId} {args : Array Value} {below : List Frame} {meth : Method} {c : Code} {W : State} {locs : List Loc} {cells slots : Nat}
set_option maxHeartbeats 1000000 in
theorem vy_ctorMadeS (X : Stand p l e R s m₀ args below meth c W locs cells slots) (hexec : p.tables.exec = Jvm.exec) (htr : e.platform.stackTraces = false) {own cls Yc : String} {bb : ByteArray} {ix : Nat} {names : List String} {ic : Nat}
    (hown : s.vm.findClass own = some m₀.cls) (hcls : Bundle.fit cls = true) (hY : Bundle.fit Yc = true) (hbb : vy_b bb ix) (hnames : ∀ n ∈ names, Bundle.fit n = true)
    (h : ∀ a ∈ vy_atoms own ic cls Yc ix bb names, a.before args s = true)
    (hlocs : ∀ x ∈ locs, ∀ cell, s.heap[x.base]? = some cell → cell.vm.isStatics = false)
    {a : Addr} {cX : ClassId} {kX : Class} (hfoundX : s.vm.findClass cls = some cX) (hkX : s.vm.classes[cX]? = some kX) (hcell : W.heap[a]? = some (freshCell cX kX)) (hnew : s.heap.size ≤ a)
    {msg : Value} (hmsg : msg.isRef = true)
    {g : JFrame} (hg : g.method = m₀) (hsize : g.locals.size = c.maxLocals) {rest : List Value} (hstack : g.stack = msg :: .ref a :: .ref a :: rest)
    (hd6 : decode c.code g.pc = .ok (.invokespecial ic, 3))
    (hRframes : names.length + 4 < R.frames) (hRlocals : 2 * g.monitorRoom + ((Value.ref a :: rest).map fun v => v.category).sum + (13 * (names.length + 2) + 42) ≤ R.locals) :
    ∃ (V : State) (ce : Cell) (L : List Loc), Stand p l e R s m₀ args below meth c (V.setCell a ce) (locs ++ L) cells slots ∧ (∀ y ∈ L, y.base = a) ∧ a < V.heap.size ∧ ce.cls = cX ∧ ce.vm = .none ∧
      ∀ target, Steps p.tables e below ((V.setCell a ce).setTop { g with stack := .ref a :: rest, pc := g.pc + 3 }) target → Steps p.tables e below (W.setTop g) target := by
  have howns : e.platform.frameOwnsMonitors = true := by rw [X.admits.platform]
  have hfin : e.platform.finalization = false := by rw [X.admits.platform]
  have hpl : e.platform.magicAccessors = ({} : Platform).magicAccessors := by rw [X.admits.platform]
  have a' : ∀ x, x ∈ vy_atoms own ic cls Yc ix bb names → x.holds args s none s [] = true := fun x hx => h x hx
  obtain ⟨T, Z0, L, -, Y⟩ := ThrowableC.of_atoms (args := args) howns hfin hpl (fun x hx => h x (by simp [vy_atoms, hx]))
  obtain ⟨Z, M, LZ, LM, hnZ⟩ := Init0T.ofS_atoms (args := args) hpl L Y (fun x hx => h x (by simp [vy_atoms, hx]))
  obtain ⟨P1, L1, hP1m, hs1⟩ := PassC.ofS_atoms (args := args) (s := s) hpl (X := cls) (Y := Yc) (index := ix) (bytes := bb) (Bundle.fit_spec hcls).1 (Bundle.fit_spec hY).2 hbb.1 hbb.2.1 hbb.2.2.1 hbb.2.2.2 (fun x hx => h x (by simp [vy_atoms, hx]))
  obtain ⟨P2, Ps2, hlen2, L2, hL2, hP2m, hsup2, hpass2⟩ := Bundle.chainS (args := args) hpl hnZ names Yc hY hnames (fun x hx => h x (by simp [vy_atoms, hx]))
  have hlen : (P2 :: Ps2).length = names.length + 1 := by rw [List.length_cons, hlen2]
  have hL : ∀ P, P ∈ P2 :: Ps2 → P.LinksS e.platform s := by
    intro P hP
    rcases List.mem_cons.mp hP with rfl | hP
    · exact L2
    · exact hL2 P hP
  have hlink1 : P1.sup = P2.m := Option.some.inj (hs1.symm.trans hP2m)
  have hfound : s.vm.findClass cls = some P1.m.cls := findClass_of_methodNamed hP1m
  cases Option.some.inj (hfoundX.symm.trans hfound)
  obtain ⟨c1, kX', hc1, hk, hord, -, -, hn6⟩ := Cond.instantiable_spec (a' (.instantiable cls 6) (by simp [vy_atoms]))
  cases Option.some.inj (hc1.symm.trans hfound)
  cases Option.some.inj (hkX.symm.trans hk)
  have hsel0 : selectMethod e.platform s.vm P1.m.cls T.fill0 = .method T.fill0 := by
    obtain ⟨c2, r2, m2, q1, q2, q3, q4, -⟩ := Cond.selects_spec (a' (.selects cls Bundle.tFill0 Bundle.tFill0) (by simp [vy_atoms]))
    cases Option.some.inj (q1.symm.trans hfound)
    cases Option.some.inj (q2.symm.trans (State.methodFound?_of_named Y.fill0 (by decide)))
    cases Option.some.inj (q3.symm.trans Y.fill0)
    rw [Launch.admits_selectMethod X.admits]; exact q4
  have hselF : selectMethod e.platform s.vm P1.m.cls T.fill = .method T.fill := by
    obtain ⟨c2, r2, m2, q1, q2, q3, q4, -⟩ := Cond.selects_spec (a' (.selects cls Bundle.tFill Bundle.tFill) (by simp [vy_atoms]))
    cases Option.some.inj (q1.symm.trans hfound)
    cases Option.some.inj (q2.symm.trans (State.methodFound?_of_named Y.fill (by decide)))
    cases Option.some.inj (q3.symm.trans Y.fill)
    rw [Launch.admits_selectMethod X.admits]; exact q4
  obtain ⟨cellS0, hcS0, hiss⟩ := Y.statics
  obtain ⟨u0, hu0⟩ := Cond.staticRefV Y.unassigned L.unassignedStatic L.statics hcS0 hiss (a' (.isRef (.static Bundle.tN "UNASSIGNED_STACK" Bundle.steD)) (by simp [vy_atoms]))
  obtain ⟨sen, hsen⟩ := Cond.staticRefV Y.sentinel L.sentinelStatic L.statics hcS0 hiss (a' (.isRef (.static Bundle.tN "SUPPRESSED_SENTINEL" Bundle.listD)) (by simp [vy_atoms]))
  obtain ⟨ci198, i198, fB, hk198, hg198, ha198, hsB, -, hnB, htB, hffB⟩ := Cond.ownField (t := .object "java/lang/Object") Y.found L.cls (by decide +kernel) (a' (.fieldLink Bundle.tN 198 Bundle.tN "backtrace" "Ljava/lang/Object;") (by simp [vy_atoms])) (a' (.lays Bundle.tN Bundle.tN "backtrace" "Ljava/lang/Object;") (by simp [vy_atoms])) e.platform hpl
  obtain ⟨cellS, hcS', heS, -, hkeep⟩ := X.same.2.2.2.2.2 T.aS cellS0 hcS0
  have hcellS : W.heap[T.aS]? = some cellS := hcS'
  have hout' : ∀ i, (⟨T.aS, i⟩ : Loc) ∉ locs := fun i hmem => by
    have := hlocs _ hmem cellS0 hcS0
    rw [hiss] at this; cases this
  have hknownS : cellS.vm ≠ .unknown := by
    rw [heS]; intro hu
    rw [show cellS0.vm = .unknown from hu] at hiss
    cases hiss
  have hneS : T.aS ≠ a := Nat.ne_of_lt (Nat.lt_of_lt_of_le (Array.getElem?_eq_some_iff.mp hcS0).1 hnew)
  obtain ⟨iM, hffM⟩ := Y.msg
  obtain ⟨tyC, dC, hdC, hdnC⟩ := Cond.laysAt hfound hk Y.cause (a' (.lays cls Bundle.tN "cause" "Ljava/lang/Throwable;") (by simp [vy_atoms]))
  obtain ⟨tyS, dS, hdS, hdnS⟩ := Cond.laysAt hfound hk Y.stack (a' (.lays cls Bundle.tN "stackTrace" Bundle.steD) (by simp [vy_atoms]))
  obtain ⟨tyP, dP, hdP, hdnP⟩ := Cond.laysAt hfound hk Y.supp (a' (.lays cls Bundle.tN "suppressedExceptions" Bundle.listD) (by simp [vy_atoms]))
  obtain ⟨tyM, dM, hdM, hdnM⟩ := Cond.laysAt hfound hk hffM (a' (.lays cls Bundle.tN "detailMessage" "Ljava/lang/String;") (by simp [vy_atoms]))
  obtain ⟨tyB, dB, hdB, hdnB⟩ := Cond.laysAt hfound hk hffB (a' (.lays cls Bundle.tN "backtrace" "Ljava/lang/Object;") (by simp [vy_atoms]))
  have bC := Cond.laysApart hdB hdC hdnB hdnC (by rw [hnB, Y.causeName]; decide)
  have bS := Cond.laysApart hdB hdS hdnB hdnS (by rw [hnB, Y.stackName]; decide)
  have bP := Cond.laysApart hdB hdP hdnB hdnP (by rw [hnB, Y.suppName]; decide)
  have hskip : SkipFacts T e.platform s (fun u => u) u0 ((preparedCellV T.toThrowableT (freshCell P1.m.cls kX) a u0 sen).withEntry W.cur) :=
    ⟨{ ci198 := ci198, i198 := i198, fBack := fB }, ⟨hk198, hg198, ha198, hsB⟩, by
      have := fresh_default (c := P1.m.cls) tyB
      rw [htB] at this
      simpa [preparedCellV, Cell.setSlot, Cell.withEntry, Array.getElem?_setIfInBounds, bC, bS, bP, bC.symm, bS.symm, bP.symm, defaultValue] using this, fun _ _ => rfl⟩
  obtain ⟨tm, methC, cdC, kC, vm₁, hnC, -, -, -, -, -, -, -, hW₁, st1⟩ := Steps.initColdS (tb := p.tables) (e := e) (below := below) (s := s) (U := W) X.here hexec X.warmed hpl hown (t := Bundle.initS cls) rfl rfl (Bundle.fit_spec hcls).2
    (a' (.methodLink own ic (Bundle.initS cls)) (by simp [vy_atoms])) (h (.instanceMethod (Bundle.initS cls)) (by simp [vy_atoms, Bundle.passSAtoms])) (bytes := bb) (maxL := 2) (h (.code (Bundle.initS cls) bb 2 none) (by simp [vy_atoms, Bundle.passSAtoms]))
    (f := g) hg (a := a) (msg := msg) (rest := .ref a :: rest) hstack hd6
  cases Option.some.inj (hnC.symm.trans hP1m)
  have X₁ := X.noted hW₁
  obtain ⟨vm₂, X₂, st2⟩ := X₁.ctorMessageOffV hexec (g := { g with stack := .ref a :: rest }) hg hsize T L Z LZ M LM (P1 :: P2 :: Ps2)
    (fun P hP => by rcases List.mem_cons.mp hP with rfl | hP; exact L1; exact hL P hP) ⟨hlink1, hsup2, hpass2⟩ (u0 := u0) (sen := sen) (self := a) hmsg (cell := freshCell P1.m.cls kX) (cellS := cellS)
    hcell (fun _ => by simp) (by simp) rfl rfl hsel0 hselF hcellS hneS hknownS (by rw [hkeep _ (hout' _)]; exact hu0) (by rw [hkeep _ (hout' _)]; exact hsen)
    (Takes.of_laid hk hord tyC (by rw [Y.causeType]; rfl)) (Takes.of_laid hk hord tyS (by rw [Y.stackType]; exact fits_refV_array _ u0)) (Takes.of_laid hk hord tyP (by rw [Y.suppType]; exact fits_refV_object _ sen))
    (Takes.of_laid hk hord tyM (by rw [Y.msgType]; exact fits_refV_object _ ⟨msg, hmsg⟩)) Y.objLocals hskip htr [] hd6
    (by simp only [List.length_cons, hlen2]; omega) (by simp only [List.length_cons, hlen2]; exact hRlocals)
  have hlt : a < ((W.setVm vm₁).setVm vm₂).heap.size := (Array.getElem?_eq_some_iff.mp hcell).1
  refine ⟨(W.setVm vm₁).setVm vm₂, _, _, X₂, fun y hy => ?_, hlt, rfl, rfl, fun target hwalk => st1 _ (fun acts => ?_)⟩
  · simp only [List.mem_cons, List.not_mem_nil, or_false] at hy
    rcases hy with rfl | rfl | rfl | rfl | rfl <;> rfl
  · rw [doInvoke_state]
    exact st2 _ hwalk
end

section
variable {p : Program} {l : Launch} {e : Env} {R : Room} {s : State} {m : MethodId} {args : Array Value} {below : List Frame} {meth : Method} {c : Code} {H : Heap} {locs : List Loc} {cells slots : Nat} {ls : Array Slot} {rest : List Value} {Qc : Array Value → State → Outcome → State → Prop} {XC : String → State → State → Prop} {free : Addr → Prop}

set_option maxHeartbeats 4000000 in
theorem vy_throwS {cc : ByteArray} {pc : Nat} (hexec : p.tables.exec = Jvm.exec) (hb : c.code = cc) (hl : l.stackTraces = false) {own cls text Yc : String} {bb : ByteArray} {ix : Nat} {names : List String} {ik is ic mc ms sa : Nat} {A : Nat → Prop}
    (hown : s.vm.findClass own = some m.cls) (hcls : Bundle.fit cls = true) (hY : Bundle.fit Yc = true) (hbb : vy_b bb ix) (hnames : ∀ n ∈ names, Bundle.fit n = true)
    (hk : (Cond.classLink own ik cls).before args s = true) (hini : (Cond.initialized cls).before args s = true) (hstr : vk_R own is text sa s) (hat : ∀ w ∈ vy_atS own ic cls Yc ix bb names, w.before args s = true)
    (hgood : ∀ w ∈ Cond.classLink own ik cls :: Cond.initialized cls :: vy_atS own ic cls Yc ix bb names, vx_ot w = true)
    (hU : vx_Zq Bundle.tN "UNASSIGNED_STACK" Bundle.steD A s s.heap) (hN : vx_Zq Bundle.tN "SUPPRESSED_SENTINEL" Bundle.listD A s s.heap) (hS : va_S A s.heap H locs) (hsize : ls.size = c.maxLocals)
    (d0 : decode cc pc = .ok (.new ik, 3)) (d3 : decode cc (pc + 3) = .ok (.dup, 1)) (d4 : decode cc (pc + 4) = .ok (.ldc is, 2)) (d6 : decode cc (pc + 6) = .ok (.invokespecial ic, 3)) (d9 : decode cc (pc + 9) = .ok (.athrow, 1))
    (hout : ∀ x ∈ c.exceptionTable.toList, covers x (pc + 9) = false)
    (hRframes : names.length + 4 < R.frames) (hRlocals : (rest.map fun v => v.category).sum + (13 * (names.length + 2) + 43) ≤ R.locals) (hRcells : cells + 1 ≤ R.cells) (hRslots : slots + 6 ≤ R.slots) (hlocks : meth.locks = false)
    (hx : ∀ t : State, s.vm.Alike t.vm → H.size ≤ t.heap.size → (∀ q : Nat, q < H.size → t.heap[q]? = H[q]?) → XC cls s t)
    (hf : ∀ z ∈ locs, free z.base) (hc : cells + 1 ≤ mc) (hs : slots + 6 ≤ ms) :
    W p l e R s m args below meth c H locs cells slots (vx_MQ below Qc XC args s mc ms free) (F0 m pc ls rest) := by
  intro T hT X
  have htr : e.platform.stackTraces = false := (show e.platform.stackTraces = l.stackTraces by rw [X.admits.platform]).trans hl
  have Y := vx_rebase X (R' := { frames := R.frames, locals := R.locals, cells := 1, slots := 6 }) (Nat.le_refl _) (Nat.le_refl _) hRcells hRslots
  obtain ⟨s', hA⟩ : ∃ z, z = (T.setVm s.vm).setFrames (.invoking m args :: below) := ⟨_, rfl⟩
  rw [← hA] at Y
  have hvm : s'.vm = s.vm := by rw [hA]; rfl
  have hhp : s'.heap = H := by rw [hA]; exact hT
  have hW0 : s.WarmedH s'.vm := by rw [hvm]; exact State.WarmedH.refl s
  have hat' : ∀ w ∈ vy_atS own ic cls Yc ix bb names, w.before args s' = true := fun w hw => vx_ot_at hW0 hvm.symm (hgood w (List.mem_cons_of_mem _ (List.mem_cons_of_mem _ hw))) (hat w hw)
  have hk' : (Cond.classLink own ik cls).before args s' = true := vx_ot_at hW0 hvm.symm (hgood _ List.mem_cons_self) hk
  have hini' : (Cond.initialized cls).before args s' = true := vx_ot_at hW0 hvm.symm (hgood _ (List.mem_cons_of_mem _ List.mem_cons_self)) hini
  have hU' : vx_Zq Bundle.tN "UNASSIGNED_STACK" Bundle.steD A s' s'.heap := by rw [hhp]; exact vx_Zq.moved hW0.alike (hU.kept hS.2.1)
  have hN' : vx_Zq Bundle.tN "SUPPRESSED_SENTINEL" Bundle.listD A s' s'.heap := by rw [hhp]; exact vx_Zq.moved hW0.alike (hN.kept hS.2.1)
  have h : ∀ w ∈ vy_atoms own ic cls Yc ix bb names, w.before args s' = true := vx_own hat' (vx_isRefq hU'.1) (vx_isRefq hN'.1) hU'.2.word hN'.2.word
  have hown' : s'.vm.findClass own = some m.cls := by rw [hvm]; exact hown
  have hins : (Cond.instantiable cls 6).before args s' = true := h _ (by simp [vy_atoms])
  obtain ⟨vm₁, cX, kX, hfX, hkX, -, -, X₁, st1⟩ := Y.newCold hexec (own := own) (C := cls) (index := ik) (n := 6) hown' hk' hins hini'
    (g := F0 m pc ls rest) rfl (by rw [hb]; exact d0) (Nat.le_refl _) (Nat.le_refl _)
  generalize hT1 : (T.setVm vm₁).pushCell { cls := cX, slots := kX.instanceTypes.map defaultValue, vm := .none } = T1 at X₁ st1
  have hcat : (Value.ref T.heap.size).category = 1 := rfl
  have hcellA : T1.heap[T.heap.size]? = some (freshCell cX kX) := by rw [← hT1]; exact State.heap_pushCell_size _ _
  have d3' : decode c.code (pc + 3) = .ok (.dup, 1) := by rw [hb]; exact d3
  have d4' : decode c.code (pc + 4) = .ok (.ldc is, 2) := by rw [hb]; exact d4
  have hstr' : vk_R own is text sa s' := vk_R.warm hW0 hstr
  obtain ⟨V9, ce, L9, X₃, hLb, hlt9, hcl9, hvm9, st9⟩ := vy_ctorMadeS X₁ hexec htr (own := own) (cls := cls) (Yc := Yc) (bb := bb) (ix := ix) (names := names) (ic := ic) hown' hcls hY hbb hnames h (fun x hx => nomatch hx) hfX hkX hcellA (by rw [hhp, hT]; exact Nat.le_refl _) (msg := .ref sa) rfl
    (g := { method := m, pc := pc + 6, locals := ls, stack := .ref sa :: .ref T.heap.size :: .ref T.heap.size :: rest, locked := none }) rfl hsize (rest := rest) rfl
    (by rw [hb]; exact d6) hRframes (by simp only [List.map_cons, List.sum_cons, hcat]; omega)
  obtain ⟨hwalk, hrun, hend, hW, hsame0⟩ := X₃.athrowLeaves hexec (g := { method := m, pc := pc + 6 + 3, locals := ls, stack := .ref T.heap.size :: rest, locked := none }) rfl rfl rfl hout (a := T.heap.size) (rest := rest) rfl (by rw [hb]; exact d9)
  have hsteps := st9 _ hwalk
  have hce := heapAt_setCell_self (s := V9) ce hlt9
  have hsz0 : s'.heap.size = T.heap.size := by rw [hhp, hT]
  have hsame := hsame0.weaken (l' := []) (fun y hy hlt' => by
    rcases List.mem_append.mp hy with h1 | h1
    · exact h1
    · rw [hLb y h1] at hlt'
      exact (Nat.not_lt.mpr (Nat.le_of_eq hsz0) hlt').elim) (Nat.le_refl _) (Nat.le_refl _)
  generalize hUU : State.setFrames _ _ = U at hsteps hrun hend hW hsame
  obtain ⟨f1, f2⟩ := vx_frame hsame
  rw [hhp] at f1 f2
  have hWs : s.WarmedH U.vm := State.WarmedH.trans hW0 hW
  have hcl : s.vm.findClass cls = some ce.cls := by
    rw [hcl9, ← hvm]
    exact hfX
  have hceU : U.heap[T.heap.size]? = some ce := by rw [← hUU]; exact hce
  have hall : s.sameButNew ({ U with vm := s.vm } : State) locs mc ms := by
    subst hA
    obtain ⟨e1, e2⟩ := hsame
    rw [State.setFrames_setFrames] at e1
    have h2 : (T.setVm s.vm).sameButNew ({ U with vm := s.vm } : State) [] (0 + 1) (0 + 6) := ⟨e1, e2⟩
    have h3 := X.same.trans h2
    rw [List.append_nil] at h3
    exact h3.mono hc hs
  refine ⟨U, ?_, .threw T.heap.size, hrun, hend, Or.inr ⟨T.heap.size, rfl, cls, ce, locs, hx U hWs.alike f1 (fun q hq => f2 q hq (fun z hz => nomatch hz)), hceU, hvm9, hcl, hWs, hall, hf⟩⟩
  refine st1 _ ?_
  show Steps p.tables e below (T1.setTop { method := m, pc := pc + 3, locals := ls, stack := .ref T.heap.size :: rest, locked := none }) _
  jvm_step X₁.here [X₁.here.top, hexec, d3', Value.category]
  exact X₁.ldcString hexec (own := own) (text := text) (index := is) (a := sa) hown' hstr'.1 hstr'.2
    (g := { method := m, pc := pc + 4, locals := ls, stack := .ref T.heap.size :: .ref T.heap.size :: rest, locked := none }) rfl d4' _ hsteps

set_option maxHeartbeats 4000000 in
theorem vy_throwSW {cc : ByteArray} {pc : Nat} (hexec : p.tables.exec = Jvm.exec) (hb : c.code = cc) (hl : l.stackTraces = false) {own cls text Yc : String} {bb : ByteArray} {ix : Nat} {names : List String} {ik is ic mc ms sa : Nat} {A : Nat → Prop}
    (hown : s.vm.findClass own = some m.cls) (hcls : Bundle.fit cls = true) (hY : Bundle.fit Yc = true) (hbb : vy_b bb ix) (hnames : ∀ n ∈ names, Bundle.fit n = true)
    (hk : (Cond.classLink own ik cls).before args s = true) (hini : (Cond.initialized cls).before args s = true) (hstr : vk_R own is text sa s) (hat : ∀ w ∈ vy_atS own ic cls Yc ix bb names, w.before args s = true)
    (hgood : ∀ w ∈ Cond.classLink own ik cls :: Cond.initialized cls :: vy_atS own ic cls Yc ix bb names, vx_ot w = true)
    (hU : vx_Zq Bundle.tN "UNASSIGNED_STACK" Bundle.steD A s s.heap) (hN : vx_Zq Bundle.tN "SUPPRESSED_SENTINEL" Bundle.listD A s s.heap) (hS : va_S A s.heap H locs) (hsize : ls.size = c.maxLocals)
    (d0 : decode cc pc = .ok (.new ik, 3)) (d3 : decode cc (pc + 3) = .ok (.dup, 1)) (d4 : decode cc (pc + 4) = .ok (.ldc_w is, 3)) (d7 : decode cc (pc + 7) = .ok (.invokespecial ic, 3)) (d10 : decode cc (pc + 10) = .ok (.athrow, 1))
    (hout : ∀ x ∈ c.exceptionTable.toList, covers x (pc + 10) = false)
    (hRframes : names.length + 4 < R.frames) (hRlocals : (rest.map fun v => v.category).sum + (13 * (names.length + 2) + 43) ≤ R.locals) (hRcells : cells + 1 ≤ R.cells) (hRslots : slots + 6 ≤ R.slots) (hlocks : meth.locks = false)
    (hx : ∀ t : State, s.vm.Alike t.vm → H.size ≤ t.heap.size → (∀ q : Nat, q < H.size → t.heap[q]? = H[q]?) → XC cls s t)
    (hf : ∀ z ∈ locs, free z.base) (hc : cells + 1 ≤ mc) (hs : slots + 6 ≤ ms) :
    W p l e R s m args below meth c H locs cells slots (vx_MQ below Qc XC args s mc ms free) (F0 m pc ls rest) := by
  intro T hT X
  have htr : e.platform.stackTraces = false := (show e.platform.stackTraces = l.stackTraces by rw [X.admits.platform]).trans hl
  have Y := vx_rebase X (R' := { frames := R.frames, locals := R.locals, cells := 1, slots := 6 }) (Nat.le_refl _) (Nat.le_refl _) hRcells hRslots
  obtain ⟨s', hA⟩ : ∃ z, z = (T.setVm s.vm).setFrames (.invoking m args :: below) := ⟨_, rfl⟩
  rw [← hA] at Y
  have hvm : s'.vm = s.vm := by rw [hA]; rfl
  have hhp : s'.heap = H := by rw [hA]; exact hT
  have hW0 : s.WarmedH s'.vm := by rw [hvm]; exact State.WarmedH.refl s
  have hat' : ∀ w ∈ vy_atS own ic cls Yc ix bb names, w.before args s' = true := fun w hw => vx_ot_at hW0 hvm.symm (hgood w (List.mem_cons_of_mem _ (List.mem_cons_of_mem _ hw))) (hat w hw)
  have hk' : (Cond.classLink own ik cls).before args s' = true := vx_ot_at hW0 hvm.symm (hgood _ List.mem_cons_self) hk
  have hini' : (Cond.initialized cls).before args s' = true := vx_ot_at hW0 hvm.symm (hgood _ (List.mem_cons_of_mem _ List.mem_cons_self)) hini
  have hU' : vx_Zq Bundle.tN "UNASSIGNED_STACK" Bundle.steD A s' s'.heap := by rw [hhp]; exact vx_Zq.moved hW0.alike (hU.kept hS.2.1)
  have hN' : vx_Zq Bundle.tN "SUPPRESSED_SENTINEL" Bundle.listD A s' s'.heap := by rw [hhp]; exact vx_Zq.moved hW0.alike (hN.kept hS.2.1)
  have h : ∀ w ∈ vy_atoms own ic cls Yc ix bb names, w.before args s' = true := vx_own hat' (vx_isRefq hU'.1) (vx_isRefq hN'.1) hU'.2.word hN'.2.word
  have hown' : s'.vm.findClass own = some m.cls := by rw [hvm]; exact hown
  have hins : (Cond.instantiable cls 6).before args s' = true := h _ (by simp [vy_atoms])
  obtain ⟨vm₁, cX, kX, hfX, hkX, -, -, X₁, st1⟩ := Y.newCold hexec (own := own) (C := cls) (index := ik) (n := 6) hown' hk' hins hini'
    (g := F0 m pc ls rest) rfl (by rw [hb]; exact d0) (Nat.le_refl _) (Nat.le_refl _)
  generalize hT1 : (T.setVm vm₁).pushCell { cls := cX, slots := kX.instanceTypes.map defaultValue, vm := .none } = T1 at X₁ st1
  have hcat : (Value.ref T.heap.size).category = 1 := rfl
  have hcellA : T1.heap[T.heap.size]? = some (freshCell cX kX) := by rw [← hT1]; exact State.heap_pushCell_size _ _
  have d3' : decode c.code (pc + 3) = .ok (.dup, 1) := by rw [hb]; exact d3
  have d4' : decode c.code (pc + 4) = .ok (.ldc_w is, 3) := by rw [hb]; exact d4
  have hstr' : vk_R own is text sa s' := vk_R.warm hW0 hstr
  obtain ⟨V9, ce, L9, X₃, hLb, hlt9, hcl9, hvm9, st9⟩ := vy_ctorMadeS X₁ hexec htr (own := own) (cls := cls) (Yc := Yc) (bb := bb) (ix := ix) (names := names) (ic := ic) hown' hcls hY hbb hnames h (fun x hx => nomatch hx) hfX hkX hcellA (by rw [hhp, hT]; exact Nat.le_refl _) (msg := .ref sa) rfl
    (g := { method := m, pc := pc + 7, locals := ls, stack := .ref sa :: .ref T.heap.size :: .ref T.heap.size :: rest, locked := none }) rfl hsize (rest := rest) rfl
    (by rw [hb]; exact d7) hRframes (by simp only [List.map_cons, List.sum_cons, hcat]; omega)
  obtain ⟨hwalk, hrun, hend, hW, hsame0⟩ := X₃.athrowLeaves hexec (g := { method := m, pc := pc + 7 + 3, locals := ls, stack := .ref T.heap.size :: rest, locked := none }) rfl rfl rfl hout (a := T.heap.size) (rest := rest) rfl (by rw [hb]; exact d10)
  have hsteps := st9 _ hwalk
  have hce := heapAt_setCell_self (s := V9) ce hlt9
  have hsz0 : s'.heap.size = T.heap.size := by rw [hhp, hT]
  have hsame := hsame0.weaken (l' := []) (fun y hy hlt' => by
    rcases List.mem_append.mp hy with h1 | h1
    · exact h1
    · rw [hLb y h1] at hlt'
      exact (Nat.not_lt.mpr (Nat.le_of_eq hsz0) hlt').elim) (Nat.le_refl _) (Nat.le_refl _)
  generalize hUU : State.setFrames _ _ = U at hsteps hrun hend hW hsame
  obtain ⟨f1, f2⟩ := vx_frame hsame
  rw [hhp] at f1 f2
  have hWs : s.WarmedH U.vm := State.WarmedH.trans hW0 hW
  have hcl : s.vm.findClass cls = some ce.cls := by
    rw [hcl9, ← hvm]
    exact hfX
  have hceU : U.heap[T.heap.size]? = some ce := by rw [← hUU]; exact hce
  have hall : s.sameButNew ({ U with vm := s.vm } : State) locs mc ms := by
    subst hA
    obtain ⟨e1, e2⟩ := hsame
    rw [State.setFrames_setFrames] at e1
    have h2 : (T.setVm s.vm).sameButNew ({ U with vm := s.vm } : State) [] (0 + 1) (0 + 6) := ⟨e1, e2⟩
    have h3 := X.same.trans h2
    rw [List.append_nil] at h3
    exact h3.mono hc hs
  refine ⟨U, ?_, .threw T.heap.size, hrun, hend, Or.inr ⟨T.heap.size, rfl, cls, ce, locs, hx U hWs.alike f1 (fun q hq => f2 q hq (fun z hz => nomatch hz)), hceU, hvm9, hcl, hWs, hall, hf⟩⟩
  refine st1 _ ?_
  show Steps p.tables e below (T1.setTop { method := m, pc := pc + 3, locals := ls, stack := .ref T.heap.size :: rest, locked := none }) _
  jvm_step X₁.here [X₁.here.top, hexec, d3', Value.category]
  exact X₁.ldcStringW hexec (own := own) (text := text) (index := is) (a := sa) hown' hstr'.1 hstr'.2
    (g := { method := m, pc := pc + 4, locals := ls, stack := .ref T.heap.size :: .ref T.heap.size :: rest, locked := none }) rfl d4' _ hsteps

end
end
section
/-! ===== AM1: straight stretches of bytecode as one function of program counter, locals and stack ===== -/
/-- references are numbers of cells; ad gives their addresses -/
def am_v (ad : Nat → Nat) : Value → Value
  | .ref c => .ref (ad c)
  | v => v
def am_get (L : List (Option Value)) (i : Nat) : Option Value := match L[i]? with
  | some o => o
  | none => none
/-- the locals that are known -/
def am_l (ad : Nat → Nat) (nL : Nat) (L : List (Option Value)) (ls : Array Slot) : Prop := ls.size = nL ∧ lv_wf ls ∧ ∀ (i : Nat) (v : Value), am_get L i = some v → ls[i]? = some (.val (am_v ad v))
theorem am_v_cat (ad : Nat → Nat) (v : Value) : (am_v ad v).category = v.category := by cases v <;> rfl
theorem am_get_set (L : List (Option Value)) (i j : Nat) (o : Option Value) (v : Value) (h : am_get (L.set i o) j = some v) : (j = i ∧ o = some v) ∨ (j ≠ i ∧ am_get L j = some v) := by
  unfold am_get at h ⊢
  rw [List.getElem?_set] at h
  by_cases e : i = j
  · subst e
    rw [if_pos rfl] at h
    refine Or.inl ⟨rfl, ?_⟩
    by_cases hl : i < L.length
    · rw [if_pos hl] at h
      exact h
    · rw [if_neg hl] at h
      cases h
  · rw [if_neg e] at h
    exact Or.inr ⟨fun q => e q.symm, h⟩
/-- the local ahead of i holds no long and no double -/
def am_ok1 (L : List (Option Value)) (i : Nat) : Bool := match i with
  | 0 => true
  | j + 1 => match am_get L j with
    | some v => v.category == 1
    | none => true
theorem am_store1 {ad : Nat → Nat} {nL : Nat} {L : List (Option Value)} {ls : Array Slot} {i : Nat} {v : Value} (h : am_l ad nL L ls) (hi : i < nL) (hc : v.category = 1) (hok : am_ok1 L i = true) :
    ∃ ls', storeLocals ls i (am_v ad v) = some ls' ∧ am_l ad nL (L.set i (some v)) ls' := by
  obtain ⟨h1, h2, h3⟩ := h
  have hc' : (am_v ad v).category = 1 := by rw [am_v_cat]; exact hc
  obtain ⟨ls', e, h4⟩ := lv_store1 (l := []) (v := am_v ad v) ⟨h1, h2, fun q hq => by cases hq⟩ hi hc'
  refine ⟨ls', e, h4.1, h4.2.1, fun j w hw => ?_⟩
  rcases am_get_set L i j _ w hw with ⟨rfl, hv⟩ | ⟨hj, hg⟩
  · cases hv
    exact h4.2.2 _ List.mem_cons_self
  · obtain ⟨ls2, e2, h5⟩ := lv_store1 (l := [(j, am_v ad w)]) (v := am_v ad v) ⟨h1, h2, fun q hq => by
      rw [List.mem_singleton.mp hq]
      exact h3 j w hg⟩ hi hc'
    cases e.symm.trans e2
    refine h5.2.2 (j, am_v ad w) (List.mem_cons_of_mem _ (List.mem_filter.mpr ⟨List.mem_singleton.mpr rfl, ?_⟩))
    have hne : (j == i) = false := by simpa using hj
    have h6 : (j + 1 == i && (am_v ad w).category == 2) = false := by
      by_cases e1 : j + 1 = i
      · subst e1
        have h7 : w.category = 1 := by
          have h8 : (match am_get L j with | some v => v.category == 1 | none => true) = true := hok
          rw [hg] at h8
          exact eq_of_beq h8
        simp [am_v_cat, h7]
      · simp [e1]
    simp [hne, h6]
theorem am_store2 {ad : Nat → Nat} {nL : Nat} {L : List (Option Value)} {ls : Array Slot} {i : Nat} {v : Value} (h : am_l ad nL L ls) (hi : i + 1 < nL) (hc : v.category = 2) (hok : am_ok1 L i = true) :
    ∃ ls', storeLocals ls i (am_v ad v) = some ls' ∧ am_l ad nL ((L.set (i + 1) none).set i (some v)) ls' := by
  obtain ⟨h1, h2, h3⟩ := h
  have hc' : (am_v ad v).category = 2 := by rw [am_v_cat]; exact hc
  obtain ⟨ls', e, h4⟩ := lv_store2 (l := []) (v := am_v ad v) ⟨h1, h2, fun q hq => by cases hq⟩ hi hc'
  refine ⟨ls', e, h4.1, h4.2.1, fun j w hw => ?_⟩
  rcases am_get_set _ i j _ w hw with ⟨rfl, hv⟩ | ⟨hj, hg⟩
  · cases hv
    exact h4.2.2 _ List.mem_cons_self
  · rcases am_get_set L (i + 1) j _ w hg with ⟨_, hv⟩ | ⟨hj2, hg2⟩
    · cases hv
    clear hg
    rename am_get L j = some w => hg
    obtain ⟨ls2, e2, h5⟩ := lv_store2 (l := [(j, am_v ad w)]) (v := am_v ad v) ⟨h1, h2, fun q hq => by
      rw [List.mem_singleton.mp hq]
      exact h3 j w hg⟩ hi hc'
    cases e.symm.trans e2
    refine h5.2.2 (j, am_v ad w) (List.mem_cons_of_mem _ (List.mem_filter.mpr ⟨List.mem_singleton.mpr rfl, ?_⟩))
    have hne : (j == i) = false := by simpa using hj
    have hne2 : (j == i + 1) = false := by simpa using hj2
    have h6 : (j + 1 == i && (am_v ad w).category == 2) = false := by
      by_cases e1 : j + 1 = i
      · subst e1
        have h7 : w.category = 1 := by
          have h8 : (match am_get L j with | some v => v.category == 1 | none => true) = true := hok
          rw [hg] at h8
          exact eq_of_beq h8
        simp [am_v_cat, h7]
      · simp [e1]
    simp [hne, hne2, h6]
def am_len : Instr → Nat
  | .iload _ => 2
  | .fload _ => 2
  | .lload _ => 2
  | .dload _ => 2
  | .aload _ => 2
  | .istore _ => 2
  | .fstore _ => 2
  | .lstore _ => 2
  | .dstore _ => 2
  | .astore _ => 2
  | .bipush _ => 2
  | .sipush _ => 3
  | .iinc _ _ => 3
  | .goto _ => 3
  | _ => 1
def am_ld (L : List (Option Value)) (st : List Value) (pc n i : Nat) (p : Value → Bool) : Option (Nat × List (Option Value) × List Value) := match am_get L i with
  | some v => if p v then some (pc + n, L, v :: st) else none
  | none => none
def am_isI : Value → Bool
  | .int _ => true
  | _ => false
def am_isL : Value → Bool
  | .long _ => true
  | _ => false
def am_isF : Value → Bool
  | .float _ => true
  | _ => false
def am_isD : Value → Bool
  | .double _ => true
  | _ => false
def am_isA : Value → Bool
  | .ref _ => true
  | _ => false
def am_s1 (nL : Nat) (L : List (Option Value)) (st : List Value) (pc n i : Nat) (p : Value → Bool) : Option (Nat × List (Option Value) × List Value) := match st with
  | v :: r => if p v && decide (i < nL) && am_ok1 L i then some (pc + n, L.set i (some v), r) else none
  | [] => none
def am_s2 (nL : Nat) (L : List (Option Value)) (st : List Value) (pc n i : Nat) (p : Value → Bool) : Option (Nat × List (Option Value) × List Value) := match st with
  | v :: r => if p v && decide (i + 1 < nL) && am_ok1 L i then some (pc + n, (L.set (i + 1) none).set i (some v), r) else none
  | [] => none
def am_b (L : List (Option Value)) (st : List Value) (pc : Nat) (f : Int32 → Int32 → Int32) : Option (Nat × List (Option Value) × List Value) := match st with
  | .int y :: .int x :: r => some (pc + 1, L, .int (f x y) :: r)
  | _ => none
def am_bl (L : List (Option Value)) (st : List Value) (pc : Nat) (f : Int64 → Int64 → Int64) : Option (Nat × List (Option Value) × List Value) := match st with
  | .long y :: .long x :: r => some (pc + 1, L, .long (f x y) :: r)
  | _ => none
def am_u (L : List (Option Value)) (st : List Value) (pc : Nat) (f : Int32 → Value) : Option (Nat × List (Option Value) × List Value) := match st with
  | .int x :: r => some (pc + 1, L, f x :: r)
  | _ => none
/-- one straight instruction -/
def am_i (nL : Nat) (i : Instr) (pc : Nat) (L : List (Option Value)) (st : List Value) : Option (Nat × List (Option Value) × List Value) := match i with
  | .iload_n k => am_ld L st pc 1 k.val am_isI
  | .iload k => am_ld L st pc 2 k am_isI
  | .fload_n k => am_ld L st pc 1 k.val am_isF
  | .fload k => am_ld L st pc 2 k am_isF
  | .lload_n k => am_ld L st pc 1 k.val am_isL
  | .lload k => am_ld L st pc 2 k am_isL
  | .dload_n k => am_ld L st pc 1 k.val am_isD
  | .dload k => am_ld L st pc 2 k am_isD
  | .aload_n k => am_ld L st pc 1 k.val am_isA
  | .aload k => am_ld L st pc 2 k am_isA
  | .istore_n k => am_s1 nL L st pc 1 k.val am_isI
  | .istore k => am_s1 nL L st pc 2 k am_isI
  | .fstore_n k => am_s1 nL L st pc 1 k.val am_isF
  | .fstore k => am_s1 nL L st pc 2 k am_isF
  | .astore_n k => am_s1 nL L st pc 1 k.val am_isA
  | .astore k => am_s1 nL L st pc 2 k am_isA
  | .lstore_n k => am_s2 nL L st pc 1 k.val am_isL
  | .lstore k => am_s2 nL L st pc 2 k am_isL
  | .dstore_n k => am_s2 nL L st pc 1 k.val am_isD
  | .dstore k => am_s2 nL L st pc 2 k am_isD
  | .iconst n => some (pc + 1, L, .int (Int32.ofInt n) :: st)
  | .bipush n => some (pc + 2, L, .int (Int8.ofInt n).toInt32 :: st)
  | .sipush n => some (pc + 3, L, .int (Int16.ofInt n).toInt32 :: st)
  | .lconst n => some (pc + 1, L, .long (Int64.ofNat (n : Nat)) :: st)
  | .iadd => am_b L st pc (fun x y => x + y)
  | .isub => am_b L st pc (fun x y => x - y)
  | .imul => am_b L st pc (fun x y => x * y)
  | .iand => am_b L st pc (fun x y => x &&& y)
  | .ior => am_b L st pc (fun x y => x ||| y)
  | .ixor => am_b L st pc (fun x y => x ^^^ y)
  | .ishl => am_b L st pc (fun x y => x <<< (y &&& 31))
  | .ishr => am_b L st pc (fun x y => x >>> (y &&& 31))
  | .iushr => am_b L st pc (fun x y => (x.toUInt32 >>> (y.toUInt32 &&& Int32.toUInt32 31)).toInt32)
  | .ladd => am_bl L st pc (fun x y => x + y)
  | .lmul => am_bl L st pc (fun x y => x * y)
  | .i2l => am_u L st pc (fun x => .long x.toInt64)
  | .i2c => am_u L st pc (fun x => .int (x.toUInt32 % 65536).toInt32)
  | .i2f => am_u L st pc (fun x => .float (FP.i2f x))
  | .i2d => am_u L st pc (fun x => .double (FP.i2d x))
  | .lcmp => match st with
    | .long y :: .long x :: r => some (pc + 1, L, .int (lg_cmp x y) :: r)
    | _ => none
  | .fcmp op => match st with
    | .float y :: .float x :: r => some (pc + 1, L, .int (Op.cmpValue (FP.fcmp x y) op) :: r)
    | _ => none
  | .dcmp op => match st with
    | .double y :: .double x :: r => some (pc + 1, L, .int (Op.cmpValue (FP.dcmp x y) op) :: r)
    | _ => none
  | .dup => match st with
    | v :: r => if v.category == 1 then some (pc + 1, L, v :: v :: r) else none
    | _ => none
  | .dup2 => match st with
    | v :: w :: r => if v.category == 1 && w.category == 1 then some (pc + 1, L, v :: w :: v :: w :: r) else none
    | _ => none
  | .pop => match st with
    | v :: r => if v.category == 1 then some (pc + 1, L, r) else none
    | _ => none
  | .goto off => if 0 ≤ (pc : Int) + off then some (((pc : Int) + off).toNat, L, st) else none
  | .iinc k n => match am_get L k with
    | some (.int x) => if decide (k < nL) && am_ok1 L k then some (pc + 3, L.set k (some (.int (x + Int32.ofInt n))), st) else none
    | _ => none
  | _ => none
theorem am_ld_ok {L st pc n i p pc' L' st'} (h : am_ld L st pc n i p = some (pc', L', st')) : ∃ v, am_get L i = some v ∧ p v = true ∧ pc' = pc + n ∧ L' = L ∧ st' = v :: st := by
  unfold am_ld at h
  cases hg : am_get L i with
  | none => rw [hg] at h; cases h
  | some v =>
    rw [hg] at h
    by_cases hp : p v = true
    · simp only [hp, if_true, Option.some.injEq, Prod.mk.injEq] at h
      exact ⟨v, rfl, hp, h.1.symm, h.2.1.symm, h.2.2.symm⟩
    · simp [hp] at h
theorem am_s1_ok {nL L st pc n i p pc' L' st'} (h : am_s1 nL L st pc n i p = some (pc', L', st')) : ∃ v, st = v :: st' ∧ p v = true ∧ i < nL ∧ am_ok1 L i = true ∧ pc' = pc + n ∧ L' = L.set i (some v) := by
  cases st with
  | nil => cases h
  | cons v r =>
    simp only [am_s1] at h
    by_cases hc : (p v && decide (i < nL) && am_ok1 L i) = true
    · rw [if_pos hc] at h
      simp only [Bool.and_eq_true, decide_eq_true_eq] at hc
      cases h
      exact ⟨v, rfl, hc.1.1, hc.1.2, hc.2, rfl, rfl⟩
    · rw [if_neg hc] at h
      cases h
theorem am_s2_ok {nL L st pc n i p pc' L' st'} (h : am_s2 nL L st pc n i p = some (pc', L', st')) : ∃ v, st = v :: st' ∧ p v = true ∧ i + 1 < nL ∧ am_ok1 L i = true ∧ pc' = pc + n ∧ L' = (L.set (i + 1) none).set i (some v) := by
  cases st with
  | nil => cases h
  | cons v r =>
    simp only [am_s2] at h
    by_cases hc : (p v && decide (i + 1 < nL) && am_ok1 L i) = true
    · rw [if_pos hc] at h
      simp only [Bool.and_eq_true, decide_eq_true_eq] at hc
      cases h
      exact ⟨v, rfl, hc.1.1, hc.1.2, hc.2, rfl, rfl⟩
    · rw [if_neg hc] at h
      cases h
theorem am_b_ok {L st pc f pc' L' st'} (h : am_b L st pc f = some (pc', L', st')) : ∃ x y r, st = .int y :: .int x :: r ∧ pc' = pc + 1 ∧ L' = L ∧ st' = .int (f x y) :: r := by
  unfold am_b at h
  split at h
  · cases h
    exact ⟨_, _, _, rfl, rfl, rfl, rfl⟩
  · cases h
theorem am_bl_ok {L st pc f pc' L' st'} (h : am_bl L st pc f = some (pc', L', st')) : ∃ x y r, st = .long y :: .long x :: r ∧ pc' = pc + 1 ∧ L' = L ∧ st' = .long (f x y) :: r := by
  unfold am_bl at h
  split at h
  · cases h
    exact ⟨_, _, _, rfl, rfl, rfl, rfl⟩
  · cases h
theorem am_u_ok {L st pc f pc' L' st'} (h : am_u L st pc f = some (pc', L', st')) : ∃ x r, st = .int x :: r ∧ pc' = pc + 1 ∧ L' = L ∧ st' = f x :: r := by
  unfold am_u at h
  split at h
  · cases h
    exact ⟨_, _, rfl, rfl, rfl, rfl⟩
  · cases h
theorem am_isI_ok {v : Value} (h : am_isI v = true) : ∃ x, v = .int x := by cases v <;> first | exact ⟨_, rfl⟩ | cases h
theorem am_isL_ok {v : Value} (h : am_isL v = true) : ∃ x, v = .long x := by cases v <;> first | exact ⟨_, rfl⟩ | cases h
theorem am_isF_ok {v : Value} (h : am_isF v = true) : ∃ x, v = .float x := by cases v <;> first | exact ⟨_, rfl⟩ | cases h
theorem am_isD_ok {v : Value} (h : am_isD v = true) : ∃ x, v = .double x := by cases v <;> first | exact ⟨_, rfl⟩ | cases h
theorem am_isA_ok {v : Value} (h : am_isA v = true) : ∃ x, v = .ref x := by cases v <;> first | exact ⟨_, rfl⟩ | cases h
end
section
section AMS
variable {p : Program} {l : Launch} {e : Env} {R : Room} {s : State} {m : MethodId} {args : Array Value} {below : List Frame} {meth : Method} {c : Code} {H : Heap} {locs : List Loc} {cells slots : Nat} {Q : State → Prop}
variable {cc : ByteArray} {ad : Nat → Nat} {nL pc pc' : Nat} {L L' : List (Option Value)} {st st' : List Value} {ls : Array Slot}
set_option maxHeartbeats 4000000 in
set_option maxRecDepth 100000 in
theorem am_i_ok {i : Instr} (hx : p.tables.exec = Jvm.exec) (hb : c.code = cc) (hdg : decode cc pc = .ok (i, am_len i)) (h : am_i nL i pc L st = some (pc', L', st')) (hl : am_l ad nL L ls)
    (k : ∀ ls' : Array Slot, am_l ad nL L' ls' → W p l e R s m args below meth c H locs cells slots Q (F0 m pc' ls' (st'.map (am_v ad)))) : W p l e R s m args below meth c H locs cells slots Q (F0 m pc ls (st.map (am_v ad))) := by
  cases i
  case iload_n n =>
    obtain ⟨v, hg, hp, rfl, rfl, rfl⟩ := am_ld_ok h
    obtain ⟨x, rfl⟩ := am_isI_ok hp
    exact lv_iload_n hx hb hdg rfl (hl.2.2 _ _ hg) (k ls hl)
  case iload n =>
    obtain ⟨v, hg, hp, rfl, rfl, rfl⟩ := am_ld_ok h
    obtain ⟨x, rfl⟩ := am_isI_ok hp
    exact lv_iload hx hb hdg (hl.2.2 _ _ hg) (k ls hl)
  case fload_n n =>
    obtain ⟨v, hg, hp, rfl, rfl, rfl⟩ := am_ld_ok h
    obtain ⟨x, rfl⟩ := am_isF_ok hp
    exact lv_fload_n hx hb hdg rfl (hl.2.2 _ _ hg) (k ls hl)
  case fload n =>
    obtain ⟨v, hg, hp, rfl, rfl, rfl⟩ := am_ld_ok h
    obtain ⟨x, rfl⟩ := am_isF_ok hp
    exact lv_fload hx hb hdg (hl.2.2 _ _ hg) (k ls hl)
  case lload_n n =>
    obtain ⟨v, hg, hp, rfl, rfl, rfl⟩ := am_ld_ok h
    obtain ⟨x, rfl⟩ := am_isL_ok hp
    exact lv_lload_n hx hb hdg rfl (hl.2.2 _ _ hg) (k ls hl)
  case lload n =>
    obtain ⟨v, hg, hp, rfl, rfl, rfl⟩ := am_ld_ok h
    obtain ⟨x, rfl⟩ := am_isL_ok hp
    exact lv_lload hx hb hdg (hl.2.2 _ _ hg) (k ls hl)
  case dload_n n =>
    obtain ⟨v, hg, hp, rfl, rfl, rfl⟩ := am_ld_ok h
    obtain ⟨x, rfl⟩ := am_isD_ok hp
    exact lv_dload_n hx hb hdg rfl (hl.2.2 _ _ hg) (k ls hl)
  case dload n =>
    obtain ⟨v, hg, hp, rfl, rfl, rfl⟩ := am_ld_ok h
    obtain ⟨x, rfl⟩ := am_isD_ok hp
    exact lv_dload hx hb hdg (hl.2.2 _ _ hg) (k ls hl)
  case aload_n n =>
    obtain ⟨v, hg, hp, rfl, rfl, rfl⟩ := am_ld_ok h
    obtain ⟨x, rfl⟩ := am_isA_ok hp
    exact lv_aload_n hx hb hdg rfl (hl.2.2 _ _ hg) (k ls hl)
  case aload n =>
    obtain ⟨v, hg, hp, rfl, rfl, rfl⟩ := am_ld_ok h
    obtain ⟨x, rfl⟩ := am_isA_ok hp
    exact lv_aload hx hb hdg (hl.2.2 _ _ hg) (k ls hl)
  case istore_n n =>
    obtain ⟨v, rfl, hp, hi, hok, rfl, rfl⟩ := am_s1_ok h
    obtain ⟨x, rfl⟩ := am_isI_ok hp
    obtain ⟨ls', e', h'⟩ := am_store1 (v := .int x) hl hi rfl hok
    have e' : storeLocals ls n.val (.int x) = some ls' := e'
    intro T hT X
    obtain ⟨t, a, b⟩ := k ls' h' T hT X
    refine ⟨t, ?_, b⟩
    show Steps p.tables e below (T.setTop (F0 m pc ls (.int x :: st'.map (am_v ad)))) t
    jvm_step X.here [X.here.top, ↓top_set X.here.top, hx, hb, hdg, e']
    exact a
  case istore n =>
    obtain ⟨v, rfl, hp, hi, hok, rfl, rfl⟩ := am_s1_ok h
    obtain ⟨x, rfl⟩ := am_isI_ok hp
    obtain ⟨ls', e', h'⟩ := am_store1 (v := .int x) hl hi rfl hok
    have e' : storeLocals ls n (.int x) = some ls' := e'
    intro T hT X
    obtain ⟨t, a, b⟩ := k ls' h' T hT X
    refine ⟨t, ?_, b⟩
    show Steps p.tables e below (T.setTop (F0 m pc ls (.int x :: st'.map (am_v ad)))) t
    jvm_step X.here [X.here.top, ↓top_set X.here.top, hx, hb, hdg, e']
    exact a
  case fstore_n n =>
    obtain ⟨v, rfl, hp, hi, hok, rfl, rfl⟩ := am_s1_ok h
    obtain ⟨x, rfl⟩ := am_isF_ok hp
    obtain ⟨ls', e', h'⟩ := am_store1 (v := .float x) hl hi rfl hok
    have e' : storeLocals ls n.val (.float x) = some ls' := e'
    intro T hT X
    obtain ⟨t, a, b⟩ := k ls' h' T hT X
    refine ⟨t, ?_, b⟩
    show Steps p.tables e below (T.setTop (F0 m pc ls (.float x :: st'.map (am_v ad)))) t
    jvm_step X.here [X.here.top, ↓top_set X.here.top, hx, hb, hdg, e', Op.fstore_n.sem]
    exact a
  case fstore n =>
    obtain ⟨v, rfl, hp, hi, hok, rfl, rfl⟩ := am_s1_ok h
    obtain ⟨x, rfl⟩ := am_isF_ok hp
    obtain ⟨ls', e', h'⟩ := am_store1 (v := .float x) hl hi rfl hok
    have e' : storeLocals ls n (.float x) = some ls' := e'
    intro T hT X
    obtain ⟨t, a, b⟩ := k ls' h' T hT X
    refine ⟨t, ?_, b⟩
    show Steps p.tables e below (T.setTop (F0 m pc ls (.float x :: st'.map (am_v ad)))) t
    jvm_step X.here [X.here.top, ↓top_set X.here.top, hx, hb, hdg, e', Op.fstore.sem]
    exact a
  case lstore_n n =>
    obtain ⟨v, rfl, hp, hi, hok, rfl, rfl⟩ := am_s2_ok h
    obtain ⟨x, rfl⟩ := am_isL_ok hp
    obtain ⟨ls', e', h'⟩ := am_store2 (v := .long x) hl hi rfl hok
    have e' : storeLocals ls n.val (.long x) = some ls' := e'
    intro T hT X
    obtain ⟨t, a, b⟩ := k ls' h' T hT X
    refine ⟨t, ?_, b⟩
    show Steps p.tables e below (T.setTop (F0 m pc ls (.long x :: st'.map (am_v ad)))) t
    jvm_step X.here [X.here.top, ↓top_set X.here.top, hx, hb, hdg, e']
    exact a
  case lstore n =>
    obtain ⟨v, rfl, hp, hi, hok, rfl, rfl⟩ := am_s2_ok h
    obtain ⟨x, rfl⟩ := am_isL_ok hp
    obtain ⟨ls', e', h'⟩ := am_store2 (v := .long x) hl hi rfl hok
    have e' : storeLocals ls n (.long x) = some ls' := e'
    intro T hT X
    obtain ⟨t, a, b⟩ := k ls' h' T hT X
    refine ⟨t, ?_, b⟩
    show Steps p.tables e below (T.setTop (F0 m pc ls (.long x :: st'.map (am_v ad)))) t
    jvm_step X.here [X.here.top, ↓top_set X.here.top, hx, hb, hdg, e']
    exact a
  case dstore_n n =>
    obtain ⟨v, rfl, hp, hi, hok, rfl, rfl⟩ := am_s2_ok h
    obtain ⟨x, rfl⟩ := am_isD_ok hp
    obtain ⟨ls', e', h'⟩ := am_store2 (v := .double x) hl hi rfl hok
    have e' : storeLocals ls n.val (.double x) = some ls' := e'
    intro T hT X
    obtain ⟨t, a, b⟩ := k ls' h' T hT X
    refine ⟨t, ?_, b⟩
    show Steps p.tables e below (T.setTop (F0 m pc ls (.double x :: st'.map (am_v ad)))) t
    jvm_step X.here [X.here.top, ↓top_set X.here.top, hx, hb, hdg, e', Op.dstore_n.sem]
    exact a
  case dstore n =>
    obtain ⟨v, rfl, hp, hi, hok, rfl, rfl⟩ := am_s2_ok h
    obtain ⟨x, rfl⟩ := am_isD_ok hp
    obtain ⟨ls', e', h'⟩ := am_store2 (v := .double x) hl hi rfl hok
    have e' : storeLocals ls n (.double x) = some ls' := e'
    intro T hT X
    obtain ⟨t, a, b⟩ := k ls' h' T hT X
    refine ⟨t, ?_, b⟩
    show Steps p.tables e below (T.setTop (F0 m pc ls (.double x :: st'.map (am_v ad)))) t
    jvm_step X.here [X.here.top, ↓top_set X.here.top, hx, hb, hdg, e', Op.dstore.sem]
    exact a
  case astore_n n =>
    obtain ⟨v, rfl, hp, hi, hok, rfl, rfl⟩ := am_s1_ok h
    obtain ⟨x, rfl⟩ := am_isA_ok hp
    obtain ⟨ls', e', h'⟩ := am_store1 (v := .ref x) hl hi rfl hok
    have e' : storeLocals ls n.val (.ref (ad x)) = some ls' := e'
    intro T hT X
    obtain ⟨t, a, b⟩ := k ls' h' T hT X
    refine ⟨t, ?_, b⟩
    show Steps p.tables e below (T.setTop (F0 m pc ls (.ref (ad x) :: st'.map (am_v ad)))) t
    jvm_step X.here [X.here.top, ↓top_set X.here.top, hx, hb, hdg, e', Value.isRef]
    exact a
  case astore n =>
    obtain ⟨v, rfl, hp, hi, hok, rfl, rfl⟩ := am_s1_ok h
    obtain ⟨x, rfl⟩ := am_isA_ok hp
    obtain ⟨ls', e', h'⟩ := am_store1 (v := .ref x) hl hi rfl hok
    have e' : storeLocals ls n (.ref (ad x)) = some ls' := e'
    intro T hT X
    obtain ⟨t, a, b⟩ := k ls' h' T hT X
    refine ⟨t, ?_, b⟩
    show Steps p.tables e below (T.setTop (F0 m pc ls (.ref (ad x) :: st'.map (am_v ad)))) t
    jvm_step X.here [X.here.top, ↓top_set X.here.top, hx, hb, hdg, e', Value.isRef]
    exact a
  case iconst n =>
    cases h
    exact lv_iconst hx hb hdg rfl (k ls hl)
  case bipush n =>
    cases h
    exact lv_bipush hx hb hdg rfl (k ls hl)
  case sipush n =>
    cases h
    exact lv_sipush hx hb hdg rfl (k ls hl)
  case lconst n =>
    cases h
    exact lv_lconst hx hb hdg rfl (k ls hl)
  case iadd =>
    obtain ⟨x, y, r, rfl, rfl, rfl, rfl⟩ := am_b_ok h
    exact lv_iadd hx hb hdg (k ls hl)
  case isub =>
    obtain ⟨x, y, r, rfl, rfl, rfl, rfl⟩ := am_b_ok h
    exact lv_isub hx hb hdg (k ls hl)
  case imul =>
    obtain ⟨x, y, r, rfl, rfl, rfl, rfl⟩ := am_b_ok h
    exact lv_imul hx hb hdg (k ls hl)
  case iand =>
    obtain ⟨x, y, r, rfl, rfl, rfl, rfl⟩ := am_b_ok h
    exact lv_iand hx hb hdg (k ls hl)
  case ior =>
    obtain ⟨x, y, r, rfl, rfl, rfl, rfl⟩ := am_b_ok h
    exact lv_ior hx hb hdg (k ls hl)
  case ixor =>
    obtain ⟨x, y, r, rfl, rfl, rfl, rfl⟩ := am_b_ok h
    exact lv_ixor hx hb hdg (k ls hl)
  case ishl =>
    obtain ⟨x, y, r, rfl, rfl, rfl, rfl⟩ := am_b_ok h
    exact lv_ishl hx hb hdg (k ls hl)
  case ishr =>
    obtain ⟨x, y, r, rfl, rfl, rfl, rfl⟩ := am_b_ok h
    exact lv_ishr hx hb hdg (k ls hl)
  case iushr =>
    obtain ⟨x, y, r, rfl, rfl, rfl, rfl⟩ := am_b_ok h
    exact lv_iushr hx hb hdg rfl (k ls hl)
  case ladd =>
    obtain ⟨x, y, r, rfl, rfl, rfl, rfl⟩ := am_bl_ok h
    exact lv_ladd hx hb hdg (k ls hl)
  case lmul =>
    obtain ⟨x, y, r, rfl, rfl, rfl, rfl⟩ := am_bl_ok h
    exact lv_lmul hx hb hdg (k ls hl)
  case i2l =>
    obtain ⟨x, r, rfl, rfl, rfl, rfl⟩ := am_u_ok h
    exact lv_i2l hx hb hdg rfl (k ls hl)
  case i2c =>
    obtain ⟨x, r, rfl, rfl, rfl, rfl⟩ := am_u_ok h
    exact lv_i2c hx hb hdg rfl (k ls hl)
  case i2f =>
    obtain ⟨x, r, rfl, rfl, rfl, rfl⟩ := am_u_ok h
    exact lv_i2f hx hb hdg (k ls hl)
  case i2d =>
    obtain ⟨x, r, rfl, rfl, rfl, rfl⟩ := am_u_ok h
    exact lv_i2d hx hb hdg (k ls hl)
  case lcmp =>
    simp only [am_i] at h
    split at h
    · cases h
      exact W.lcmp hx hb hdg (k ls hl)
    · cases h
  case fcmp op =>
    simp only [am_i] at h
    split at h
    · cases h
      exact lv_fcmp hx hb hdg (k ls hl)
    · cases h
  case dcmp op =>
    simp only [am_i] at h
    split at h
    · cases h
      exact lv_dcmp hx hb hdg (k ls hl)
    · cases h
  case dup =>
    simp only [am_i] at h
    split at h
    · rename_i v r
      by_cases hc : (v.category == 1) = true
      · rw [if_pos hc] at h
        cases h
        exact lv_dup hx hb hdg ((am_v_cat ad v).trans (eq_of_beq hc)) (k ls hl)
      · rw [if_neg hc] at h
        cases h
    · cases h
  case dup2 =>
    simp only [am_i] at h
    split at h
    · rename_i v w r
      by_cases hc : (v.category == 1 && w.category == 1) = true
      · rw [if_pos hc] at h
        simp only [Bool.and_eq_true] at hc
        cases h
        exact lv_dup2_11 hx hb hdg ((am_v_cat ad v).trans (eq_of_beq hc.1)) ((am_v_cat ad w).trans (eq_of_beq hc.2)) (k ls hl)
      · rw [if_neg hc] at h
        cases h
    · cases h
  case pop =>
    simp only [am_i] at h
    split at h
    · rename_i v r
      by_cases hc : (v.category == 1) = true
      · rw [if_pos hc] at h
        cases h
        exact lv_pop hx hb hdg ((am_v_cat ad v).trans (eq_of_beq hc)) (k ls hl)
      · rw [if_neg hc] at h
        cases h
    · cases h
  case goto off =>
    simp only [am_i] at h
    by_cases hc : 0 ≤ (pc : Int) + off
    · rw [if_pos hc] at h
      cases h
      exact lv_goto hx hb hdg (Int.toNat_of_nonneg hc).symm (k ls hl)
    · rw [if_neg hc] at h
      cases h
  case iinc q n =>
    simp only [am_i] at h
    split at h
    · rename_i x hg
      by_cases hc : (decide (q < nL) && am_ok1 L q) = true
      · rw [if_pos hc] at h
        simp only [Bool.and_eq_true, decide_eq_true_eq] at hc
        cases h
        obtain ⟨ls', e', h'⟩ := am_store1 (v := .int (x + Int32.ofInt n)) hl hc.1 rfl hc.2
        have e' : storeLocals ls q (.int (x + Int32.ofInt n)) = some ls' := e'
        have hg' : ls[q]? = some (.val (.int x)) := hl.2.2 q _ hg
        intro T hT X
        obtain ⟨t, a, b⟩ := k ls' h' T hT X
        refine ⟨t, ?_, b⟩
        jvm_step X.here [X.here.top, ↓top_set X.here.top, hx, hb, hdg, hg', e']
        exact a
      · rw [if_neg hc] at h
        cases h
    · cases h
  all_goals exact absurd (show (none : Option (Nat × List (Option Value) × List Value)) = some (pc', L', st') from h) (by intro q; cases q)
end AMS
end
section
/-! ===== AM2: the world as a table of numbers. V c k: what field k of the object c, or place k of the array c, holds; shapes and references are fixed ===== -/
/-- a cell's shape: an object (class number, for each field none: a number, some d: the object d), or an array (number of its class, length; numbers, floats (true), or references told by place and number) -/
abbrev am_Sh : Type := (Nat × List (Option Nat)) ⊕ (Nat × Nat × (Bool ⊕ (Nat → Int32 → Option Nat)))
def am_fv (ad : Nat → Nat) (x : Int32) : Option Nat → Value
  | none => .int x
  | some c => .ref (ad c)
/-- the same with cells' numbers for addresses -/
def am_fw (x : Int32) : Option Nat → Value
  | none => .int x
  | some c => .ref c
theorem am_fw_v (ad : Nat → Nat) (x : Int32) (o : Option Nat) : am_v ad (am_fw x o) = am_fv ad x o := by cases o <;> rfl
def am_fs (ad : Nat → Nat) (f : Nat → Int32) : Nat → List (Option Nat) → List Value
  | _, [] => []
  | j, o :: r => am_fv ad (f j) o :: am_fs ad f (j + 1) r
theorem am_fs_get (ad : Nat → Nat) (f : Nat → Int32) : ∀ (os : List (Option Nat)) (j k : Nat), (am_fs ad f j os)[k]? = (os[k]?).map (am_fv ad (f (j + k)))
  | [], _, _ => by simp [am_fs]
  | o :: r, j, 0 => by simp [am_fs]
  | o :: r, j, k + 1 => by
    simp only [am_fs, List.getElem?_cons_succ]
    rw [am_fs_get ad f r (j + 1) k, show j + 1 + k = j + (k + 1) by omega]
theorem am_fs_len (ad : Nat → Nat) (f : Nat → Int32) : ∀ (os : List (Option Nat)) (j : Nat), (am_fs ad f j os).length = os.length
  | [], _ => rfl
  | o :: r, j => by simp [am_fs, am_fs_len ad f r (j + 1)]
theorem am_fs_set {ad : Nat → Nat} {f : Nat → Int32} {os : List (Option Nat)} {k : Nat} (h : os[k]? = some none) (x : Int32) : (am_fs ad f 0 os).set k (.int x) = am_fs ad (upd f k x) 0 os := by
  apply List.ext_getElem?
  intro i
  rw [am_fs_get, List.getElem?_set, am_fs_len, am_fs_get]
  by_cases e : k = i
  · subst e
    have hl : k < os.length := (List.getElem?_eq_some_iff.mp h).1
    rw [if_pos rfl, if_pos hl, h]
    simp [am_fv, upd]
  · rw [if_neg e, Nat.zero_add]
    have : upd f k x i = f i := by simp [upd, Ne.symm e]
    rw [this]
def am_e (dA : Nat → ClassId) (ad : Nat → Nat) (f : Nat → Int32) : am_Sh → va_E
  | .inl (ci, os) => .inr (ci, am_fs ad f 0 os)
  | .inr (t, n, .inl false) => .inl (dA t, n, .inl f)
  | .inr (t, n, .inl true) => .inl (dA t, n, .inr (.inr (.inl (fun j => (f j).toUInt32))))
  | .inr (t, n, .inr g) => .inl (dA t, n, .inr (.inr (.inr (.inr (fun j => (g j (f j)).map ad)))))
abbrev am_V : Type := Nat → Nat → Int32
def am_set (V : am_V) (c k : Nat) (x : Int32) : am_V := fun d => if d = c then upd (V c) k x else V d
theorem am_set_at (V : am_V) (c k : Nat) (x : Int32) : am_set V c k x c = upd (V c) k x := if_pos rfl
theorem am_set_ne (V : am_V) {c d : Nat} (k : Nat) (x : Int32) (h : d ≠ c) : am_set V c k x d = V d := if_neg h
theorem am_set_get (V : am_V) (c k : Nat) (x : Int32) (d j : Nat) : am_set V c k x d j = if d = c ∧ j = k then x else V d j := by
  by_cases h : d = c
  · subst h
    rw [am_set_at]
    by_cases h2 : j = k <;> simp [upd, h2]
  · rw [am_set_ne _ _ _ h]
    simp [h]
/-- what is fixed for a claim: the classes, the words, the shapes, which cells may be written, the arrays' types -/
abbrev am_X : Type := List vw_C × List Cond × List Cond × (Nat → Option am_Sh) × (Nat → Bool) × (Nat → FieldType) × List (String × Nat × String) × List (String × String) × List (String × String × String × Value)
def am_cl (X : am_X) : List vw_C := X.1
def am_WS (X : am_X) : List Cond := X.2.1
def am_NS (X : am_X) : List Cond := X.2.2.1
def am_sh (X : am_X) : Nat → Option am_Sh := X.2.2.2.1
def am_wr (X : am_X) : Nat → Bool := X.2.2.2.2.1
def am_tA (X : am_X) : Nat → FieldType := X.2.2.2.2.2.1
def am_TS (X : am_X) : List (String × Nat × String) := X.2.2.2.2.2.2.1
def am_NC (X : am_X) : List (String × String) := X.2.2.2.2.2.2.2.1
def am_SF (X : am_X) : List (String × String × String × Value) := X.2.2.2.2.2.2.2.2
/-- the words that hold at every call: good ones, and links to nest mates -/
def am_words (X : am_X) : Prop := (∀ w ∈ am_WS X, (w.onTables && w.keeps) = true ∨ ∃ ty, w = .arrayClass ty) ∧ ∀ w ∈ am_NS X, (∃ (a : String) (i : Nat) (y : MethodName) (h : String), w = .methodLinkNest a i y h) ∨ (∃ (a : String) (i : Nat) (b n d h : String), w = .fieldLinkNest a i b n d h) ∨ (∃ a b : String, w = .castable a b) ∨ ∃ y : MethodName, w = .declares y
/-- what a run finds: the classes' numbers, the array classes', the addresses, the state at the law's start -/
abbrev am_U : Type := va_G × (Nat → ClassId) × (Nat → Nat) × State
def am_D (U : am_U) : va_G := U.1
def am_dA (U : am_U) : Nat → ClassId := U.2.1
def am_ad (U : am_U) : Nat → Nat := U.2.2.1
def am_s0 (U : am_U) : State := U.2.2.2
/-- a method's walk -/
abbrev am_G : Type := Launch × Program × Env × Room × State × MethodId × Array Value × List Frame × Method × Code
def am_gl (G : am_G) : Launch := G.1
def am_gp (G : am_G) : Program := G.2.1
def am_ge (G : am_G) : Env := G.2.2.1
def am_gR (G : am_G) : Room := G.2.2.2.1
def am_gs (G : am_G) : State := G.2.2.2.2.1
def am_gm (G : am_G) : MethodId := G.2.2.2.2.2.1
def am_ga (G : am_G) : Array Value := G.2.2.2.2.2.2.1
def am_gb (G : am_G) : List Frame := G.2.2.2.2.2.2.2.1
def am_gt (G : am_G) : Method := G.2.2.2.2.2.2.2.2.1
def am_gc (G : am_G) : Code := G.2.2.2.2.2.2.2.2.2
def am_H (X : am_X) (U : am_U) (V : am_V) (H : Heap) : Prop :=
  (∀ (c : Nat) (x : am_Sh), am_sh X c = some x → va_at (am_D U) (am_cl X) (am_ad U c, am_e (am_dA U) (am_ad U) (V c) x) H) ∧
  (am_s0 U).heap.size ≤ H.size ∧ ∀ q : Nat, q < (am_s0 U).heap.size → H[q]? = (am_s0 U).heap[q]?
def am_base (X : am_X) (U : am_U) : Prop :=
  (am_words X ∧ (∀ w ∈ am_NS X, va_Nw w (am_s0 U)) ∧ (∀ x ∈ am_TS X, ∃ a : Nat, vk_R x.1 x.2.1 x.2.2 a (am_s0 U)) ∧ (∀ x ∈ am_NC X, va_Nc x.1 x.2 (am_s0 U)) ∧
    vx_Zq Bundle.tN "UNASSIGNED_STACK" Bundle.steD (fun q => (am_s0 U).heap.size ≤ q) (am_s0 U) (am_s0 U).heap ∧ vx_Zq Bundle.tN "SUPPRESSED_SENTINEL" Bundle.listD (fun q => (am_s0 U).heap.size ≤ q) (am_s0 U) (am_s0 U).heap ∧
    ∀ x ∈ am_SF X, va_Z x.1 x.2.1 x.2.2.1 (am_v (am_ad U) x.2.2.2) (fun q => (am_s0 U).heap.size ≤ q) (am_s0 U) (am_s0 U).heap) ∧ va_K (am_D U) (am_cl X) [] (am_s0 U) ∧ (∀ t : Nat, t < 8 → ArrOfT (am_s0 U) (am_dA U t) (am_tA X t) ∧ va_RA (am_s0 U) (am_dA U t) (am_tA X t)) ∧
  (∀ (c d : Nat) (x y : am_Sh), am_sh X c = some x → am_sh X d = some y → am_wr X d = true → am_ad U c = am_ad U d → c = d) ∧
  (∀ (c : Nat) (x : am_Sh), am_sh X c = some x → am_wr X c = true → (am_s0 U).heap.size ≤ am_ad U c)
def am_ok (X : am_X) (U : am_U) (G : am_G) (own : String) (cc : ByteArray) (nL : Nat) : Prop :=
  (am_gp G).tables.exec = Jvm.exec ∧ (am_gc G).code = cc ∧ (am_gc G).maxLocals = nL ∧ (am_gs G).vm.findClass own = some (am_gm G).cls ∧ (∀ w ∈ am_WS X, w.before (am_ga G) (am_gs G) = true) ∧
  (am_s0 U).WarmedH (am_gs G).vm ∧ am_base X U ∧ (am_gt G).locks = false ∧ (am_gl G).stackTraces = false
def am_W (G : am_G) (H : Heap) (locs : List Loc) (kc ks : Nat) (Q : State → Prop) (g : JFrame) : Prop :=
  W (am_gp G) (am_gl G) (am_ge G) (am_gR G) (am_gs G) (am_gm G) (am_ga G) (am_gb G) (am_gt G) (am_gc G) H locs kc ks Q g
/-- the goal: from here, with these locals, this stack and this table, the machine comes to a state with Q -/
def AW (X : am_X) (U : am_U) (G : am_G) (nL kc ks : Nat) (V : am_V) (Q : State → Prop) (pc : Nat) (L : List (Option Value)) (st : List Value) : Prop :=
  ∀ (H : Heap) (locs : List Loc) (ls : Array Slot), am_H X U V H → (am_gs G).heap.size ≤ H.size → (∀ q ∈ locs, (am_s0 U).heap.size ≤ q.base) → am_l (am_ad U) nL L ls →
    am_W G H locs kc ks Q (F0 (am_gm G) pc ls (st.map (am_v (am_ad U))))
def am_dec (cc : ByteArray) (t : List (Nat × Instr × Nat)) : Prop := ∀ x ∈ t, decode cc x.1 = .ok (x.2.1, x.2.2)
def am_run (nL : Nat) : List (Nat × Instr × Nat) → Nat → List (Option Value) → List Value → Option (Nat × List (Option Value) × List Value)
  | [], pc, L, st => some (pc, L, st)
  | (q, i, n) :: r, pc, L, st => if (q == pc && n == am_len i) = true then (am_i nL i pc L st).bind (fun x => am_run nL r x.1 x.2.1 x.2.2) else none
section AMR
variable {X : am_X} {U : am_U} {G : am_G} {own : String} {cc : ByteArray} {nL kc ks pc pc' : Nat} {V : am_V} {Q : State → Prop} {L L' : List (Option Value)} {st st' : List Value}
theorem AW.step {i : Instr} {n : Nat} (ok : am_ok X U G own cc nL) (hdg : decode cc pc = .ok (i, n)) (hn : n = am_len i) (h : am_i nL i pc L st = some (pc', L', st')) (k : AW X U G nL kc ks V Q pc' L' st') : AW X U G nL kc ks V Q pc L st := by
  subst hn
  intro H locs ls hH hz hlo hl
  exact am_i_ok ok.1 ok.2.1 hdg h hl (fun ls' hl' => k H locs ls' hH hz hlo hl')
theorem AW.runs (ok : am_ok X U G own cc nL) : ∀ (t : List (Nat × Instr × Nat)), am_dec cc t → ∀ (pc : Nat) (L : List (Option Value)) (st : List Value), am_run nL t pc L st = some (pc', L', st') → AW X U G nL kc ks V Q pc' L' st' → AW X U G nL kc ks V Q pc L st
  | [], _, pc, L, st, h, k => by
    cases h
    exact k
  | (q, i, n) :: r, hd, pc, L, st, h, k => by
    simp only [am_run] at h
    by_cases hc : (q == pc && n == am_len i) = true
    · rw [if_pos hc] at h
      simp only [Bool.and_eq_true, beq_iff_eq] at hc
      cases hi : am_i nL i pc L st with
      | none => rw [hi] at h; cases h
      | some x =>
        obtain ⟨p1, L1, s1⟩ := x
        rw [hi] at h
        have hdg := hd (q, i, n) List.mem_cons_self
        rw [hc.1] at hdg
        exact AW.step ok hdg hc.2 hi (AW.runs ok r (fun x hx => hd x (List.mem_cons_of_mem _ hx)) p1 L1 s1 h k)
    · rw [if_neg hc] at h
      cases h
/-- a stretch of a method's table: n rows from the a-th on -/
theorem AW.run {t : List (Nat × Instr × Nat)} (ok : am_ok X U G own cc nL) (hd : am_dec cc t) (a n : Nat) (h : am_run nL ((t.drop a).take n) pc L st = some (pc', L', st')) (k : AW X U G nL kc ks V Q pc' L' st') : AW X U G nL kc ks V Q pc L st :=
  AW.runs ok _ (fun x hx => hd x (List.mem_of_mem_drop (List.mem_of_mem_take hx))) pc L st h k
/-- a row of the table -/
theorem am_at {t : List (Nat × Instr × Nat)} (hd : am_dec cc t) (a : Nat) {i : Instr} {n : Nat} (h : t[a]? = some (pc, i, n)) : decode cc pc = .ok (i, n) := hd (pc, i, n) (List.mem_of_getElem? h)
def am_cnd : Jvm.ClassFile.Cond → Int32 → Int32 → Prop
  | .eq, x, y => x = y
  | .ne, x, y => ¬ x = y
  | .lt, x, y => x < y
  | .ge, x, y => y ≤ x
  | .gt, x, y => y < x
  | .le, x, y => x ≤ y
theorem AW.icmp {cond : Jvm.ClassFile.Cond} {off : Int} {x y : Int32} (ok : am_ok X U G own cc nL) (tgt : Nat) (hdg : decode cc pc = .ok (.if_icmp cond off, 3)) (ht : (pc : Int) + off = (tgt : Int)) (kt : am_cnd cond x y → AW X U G nL kc ks V Q tgt L st) (kf : ¬ am_cnd cond x y → AW X U G nL kc ks V Q (pc + 3) L st) :
    AW X U G nL kc ks V Q pc L (.int y :: .int x :: st) := by
  intro H locs ls hH hz hlo hl
  have a1 := fun h => kt h H locs ls hH hz hlo hl
  have a2 := fun h => kf h H locs ls hH hz hlo hl
  cases cond
  · exact lv_icmp_eq ok.1 ok.2.1 hdg ht a1 a2
  · exact lv_icmp_ne ok.1 ok.2.1 hdg ht a1 (fun h => a2 (fun q => q h))
  · exact lv_icmp_lt ok.1 ok.2.1 hdg ht a1 a2
  · exact lv_icmp_ge ok.1 ok.2.1 hdg ht a1 a2
  · exact lv_icmp_gt ok.1 ok.2.1 hdg ht a1 a2
  · exact lv_icmp_le ok.1 ok.2.1 hdg ht a1 a2
theorem AW.ifc {cond : Jvm.ClassFile.Cond} {off : Int} {x : Int32} (ok : am_ok X U G own cc nL) (tgt : Nat) (hdg : decode cc pc = .ok (.ifCond cond off, 3)) (ht : (pc : Int) + off = (tgt : Int)) (kt : am_cnd cond x 0 → AW X U G nL kc ks V Q tgt L st) (kf : ¬ am_cnd cond x 0 → AW X U G nL kc ks V Q (pc + 3) L st) :
    AW X U G nL kc ks V Q pc L (.int x :: st) := by
  intro H locs ls hH hz hlo hl
  have a1 := fun h => kt h H locs ls hH hz hlo hl
  have a2 := fun h => kf h H locs ls hH hz hlo hl
  cases cond
  · exact lv_if_eq ok.1 ok.2.1 hdg ht a1 a2
  · exact lv_if_ne ok.1 ok.2.1 hdg ht a1 (fun h => a2 (fun q => q h))
  · exact lv_if_lt ok.1 ok.2.1 hdg ht a1 a2
  · exact lv_if_ge ok.1 ok.2.1 hdg ht a1 a2
  · exact lv_if_gt ok.1 ok.2.1 hdg ht a1 a2
  · exact lv_if_le ok.1 ok.2.1 hdg ht a1 a2
end AMR
end
section
/-! ===== AM3: fields and arrays ===== -/
theorem am_one {D : va_G} {cl : List vw_C} {q : Nat × va_E} {H : Heap} (h : va_at D cl q H) : va_P D cl [q] H := by
  intro k x hx
  have hl : k < 1 := (List.getElem?_eq_some_iff.mp hx).1
  rw [show k = 0 by omega] at hx
  cases hx
  exact h
/-- a read of a field, by the pool's entry: class ci, field k -/
def am_gf (X : am_X) (own : String) (index ci k : Nat) : Prop := ∃ (C : String) (T : u_T) (N : Nat), (am_cl X)[ci]? = some (C, T, N) ∧ (∀ w ∈ u_ws C T N, w ∈ am_WS X) ∧ k < N ∧ Cond.fieldLink own index (T k).1 (T k).2.1 (T k).2.2.1 ∈ am_WS X
/-- .. and a write of a number, of type ty, the field not final -/
def am_pf (X : am_X) (own : String) (index ci k : Nat) (ty : FieldType) : Prop := ∃ (C : String) (T : u_T) (N : Nat) (ty0 : Nat → FieldType), (am_cl X)[ci]? = some (C, T, N) ∧ (∀ w ∈ u_ws C T N, w ∈ am_WS X) ∧ k < N ∧ Cond.fieldLink own index (T k).1 (T k).2.1 (T k).2.2.1 ∈ am_WS X ∧
  (∀ k, k < N → parseFieldDescriptor (T k).2.2.1 = some (ty0 k)) ∧ (∀ a, a < N → ∀ b, b < N → a ≠ b → (T a).2.1 ≠ (T b).2.1) ∧ (T k).2.2.2 = false ∧ parseFieldDescriptor (T k).2.2.1 = some ty
section AMH
variable {X : am_X} {U : am_U} {G : am_G} {own : String} {cc : ByteArray} {nL kc ks pc pc' : Nat} {V : am_V} {Q : State → Prop} {L L' : List (Option Value)} {st st' : List Value}
theorem am_ok.K (ok : am_ok X U G own cc nL) : va_K (am_D U) (am_cl X) [] (am_gs G) := va_K.moved ok.2.2.2.2.2.1.alike ok.2.2.2.2.2.2.1.2.1
theorem am_ok.A (ok : am_ok X U G own cc nL) {t : Nat} (ht : t < 8) : ArrOfT (am_gs G) (am_dA U t) (am_tA X t) := arrOfT_moved ok.2.2.2.2.2.1.alike (ok.2.2.2.2.2.2.1.2.2.1 t ht).1
theorem am_ok.RA (ok : am_ok X U G own cc nL) {t : Nat} (ht : t < 8) : va_RA (am_gs G) (am_dA U t) (am_tA X t) := (ok.2.2.2.2.2.2.1.2.2.1 t ht).2.moved ok.2.2.2.2.2.1.alike
theorem AW.getf {c ci k index : Nat} {os : List (Option Nat)} {o : Option Nat} (ok : am_ok X U G own cc nL) (hf : am_gf X own index ci k) (hsh : am_sh X c = some (.inl (ci, os))) (ho : os[k]? = some o) (hdg : decode cc pc = .ok (.getfield index, 3))
    (kk : AW X U G nL kc ks V Q (pc + 3) L (am_fw (V c k) o :: st)) : AW X U G nL kc ks V Q pc L (.ref c :: st) := by
  intro H locs ls hH hz hlo hl
  obtain ⟨C, T, N, hc, hin, hk, hlink⟩ := hf
  have hP := am_one (hH.1 c _ hsh)
  have hv : (am_fs (am_ad U) (V c) 0 os)[k]? = some (am_fv (am_ad U) (V c k) o) := by rw [am_fs_get, ho, Nat.zero_add]; rfl
  have k2 := kk H locs ls hH hz hlo hl
  rw [List.map_cons, am_fw_v] at k2
  exact va_get (D := am_D U) (ci := ci) (C := C) (T := T) (N := N) (ws := [(am_ad U c, am_e (am_dA U) (am_ad U) (V c) (.inl (ci, os)))]) ok.1 ok.2.1 ok.2.2.2.2.1 hin ok.2.2.2.1 (am_ok.K ok) hP 0 rfl hc k hk (ok.2.2.2.2.1 _ hlink) (fun _ h9 => h9) hv hdg k2
theorem am_H.put {H H1 : Heap} {c : Nat} {x : am_Sh} {f : Nat → Int32} {V1 : am_V} (hb : am_base X U) (hH : am_H X U V H) (hx : am_sh X c = some x) (hw : am_wr X c = true) (hV : V1 c = f) (hV2 : ∀ d, d ≠ c → V1 d = V d)
    (he : va_at (am_D U) (am_cl X) (am_ad U c, am_e (am_dA U) (am_ad U) f x) H1) (hz : H1.size = H.size) (oq : ∀ q, q ≠ am_ad U c → H1[q]? = H[q]?) : am_H X U V1 H1 := by
  refine ⟨fun d y hy => ?_, by rw [hz]; exact hH.2.1, fun q hq => ?_⟩
  · by_cases e : d = c
    · subst e
      cases hx.symm.trans hy
      rw [hV]
      exact he
    · rw [hV2 d e]
      exact (hH.1 d y hy).kept (oq _ (fun q => e (hb.2.2.2.1 d c y x hy hx hw q)))
  · have h1 := hb.2.2.2.2 c x hx hw
    rw [oq q (by omega)]
    exact hH.2.2 q hq
theorem am_locs {locs : List Loc} {a i N0 : Nat} (h : ∀ q ∈ locs, N0 ≤ q.base) (ha : N0 ≤ a) : ∀ q ∈ locs ++ [(⟨a, i⟩ : Loc)], N0 ≤ q.base := by
  intro q hq
  rcases List.mem_append.mp hq with h1 | h1
  · exact h q h1
  · rw [List.mem_singleton.mp h1]
    exact ha
theorem AW.putf {c ci k index : Nat} {os : List (Option Nat)} {ty : FieldType} {x : Int32} (ok : am_ok X U G own cc nL) (hf : am_pf X own index ci k ty) (hsh : am_sh X c = some (.inl (ci, os))) (hw : am_wr X c = true) (ho : os[k]? = some none) (hn : narrow ty (.int x) = .int x) (hfit : fits ty (.int x) = true) (hdg : decode cc pc = .ok (.putfield index, 3))
    (kk : AW X U G nL kc ks (am_set V c k x) Q (pc + 3) L st) : AW X U G nL kc ks V Q pc L (.int x :: .ref c :: st) := by
  intro H locs ls hH hz hlo hl
  obtain ⟨C, T, N, ty0, hc, hin, hk, hlink, hty, hnm, hfin, hd⟩ := hf
  have hts := ok.2.2.2.2.1
  have hown := ok.2.2.2.1
  have hK := am_ok.K ok
  have hap := va_apart (own := own) hts hin ty0 hty hnm hK hc
  obtain ⟨r, h1, cell, q1, q2, q3, q4⟩ := hH.1 c _ hsh
  have hr : r = (C, T, N) := Option.some.inj (h1.symm.trans hc)
  subst hr
  obtain ⟨hS, hfc, kC, hkC, hkind⟩ := hK.1 ci _ hc
  obtain ⟨cf, kf, fi, f, hi, hsl⟩ := hS k hk
  have hlay := hts _ (hin _ (u_in_lay hk))
  unfold u_lay at hlay
  rw [if_neg (by rw [hfin]; decide)] at hlay
  have hst := (u_facts hfc hkC (u_lays hts hin hk) hi).1
  have h6 := u_store hfc hkC hkind hlay hi hd hn hfit
  have hle : k < (am_fs (am_ad U) (V c) 0 os).length := by rw [am_fs_len]; exact (List.getElem?_eq_some_iff.mp ho).1
  refine W.putK ok.1 ok.2.1 (f := f) ⟨hown, hts _ hlink, ⟨_, _, _, hi⟩, hst⟩ (by rw [q2]; exact h6) q1 q3 (by rw [hsl]; exact k2_hasslot (q4 k hk)) rfl rfl hdg fun H' e1 e2 e3 => ?_
  rw [hsl] at e1 ⊢
  have hat : va_at (am_D U) (am_cl X) (am_ad U c, am_e (am_dA U) (am_ad U) (upd (V c) k x) (.inl (ci, os))) H' := by
    refine ⟨_, hc, ?_⟩
    show t_OB (am_ad U c) _ _ _ H' (vp_V (am_fs (am_ad U) (upd (V c) k x) 0 os))
    rw [← am_fs_set ho x]
    exact t_OB.to (V := updV (vp_V (am_fs (am_ad U) (V c) 0 os)) k (.int x)) ⟨_, e1, q2, q3, t_set q4 hap hk (.int x)⟩ (fun j _ => vp_updV_set hle (.int x) j)
  exact kk H' _ ls (am_H.put ok.2.2.2.2.2.2.1 hH hsh hw (am_set_at V c k x) (fun d hd => am_set_ne V k x hd) hat e2 e3) (by rw [e2]; exact hz) (am_locs hlo (ok.2.2.2.2.2.2.1.2.2.2.2 c _ hsh hw)) hl
theorem AW.iald {c t n : Nat} {i : Int32} (ok : am_ok X U G own cc nL) (hsh : am_sh X c = some (.inr (t, n, .inl false))) (ht : t < 8) (hty : am_tA X t = .int) (hin : vp_in i n) (hdg : decode cc pc = .ok (.iaload, 1))
    (kk : AW X U G nL kc ks V Q (pc + 1) L (.int (V c i.toNatClampNeg) :: st)) : AW X U G nL kc ks V Q pc L (.int i :: .ref c :: st) := by
  intro H locs ls hH hz hlo hl
  have hA := am_ok.A ok ht
  rw [hty] at hA
  have hlt : i.toNatClampNeg < n := Nat.not_le.mp fun q => hin (Or.inr q)
  exact W.iald (v := .int (V c i.toNatClampNeg)) ok.1 ok.2.1 (hH.1 c _ hsh) (hA n (fun j => .int (V c j))) (fun q => by cases q) (by show ¬ (i < 0 ∨ (arrV _ _ _).slots.size ≤ _); rw [arrV_size]; exact hin) (by show (arrV _ _ _).slots[_]? = _; rw [arrV_read _ _ hlt]) rfl rfl hdg (kk H locs ls hH hz hlo hl)
theorem AW.cald {c t n : Nat} {i : Int32} (ok : am_ok X U G own cc nL) (hsh : am_sh X c = some (.inr (t, n, .inl false))) (ht : t < 8) (hty : am_tA X t = .char) (hin : vp_in i n) (hdg : decode cc pc = .ok (.caload, 1))
    (kk : AW X U G nL kc ks V Q (pc + 1) L (.int (V c i.toNatClampNeg) :: st)) : AW X U G nL kc ks V Q pc L (.int i :: .ref c :: st) := by
  intro H locs ls hH hz hlo hl
  have hA := am_ok.A ok ht
  rw [hty] at hA
  have hlt : i.toNatClampNeg < n := Nat.not_le.mp fun q => hin (Or.inr q)
  exact W.cald (v := .int (V c i.toNatClampNeg)) ok.1 ok.2.1 (hH.1 c _ hsh) (hA n (fun j => .int (V c j))) (fun q => by cases q) (by show ¬ (i < 0 ∨ (arrV _ _ _).slots.size ≤ _); rw [arrV_size]; exact hin) (by show (arrV _ _ _).slots[_]? = _; rw [arrV_read _ _ hlt]) rfl rfl hdg (kk H locs ls hH hz hlo hl)
theorem AW.fald {c t n : Nat} {i : Int32} (ok : am_ok X U G own cc nL) (hsh : am_sh X c = some (.inr (t, n, .inl true))) (ht : t < 8) (hty : am_tA X t = .float) (hin : vp_in i n) (hdg : decode cc pc = .ok (.faload, 1))
    (kk : AW X U G nL kc ks V Q (pc + 1) L (.float (V c i.toNatClampNeg).toUInt32 :: st)) : AW X U G nL kc ks V Q pc L (.int i :: .ref c :: st) := by
  intro H locs ls hH hz hlo hl
  have hA := am_ok.A ok ht
  rw [hty] at hA
  have hlt : i.toNatClampNeg < n := Nat.not_le.mp fun q => hin (Or.inr q)
  exact W.fald (v := .float (V c i.toNatClampNeg).toUInt32) ok.1 ok.2.1 (hH.1 c _ hsh) (hA n (fun j => .float (V c j).toUInt32)) (fun q => by cases q) (by show ¬ (i < 0 ∨ (arrV _ _ _).slots.size ≤ _); rw [arrV_size]; exact hin) (by show (arrV _ _ _).slots[_]? = _; rw [arrV_read _ _ hlt]) rfl rfl hdg (kk H locs ls hH hz hlo hl)
/-- a reference out of an array of references, not null -/
theorem AW.aald {c t n d : Nat} {i : Int32} {g : Nat → Int32 → Option Nat} {C : FieldType} (ok : am_ok X U G own cc nL) (hsh : am_sh X c = some (.inr (t, n, .inr g))) (ht : t < 8) (hty : am_tA X t = C) (hC : C.isReference = true) (hin : vp_in i n) (hg : g i.toNatClampNeg (V c i.toNatClampNeg) = some d) (hdg : decode cc pc = .ok (.aaload, 1))
    (kk : AW X U G nL kc ks V Q (pc + 1) L (.ref d :: st)) : AW X U G nL kc ks V Q pc L (.int i :: .ref c :: st) := by
  intro H locs ls hH hz hlo hl
  have hA := am_ok.A ok ht
  rw [hty] at hA
  have hlt : i.toNatClampNeg < n := Nat.not_le.mp fun q => hin (Or.inr q)
  exact W.aald (v := .ref (am_ad U d)) (ty := C) ok.1 ok.2.1 (hH.1 c _ hsh) (hA n (fun j => va_rf ((g j (V c j)).map (am_ad U)))) hC (fun q => by cases q) (by show ¬ (i < 0 ∨ (arrV _ _ _).slots.size ≤ _); rw [arrV_size]; exact hin) (by show (arrV _ _ _).slots[_]? = _; rw [arrV_read _ _ hlt]; show some (va_rf ((g i.toNatClampNeg (V c i.toNatClampNeg)).map (am_ad U))) = _; rw [hg]; rfl) rfl rfl hdg (kk H locs ls hH hz hlo hl)
theorem AW.iast {c t n : Nat} {i x : Int32} (ok : am_ok X U G own cc nL) (hsh : am_sh X c = some (.inr (t, n, .inl false))) (hw : am_wr X c = true) (ht : t < 8) (hty : am_tA X t = .int) (hin : vp_in i n) (hdg : decode cc pc = .ok (.iastore, 1))
    (kk : AW X U G nL kc ks (am_set V c i.toNatClampNeg x) Q (pc + 1) L st) : AW X U G nL kc ks V Q pc L (.int x :: .int i :: .ref c :: st) := by
  intro H locs ls hH hz hlo hl
  have hA := am_ok.A ok ht
  rw [hty] at hA
  refine W.iast ok.1 ok.2.1 (hH.1 c _ hsh) (hA n (fun j => .int (V c j))) (fun q => by cases q) (by show ¬ (i < 0 ∨ (arrV _ _ _).slots.size ≤ _); rw [arrV_size]; exact hin) rfl rfl hdg fun H1 e z oq => ?_
  have hat : va_at (am_D U) (am_cl X) (am_ad U c, am_e (am_dA U) (am_ad U) (upd (V c) i.toNatClampNeg x) (.inr (t, n, .inl false))) H1 := by
    show H1[am_ad U c]? = some (vp_cell (am_dA U t) (n, .inl (upd (V c) i.toNatClampNeg x)))
    have e : H1[am_ad U c]? = some ((vp_cell (am_dA U t) (n, .inl (V c))).setSlot i.toNatClampNeg (.int x)) := e
    rw [e, vp_cell_i, vp_cell_i, arrV_store]
    congr 2
    funext q
    by_cases hq : q = i.toNatClampNeg
    · subst hq
      simp [updV, upd]
    · simp [updV, upd, hq]
  exact kk H1 _ ls (am_H.put ok.2.2.2.2.2.2.1 hH hsh hw (am_set_at V c _ x) (fun d hd => am_set_ne V _ x hd) hat z oq) (by rw [z]; exact hz) (am_locs hlo (ok.2.2.2.2.2.2.1.2.2.2.2 c _ hsh hw)) hl
theorem AW.cast {c t n : Nat} {i x : Int32} (ok : am_ok X U G own cc nL) (hsh : am_sh X c = some (.inr (t, n, .inl false))) (hw : am_wr X c = true) (ht : t < 8) (hty : am_tA X t = .char) (hin : vp_in i n) (hx : narrow .char (.int x) = .int x) (hdg : decode cc pc = .ok (.castore, 1))
    (kk : AW X U G nL kc ks (am_set V c i.toNatClampNeg x) Q (pc + 1) L st) : AW X U G nL kc ks V Q pc L (.int x :: .int i :: .ref c :: st) := by
  intro H locs ls hH hz hlo hl
  have hA := am_ok.A ok ht
  rw [hty] at hA
  refine W.cast ok.1 ok.2.1 (hH.1 c _ hsh) (hA n (fun j => .int (V c j))) (fun q => by cases q) (by show ¬ (i < 0 ∨ (arrV _ _ _).slots.size ≤ _); rw [arrV_size]; exact hin) rfl rfl hdg fun H1 e z oq => ?_
  rw [hx] at e
  have hat : va_at (am_D U) (am_cl X) (am_ad U c, am_e (am_dA U) (am_ad U) (upd (V c) i.toNatClampNeg x) (.inr (t, n, .inl false))) H1 := by
    show H1[am_ad U c]? = some (vp_cell (am_dA U t) (n, .inl (upd (V c) i.toNatClampNeg x)))
    have e : H1[am_ad U c]? = some ((vp_cell (am_dA U t) (n, .inl (V c))).setSlot i.toNatClampNeg (.int x)) := e
    rw [e, vp_cell_i, vp_cell_i, arrV_store]
    congr 2
    funext q
    by_cases hq : q = i.toNatClampNeg
    · subst hq
      simp [updV, upd]
    · simp [updV, upd, hq]
  exact kk H1 _ ls (am_H.put ok.2.2.2.2.2.2.1 hH hsh hw (am_set_at V c _ x) (fun d hd => am_set_ne V _ x hd) hat z oq) (by rw [z]; exact hz) (am_locs hlo (ok.2.2.2.2.2.2.1.2.2.2.2 c _ hsh hw)) hl
theorem AW.fast {c t n : Nat} {i : Int32} {x : UInt32} (ok : am_ok X U G own cc nL) (hsh : am_sh X c = some (.inr (t, n, .inl true))) (hw : am_wr X c = true) (ht : t < 8) (hty : am_tA X t = .float) (hin : vp_in i n) (hdg : decode cc pc = .ok (.fastore, 1))
    (kk : AW X U G nL kc ks (am_set V c i.toNatClampNeg x.toInt32) Q (pc + 1) L st) : AW X U G nL kc ks V Q pc L (.float x :: .int i :: .ref c :: st) := by
  intro H locs ls hH hz hlo hl
  have hA := am_ok.A ok ht
  rw [hty] at hA
  refine W.fast ok.1 ok.2.1 (hH.1 c _ hsh) (hA n (fun j => .float (V c j).toUInt32)) (fun q => by cases q) (by show ¬ (i < 0 ∨ (arrV _ _ _).slots.size ≤ _); rw [arrV_size]; exact hin) rfl rfl hdg fun H1 e z oq => ?_
  have hat : va_at (am_D U) (am_cl X) (am_ad U c, am_e (am_dA U) (am_ad U) (upd (V c) i.toNatClampNeg x.toInt32) (.inr (t, n, .inl true))) H1 := by
    show H1[am_ad U c]? = some (vp_cell (am_dA U t) (n, .inr (.inr (.inl (fun j => (upd (V c) i.toNatClampNeg x.toInt32 j).toUInt32)))))
    have e : H1[am_ad U c]? = some ((vp_cell (am_dA U t) (n, .inr (.inr (.inl (fun j => (V c j).toUInt32))))).setSlot i.toNatClampNeg (.float x)) := e
    rw [e, vp_cell_f, vp_cell_f, arrV_store]
    congr 2
    funext q
    by_cases hq : q = i.toNatClampNeg
    · subst hq
      simp [updV, upd]
    · simp [updV, upd, hq]
  exact kk H1 _ ls (am_H.put ok.2.2.2.2.2.2.1 hH hsh hw (am_set_at V c _ _) (fun d hd => am_set_ne V _ _ hd) hat z oq) (by rw [z]; exact hz) (am_locs hlo (ok.2.2.2.2.2.2.1.2.2.2.2 c _ hsh hw)) hl
end AMH
end
section
/-! ===== AM4: contracts, calls, ends ===== -/
def am_St (X : am_X) (U : am_U) (V : am_V) (S : State) : Prop := am_H X U V S.heap ∧ (am_s0 U).WarmedH S.vm
/-- what a method's end owes: an answer, or the class of an exception, and the table behind it -/
abbrev am_P : Type := (Option Value ⊕ String) → am_V → Prop
def am_is (res : Option Value ⊕ String) (V : am_V) : am_P := fun x W => x = res ∧ W = V
def am_Qc (X : am_X) (U : am_U) (P : am_P) : Array Value → State → Outcome → State → Prop := fun _ st o t => ∃ (r : Option Value) (V : am_V), P (.inl r) V ∧ o = .returned (r.map (am_v (am_ad U))) ∧ am_H X U V t.heap ∧ st.heap.size ≤ t.heap.size
def am_XC (X : am_X) (U : am_U) (P : am_P) : String → State → State → Prop := fun E st t => ∃ V : am_V, P (.inr E) V ∧ am_H X U V t.heap ∧ st.heap.size ≤ t.heap.size
def am_fr (U : am_U) : Addr → Prop := fun q => (am_s0 U).heap.size ≤ q
/-- the contract of a method at these arguments and this table: it comes to an end with P -/
def am_Ct (X : am_X) (U : am_U) (l : Launch) (y : MethodName) (b : ByteArray) (nL : Nat) (ret : Option FieldType) (rm : Room) (As : List Value) (V : am_V) (P : am_P) : Prop :=
  vx_Met l y (Cond.code y b nL ret :: am_WS X) rm (fun v S => v = (As.map (am_v (am_ad U))).toArray ∧ am_St X U V S) (am_Qc X U P) (am_XC X U P) rm.cells rm.slots (am_fr U)
def am_End (X : am_X) (U : am_U) (G : am_G) (rm : Room) (P : am_P) : State → Prop :=
  vx_MQ (am_gb G) (am_Qc X U P) (am_XC X U P) (am_ga G) (am_gs G) rm.cells rm.slots (am_fr U)
/-- the heap at the walk's start holds the world too: what stood before the law stands -/
def am_st0 (U : am_U) (G : am_G) : Prop := (am_s0 U).heap.size ≤ (am_gs G).heap.size ∧ ∀ q : Nat, q < (am_s0 U).heap.size → (am_gs G).heap[q]? = (am_s0 U).heap[q]?
def am_L0 : Nat → List Value → List (Option Value)
  | n, [] => List.replicate n none
  | n, v :: r => if (v.category == 2) = true then some v :: none :: am_L0 (n - 2) r else some v :: am_L0 (n - 1) r
theorem am_rep (n i : Nat) (v : Value) (h : am_get (List.replicate n none) i = some v) : False := by
  unfold am_get at h
  rw [List.getElem?_replicate] at h
  by_cases e : i < n
  · rw [if_pos e] at h
    cases h
  · rw [if_neg e] at h
    cases h
theorem am_args (ad : Nat → Nat) : ∀ (As : List Value) (n j i : Nat) (v : Value), am_get (am_L0 n As) i = some v → (j + i, am_v ad v) ∈ lv_args j (As.map (am_v ad))
  | [], n, j, i, v, h => (am_rep n i v h).elim
  | w :: r, n, j, i, v, h => by
    simp only [am_L0] at h
    simp only [List.map_cons, lv_args, am_v_cat]
    by_cases hc : w.category = 2
    · rw [if_pos (by simp [hc])] at h
      rw [if_pos hc]
      match i, h with
      | 0, h =>
        cases h
        exact List.mem_cons_self
      | 1, h => cases h
      | i + 2, h =>
        have := am_args ad r (n - 2) (j + 2) i v h
        rw [show j + 2 + i = j + (i + 2) by omega] at this
        exact List.mem_cons_of_mem _ this
    · rw [if_neg (by simp [hc])] at h
      rw [if_neg hc]
      match i, h with
      | 0, h =>
        cases h
        exact List.mem_cons_self
      | i + 1, h =>
        have := am_args ad r (n - 1) (j + 1) i v h
        rw [show j + 1 + i = j + (i + 1) by omega] at this
        exact List.mem_cons_of_mem _ this
theorem am_sl (ad : Nat → Nat) : ∀ As : List Value, (lg_sl (As.map (am_v ad))).length = (As.map Value.category).sum
  | [] => rfl
  | v :: r => by
    have h := am_sl ad r
    unfold lg_sl at h ⊢
    rw [List.map_cons, List.flatMap_cons, List.length_append, h, am_v_cat, List.map_cons, List.sum_cons]
    rcases lv_cat v with e | e <;> simp [e]
theorem am_NS_moved {X : am_X} {U : am_U} {S : State} (hb : am_base X U) (hW : (am_s0 U).WarmedH S.vm) {w : Cond} (hw : w ∈ am_NS X) : va_Nw w S := by
  rcases hb.1.1.2 w hw with ⟨a, i, y, h, rfl⟩ | ⟨a, i, b, n, d, h, rfl⟩ | ⟨a, b, rfl⟩ | ⟨y, rfl⟩
  · exact va_Nw.warmM hW (hb.1.2.1 _ hw)
  · exact va_Nw.warmF hW (hb.1.2.1 _ hw)
  · exact va_Nw.warmC hW (hb.1.2.1 _ hw)
  · exact va_Nw.warmD hW (hb.1.2.1 _ hw)
theorem am_NS_on {X : am_X} {U : am_U} (hb : am_base X U) {w : Cond} (hw : w ∈ am_NS X) : w.onTables = true := by
  rcases hb.1.1.2 w hw with ⟨a, i, y, h, rfl⟩ | ⟨a, i, b, n, d, h, rfl⟩ | ⟨a, b, rfl⟩ | ⟨y, rfl⟩ <;> rfl
set_option maxHeartbeats 4000000 in
/-- a contract by a walk of the body -/
theorem am_Ct.of {X : am_X} {U : am_U} {l : Launch} {y : MethodName} {b : ByteArray} {nL : Nat} {ret : Option FieldType} {rm : Room} {As : List Value} {V : am_V} {P : am_P} (hb : am_base X U) (hfl : l.stackTraces = false) (hy : plainName y.cls = true) (hlen : (As.map Value.category).sum ≤ nL)
    (body : ∀ G : am_G, am_gl G = l → am_gR G = rm → (am_gt G).sig.returnType = ret → am_ok X U G y.cls b nL → am_st0 U G → (∀ x ∈ (am_gc G).exceptionTable.toList, False) → AW X U G nL 0 0 V (am_End X U G rm P) 0 (am_L0 nL As) []) : am_Ct X U l y b nL ret rm As V P := by
  refine vx_ofW (cc := b) (maxL := nL) (ret := ret) hy rfl ?_
  intro p e s m args below meth c s₁ B hml hex hv
  obtain ⟨rfl, hH, hW⟩ := hv
  have hts := atoms_spec (ws := Cond.code y b nL ret :: am_WS X) B.pre
  have hown : s.vm.findClass y.cls = some m.cls := findClass_of_methodNamed B.named
  have ok : am_ok X U (l, p, e, rm, s, m, (As.map (am_v (am_ad U))).toArray, below, meth, c) y.cls b nL := ⟨B.exec, B.bytes, hml, hown, fun w hw => hts w (List.mem_cons_of_mem _ hw), hW, hb, B.notSynchronized, hfl⟩
  have h1 := body (l, p, e, rm, s, m, (As.map (am_v (am_ad U))).toArray, below, meth, c) rfl rfl B.returns ok hH.2 hex
  rw [lg_entry_eq]
  have he := lv_entry (As.map (am_v (am_ad U))) (n := nL) (by rw [am_sl]; exact hlen)
  exact h1 s.heap [] _ hH (Nat.le_refl _) (fun q hq => by cases hq) ⟨he.1, he.2.1, fun i v hi => by
    have h2 := am_args (am_ad U) As nL 0 i v hi
    rw [Nat.zero_add] at h2
    exact he.2.2 _ h2⟩
section AMC
variable {X : am_X} {U : am_U} {G : am_G} {own : String} {cc : ByteArray} {nL kc ks pc pc' : Nat} {V : am_V} {Q : State → Prop} {L L' : List (Option Value)} {st st' : List Value}
/-- an exception of class E has come over the frame at pc -/
def AX (X : am_X) (U : am_U) (G : am_G) (nL kc ks : Nat) (V : am_V) (Q : State → Prop) (E : String) (pc : Nat) (L : List (Option Value)) : Prop :=
  ∀ (H : Heap) (locs : List Loc) (ls : Array Slot) (rest : List Value) (q : Addr) (ce : Cell), am_H X U V H → (am_gs G).heap.size ≤ H.size → (∀ q ∈ locs, (am_s0 U).heap.size ≤ q.base) → am_l (am_ad U) nL L ls →
    H[q]? = some ce → ce.vm = .none → (am_gs G).vm.findClass E = some ce.cls →
    vx_W (am_gp G) (am_gl G) (am_ge G) (am_gR G) (am_gs G) (am_gm G) (am_ga G) (am_gb G) (am_gt G) (am_gc G) H locs kc ks Q (F0 (am_gm G) pc ls rest) q
theorem am_wordsok {X : am_X} {U : am_U} {G : am_G} {own : String} {cc : ByteArray} {nL : Nat} (ok : am_ok X U G own cc nL) : am_words X := ok.2.2.2.2.2.2.1.1.1
/-- the words of a virtual call -/
def am_cv (X : am_X) (own : String) (index : Nat) (y : MethodName) (b : ByteArray) (nL : Nat) (ret : Option FieldType) (n : Nat) : Prop :=
  Cond.methodLink own index y ∈ am_WS X ∧ Cond.instanceMethod y ∈ am_WS X ∧ Cond.selects y.cls y y ∈ am_WS X ∧ Cond.initialized y.cls ∈ am_WS X ∧ Cond.code y b nL ret ∈ am_WS X ∧
  (y.cls ≠ "java/lang/invoke/MethodHandle" ∧ y.cls ≠ "java/lang/invoke/VarHandle" ∧ (parseMethodDescriptor y.desc).map (fun d => d.parameters.length) = some n)
def am_cs (X : am_X) (own : String) (index : Nat) (y : MethodName) (b : ByteArray) (nL : Nat) (ret : Option FieldType) (n : Nat) : Prop :=
  Cond.methodLink own index y ∈ am_WS X ∧ Cond.static y ∈ am_WS X ∧ Cond.initialized y.cls ∈ am_WS X ∧ Cond.code y b nL ret ∈ am_WS X ∧
  (y.cls ≠ "java/lang/invoke/MethodHandle" ∧ y.cls ≠ "java/lang/invoke/VarHandle" ∧ (parseMethodDescriptor y.desc).map (fun d => d.parameters.length) = some n)
def am_cn (X : am_X) (own : String) (index : Nat) (y : MethodName) (host : String) (b : ByteArray) (nL : Nat) (ret : Option FieldType) (n : Nat) : Prop :=
  Cond.methodLinkNest own index y host ∈ am_NS X ∧ Cond.static y ∈ am_WS X ∧ Cond.initialized y.cls ∈ am_WS X ∧ Cond.code y b nL ret ∈ am_WS X ∧
  (y.cls ≠ "java/lang/invoke/MethodHandle" ∧ y.cls ≠ "java/lang/invoke/VarHandle" ∧ (parseMethodDescriptor y.desc).map (fun d => d.parameters.length) = some n)
theorem am_good (hw : am_words X) {ws : List Cond} (h : ∀ w ∈ ws, w ∈ am_WS X) : GoodIn (am_WS X) ws := fun w hm => ⟨h w hm, hw.1 w (h w hm)⟩
theorem am_blind (As : List Value) : FrameBlind (fun v S => v = (As.map (am_v (am_ad U))).toArray ∧ am_St X U V S) := fun _ _ _ _ q => q
end AMC
end
section
/-! ===== AM5: calls ===== -/
section AMD
variable {X : am_X} {U : am_U} {G : am_G} {own : String} {cc : ByteArray} {nL kc ks pc pc' : Nat} {V V1 : am_V} {Q : State → Prop} {L L' : List (Option Value)} {st st' : List Value} {P : am_P} {H : Heap} {locs : List Loc} {ls : Array Slot}
theorem am_after {mc ms : Nat} {st0 : List Value} {a : Array Value} (hr : vx_Run (am_gp G) (am_gl G) (am_ge G) (am_gR G) (am_gs G) (am_gm G) (am_ga G) (am_gb G) (am_gt G) (am_gc G) H locs kc ks mc ms (F0 (am_gm G) pc ls st0) (st.map (am_v (am_ad U))) (am_Qc X U P a) (am_XC X U P) (am_fr U))
    (hz : (am_gs G).heap.size ≤ H.size) (hlo : ∀ q ∈ locs, (am_s0 U).heap.size ≤ q.base) (hl : am_l (am_ad U) nL L ls)
    (kx : ∀ (E : String) (V1 : am_V), P (.inr E) V1 → AX X U G nL (kc + mc) (ks + ms) V1 Q E pc L) (kk : ∀ (r : Option Value) (V1 : am_V), P (.inl r) V1 → AW X U G nL (kc + mc) (ks + ms) V1 Q (pc + 3) L (r.toList ++ st)) : am_W G H locs kc ks Q (F0 (am_gm G) pc ls st0) := by
  intro T hT XX
  rcases hr T hT XX with ⟨v, st₀, t, T', L9, h0, X', hL, e1, e2, ⟨r, V9, hr1, hv, hH1, hsz⟩, stp⟩ | ⟨q, st₀, t, T', L9, E, ce, h0, X', hL, e1, e2, ⟨V9, hr1, hH1, hsz⟩, hce, hcv, hcl, stp⟩
  · cases hv
    have hlo2 : ∀ q ∈ locs ++ L9, (am_s0 U).heap.size ≤ q.base := fun q hq => (List.mem_append.mp hq).elim (hlo q) (hL q)
    have k2 := kk r V9 hr1 T'.heap (locs ++ L9) ls (by rw [e1]; exact hH1) (by rw [e1]; exact Nat.le_trans (by rw [← h0] at hz; exact hz) hsz) hlo2 hl
    have e3 : ((r.toList ++ st).map (am_v (am_ad U))) = (r.map (am_v (am_ad U))).toList ++ st.map (am_v (am_ad U)) := by cases r <;> simp
    rw [e3] at k2
    obtain ⟨t2, a1, b1⟩ := k2 T' rfl X'
    exact ⟨t2, stp t2 a1, b1⟩
  · have hlo2 : ∀ q ∈ locs ++ L9, (am_s0 U).heap.size ≤ q.base := fun q hq => (List.mem_append.mp hq).elim (hlo q) (hL q)
    have k2 := kx E V9 hr1 T'.heap (locs ++ L9) ls (st.map (am_v (am_ad U))) q ce (by rw [e1]; exact hH1) (by rw [e1]; exact Nat.le_trans (by rw [← h0] at hz; exact hz) hsz) hlo2 hl (by rw [e1]; exact hce) hcv hcl
    obtain ⟨t2, a1, b1⟩ := k2 T' rfl X'
    exact ⟨t2, stp.trans a1, b1⟩
theorem am_map_rev (As st : List Value) (c : Nat) (ad : Nat → Nat) : ((As.reverse ++ .ref c :: st).map (am_v ad)) = (As.map (am_v ad)).reverse ++ .ref (ad c) :: st.map (am_v ad) := by
  rw [List.map_append, List.map_reverse]
  rfl
theorem am_cat (ad : Nat → Nat) : ∀ st : List Value, ((st.map (am_v ad)).map fun v => v.category) = st.map fun v => v.category
  | [] => rfl
  | v :: r => by simp only [List.map_cons, am_v_cat, am_cat ad r]
set_option maxHeartbeats 4000000 in
/-- a virtual call of a method of the receiver's own class (private ones too) -/
theorem AW.callV {y : MethodName} {b : ByteArray} {nL' n index ci c : Nat} {ret : Option FieldType} {rm : Room} {As : List Value} {os : List (Option Nat)} {T : u_T} {N : Nat}
    (ok : am_ok X U G own cc nL) (hC : am_Ct X U (am_gl G) y b nL' ret rm (.ref c :: As) V P) (hcv : am_cv X own index y b nL' ret n) (hsh : am_sh X c = some (.inl (ci, os))) (hcl : (am_cl X)[ci]? = some (y.cls, T, N)) (hn : As.length = n)
    (hst : (st.map fun v => v.category).sum ≤ 8) (hR : rm.frames + 1 ≤ (am_gR G).frames ∧ 8 + (nL' + 11) + rm.locals ≤ (am_gR G).locals) (hf : kc + rm.cells ≤ (am_gR G).cells ∧ ks + rm.slots ≤ (am_gR G).slots) (hdg : decode cc pc = .ok (.invokevirtual index, 3))
    (kx : ∀ (E : String) (V1 : am_V), P (.inr E) V1 → AX X U G nL (kc + rm.cells) (ks + rm.slots) V1 Q E pc L) (kk : ∀ (r : Option Value) (V1 : am_V), P (.inl r) V1 → AW X U G nL (kc + rm.cells) (ks + rm.slots) V1 Q (pc + 3) L (r.toList ++ st)) :
    AW X U G nL kc ks V Q pc L (As.reverse ++ .ref c :: st) := by
  intro H locs ls hH hz hlo hl
  obtain ⟨w1, w2, w3, w4, w5, hd⟩ := hcv
  have hts := ok.2.2.2.2.1
  have hw := am_wordsok ok
  have hT : GoodIn (am_WS X) (wsV own index y.cls y (Cond.code y b nL' ret :: am_WS X)) := am_good hw (by
    intro w hm
    simp only [wsV, List.mem_append, List.mem_cons, List.not_mem_nil, or_false] at hm
    rcases hm with (rfl | rfl | rfl | rfl) | rfl | hm
    · exact w1
    · exact w2
    · exact w3
    · exact w4
    · exact w5
    · exact hm)
  have cw := cwV (R := am_gR G) (s := am_gs G) (args := am_ga G) (own := own) (C := y.cls) (index := index) (y := y) (bytes := b) (maxL := nL') (ret := ret) (ws := Cond.code y b nL' ret :: am_WS X) (rm := rm) (mc := rm.cells) (ms := rm.slots) n hts hT rfl rfl rfl ⟨rfl, hd⟩ hR
  rw [am_map_rev]
  obtain ⟨r0, hr0, hob⟩ := hH.1 c _ hsh
  have hrec := va_recv (D := am_D U) (q0 := 0) (am_ok.K ok) (am_one (hH.1 c _ hsh)) hcl rfl
  refine am_after (a := (Value.ref (am_ad U c) :: As.map (am_v (am_ad U))).toArray) (vx_runV (Ts := am_WS X) (nL := nL) (own := own) (As := As.map (am_v (am_ad U))) (rest := st.map (am_v (am_ad U))) ⟨ok.1, ok.2.1, ok.2.2.1, ok.2.2.2.1, hts⟩ hC cw ⟨am_blind (.ref c :: As), hrec, fun S hS hWS => ⟨rfl, ?_, State.WarmedH.trans ok.2.2.2.2.2.1 hWS⟩⟩ rfl (by rw [List.length_map]; exact hn) hl.1 rfl ?_ hdg hf) hz hlo hl kx kk
  · rw [hS]; exact hH
  · show 2 * 0 + _ ≤ 8
    rw [am_cat]
    omega
theorem am_map_rev2 (As st : List Value) (ad : Nat → Nat) : ((As.reverse ++ st).map (am_v ad)) = (As.map (am_v ad)).reverse ++ st.map (am_v ad) := by
  rw [List.map_append, List.map_reverse]
set_option maxHeartbeats 4000000 in
theorem AW.callS {y : MethodName} {b : ByteArray} {nL' n index : Nat} {ret : Option FieldType} {rm : Room} {As : List Value}
    (ok : am_ok X U G own cc nL) (hC : am_Ct X U (am_gl G) y b nL' ret rm As V P) (hcv : am_cs X own index y b nL' ret n) (hn : As.length = n)
    (hst : (st.map fun v => v.category).sum ≤ 8) (hR : rm.frames + 1 ≤ (am_gR G).frames ∧ 8 + (nL' + 11) + rm.locals ≤ (am_gR G).locals) (hf : kc + rm.cells ≤ (am_gR G).cells ∧ ks + rm.slots ≤ (am_gR G).slots) (hdg : decode cc pc = .ok (.invokestatic index, 3))
    (kx : ∀ (E : String) (V1 : am_V), P (.inr E) V1 → AX X U G nL (kc + rm.cells) (ks + rm.slots) V1 Q E pc L) (kk : ∀ (r : Option Value) (V1 : am_V), P (.inl r) V1 → AW X U G nL (kc + rm.cells) (ks + rm.slots) V1 Q (pc + 3) L (r.toList ++ st)) :
    AW X U G nL kc ks V Q pc L (As.reverse ++ st) := by
  intro H locs ls hH hz hlo hl
  obtain ⟨w1, w2, w4, w5, hd⟩ := hcv
  have hts := ok.2.2.2.2.1
  have hw := am_wordsok ok
  have hT : GoodIn (am_WS X) (va_wsS own index y (Cond.code y b nL' ret :: am_WS X)) := am_good hw (by
    intro w hm
    simp only [va_wsS, List.mem_append, List.mem_cons, List.not_mem_nil, or_false] at hm
    rcases hm with (rfl | rfl | rfl) | rfl | hm
    · exact w1
    · exact w2
    · exact w4
    · exact w5
    · exact hm)
  have cw := va_cwS (R := am_gR G) (s := am_gs G) (args := am_ga G) (own := own) (index := index) (y := y) (bytes := b) (maxL := nL') (ret := ret) (ws := Cond.code y b nL' ret :: am_WS X) (rm := rm) (mc := rm.cells) (ms := rm.slots) n hts hT rfl rfl rfl hd hR
  rw [am_map_rev2]
  refine am_after (a := (As.map (am_v (am_ad U))).toArray) (vx_runS (Ts := am_WS X) (nL := nL) (own := own) (As := As.map (am_v (am_ad U))) (rest := st.map (am_v (am_ad U))) ⟨ok.1, ok.2.1, ok.2.2.1, ok.2.2.2.1, hts⟩ hC cw ⟨am_blind As, fun S hS hWS => ⟨rfl, ?_, State.WarmedH.trans ok.2.2.2.2.2.1 hWS⟩⟩ rfl (by rw [List.length_map]; exact hn) hl.1 rfl ?_ hdg hf) hz hlo hl kx kk
  · rw [hS]; exact hH
  · show 2 * 0 + _ ≤ 8
    rw [am_cat]
    omega
set_option maxHeartbeats 4000000 in
/-- a static call of a nest mate's private method -/
theorem AW.callSN {y : MethodName} {b : ByteArray} {nL' n index : Nat} {ret : Option FieldType} {rm : Room} {As : List Value} {host : String}
    (ok : am_ok X U G own cc nL) (hC : am_Ct X U (am_gl G) y b nL' ret rm As V P) (hcv : am_cn X own index y host b nL' ret n) (hn : As.length = n)
    (hst : (st.map fun v => v.category).sum ≤ 8) (hR : rm.frames + 1 ≤ (am_gR G).frames ∧ 8 + (nL' + 11) + rm.locals ≤ (am_gR G).locals) (hf : kc + rm.cells ≤ (am_gR G).cells ∧ ks + rm.slots ≤ (am_gR G).slots) (hdg : decode cc pc = .ok (.invokestatic index, 3))
    (kx : ∀ (E : String) (V1 : am_V), P (.inr E) V1 → AX X U G nL (kc + rm.cells) (ks + rm.slots) V1 Q E pc L) (kk : ∀ (r : Option Value) (V1 : am_V), P (.inl r) V1 → AW X U G nL (kc + rm.cells) (ks + rm.slots) V1 Q (pc + 3) L (r.toList ++ st)) :
    AW X U G nL kc ks V Q pc L (As.reverse ++ st) := by
  intro H locs ls hH hz hlo hl
  obtain ⟨w1, w2, w4, w5, hd⟩ := hcv
  have hts := ok.2.2.2.2.1
  have hw := am_wordsok ok
  have hT : GoodIn (am_WS X) (Cond.code y b nL' ret :: am_WS X) := am_good hw (by
    intro w hm
    rcases List.mem_cons.mp hm with rfl | hm
    · exact w5
    · exact hm)
  have cw := va_cnB (R := am_gR G) (s := am_gs G) (args := am_ga G) (own := own) (host := host) (index := index) (y := y) (bytes := b) (maxL := nL') (ret := ret) (ws := Cond.code y b nL' ret :: am_WS X) (rm := rm) (mc := rm.cells) (ms := rm.slots) n hts hT rfl rfl rfl (am_NS_moved ok.2.2.2.2.2.2.1 ok.2.2.2.2.2.1 w1) (hts _ w4) hd hR
  rw [am_map_rev2]
  refine am_after (a := (As.map (am_v (am_ad U))).toArray) (vx_runSN (Ts := am_WS X) (nL := nL) (own := own) (As := As.map (am_v (am_ad U))) (rest := st.map (am_v (am_ad U))) ⟨ok.1, ok.2.1, ok.2.2.1, ok.2.2.2.1, hts⟩ hC ⟨cw, hts _ w2, trivial⟩ ⟨am_blind As, fun S hS hWS => ⟨rfl, ?_, State.WarmedH.trans ok.2.2.2.2.2.1 hWS⟩⟩ rfl (by rw [List.length_map]; exact hn) hl.1 rfl ?_ hdg hf) hz hlo hl kx kk
  · rw [hS]; exact hH
  · show 2 * 0 + _ ≤ 8
    rw [am_cat]
    omega
/-! ends -/
theorem am_end {G : am_G} {rm : Room} {V' : am_V} {v : Option Value} (ok : am_ok X U G own cc nL) (hp : P (.inl v) V') (hH : am_H X U V' H) (hz : (am_gs G).heap.size ≤ H.size) : ∀ t : State, t.heap = H → (am_gs G).WarmedH t.vm → am_Qc X U P (am_ga G) (am_gs G) (.returned (v.map (am_v (am_ad U)))) t :=
  fun t ht _ => ⟨v, V', hp, rfl, by rw [ht]; exact hH, by rw [ht]; exact hz⟩
theorem AW.iret {rm : Room} {x : Int32} {ty : FieldType} (ok : am_ok X U G own cc nL) (hp : P (.inl (some (.int x))) V) (hr : (am_gt G).sig.returnType = some ty) (hn : narrow ty (.int x) = .int x) (hc : kc ≤ rm.cells) (hs : ks ≤ rm.slots) (hdg : decode cc pc = .ok (.ireturn, 1)) :
    AW X U G nL kc ks V (am_End X U G rm P) pc L [.int x] := by
  intro H locs ls hH hz hlo hl
  exact W.widen hc hs (vx_ret (W.zret (v := x) ok.1 ok.2.1 hr hn (am_end (rm := rm) (v := some (.int x)) ok hp hH hz) hlo hdg ok.2.2.2.2.2.2.2.1))
theorem AW.lret {rm : Room} {x : Int64} (ok : am_ok X U G own cc nL) (hp : P (.inl (some (.long x))) V) (hr : (am_gt G).sig.returnType = some .long) (hc : kc ≤ rm.cells) (hs : ks ≤ rm.slots) (hdg : decode cc pc = .ok (.lreturn, 1)) :
    AW X U G nL kc ks V (am_End X U G rm P) pc L [.long x] := by
  intro H locs ls hH hz hlo hl
  exact W.widen hc hs (vx_ret (W.lret (v := x) ok.1 ok.2.1 hr (am_end (rm := rm) (v := some (.long x)) ok hp hH hz) hlo hdg ok.2.2.2.2.2.2.2.1))
theorem AW.fret {rm : Room} {x : UInt32} (ok : am_ok X U G own cc nL) (hp : P (.inl (some (.float x))) V) (hr : (am_gt G).sig.returnType = some .float) (hc : kc ≤ rm.cells) (hs : ks ≤ rm.slots) (hdg : decode cc pc = .ok (.freturn, 1)) :
    AW X U G nL kc ks V (am_End X U G rm P) pc L [.float x] := by
  intro H locs ls hH hz hlo hl
  exact W.widen hc hs (vx_ret (W.fret (v := x) ok.1 ok.2.1 hr (am_end (rm := rm) (v := some (.float x)) ok hp hH hz) hlo hdg ok.2.2.2.2.2.2.2.1))
theorem AW.dret {rm : Room} {x : UInt64} (ok : am_ok X U G own cc nL) (hp : P (.inl (some (.double x))) V) (hr : (am_gt G).sig.returnType = some .double) (hc : kc ≤ rm.cells) (hs : ks ≤ rm.slots) (hdg : decode cc pc = .ok (.dreturn, 1)) :
    AW X U G nL kc ks V (am_End X U G rm P) pc L [.double x] := by
  intro H locs ls hH hz hlo hl
  exact W.widen hc hs (vx_ret (W.dret (v := x) ok.1 ok.2.1 hr (am_end (rm := rm) (v := some (.double x)) ok hp hH hz) hlo hdg ok.2.2.2.2.2.2.2.1))
theorem AW.vret {rm : Room} (ok : am_ok X U G own cc nL) (hp : P (.inl none) V) (hr : (am_gt G).sig.returnType = none) (hc : kc ≤ rm.cells) (hs : ks ≤ rm.slots) (hdg : decode cc pc = .ok (.return_, 1)) :
    AW X U G nL kc ks V (am_End X U G rm P) pc L [] := by
  intro H locs ls hH hz hlo hl
  exact W.widen hc hs (vx_ret (W.vret ok.1 ok.2.1 hr (am_end (rm := rm) (v := none) ok hp hH hz) hlo hdg ok.2.2.2.2.2.2.2.1))
theorem AW.aret {rm : Room} {c : Nat} {rt : FieldType} (ok : am_ok X U G own cc nL) (hp : P (.inl (some (.ref c))) V) (hr : (am_gt G).sig.returnType = some rt) (hrt : (∃ n, rt = .object n) ∨ ∃ t, rt = .array t) (hc : kc ≤ rm.cells) (hs : ks ≤ rm.slots) (hdg : decode cc pc = .ok (.areturn, 1)) :
    AW X U G nL kc ks V (am_End X U G rm P) pc L [.ref c] := by
  intro H locs ls hH hz hlo hl
  exact W.widen hc hs (vx_ret (W.aret (v := .ref (am_ad U c)) ok.1 ok.2.1 hr hrt (Or.inr ⟨_, rfl⟩) (am_end (rm := rm) (v := some (.ref c)) ok hp hH hz) hlo hdg ok.2.2.2.2.2.2.2.1))
/-- an exception that this method's table doesn't cover goes on to the caller -/
theorem AX.out {rm : Room} {E : String} (ok : am_ok X U G own cc nL) (hex : ∀ x ∈ (am_gc G).exceptionTable.toList, False) (hc : kc ≤ rm.cells) (hs : ks ≤ rm.slots) (hp : P (.inr E) V) : AX X U G nL kc ks V (am_End X U G rm P) E pc L := by
  intro H locs ls rest q ce hH hz hlo hl hq hv hcl
  exact vx_out (fun x hx => (hex x hx).elim) ok.2.2.2.2.2.2.2.1 hq hv hcl (fun t ht _ => ⟨V, hp, by rw [ht]; exact hH, by rw [ht]; exact hz⟩) hlo hc hs
end AMD
end
section
/-! ===== AM6: exceptions ===== -/
theorem am_H.grow {X : am_X} {U : am_U} {V : am_V} {H H1 : Heap} (h : am_H X U V H) (hz : H.size ≤ H1.size) (hq : ∀ q : Nat, q < H.size → H1[q]? = H[q]?) : am_H X U V H1 :=
  ⟨fun c x hx => (h.1 c x hx).kept (hq _ (h.1 c x hx).lt), Nat.le_trans h.2.1 hz, fun q hl => (hq q (Nat.lt_of_lt_of_le hl h.2.1)).trans (h.2.2 q hl)⟩
/-- the words of 'throw new cls("text")' at the pool's entries ik, is, ic of own -/
def am_th (X : am_X) (own : String) (ik is ic : Nat) (cls text : String) (names : List String) : Prop :=
  Cond.classLink own ik cls ∈ am_WS X ∧ Cond.initialized cls ∈ am_WS X ∧ (∀ w ∈ vx_atS own ic cls names, w ∈ am_WS X ∨ w ∈ am_NS X) ∧ (∀ w ∈ Cond.classLink own ik cls :: Cond.initialized cls :: vx_atS own ic cls names, vx_ot w = true) ∧
  Bundle.fit cls = true ∧ (∀ n ∈ names, Bundle.fit n = true) ∧ (own, is, text) ∈ am_TS X
section AME
variable {X : am_X} {U : am_U} {G : am_G} {own : String} {cc : ByteArray} {nL kc ks pc pc' : Nat} {V V1 : am_V} {Q : State → Prop} {L L' : List (Option Value)} {st st' : List Value} {H : Heap} {locs : List Loc} {ls : Array Slot} {P : am_P}
theorem am_ok.NS (ok : am_ok X U G own cc nL) {w : Cond} (hw : w ∈ am_NS X) : w.before (am_ga G) (am_gs G) = true :=
  va_Nw.use (am_NS_on ok.2.2.2.2.2.2.1 hw) (am_NS_moved ok.2.2.2.2.2.2.1 ok.2.2.2.2.2.1 hw)
theorem am_ok.NC (ok : am_ok X U G own cc nL) {x : String × String} (hw : x ∈ am_NC X) : va_Nc x.1 x.2 (am_gs G) := va_Nc.moved ok.2.2.2.2.2.1.alike (ok.2.2.2.2.2.2.1.1.2.2.2.1 x hw)
theorem am_ok.str (ok : am_ok X U G own cc nL) {x : String × Nat × String} (hx : x ∈ am_TS X) : ∃ a : Nat, vk_R x.1 x.2.1 x.2.2 a (am_gs G) := by
  obtain ⟨a, ha⟩ := ok.2.2.2.2.2.2.1.1.2.2.1 x hx
  exact ⟨a, vk_R.warm ok.2.2.2.2.2.1 ha⟩
theorem am_Zq (ok : am_ok X U G own cc nL) (h0 : am_st0 U G) {C n d : String} (h : vx_Zq C n d (fun q => (am_s0 U).heap.size ≤ q) (am_s0 U) (am_s0 U).heap) : vx_Zq C n d (fun q => (am_s0 U).heap.size ≤ q) (am_gs G) (am_gs G).heap :=
  vx_Zq.moved ok.2.2.2.2.2.1.alike (h.kept (fun a ha _ => h0.2 a ha))
theorem am_vaS (h0 : am_st0 U G) (hH : am_H X U V H) (hz : (am_gs G).heap.size ≤ H.size) (hlo : ∀ q ∈ locs, (am_s0 U).heap.size ≤ q.base) (A : Nat → Prop) (hA : A = fun q => (am_s0 U).heap.size ≤ q) : va_S A (am_gs G).heap H locs := by
  subst hA
  refine ⟨hz, fun q hq hn => ?_, hlo⟩
  have hlt : q < (am_s0 U).heap.size := Nat.lt_of_not_le hn
  rw [hH.2.2 q hlt, h0.2 q hlt]
set_option maxHeartbeats 4000000 in
theorem AW.throwS {rm : Room} {ik is ic : Nat} {cls text : String} {names : List String} (ok : am_ok X U G own cc nL) (h0 : am_st0 U G) (hex : ∀ x ∈ (am_gc G).exceptionTable.toList, False) (hth : am_th X own ik is ic cls text names)
    (d0 : decode cc pc = .ok (.new ik, 3)) (d3 : decode cc (pc + 3) = .ok (.dup, 1)) (d4 : decode cc (pc + 4) = .ok (.ldc is, 2)) (d6 : decode cc (pc + 6) = .ok (.invokespecial ic, 3)) (d9 : decode cc (pc + 9) = .ok (.athrow, 1))
    (hRf : names.length + 3 < (am_gR G).frames) (hRl : (st.map fun v => v.category).sum + (13 * (names.length + 1) + 43) ≤ (am_gR G).locals) (hRc : kc + 1 ≤ (am_gR G).cells) (hRs : ks + 6 ≤ (am_gR G).slots) (hc : kc + 1 ≤ rm.cells) (hs : ks + 6 ≤ rm.slots) (hp : P (.inr cls) V) :
    AW X U G nL kc ks V (am_End X U G rm P) pc L st := by
  intro H locs ls hH hz hlo hl
  obtain ⟨t1, t2, t3, t4, t5, t6, t7⟩ := hth
  have hts := ok.2.2.2.2.1
  obtain ⟨sa, hsa⟩ := am_ok.str ok t7
  exact vx_throwS (A := fun q => (am_s0 U).heap.size ≤ q) ok.1 ok.2.1 ok.2.2.2.2.2.2.2.2 ok.2.2.2.1 t5 t6 (hts _ t1) (hts _ t2) hsa (fun w hw => (t3 w hw).elim (hts w) (am_ok.NS ok)) t4 (am_Zq ok h0 ok.2.2.2.2.2.2.1.1.2.2.2.2.1) (am_Zq ok h0 ok.2.2.2.2.2.2.1.1.2.2.2.2.2.1) (am_vaS h0 hH hz hlo _ rfl) (hl.1.trans ok.2.2.1.symm)
    d0 d3 d4 d6 d9 (fun x hx => (hex x hx).elim) hRf (by rw [am_cat]; exact hRl) hRc hRs ok.2.2.2.2.2.2.2.1 (fun t _ hsz hq => ⟨V, hp, hH.grow hsz hq, Nat.le_trans hz hsz⟩) hlo hc hs
set_option maxHeartbeats 4000000 in
theorem AW.throwSW {rm : Room} {ik is ic : Nat} {cls text : String} {names : List String} (ok : am_ok X U G own cc nL) (h0 : am_st0 U G) (hex : ∀ x ∈ (am_gc G).exceptionTable.toList, False) (hth : am_th X own ik is ic cls text names)
    (d0 : decode cc pc = .ok (.new ik, 3)) (d3 : decode cc (pc + 3) = .ok (.dup, 1)) (d4 : decode cc (pc + 4) = .ok (.ldc_w is, 3)) (d7 : decode cc (pc + 7) = .ok (.invokespecial ic, 3)) (d10 : decode cc (pc + 10) = .ok (.athrow, 1))
    (hRf : names.length + 3 < (am_gR G).frames) (hRl : (st.map fun v => v.category).sum + (13 * (names.length + 1) + 43) ≤ (am_gR G).locals) (hRc : kc + 1 ≤ (am_gR G).cells) (hRs : ks + 6 ≤ (am_gR G).slots) (hc : kc + 1 ≤ rm.cells) (hs : ks + 6 ≤ rm.slots) (hp : P (.inr cls) V) :
    AW X U G nL kc ks V (am_End X U G rm P) pc L st := by
  intro H locs ls hH hz hlo hl
  obtain ⟨t1, t2, t3, t4, t5, t6, t7⟩ := hth
  have hts := ok.2.2.2.2.1
  obtain ⟨sa, hsa⟩ := am_ok.str ok t7
  exact vx_throwSW (A := fun q => (am_s0 U).heap.size ≤ q) ok.1 ok.2.1 ok.2.2.2.2.2.2.2.2 ok.2.2.2.1 t5 t6 (hts _ t1) (hts _ t2) hsa (fun w hw => (t3 w hw).elim (hts w) (am_ok.NS ok)) t4 (am_Zq ok h0 ok.2.2.2.2.2.2.1.1.2.2.2.2.1) (am_Zq ok h0 ok.2.2.2.2.2.2.1.1.2.2.2.2.2.1) (am_vaS h0 hH hz hlo _ rfl) (hl.1.trans ok.2.2.1.symm)
    d0 d3 d4 d7 d10 (fun x hx => (hex x hx).elim) hRf (by rw [am_cat]; exact hRl) hRc hRs ok.2.2.2.2.2.2.2.1 (fun t _ hsz hq => ⟨V, hp, hH.grow hsz hq, Nat.le_trans hz hsz⟩) hlo hc hs
end AME
end
section
/-- .. of a class whose constructor passes on by the entry ix -/
def am_thT (X : am_X) (own : String) (ik is ic : Nat) (cls Yc : String) (bb : ByteArray) (ix : Nat) (text : String) (names : List String) : Prop :=
  Cond.classLink own ik cls ∈ am_WS X ∧ Cond.initialized cls ∈ am_WS X ∧ (∀ w ∈ vy_atS own ic cls Yc ix bb names, w ∈ am_WS X ∨ w ∈ am_NS X) ∧ (∀ w ∈ Cond.classLink own ik cls :: Cond.initialized cls :: vy_atS own ic cls Yc ix bb names, vx_ot w = true) ∧
  Bundle.fit cls = true ∧ (∀ n ∈ names, Bundle.fit n = true) ∧ (own, is, text) ∈ am_TS X ∧ Bundle.fit Yc = true ∧ vy_b bb ix
section AME
variable {X : am_X} {U : am_U} {G : am_G} {own : String} {cc : ByteArray} {nL kc ks pc pc' : Nat} {V V1 : am_V} {Q : State → Prop} {L L' : List (Option Value)} {st st' : List Value} {H : Heap} {locs : List Loc} {ls : Array Slot} {P : am_P}
set_option maxHeartbeats 4000000 in
theorem AW.throwT {rm : Room} {ik is ic : Nat} {cls text Yc : String} {bb : ByteArray} {ix : Nat} {names : List String} (ok : am_ok X U G own cc nL) (h0 : am_st0 U G) (hex : ∀ x ∈ (am_gc G).exceptionTable.toList, False) (hth : am_thT X own ik is ic cls Yc bb ix text names)
    (d0 : decode cc pc = .ok (.new ik, 3)) (d3 : decode cc (pc + 3) = .ok (.dup, 1)) (d4 : decode cc (pc + 4) = .ok (.ldc is, 2)) (d6 : decode cc (pc + 6) = .ok (.invokespecial ic, 3)) (d9 : decode cc (pc + 9) = .ok (.athrow, 1))
    (hRf : names.length + 4 < (am_gR G).frames) (hRl : (st.map fun v => v.category).sum + (13 * (names.length + 2) + 43) ≤ (am_gR G).locals) (hRc : kc + 1 ≤ (am_gR G).cells) (hRs : ks + 6 ≤ (am_gR G).slots) (hc : kc + 1 ≤ rm.cells) (hs : ks + 6 ≤ rm.slots) (hp : P (.inr cls) V) :
    AW X U G nL kc ks V (am_End X U G rm P) pc L st := by
  intro H locs ls hH hz hlo hl
  obtain ⟨t1, t2, t3, t4, t5, t6, t7, t8, t9⟩ := hth
  have hts := ok.2.2.2.2.1
  obtain ⟨sa, hsa⟩ := am_ok.str ok t7
  exact vy_throwS (A := fun q => (am_s0 U).heap.size ≤ q) ok.1 ok.2.1 ok.2.2.2.2.2.2.2.2 ok.2.2.2.1 t5 t8 t9 t6 (hts _ t1) (hts _ t2) hsa (fun w hw => (t3 w hw).elim (hts w) (am_ok.NS ok)) t4 (am_Zq ok h0 ok.2.2.2.2.2.2.1.1.2.2.2.2.1) (am_Zq ok h0 ok.2.2.2.2.2.2.1.1.2.2.2.2.2.1) (am_vaS h0 hH hz hlo _ rfl) (hl.1.trans ok.2.2.1.symm)
    d0 d3 d4 d6 d9 (fun x hx => (hex x hx).elim) hRf (by rw [am_cat]; exact hRl) hRc hRs ok.2.2.2.2.2.2.2.1 (fun t _ hsz hq => ⟨V, hp, hH.grow hsz hq, Nat.le_trans hz hsz⟩) hlo hc hs
set_option maxHeartbeats 4000000 in
theorem AW.throwTW {rm : Room} {ik is ic : Nat} {cls text Yc : String} {bb : ByteArray} {ix : Nat} {names : List String} (ok : am_ok X U G own cc nL) (h0 : am_st0 U G) (hex : ∀ x ∈ (am_gc G).exceptionTable.toList, False) (hth : am_thT X own ik is ic cls Yc bb ix text names)
    (d0 : decode cc pc = .ok (.new ik, 3)) (d3 : decode cc (pc + 3) = .ok (.dup, 1)) (d4 : decode cc (pc + 4) = .ok (.ldc_w is, 3)) (d7 : decode cc (pc + 7) = .ok (.invokespecial ic, 3)) (d10 : decode cc (pc + 10) = .ok (.athrow, 1))
    (hRf : names.length + 4 < (am_gR G).frames) (hRl : (st.map fun v => v.category).sum + (13 * (names.length + 2) + 43) ≤ (am_gR G).locals) (hRc : kc + 1 ≤ (am_gR G).cells) (hRs : ks + 6 ≤ (am_gR G).slots) (hc : kc + 1 ≤ rm.cells) (hs : ks + 6 ≤ rm.slots) (hp : P (.inr cls) V) :
    AW X U G nL kc ks V (am_End X U G rm P) pc L st := by
  intro H locs ls hH hz hlo hl
  obtain ⟨t1, t2, t3, t4, t5, t6, t7, t8, t9⟩ := hth
  have hts := ok.2.2.2.2.1
  obtain ⟨sa, hsa⟩ := am_ok.str ok t7
  exact vy_throwSW (A := fun q => (am_s0 U).heap.size ≤ q) ok.1 ok.2.1 ok.2.2.2.2.2.2.2.2 ok.2.2.2.1 t5 t8 t9 t6 (hts _ t1) (hts _ t2) hsa (fun w hw => (t3 w hw).elim (hts w) (am_ok.NS ok)) t4 (am_Zq ok h0 ok.2.2.2.2.2.2.1.1.2.2.2.2.1) (am_Zq ok h0 ok.2.2.2.2.2.2.1.1.2.2.2.2.2.1) (am_vaS h0 hH hz hlo _ rfl) (hl.1.trans ok.2.2.1.symm)
    d0 d3 d4 d7 d10 (fun x hx => (hex x hx).elim) hRf (by rw [am_cat]; exact hRl) hRc hRs ok.2.2.2.2.2.2.2.1 (fun t _ hsz hq => ⟨V, hp, hH.grow hsz hq, Nat.le_trans hz hsz⟩) hlo hc hs
end AME
end
section
/-! ===== AM7: constants, switches, floats, statics, Math, arraycopy, handlers ===== -/
section AMF
variable {X : am_X} {U : am_U} {G : am_G} {own : String} {cc : ByteArray} {nL kc ks pc pc' : Nat} {V V1 : am_V} {Q : State → Prop} {L L' : List (Option Value)} {st st' : List Value} {H : Heap} {locs : List Loc} {ls : Array Slot}
theorem AW.ldcI {index : Nat} {v : Int32} (ok : am_ok X U G own cc nL) (hw : Jvm.Cond.constant own index v ∈ am_WS X) (hdg : decode cc pc = .ok (.ldc index, 2)) (kk : AW X U G nL kc ks V Q (pc + 2) L (.int v :: st)) : AW X U G nL kc ks V Q pc L st :=
  fun H locs ls hH hz hlo hl => lv_ldc ok.1 ok.2.1 ok.2.2.2.1 (ok.2.2.2.2.1 _ hw) hdg (kk H locs ls hH hz hlo hl)
theorem AW.ldcwI {index : Nat} {v : Int32} (ok : am_ok X U G own cc nL) (hw : Jvm.Cond.constant own index v ∈ am_WS X) (hdg : decode cc pc = .ok (.ldc_w index, 3)) (kk : AW X U G nL kc ks V Q (pc + 3) L (.int v :: st)) : AW X U G nL kc ks V Q pc L st :=
  fun H locs ls hH hz hlo hl => lv_ldcw ok.1 ok.2.1 ok.2.2.2.1 (ok.2.2.2.2.1 _ hw) hdg (kk H locs ls hH hz hlo hl)
theorem AW.ldcF {index : Nat} {v : UInt32} (ok : am_ok X U G own cc nL) (hw : Jvm.Cond.constantFloat own index v ∈ am_WS X) (hdg : decode cc pc = .ok (.ldc index, 2)) (kk : AW X U G nL kc ks V Q (pc + 2) L (.float v :: st)) : AW X U G nL kc ks V Q pc L st :=
  fun H locs ls hH hz hlo hl => lv_ldcf ok.1 ok.2.1 ok.2.2.2.1 (ok.2.2.2.2.1 _ hw) hdg (kk H locs ls hH hz hlo hl)
theorem AW.ldcL {index : Nat} {v : Int64} (ok : am_ok X U G own cc nL) (hw : Jvm.Cond.constantLong own index v ∈ am_WS X) (hdg : decode cc pc = .ok (.ldc2_w index, 3)) (kk : AW X U G nL kc ks V Q (pc + 3) L (.long v :: st)) : AW X U G nL kc ks V Q pc L st :=
  fun H locs ls hH hz hlo hl => lv_ldc2 ok.1 ok.2.1 ok.2.2.2.1 (ok.2.2.2.2.1 _ hw) hdg (kk H locs ls hH hz hlo hl)
theorem AW.ldcD {index : Nat} {v : UInt64} (ok : am_ok X U G own cc nL) (hw : Jvm.Cond.constantDouble own index v ∈ am_WS X) (hdg : decode cc pc = .ok (.ldc2_w index, 3)) (kk : AW X U G nL kc ks V Q (pc + 3) L (.double v :: st)) : AW X U G nL kc ks V Q pc L st :=
  fun H locs ls hH hz hlo hl => lv_ldc2d ok.1 ok.2.1 ok.2.2.2.1 (ok.2.2.2.2.1 _ hw) hdg (kk H locs ls hH hz hlo hl)
theorem AW.fc0 (ok : am_ok X U G own cc nL) (hdg : decode cc pc = .ok (.fconst 0, 1)) (kk : AW X U G nL kc ks V Q (pc + 1) L (.float FP.fconst0 :: st)) : AW X U G nL kc ks V Q pc L st :=
  fun H locs ls hH hz hlo hl => lv_fconst0 ok.1 ok.2.1 hdg (kk H locs ls hH hz hlo hl)
theorem AW.fc1 (ok : am_ok X U G own cc nL) (hdg : decode cc pc = .ok (.fconst 1, 1)) (kk : AW X U G nL kc ks V Q (pc + 1) L (.float FP.fconst1 :: st)) : AW X U G nL kc ks V Q pc L st :=
  fun H locs ls hH hz hlo hl => lv_fconst1 ok.1 ok.2.1 hdg (kk H locs ls hH hz hlo hl)
theorem AW.fc2 (ok : am_ok X U G own cc nL) (hdg : decode cc pc = .ok (.fconst 2, 1)) (kk : AW X U G nL kc ks V Q (pc + 1) L (.float FP.fconst2 :: st)) : AW X U G nL kc ks V Q pc L st :=
  fun H locs ls hH hz hlo hl => lv_fconst2 ok.1 ok.2.1 hdg (kk H locs ls hH hz hlo hl)
theorem AW.fmul {x y : UInt32} (ok : am_ok X U G own cc nL) (hne : vf_n32 (FP.fmul x y)) (hdg : decode cc pc = .ok (.fmul, 1)) (kk : AW X U G nL kc ks V Q (pc + 1) L (.float (FP.fmul x y) :: st)) : AW X U G nL kc ks V Q pc L (.float y :: .float x :: st) :=
  fun H locs ls hH hz hlo hl => lv_fmul ok.1 ok.2.1 hdg hne (kk H locs ls hH hz hlo hl)
theorem AW.fdiv {x y : UInt32} (ok : am_ok X U G own cc nL) (hne : vf_n32 (FP.fdiv x y)) (hdg : decode cc pc = .ok (.fdiv, 1)) (kk : AW X U G nL kc ks V Q (pc + 1) L (.float (FP.fdiv x y) :: st)) : AW X U G nL kc ks V Q pc L (.float y :: .float x :: st) :=
  fun H locs ls hH hz hlo hl => lv_fdiv ok.1 ok.2.1 hdg hne (kk H locs ls hH hz hlo hl)
theorem AW.fsub {x y : UInt32} (ok : am_ok X U G own cc nL) (hne : vf_n32 (FP.fsub x y)) (hdg : decode cc pc = .ok (.fsub, 1)) (kk : AW X U G nL kc ks V Q (pc + 1) L (.float (FP.fsub x y) :: st)) : AW X U G nL kc ks V Q pc L (.float y :: .float x :: st) :=
  fun H locs ls hH hz hlo hl => lv_fsub ok.1 ok.2.1 hdg hne (kk H locs ls hH hz hlo hl)
theorem AW.ddiv {x y : UInt64} (ok : am_ok X U G own cc nL) (hne : vf_n64 (FP.ddiv x y)) (hdg : decode cc pc = .ok (.ddiv, 1)) (kk : AW X U G nL kc ks V Q (pc + 1) L (.double (FP.ddiv x y) :: st)) : AW X U G nL kc ks V Q pc L (.double y :: .double x :: st) :=
  fun H locs ls hH hz hlo hl => lv_ddiv ok.1 ok.2.1 hdg hne (kk H locs ls hH hz hlo hl)
theorem AW.f2i {x : UInt32} (ok : am_ok X U G own cc nL) (hdg : decode cc pc = .ok (.f2i, 1)) (kk : AW X U G nL kc ks V Q (pc + 1) L (.int (FP.f2i x) :: st)) : AW X U G nL kc ks V Q pc L (.float x :: st) :=
  fun H locs ls hH hz hlo hl => lv_f2i ok.1 ok.2.1 hdg (kk H locs ls hH hz hlo hl)
theorem AW.irem {x y : Int32} (ok : am_ok X U G own cc nL) (hne : ¬ y = 0) (hdg : decode cc pc = .ok (.irem, 1)) (kk : AW X U G nL kc ks V Q (pc + 1) L (.int (x - x / y * y) :: st)) : AW X U G nL kc ks V Q pc L (.int y :: .int x :: st) :=
  fun H locs ls hH hz hlo hl => t_irem ok.1 ok.2.1 hdg hne rfl (kk H locs ls hH hz hlo hl)
theorem AW.ifnonnull {off : Int} {c : Nat} (ok : am_ok X U G own cc nL) (tgt : Nat) (hdg : decode cc pc = .ok (.ifnonnull off, 3)) (ht : (pc : Int) + off = (tgt : Int)) (kk : AW X U G nL kc ks V Q tgt L st) : AW X U G nL kc ks V Q pc L (.ref c :: st) :=
  fun H locs ls hH hz hlo hl => lv_ifnonnull ok.1 ok.2.1 hdg ht (kk H locs ls hH hz hlo hl)
theorem AW.ifnull {off : Int} {c : Nat} (ok : am_ok X U G own cc nL) (hdg : decode cc pc = .ok (.ifnull off, 3)) (kk : AW X U G nL kc ks V Q (pc + 3) L st) : AW X U G nL kc ks V Q pc L (.ref c :: st) :=
  fun H locs ls hH hz hlo hl => lv_ifnull ok.1 ok.2.1 hdg (kk H locs ls hH hz hlo hl)
theorem AW.tswIn {dflt lo hi off : Int} {offs : Array Int} {len : Nat} {x : Int32} (ok : am_ok X U G own cc nL) (tgt : Nat) (hdg : decode cc pc = .ok (.tableswitch dflt lo hi offs, len)) (h1 : ¬ x.toInt < lo) (h2 : ¬ hi < x.toInt) (ho : offs[(x.toInt - lo).toNat]? = some off) (ht : (pc : Int) + off = (tgt : Int)) (kk : AW X U G nL kc ks V Q tgt L st) : AW X U G nL kc ks V Q pc L (.int x :: st) :=
  fun H locs ls hH hz hlo hl => lv_tableIn ok.1 ok.2.1 hdg h1 h2 ho ht (kk H locs ls hH hz hlo hl)
theorem AW.tswOut {dflt lo hi : Int} {offs : Array Int} {len : Nat} {x : Int32} (ok : am_ok X U G own cc nL) (tgt : Nat) (hdg : decode cc pc = .ok (.tableswitch dflt lo hi offs, len)) (h : x.toInt < lo ∨ hi < x.toInt) (ht : (pc : Int) + dflt = (tgt : Int)) (kk : AW X U G nL kc ks V Q tgt L st) : AW X U G nL kc ks V Q pc L (.int x :: st) :=
  fun H locs ls hH hz hlo hl => lv_tableOut ok.1 ok.2.1 hdg h ht (kk H locs ls hH hz hlo hl)
theorem AW.alen {c t n : Nat} {b : Bool ⊕ (Nat → Int32 → Option Nat)} (ok : am_ok X U G own cc nL) (hsh : am_sh X c = some (.inr (t, n, b))) (ht : t < 8) (hdg : decode cc pc = .ok (.arraylength, 1)) (kk : AW X U G nL kc ks V Q (pc + 1) L (.int (Int32.ofNat n) :: st)) : AW X U G nL kc ks V Q pc L (.ref c :: st) := by
  intro H locs ls hH hz hlo hl
  have hA := am_ok.A ok ht
  have hP := am_one (hH.1 c _ hsh)
  have hK2 : va_K (am_D U) (am_cl X) [(am_dA U t, am_tA X t)] (am_gs G) := ⟨(am_ok.K ok).1, fun k q hk => by
    have hz : k < 1 := (List.getElem?_eq_some_iff.mp hk).1
    rw [show k = 0 by omega] at hk
    cases hk
    exact ⟨hA, am_ok.RA ok ht⟩⟩
  rcases b with (_ | _) | g
  · exact va_alen (v := Int32.ofNat n) ok.1 ok.2.1 hK2 hP 0 0 rfl rfl rfl hdg (kk H locs ls hH hz hlo hl)
  · exact va_alen (v := Int32.ofNat n) ok.1 ok.2.1 hK2 hP 0 0 rfl rfl rfl hdg (kk H locs ls hH hz hlo hl)
  · exact va_alen (v := Int32.ofNat n) ok.1 ok.2.1 hK2 hP 0 0 rfl rfl rfl hdg (kk H locs ls hH hz hlo hl)
theorem AW.bald {c t n : Nat} {i : Int32} (ok : am_ok X U G own cc nL) (hsh : am_sh X c = some (.inr (t, n, .inl false))) (ht : t < 8) (hty : am_tA X t = .byte) (hin : vp_in i n) (hdg : decode cc pc = .ok (.baload, 1))
    (kk : AW X U G nL kc ks V Q (pc + 1) L (.int (V c i.toNatClampNeg) :: st)) : AW X U G nL kc ks V Q pc L (.int i :: .ref c :: st) := by
  intro H locs ls hH hz hlo hl
  have hA := am_ok.A ok ht
  rw [hty] at hA
  have hlt : i.toNatClampNeg < n := Nat.not_le.mp fun q => hin (Or.inr q)
  exact W.bald (v := .int (V c i.toNatClampNeg)) ok.1 ok.2.1 (hH.1 c _ hsh) (hA n (fun j => .int (V c j))) (fun q => by cases q) (by show ¬ (i < 0 ∨ (arrV _ _ _).slots.size ≤ _); rw [arrV_size]; exact hin) (by show (arrV _ _ _).slots[_]? = _; rw [arrV_read _ _ hlt]) rfl rfl hdg (kk H locs ls hH hz hlo hl)
/-- a static field that nobody writes -/
theorem AW.gets {C n d : String} {v : Value} {index : Nat} (ok : am_ok X U G own cc nL) (h0 : am_st0 U G) (hx : (C, n, d, v) ∈ am_SF X) (hw : Cond.fieldLink own index C n d ∈ am_WS X) (hdg : decode cc pc = .ok (.getstatic index, 3)) (kk : AW X U G nL kc ks V Q (pc + 3) L (v :: st)) : AW X U G nL kc ks V Q pc L st := by
  intro H locs ls hH hz hlo hl
  have hZ : va_Z C n d (am_v (am_ad U) v) (fun q => (am_s0 U).heap.size ≤ q) (am_gs G) (am_gs G).heap := va_Z.moved ok.2.2.2.2.2.1.alike ((ok.2.2.2.2.2.2.1.1.2.2.2.2.2.2 _ hx).kept (fun a ha _ => h0.2 a ha))
  exact va_gets ok.1 ok.2.1 hZ (am_vaS h0 hH hz hlo _ rfl) ok.2.2.2.1 (ok.2.2.2.2.1 _ hw) (fun _ h9 => h9) hdg (kk H locs ls hH hz hlo hl)
theorem AW.getsN {C n d host : String} {v : Value} {index : Nat} (ok : am_ok X U G own cc nL) (h0 : am_st0 U G) (hx : (C, n, d, v) ∈ am_SF X) (hw : Cond.fieldLinkNest own index C n d host ∈ am_NS X) (hdg : decode cc pc = .ok (.getstatic index, 3)) (kk : AW X U G nL kc ks V Q (pc + 3) L (v :: st)) : AW X U G nL kc ks V Q pc L st := by
  intro H locs ls hH hz hlo hl
  have hZ : va_Z C n d (am_v (am_ad U) v) (fun q => (am_s0 U).heap.size ≤ q) (am_gs G) (am_gs G).heap := va_Z.moved ok.2.2.2.2.2.1.alike ((ok.2.2.2.2.2.2.1.1.2.2.2.2.2.2 _ hx).kept (fun a ha _ => h0.2 a ha))
  exact va_getsN ok.1 ok.2.1 hZ (am_vaS h0 hH hz hlo _ rfl) ok.2.2.2.1 (am_ok.NS ok hw) (fun _ h9 => h9) hdg (kk H locs ls hH hz hlo hl)
/-- Math.min, Math.max -/
def am_mm (X : am_X) (own : String) (index : Nat) (y : MethodName) (b : ByteArray) : Prop := Cond.methodLink own index y ∈ am_WS X ∧ Cond.static y ∈ am_WS X ∧ Cond.initialized "java/lang/Math" ∈ am_WS X ∧ Cond.code y b 2 (some .int) ∈ am_WS X
theorem AW.mmin {index : Nat} {x y : Int32} (ok : am_ok X U G own cc nL) (hw : am_mm X own index Lib.Math.min.name Lib.Math.min.code) (hf : 1 ≤ (am_gR G).frames) (hlo9 : (st.map fun v => v.category).sum + 13 ≤ (am_gR G).locals) (hc : kc ≤ (am_gR G).cells) (hs : ks ≤ (am_gR G).slots) (hdg : decode cc pc = .ok (.invokestatic index, 3))
    (kk : AW X U G nL kc ks V Q (pc + 3) L (.int (if y < x then y else x) :: st)) : AW X U G nL kc ks V Q pc L (.int y :: .int x :: st) := by
  intro H locs ls hH hz hlo hl
  have hts := ok.2.2.2.2.1
  exact va_mmin ok.1 ok.2.1 (ok.2.2.1.trans hl.1.symm) ok.2.2.2.1 (hts _ hw.1) (hts _ hw.2.1) (hts _ hw.2.2.1) (hts _ hw.2.2.2) hf (by rw [am_cat]; exact hlo9) hc hs hdg (kk H locs ls hH hz hlo hl)
theorem AW.mmax {index : Nat} {x y : Int32} (ok : am_ok X U G own cc nL) (hw : am_mm X own index Lib.Math.max.name Lib.Math.max.code) (hf : 1 ≤ (am_gR G).frames) (hlo9 : (st.map fun v => v.category).sum + 13 ≤ (am_gR G).locals) (hc : kc ≤ (am_gR G).cells) (hs : ks ≤ (am_gR G).slots) (hdg : decode cc pc = .ok (.invokestatic index, 3))
    (kk : AW X U G nL kc ks V Q (pc + 3) L (.int (if x < y then y else x) :: st)) : AW X U G nL kc ks V Q pc L (.int y :: .int x :: st) := by
  intro H locs ls hH hz hlo hl
  have hts := ok.2.2.2.2.1
  exact va_mmax ok.1 ok.2.1 (ok.2.2.1.trans hl.1.symm) ok.2.2.2.1 (hts _ hw.1) (hts _ hw.2.1) (hts _ hw.2.2.1) (hts _ hw.2.2.2) hf (by rw [am_cat]; exact hlo9) hc hs hdg (kk H locs ls hH hz hlo hl)
end AMF
end
section
/-! ===== AM8: arraycopy of numbers; handlers ===== -/
def am_row (V : am_V) (c : Nat) (f : Nat → Int32) : am_V := fun d => if d = c then f else V d
theorem am_row_at (V : am_V) (c : Nat) (f : Nat → Int32) : am_row V c f c = f := if_pos rfl
theorem am_row_ne (V : am_V) {c d : Nat} (f : Nat → Int32) (h : d ≠ c) : am_row V c f d = V d := if_neg h
def am_ac (X : am_X) (own : String) (index : Nat) : Prop := Cond.methodLink own index arraycopyName ∈ am_WS X ∧ Cond.native arraycopyName ∈ am_WS X ∧ Cond.static arraycopyName ∈ am_WS X ∧ Cond.initialized "java/lang/System" ∈ am_WS X
section AMI
variable {X : am_X} {U : am_U} {G : am_G} {own : String} {cc : ByteArray} {nL kc ks pc pc' : Nat} {V V1 : am_V} {Q : State → Prop} {L L' : List (Option Value)} {st st' : List Value} {H : Heap} {locs : List Loc} {ls : Array Slot}
theorem am_locsL {N0 : Nat} {locs L9 : List Loc} (h : ∀ q ∈ locs, N0 ≤ q.base) (h2 : ∀ q ∈ L9, N0 ≤ q.base) : ∀ q ∈ locs ++ L9, N0 ≤ q.base := fun q hq => (List.mem_append.mp hq).elim (h q) (h2 q)
set_option maxHeartbeats 4000000 in
theorem AW.copy {index c0 c1 t n0 n1 : Nat} {sp dp n : Int32} (ok : am_ok X U G own cc nL) (hw : am_ac X own index) (hs0 : am_sh X c0 = some (.inr (t, n0, .inl false))) (hs1 : am_sh X c1 = some (.inr (t, n1, .inl false))) (hw1 : am_wr X c1 = true) (ht : t < 8) (hty : am_tA X t = .int)
    (h1 : ¬ sp < 0) (h2 : ¬ dp < 0) (h3 : ¬ n < 0) (h4 : sp.toNatClampNeg + n.toNatClampNeg ≤ n0) (h5 : dp.toNatClampNeg + n.toNatClampNeg ≤ n1) (hframes : 1 ≤ (am_gR G).frames) (hlocals : (st.map fun v => v.category).sum + (nativeFrameWords "java/lang/System" "arraycopy" 5 + 11) ≤ (am_gR G).locals) (hdg : decode cc pc = .ok (.invokestatic index, 3))
    (kk : AW X U G nL kc ks (am_row V c1 (va_cpy (V c0) (V c1) sp.toNatClampNeg dp.toNatClampNeg n.toNatClampNeg)) Q (pc + 3) L st) : AW X U G nL kc ks V Q pc L (.int n :: .int dp :: .ref c1 :: .int sp :: .ref c0 :: st) := by
  intro H locs ls hH hz hlo hl
  have nn : ∀ z : Int32, ¬ z < 0 → z.toInt = (z.toNatClampNeg : Int) := by
    intro z hz
    have hz0 : (0 : Int) ≤ z.toInt := by
      have := Int32.not_lt.mp hz
      simpa using Int32.le_iff_toInt_le.mp this
    show z.toInt = ((z.toInt.toNat : Nat) : Int)
    omega
  have hA := am_ok.A ok ht
  rw [hty] at hA
  have hts := ok.2.2.2.2.1
  intro T hT XX
  have hc0 : H[am_ad U c0]? = some (vp_cell (am_dA U t) (n0, .inl (V c0))) := hH.1 c0 _ hs0
  have hc1 : H[am_ad U c1]? = some (vp_cell (am_dA U t) (n1, .inl (V c1))) := hH.1 c1 _ hs1
  obtain ⟨-, k0, hk0, cm0, hkk0⟩ := hA n0 (fun j => .int (V c0 j))
  obtain ⟨-, k1, hk1, cm1, hkk1⟩ := hA n1 (fun j => .int (V c1 j))
  obtain ⟨vm', X', step⟩ := XX.arraycopy ok.1 ok.2.2.2.1 (hts _ hw.1) (hts _ hw.2.1) (hts _ hw.2.2.1) (hts _ hw.2.2.2) (src := am_ad U c0) (dst := am_ad U c1) (cs := vp_cell (am_dA U t) (n0, .inl (V c0))) (cd := vp_cell (am_dA U t) (n1, .inl (V c1))) (srcPos := sp) (destPos := dp) (n := n) (by rw [hT]; exact hc0) (by rw [hT]; exact hc1)
    (fun _ h => by cases h) (fun _ h => by cases h) (fun h => by cases h) (fun h => by cases h) hk0 hk1 hkk0 hkk1 (by simp [refKind]) h1 h2 h3
    (by rw [nn sp h1, nn n h3]; show ¬ _ > ((arrV (am_dA U t) n0 (fun j => .int (V c0 j))).slots.size : Int); rw [arrV_size]; omega)
    (by rw [nn dp h2, nn n h3]; show ¬ _ > ((arrV (am_dA U t) n1 (fun j => .int (V c1 j))).slots.size : Int); rw [arrV_size]; omega)
    (fun vm₁ _ i hi => by
      have e : (vp_cell (am_dA U t) (n0, .inl (V c0))).slots.getD (sp.toNatClampNeg + i) .null = .int (V c0 (sp.toNatClampNeg + i)) := by
        show (arrV (am_dA U t) n0 (fun j => .int (V c0 j))).slots.getD _ _ = _
        rw [Array.getD_eq_getD_getElem?, arrV_read _ _ (by omega)]
        rfl
      refine ⟨?_, ?_⟩
      · rw [e]
        rfl
      · rw [e]
        exact trivial)
    (g := F0 (am_gm G) pc ls (.int n :: .int dp :: .ref (am_ad U c1) :: .int sp :: .ref (am_ad U c0) :: st.map (am_v (am_ad U)))) rfl (by rw [ok.2.2.1]; exact hl.1) (rest := st.map (am_v (am_ad U))) rfl (by rw [ok.2.1]; exact hdg) hframes (by rw [← am_cat (am_ad U)] at hlocals; show 2 * 0 + _ + _ ≤ _; omega)
  have e1 : copied (vp_cell (am_dA U t) (n0, .inl (V c0))) (vp_cell (am_dA U t) (n1, .inl (V c1))) sp dp n = vp_cell (am_dA U t) (n1, .inl (va_cpy (V c0) (V c1) sp.toNatClampNeg dp.toNatClampNeg n.toNatClampNeg)) := va_copied (fun z => .int z) _ _ _ _ h4
  rw [e1] at X' step
  have hl9 : am_ad U c1 < H.size := (Array.getElem?_eq_some_iff.mp hc1).1
  generalize hF : va_cpy (V c0) (V c1) sp.toNatClampNeg dp.toNatClampNeg n.toNatClampNeg = F at X' step kk
  have hheap : ((T.setVm vm').setCell (am_ad U c1) (vp_cell (am_dA U t) (n1, .inl F))).heap = H.setIfInBounds (am_ad U c1) (vp_cell (am_dA U t) (n1, .inl F)) := by rw [← hT]; rfl
  have oq : ∀ q : Nat, q ≠ am_ad U c1 → (H.setIfInBounds (am_ad U c1) (vp_cell (am_dA U t) (n1, .inl F)))[q]? = H[q]? := fun q hq => by simp [Array.getElem?_setIfInBounds, Ne.symm hq]
  have hat : va_at (am_D U) (am_cl X) (am_ad U c1, am_e (am_dA U) (am_ad U) F (.inr (t, n1, .inl false))) (H.setIfInBounds (am_ad U c1) (vp_cell (am_dA U t) (n1, .inl F))) := by
    show (H.setIfInBounds (am_ad U c1) _)[am_ad U c1]? = some _
    simp [Array.getElem?_setIfInBounds, hl9]
  have hHn := am_H.put (V1 := am_row V c1 F) ok.2.2.2.2.2.2.1 hH hs1 hw1 (am_row_at V c1 F) (fun d hd => am_row_ne V F hd) hat (by simp) oq
  obtain ⟨t9, a1, b1⟩ := kk _ _ ls hHn (by simp; exact hz) (am_locsL hlo (fun q hq => by
      obtain ⟨z, -, hz2⟩ := List.mem_map.mp hq
      rw [← hz2]
      exact ok.2.2.2.2.2.2.1.2.2.2.2 c1 _ hs1 hw1)) hl _ hheap X'
  exact ⟨t9, step t9 a1, b1⟩
/-! handlers: the frame that catches, its first row an astore -/
theorem am_store0 {ad : Nat → Nat} {nL : Nat} {L : List (Option Value)} {ls : Array Slot} {i : Nat} {w : Value} (h : am_l ad nL L ls) (hi : i < nL) (hc : w.category = 1) (hok : am_ok1 L i = true) :
    ∃ ls', storeLocals ls i w = some ls' ∧ am_l ad nL (L.set i none) ls' := by
  obtain ⟨h1, h2, h3⟩ := h
  obtain ⟨ls', e, h4⟩ := lv_store1 (l := []) (v := w) ⟨h1, h2, fun q hq => by cases hq⟩ hi hc
  refine ⟨ls', e, h4.1, h4.2.1, fun j v hw => ?_⟩
  rcases am_get_set L i j _ v hw with ⟨rfl, hv⟩ | ⟨hj, hg⟩
  · cases hv
  · obtain ⟨ls2, e2, h5⟩ := lv_store1 (l := [(j, am_v ad v)]) (v := w) ⟨h1, h2, fun q hq => by
      rw [List.mem_singleton.mp hq]
      exact h3 j v hg⟩ hi hc
    cases e.symm.trans e2
    refine h5.2.2 (j, am_v ad v) (List.mem_cons_of_mem _ (List.mem_filter.mpr ⟨List.mem_singleton.mpr rfl, ?_⟩))
    have hne : (j == i) = false := by simpa using hj
    have h6 : (j + 1 == i && (am_v ad v).category == 2) = false := by
      by_cases e1 : j + 1 = i
      · subst e1
        have h8 : (match am_get L j with | some v => v.category == 1 | none => true) = true := hok
        rw [hg] at h8
        simp [am_v_cat, eq_of_beq h8]
      · simp [e1]
    simp [hne, h6]
/-- a row of a method's table of handlers passes an exception of class E by: it doesn't cover the place, or names a class that E isn't -/
def am_hp (X : am_X) (own E : String) (pc : Nat) (z : ExceptionTableEntry) : Prop := covers z pc = false ∨ (z.catchType ≠ 0 ∧ ∃ nm : String, Cond.classLink own z.catchType nm ∈ am_WS X ∧ (E, nm) ∈ am_NC X)
theorem AX.catch {E name : String} {k : Nat} {n : Nat} (ok : am_ok X U G own cc nL) (pre : List ExceptionTableEntry) (x : ExceptionTableEntry) (suf : List ExceptionTableEntry) (hsplit : (am_gc G).exceptionTable.toList = pre ++ x :: suf) (hpass : ∀ z ∈ pre, am_hp X own E pc z) (hx : covers x pc = true) (h0 : x.catchType ≠ 0)
    (hlink : Cond.classLink own x.catchType name ∈ am_WS X) (hcast : Cond.castable E name ∈ am_NS X) (hk : k < nL) (hok : am_ok1 L k = true) (hd : (∃ q : Fin 4, q.val = k ∧ n = 1 ∧ decode cc x.handlerPc = .ok (.astore_n q, 1)) ∨ (n = 2 ∧ decode cc x.handlerPc = .ok (.astore k, 2)))
    (kk : AW X U G nL kc ks V Q (x.handlerPc + n) (L.set k none) []) : AX X U G nL kc ks V Q E pc L := by
  intro H locs ls rest q ce hH hz hlo hl hq hv hcl
  refine vx_catch ok.2.2.2.1 pre x suf hsplit (fun z hz => ?_) hx h0 (ok.2.2.2.2.1 _ hlink) (am_ok.NS ok hcast) hq hv hcl ?_
  · rcases hpass z hz with h | ⟨h1, nm, h2, h3⟩
    · exact Or.inl h
    · exact Or.inr ⟨h1, nm, ok.2.2.2.2.1 _ h2, am_ok.NC ok h3⟩
  · obtain ⟨ls', e', h'⟩ := am_store0 (w := .ref q) hl hk rfl hok
    have k2 := kk H locs ls' hH hz hlo h'
    rcases hd with ⟨q9, rfl, rfl, hdg⟩ | ⟨rfl, hdg⟩
    · intro T hT XX
      obtain ⟨t, a, b⟩ := k2 T hT XX
      refine ⟨t, ?_, b⟩
      have hx1 := ok.1
      have hb1 := ok.2.1
      jvm_step XX.here [XX.here.top, ↓top_set XX.here.top, hx1, hb1, hdg, e', Value.isRef]
      exact a
    · intro T hT XX
      obtain ⟨t, a, b⟩ := k2 T hT XX
      refine ⟨t, ?_, b⟩
      have hx1 := ok.1
      have hb1 := ok.2.1
      jvm_step XX.here [XX.here.top, ↓top_set XX.here.top, hx1, hb1, hdg, e', Value.isRef]
      exact a
end AMI
/-- the contract of a method with handlers -/
def am_CtW (X : am_X) (U : am_U) (l : Launch) (y : MethodName) (b : ByteArray) (nL : Nat) (ret : Option FieldType) (hh : List (Nat × Nat × Nat × Nat)) (rm : Room) (As : List Value) (V : am_V) (P : am_P) : Prop :=
  vx_Met l y (Cond.codeWith y b nL ret hh :: am_WS X) rm (fun v S => v = (As.map (am_v (am_ad U))).toArray ∧ am_St X U V S) (am_Qc X U P) (am_XC X U P) rm.cells rm.slots (am_fr U)
set_option maxHeartbeats 4000000 in
theorem am_CtW.of {X : am_X} {U : am_U} {l : Launch} {y : MethodName} {b : ByteArray} {nL : Nat} {ret : Option FieldType} {hh : List (Nat × Nat × Nat × Nat)} {rm : Room} {As : List Value} {V : am_V} {P : am_P} (hb : am_base X U) (hfl : l.stackTraces = false) (hy : plainName y.cls = true) (hlen : (As.map Value.category).sum ≤ nL)
    (body : ∀ G : am_G, am_gl G = l → am_gR G = rm → (am_gt G).sig.returnType = ret → am_ok X U G y.cls b nL → am_st0 U G → (am_gc G).exceptionTable.toList = tableOf hh → AW X U G nL 0 0 V (am_End X U G rm P) 0 (am_L0 nL As) []) : am_CtW X U l y b nL ret hh rm As V P := by
  refine vx_ofWH (cc := b) (maxL := nL) (ret := ret) (hh := hh) hy rfl ?_
  intro p e s m args below meth c s₁ B hml hv
  obtain ⟨rfl, hH, hW⟩ := hv
  have hts := atoms_spec (ws := Cond.codeWith y b nL ret hh :: am_WS X) B.pre
  have hown : s.vm.findClass y.cls = some m.cls := findClass_of_methodNamed B.named
  have hex := vx_table (x := y) B (hts _ List.mem_cons_self)
  have ok : am_ok X U (l, p, e, rm, s, m, (As.map (am_v (am_ad U))).toArray, below, meth, c) y.cls b nL := ⟨B.exec, B.bytes, hml, hown, fun w hw => hts w (List.mem_cons_of_mem _ hw), hW, hb, B.notSynchronized, hfl⟩
  have h1 := body (l, p, e, rm, s, m, (As.map (am_v (am_ad U))).toArray, below, meth, c) rfl rfl B.returns ok hH.2 hex
  rw [lg_entry_eq]
  have he := lv_entry (As.map (am_v (am_ad U))) (n := nL) (by rw [am_sl]; exact hlen)
  exact h1 s.heap [] _ hH (Nat.le_refl _) (fun q hq => by cases hq) ⟨he.1, he.2.1, fun i v hi => by
    have h2 := am_args (am_ad U) As nL 0 i v hi
    rw [Nat.zero_add] at h2
    exact he.2.2 _ h2⟩
end
section
/-! ===== methods with handlers, and calls of them ===== -/
def am_csW (X : am_X) (own : String) (index : Nat) (y : MethodName) (b : ByteArray) (nL : Nat) (ret : Option FieldType) (hh : List (Nat × Nat × Nat × Nat)) (n : Nat) : Prop :=
  Cond.methodLink own index y ∈ am_WS X ∧ Cond.static y ∈ am_WS X ∧ Cond.initialized y.cls ∈ am_WS X ∧ Cond.codeWith y b nL ret hh ∈ am_WS X ∧
  (y.cls ≠ "java/lang/invoke/MethodHandle" ∧ y.cls ≠ "java/lang/invoke/VarHandle" ∧ (parseMethodDescriptor y.desc).map (fun d => d.parameters.length) = some n)
section
variable {X : am_X} {U : am_U} {G : am_G} {own : String} {cc : ByteArray} {nL kc ks pc pc' : Nat} {V V1 : am_V} {Q : State → Prop} {L L' : List (Option Value)} {st st' : List Value} {P : am_P} {H : Heap} {locs : List Loc} {ls : Array Slot}
set_option maxHeartbeats 4000000 in
theorem AW.callSW {y : MethodName} {b : ByteArray} {nL' n index : Nat} {ret : Option FieldType} {hh : List (Nat × Nat × Nat × Nat)} {rm : Room} {As : List Value}
    (ok : am_ok X U G own cc nL) (hC : am_CtW X U (am_gl G) y b nL' ret hh rm As V P) (hcv : am_csW X own index y b nL' ret hh n) (hn : As.length = n)
    (hst : (st.map fun v => v.category).sum ≤ 8) (hR : rm.frames + 1 ≤ (am_gR G).frames ∧ 8 + (nL' + 11) + rm.locals ≤ (am_gR G).locals) (hf : kc + rm.cells ≤ (am_gR G).cells ∧ ks + rm.slots ≤ (am_gR G).slots) (hdg : decode cc pc = .ok (.invokestatic index, 3))
    (kx : ∀ (E : String) (V1 : am_V), P (.inr E) V1 → AX X U G nL (kc + rm.cells) (ks + rm.slots) V1 Q E pc L) (kk : ∀ (r : Option Value) (V1 : am_V), P (.inl r) V1 → AW X U G nL (kc + rm.cells) (ks + rm.slots) V1 Q (pc + 3) L (r.toList ++ st)) :
    AW X U G nL kc ks V Q pc L (As.reverse ++ st) := by
  intro H locs ls hH hz hlo hl
  obtain ⟨w1, w2, w4, w5, hd⟩ := hcv
  have hts := ok.2.2.2.2.1
  have hw := am_wordsok ok
  have hT : GoodIn (am_WS X) (va_wsS own index y (Cond.codeWith y b nL' ret hh :: am_WS X)) := am_good hw (by
    intro w hm
    simp only [va_wsS, List.mem_append, List.mem_cons, List.not_mem_nil, or_false] at hm
    rcases hm with (rfl | rfl | rfl) | rfl | hm
    · exact w1
    · exact w2
    · exact w4
    · exact w5
    · exact hm)
  have cw := vx_cwSW (R := am_gR G) (s := am_gs G) (args := am_ga G) (own := own) (index := index) (y := y) (bytes := b) (maxL := nL') (ret := ret) (hh := hh) (ws := Cond.codeWith y b nL' ret hh :: am_WS X) (rm := rm) (mc := rm.cells) (ms := rm.slots) n hts hT rfl rfl rfl hd hR
  rw [am_map_rev2]
  refine am_after (a := (As.map (am_v (am_ad U))).toArray) (vx_runSX (hh := hh) (Ts := am_WS X) (nL := nL) (own := own) (As := As.map (am_v (am_ad U))) (rest := st.map (am_v (am_ad U))) ⟨ok.1, ok.2.1, ok.2.2.1, ok.2.2.2.1, hts⟩ hC cw ⟨am_blind As, fun S hS hWS => ⟨rfl, ?_, State.WarmedH.trans ok.2.2.2.2.2.1 hWS⟩⟩ rfl (by rw [List.length_map]; exact hn) hl.1 rfl ?_ hdg hf) hz hlo hl kx kk
  · rw [hS]; exact hH
  · show 2 * 0 + _ ≤ 8
    rw [am_cat]
    omega
end
end
section
/-! ===== counting and sums ===== -/
def cnt (p : Nat → Bool) : Nat → Nat
  | 0 => 0
  | n + 1 => cnt p n + (if p n = true then 1 else 0)
theorem cnt_congr {p q : Nat → Bool} : ∀ n, (∀ i, i < n → p i = q i) → cnt p n = cnt q n
  | 0, _ => rfl
  | n + 1, h => by rw [cnt, cnt, cnt_congr n (fun i hi => h i (by omega)), h n (by omega)]
theorem cnt_mono {p q : Nat → Bool} : ∀ n, (∀ i, i < n → p i = true → q i = true) → cnt p n ≤ cnt q n
  | 0, _ => Nat.le_refl _
  | n + 1, h => by
    have h1 := cnt_mono n (fun i hi => h i (by omega))
    have h2 := h n (by omega)
    rw [cnt, cnt]
    by_cases hp : p n = true
    · rw [if_pos hp, if_pos (h2 hp)]; omega
    · rw [if_neg hp]; omega
theorem cnt_lt {p q : Nat → Bool} : ∀ n, (∀ i, i < n → p i = true → q i = true) → (∃ x, x < n ∧ q x = true ∧ p x = false) → cnt p n < cnt q n
  | 0, _, ⟨x, hx, _⟩ => by omega
  | n + 1, h, ⟨x, hx, hq, hp⟩ => by
    rw [cnt, cnt]
    by_cases e : x = n
    · subst e
      have h1 := cnt_mono x (fun i hi => h i (by omega))
      rw [if_pos hq, hp, if_neg (by decide)]; omega
    · have h1 := cnt_lt n (fun i hi => h i (by omega)) ⟨x, by omega, hq, hp⟩
      have h2 := h n (by omega)
      by_cases hp : p n = true
      · rw [if_pos hp, if_pos (h2 hp)]; omega
      · rw [if_neg hp]; omega
theorem cnt_le_n (p : Nat → Bool) : ∀ n, cnt p n ≤ n
  | 0 => Nat.le_refl _
  | n + 1 => by
    have := cnt_le_n p n
    rw [cnt]
    by_cases hp : p n = true
    · rw [if_pos hp]; omega
    · rw [if_neg hp]; omega
theorem cnt_full {p : Nat → Bool} : ∀ n, n ≤ cnt p n → ∀ i, i < n → p i = true
  | 0, _, i, hi => by omega
  | n + 1, h, i, hi => by
    have h1 := cnt_le_n p n
    rw [cnt] at h
    by_cases hp : p n = true
    · rw [if_pos hp] at h
      by_cases e : i = n
      · rw [e]; exact hp
      · exact cnt_full n (by omega) i (by omega)
    · rw [if_neg hp] at h; omega
theorem cnt_zero {p : Nat → Bool} : ∀ n, (∀ i, i < n → p i = false) → cnt p n = 0
  | 0, _ => rfl
  | n + 1, h => by rw [cnt, cnt_zero n (fun i hi => h i (by omega)), h n (by omega), if_neg (by decide)]
theorem cnt_zero_of {p : Nat → Bool} : ∀ n, cnt p n = 0 → ∀ i, i < n → p i = false
  | 0, _, i, hi => by omega
  | n + 1, h, i, hi => by
    rw [cnt] at h
    by_cases e : i = n
    · subst e
      cases hp : p i with
      | true => rw [hp, if_pos rfl] at h; omega
      | false => rfl
    · exact cnt_zero_of n (by omega) i (by omega)
theorem cnt_pos {p : Nat → Bool} (n x : Nat) (hx : x < n) (hp : p x = true) : 0 < cnt p n := by
  rcases Nat.eq_zero_or_pos (cnt p n) with h | h
  · rw [cnt_zero_of n h x hx] at hp; cases hp
  · exact h
theorem cnt_ex {p : Nat → Bool} (n : Nat) (h : 0 < cnt p n) : ∃ x, x < n ∧ p x = true := by
  refine Classical.byContradiction fun hn => ?_
  rw [cnt_zero n (fun i hi => by
    cases hp : p i with
    | true => exact (hn ⟨i, hi, hp⟩).elim
    | false => rfl)] at h
  omega
/-- one element more -/
theorem cnt_add1 {p q : Nat → Bool} : ∀ n x, x < n → p x = false → q x = true → (∀ i, i < n → i ≠ x → q i = p i) → cnt q n = cnt p n + 1
  | 0, x, hx, _, _, _ => by omega
  | n + 1, x, hx, hp, hq, h => by
    rw [cnt, cnt]
    by_cases e : x = n
    · subst e
      rw [cnt_congr x (fun i hi => h i (by omega) (by omega)), hp, hq]; simp
    · rw [cnt_add1 n x (by omega) hp hq (fun i hi hx => h i (by omega) hx), h n (by omega) (by omega)]; omega
theorem cnt_split (p q : Nat → Bool) : ∀ n, cnt p n = cnt (fun i => p i && q i) n + cnt (fun i => p i && !q i) n
  | 0 => rfl
  | n + 1 => by
    rw [cnt, cnt, cnt, cnt_split p q n]
    cases p n <;> cases q n <;> simp <;> omega
theorem cnt_one {p : Nat → Bool} (n x : Nat) (hx : x < n) (hp : p x = true) (h : ∀ i, i < n → p i = true → i = x) : cnt p n = 1 := by
  have := cnt_add1 (p := fun _ => false) (q := p) n x hx rfl hp (fun i hi hne => by
    cases hq : p i with
    | true => exact (hne (h i hi hq)).elim
    | false => rfl)
  rw [this, cnt_zero n (fun _ _ => rfl)]
theorem cnt_one_of {p : Nat → Bool} (n x y : Nat) (h : cnt p n = 1) (hx : x < n) (hy : y < n) (px : p x = true) (py : p y = true) : x = y := by
  refine Classical.byContradiction fun hne => ?_
  have h1 := cnt_lt (p := fun i => decide (i = x)) (q := p) n (fun i hi hp => by rw [of_decide_eq_true hp]; exact px) ⟨y, hy, py, decide_eq_false (fun q => hne q.symm)⟩
  have h2 := cnt_one (p := fun i => decide (i = x)) n x hx (decide_eq_true rfl) (fun i _ hp => of_decide_eq_true hp)
  omega
def sumN (f : Nat → Nat) : Nat → Nat
  | 0 => 0
  | n + 1 => sumN f n + f n
theorem sumN_congr {f g : Nat → Nat} : ∀ n, (∀ i, i < n → f i = g i) → sumN f n = sumN g n
  | 0, _ => rfl
  | n + 1, h => by rw [sumN, sumN, sumN_congr n (fun i hi => h i (by omega)), h n (by omega)]
theorem sumN_upd {f g : Nat → Nat} : ∀ n x, x < n → (∀ i, i < n → i ≠ x → g i = f i) → sumN g n + f x = sumN f n + g x
  | 0, x, hx, _ => by omega
  | n + 1, x, hx, h => by
    rw [sumN, sumN]
    by_cases e : x = n
    · subst e
      rw [sumN_congr x (fun i hi => h i (by omega) (by omega))]; omega
    · have := sumN_upd n x (by omega) (fun i hi hx => h i (by omega) hx)
      rw [h n (by omega) (by omega)]; omega
theorem sumN_le {f g : Nat → Nat} : ∀ n, (∀ i, i < n → f i ≤ g i) → sumN f n ≤ sumN g n
  | 0, _ => Nat.le_refl _
  | n + 1, h => by
    have := sumN_le n (fun i hi => h i (by omega)); have := h n (by omega)
    rw [sumN, sumN]; omega
theorem sumN_zero {f : Nat → Nat} : ∀ n, (∀ i, i < n → f i = 0) → sumN f n = 0
  | 0, _ => rfl
  | n + 1, h => by rw [sumN, sumN_zero n (fun i hi => h i (by omega)), h n (by omega)]
theorem sumN_ge {f : Nat → Nat} : ∀ n x, x < n → f x ≤ sumN f n
  | 0, x, hx => by omega
  | n + 1, x, hx => by
    rw [sumN]
    by_cases e : x = n
    · subst e; omega
    · have := sumN_ge (f := f) n x (by omega); omega
def sumI (f : Nat → Int) : Nat → Int
  | 0 => 0
  | n + 1 => sumI f n + f n
theorem sumI_congr {f g : Nat → Int} : ∀ n, (∀ i, i < n → f i = g i) → sumI f n = sumI g n
  | 0, _ => rfl
  | n + 1, h => by rw [sumI, sumI, sumI_congr n (fun i hi => h i (by omega)), h n (by omega)]
theorem sumI_upd {f g : Nat → Int} : ∀ n x, x < n → (∀ i, i < n → i ≠ x → g i = f i) → sumI g n + f x = sumI f n + g x
  | 0, x, hx, _ => by omega
  | n + 1, x, hx, h => by
    rw [sumI, sumI]
    by_cases e : x = n
    · subst e
      rw [sumI_congr x (fun i hi => h i (by omega) (by omega))]; omega
    · have := sumI_upd n x (by omega) (fun i hi hx => h i (by omega) hx)
      rw [h n (by omega) (by omega)]; omega
theorem sumI_le {f : Nat → Int} {p : Nat → Bool} : ∀ n, (∀ i, i < n → f i ≤ if p i = true then 1 else 0) → sumI f n ≤ (cnt p n : Int)
  | 0, _ => Int.le_refl _
  | n + 1, h => by
    have h1 := sumI_le n (fun i hi => h i (by omega)); have h2 := h n (by omega)
    rw [sumI, cnt]
    by_cases e : p n = true
    · rw [if_pos e] at h2 ⊢; omega
    · rw [if_neg e] at h2 ⊢; omega
theorem sumI_eq {f : Nat → Int} {p : Nat → Bool} : ∀ n, (∀ i, i < n → f i = if p i = true then 1 else 0) → sumI f n = (cnt p n : Int)
  | 0, _ => rfl
  | n + 1, h => by
    have h1 := sumI_eq n (fun i hi => h i (by omega)); have h2 := h n (by omega)
    rw [sumI, cnt]
    by_cases e : p n = true
    · rw [if_pos e] at h2 ⊢; omega
    · rw [if_neg e] at h2 ⊢; omega
theorem sumI_zero {f : Nat → Int} : ∀ n, (∀ i, i < n → f i = 0) → sumI f n = 0
  | 0, _ => rfl
  | n + 1, h => by rw [sumI, sumI_zero n (fun i hi => h i (by omega)), h n (by omega)]; rfl
/-- sets that grow until they are good -/
theorem lt_of_all {n : Nat} {P : Nat → Prop} (h : ∀ i, i < n → P i) : ∀ i, i < n → P i := h
/-! ===== graphs: n fields, paths by fs and sn, E: which paths may be used; conn: in every closed set ===== -/
def closed (fs sn : Nat → Nat) (E : Nat → Bool) (S : Nat → Prop) : Prop := ∀ p, E p = true → (S (fs p) ↔ S (sn p))
def conn (fs sn : Nat → Nat) (E : Nat → Bool) (u v : Nat) : Prop := ∀ S : Nat → Prop, closed fs sn E S → S u → S v
section
variable {fs sn : Nat → Nat} {E F : Nat → Bool} {u v w : Nat}
theorem conn_refl (u : Nat) : conn fs sn E u u := fun _ _ h => h
theorem conn_trans (h1 : conn fs sn E u v) (h2 : conn fs sn E v w) : conn fs sn E u w := fun S hS h => h2 S hS (h1 S hS h)
theorem closed_not {S : Nat → Prop} (h : closed fs sn E S) : closed fs sn E (fun x => ¬ S x) := fun p hp => not_congr (h p hp)
theorem conn_symm (h : conn fs sn E u v) : conn fs sn E v u := fun S hS hv => Classical.byContradiction fun hu => h (fun x => ¬ S x) (closed_not hS) hu hv
theorem conn_edge {p : Nat} (h : E p = true) : conn fs sn E (fs p) (sn p) := fun _ hS h1 => (hS p h).mp h1
theorem conn_mono (hEF : ∀ p, E p = true → F p = true) (h : conn fs sn E u v) : conn fs sn F u v := fun S hS hu => h S (fun p hp => hS p (hEF p hp)) hu
theorem conn_closed (u : Nat) : closed fs sn E (conn fs sn E u) := fun _ hp => ⟨fun h => conn_trans h (conn_edge hp), fun h => conn_trans h (conn_symm (conn_edge hp))⟩
theorem not_conn (h : ¬ conn fs sn E u v) : ∃ S, closed fs sn E S ∧ S u ∧ ¬ S v := by
  refine ⟨conn fs sn E u, conn_closed u, conn_refl u, h⟩
theorem conn_congr (h : ∀ p, E p = F p) : conn fs sn E u v ↔ conn fs sn F u v := by
  rw [show E = F from funext h]
/-- one path more -/
theorem conn_add {p : Nat} (hF : ∀ q, F q = true ↔ E q = true ∨ q = p) : conn fs sn F u v ↔ conn fs sn E u v ∨ (conn fs sn E u (fs p) ∧ conn fs sn E (sn p) v) ∨ (conn fs sn E u (sn p) ∧ conn fs sn E (fs p) v) := by
  have hEF : ∀ q, E q = true → F q = true := fun q hq => (hF q).mpr (Or.inl hq)
  constructor
  · intro h
    refine Classical.byContradiction fun hn => ?_
    refine absurd (h (fun x => conn fs sn E u x ∨ (conn fs sn E u (fs p) ∧ conn fs sn E (sn p) x) ∨ (conn fs sn E u (sn p) ∧ conn fs sn E (fs p) x)) ?_ (Or.inl (conn_refl u))) hn
    intro q hq
    rcases (hF q).mp hq with hq | rfl
    · have e : ∀ a, conn fs sn E a (fs q) ↔ conn fs sn E a (sn q) := fun a => conn_closed a q hq
      show (_ ∨ _ ∧ _ ∨ _ ∧ _) ↔ (_ ∨ _ ∧ _ ∨ _ ∧ _)
      rw [e u, e (sn p), e (fs p)]
    · constructor
      · rintro (h1 | ⟨h1, h2⟩ | ⟨h1, h2⟩)
        · exact Or.inr (Or.inl ⟨h1, conn_refl _⟩)
        · exact Or.inr (Or.inl ⟨h1, conn_refl _⟩)
        · exact Or.inl h1
      · rintro (h1 | ⟨h1, h2⟩ | ⟨h1, h2⟩)
        · exact Or.inr (Or.inr ⟨h1, conn_refl _⟩)
        · exact Or.inl h1
        · exact Or.inr (Or.inr ⟨h1, conn_refl _⟩)
  · have hp : conn fs sn F (fs p) (sn p) := conn_edge ((hF p).mpr (Or.inr rfl))
    rintro (h1 | ⟨h1, h2⟩ | ⟨h1, h2⟩)
    · exact conn_mono hEF h1
    · exact conn_trans (conn_mono hEF h1) (conn_trans hp (conn_mono hEF h2))
    · exact conn_trans (conn_mono hEF h1) (conn_trans (conn_symm hp) (conn_mono hEF h2))
end
end
section
/-! ===== costs of ways by potentials: m paths with ends fs, sn < n, costs co ≥ 1, E usable; the cost 1000 stands for: no way ===== -/
/-- a potential: no usable path's ends differ by more than its cost -/
def pot (fs sn co : Nat → Nat) (E : Nat → Bool) (d : Nat → Nat) : Prop := ∀ p, E p = true → d (fs p) ≤ d (sn p) + co p ∧ d (sn p) ≤ d (fs p) + co p
/-- nothing below a potential that is 0 at u and at most 1000 -/
def above (fs sn co : Nat → Nat) (E : Nat → Bool) (n u : Nat) (c : Nat → Nat) : Prop := ∀ d, pot fs sn co E d → d u = 0 → (∀ x, d x ≤ 1000) → ∀ x, x < n → d x ≤ c x
/-- the costs of the cheapest ways from u: a potential, above all others, and each is reached by a path -/
def isD (fs sn co : Nat → Nat) (E : Nat → Bool) (n u : Nat) (c : Nat → Nat) : Prop :=
  (∀ p, E p = true → c (fs p) ≤ c (sn p) + co p ∧ c (sn p) ≤ c (fs p) + co p) ∧ c u = 0 ∧ (∀ x, x < n → c x ≤ 1000) ∧ above fs sn co E n u c
/-- each cost below 1000 is 0 at u, or by a path from elsewhere -/
def tight (fs sn co : Nat → Nat) (E : Nat → Bool) (n u : Nat) (c : Nat → Nat) : Prop :=
  ∀ v, v < n → v ≠ u → c v < 1000 → ∃ p, E p = true ∧ ((sn p = v ∧ c v = c (fs p) + co p) ∨ (fs p = v ∧ c v = c (sn p) + co p))
section
variable {fs sn co : Nat → Nat} {E : Nat → Bool} {n u v : Nat} {c c' : Nat → Nat}
/-- a row of costs as a potential for all numbers -/
theorem isD_pot (hE : ∀ p, E p = true → fs p < n ∧ sn p < n) (h : isD fs sn co E n u c) : pot fs sn co E (fun x => if x < n then c x else 1000) := by
  intro p hp
  obtain ⟨h1, h2⟩ := hE p hp
  have := h.1 p hp
  dsimp only
  rw [if_pos h1, if_pos h2]
  exact this
theorem isD_le (hE : ∀ p, E p = true → fs p < n ∧ sn p < n) (hu : u < n) (h : isD fs sn co E n u c) (h' : above fs sn co E n u c') : ∀ x, x < n → c x ≤ c' x := by
  intro x hx
  have := h' (fun x => if x < n then c x else 1000) (isD_pot hE h) (by rw [if_pos hu]; exact h.2.1) (fun y => by
    by_cases hy : y < n
    · rw [if_pos hy]; exact h.2.2.1 y hy
    · rw [if_neg hy]; omega) x hx
  rw [if_pos hx] at this
  exact this
theorem isD_eq (hE : ∀ p, E p = true → fs p < n ∧ sn p < n) (hu : u < n) (h : isD fs sn co E n u c) (h' : isD fs sn co E n u c') : ∀ x, x < n → c x = c' x := fun x hx =>
  Nat.le_antisymm (isD_le hE hu h h'.2.2.2 x hx) (isD_le hE hu h' h.2.2.2 x hx)
theorem isD_symm1 (hE : ∀ p, E p = true → fs p < n ∧ sn p < n) (hu : u < n) (hv : v < n) (h : isD fs sn co E n u c) (h' : isD fs sn co E n v c') : c v ≤ c' u := by
  have hx := h'.2.2.2 (fun x => c v - (if x < n then c x else 1000)) (fun p hp => by
    obtain ⟨h1, h2⟩ := hE p hp
    obtain ⟨h3, h4⟩ := h.1 p hp
    dsimp only
    rw [if_pos h1, if_pos h2]
    omega) (by rw [if_pos hv]; omega) (fun x => by have := h.2.2.1 v hv; omega) u hu
  rw [if_pos hu, h.2.1] at hx
  omega
theorem isD_symm (hE : ∀ p, E p = true → fs p < n ∧ sn p < n) (hu : u < n) (hv : v < n) (h : isD fs sn co E n u c) (h' : isD fs sn co E n v c') : c v = c' u :=
  Nat.le_antisymm (isD_symm1 hE hu hv h h') (isD_symm1 hE hv hu h' h)
theorem isD_zero (hco : ∀ p, E p = true → 1 ≤ co p) (hv : v < n) (h : isD fs sn co E n u c) : c v = 0 ↔ u = v := by
  constructor
  · intro h0
    refine Classical.byContradiction fun hne => ?_
    have := h.2.2.2 (fun x => if x = u then 0 else 1) (fun p hp => by
      have := hco p hp
      by_cases e1 : fs p = u <;> by_cases e2 : sn p = u <;> simp [e1, e2] <;> omega) (by simp) (fun x => by
      show (if x = u then 0 else 1) ≤ 1000
      by_cases e1 : x = u <;> simp [e1]) v hv
    simp [Ne.symm hne] at this
    omega
  · rintro rfl
    exact h.2.1
/-- below 1000 just where there is a way, if what is below 1000 is below 990 -/
theorem isD_conn (hE : ∀ p, E p = true → fs p < n ∧ sn p < n) (hco : ∀ p, E p = true → co p ≤ 9) (hu : u < n) (hv : v < n) (h : isD fs sn co E n u c) (hb : ∀ x, x < n → c x < 1000 → c x < 990) : c v < 1000 ↔ conn fs sn E u v := by
  constructor
  · intro hlt
    refine Classical.byContradiction fun hn => ?_
    obtain ⟨S, hS, hSu, hSv⟩ := not_conn hn
    have hd : ∀ x, Decidable (S x) := fun x => Classical.propDecidable _
    have := h.2.2.2 (fun x => if S x then 0 else 1000) (fun p hp => by
      have := hS p hp
      by_cases e1 : S (fs p)
      · simp [e1, this.mp e1]
      · have e2 : ¬ S (sn p) := fun q => e1 (this.mpr q)
        simp [e1, e2]) (by simp [hSu]) (fun x => by
      show (if S x then 0 else 1000) ≤ 1000
      by_cases e1 : S x <;> simp [e1]) v hv
    simp [hSv] at this
    omega
  · intro hc
    refine (hc (fun x => x < n → c x < 1000) ?_ (fun _ => by rw [h.2.1]; omega)) hv
    intro p hp
    obtain ⟨h1, h2⟩ := hE p hp
    obtain ⟨h3, h4⟩ := h.1 p hp
    have h5 := hco p hp
    constructor
    · intro q _
      have := hb _ h1 (q h1)
      omega
    · intro q _
      have := hb _ h2 (q h2)
      omega
end
/-! ===== Dijkstra: what holds between visits. vis: visited; k: so many visits ===== -/
def dij (fs sn co : Nat → Nat) (E : Nat → Bool) (n u : Nat) (vis : Nat → Bool) (c : Nat → Nat) (k : Nat) : Prop :=
  c u = 0 ∧ (∀ x, x < n → c x ≤ 1000) ∧ above fs sn co E n u c ∧
  (∀ v, v < n → v ≠ u → c v < 1000 → ∃ p, E p = true ∧ ((sn p = v ∧ vis (fs p) = true ∧ c v = c (fs p) + co p) ∨ (fs p = v ∧ vis (sn p) = true ∧ c v = c (sn p) + co p))) ∧
  (∀ x, x < n → c x < 1000 → c x ≤ 9 * k) ∧ (∀ x y, x < n → y < n → vis x = true → vis y = false → c x ≤ c y) ∧
  (∀ p, E p = true → (vis (fs p) = true → c (sn p) ≤ c (fs p) + co p) ∧ (vis (sn p) = true → c (fs p) ≤ c (sn p) + co p)) ∧
  (cnt vis n = k ∨ ∀ x, x < n → vis x = false → c x = 1000) ∧ ∀ x, x < n → vis x = true → c x < 1000
/-- what lowering around a leaves -/
def lowered (fs sn co : Nat → Nat) (E : Nat → Bool) (n a : Nat) (c c' : Nat → Nat) : Prop :=
  c' a = c a ∧ (∀ x, x < n → c' x ≤ c x) ∧ (∀ x, x < n → c' x = c x ∨ ∃ p, E p = true ∧ ((fs p = a ∧ sn p = x) ∨ (sn p = a ∧ fs p = x)) ∧ c' x = c a + co p) ∧
  ∀ p, E p = true → (fs p = a → c' (sn p) ≤ c a + co p) ∧ (sn p = a → c' (fs p) ≤ c a + co p)
section
variable {fs sn co : Nat → Nat} {E : Nat → Bool} {n u a k : Nat} {vis : Nat → Bool} {c c' D : Nat → Nat}
theorem dij_0 (hu : u < n) : dij fs sn co E n u (fun _ => false) (fun x => if x = u then 0 else 1000) 0 := by
  refine ⟨if_pos rfl, fun x _ => by by_cases e : x = u <;> simp [e], ?_, ?_, ?_, ?_, ?_, Or.inl (cnt_zero n fun _ _ => rfl), fun x _ h => by cases h⟩
  · intro d _ hd hb x _
    by_cases e : x = u
    · rw [e, hd]; simp
    · simp [e]; exact hb x
  · intro v _ hne hlt
    dsimp only at hlt
    rw [if_neg hne] at hlt
    omega
  · intro x _ hlt
    by_cases e : x = u
    · simp [e]
    · dsimp only at hlt; rw [if_neg e] at hlt; omega
  · intro x y _ _ h; cases h
  · intro p _; exact ⟨fun h => (by cases h), fun h => (by cases h)⟩
theorem dij_step (hE : ∀ p, E p = true → fs p < n ∧ sn p < n) (hco : ∀ p, E p = true → 1 ≤ co p ∧ co p ≤ 9) (ha : a < n) (h : dij fs sn co E n u vis c k) (hu : u < n) (hv : vis a = false) (hc : c a < 1000) (hmin : ∀ x, x < n → vis x = false → c a ≤ c x) (hl : lowered fs sn co E n a c c') :
    dij fs sn co E n u (fun x => vis x || decide (x = a)) c' (k + 1) := by
  obtain ⟨h1, h2, h3, h4, h5, h6, h7, h8, h9⟩ := h
  obtain ⟨l1, l2, l3, l4⟩ := hl
  have keep : ∀ x, x < n → vis x = true → c' x = c x := by
    intro x hx hvx
    rcases l3 x hx with e | ⟨p, hp, -, e⟩
    · exact e
    · have q1 := h6 x a hx ha hvx hv
      have q2 := l2 x hx
      have q3 := (hco p hp).1
      omega
  have vis' : ∀ x, (vis x || decide (x = a)) = true → vis x = true ∨ x = a := fun x hx => by
    rcases Bool.or_eq_true _ _ ▸ hx with q | q
    · exact Or.inl q
    · exact Or.inr (of_decide_eq_true q)
  have keep' : ∀ x, x < n → (vis x || decide (x = a)) = true → c' x = c x := fun x hx hq => by
    rcases vis' x hq with q | q
    · exact keep x hx q
    · rw [q]; exact l1
  refine ⟨?_, fun x hx => Nat.le_trans (l2 x hx) (h2 x hx), ?_, ?_, ?_, ?_, ?_, ?_, ?_⟩
  · have := l2 u hu; omega
  · intro d hd hd0 hb x hx
    rcases l3 x hx with e | ⟨p, hp, hpx, e⟩
    · rw [e]; exact h3 d hd hd0 hb x hx
    · rw [e]
      have q1 := h3 d hd hd0 hb a ha
      have q2 := hd p hp
      rcases hpx with ⟨e1, e2⟩ | ⟨e1, e2⟩
      · rw [e1, e2] at q2; omega
      · rw [e1, e2] at q2; omega
  · intro v hvn hne hlt
    rcases l3 v hvn with e | ⟨p, hp, hpx, e⟩
    · rw [e] at hlt
      obtain ⟨p, hp, q⟩ := h4 v hvn hne hlt
      refine ⟨p, hp, ?_⟩
      rcases q with ⟨e1, e2, e3⟩ | ⟨e1, e2, e3⟩
      · refine Or.inl ⟨e1, by simp [e2], ?_⟩
        rw [e, e3, keep _ (hE p hp).1 e2]
      · refine Or.inr ⟨e1, by simp [e2], ?_⟩
        rw [e, e3, keep _ (hE p hp).2 e2]
    · refine ⟨p, hp, ?_⟩
      rcases hpx with ⟨e1, e2⟩ | ⟨e1, e2⟩
      · exact Or.inl ⟨e2, by simp [e1], by rw [e, e1, l1]⟩
      · exact Or.inr ⟨e2, by simp [e1], by rw [e, e1, l1]⟩
  · intro x hx hlt
    rcases l3 x hx with e | ⟨p, hp, -, e⟩
    · rw [e] at hlt ⊢
      have := h5 x hx hlt
      omega
    · have q1 := h5 a ha hc
      have q2 := (hco p hp).2
      omega
  · intro x y hx hy hvx hvy
    have hvy' : vis y = false ∧ y ≠ a := by
      rw [Bool.or_eq_false_iff] at hvy
      exact ⟨hvy.1, of_decide_eq_false hvy.2⟩
    rw [keep' x hx hvx]
    have q0 : c x ≤ c a := by
      rcases vis' x hvx with q | q
      · exact h6 x a hx ha q hv
      · rw [q]; exact Nat.le_refl _
    have q1 : c x ≤ c y := by
      rcases vis' x hvx with q | q
      · exact h6 x y hx hy q hvy'.1
      · rw [q]; exact hmin y hy hvy'.1
    rcases l3 y hy with e | ⟨p, hp, -, e⟩ <;> omega
  · intro p hp
    obtain ⟨hp1, hp2⟩ := hE p hp
    constructor
    · intro hq
      rw [keep' _ hp1 hq]
      rcases vis' _ hq with q | q
      · exact Nat.le_trans (l2 _ hp2) ((h7 p hp).1 q)
      · rw [q]; exact (l4 p hp).1 q
    · intro hq
      rw [keep' _ hp2 hq]
      rcases vis' _ hq with q | q
      · exact Nat.le_trans (l2 _ hp1) ((h7 p hp).2 q)
      · rw [q]; exact (l4 p hp).2 q
  · rcases h8 with e | e
    · refine Or.inl ?_
      rw [cnt_add1 (p := vis) n a ha hv (by simp) (fun i _ hi => by simp [hi]), e]
    · have := e a ha hv
      omega
  · intro x hx hq
    rw [keep' x hx hq]
    rcases vis' x hq with q | q
    · exact h9 x hx q
    · rw [q]; exact hc
theorem dij_stay (h : dij fs sn co E n u vis c k) (hn : ∀ x, x < n → vis x = false → c x = 1000) : dij fs sn co E n u vis c (k + 1) := by
  obtain ⟨h1, h2, h3, h4, h5, h6, h7, h8, h9⟩ := h
  exact ⟨h1, h2, h3, h4, fun x hx hl => by have := h5 x hx hl; omega, h6, h7, Or.inr hn, h9⟩
theorem dij_end (hE : ∀ p, E p = true → fs p < n ∧ sn p < n) (h : dij fs sn co E n u vis c n) (hn : n ≤ 9) : isD fs sn co E n u c ∧ tight fs sn co E n u c ∧ ∀ x, x < n → c x < 1000 → c x < 990 := by
  obtain ⟨h1, h2, h3, h4, h5, h6, h7, h8, h9⟩ := h
  have hall : ∀ x, x < n → vis x = false → c x = 1000 := by
    rcases h8 with e | e
    · intro x hx hv
      rw [cnt_full n (Nat.le_of_eq e.symm) x hx] at hv
      cases hv
    · exact e
  refine ⟨⟨fun p hp => ?_, h1, h2, h3⟩, fun v hv hne hlt => ?_, fun x hx hl => by have := h5 x hx hl; omega⟩
  · obtain ⟨hp1, hp2⟩ := hE p hp
    have q1 := h2 _ hp1
    have q2 := h2 _ hp2
    constructor
    · cases hq : vis (sn p) with
      | true => exact (h7 p hp).2 hq
      | false => rw [hall _ hp2 hq]; omega
    · cases hq : vis (fs p) with
      | true => exact (h7 p hp).1 hq
      | false => rw [hall _ hp1 hq]; omega
  · obtain ⟨p, hp, q⟩ := h4 v hv hne hlt
    refine ⟨p, hp, ?_⟩
    rcases q with ⟨e1, -, e3⟩ | ⟨e1, -, e3⟩
    · exact Or.inl ⟨e1, e3⟩
    · exact Or.inr ⟨e1, e3⟩
/-- a least one of those with P -/
theorem least_ex (f : Nat → Nat) (P : Nat → Prop) : ∀ n, (∃ x, x < n ∧ P x) → ∃ x, x < n ∧ P x ∧ ∀ y, y < n → P y → f x ≤ f y
  | 0, ⟨x, hx, _⟩ => by omega
  | n + 1, ⟨x, hx, hp⟩ => by
    by_cases h : ∃ x, x < n ∧ P x
    · obtain ⟨z, hz, hpz, hm⟩ := least_ex f P n h
      by_cases hn : P n ∧ f n < f z
      · refine ⟨n, by omega, hn.1, fun y hy hpy => ?_⟩
        by_cases e : y = n
        · rw [e]; exact Nat.le_refl _
        · have := hm y (by omega) hpy; omega
      · refine ⟨z, by omega, hpz, fun y hy hpy => ?_⟩
        by_cases e : y = n
        · subst e
          have : ¬ f y < f z := fun q => hn ⟨hpy, q⟩
          omega
        · exact hm y (by omega) hpy
    · have e : x = n := Classical.byContradiction fun e => h ⟨x, by omega, hp⟩
      subst e
      refine ⟨x, by omega, hp, fun y hy hpy => ?_⟩
      have e : y = x := Classical.byContradiction fun e => h ⟨y, by omega, hpy⟩
      rw [e]; exact Nat.le_refl _
/-- Bellman and Ford: costs above D, of which r + 1 or all are D's -/
def bf (fs sn co : Nat → Nat) (E : Nat → Bool) (n u : Nat) (D c : Nat → Nat) (r : Nat) : Prop :=
  c u = 0 ∧ (∀ x, x < n → D x ≤ c x ∧ c x ≤ 1000) ∧ (r + 1 ≤ cnt (fun x => decide (c x = D x)) n ∨ ∀ x, x < n → c x = D x)
/-- what a round leaves: j paths are done -/
def bfr (fs sn co : Nat → Nat) (E : Nat → Bool) (n u j : Nat) (D c c' : Nat → Nat) : Prop :=
  c' u = 0 ∧ (∀ x, x < n → D x ≤ c' x ∧ c' x ≤ c x) ∧ ∀ p, p < j → E p = true → c' (sn p) ≤ c (fs p) + co p ∧ c' (fs p) ≤ c (sn p) + co p
theorem bf_0 (hu : u < n) (hD : isD fs sn co E n u D) : bf fs sn co E n u D (fun x => if x = u then 0 else 1000) 0 := by
  refine ⟨if_pos rfl, fun x hx => ?_, Or.inl ?_⟩
  · by_cases e : x = u
    · rw [e, hD.2.1]; simp
    · simp [e]; exact hD.2.2.1 x hx
  · exact cnt_pos n u hu (by simp [hD.2.1])
theorem bf_step {m r : Nat} (hE : ∀ p, E p = true → fs p < n ∧ sn p < n) (hco : ∀ p, E p = true → 1 ≤ co p) (hm : ∀ p, E p = true → p < m) (hD : isD fs sn co E n u D) (hT : tight fs sn co E n u D) (h : bf fs sn co E n u D c r) (hr : bfr fs sn co E n u m D c c') : bf fs sn co E n u D c' (r + 1) := by
  obtain ⟨h1, h2, h3⟩ := h
  obtain ⟨r1, r2, r3⟩ := hr
  refine ⟨r1, fun x hx => ⟨(r2 x hx).1, Nat.le_trans (r2 x hx).2 (h2 x hx).2⟩, ?_⟩
  have keep : ∀ x, x < n → c x = D x → c' x = D x := fun x hx e => by have := r2 x hx; omega
  by_cases hall : ∀ x, x < n → c x = D x
  · exact Or.inr fun x hx => keep x hx (hall x hx)
  · have hex : ∃ x, x < n ∧ c x ≠ D x := Classical.byContradiction fun hn => hall fun x hx => Classical.byContradiction fun q => hn ⟨x, hx, q⟩
    obtain ⟨v, hv, hvD, hmin⟩ := least_ex D (fun x => c x ≠ D x) n hex
    have h3' : r + 1 ≤ cnt (fun x => decide (c x = D x)) n := h3.resolve_right hall
    have hvu : v ≠ u := fun e => hvD (by rw [e, h1, hD.2.1])
    have hvl : D v < 1000 := by have := h2 v hv; omega
    obtain ⟨p, hp, hq⟩ := hT v hv hvu hvl
    have hvs : c' v = D v := by
      have q0 := r2 v hv
      have q1 := hco p hp
      rcases hq with ⟨e1, e2⟩ | ⟨e1, e2⟩
      · have e3 : c (fs p) = D (fs p) := Classical.byContradiction fun e => by have := hmin _ (hE p hp).1 e; omega
        have q2 := (r3 p (hm p hp) hp).1
        rw [e1] at q2
        omega
      · have e3 : c (sn p) = D (sn p) := Classical.byContradiction fun e => by have := hmin _ (hE p hp).2 e; omega
        have q2 := (r3 p (hm p hp) hp).2
        rw [e1] at q2
        omega
    refine Or.inl ?_
    have := cnt_lt (p := fun x => decide (c x = D x)) (q := fun x => decide (c' x = D x)) n (fun i hi q => decide_eq_true (keep i hi (of_decide_eq_true q))) ⟨v, hv, decide_eq_true hvs, decide_eq_false hvD⟩
    omega
theorem bf_end {r : Nat} (h : bf fs sn co E n u D c r) (hr : n ≤ r + 1) : ∀ x, x < n → c x = D x := by
  rcases h.2.2 with q | q
  · exact fun x hx => of_decide_eq_true (cnt_full n (Nat.le_trans hr q) x hx)
  · exact q
end
end
section
/-! ===== flows: f p is 1, 0 or -1; val: what leaves a set ===== -/
def ind (b : Bool) : Int := if b = true then 1 else 0
theorem ind_t : ind true = 1 := rfl
theorem ind_f : ind false = 0 := rfl
def val (fs sn : Nat → Nat) (m : Nat) (f : Nat → Int) (S : Nat → Bool) : Int := sumI (fun p => f p * (ind (S (fs p)) - ind (S (sn p)))) m
def leav (fs sn : Nat → Nat) (E : Nat → Bool) (m : Nat) (S : Nat → Bool) : Nat := cnt (fun p => E p && (S (fs p) != S (sn p))) m
def isFlow (fs sn : Nat → Nat) (E : Nat → Bool) (m s t : Nat) (f : Nat → Int) (k : Nat) : Prop :=
  (∀ p, p < m → -1 ≤ f p ∧ f p ≤ 1) ∧ (∀ p, p < m → E p = false → f p = 0) ∧ ∀ S : Nat → Bool, val fs sn m f S = (k : Int) * (ind (S s) - ind (S t))
section
variable {fs sn : Nat → Nat} {E : Nat → Bool} {m n s t k : Nat} {f g : Nat → Int}
theorem flow_0 : isFlow fs sn E m s t (fun _ => 0) 0 := ⟨fun p _ => ⟨(by decide : (-1 : Int) ≤ 0), (by decide : (0 : Int) ≤ 1)⟩, fun _ _ _ => rfl, fun S => by
  rw [val, sumI_zero m (fun i _ => by simp)]
  simp⟩
theorem flow_le (h : isFlow fs sn E m s t f k) (S : Nat → Bool) (hs : S s = true) (ht : S t = false) : k ≤ leav fs sn E m S := by
  have h1 := h.2.2 S
  rw [hs, ht, ind_t, ind_f] at h1
  have h2 := sumI_le (f := fun p => f p * (ind (S (fs p)) - ind (S (sn p)))) (p := fun p => E p && (S (fs p) != S (sn p))) m (fun p hp => by
    have q1 := h.1 p hp
    have q2 := h.2.1 p hp
    cases hE : E p with
    | false => rw [q2 hE]; simp
    | true => cases hS : S (fs p) <;> cases hT : S (sn p) <;> simp [ind] <;> omega)
  have h3 : val fs sn m f S ≤ (leav fs sn E m S : Int) := h2
  rw [h1] at h3
  omega
/-- a path that may be taken further out of R -/
def cross (fs sn : Nat → Nat) (E : Nat → Bool) (f : Nat → Int) (R : Nat → Bool) (p : Nat) : Prop :=
  E p = true ∧ ((R (fs p) = true ∧ R (sn p) = false ∧ f p < 1) ∨ (R (sn p) = true ∧ R (fs p) = false ∧ -1 < f p))
theorem flow_eq (h : isFlow fs sn E m s t f k) (R : Nat → Bool) (hs : R s = true) (ht : R t = false) (hc : ∀ p, p < m → ¬ cross fs sn E f R p) : k = leav fs sn E m R := by
  have h1 := h.2.2 R
  rw [hs, ht, ind_t, ind_f] at h1
  have h2 := sumI_eq (f := fun p => f p * (ind (R (fs p)) - ind (R (sn p)))) (p := fun p => E p && (R (fs p) != R (sn p))) m (fun p hp => by
    have q1 := h.1 p hp
    have q2 := h.2.1 p hp
    have q3 := hc p hp
    unfold cross at q3
    cases hE : E p with
    | false => rw [q2 hE]; simp
    | true => cases hS : R (fs p) <;> cases hT : R (sn p) <;> simp [ind, hE, hS, hT] at q3 ⊢ <;> omega)
  have h3 : val fs sn m f R = (leav fs sn E m R : Int) := h2
  rw [h1] at h3
  omega
/-- what is reached from s: arr the path by which, rk the turn at which -/
def reachI (fs sn : Nat → Nat) (E : Nat → Bool) (m n s : Nat) (f : Nat → Int) (R : Nat → Bool) (arr rk : Nat → Nat) : Prop :=
  R s = true ∧ rk s = 0 ∧ (∀ v, v < n → R v = true → rk v < cnt R n) ∧
  ∀ v, v < n → R v = true → v ≠ s → arr v < m ∧ E (arr v) = true ∧ ((sn (arr v) = v ∧ R (fs (arr v)) = true ∧ rk (fs (arr v)) < rk v ∧ f (arr v) < 1) ∨ (fs (arr v) = v ∧ R (sn (arr v)) = true ∧ rk (sn (arr v)) < rk v ∧ -1 < f (arr v)))
theorem reachI_0 (hs : s < n) (arr : Nat → Nat) : reachI fs sn E m n s f (fun x => decide (x = s)) arr (fun _ => 0) :=
  ⟨decide_eq_true rfl, rfl, fun v _ _ => cnt_pos n s hs (decide_eq_true rfl), fun _ _ h hne => (hne (of_decide_eq_true h)).elim⟩
theorem reachI_add {R : Nat → Bool} {arr rk : Nat → Nat} {p v : Nat} (hE : ∀ p, E p = true → fs p < n ∧ sn p < n) (h : reachI fs sn E m n s f R arr rk) (hp : p < m) (hEp : E p = true) (hv : R v = false)
    (hq : (sn p = v ∧ R (fs p) = true ∧ f p < 1) ∨ (fs p = v ∧ R (sn p) = true ∧ -1 < f p)) : reachI fs sn E m n s f (fun x => R x || decide (x = v)) (fun x => if x = v then p else arr x) (fun x => if x = v then cnt R n else rk x) := by
  obtain ⟨h1, h2, h3, h4⟩ := h
  have hsv : s ≠ v := fun e => by rw [e, hv] at h1; cases h1
  have hvn : v < n := by
    rcases hq with ⟨rfl, _⟩ | ⟨rfl, _⟩
    · exact (hE p hEp).2
    · exact (hE p hEp).1
  have hc : cnt (fun x => R x || decide (x = v)) n = cnt R n + 1 := cnt_add1 n v hvn hv (by simp) (fun i _ hi => by simp [hi])
  have nev : ∀ x, R x = true → x ≠ v := fun x hx e => by rw [e, hv] at hx; cases hx
  refine ⟨by simp [h1], by simp only [if_neg hsv]; exact h2, fun w hw hR => ?_, fun w hw hR hws => ?_⟩
  · rw [hc]
    by_cases e : w = v
    · simp only [if_pos e]; omega
    · simp only [if_neg e]
      have hR' : R w = true := by simpa [e] using hR
      have := h3 w hw hR'; omega
  · by_cases e : w = v
    · simp only [if_pos e]
      refine ⟨hp, hEp, ?_⟩
      rcases hq with ⟨q1, q2, q3⟩ | ⟨q1, q2, q3⟩
      · refine Or.inl ⟨q1.trans e.symm, by simp [q2], ?_, q3⟩
        simp only [if_neg (nev _ q2)]
        exact h3 _ (hE p hEp).1 q2
      · refine Or.inr ⟨q1.trans e.symm, by simp [q2], ?_, q3⟩
        simp only [if_neg (nev _ q2)]
        exact h3 _ (hE p hEp).2 q2
    · have hR' : R w = true := by simpa [e] using hR
      obtain ⟨q1, q2, q3⟩ := h4 w hw hR' hws
      simp only [if_neg e]
      refine ⟨q1, q2, ?_⟩
      rcases q3 with ⟨q3, q4, q5, q6⟩ | ⟨q3, q4, q5, q6⟩
      · exact Or.inl ⟨q3, by simp [q4], by simp only [if_neg (nev _ q4)]; exact q5, q6⟩
      · exact Or.inr ⟨q3, by simp [q4], by simp only [if_neg (nev _ q4)]; exact q5, q6⟩
/-- on the way back from t: at x, the flow g -/
def backI (fs sn : Nat → Nat) (E : Nat → Bool) (m n s t k : Nat) (f g : Nat → Int) (R : Nat → Bool) (arr rk : Nat → Nat) (x : Nat) : Prop :=
  (∀ S : Nat → Bool, val fs sn m g S = (k : Int) * (ind (S s) - ind (S t)) + (ind (S x) - ind (S t))) ∧ R x = true ∧ x < n ∧ (∀ p, p < m → -1 ≤ g p ∧ g p ≤ 1) ∧ (∀ p, p < m → E p = false → g p = 0) ∧
  ∀ v, v < n → R v = true → v ≠ s → rk v ≤ rk x → g (arr v) = f (arr v)
theorem backI_0 {R : Nat → Bool} {arr rk : Nat → Nat} (h : isFlow fs sn E m s t f k) (ht : t < n) (hR : R t = true) : backI fs sn E m n s t k f f R arr rk t :=
  ⟨fun S => by rw [h.2.2 S]; omega, hR, ht, h.1, h.2.1, fun _ _ _ _ _ => rfl⟩
theorem back_end {R : Nat → Bool} {arr rk : Nat → Nat} (h : backI fs sn E m n s t k f g R arr rk s) : isFlow fs sn E m s t g (k + 1) :=
  ⟨h.2.2.2.1, h.2.2.2.2.1, fun S => by rw [h.1 S, Int.natCast_add, Int.add_mul]; simp⟩
theorem val_upd {f g : Nat → Int} (S : Nat → Bool) (p : Nat) (hp : p < m) (h : ∀ q, q < m → q ≠ p → g q = f q) : val fs sn m g S = val fs sn m f S + (g p - f p) * (ind (S (fs p)) - ind (S (sn p))) := by
  have := sumI_upd (f := fun p => f p * (ind (S (fs p)) - ind (S (sn p)))) (g := fun p => g p * (ind (S (fs p)) - ind (S (sn p)))) m p hp (fun i hi hne => by rw [h i hi hne])
  unfold val
  rw [Int.sub_mul]
  omega
theorem back_step {R : Nat → Bool} {arr rk : Nat → Nat} {x : Nat} (hE : ∀ p, E p = true → fs p < n ∧ sn p < n ∧ fs p ≠ sn p) (hr : reachI fs sn E m n s f R arr rk) (h : backI fs sn E m n s t k f g R arr rk x) (hx : x ≠ s) :
    arr x < m ∧ E (arr x) = true ∧ ((sn (arr x) = x ∧ rk (fs (arr x)) < rk x ∧ backI fs sn E m n s t k f (fun q => if q = arr x then g q + 1 else g q) R arr rk (fs (arr x))) ∨
      (sn (arr x) ≠ x ∧ fs (arr x) = x ∧ rk (sn (arr x)) < rk x ∧ backI fs sn E m n s t k f (fun q => if q = arr x then g q - 1 else g q) R arr rk (sn (arr x)))) := by
  obtain ⟨b1, b2, b3, b4, b5, b6⟩ := h
  obtain ⟨h1, h2, h3, h4⟩ := hr
  obtain ⟨q1, q2, q3⟩ := h4 x b3 b2 hx
  obtain ⟨e1, e2, e3⟩ := hE _ q2
  have hg : g (arr x) = f (arr x) := b6 x b3 b2 hx (Nat.le_refl _)
  -- no other field of a turn before has the same path
  have uniq : ∀ y, (sn (arr x) = x ∧ y = fs (arr x)) ∨ (fs (arr x) = x ∧ y = sn (arr x)) → rk y < rk x → ∀ v, v < n → R v = true → v ≠ s → rk v ≤ rk y → arr v ≠ arr x := by
    intro y hy hlt v hv hRv hvs hle e
    obtain ⟨-, -, r3⟩ := h4 v hv hRv hvs
    rw [e] at r3
    rcases hy with ⟨y1, y2⟩ | ⟨y1, y2⟩ <;> rcases r3 with ⟨z1, -, z3, -⟩ | ⟨z1, -, z3, -⟩
    · rw [← z1, y1] at hle; omega
    · rw [← z1, ← y2] at z3
      rw [y1] at z3; omega
    · rw [← z1, ← y2] at z3
      rw [y1] at z3; omega
    · rw [← z1, y1] at hle; omega
  refine ⟨q1, q2, ?_⟩
  rcases q3 with ⟨q3, q4, q5, q6⟩ | ⟨q3, q4, q5, q6⟩
  · refine Or.inl ⟨q3, q5, fun S => ?_, q4, e1, fun p hp => ?_, fun p hp hEp => ?_, fun v hv hRv hvs hle => ?_⟩
    · rw [val_upd (f := g) S (arr x) q1 (fun q _ hq => if_neg hq), b1 S, if_pos rfl, q3]
      have : g (arr x) + 1 - g (arr x) = 1 := by omega
      rw [this]; omega
    · by_cases e : p = arr x
      · have := b4 p hp
        rw [e] at this ⊢
        simp only [if_pos]; omega
      · simp only [if_neg e]; exact b4 p hp
    · have e : p ≠ arr x := fun e => by rw [e, q2] at hEp; cases hEp
      simp only [if_neg e]; exact b5 p hp hEp
    · have e := uniq (fs (arr x)) (Or.inl ⟨q3, rfl⟩) q5 v hv hRv hvs hle
      simp only [if_neg e]; exact b6 v hv hRv hvs (by omega)
  · refine Or.inr ⟨fun e => e3 (q3.trans e.symm), q3, q5, fun S => ?_, q4, e2, fun p hp => ?_, fun p hp hEp => ?_, fun v hv hRv hvs hle => ?_⟩
    · rw [val_upd (f := g) S (arr x) q1 (fun q _ hq => if_neg hq), b1 S, if_pos rfl, q3]
      have : g (arr x) - 1 - g (arr x) = -1 := by omega
      rw [this]; omega
    · by_cases e : p = arr x
      · have := b4 p hp
        rw [e] at this ⊢
        simp only [if_pos]; omega
      · simp only [if_neg e]; exact b4 p hp
    · have e : p ≠ arr x := fun e => by rw [e, q2] at hEp; cases hEp
      simp only [if_neg e]; exact b5 p hp hEp
    · have e := uniq (sn (arr x)) (Or.inr ⟨q3, rfl⟩) q5 v hv hRv hvs hle
      simp only [if_neg e]; exact b6 v hv hRv hvs (by omega)
end
end
section
/-! ===== spread trees. Paths in order: by costs, then by ids ===== -/
def bef (co : Nat → Nat) (q p : Nat) : Prop := co q < co p ∨ (co q = co p ∧ q < p)
/-- the usable paths ahead of p -/
def befE (co : Nat → Nat) (E : Nat → Bool) (p : Nat) : Nat → Bool := fun q => E q && (decide (co q < co p) || (decide (co q = co p) && decide (q < p)))
theorem befE_t {co : Nat → Nat} {E : Nat → Bool} {p q : Nat} : befE co E p q = true ↔ E q = true ∧ bef co q p := by
  simp [befE, bef]
/-- those that are done when the turn is at the cost c and the path j -/
def doneE (co : Nat → Nat) (E : Nat → Bool) (c j : Nat) : Nat → Bool := fun q => E q && (decide (co q < c) || (decide (co q = c) && decide (q < j)))
/-- labels and chosen paths when those of Q are done -/
def kru (fs sn co : Nat → Nat) (E : Nat → Bool) (n m : Nat) (Q : Nat → Bool) (lab : Nat → Nat) (ch : Nat → Bool) : Prop :=
  (∀ a b, a < n → b < n → (lab a = lab b ↔ conn fs sn Q a b)) ∧ (∀ a, a < n → lab a < n ∧ lab (lab a) = lab a) ∧ (∀ p, ch p = true ↔ Q p = true ∧ ¬ conn fs sn (befE co E p) (fs p) (sn p)) ∧
  ∀ C : Nat → Bool, (∀ p, E p = true → C (fs p) = C (sn p)) → cnt (fun v => C v && decide (lab v = v)) n + cnt (fun p => ch p && C (fs p)) m = cnt C n
section
variable {fs sn co : Nat → Nat} {E Q : Nat → Bool} {n m c j : Nat} {lab : Nat → Nat} {ch : Nat → Bool}
theorem kru_0 : kru fs sn co E n m (fun _ => false) (fun v => v) (fun _ => false) := by
  refine ⟨fun a b _ _ => ⟨fun h => by have h : a = b := h; rw [h]; exact conn_refl b, fun h => h (fun x => a = x) (fun p hp => (by cases hp)) rfl⟩, fun a ha => ⟨ha, rfl⟩, fun p => ⟨fun h => (by cases h), fun h => (by cases h.1)⟩, fun C _ => ?_⟩
  rw [cnt_zero (p := fun p => false && C (fs p)) m (fun _ _ => rfl), cnt_congr (q := C) n (fun i _ => by simp)]
  rfl
theorem kru_congr {Q' : Nat → Bool} (h : kru fs sn co E n m Q lab ch) (e : ∀ p, Q p = Q' p) : kru fs sn co E n m Q' lab ch := by
  rw [show Q' = Q from (funext e).symm]
  exact h
/-- what joining the ends of p leaves of the labels -/
def joined (n : Nat) (k r : Nat) (lab lab' : Nat → Nat) : Prop := ∀ v, v < n → lab' v = if lab v = r then k else lab v
theorem kru_step {p : Nat} {lab' : Nat → Nat} (hp : p < m) (hE : E p = true) (h1 : fs p < n) (h2 : sn p < n) (hQE : ∀ q, Q q = true → E q = true) (hQ : ∀ q, befE co E p q = Q q) (h : kru fs sn co E n m Q lab ch) (hj : joined n (lab (fs p)) (lab (sn p)) lab lab') :
    kru fs sn co E n m (fun q => Q q || decide (q = p)) lab' (fun q => ch q || (decide (q = p) && decide (lab (fs p) ≠ lab (sn p)))) := by
  obtain ⟨k1, k2, k3, k4⟩ := h
  have hQp : Q p = false := by
    rw [← hQ p]
    cases hb : befE co E p p with
    | false => rfl
    | true =>
      have := (befE_t.mp hb).2
      unfold bef at this
      omega
  have hchp : ch p = false := by
    cases hb : ch p with
    | false => rfl
    | true => rw [((k3 p).mp hb).1] at hQp; cases hQp
  have hcp : lab (fs p) ≠ lab (sn p) ↔ ¬ conn fs sn (befE co E p) (fs p) (sn p) := by
    rw [show befE co E p = Q from funext hQ]
    exact not_congr (k1 _ _ h1 h2)
  refine ⟨fun a b ha hb => ?_, fun a ha => ?_, fun q => ?_, fun C hC => ?_⟩
  · rw [conn_add (E := Q) (p := p) (fun q => by simp), ← k1 a b ha hb, ← k1 a _ ha h1, ← k1 _ b h2 hb, ← k1 a _ ha h2, ← k1 _ b h1 hb, hj a ha, hj b hb]
    by_cases e1 : lab a = lab (sn p) <;> by_cases e2 : lab b = lab (sn p)
    · simp [e1, e2]
    · rw [if_pos e1, if_neg e2]
      constructor
      · intro q; exact Or.inr (Or.inr ⟨e1, q⟩)
      · rintro (q | ⟨_, q⟩ | ⟨_, q⟩)
        · exact absurd (q.symm.trans e1) e2
        · exact absurd q.symm e2
        · exact q
    · rw [if_neg e1, if_pos e2]
      constructor
      · intro q; exact Or.inr (Or.inl ⟨q, e2.symm⟩)
      · rintro (q | ⟨q, _⟩ | ⟨q, _⟩)
        · exact absurd (q.trans e2) e1
        · exact q
        · exact absurd q e1
    · rw [if_neg e1, if_neg e2]
      constructor
      · intro q; exact Or.inl q
      · rintro (q | ⟨_, q⟩ | ⟨q, _⟩)
        · exact q
        · exact absurd q.symm e2
        · exact absurd q e1
  · have g1 := k2 a ha
    have g2 := k2 _ h1
    rw [hj a ha]
    by_cases e1 : lab a = lab (sn p)
    · rw [if_pos e1, hj _ g2.1, g2.2]
      refine ⟨g2.1, ?_⟩
      by_cases e2 : lab (fs p) = lab (sn p)
      · simp only [if_pos e2]
      · simp only [if_neg e2]
    · rw [if_neg e1, hj _ g1.1, g1.2, if_neg e1]
      exact ⟨g1.1, rfl⟩
  · simp only [Bool.or_eq_true, Bool.and_eq_true, decide_eq_true_eq]
    rw [k3 q]
    constructor
    · rintro (⟨a, b⟩ | ⟨rfl, b⟩)
      · exact ⟨Or.inl a, b⟩
      · exact ⟨Or.inr rfl, hcp.mp b⟩
    · rintro ⟨a | rfl, b⟩
      · exact Or.inl ⟨a, b⟩
      · exact Or.inr ⟨rfl, hcp.mpr b⟩
  · have hk := k4 C hC
    by_cases e : lab (fs p) = lab (sn p)
    · rw [← hk, cnt_congr (q := fun p => ch p && C (fs p)) m (fun i _ => by simp [e]), cnt_congr (q := fun v => C v && decide (lab v = v)) n (fun v hv => by
        have : lab' v = lab v := by
          rw [hj v hv]
          by_cases e1 : lab v = lab (sn p)
          · rw [if_pos e1, e, e1]
          · simp only [if_neg e1]
        simp [this])]
    · have hr := k2 _ h2
      have hCr : C (lab (sn p)) = C (sn p) := by
        have hcn : conn fs sn Q (sn p) (lab (sn p)) := (k1 _ _ h2 hr.1).mp hr.2.symm
        have := hcn (fun x => C x = C (sn p)) (fun q hq => by show C (fs q) = _ ↔ C (sn q) = _; rw [hC q (hQE q hq)]) rfl
        exact this
      have root : ∀ v, v < n → (lab' v = v ↔ lab v = v ∧ v ≠ lab (sn p)) := by
        intro v hv
        rw [hj v hv]
        by_cases e1 : lab v = lab (sn p)
        · simp only [if_pos e1]
          constructor
          · intro q
            have h5 := (k2 _ h1).2
            rw [q] at h5
            exact absurd (q.trans (h5.symm.trans e1)) e
          · rintro ⟨q1, q2⟩
            exact absurd (q1.symm.trans e1) q2
        · simp only [if_neg e1]
          constructor
          · intro q
            exact ⟨q, fun q2 => e1 (by rw [q2]; exact hr.2)⟩
          · exact fun q => q.1
      cases hCp : C (fs p) with
      | true =>
        have hC2 : C (lab (sn p)) = true := by rw [hCr, ← hC p hE]; exact hCp
        have a1 := cnt_add1 (p := fun v => C v && decide (lab' v = v)) (q := fun v => C v && decide (lab v = v)) n (lab (sn p)) hr.1 (by
          have : ¬ lab' (lab (sn p)) = lab (sn p) := fun q => ((root _ hr.1).mp q).2 rfl
          simp [this]) (by simp [hC2, hr.2]) (fun i hi hne => by
          have : (lab' i = i) ↔ (lab i = i) := (root i hi).trans ⟨fun q => q.1, fun q => ⟨q, hne⟩⟩
          simp [this])
        have a2 := cnt_add1 (p := fun q => ch q && C (fs q)) (q := fun q => (ch q || (decide (q = p) && decide (lab (fs p) ≠ lab (sn p)))) && C (fs q)) m p hp (by simp [hchp]) (by simp [e, hCp]) (fun i _ hne => by simp [hne])
        dsimp only at a1 a2 ⊢
        omega
      | false =>
        have hC2 : C (lab (sn p)) = false := by rw [hCr, ← hC p hE]; exact hCp
        have a1 := cnt_congr (p := fun v => C v && decide (lab' v = v)) (q := fun v => C v && decide (lab v = v)) n (fun i hi => by
          by_cases e3 : i = lab (sn p)
          · rw [e3, hC2]; rfl
          · have : (lab' i = i) ↔ (lab i = i) := (root i hi).trans ⟨fun q => q.1, fun q => ⟨q, e3⟩⟩
            simp [this])
        have a2 := cnt_congr (p := fun q => (ch q || (decide (q = p) && decide (lab (fs p) ≠ lab (sn p)))) && C (fs q)) (q := fun q => ch q && C (fs q)) m (fun i _ => by
          by_cases e3 : i = p
          · rw [e3, hCp]; simp
          · simp [e3])
        dsimp only at a1 a2 ⊢
        omega
/-- when all are done: the paths of the tree of r are those chosen in its group, one less than its fields -/
theorem kru_end {r : Nat} (hE : ∀ p, E p = true → fs p < n ∧ sn p < n) (hr : r < n) (h : kru fs sn co E n m E lab ch) : cnt (fun p => ch p && decide (lab (fs p) = lab r)) m + 1 = cnt (fun v => decide (lab v = lab r)) n ∧ ∀ v, v < n → (lab v = lab r ↔ conn fs sn E r v) := by
  obtain ⟨k1, k2, k3, k4⟩ := h
  have hc : ∀ v, v < n → (lab v = lab r ↔ conn fs sn E r v) := fun v hv => eq_comm.trans (k1 r v hr hv)
  refine ⟨?_, hc⟩
  have hd : ∀ v, Decidable (conn fs sn E r v) := fun v => Classical.propDecidable _
  have hk := k4 (fun v => decide (conn fs sn E r v)) (fun p hp => by
    have := conn_closed (fs := fs) (sn := sn) (E := E) r p hp
    simp [this])
  have e1 : cnt (fun v => decide (conn fs sn E r v) && decide (lab v = v)) n = 1 := by
    refine cnt_one n (lab r) (k2 r hr).1 ?_ (fun i hi hq => ?_)
    · have := (hc _ (k2 r hr).1).mp (k2 r hr).2
      simp [this, (k2 r hr).2]
    · simp only [Bool.and_eq_true, decide_eq_true_eq] at hq
      exact hq.2.symm.trans ((hc i hi).mpr hq.1)
  have e2 : cnt (fun v => decide (conn fs sn E r v)) n = cnt (fun v => decide (lab v = lab r)) n := cnt_congr n (fun i hi => by simp [hc i hi])
  rw [← e2, ← hk, e1, cnt_congr (p := fun p => ch p && decide (conn fs sn E r (fs p))) (q := fun p => ch p && decide (lab (fs p) = lab r)) m (fun p hp => by
    cases hcp : ch p with
    | false => rfl
    | true => simp [hc _ (hE p ((k3 p).mp hcp).1).1])]
  omega
/-! Prim: R reached from r, pu the path, pa the parent, de the depth, P the paths taken -/
def prim (fs sn co : Nat → Nat) (E : Nat → Bool) (n m r : Nat) (R : Nat → Bool) (pa pu de : Nat → Nat) (P : Nat → Bool) : Prop :=
  R r = true ∧ (∀ v, v < n → R v = true → conn fs sn E r v) ∧
  (∀ v, v < n → R v = true → v ≠ r → pu v < m ∧ E (pu v) = true ∧ P (pu v) = true ∧ R (pa v) = true ∧ pa v < n ∧ de v = de (pa v) + 1 ∧ ((sn (pu v) = v ∧ fs (pu v) = pa v) ∨ (fs (pu v) = v ∧ sn (pu v) = pa v))) ∧
  (∀ p, P p = true → p < m ∧ E p = true ∧ R (fs p) = true ∧ R (sn p) = true ∧ ¬ conn fs sn (befE co E p) (fs p) (sn p)) ∧
  cnt P m + 1 = cnt R n ∧ sumN (fun v => if R v = true ∧ v ≠ r then co (pu v) else 0) n = sumN (fun p => if P p = true then co p else 0) m ∧ (∀ v, v < n → R v = true → de v < cnt R n)
theorem prim_0 {r : Nat} (hr : r < n) (pa pu de : Nat → Nat) (hde : de r = 0) : prim fs sn co E n m r (fun v => decide (v = r)) pa pu de (fun _ => false) := by
  refine ⟨decide_eq_true rfl, fun v _ hv => by rw [of_decide_eq_true hv]; exact conn_refl r, fun v _ hv hne => (hne (of_decide_eq_true hv)).elim, fun p hp => (by cases hp), ?_, ?_, fun v _ hv => by rw [of_decide_eq_true hv, hde]; exact cnt_pos n r hr (decide_eq_true rfl)⟩
  · rw [cnt_zero m (fun _ _ => rfl), cnt_one n r hr (decide_eq_true rfl) (fun i _ hi => of_decide_eq_true hi)]
  · rw [sumN_zero n (fun i _ => by simp), sumN_zero m (fun i _ => by simp)]
/-- a path that leaves R, the first in order -/
def firstOut (fs sn co : Nat → Nat) (E : Nat → Bool) (m : Nat) (R : Nat → Bool) (p : Nat) : Prop :=
  p < m ∧ E p = true ∧ R (fs p) ≠ R (sn p) ∧ ∀ q, q < m → E q = true → R (fs q) ≠ R (sn q) → ¬ bef co q p
theorem prim_step {r p v w : Nat} {R P : Nat → Bool} {pa pu de : Nat → Nat} (hE : ∀ p, E p = true → p < m ∧ fs p < n ∧ sn p < n) (h : prim fs sn co E n m r R pa pu de P) (hf : firstOut fs sn co E m R p) (hv : R v = false) (hw : R w = true) (hpv : (sn p = v ∧ fs p = w) ∨ (fs p = v ∧ sn p = w)) :
    prim fs sn co E n m r (fun x => R x || decide (x = v)) (fun x => if x = v then w else pa x) (fun x => if x = v then p else pu x) (fun x => if x = v then de w + 1 else de x) (fun q => P q || decide (q = p)) := by
  obtain ⟨p1, p2, p3, p4, p5, p6, p7⟩ := h
  obtain ⟨f1, f2, f3, f4⟩ := hf
  obtain ⟨-, g1, g2⟩ := hE p f2
  have hvn : v < n := by rcases hpv with ⟨rfl, _⟩ | ⟨rfl, _⟩ <;> assumption
  have hwn : w < n := by rcases hpv with ⟨_, rfl⟩ | ⟨_, rfl⟩ <;> assumption
  have hrv : r ≠ v := fun e => by rw [e, hv] at p1; cases p1
  have hwv : w ≠ v := fun e => by rw [e, hv] at hw; cases hw
  have nev : ∀ x, R x = true → x ≠ v := fun x hx e => by rw [e, hv] at hx; cases hx
  have hcn : cnt (fun x => R x || decide (x = v)) n = cnt R n + 1 := cnt_add1 n v hvn hv (by simp) (fun i _ hi => by simp [hi])
  have hPp : P p = false := by
    cases hb : P p with
    | false => rfl
    | true => exact (f3 (by rw [(p4 p hb).2.2.1, (p4 p hb).2.2.2.1])).elim
  have hend : (R (fs p) || decide (fs p = v)) = true ∧ (R (sn p) || decide (sn p = v)) = true := by
    rcases hpv with ⟨e1, e2⟩ | ⟨e1, e2⟩
    · rw [e1, e2]; simp [hw]
    · rw [e1, e2]; simp [hw]
  refine ⟨by simp [p1], fun x hx hRx => ?_, fun x hx hRx hxr => ?_, fun q hq => ?_, ?_, ?_, fun x hx hRx => ?_⟩
  · by_cases e : x = v
    · have h1 := p2 w hwn hw
      have h2 := conn_edge (fs := fs) (sn := sn) (E := E) f2
      rw [e]
      rcases hpv with ⟨e1, e2⟩ | ⟨e1, e2⟩
      · rw [e1, e2] at h2; exact conn_trans h1 h2
      · rw [e1, e2] at h2; exact conn_trans h1 (conn_symm h2)
    · exact p2 x hx (by simpa [e] using hRx)
  · by_cases e : x = v
    · simp only [if_pos e, if_neg hwv]
      refine ⟨f1, f2, by simp, by simp [hw], hwn, trivial, ?_⟩
      rw [e]
      exact hpv
    · have hRx' : R x = true := by simpa [e] using hRx
      obtain ⟨q1, q2, q3, q4, q5, q6, q7⟩ := p3 x hx hRx' hxr
      simp only [if_neg e, if_neg (nev _ q4)]
      exact ⟨q1, q2, by simp [q3], by simp [q4], q5, q6, q7⟩
  · by_cases e : q = p
    · rw [e]
      refine ⟨f1, f2, hend.1, hend.2, fun hc => ?_⟩
      have hcl := hc (fun x => R x = R (fs p)) (fun q hq => by
        have hb := befE_t.mp hq
        have : R (fs q) = R (sn q) := Classical.byContradiction fun hne => f4 q (hE q hb.1).1 hb.1 hne hb.2
        show R (fs q) = _ ↔ R (sn q) = _
        rw [this]) rfl
      exact f3 hcl.symm
    · have hq' : P q = true := by simpa [e] using hq
      obtain ⟨q1, q2, q3, q4, q5⟩ := p4 q hq'
      exact ⟨q1, q2, by simp [q3], by simp [q4], q5⟩
  · rw [hcn, cnt_add1 (p := P) m p f1 hPp (by simp) (fun i _ hi => by simp [hi])]
    omega
  · have a1 := sumN_upd (f := fun x => if R x = true ∧ x ≠ r then co (pu x) else 0) (g := fun x => if (R x || decide (x = v)) = true ∧ x ≠ r then co (if x = v then p else pu x) else 0) n v hvn (fun i _ hi => by simp [hi])
    have a2 := sumN_upd (f := fun q => if P q = true then co q else 0) (g := fun q => if (P q || decide (q = p)) = true then co q else 0) m p f1 (fun i _ hi => by simp [hi])
    have b1 : (if R v = true ∧ v ≠ r then co (pu v) else 0) = 0 := by simp [hv]
    have b2 : (if (R v || decide (v = v)) = true ∧ v ≠ r then co (if v = v then p else pu v) else 0) = co p := by simp [Ne.symm hrv]
    have b3 : (if P p = true then co p else 0) = 0 := by simp [hPp]
    have b4 : (if (P p || decide (p = p)) = true then co p else 0) = co p := by simp
    dsimp only at a1 a2 ⊢
    rw [b1, b2] at a1
    rw [b3, b4] at a2
    omega
  · rw [hcn]
    by_cases e : x = v
    · simp only [if_pos e]
      have := p7 w hwn hw
      omega
    · simp only [if_neg e]
      have := p7 x hx (by simpa [e] using hRx)
      omega
/-- grown to the end: the group of r; the paths taken are those of the tree found in order -/
theorem prim_end {r : Nat} {R P : Nat → Bool} {pa pu de : Nat → Nat} (hE : ∀ p, E p = true → p < m ∧ fs p < n ∧ sn p < n) (hr : r < n) (h : prim fs sn co E n m r R pa pu de P) (hcl : ∀ p, E p = true → R (fs p) = R (sn p)) (hk : kru fs sn co E n m E lab ch) :
    (∀ v, v < n → (R v = true ↔ conn fs sn E r v)) ∧ ∀ p, p < m → (P p = true ↔ ch p = true ∧ lab (fs p) = lab r) := by
  obtain ⟨p1, p2, p3, p4, p5, p6, p7⟩ := h
  obtain ⟨c1, c2⟩ := kru_end (fun p hp => (hE p hp).2) hr hk
  have hR : ∀ v, v < n → (R v = true ↔ conn fs sn E r v) := fun v hv => ⟨p2 v hv, fun hc => hc (fun x => R x = true) (fun p hp => by show R (fs p) = true ↔ R (sn p) = true; rw [hcl p hp]) p1⟩
  refine ⟨hR, ?_⟩
  have hsub : ∀ p, p < m → P p = true → (ch p && decide (lab (fs p) = lab r)) = true := by
    intro p _ hp
    obtain ⟨q1, q2, q3, q4, q5⟩ := p4 p hp
    have h1 := (hk.2.2.1 p).mpr ⟨q2, q5⟩
    have h2 := (c2 _ (hE p q2).2.1).mpr ((hR _ (hE p q2).2.1).mp q3)
    simp [h1, h2]
  have hcnt : cnt (fun v => decide (lab v = lab r)) n = cnt R n := cnt_congr n (fun v hv => by
    cases hb : R v with
    | true => simp [(c2 v hv).mpr ((hR v hv).mp hb)]
    | false =>
      have : ¬ lab v = lab r := fun q => by
        have := (hR v hv).mpr ((c2 v hv).mp q)
        rw [hb] at this; cases this
      simp [this])
  intro p hp
  constructor
  · intro q
    have := hsub p hp q
    simpa using this
  · rintro ⟨q1, q2⟩
    refine Classical.byContradiction fun hn => ?_
    have := cnt_lt (p := P) (q := fun p => ch p && decide (lab (fs p) = lab r)) m hsub ⟨p, hp, by simp [q1, q2], by simpa using hn⟩
    omega
end
end
section
/-! ===== orders ===== -/
def strict (ah : Nat → Nat → Bool) (n : Nat) : Prop := (∀ a, a < n → ah a a = false) ∧ (∀ a b c, a < n → b < n → c < n → ah a b = true → ah b c = true → ah a c = true) ∧ ∀ a b, a < n → b < n → a ≠ b → ah a b = true ∨ ah b a = true
def rank (ah : Nat → Nat → Bool) (n x : Nat) : Nat := cnt (fun o => decide (o ≠ x) && ah o x) n
section
variable {ah : Nat → Nat → Bool} {n : Nat}
theorem rank_lt1 (h : strict ah n) {x y : Nat} (hx : x < n) (hy : y < n) (hxy : ah x y = true) : rank ah n x < rank ah n y := by
  obtain ⟨h1, h2, h3⟩ := h
  have hne : x ≠ y := fun e => by rw [e, h1 y hy] at hxy; cases hxy
  refine cnt_lt n (fun i hi hp => ?_) ⟨x, hx, by simp [hne, hxy], by simp⟩
  simp only [Bool.and_eq_true, decide_eq_true_eq] at hp ⊢
  refine ⟨fun e => ?_, h2 i x y hi hx hy hp.2 hxy⟩
  have := h2 x i x hx hi hx (by rw [e]; exact hxy) hp.2
  rw [h1 x hx] at this
  cases this
theorem rank_lt (h : strict ah n) {x y : Nat} (hx : x < n) (hy : y < n) : rank ah n x < rank ah n y ↔ ah x y = true := by
  constructor
  · intro hl
    refine Classical.byContradiction fun hn => ?_
    by_cases e : x = y
    · rw [e] at hl; omega
    · have := rank_lt1 h hy hx ((h.2.2 x y hx hy e).resolve_left hn)
      omega
  · exact rank_lt1 h hx hy
theorem rank_inj (h : strict ah n) {x y : Nat} (hx : x < n) (hy : y < n) (e : rank ah n x = rank ah n y) : x = y := by
  refine Classical.byContradiction fun hne => ?_
  rcases h.2.2 x y hx hy hne with q | q
  · have := rank_lt1 h hx hy q; omega
  · have := rank_lt1 h hy hx q; omega
theorem cnt_inj {f : Nat → Nat} (n : Nat) (hf : ∀ x y, x < n → y < n → f x = f y → x = y) : ∀ k, cnt (fun o => decide (f o < k)) n ≤ k
  | 0 => by rw [cnt_zero n (fun i _ => by simp)]; exact Nat.le_refl _
  | k + 1 => by
    have h1 := cnt_inj n hf k
    have h2 : cnt (fun o => decide (f o = k)) n ≤ 1 := by
      rcases Nat.eq_zero_or_pos (cnt (fun o => decide (f o = k)) n) with e | e
      · omega
      · obtain ⟨x, hx, hp⟩ := cnt_ex n e
        have := cnt_one (p := fun o => decide (f o = k)) n x hx hp (fun i hi hq => hf i x hi hx ((of_decide_eq_true hq).trans (of_decide_eq_true hp).symm))
        omega
    have h3 := cnt_split (fun o => decide (f o < k + 1)) (fun o => decide (f o < k)) n
    rw [cnt_congr (p := fun i => decide (f i < k + 1) && decide (f i < k)) (q := fun o => decide (f o < k)) n (fun i _ => by
      by_cases e : f i < k
      · simp [e]; omega
      · simp [e]), cnt_congr (p := fun i => decide (f i < k + 1) && !decide (f i < k)) (q := fun o => decide (f o = k)) n (fun i _ => by
      by_cases e : f i = k
      · simp [e]
      · by_cases e2 : f i < k
        · simp [e2, e]
        · have : ¬ f i < k + 1 := by omega
          simp [e, this])] at h3
    omega
theorem rank_ex (h : strict ah n) {k : Nat} (hk : k < n) : ∃ x, x < n ∧ rank ah n x = k := by
  have hinj : ∀ x y, x < n → y < n → rank ah n x = rank ah n y → x = y := fun x y hx hy e => rank_inj h hx hy e
  have h1 := cnt_inj n hinj k
  have hex : ∃ x, x < n ∧ k ≤ rank ah n x := Classical.byContradiction fun hn => by
    have : cnt (fun o => decide (rank ah n o < k)) n = n := by
      have h2 := cnt_le_n (fun o => decide (rank ah n o < k)) n
      have h3 : cnt (fun _ => true) n ≤ cnt (fun o => decide (rank ah n o < k)) n := cnt_mono n (fun i hi _ => decide_eq_true (Nat.lt_of_not_le fun q => hn ⟨i, hi, q⟩))
      have h4 : ∀ n, cnt (fun _ => true) n = n := by
        intro n
        induction n with
        | zero => rfl
        | succ n ih => rw [cnt, ih, if_pos rfl]
      rw [h4] at h3
      omega
    omega
  obtain ⟨x, hx, hkx, hm⟩ := least_ex (rank ah n) (fun x => k ≤ rank ah n x) n hex
  refine ⟨x, hx, Nat.le_antisymm ?_ hkx⟩
  refine Nat.le_trans (cnt_mono n (fun i hi hp => ?_)) h1
  simp only [Bool.and_eq_true, decide_eq_true_eq] at hp ⊢
  have h2 := rank_lt1 h hi hx hp.2
  refine Nat.lt_of_not_le fun q => ?_
  have := hm i hi q
  omega
theorem rank_lt_n (h : strict ah n) {x : Nat} (hx : x < n) : rank ah n x < n := by
  have h1 := cnt_lt (p := fun o => decide (o ≠ x) && ah o x) (q := fun _ => true) n (fun _ _ _ => rfl) ⟨x, hx, rfl, by simp⟩
  have h2 := cnt_le_n (fun _ => true) n
  unfold rank
  omega
end
/-! ===== groups counted by their first fields; bridges ===== -/
def newc (fs sn : Nat → Nat) (E : Nat → Bool) (v : Nat) : Prop := ∀ u, u < v → ¬ conn fs sn E u v
noncomputable def nGroups (fs sn : Nat → Nat) (E : Nat → Bool) (n : Nat) : Nat := cnt (fun v => @decide (newc fs sn E v) (Classical.propDecidable _)) n
def without (E : Nat → Bool) (p : Nat) : Nat → Bool := fun q => E q && decide (q ≠ p)
section
variable {fs sn : Nat → Nat} {E : Nat → Bool} {n m p : Nat}
theorem without_le {q : Nat} (h : without E p q = true) : E q = true := by
  simp only [without, Bool.and_eq_true] at h
  exact h.1
theorem conn_without (hp : E p = true) {u v : Nat} : conn fs sn E u v ↔ conn fs sn (without E p) u v ∨ (conn fs sn (without E p) u (fs p) ∧ conn fs sn (without E p) (sn p) v) ∨ (conn fs sn (without E p) u (sn p) ∧ conn fs sn (without E p) (fs p) v) :=
  conn_add (p := p) (fun q => by
    by_cases e : q = p
    · simp [without, e, hp]
    · simp [without, e])
theorem first_ex (P : Nat → Prop) : ∀ v, P v → ∃ a, a ≤ v ∧ P a ∧ ∀ u, u < a → ¬ P u
  | 0, h => ⟨0, Nat.le_refl _, h, fun u hu => by omega⟩
  | v + 1, h => by
    by_cases hx : ∃ x, x ≤ v ∧ P x
    · obtain ⟨x, hxv, hx⟩ := hx
      have key : ∀ k, ∀ x, x ≤ k → P x → ∃ a, a ≤ x ∧ P a ∧ ∀ u, u < a → ¬ P u := by
        intro k
        induction k with
        | zero => intro x hx hp; exact ⟨x, Nat.le_refl _, hp, fun u hu => by omega⟩
        | succ k ih =>
          intro x hx hp
          by_cases hy : ∃ y, y < x ∧ P y
          · obtain ⟨y, hy1, hy2⟩ := hy
            obtain ⟨a, a1, a2, a3⟩ := ih y (by omega) hy2
            exact ⟨a, by omega, a2, a3⟩
          · exact ⟨x, Nat.le_refl _, hp, fun u hu hu2 => hy ⟨u, hu, hu2⟩⟩
      obtain ⟨a, a1, a2, a3⟩ := key x x (Nat.le_refl _) hx
      exact ⟨a, by omega, a2, a3⟩
    · exact ⟨v + 1, Nat.le_refl _, h, fun u hu hp => hx ⟨u, by omega, hp⟩⟩
theorem groups_more (hp : E p = true) (h1 : fs p < n) (h2 : sn p < n) : nGroups fs sn E n < nGroups fs sn (without E p) n ↔ ¬ conn fs sn (without E p) (fs p) (sn p) := by
  have mono : ∀ v, newc fs sn E v → newc fs sn (without E p) v := fun v h u hu hc => h u hu (conn_mono (fun _ => without_le) hc)
  constructor
  · intro hl hc
    have e : ∀ u v, conn fs sn E u v ↔ conn fs sn (without E p) u v := fun u v => by
      rw [conn_without hp]
      constructor
      · rintro (q | ⟨q1, q2⟩ | ⟨q1, q2⟩)
        · exact q
        · exact conn_trans q1 (conn_trans hc q2)
        · exact conn_trans q1 (conn_trans (conn_symm hc) q2)
      · exact Or.inl
    have : nGroups fs sn E n = nGroups fs sn (without E p) n := cnt_congr n (fun v _ => by
      have : newc fs sn E v ↔ newc fs sn (without E p) v := by
        unfold newc
        constructor
        · exact fun h u hu hq => h u hu ((e u v).mpr hq)
        · exact fun h u hu hq => h u hu ((e u v).mp hq)
      simp [this])
    omega
  · intro hc
    obtain ⟨a, a1, a2, a3⟩ := first_ex (fun x => conn fs sn (without E p) (fs p) x) (fs p) (conn_refl _)
    obtain ⟨b, b1, b2, b3⟩ := first_ex (fun x => conn fs sn (without E p) (sn p) x) (sn p) (conn_refl _)
    have hab : conn fs sn E a b := (conn_without hp).mpr (Or.inr (Or.inl ⟨conn_symm a2, b2⟩))
    have hne : a ≠ b := fun e => hc (conn_trans a2 (by rw [e]; exact conn_symm b2))
    have na : newc fs sn (without E p) a := fun u hu hq => a3 u hu (conn_trans a2 (conn_symm hq))
    have nb : newc fs sn (without E p) b := fun u hu hq => b3 u hu (conn_trans b2 (conn_symm hq))
    refine cnt_lt n (fun v _ hv => ?_) ?_
    · simp only [decide_eq_true_eq] at hv ⊢
      exact mono v hv
    · rcases Nat.lt_or_gt_of_ne hne with hlt | hlt
      · refine ⟨b, by omega, by simpa using nb, ?_⟩
        simp only [decide_eq_false_iff_not]
        exact fun h => h a hlt hab
      · refine ⟨a, by omega, by simpa using na, ?_⟩
        simp only [decide_eq_false_iff_not]
        exact fun h => h b hlt (conn_symm hab)
/-- a bridge: its ends part without it -/
def isBr (fs sn : Nat → Nat) (E : Nat → Bool) (p : Nat) : Prop := E p = true ∧ ¬ conn fs sn (without E p) (fs p) (sn p)
/-- .. just where one path leaves some set between its ends -/
theorem br_cut (hm : ∀ q, E q = true → q < m) (hp : E p = true) (hne : fs p ≠ sn p) : isBr fs sn E p ↔ ∃ S : Nat → Bool, S (fs p) = true ∧ S (sn p) = false ∧ leav fs sn E m S = 1 := by
  constructor
  · rintro ⟨-, h⟩
    obtain ⟨S, hS, h1, h2⟩ := not_conn h
    have hd : ∀ x, Decidable (S x) := fun x => Classical.propDecidable _
    refine ⟨fun x => decide (S x), by simp [h1], by simp [h2], ?_⟩
    refine cnt_one m p (hm p hp) (by simp [hp, h1, h2]) (fun i _ hi => ?_)
    refine Classical.byContradiction fun hne => ?_
    simp only [Bool.and_eq_true, bne_iff_ne] at hi
    have := hS i (by simp [without, hi.1, hne])
    exact hi.2 (by simp [this])
  · rintro ⟨S, h1, h2, h3⟩
    refine ⟨hp, fun hc => ?_⟩
    have := hc (fun x => S x = true) (fun q hq => ?_) h1
    · rw [h2] at this; cases this
    · have hEq := without_le hq
      have hqp : q ≠ p := by
        simp only [without, Bool.and_eq_true, decide_eq_true_eq] at hq
        exact hq.2
      refine Classical.byContradiction fun hn => hqp ?_
      refine cnt_one_of m q p h3 (hm q hEq) (hm p hp) ?_ (by simp [hp, h1, h2])
      simp only [hEq, Bool.true_and, bne_iff_ne]
      intro e
      exact hn (by show S (fs q) = true ↔ S (sn q) = true; rw [e])
theorem leav_pos (hm : ∀ q, E q = true → q < m) (hp : E p = true) (S : Nat → Bool) (h1 : S (fs p) = true) (h2 : S (sn p) = false) : 1 ≤ leav fs sn E m S :=
  cnt_pos m p (hm p hp) (by simp [hp, h1, h2])
end
end
section
/-! ===== one walk through a group, from s: ent entered (e0: before this walk), A on the way from s to x, num the turn, ear the earliest, arr the path by which, par from where, nxt the next path ===== -/
def run (e0 ent : Nat → Bool) (z : Nat) : Prop := ent z = true ∧ e0 z = false
def ends (fs sn : Nat → Nat) (p a b : Nat) : Prop := (fs p = a ∧ sn p = b) ∨ (sn p = a ∧ fs p = b)
/-- paths at z or at what was entered behind it, but the one by which z was entered -/
def dset (E : Nat → Bool) (fs sn : Nat → Nat) (s : Nat) (ent : Nat → Bool) (num arr : Nat → Nat) (z : Nat) : Nat → Bool := fun p =>
  E p && (decide (z = s) || decide (p ≠ arr z)) && ((ent (fs p) && decide (num z ≤ num (fs p))) || (ent (sn p) && decide (num z ≤ num (sn p))))
theorem dset_t {E : Nat → Bool} {fs sn : Nat → Nat} {s : Nat} {ent : Nat → Bool} {num arr : Nat → Nat} {z p : Nat} : dset E fs sn s ent num arr z p = true ↔ E p = true ∧ (z = s ∨ p ≠ arr z) ∧ ((ent (fs p) = true ∧ num z ≤ num (fs p)) ∨ (ent (sn p) = true ∧ num z ≤ num (sn p))) := by
  simp [dset, and_assoc]
def dfs (fs sn : Nat → Nat) (E : Nat → Bool) (n m s : Nat) (e0 ent A : Nat → Bool) (num ear arr par nxt : Nat → Nat) (x N : Nat) : Prop :=
  (s < n ∧ A s = true ∧ A x = true ∧ ∀ z, A z = true → run e0 ent z) ∧
  ((∀ z, ent z = true → z < n ∧ num z < N) ∧ (∀ y z, ent y = true → ent z = true → num y = num z → y = z) ∧ (∀ z, e0 z = true → ent z = true ∧ num z < num s) ∧ (∀ p, E p = true → e0 (fs p) = e0 (sn p)) ∧ ∀ z, run e0 ent z → num s ≤ num z) ∧
  (∀ z, run e0 ent z → z ≠ s → arr z < m ∧ E (arr z) = true ∧ ends fs sn (arr z) z (par z) ∧ run e0 ent (par z) ∧ num (par z) < num z) ∧
  (∀ a z, A a = true → run e0 ent z → z ≠ s → num a < num z → num a ≤ num (par z)) ∧
  ((∀ z, A z = true → z ≠ s → A (par z) = true) ∧ ∀ z, A z = true → num z ≤ num x) ∧
  (∀ z, run e0 ent z → nxt z ≤ m ∧ (A z = false → nxt z = m ∧ ear (par z) ≤ ear z)) ∧
  (∀ z, run e0 ent z → ∀ p, p < nxt z → E p = true → (z = s ∨ p ≠ arr z) → ∀ y, ends fs sn p z y → ent y = true ∧ ((y ≠ s ∧ arr y = p ∧ par y = z) ∨ ear z ≤ num y)) ∧
  ∀ z, run e0 ent z → ear z ≤ num z ∧ ∃ y, run e0 ent y ∧ num y = ear z ∧ conn fs sn (dset E fs sn s ent num arr z) z y
/-- lst: the last turn when a field was left -/
def dfsL (fs sn : Nat → Nat) (E e0 ent A : Nat → Bool) (num arr : Nat → Nat) (N : Nat) (lst : Nat → Nat) : Prop :=
  (∀ y, run e0 ent y → A y = false → lst y < N) ∧ (∀ y a, run e0 ent y → A y = false → A a = true → num y < num a → lst y < num a) ∧
  ∀ y, run e0 ent y → A y = false → ∀ p, E p = true → p ≠ arr y → ∀ w, ends fs sn p y w → ent w = true ∧ num w ≤ lst y
section
variable {fs sn : Nat → Nat} {E : Nat → Bool} {n m s x N : Nat} {e0 ent A : Nat → Bool} {num ear arr par nxt lst : Nat → Nat}
theorem ends_sym {p a b : Nat} (h : ends fs sn p a b) : ends fs sn p b a := h.elim (fun q => Or.inr ⟨q.2, q.1⟩) (fun q => Or.inl ⟨q.2, q.1⟩)
theorem ends_conn {F : Nat → Bool} {p a b : Nat} (h : ends fs sn p a b) (hp : F p = true) : conn fs sn F a b := by
  rcases h with ⟨rfl, rfl⟩ | ⟨rfl, rfl⟩
  · exact conn_edge hp
  · exact conn_symm (conn_edge hp)
theorem ends_e0 (he : ∀ p, E p = true → e0 (fs p) = e0 (sn p)) {p a b : Nat} (h : ends fs sn p a b) (hp : E p = true) : e0 a = e0 b := by
  rcases h with ⟨rfl, rfl⟩ | ⟨rfl, rfl⟩
  · exact he p hp
  · exact (he p hp).symm
/-- two entered fields don't share a path by which -/
theorem dfs_arr (h : dfs fs sn E n m s e0 ent A num ear arr par nxt x N) {y z : Nat} (hy : run e0 ent y) (hz : run e0 ent z) (hys : y ≠ s) (hzs : z ≠ s) (e : arr y = arr z) : y = z := by
  obtain ⟨-, -, h3, -⟩ := h
  obtain ⟨-, -, a3, -, a5⟩ := h3 y hy hys
  obtain ⟨-, -, b3, -, b5⟩ := h3 z hz hzs
  rw [e] at a3
  rcases a3 with ⟨q1, q2⟩ | ⟨q1, q2⟩ <;> rcases b3 with ⟨r1, r2⟩ | ⟨r1, r2⟩
  · exact q1.symm.trans r1
  · have e1 : y = par z := q1.symm.trans r2
    have e2 : par y = z := q2.symm.trans r1
    rw [e2, e1] at a5; omega
  · have e1 : y = par z := q1.symm.trans r2
    have e2 : par y = z := q2.symm.trans r1
    rw [e2, e1] at a5; omega
  · exact q1.symm.trans r1
/-- the next path leads nowhere -/
theorem dfs_skip (h : dfs fs sn E n m s e0 ent A num ear arr par nxt x N) (hx : nxt x < m) (hn : E (nxt x) = true → (x = s ∨ nxt x ≠ arr x) → ∀ y, ¬ ends fs sn (nxt x) x y) : dfs fs sn E n m s e0 ent A num ear arr par (fun z => if z = x then nxt x + 1 else nxt z) x N := by
  obtain ⟨h1, h2, h3, h4, h5, h6, h7, h8⟩ := h
  refine ⟨h1, h2, h3, h4, h5, fun z hz => ?_, fun z hz p hp hE ha y hy => ?_, h8⟩
  · by_cases e : z = x
    · simp only [if_pos e]
      exact ⟨hx, fun q => by rw [e, h1.2.2.1] at q; cases q⟩
    · simp only [if_neg e]
      exact h6 z hz
  · by_cases e : z = x
    · simp only [if_pos e] at hp
      by_cases e2 : p = nxt x
      · rw [e2] at hE ha hy
        rw [e] at ha hy
        exact (hn hE ha y hy).elim
      · exact h7 z hz p (by rw [e]; omega) hE ha y hy
    · simp only [if_neg e] at hp
      exact h7 z hz p hp hE ha y hy
/-- the next path leads to a field y that was entered already -/
theorem dfs_see (h : dfs fs sn E n m s e0 ent A num ear arr par nxt x N) (hx : nxt x < m) (hE : E (nxt x) = true) (ha : x = s ∨ nxt x ≠ arr x) {y : Nat} (hy : ends fs sn (nxt x) x y) (hey : ent y = true) (hne : fs (nxt x) ≠ sn (nxt x)) :
    dfs fs sn E n m s e0 ent A num (fun z => if z = x then min (ear x) (num y) else ear z) arr par (fun z => if z = x then nxt x + 1 else nxt z) x N := by
  obtain ⟨h1, h2, h3, h4, h5, h6, h7, h8⟩ := h
  have hrx := h1.2.2.2 x h1.2.2.1
  have hry : run e0 ent y := ⟨hey, by rw [← ends_e0 h2.2.2.2.1 hy hE]; exact hrx.2⟩
  have hle : ∀ z, (if z = x then min (ear x) (num y) else ear z) ≤ ear z := fun z => by
    by_cases e : z = x
    · rw [if_pos e, e]; exact Nat.min_le_left _ _
    · simp only [if_neg e]; exact Nat.le_refl _
  refine ⟨h1, h2, h3, h4, h5, fun z hz => ?_, fun z hz p hp hEp hap w hw => ?_, fun z hz => ?_⟩
  · by_cases e : z = x
    · simp only [if_pos e]
      exact ⟨hx, fun q => by rw [e, h1.2.2.1] at q; cases q⟩
    · simp only [if_neg e]
      exact ⟨(h6 z hz).1, fun q => ⟨((h6 z hz).2 q).1, Nat.le_trans (hle _) ((h6 z hz).2 q).2⟩⟩
  · by_cases e : z = x
    · simp only [if_pos e] at hp ⊢
      by_cases e2 : p = nxt x
      · rw [e2, e] at hw
        have : w = y := by
          rcases hy with ⟨q1, q2⟩ | ⟨q1, q2⟩ <;> rcases hw with ⟨r1, r2⟩ | ⟨r1, r2⟩
          · exact r2.symm.trans q2
          · exact (hne (q1.trans r1.symm)).elim
          · exact (hne (r1.trans q1.symm)).elim
          · exact r2.symm.trans q2
        rw [this]
        exact ⟨hey, Or.inr (Nat.min_le_right _ _)⟩
      · obtain ⟨q1, q2⟩ := h7 z hz p (by rw [e]; omega) hEp hap w hw
        refine ⟨q1, ?_⟩
        rcases q2 with ⟨a1, a2, a3⟩ | q
        · exact Or.inl ⟨a1, a2, a3⟩
        · rw [e] at q
          exact Or.inr (Nat.le_trans (Nat.min_le_left _ _) q)
    · simp only [if_neg e] at hp ⊢
      exact h7 z hz p hp hEp hap w hw
  · obtain ⟨g1, w, g2, g3, g4⟩ := h8 z hz
    refine ⟨Nat.le_trans (hle z) g1, ?_⟩
    by_cases e : z = x
    · simp only [if_pos e]
      by_cases e2 : ear x ≤ num y
      · rw [Nat.min_eq_left e2, ← e]
        exact ⟨w, g2, g3, g4⟩
      · rw [Nat.min_eq_right (by omega), e]
        refine ⟨y, hry, rfl, ends_conn hy (dset_t.mpr ⟨hE, ha, ?_⟩)⟩
        rcases hy with ⟨q1, _⟩ | ⟨q1, _⟩
        · exact Or.inl ⟨by rw [q1]; exact hrx.1, by rw [q1]; exact Nat.le_refl _⟩
        · exact Or.inr ⟨by rw [q1]; exact hrx.1, by rw [q1]; exact Nat.le_refl _⟩
    · simp only [if_neg e]
      exact ⟨w, g2, g3, g4⟩
/-- the next path leads to a field y that is entered now -/
theorem dfs_enter (h : dfs fs sn E n m s e0 ent A num ear arr par nxt x N) (hEn : ∀ p, E p = true → p < m ∧ fs p < n ∧ sn p < n ∧ fs p ≠ sn p) (hx : nxt x < m) (hE : E (nxt x) = true) {y : Nat} (hy : ends fs sn (nxt x) x y) (hey : ent y = false) :
    dfs fs sn E n m s e0 (fun z => ent z || decide (z = y)) (fun z => A z || decide (z = y)) (fun z => if z = y then N else num z) (fun z => if z = y then N else ear z) (fun z => if z = y then nxt x else arr z) (fun z => if z = y then x else par z) (fun z => if z = y then 0 else if z = x then nxt x + 1 else nxt z) y (N + 1) := by
  obtain ⟨h1, h2, h3, h4, h5, h6, h7, h8⟩ := h
  have hrx := h1.2.2.2 x h1.2.2.1
  have hrs := h1.2.2.2 s h1.2.1
  have hyn : y < n := by
    obtain ⟨-, q1, q2, -⟩ := hEn _ hE
    rcases hy with ⟨_, rfl⟩ | ⟨_, rfl⟩ <;> assumption
  have hy0 : e0 y = false := by rw [← ends_e0 h2.2.2.2.1 hy hE]; exact hrx.2
  have ney : ∀ z, ent z = true → z ≠ y := fun z hz e => by rw [e, hey] at hz; cases hz
  have hsy : s ≠ y := ney s hrs.1
  have hxy : x ≠ y := ney x hrx.1
  have run' : ∀ z, run e0 (fun z => ent z || decide (z = y)) z → run e0 ent z ∨ z = y := fun z hz => by
    obtain ⟨q1, q2⟩ := hz
    by_cases e : z = y
    · exact Or.inr e
    · exact Or.inl ⟨by simpa [e] using q1, q2⟩
  have runm : ∀ z, run e0 ent z → run e0 (fun z => ent z || decide (z = y)) z := fun z hz => ⟨by simp [hz.1], hz.2⟩
  have numz : ∀ z, ent z = true → num z < N := fun z hz => (h2.1 z hz).2
  have A' : ∀ z, (A z || decide (z = y)) = true → A z = true ∨ z = y := fun z hz => by
    by_cases e : z = y
    · exact Or.inr e
    · exact Or.inl (by simpa [e] using hz)
  have hAy : A y = false := by
    cases hb : A y with
    | false => rfl
    | true => have := (h1.2.2.2 y hb).1; rw [hey] at this; cases this
  refine ⟨⟨h1.1, by simp [h1.2.1], by simp, fun z hz => ?_⟩, ⟨fun z hz => ?_, fun a b ha hb e => ?_, fun z hz => ?_, h2.2.2.2.1, fun z hz => ?_⟩, fun z hz hzs => ?_, fun a z ha hz hzs hl => ?_, ⟨fun z hz hzs => ?_, fun z hz => ?_⟩, fun z hz => ?_, fun z hz p hp hEp hap w hw => ?_, fun z hz => ?_⟩
  · rcases A' z hz with q | q
    · exact runm z (h1.2.2.2 z q)
    · exact ⟨by simp [q], by rw [q]; exact hy0⟩
  · by_cases e : z = y
    · simp only [if_pos e]; exact ⟨by rw [e]; exact hyn, by omega⟩
    · simp only [if_neg e]
      have := h2.1 z (by simpa [e] using hz)
      exact ⟨this.1, by omega⟩
  · by_cases ea : a = y <;> by_cases eb : b = y
    · rw [ea, eb]
    · simp only [if_pos ea, if_neg eb] at e
      have := numz b (by simpa [eb] using hb); omega
    · simp only [if_neg ea, if_pos eb] at e
      have := numz a (by simpa [ea] using ha); omega
    · simp only [if_neg ea, if_neg eb] at e
      exact h2.2.1 a b (by simpa [ea] using ha) (by simpa [eb] using hb) e
  · have q := h2.2.2.1 z hz
    simp only [if_neg (ney z q.1), if_neg hsy]
    exact ⟨by simp [q.1], q.2⟩
  · rcases run' z hz with q | q
    · simp only [if_neg (ney z q.1), if_neg hsy]
      exact h2.2.2.2.2 z q
    · simp only [if_pos q, if_neg hsy]
      have := numz s hrs.1; omega
  · rcases run' z hz with q | q
    · obtain ⟨q1, q2, q3, q4, q5⟩ := h3 z q hzs
      simp only [if_neg (ney z q.1), if_neg (ney _ q4.1)]
      exact ⟨q1, q2, q3, runm _ q4, q5⟩
    · simp only [if_pos q, if_neg hxy]
      refine ⟨hx, hE, ?_, runm _ hrx, numz x hrx.1⟩
      rw [q]; exact ends_sym hy
  · rcases run' z hz with q | q
    · have q4 := (h3 z q hzs).2.2.2.1
      simp only [if_neg (ney z q.1), if_neg (ney _ q4.1)] at hl ⊢
      rcases A' a ha with r | r
      · simp only [if_neg (ney a (h1.2.2.2 a r).1)] at hl ⊢
        exact h4 a z r q hzs hl
      · simp only [if_pos r] at hl
        have := numz z q.1; omega
    · simp only [if_pos q, if_neg hxy] at hl ⊢
      rcases A' a ha with r | r
      · simp only [if_neg (ney a (h1.2.2.2 a r).1)] at hl ⊢
        exact h5.2 a r
      · simp only [if_pos r] at hl
        omega
  · rcases A' z hz with q | q
    · simp only [if_neg (ney z (h1.2.2.2 z q).1)]
      simp [h5.1 z q hzs]
    · simp only [if_pos q]
      simp [h1.2.2.1]
  · rcases A' z hz with q | q
    · simp only [if_neg (ney z (h1.2.2.2 z q).1), if_pos]
      have := numz z (h1.2.2.2 z q).1; omega
    · simp [q]
  · rcases run' z hz with q | q
    · have e := ney z q.1
      simp only [if_neg e]
      by_cases ex : z = x
      · simp only [if_pos ex]
        exact ⟨hx, fun r => by rw [ex] at r; simp [h1.2.2.1] at r⟩
      · simp only [if_neg ex]
        refine ⟨(h6 z q).1, fun r => ?_⟩
        have r' : A z = false := by
          simp only [Bool.or_eq_false_iff] at r
          exact r.1
        obtain ⟨g1, g2⟩ := (h6 z q).2 r'
        have hzs : z ≠ s := fun es => by rw [es, h1.2.1] at r'; cases r'
        simp only [if_neg (ney _ (h3 z q hzs).2.2.2.1.1)]
        exact ⟨g1, g2⟩
    · simp only [if_pos q]
      exact ⟨Nat.zero_le _, fun r => by rw [q] at r; simp at r⟩
  · rcases run' z hz with q | q
    · have e := ney z q.1
      simp only [if_neg e] at hp hap ⊢
      have old : p < nxt z → ((ent w || decide (w = y)) = true ∧ ((w ≠ s ∧ (if w = y then nxt x else arr w) = p ∧ (if w = y then x else par w) = z) ∨ ear z ≤ if w = y then N else num w)) := by
        intro hp'
        obtain ⟨g1, g2⟩ := h7 z q p hp' hEp hap w hw
        simp only [if_neg (ney w g1)]
        exact ⟨by simp [g1], g2⟩
      by_cases ex : z = x
      · simp only [if_pos ex] at hp
        by_cases e2 : p = nxt x
        · have hwy : w = y := by
            have hne := (hEn _ hE).2.2.2
            rw [e2, ex] at hw
            rcases hy with ⟨q1, q2⟩ | ⟨q1, q2⟩ <;> rcases hw with ⟨r1, r2⟩ | ⟨r1, r2⟩
            · exact r2.symm.trans q2
            · exact (hne (q1.trans r1.symm)).elim
            · exact (hne (r1.trans q1.symm)).elim
            · exact r2.symm.trans q2
          refine ⟨by simp [hwy], Or.inl ⟨by rw [hwy]; exact Ne.symm hsy, by simp [hwy, e2], by simp [hwy, ex]⟩⟩
        · exact old (by rw [ex]; omega)
      · simp only [if_neg ex] at hp
        exact old hp
    · simp only [if_pos q] at hp
      omega
  · have dm : ∀ z, run e0 ent z → ∀ p, dset E fs sn s ent num arr z p = true → dset E fs sn s (fun z => ent z || decide (z = y)) (fun z => if z = y then N else num z) (fun z => if z = y then nxt x else arr z) z p = true := by
      intro z hz p hp
      obtain ⟨d1, d2, d3⟩ := dset_t.mp hp
      refine dset_t.mpr ⟨d1, ?_, ?_⟩
      · simp only [if_neg (ney z hz.1)]; exact d2
      · simp only [if_neg (ney z hz.1)]
        rcases d3 with ⟨d4, d5⟩ | ⟨d4, d5⟩
        · exact Or.inl ⟨by simp [d4], by simp only [if_neg (ney _ d4)]; exact d5⟩
        · exact Or.inr ⟨by simp [d4], by simp only [if_neg (ney _ d4)]; exact d5⟩
    rcases run' z hz with q | q
    · obtain ⟨g1, w, g2, g3, g4⟩ := h8 z q
      simp only [if_neg (ney z q.1)]
      exact ⟨g1, w, runm w g2, by simp only [if_neg (ney w g2.1)]; exact g3, conn_mono (dm z q) g4⟩
    · simp only [if_pos q]
      exact ⟨Nat.le_refl _, y, ⟨by simp, hy0⟩, by simp, by rw [q]; exact conn_refl y⟩
/-- all paths of x are done: back to where it was entered from -/
theorem dfs_back (h : dfs fs sn E n m s e0 ent A num ear arr par nxt x N) (hx : nxt x = m) (hxs : x ≠ s) :
    dfs fs sn E n m s e0 ent (fun z => A z && decide (z ≠ x)) num (fun z => if z = par x then min (ear (par x)) (ear x) else ear z) arr par nxt (par x) N := by
  obtain ⟨h1, h2, h3, h4, h5, h6, h7, h8⟩ := h
  have hrx := h1.2.2.2 x h1.2.2.1
  obtain ⟨a1, a2, a3, a4, a5⟩ := h3 x hrx hxs
  have hpx : par x ≠ x := fun e => by rw [e] at a5; omega
  have hApx := h5.1 x h1.2.2.1 hxs
  have A' : ∀ z, (A z && decide (z ≠ x)) = true → A z = true ∧ z ≠ x := fun z hz => by simpa using hz
  have hle : ∀ z, (if z = par x then min (ear (par x)) (ear x) else ear z) ≤ ear z := fun z => by
    by_cases e : z = par x
    · rw [if_pos e, e]; exact Nat.min_le_left _ _
    · simp only [if_neg e]; exact Nat.le_refl _
  refine ⟨⟨h1.1, by simp [h1.2.1, Ne.symm hxs], by simp [hApx, hpx], fun z hz => h1.2.2.2 z (A' z hz).1⟩, h2, h3, fun a z ha hz hzs hl => h4 a z (A' a ha).1 hz hzs hl, ⟨fun z hz hzs => ?_, fun z hz => ?_⟩, fun z hz => ⟨(h6 z hz).1, fun hA => ?_⟩, fun z hz p hp hEp hap w hw => ?_, fun z hz => ?_⟩
  · obtain ⟨q1, q2⟩ := A' z hz
    have q3 := h5.1 z q1 hzs
    have q4 : par z ≠ x := fun e => by
      have := (h3 z (h1.2.2.2 z q1) hzs).2.2.2.2
      have := h5.2 z q1
      rw [e] at *; omega
    simp [q3, q4]
  · obtain ⟨q1, q2⟩ := A' z hz
    have q3 := h5.2 z q1
    have q4 : num z < num x := Nat.lt_of_le_of_ne q3 (fun e => q2 (h2.2.1 z x (h1.2.2.2 z q1).1 hrx.1 e))
    exact h4 z x q1 hrx hxs q4
  · by_cases e : z = x
    · rw [e]
      refine ⟨hx, ?_⟩
      simp only [if_true, if_neg (Ne.symm hpx)]
      exact Nat.min_le_right _ _
    · have hA' : A z = false := by
        cases hb : A z with
        | false => rfl
        | true => simp [hb, e] at hA
      obtain ⟨g1, g2⟩ := (h6 z hz).2 hA'
      refine ⟨g1, ?_⟩
      have e2 : z ≠ par x := fun e2 => by rw [e2, hApx] at hA'; cases hA'
      simp only [if_neg e2]
      exact Nat.le_trans (hle _) g2
  · obtain ⟨g1, g2⟩ := h7 z hz p hp hEp hap w hw
    refine ⟨g1, ?_⟩
    rcases g2 with g | g
    · exact Or.inl g
    · exact Or.inr (Nat.le_trans (hle z) g)
  · obtain ⟨g1, w, g2, g3, g4⟩ := h8 z hz
    refine ⟨Nat.le_trans (hle z) g1, ?_⟩
    by_cases e : z = par x
    · simp only [if_pos e]
      by_cases e2 : ear (par x) ≤ ear x
      · rw [Nat.min_eq_left e2, ← e]
        exact ⟨w, g2, g3, g4⟩
      · rw [Nat.min_eq_right (by omega), e]
        obtain ⟨_, w2, k2, k3, k4⟩ := h8 x hrx
        refine ⟨w2, k2, k3, ?_⟩
        -- the paths behind x are behind its parent too
        have low : ∀ q, (q = par x ∨ (par x ≠ s ∧ q = par (par x))) → run e0 ent q ∧ num q < num x := by
          rintro q (rfl | ⟨q1, rfl⟩)
          · exact ⟨a4, a5⟩
          · obtain ⟨-, -, -, c4, c5⟩ := h3 _ a4 q1
            exact ⟨c4, by omega⟩
        have sub : ∀ p, dset E fs sn s ent num arr x p = true → dset E fs sn s ent num arr (par x) p = true := by
          intro p hp
          obtain ⟨d1, d2, d3⟩ := dset_t.mp hp
          refine dset_t.mpr ⟨d1, ?_, ?_⟩
          · by_cases es : par x = s
            · exact Or.inl es
            · refine Or.inr fun ep => ?_
              obtain ⟨-, -, c3, c4, c5⟩ := h3 _ a4 es
              rw [← ep] at c3
              have : num (fs p) < num x ∧ num (sn p) < num x := by
                rcases c3 with ⟨r1, r2⟩ | ⟨r1, r2⟩
                · rw [r1, r2]; omega
                · rw [r1, r2]; omega
              rcases d3 with ⟨_, d5⟩ | ⟨_, d5⟩ <;> omega
          · rcases d3 with ⟨d4, d5⟩ | ⟨d4, d5⟩
            · exact Or.inl ⟨d4, by omega⟩
            · exact Or.inr ⟨d4, by omega⟩
        refine conn_trans (ends_conn (ends_sym a3) (dset_t.mpr ⟨a2, ?_, ?_⟩)) (conn_mono sub k4)
        · by_cases es : par x = s
          · exact Or.inl es
          · refine Or.inr fun ep => ?_
            obtain ⟨-, -, c3, c4, c5⟩ := h3 _ a4 es
            rw [← ep] at c3
            rcases a3 with ⟨r1, r2⟩ | ⟨r1, r2⟩ <;> rcases c3 with ⟨t1, t2⟩ | ⟨t1, t2⟩
            · exact hpx (t1.symm.trans r1)
            · have e9 : par (par x) = x := t2.symm.trans r1
              rw [e9] at c5; omega
            · have e9 : par (par x) = x := t2.symm.trans r1
              rw [e9] at c5; omega
            · exact hpx (t1.symm.trans r1)
        · rcases a3 with ⟨r1, r2⟩ | ⟨r1, r2⟩
          · exact Or.inl ⟨by rw [r1]; exact hrx.1, by rw [r1]; omega⟩
          · exact Or.inr ⟨by rw [r1]; exact hrx.1, by rw [r1]; omega⟩
    · simp only [if_neg e]
      exact ⟨w, g2, g3, g4⟩
/-- all entered in this walk hang together by the paths by which -/
theorem dfs_tree (h : dfs fs sn E n m s e0 ent A num ear arr par nxt x N) (F : Nat → Bool) : ∀ k z, run e0 ent z → num z ≤ k → (∀ y, run e0 ent y → y ≠ s → num y ≤ k → F (arr y) = true) → conn fs sn F s z := by
  intro k
  induction k with
  | zero =>
    intro z hz hk hF
    have hs := h.1.2.2.2 s h.1.2.1
    have : num s ≤ num z := h.2.1.2.2.2.2 z hz
    rw [h.2.1.2.1 s z hs.1 hz.1 (by omega)]
    exact conn_refl z
  | succ k ih =>
    intro z hz hk hF
    by_cases e : z = s
    · rw [e]; exact conn_refl s
    · obtain ⟨a1, a2, a3, a4, a5⟩ := h.2.2.1 z hz e
      exact conn_trans (ih (par z) a4 (by omega) (fun y hy hys hk => hF y hy hys (by omega))) (ends_conn (ends_sym a3) (hF z hz e hk))
/-- when x is left: its path is a bridge just if nothing behind it leads back ahead of it -/
theorem dfs_br (h : dfs fs sn E n m s e0 ent A num ear arr par nxt x N) (hL : dfsL fs sn E e0 ent A num arr N lst) (hx : nxt x = m) (hxs : x ≠ s) (hEn : ∀ p, E p = true → p < m ∧ fs p < n ∧ sn p < n ∧ fs p ≠ sn p) : isBr fs sn E (arr x) ↔ num (par x) < ear x := by
  have hh := h
  obtain ⟨h1, h2, h3, h4, h5, h6, h7, h8⟩ := h
  have hrx := h1.2.2.2 x h1.2.2.1
  obtain ⟨a1, a2, a3, a4, a5⟩ := h3 x hrx hxs
  have hends : conn fs sn (without E (arr x)) (fs (arr x)) (sn (arr x)) ↔ conn fs sn (without E (arr x)) (par x) x := by
    rcases a3 with ⟨r1, r2⟩ | ⟨r1, r2⟩
    · rw [r1, r2]; exact ⟨conn_symm, conn_symm⟩
    · rw [r1, r2]
  unfold isBr
  rw [hends]
  constructor
  · rintro ⟨-, hc⟩
    refine Classical.byContradiction fun hn => hc ?_
    obtain ⟨g1, y, g2, g3, g4⟩ := h8 x hrx
    have c1 : conn fs sn (without E (arr x)) x y := conn_mono (fun p hp => by
      obtain ⟨d1, d2, d3⟩ := dset_t.mp hp
      have : p ≠ arr x := d2.resolve_left hxs
      simp [without, d1, this]) g4
    have c2 : ∀ z, run e0 ent z → num z ≤ num (par x) → conn fs sn (without E (arr x)) s z := fun z hz hk => dfs_tree hh _ (num (par x)) z hz hk (fun w hw hws hk => by
      have hne : arr w ≠ arr x := fun e => by
        have := dfs_arr hh hw hrx hws hxs e
        rw [this] at hk; omega
      simp [without, (h3 w hw hws).2.1, hne])
    exact conn_trans (conn_symm (c2 (par x) a4 (Nat.le_refl _))) (conn_trans (c2 y g2 (by omega)) (conn_symm c1))
  · intro hl
    refine ⟨a2, fun hc => ?_⟩
    -- what was entered from x on
    have hS : ∀ k z, run e0 ent z → num z ≤ k → num x ≤ num z → ear x ≤ ear z := by
      intro k
      induction k with
      | zero =>
        intro z hz hk hxz
        rw [h2.2.1 x z hrx.1 hz.1 (by omega)]; exact Nat.le_refl _
      | succ k ih =>
        intro z hz hk hxz
        by_cases e : z = x
        · rw [e]; exact Nat.le_refl _
        · have hlt : num x < num z := Nat.lt_of_le_of_ne hxz (fun q => e (h2.2.1 z x hz.1 hrx.1 q.symm))
          have hzs : z ≠ s := fun q => by
            have := h2.2.2.2.2 x hrx
            rw [q] at hlt; omega
          have hA : A z = false := by
            cases hb : A z with
            | false => rfl
            | true => have := h5.2 z hb; omega
          obtain ⟨b1, b2, b3, b4, b5⟩ := h3 z hz hzs
          exact Nat.le_trans (ih (par z) b4 (by omega) (h4 x z h1.2.2.1 hz hzs hlt)) ((h6 z hz).2 hA).2
    have key : ∀ p z y, without E (arr x) p = true → ends fs sn p z y → run e0 ent z → num x ≤ num z → run e0 ent y ∧ num x ≤ num y := by
      intro p z y hp hpe hz hxz
      have hpE := without_le hp
      have hpx : p ≠ arr x := by
        simp only [without, Bool.and_eq_true, decide_eq_true_eq] at hp
        exact hp.2
      have hzs : z ≠ s := fun q => by
        have e1 := h2.2.2.2.2 x hrx
        rw [q] at hxz
        exact hxs (h2.2.1 x s hrx.1 (h1.2.2.2 s h1.2.1).1 (by omega))
      have hnx : nxt z = m := by
        by_cases e : z = x
        · rw [e]; exact hx
        · have hA : A z = false := by
            cases hb : A z with
            | false => rfl
            | true =>
              have := h5.2 z hb
              exact (e (h2.2.1 z x hz.1 hrx.1 (by omega))).elim
          exact ((h6 z hz).2 hA).1
      by_cases ep : p = arr z
      · have ezx : z ≠ x := fun q => hpx (by rw [ep, q])
        have hlt : num x < num z := Nat.lt_of_le_of_ne hxz (fun q => ezx (h2.2.1 z x hz.1 hrx.1 q.symm))
        obtain ⟨b1, b2, b3, b4, b5⟩ := h3 z hz hzs
        have : y = par z := by
          have hne := (hEn _ hpE).2.2.2
          rw [ep] at hpe hne
          rcases hpe with ⟨q1, q2⟩ | ⟨q1, q2⟩ <;> rcases b3 with ⟨r1, r2⟩ | ⟨r1, r2⟩
          · exact q2.symm.trans r2
          · exact (hne (q1.trans r1.symm)).elim
          · exact (hne (r1.trans q1.symm)).elim
          · exact q2.symm.trans r2
        rw [this]
        exact ⟨b4, h4 x z h1.2.2.1 hz hzs hlt⟩
      · obtain ⟨g1, g2⟩ := h7 z hz p (by rw [hnx]; exact (hEn p hpE).1) hpE (Or.inr ep) y hpe
        have hry : run e0 ent y := ⟨g1, by rw [← ends_e0 h2.2.2.2.1 hpe hpE]; exact hz.2⟩
        have ney1 : z ≠ y := fun e => by
          have hne := (hEn _ hpE).2.2.2
          rw [e] at hpe
          rcases hpe with ⟨q1, q2⟩ | ⟨q1, q2⟩
          · exact hne (q1.trans q2.symm)
          · exact hne (q2.trans q1.symm)
        refine ⟨hry, ?_⟩
        rcases g2 with ⟨q1, q2, q3⟩ | q
        · have := (h3 y hry q1).2.2.2.2
          rw [q3] at this; omega
        · have e1 := hS (num z) z hz (Nat.le_refl _) hxz
          refine Nat.le_of_not_lt fun hlt => ?_
          have e2 : num (par x) < num y := by omega
          cases hAy : A y with
          | true =>
            have := h4 y x hAy hrx hxs hlt
            omega
          | false =>
            have e3 := hL.2.1 y x hry hAy h1.2.2.1 hlt
            have e4 : p ≠ arr y := fun e => by
              have eys : y ≠ s := fun q => by
                have := h2.2.2.2.2 (par x) a4
                rw [q] at e2; omega
              obtain ⟨-, -, b3, -, b5⟩ := h3 y hry eys
              have hne := (hEn _ hpE).2.2.2
              rw [← e] at b3
              have : z = par y := by
                rcases hpe with ⟨q1, q2⟩ | ⟨q1, q2⟩ <;> rcases b3 with ⟨r1, r2⟩ | ⟨r1, r2⟩
                · exact (ney1 (q1.symm.trans r1)).elim
                · exact q1.symm.trans r2
                · exact q1.symm.trans r2
                · exact (ney1 (q1.symm.trans r1)).elim
              rw [← this] at b5
              omega
            have := (hL.2.2 y hry hAy p hpE e4 z (ends_sym hpe)).2
            omega
    have hfin := hc (fun z => ¬ (run e0 ent z ∧ num x ≤ num z)) (fun p hp => by
      constructor
      · intro q1 q2
        exact q1 (key p (sn p) (fs p) hp (Or.inr ⟨rfl, rfl⟩) q2.1 q2.2)
      · intro q1 q2
        exact q1 (key p (fs p) (sn p) hp (Or.inl ⟨rfl, rfl⟩) q2.1 q2.2)) (fun q => by omega)
    exact hfin ⟨hrx, Nat.le_refl _⟩
theorem dfsL_enter {y : Nat} (h : dfs fs sn E n m s e0 ent A num ear arr par nxt x N) (hL : dfsL fs sn E e0 ent A num arr N lst) (hey : ent y = false) (q : Nat) :
    dfsL fs sn E e0 (fun z => ent z || decide (z = y)) (fun z => A z || decide (z = y)) (fun z => if z = y then N else num z) (fun z => if z = y then q else arr z) (N + 1) lst := by
  have ney : ∀ z, ent z = true → z ≠ y := fun z hz e => by rw [e, hey] at hz; cases hz
  have old : ∀ z, run e0 (fun z => ent z || decide (z = y)) z → (A z || decide (z = y)) = false → run e0 ent z ∧ A z = false ∧ z ≠ y := fun z hz hA => by
    simp only [Bool.or_eq_false_iff, decide_eq_false_iff_not] at hA
    exact ⟨⟨by simpa [hA.2] using hz.1, hz.2⟩, hA.1, hA.2⟩
  refine ⟨fun z hz hA => ?_, fun z a hz hA ha hl => ?_, fun z hz hA p hp hpz w hw => ?_⟩
  · obtain ⟨q1, q2, q3⟩ := old z hz hA
    have := hL.1 z q1 q2; omega
  · obtain ⟨q1, q2, q3⟩ := old z hz hA
    simp only [if_neg q3] at hl
    by_cases e : a = y
    · simp only [if_pos e]
      exact hL.1 z q1 q2
    · simp only [if_neg e] at hl ⊢
      exact hL.2.1 z a q1 q2 (by simpa [e] using ha) hl
  · obtain ⟨q1, q2, q3⟩ := old z hz hA
    simp only [if_neg q3] at hpz
    obtain ⟨g1, g2⟩ := hL.2.2 z q1 q2 p hp hpz w hw
    simp only [if_neg (ney w g1)]
    exact ⟨by simp [g1], g2⟩
theorem dfsL_back (h : dfs fs sn E n m s e0 ent A num ear arr par nxt x N) (hL : dfsL fs sn E e0 ent A num arr N lst) (hEn : ∀ p, E p = true → p < m ∧ fs p < n ∧ sn p < n ∧ fs p ≠ sn p) (hx : nxt x = m) :
    dfsL fs sn E e0 ent (fun z => A z && decide (z ≠ x)) num arr N (fun z => if z = x then N - 1 else lst z) := by
  obtain ⟨h1, h2, h3, h4, h5, h6, h7, h8⟩ := h
  have hrx := h1.2.2.2 x h1.2.2.1
  have hN : 0 < N := by have := (h2.1 x hrx.1).2; omega
  have A' : ∀ z, z ≠ x → (A z && decide (z ≠ x)) = false → A z = false := fun z e hz => by simpa [e] using hz
  refine ⟨fun z hz hA => ?_, fun z a hz hA ha hl => ?_, fun z hz hA p hp hpz w hw => ?_⟩
  · by_cases e : z = x
    · simp only [if_pos e]; omega
    · simp only [if_neg e]; exact hL.1 z hz (A' z e hA)
  · have ha' : A a = true := by
      simp only [Bool.and_eq_true] at ha
      exact ha.1
    by_cases e : z = x
    · have := h5.2 a ha'
      rw [e] at hl; omega
    · simp only [if_neg e]; exact hL.2.1 z a hz (A' z e hA) ha' hl
  · by_cases e : z = x
    · simp only [if_pos e]
      have := (h7 z hz p (by rw [e, hx]; exact (hEn p hp).1) hp (Or.inr hpz) w hw).1
      have := (h2.1 w this).2
      exact ⟨by assumption, by omega⟩
    · simp only [if_neg e]; exact hL.2.2 z hz (A' z e hA) p hp hpz w hw
/-- the walk's begin -/
theorem dfs_start (hs : s < n) (he : ent s = false) (h1 : ∀ z, ent z = true → z < n ∧ num z < N) (h2 : ∀ y z, ent y = true → ent z = true → num y = num z → y = z) (h3 : ∀ p, E p = true → ent (fs p) = ent (sn p)) :
    dfs fs sn E n m s ent (fun z => ent z || decide (z = s)) (fun z => decide (z = s)) (fun z => if z = s then N else num z) (fun z => if z = s then N else ear z) arr par (fun z => if z = s then 0 else nxt z) s (N + 1) ∧
    dfsL fs sn E ent (fun z => ent z || decide (z = s)) (fun z => decide (z = s)) (fun z => if z = s then N else num z) arr (N + 1) (fun _ => 0) := by
  have nes : ∀ z, ent z = true → z ≠ s := fun z hz e => by rw [e, he] at hz; cases hz
  have rs : ∀ z, run ent (fun z => ent z || decide (z = s)) z → z = s := fun z hz => by
    obtain ⟨q1, q2⟩ := hz
    simpa [q2] using q1
  have rss : run ent (fun z => ent z || decide (z = s)) s := ⟨by simp, he⟩
  refine ⟨⟨⟨hs, by simp, by simp, fun z hz => by rw [of_decide_eq_true hz]; exact rss⟩, ⟨fun z hz => ?_, fun y z hy hz e => ?_, fun z hz => ?_, h3, fun z hz => by rw [rs z hz]; exact Nat.le_refl _⟩, fun z hz hzs => (hzs (rs z hz)).elim, fun a z ha hz hzs _ => (hzs (rs z hz)).elim, ⟨fun z hz hzs => (hzs (of_decide_eq_true hz)).elim, fun z hz => by rw [of_decide_eq_true hz]; exact Nat.le_refl _⟩, fun z hz => ?_, fun z hz p hp => ?_, fun z hz => ?_⟩, ⟨fun y hy hA => ?_, fun y a hy hA => ?_, fun y hy hA => ?_⟩⟩
  · by_cases e : z = s
    · simp only [if_pos e]; exact ⟨by rw [e]; exact hs, by omega⟩
    · simp only [if_neg e]
      have := h1 z (by simpa [e] using hz)
      exact ⟨this.1, by omega⟩
  · by_cases ea : y = s <;> by_cases eb : z = s
    · rw [ea, eb]
    · simp only [if_pos ea, if_neg eb] at e
      have := h1 z (by simpa [eb] using hz); omega
    · simp only [if_neg ea, if_pos eb] at e
      have := h1 y (by simpa [ea] using hy); omega
    · simp only [if_neg ea, if_neg eb] at e
      exact h2 y z (by simpa [ea] using hy) (by simpa [eb] using hz) e
  · have := h1 z hz
    simp only [if_neg (nes z hz), if_true]
    exact ⟨by simp [hz], this.2⟩
  · have e := rs z hz
    simp only [if_pos e]
    exact ⟨Nat.zero_le _, fun q => by rw [e] at q; simp at q⟩
  · have e := rs z hz
    simp only [if_pos e] at hp
    omega
  · have e := rs z hz
    simp only [if_pos e]
    exact ⟨Nat.le_refl _, s, rss, by simp, by rw [e]; exact conn_refl s⟩
  · rw [rs y hy] at hA; simp at hA
  · rw [rs y hy] at hA; simp at hA
  · rw [rs y hy] at hA; simp at hA
/-- the walk's end: what was entered is closed, and no path of it that isn't some field's is a bridge -/
theorem dfs_end (h : dfs fs sn E n m s e0 ent A num ear arr par nxt s N) (hEn : ∀ p, E p = true → p < m ∧ fs p < n ∧ sn p < n ∧ fs p ≠ sn p) (hx : nxt s = m) :
    (∀ p, E p = true → ent (fs p) = ent (sn p)) ∧ (∀ z, A z = true → z = s) ∧ ∀ p, isBr fs sn E p → run e0 ent (fs p) → ∃ z, run e0 ent z ∧ z ≠ s ∧ A z = false ∧ arr z = p := by
  have hh := h
  obtain ⟨h1, h2, h3, h4, h5, h6, h7, h8⟩ := h
  have hrs := h1.2.2.2 s h1.2.1
  have hA : ∀ z, A z = true → z = s := fun z hz => by
    have q1 := h1.2.2.2 z hz
    have q2 := h5.2 z hz
    have q3 := h2.2.2.2.2 z q1
    exact h2.2.1 z s q1.1 hrs.1 (by omega)
  have hnx : ∀ z, run e0 ent z → nxt z = m := fun z hz => by
    cases hb : A z with
    | true => rw [hA z hb]; exact hx
    | false => exact ((h6 z hz).2 hb).1
  have key : ∀ p z y, E p = true → ends fs sn p z y → run e0 ent z → run e0 ent y := fun p z y hp hpe hz => by
    refine ⟨?_, by rw [← ends_e0 h2.2.2.2.1 hpe hp]; exact hz.2⟩
    by_cases ha : z = s ∨ p ≠ arr z
    · exact (h7 z hz p (by rw [hnx z hz]; exact (hEn p hp).1) hp ha y hpe).1
    · have ezs : z ≠ s := fun e => ha (Or.inl e)
      have ep : p = arr z := Classical.byContradiction fun e => ha (Or.inr e)
      obtain ⟨b1, b2, b3, b4, b5⟩ := h3 z hz ezs
      have hne := (hEn _ hp).2.2.2
      rw [← ep] at b3
      have : y = par z := by
        rcases hpe with ⟨q1, q2⟩ | ⟨q1, q2⟩ <;> rcases b3 with ⟨r1, r2⟩ | ⟨r1, r2⟩
        · exact q2.symm.trans r2
        · exact (hne (q1.trans r1.symm)).elim
        · exact (hne (r1.trans q1.symm)).elim
        · exact q2.symm.trans r2
      rw [this]; exact b4.1
  refine ⟨fun p hp => ?_, hA, fun p hp hr => ?_⟩
  · have e := h2.2.2.2.1 p hp
    cases h0 : e0 (fs p) with
    | true =>
      rw [h0] at e
      rw [(h2.2.2.1 _ h0).1, (h2.2.2.1 _ e.symm).1]
    | false =>
      rw [h0] at e
      cases h9 : ent (fs p) with
      | true => exact (key p (fs p) (sn p) hp (Or.inl ⟨rfl, rfl⟩) ⟨h9, h0⟩).1.symm
      | false =>
        cases h10 : ent (sn p) with
        | false => rfl
        | true =>
          have := (key p (sn p) (fs p) hp (Or.inr ⟨rfl, rfl⟩) ⟨h10, e.symm⟩).1
          rw [h9] at this; cases this
  · refine Classical.byContradiction fun hn => hp.2 ?_
    have tr : ∀ z, run e0 ent z → conn fs sn (without E p) s z := fun z hz => dfs_tree hh _ (num z) z hz (Nat.le_refl _) (fun y hy hys _ => by
      have q1 := (h3 y hy hys).2.1
      have q2 : arr y ≠ p := fun e => hn ⟨y, hy, hys, by
        cases hb : A y with
        | false => rfl
        | true => exact (hys (hA y hb)).elim, e⟩
      simp [without, q1, q2])
    have hr2 := key p (fs p) (sn p) hp.1 (Or.inl ⟨rfl, rfl⟩) hr
    exact conn_trans (conn_symm (tr _ hr)) (tr _ hr2)
end
end
