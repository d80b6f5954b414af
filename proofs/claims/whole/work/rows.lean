section
/-! ===== BEGIN words of one list among another's, by their places ===== -/
theorem goodIn_r {big : List Cond} (ws : List Cond) (ps : List Nat) (hp : ws = ps.filterMap (fun i => big[i]?)) (h : ws.all goodWord = true) : GoodIn big ws := by
  intro w hw
  have h1 := List.all_eq_true.mp h w hw
  rw [hp] at hw
  obtain ⟨i, -, hi⟩ := List.mem_filterMap.mp hw
  have hm : w ∈ big := by first | exact List.mem_of_getElem? hi | exact List.getElem?_mem hi
  exact ⟨hm, good_of_word h1⟩
theorem goodIn_app {big a b : List Cond} (ha : GoodIn big a) (hb : GoodIn big b) : GoodIn big (a ++ b) := fun w h => (List.mem_append.mp h).elim (ha w) (hb w)
theorem goodIn_ca {big a b : List Cond} {c : Cond} (ha : GoodIn big (c :: a)) (hb : GoodIn big b) : GoodIn big (c :: (a ++ b)) := fun w h => (List.mem_cons.mp h).elim (fun e => ha w (List.mem_cons.mpr (Or.inl e))) (fun h => (List.mem_append.mp h).elim (fun h => ha w (List.mem_cons.mpr (Or.inr h))) (hb w))
theorem goodIn_sub {big ws : List Cond} (hm : ∀ w ∈ ws, w ∈ big) (h : ws.all goodWord = true) : GoodIn big ws := fun w hw => ⟨hm w hw, good_of_word (List.all_eq_true.mp h w hw)⟩
/-! ===== END ===== -/

/-! ===== BEGIN exceptions that leave a method, and their catching by the caller (launches without stack traces) ===== -/
section VXA
/-! The laws vx_back, vx_callV, vx_callS, vx_callSW, vx_throw0, vx_throwS follow proofs of the library, with one case more: JvmDerived/Free/Laws.lean (Back.of_free), Shelf42/LK1.lean (callV, callS), Shelf/KitTraced.lean (throwNew0V, throwNewS). -/
/-- where a method has thrown q: the class by its name, the cell, what was written, the world -/
def vx_T (XC : String → State → State → Prop) (st : State) (q : Addr) (t : State) (mc ms : Nat) (free : Addr → Prop) : Prop :=
  ∃ (E : String) (ce : Cell) (L : List Loc), XC E st t ∧ t.heap[q]? = some ce ∧ ce.vm = .none ∧ st.vm.findClass E = some ce.cls ∧ st.WarmedH t.vm ∧ st.sameButNew ({ t with vm := st.vm } : State) L mc ms ∧ ∀ z ∈ L, free z.base
def vx_Q (Qc : Array Value → State → Outcome → State → Prop) (XC : String → State → State → Prop) (mc ms : Nat) (free : Addr → Prop) : Array Value → State → Outcome → State → Prop := fun a st o t =>
  (Qc a st o t ∧ ∃ L, FrameEnd st o t L mc ms ∧ ∀ q ∈ L, free q.base) ∨ ∃ q, o = .threw q ∧ vx_T XC st q t mc ms free
/-- a callee that returns or throws -/
def vx_Met (l : Launch) (y : MethodName) (ws : List Cond) (rm : Room) (Pc : Array Value → State → Prop) (Qc : Array Value → State → Outcome → State → Prop) (XC : String → State → State → Prop) (mc ms : Nat) (free : Addr → Prop) : Prop :=
  MetFree l y (headSpec ws rm) Pc (fun _ _ _ _ _ => True) (vx_Q Qc XC mc ms free)
def vx_Post (XC : String → State → State → Prop) (mc ms : Nat) (free : Addr → Prop) : Pt → Array Value → Addr → Pt → Prop := fun A a q B =>
  ∃ (g : JFrame) (mk : MethodId) (t : State) (L : List Loc) (E : String) (ce : Cell), B.U.heap = t.heap ∧ B.U.vm = t.vm ∧ XC E (A.U.calling g mk a) t ∧ t.heap[q]? = some ce ∧ ce.vm = .none ∧ A.U.vm.findClass E = some ce.cls ∧ B.locs = A.locs ++ L ∧ (∀ z ∈ L, free z.base) ∧ B.cells = A.cells + mc ∧ B.slots = A.slots + ms
def vx_Back (l : Launch) (R : Room) (p : Program) (e : Env) (below : List Frame) (s : State) (sargs : Array Value) (y : MethodName) (len W9 : Nat)
    (Pre : Pt → Array Value → Prop) (Post : Pt → Array Value → Option Value → Pt → Prop) (PostX : Pt → Array Value → Addr → Pt → Prop) : Prop :=
  ∀ (m : MethodId) (meth : Method) (c : Code) (A : Pt) (g : JFrame) (ig : Instr) (mk : MethodId) (a : Array Value),
    Stand p l e R s m sargs below meth c A.U A.locs A.cells A.slots → g.method = m → g.locals.size = c.maxLocals → decode c.code g.pc = .ok (ig, len) →
    2 * g.monitorRoom + (g.stack.map fun v => v.category).sum ≤ W9 → A.U.methodNamed? y = some mk → Pre A a →
    (∃ (v : Option Value) (B : Pt), Stand p l e R s m sargs below meth c B.U B.locs B.cells B.slots ∧ Post A a v B ∧
      Steps p.tables e below (doInvoke e (A.U.setTop g) [] mk a).1 (B.U.setTop { g with pc := g.pc + len, stack := v.toList ++ g.stack })) ∨
    (∃ (q : Addr) (B : Pt), Stand p l e R s m sargs below meth c B.U B.locs B.cells B.slots ∧ PostX A a q B ∧
      Steps p.tables e below (doInvoke e (A.U.setTop g) [] mk a).1 ((B.U.setTop g).pushFrame (.throwing q)))
section Payer
variable {l : Launch} {R : Room} {p : Program} {e : Env} {below : List Frame} {s : State} {sargs : Array Value} {y : MethodName} {len W9 : Nat}
theorem vx_back {ws : List Cond} {rm : Room} {Pc : Array Value → State → Prop} {Qc : Array Value → State → Outcome → State → Prop} {XC : String → State → State → Prop} {mc ms : Nat} {free : Addr → Prop} {bytes : ByteArray} {maxL : Nat} {ret : Option FieldType}
    (hM : vx_Met l y ws rm Pc Qc XC mc ms free) (hblind : FrameBlind Pc) (hrc : rm.cells = mc) (hrs : rm.slots = ms)
    (hframes : rm.frames + 1 ≤ R.frames) (hlocals : W9 + (maxL + 11) + rm.locals ≤ R.locals)
    (hws : ∀ w ∈ ws, ∀ a' U, s.WarmedH U.vm → w.before a' U = true) (hcode : Cond.code y bytes maxL ret ∈ ws) (hinit : ∀ a' U, s.WarmedH U.vm → (Cond.initialized y.cls).before a' U = true) :
    vx_Back l R p e below s sargs y len W9 (PreOf R mc ms Pc) (PostOf Qc mc ms free) (vx_Post XC mc ms free) := by
  intro m meth c A g ig mk a X hg hsize hdg hW hn hp
  have h1 : (headSpec ws rm).pre.before a A.U = true := atoms_intro fun w hw => hws w hw _ _ X.warmed
  have h2 : (Cond.code y bytes maxL ret).before a A.U = true := hws _ hcode _ _ X.warmed
  have h3 : (Cond.initialized y.cls).before a A.U = true := hinit _ _ X.warmed
  have h4 : A.cells + (headSpec ws rm).room.cells ≤ R.cells := by rw [show (headSpec ws rm).room.cells = mc from hrc]; exact hp.1
  have h5 : A.slots + (headSpec ws rm).room.slots ≤ R.slots := by rw [show (headSpec ws rm).room.slots = ms from hrs]; exact hp.2.1
  have hPc : Pc a (A.U.calling g mk a) := hblind _ _ _ _ hp.2.2
  obtain ⟨U, Ls, c0, s0⟩ := A
  dsimp only [Pt.U, Pt.locs, Pt.cells, Pt.slots] at h1 h2 h3 h4 h5 X hn hPc ⊢
  obtain ⟨methY, cY, hmY, hcY, -, hlY, -, -, -, -⟩ := Cond.code_spec hn h2
  obtain ⟨kY, hkY, -⟩ := className_of_methodNamed hn
  have hinitY : kY.init = .initialized := Cond.initialized_spec (findClass_of_methodNamed hn) hkY h3
  have h : At U g.method c below := by rw [hg]; exact X.here
  have hlocals9 : W9 + (maxL + 11) + (headSpec ws rm).room.locals ≤ R.locals := hlocals
  have happ : (headSpec ws rm).appliesLoose y e.platform (U.calling g mk a) = true :=
    Spec.appliesLoose_calling (g := g) h hdg hn hkY hinitY
      (X.room_calling (g := g) (R' := (headSpec ws rm).room) hsize hmY hcY hframes (by rw [hlY]; omega) h4 h5) h1
  obtain ⟨mid, hmid⟩ := h.above
  have hfr : (U.setTop g).frames = (.java g :: mid) ++ below := by rw [State.frames_setTop' g h.top, hmid]; rfl
  obtain ⟨o, s₂, hsteps, -, hend, hq⟩ := Steps.callFree hM p X.admits X.cas X.clock (acts := []) hfr happ hPc trivial
  have hq' : vx_Q Qc XC mc ms free a (U.calling g mk a) o s₂ := hq
  rw [State.frames_setTop' g h.top] at hend
  obtain ⟨g₀, hg0⟩ := Option.isSome_iff_exists.mp h.top
  obtain ⟨r, hr⟩ := State.topJava?_eq_some.mp hg0
  have hr' : (({ U with heap := s₂.heap, slotsUsed := s₂.slotsUsed } : State).setVm s₂.vm).frames = .java g₀ :: r := hr
  rcases hq' with ⟨hqc, L, hfe, hL⟩ | ⟨q, rfl, E, ce, L, hx, hce, hcv, hcl, hW₂, hsm, hL⟩
  · obtain ⟨⟨v, rfl⟩, hW₂, e2, q2, q3, q4, q5, q6⟩ := id hfe
    have e3 : s₂ = ({ (U.calling g mk a).setFrames s₂.frames with heap := s₂.heap, slotsUsed := s₂.slotsUsed } : State).setVm s₂.vm := by
      have : s₂ = ({ s₂ with vm := (U.calling g mk a).vm } : State).setVm s₂.vm := rfl
      rw [e2] at this
      exact this
    obtain ⟨c₂, i₂, len₂, hc₂, hd₂, hf₂⟩ := hend
    have hW' : U.WarmedH s₂.vm := hW₂
    have hcc : c₂ = c := by
      have h1 : s₂.code? g.method = U.code? g.method := by
        rw [State.code?_eq, State.code?_eq, hW'.alike.method?]
      exact Option.some.inj (hc₂.symm.trans (h1.trans h.code))
    subst hcc
    have hlen : len₂ = len := by rw [hdg] at hd₂; cases hd₂; rfl
    subst hlen
    have hs₂ : s₂ = (({ U with heap := s₂.heap, slotsUsed := s₂.slotsUsed } : State).setVm s₂.vm).setTop { g with pc := g.pc + len₂, stack := v.toList ++ g.stack } := by
      refine e3.trans ?_
      rw [hf₂, State.calling_eq h.top, State.setFrames_setFrames, State.setTop_of_frames _ hr', hr]
      rfl
    have hsame : U.sameButNew ({ U with heap := s₂.heap, slotsUsed := s₂.slotsUsed } : State) L mc ms := by
      refine ⟨?_, q2, q3, q4, q5, q6⟩
      obtain ⟨t, ht, -⟩ := State.frames_cons hr
      show ({ U with heap := s₂.heap, slotsUsed := s₂.slotsUsed } : State) = { U.setFrames U.frames with heap := s₂.heap, slotsUsed := s₂.slotsUsed }
      rw [State.setFrames_self ht]
    subst hg
    refine Or.inl ⟨v, ⟨(({ U with heap := s₂.heap, slotsUsed := s₂.slotsUsed } : State).setVm s₂.vm), Ls ++ L, c0 + mc, s0 + ms⟩,
      ⟨X.admits, X.cas, X.clock, X.frames, X.room, X.hears, X.method, X.code, (X.here.setHeapUsed s₂.heap s₂.slotsUsed).setVm hW'.alike, X.tail, State.WarmedH.trans X.warmed hW', X.limits, X.bytes, X.same.trans (hsame.setVm s.vm)⟩,
      ⟨g, mk, s₂, L, rfl, rfl, hqc, rfl, hL, rfl, rfl⟩, ?_⟩
    show Steps p.tables e below _ ((({ U with heap := s₂.heap, slotsUsed := s₂.slotsUsed } : State).setVm s₂.vm).setTop { g with pc := g.pc + len₂, stack := v.toList ++ g.stack })
    rw [← hs₂]
    exact hsteps
  · obtain ⟨e2, q2, q3, q4, q5, q6⟩ := id hsm
    have e3 : s₂ = ({ (U.calling g mk a).setFrames s₂.frames with heap := s₂.heap, slotsUsed := s₂.slotsUsed } : State).setVm s₂.vm := by
      have : s₂ = ({ s₂ with vm := (U.calling g mk a).vm } : State).setVm s₂.vm := rfl
      rw [e2] at this
      exact this
    have hf₂ : s₂.frames = .throwing q :: .java g :: U.frames.tail := hend
    have hW' : U.WarmedH s₂.vm := hW₂
    have hs₂ : s₂ = ((({ U with heap := s₂.heap, slotsUsed := s₂.slotsUsed } : State).setVm s₂.vm).setTop g).pushFrame (.throwing q) := by
      refine e3.trans ?_
      rw [hf₂, State.calling_eq h.top, State.setFrames_setFrames, State.pushFrame, State.frames_setTop _ hr', State.setTop_of_frames _ hr', State.setFrames_setFrames, hr]
      rfl
    have hsame : U.sameButNew ({ U with heap := s₂.heap, slotsUsed := s₂.slotsUsed } : State) L mc ms := by
      refine ⟨?_, q2, q3, q4, q5, q6⟩
      obtain ⟨t, ht, -⟩ := State.frames_cons hr
      show ({ U with heap := s₂.heap, slotsUsed := s₂.slotsUsed } : State) = { U.setFrames U.frames with heap := s₂.heap, slotsUsed := s₂.slotsUsed }
      rw [State.setFrames_self ht]
    subst hg
    refine Or.inr ⟨q, ⟨(({ U with heap := s₂.heap, slotsUsed := s₂.slotsUsed } : State).setVm s₂.vm), Ls ++ L, c0 + mc, s0 + ms⟩,
      ⟨X.admits, X.cas, X.clock, X.frames, X.room, X.hears, X.method, X.code, (X.here.setHeapUsed s₂.heap s₂.slotsUsed).setVm hW'.alike, X.tail, State.WarmedH.trans X.warmed hW', X.limits, X.bytes, X.same.trans (hsame.setVm s.vm)⟩,
      ⟨g, mk, s₂, L, E, ce, rfl, rfl, hx, hce, hcv, hcl, rfl, hL, rfl, rfl⟩, ?_⟩
    show Steps p.tables e below _ (((({ U with heap := s₂.heap, slotsUsed := s₂.slotsUsed } : State).setVm s₂.vm).setTop g).pushFrame (.throwing q))
    rw [← hs₂]
    exact hsteps
end Payer
section Calls
variable {p : Program} {l : Launch} {e : Env} {R : Room} {s : State} {m : MethodId} {args : Array Value} {below : List Frame} {meth : Method} {c : Code} {T : State} {locs : List Loc} {cells slots : Nat}
theorem vx_callV (X : Stand p l e R s m args below meth c T locs cells slots) (hexec : p.tables.exec = Jvm.exec) {own C : String} {index : Nat} {y : MethodName} {bytes : ByteArray} {maxL : Nat} {ret : Option FieldType}
    (hown : s.vm.findClass own = some m.cls) (hlink : (Cond.methodLink own index y).before args s = true) (hinst : (Cond.instanceMethod y).before args s = true) (hsel : (Cond.selects C y y).before args s = true)
    (hcode : (Cond.code y bytes maxL ret).before args s = true) (hy : y.cls ≠ "java/lang/invoke/MethodHandle" ∧ y.cls ≠ "java/lang/invoke/VarHandle")
    {W9 : Nat} {Pre : Pt → Array Value → Prop} {Post : Pt → Array Value → Option Value → Pt → Prop} {PostX : Pt → Array Value → Addr → Pt → Prop} (hK : vx_Back l R p e below s args y 3 W9 Pre Post PostX)
    {b : Addr} {cellB : Cell} (hcell : T.heap[b]? = some cellB) (hobj : cellB.vm.isStatics = false) (hcls : s.vm.findClass C = some cellB.cls)
    {g : JFrame} (hg : g.method = m) (hsize : g.locals.size = c.maxLocals) {argsL rest : List Value} (hlen : ∀ sig, parseMethodDescriptor y.desc = some sig → argsL.length = sig.parameters.length)
    (hstack : g.stack = argsL.reverse ++ .ref b :: rest) (hW : 2 * g.monitorRoom + (rest.map fun v => v.category).sum ≤ W9) (hdg : decode c.code g.pc = .ok (.invokevirtual index, 3))
    (hpre : ∀ vm₁, s.WarmedH vm₁ → Pre ⟨T.setVm vm₁, locs, cells, slots⟩ (Value.ref b :: argsL).toArray) :
    (∃ (v : Option Value) (vm₁ : Vm) (B : Pt), s.WarmedH vm₁ ∧ Stand p l e R s m args below meth c B.U B.locs B.cells B.slots ∧ Post ⟨T.setVm vm₁, locs, cells, slots⟩ (Value.ref b :: argsL).toArray v B ∧
      ∀ target, Steps p.tables e below (B.U.setTop { g with pc := g.pc + 3, stack := v.toList ++ rest }) target → Steps p.tables e below (T.setTop g) target) ∨
    (∃ (q : Addr) (vm₁ : Vm) (B : Pt), s.WarmedH vm₁ ∧ Stand p l e R s m args below meth c B.U B.locs B.cells B.slots ∧ PostX ⟨T.setVm vm₁, locs, cells, slots⟩ (Value.ref b :: argsL).toArray q B ∧
      Steps p.tables e below (T.setTop g) ((B.U.setTop { g with stack := rest }).pushFrame (.throwing q))) := by
  obtain ⟨mk, methM, hnamed, hmethM, hstM, habM⟩ := Cond.instanceMethod_spec hinst
  obtain ⟨methM', cM, hmethM', -, -, -, -, -, -, hsigM⟩ := Cond.code_spec hnamed hcode
  cases hmethM.symm.trans hmethM'
  obtain ⟨c2, r2, m2, q1, q2, q3, q4, kP, hkP, hkPi⟩ := Cond.selects_spec hsel
  cases hcls.symm.trans q1
  cases (State.methodFound?_of_named hnamed hy).symm.trans q2
  cases hnamed.symm.trans q3
  have hselP : selectMethod e.platform s.vm cellB.cls mk = .method mk := by rw [Launch.admits_selectMethod X.admits]; exact q4
  obtain ⟨vm₁, X₁, hstep₁⟩ := X.invokevirtual hexec hown hlink hnamed hmethM hstM hkP hkPi hy (a := b) (cell := cellB) hcell
    (fun z h => by rw [h] at hobj; cases hobj) hselP hmethM habM hkP hkPi (g := g) hg (argsL := argsL) (rest := rest) (hlen _ hsigM) hstack hdg
  rcases hK m meth c ⟨T.setVm vm₁, locs, cells, slots⟩ { g with stack := rest } (.invokevirtual index) mk (Value.ref b :: argsL).toArray X₁ hg hsize hdg hW (X₁.named hnamed) (hpre vm₁ X₁.warmed) with ⟨v, B, X', hpost, hsteps⟩ | ⟨q, B, X', hpost, hsteps⟩
  · exact Or.inl ⟨v, vm₁, B, X₁.warmed, X', hpost, fun target h => hstep₁ _ fun acts => by rw [doInvoke_state]; exact hsteps.trans h⟩
  · exact Or.inr ⟨q, vm₁, B, X₁.warmed, X', hpost, hstep₁ _ fun acts => by rw [doInvoke_state]; exact hsteps⟩
theorem vx_callS (X : Stand p l e R s m args below meth c T locs cells slots) (hexec : p.tables.exec = Jvm.exec) {own : String} {index : Nat} {y : MethodName} {bytes : ByteArray} {maxL : Nat} {ret : Option FieldType}
    (hown : s.vm.findClass own = some m.cls) (hlink : (Cond.methodLink own index y).before args s = true) (hstat : (Cond.static y).before args s = true) (hinit : (Cond.initialized y.cls).before args s = true)
    (hcode : (Cond.code y bytes maxL ret).before args s = true) (hy : y.cls ≠ "java/lang/invoke/MethodHandle" ∧ y.cls ≠ "java/lang/invoke/VarHandle")
    {W9 : Nat} {Pre : Pt → Array Value → Prop} {Post : Pt → Array Value → Option Value → Pt → Prop} {PostX : Pt → Array Value → Addr → Pt → Prop} (hK : vx_Back l R p e below s args y 3 W9 Pre Post PostX)
    {g : JFrame} (hg : g.method = m) (hsize : g.locals.size = c.maxLocals) {argsL rest : List Value} (hlen : ∀ sig, parseMethodDescriptor y.desc = some sig → argsL.length = sig.parameters.length)
    (hstack : g.stack = argsL.reverse ++ rest) (hW : 2 * g.monitorRoom + (rest.map fun v => v.category).sum ≤ W9) (hdg : decode c.code g.pc = .ok (.invokestatic index, 3))
    (hpre : ∀ vm₁, s.WarmedH vm₁ → Pre ⟨T.setVm vm₁, locs, cells, slots⟩ argsL.toArray) :
    (∃ (v : Option Value) (vm₁ : Vm) (B : Pt), s.WarmedH vm₁ ∧ Stand p l e R s m args below meth c B.U B.locs B.cells B.slots ∧ Post ⟨T.setVm vm₁, locs, cells, slots⟩ argsL.toArray v B ∧
      ∀ target, Steps p.tables e below (B.U.setTop { g with pc := g.pc + 3, stack := v.toList ++ rest }) target → Steps p.tables e below (T.setTop g) target) ∨
    (∃ (q : Addr) (vm₁ : Vm) (B : Pt), s.WarmedH vm₁ ∧ Stand p l e R s m args below meth c B.U B.locs B.cells B.slots ∧ PostX ⟨T.setVm vm₁, locs, cells, slots⟩ argsL.toArray q B ∧
      Steps p.tables e below (T.setTop g) ((B.U.setTop { g with stack := rest }).pushFrame (.throwing q))) := by
  obtain ⟨mk, hnamed⟩ := Cond.code_named hcode
  obtain ⟨methM, cM, hmethM, -, -, -, -, -, -, hsigM⟩ := Cond.code_spec hnamed hcode
  have hstatic : methM.isStatic = true := Cond.static_spec hnamed hmethM hstat
  obtain ⟨kP, hkP, -⟩ := className_of_methodNamed hnamed
  have hinitP : kP.init = .initialized := Cond.initialized_spec (findClass_of_methodNamed hnamed) hkP hinit
  obtain ⟨vm₁, X₁, hstep₁⟩ := X.invokestatic hexec hown hlink hnamed hmethM hstatic hkP hinitP hy (g := g) hg (argsL := argsL) (rest := rest) (hlen _ hsigM) hstack hdg
  rcases hK m meth c ⟨T.setVm vm₁, locs, cells, slots⟩ { g with stack := rest } (.invokestatic index) mk argsL.toArray X₁ hg hsize hdg hW (X₁.named hnamed) (hpre vm₁ X₁.warmed) with ⟨v, B, X', hpost, hsteps⟩ | ⟨q, B, X', hpost, hsteps⟩
  · exact Or.inl ⟨v, vm₁, B, X₁.warmed, X', hpost, fun target h => hstep₁ _ fun acts => by rw [doInvoke_state]; exact hsteps.trans h⟩
  · exact Or.inr ⟨q, vm₁, B, X₁.warmed, X', hpost, hstep₁ _ fun acts => by rw [doInvoke_state]; exact hsteps⟩
end Calls
theorem vx_cls {s : State} {T : State} {vm₁ : Vm} {E : String} {k : ClassId} (hW : s.WarmedH vm₁) (h : (T.setVm vm₁).vm.findClass E = some k) : s.vm.findClass E = some k := by
  have h1 : vm₁.findClass E = some k := h
  rw [hW.alike.findClass] at h1
  exact h1
/-- the method's frame g, with q thrown over it -/
def vx_W (p : Program) (l : Launch) (e : Env) (R : Room) (s : State) (m : MethodId) (args : Array Value) (below : List Frame) (meth : Method) (c : Code) (H : Heap) (locs : List Loc) (cells slots : Nat) (Q : State → Prop) (g : JFrame) (q : Addr) : Prop :=
  ∀ T : State, T.heap = H → Stand p l e R s m args below meth c T locs cells slots → ∃ t, Steps p.tables e below ((T.setTop g).pushFrame (.throwing q)) t ∧ Q t
def vx_Run (p : Program) (l : Launch) (e : Env) (R : Room) (s : State) (m : MethodId) (args : Array Value) (below : List Frame) (meth : Method) (c : Code) (H : Heap) (locs : List Loc) (cells slots mc ms : Nat) (g : JFrame) (rest : List Value) (Qa : State → Outcome → State → Prop) (XC : String → State → State → Prop) (free : Addr → Prop) : Prop :=
  ∀ T : State, T.heap = H → Stand p l e R s m args below meth c T locs cells slots →
    (∃ (v : Option Value) (st₀ t T' : State) (L : List Loc), st₀.heap = H ∧ Stand p l e R s m args below meth c T' (locs ++ L) (cells + mc) (slots + ms) ∧ (∀ q ∈ L, free q.base) ∧ T'.heap = t.heap ∧ T'.vm = t.vm ∧ Qa st₀ (.returned v) t ∧
      Goes p e below T g T' { g with pc := g.pc + 3, stack := v.toList ++ rest }) ∨
    (∃ (q : Addr) (st₀ t T' : State) (L : List Loc) (E : String) (ce : Cell), st₀.heap = H ∧ Stand p l e R s m args below meth c T' (locs ++ L) (cells + mc) (slots + ms) ∧ (∀ z ∈ L, free z.base) ∧ T'.heap = t.heap ∧ T'.vm = t.vm ∧ XC E st₀ t ∧ t.heap[q]? = some ce ∧ ce.vm = .none ∧ s.vm.findClass E = some ce.cls ∧
      Steps p.tables e below (T.setTop g) ((T'.setTop { g with stack := rest }).pushFrame (.throwing q)))
def vx_X {S : Type} (px : S → Prop) (B : String → S → State → Prop) (A : Nat → Prop) : String → State → State → Prop := fun E st t => ∃ u : S, px u ∧ B E u t ∧ va_F A st t
section Runs
variable {p : Program} {l : Launch} {e : Env} {R : Room} {s : State} {m : MethodId} {args : Array Value} {below : List Frame} {meth : Method} {c : Code} {H : Heap} {locs : List Loc} {cells slots : Nat}
variable {y : MethodName} {bytes cc : ByteArray} {maxL nL mc ms n index : Nat} {ret : Option FieldType} {ws : List Cond} {rm : Room} {Pc : Array Value → State → Prop} {Qc : Array Value → State → Outcome → State → Prop} {XC : String → State → State → Prop} {free : Addr → Prop} {Ts : List Cond} {own C : String} {b : Addr} {As rest : List Value} {g : JFrame}
theorem vx_callBack (cb : CallB R s args own index y bytes maxL ret ws rm mc ms n) (hM : vx_Met l y ws rm Pc Qc XC mc ms free) (hbl : FrameBlind Pc) : vx_Back l R p e below s args y 3 8 (PreOf R mc ms Pc) (PostOf Qc mc ms free) (vx_Post XC mc ms free) := by
  obtain ⟨hrc, hrs, hfr, hlo, hws, hcw, -, hini, -⟩ := cb
  exact vx_back (bytes := bytes) (maxL := maxL) (ret := ret) hM hbl hrc hrs hfr hlo hws hcw (fun a' U hW => word_at hW (Or.inl (by first | rfl | simp [Cond.onTables, Cond.keeps, Cond.steady])) hini)
theorem vx_runV (S : CallFix p m c cc nL s args Ts own) (hM : vx_Met l y ws rm Pc Qc XC mc ms free) (cw : CallW R s args own C index y bytes maxL ret ws rm mc ms n) (hp : PreV s H C b Pc As)
    (hg : g.method = m) (hn : As.length = n) (hsize : g.locals.size = nL) (hstack : g.stack = As.reverse ++ .ref b :: rest) (hW : 2 * g.monitorRoom + (rest.map fun v => v.category).sum ≤ 8) (hdg : decode cc g.pc = .ok (.invokevirtual index, 3)) (hf : cells + mc ≤ R.cells ∧ slots + ms ≤ R.slots) :
    vx_Run p l e R s m args below meth c H locs cells slots mc ms g rest (Qc (Value.ref b :: As).toArray) XC free := by
  have hK : vx_Back l R p e below s args y 3 8 (PreOf R mc ms Pc) (PostOf Qc mc ms free) (vx_Post XC mc ms free) := vx_callBack cw.1 hM hp.1
  obtain ⟨⟨-, -, -, -, -, -, hcode, -, hy, hlen, hl⟩, hin, hse⟩ := cw
  obtain ⟨hx, hb, hml, ho, -⟩ := S
  obtain ⟨-, ⟨cellB, hcB, hoB, hclB⟩, hPc⟩ := hp
  intro T hT X
  rcases vx_callV X hx (C := C) (bytes := bytes) (maxL := maxL) (ret := ret) ho hl hin hse hcode hy hK (by rw [hT]; exact hcB) hoB hclB hg (hsize.trans hml.symm) (argsL := As) (rest := rest) (fun sig h => hn.trans (hlen sig h)) hstack hW (by rw [hb]; exact hdg)
    (fun vm₁ hW₁ => ⟨hf.1, hf.2, hPc (T.setVm vm₁) hT hW₁⟩) with ⟨v, vm₁, ⟨U', l2, c2, s2⟩, hW₁, X', ⟨g', mk, t, L, e1, e2, hq, h1, hL, h2, h3⟩, st⟩ | ⟨q, vm₁, ⟨U', l2, c2, s2⟩, hW₁, X', ⟨g', mk, t, L, E, ce, e1, e2, hq, hce, hcv, hcl, h1, hL, h2, h3⟩, st⟩
  · dsimp only [Pt.U, Pt.locs, Pt.cells, Pt.slots] at X' e1 e2 h1 h2 h3 st
    subst h1; subst h2; subst h3
    exact Or.inl ⟨v, (T.setVm vm₁).calling g' mk (Value.ref b :: As).toArray, t, U', L, hT, X', hL, e1, e2, hq, st⟩
  · dsimp only [Pt.U, Pt.locs, Pt.cells, Pt.slots] at X' e1 e2 h1 h2 h3 st hcl
    subst h1; subst h2; subst h3
    exact Or.inr ⟨q, (T.setVm vm₁).calling g' mk (Value.ref b :: As).toArray, t, U', L, E, ce, hT, X', hL, e1, e2, hq, hce, hcv, vx_cls hW₁ hcl, st⟩
theorem vx_runS (S : CallFix p m c cc nL s args Ts own) (hM : vx_Met l y ws rm Pc Qc XC mc ms free) (cw : CallB R s args own index y bytes maxL ret ws rm mc ms n ∧ (Cond.static y).before args s = true) (hp : PreS s H Pc As)
    (hg : g.method = m) (hn : As.length = n) (hsize : g.locals.size = nL) (hstack : g.stack = As.reverse ++ rest) (hW : 2 * g.monitorRoom + (rest.map fun v => v.category).sum ≤ 8) (hdg : decode cc g.pc = .ok (.invokestatic index, 3)) (hf : cells + mc ≤ R.cells ∧ slots + ms ≤ R.slots) :
    vx_Run p l e R s m args below meth c H locs cells slots mc ms g rest (Qc As.toArray) XC free := by
  have hK : vx_Back l R p e below s args y 3 8 (PreOf R mc ms Pc) (PostOf Qc mc ms free) (vx_Post XC mc ms free) := vx_callBack cw.1 hM hp.1
  obtain ⟨⟨-, -, -, -, -, -, hcode, hini, hy, hlen, hl⟩, hstt⟩ := cw
  obtain ⟨hx, hb, hml, ho, -⟩ := S
  intro T hT X
  rcases vx_callS X hx (bytes := bytes) (maxL := maxL) (ret := ret) ho hl hstt hini hcode hy hK hg (hsize.trans hml.symm) (argsL := As) (rest := rest) (fun sig h => hn.trans (hlen sig h)) hstack hW (by rw [hb]; exact hdg)
    (fun vm₁ hW₁ => ⟨hf.1, hf.2, hp.2 (T.setVm vm₁) hT hW₁⟩) with ⟨v, vm₁, ⟨U', l2, c2, s2⟩, hW₁, X', ⟨g', mk, t, L, e1, e2, hq, h1, hL, h2, h3⟩, st⟩ | ⟨q, vm₁, ⟨U', l2, c2, s2⟩, hW₁, X', ⟨g', mk, t, L, E, ce, e1, e2, hq, hce, hcv, hcl, h1, hL, h2, h3⟩, st⟩
  · dsimp only [Pt.U, Pt.locs, Pt.cells, Pt.slots] at X' e1 e2 h1 h2 h3 st
    subst h1; subst h2; subst h3
    exact Or.inl ⟨v, (T.setVm vm₁).calling g' mk As.toArray, t, U', L, hT, X', hL, e1, e2, hq, st⟩
  · dsimp only [Pt.U, Pt.locs, Pt.cells, Pt.slots] at X' e1 e2 h1 h2 h3 st hcl
    subst h1; subst h2; subst h3
    exact Or.inr ⟨q, (T.setVm vm₁).calling g' mk As.toArray, t, U', L, E, ce, hT, X', hL, e1, e2, hq, hce, hcv, vx_cls hW₁ hcl, st⟩
end Runs
section Rows
variable {p : Program} {l : Launch} {e : Env} {R : Room} {s : State} {m : MethodId} {args : Array Value} {below : List Frame} {meth : Method} {c : Code} {H : Heap} {locs : List Loc} {cells slots : Nat} {Q : State → Prop}
variable {mc ms : Nat} {free : Addr → Prop} {A0 A1 : Nat → Prop} {H0 : Heap} {a : Array Value} {pc : Nat} {ls : Array Slot} {st0 rest : List Value}
theorem vx_keep {st₀ t T' : State} {L : List Loc} (h0 : st₀.heap = H) (e1 : T'.heap = t.heap) (hS : va_S A0 H0 H locs) (hA : ∀ q, q < H.size → A1 q → A0 q) (hf : ∀ q, free q → A0 q) (hL : ∀ q ∈ L, free q.base) (hF : va_F A1 st₀ t) :
    H.size ≤ T'.heap.size ∧ (∀ q : Nat, q < H.size → ¬ A1 q → T'.heap[q]? = H[q]?) ∧ va_S A0 H0 T'.heap (locs ++ L) := by
  obtain ⟨hz, hk⟩ := hF
  rw [h0] at hz hk
  exact ⟨by rw [e1]; exact hz, fun q h1 h2 => by rw [e1]; exact hk q h1 h2,
    ⟨Nat.le_trans hS.1 (by rw [e1]; exact hz), fun q h1 h2 => by rw [e1, hk q (Nat.lt_of_lt_of_le h1 hS.1) (fun z => h2 (hA q (Nat.lt_of_lt_of_le h1 hS.1) z))]; exact hS.2.1 q h1 h2, fun q hq => by
      rcases List.mem_append.mp hq with h | h
      · exact hS.2.2 q h
      · exact hf _ (hL q h)⟩⟩
theorem vx_calli {S SX : Type} {post : Int32 → S → Prop} {px : SX → Prop} {B : S → State → Prop} {BX : String → SX → State → Prop} {AX : Nat → Prop} (hr : vx_Run p l e R s m args below meth c H locs cells slots mc ms (F0 m pc ls st0) rest (va_Qi post B A1 a) (vx_X px BX AX) free) (hS : va_S A0 H0 H locs) (hA : ∀ q, q < H.size → A1 q → A0 q) (hf : ∀ q, free q → A0 q) (hAX : ∀ q, q < H.size → AX q → A0 q)
    (kx : ∀ (E : String) (ce : Cell) (q9 : Addr) (u : SX) (t : State) (H1 : Heap) (locs1 : List Loc), t.heap = H1 → s.vm.Alike t.vm → px u → BX E u t → H.size ≤ H1.size → (∀ q : Nat, q < H.size → ¬ AX q → H1[q]? = H[q]?) → va_S A0 H0 H1 locs1 → H1[q9]? = some ce → ce.vm = .none → s.vm.findClass E = some ce.cls → vx_W p l e R s m args below meth c H1 locs1 (cells + mc) (slots + ms) Q (F0 m pc ls rest) q9)
    (kk : ∀ (r : Int32) (u : S) (t : State) (H1 : Heap) (locs1 : List Loc), t.heap = H1 → s.vm.Alike t.vm → post r u → B u t → H.size ≤ H1.size → (∀ q : Nat, q < H.size → ¬ A1 q → H1[q]? = H[q]?) → va_S A0 H0 H1 locs1 → W p l e R s m args below meth c H1 locs1 (cells + mc) (slots + ms) Q (F0 m (pc + 3) ls (.int r :: rest))) : W p l e R s m args below meth c H locs cells slots Q (F0 m pc ls st0) := by
  intro T hT X
  rcases hr T hT X with ⟨v, st₀, t, T', L, h0, X', hL, e1, e2, ⟨⟨r, u, hv, hp, hb⟩, hF⟩, st⟩ | ⟨q, st₀, t, T', L, E, ce, h0, X', hL, e1, e2, ⟨u, hp, hb, hF⟩, hce, hcv, hcl, st⟩
  · cases hv
    obtain ⟨k1, k2, k3⟩ := vx_keep h0 e1 hS hA hf hL hF
    obtain ⟨t2, a1, b1⟩ := kk r u t T'.heap (locs ++ L) e1.symm (by rw [← e2]; exact X'.warmed.alike) hp hb k1 k2 k3 T' rfl X'
    exact ⟨t2, st t2 a1, b1⟩
  · obtain ⟨k1, k2, k3⟩ := vx_keep h0 e1 hS hAX hf hL hF
    obtain ⟨t2, a1, b1⟩ := kx E ce q u t T'.heap (locs ++ L) e1.symm (by rw [← e2]; exact X'.warmed.alike) hp hb k1 k2 k3 (by rw [e1]; exact hce) hcv hcl T' rfl X'
    exact ⟨t2, st.trans a1, b1⟩
theorem vx_calll {S SX : Type} {post : Int64 → S → Prop} {px : SX → Prop} {B : S → State → Prop} {BX : String → SX → State → Prop} {AX : Nat → Prop} (hr : vx_Run p l e R s m args below meth c H locs cells slots mc ms (F0 m pc ls st0) rest (va_Ql post B A1 a) (vx_X px BX AX) free) (hS : va_S A0 H0 H locs) (hA : ∀ q, q < H.size → A1 q → A0 q) (hf : ∀ q, free q → A0 q) (hAX : ∀ q, q < H.size → AX q → A0 q)
    (kx : ∀ (E : String) (ce : Cell) (q9 : Addr) (u : SX) (t : State) (H1 : Heap) (locs1 : List Loc), t.heap = H1 → s.vm.Alike t.vm → px u → BX E u t → H.size ≤ H1.size → (∀ q : Nat, q < H.size → ¬ AX q → H1[q]? = H[q]?) → va_S A0 H0 H1 locs1 → H1[q9]? = some ce → ce.vm = .none → s.vm.findClass E = some ce.cls → vx_W p l e R s m args below meth c H1 locs1 (cells + mc) (slots + ms) Q (F0 m pc ls rest) q9)
    (kk : ∀ (r : Int64) (u : S) (t : State) (H1 : Heap) (locs1 : List Loc), t.heap = H1 → s.vm.Alike t.vm → post r u → B u t → H.size ≤ H1.size → (∀ q : Nat, q < H.size → ¬ A1 q → H1[q]? = H[q]?) → va_S A0 H0 H1 locs1 → W p l e R s m args below meth c H1 locs1 (cells + mc) (slots + ms) Q (F0 m (pc + 3) ls (.long r :: rest))) : W p l e R s m args below meth c H locs cells slots Q (F0 m pc ls st0) := by
  intro T hT X
  rcases hr T hT X with ⟨v, st₀, t, T', L, h0, X', hL, e1, e2, ⟨⟨r, u, hv, hp, hb⟩, hF⟩, st⟩ | ⟨q, st₀, t, T', L, E, ce, h0, X', hL, e1, e2, ⟨u, hp, hb, hF⟩, hce, hcv, hcl, st⟩
  · cases hv
    obtain ⟨k1, k2, k3⟩ := vx_keep h0 e1 hS hA hf hL hF
    obtain ⟨t2, a1, b1⟩ := kk r u t T'.heap (locs ++ L) e1.symm (by rw [← e2]; exact X'.warmed.alike) hp hb k1 k2 k3 T' rfl X'
    exact ⟨t2, st t2 a1, b1⟩
  · obtain ⟨k1, k2, k3⟩ := vx_keep h0 e1 hS hAX hf hL hF
    obtain ⟨t2, a1, b1⟩ := kx E ce q u t T'.heap (locs ++ L) e1.symm (by rw [← e2]; exact X'.warmed.alike) hp hb k1 k2 k3 (by rw [e1]; exact hce) hcv hcl T' rfl X'
    exact ⟨t2, st.trans a1, b1⟩
theorem vx_callf {S SX : Type} {post : UInt32 → S → Prop} {px : SX → Prop} {B : S → State → Prop} {BX : String → SX → State → Prop} {AX : Nat → Prop} (hr : vx_Run p l e R s m args below meth c H locs cells slots mc ms (F0 m pc ls st0) rest (va_Qf post B A1 a) (vx_X px BX AX) free) (hS : va_S A0 H0 H locs) (hA : ∀ q, q < H.size → A1 q → A0 q) (hf : ∀ q, free q → A0 q) (hAX : ∀ q, q < H.size → AX q → A0 q)
    (kx : ∀ (E : String) (ce : Cell) (q9 : Addr) (u : SX) (t : State) (H1 : Heap) (locs1 : List Loc), t.heap = H1 → s.vm.Alike t.vm → px u → BX E u t → H.size ≤ H1.size → (∀ q : Nat, q < H.size → ¬ AX q → H1[q]? = H[q]?) → va_S A0 H0 H1 locs1 → H1[q9]? = some ce → ce.vm = .none → s.vm.findClass E = some ce.cls → vx_W p l e R s m args below meth c H1 locs1 (cells + mc) (slots + ms) Q (F0 m pc ls rest) q9)
    (kk : ∀ (r : UInt32) (u : S) (t : State) (H1 : Heap) (locs1 : List Loc), t.heap = H1 → s.vm.Alike t.vm → post r u → B u t → H.size ≤ H1.size → (∀ q : Nat, q < H.size → ¬ A1 q → H1[q]? = H[q]?) → va_S A0 H0 H1 locs1 → W p l e R s m args below meth c H1 locs1 (cells + mc) (slots + ms) Q (F0 m (pc + 3) ls (.float r :: rest))) : W p l e R s m args below meth c H locs cells slots Q (F0 m pc ls st0) := by
  intro T hT X
  rcases hr T hT X with ⟨v, st₀, t, T', L, h0, X', hL, e1, e2, ⟨⟨r, u, hv, hp, hb⟩, hF⟩, st⟩ | ⟨q, st₀, t, T', L, E, ce, h0, X', hL, e1, e2, ⟨u, hp, hb, hF⟩, hce, hcv, hcl, st⟩
  · cases hv
    obtain ⟨k1, k2, k3⟩ := vx_keep h0 e1 hS hA hf hL hF
    obtain ⟨t2, a1, b1⟩ := kk r u t T'.heap (locs ++ L) e1.symm (by rw [← e2]; exact X'.warmed.alike) hp hb k1 k2 k3 T' rfl X'
    exact ⟨t2, st t2 a1, b1⟩
  · obtain ⟨k1, k2, k3⟩ := vx_keep h0 e1 hS hAX hf hL hF
    obtain ⟨t2, a1, b1⟩ := kx E ce q u t T'.heap (locs ++ L) e1.symm (by rw [← e2]; exact X'.warmed.alike) hp hb k1 k2 k3 (by rw [e1]; exact hce) hcv hcl T' rfl X'
    exact ⟨t2, st.trans a1, b1⟩
theorem vx_calld {S SX : Type} {post : UInt64 → S → Prop} {px : SX → Prop} {B : S → State → Prop} {BX : String → SX → State → Prop} {AX : Nat → Prop} (hr : vx_Run p l e R s m args below meth c H locs cells slots mc ms (F0 m pc ls st0) rest (va_Qd post B A1 a) (vx_X px BX AX) free) (hS : va_S A0 H0 H locs) (hA : ∀ q, q < H.size → A1 q → A0 q) (hf : ∀ q, free q → A0 q) (hAX : ∀ q, q < H.size → AX q → A0 q)
    (kx : ∀ (E : String) (ce : Cell) (q9 : Addr) (u : SX) (t : State) (H1 : Heap) (locs1 : List Loc), t.heap = H1 → s.vm.Alike t.vm → px u → BX E u t → H.size ≤ H1.size → (∀ q : Nat, q < H.size → ¬ AX q → H1[q]? = H[q]?) → va_S A0 H0 H1 locs1 → H1[q9]? = some ce → ce.vm = .none → s.vm.findClass E = some ce.cls → vx_W p l e R s m args below meth c H1 locs1 (cells + mc) (slots + ms) Q (F0 m pc ls rest) q9)
    (kk : ∀ (r : UInt64) (u : S) (t : State) (H1 : Heap) (locs1 : List Loc), t.heap = H1 → s.vm.Alike t.vm → post r u → B u t → H.size ≤ H1.size → (∀ q : Nat, q < H.size → ¬ A1 q → H1[q]? = H[q]?) → va_S A0 H0 H1 locs1 → W p l e R s m args below meth c H1 locs1 (cells + mc) (slots + ms) Q (F0 m (pc + 3) ls (.double r :: rest))) : W p l e R s m args below meth c H locs cells slots Q (F0 m pc ls st0) := by
  intro T hT X
  rcases hr T hT X with ⟨v, st₀, t, T', L, h0, X', hL, e1, e2, ⟨⟨r, u, hv, hp, hb⟩, hF⟩, st⟩ | ⟨q, st₀, t, T', L, E, ce, h0, X', hL, e1, e2, ⟨u, hp, hb, hF⟩, hce, hcv, hcl, st⟩
  · cases hv
    obtain ⟨k1, k2, k3⟩ := vx_keep h0 e1 hS hA hf hL hF
    obtain ⟨t2, a1, b1⟩ := kk r u t T'.heap (locs ++ L) e1.symm (by rw [← e2]; exact X'.warmed.alike) hp hb k1 k2 k3 T' rfl X'
    exact ⟨t2, st t2 a1, b1⟩
  · obtain ⟨k1, k2, k3⟩ := vx_keep h0 e1 hS hAX hf hL hF
    obtain ⟨t2, a1, b1⟩ := kx E ce q u t T'.heap (locs ++ L) e1.symm (by rw [← e2]; exact X'.warmed.alike) hp hb k1 k2 k3 (by rw [e1]; exact hce) hcv hcl T' rfl X'
    exact ⟨t2, st.trans a1, b1⟩
theorem vx_callv {S SX : Type} {post : S → Prop} {px : SX → Prop} {B : S → State → Prop} {BX : String → SX → State → Prop} {AX : Nat → Prop} (hr : vx_Run p l e R s m args below meth c H locs cells slots mc ms (F0 m pc ls st0) rest (va_Qv post B A1 a) (vx_X px BX AX) free) (hS : va_S A0 H0 H locs) (hA : ∀ q, q < H.size → A1 q → A0 q) (hf : ∀ q, free q → A0 q) (hAX : ∀ q, q < H.size → AX q → A0 q)
    (kx : ∀ (E : String) (ce : Cell) (q9 : Addr) (u : SX) (t : State) (H1 : Heap) (locs1 : List Loc), t.heap = H1 → s.vm.Alike t.vm → px u → BX E u t → H.size ≤ H1.size → (∀ q : Nat, q < H.size → ¬ AX q → H1[q]? = H[q]?) → va_S A0 H0 H1 locs1 → H1[q9]? = some ce → ce.vm = .none → s.vm.findClass E = some ce.cls → vx_W p l e R s m args below meth c H1 locs1 (cells + mc) (slots + ms) Q (F0 m pc ls rest) q9)
    (kk : ∀ (u : S) (t : State) (H1 : Heap) (locs1 : List Loc), t.heap = H1 → s.vm.Alike t.vm → post u → B u t → H.size ≤ H1.size → (∀ q : Nat, q < H.size → ¬ A1 q → H1[q]? = H[q]?) → va_S A0 H0 H1 locs1 → W p l e R s m args below meth c H1 locs1 (cells + mc) (slots + ms) Q (F0 m (pc + 3) ls (rest))) : W p l e R s m args below meth c H locs cells slots Q (F0 m pc ls st0) := by
  intro T hT X
  rcases hr T hT X with ⟨v, st₀, t, T', L, h0, X', hL, e1, e2, ⟨⟨u, hv, hp, hb⟩, hF⟩, st⟩ | ⟨q, st₀, t, T', L, E, ce, h0, X', hL, e1, e2, ⟨u, hp, hb, hF⟩, hce, hcv, hcl, st⟩
  · cases hv
    obtain ⟨k1, k2, k3⟩ := vx_keep h0 e1 hS hA hf hL hF
    obtain ⟨t2, a1, b1⟩ := kk u t T'.heap (locs ++ L) e1.symm (by rw [← e2]; exact X'.warmed.alike) hp hb k1 k2 k3 T' rfl X'
    exact ⟨t2, st t2 a1, b1⟩
  · obtain ⟨k1, k2, k3⟩ := vx_keep h0 e1 hS hAX hf hL hF
    obtain ⟨t2, a1, b1⟩ := kx E ce q u t T'.heap (locs ++ L) e1.symm (by rw [← e2]; exact X'.warmed.alike) hp hb k1 k2 k3 (by rw [e1]; exact hce) hcv hcl T' rfl X'
    exact ⟨t2, st.trans a1, b1⟩
/-- caught by the row x of this method's table; the rows ahead don't take it -/
theorem vx_catch {own name : String} {E : String} {ce : Cell} {q : Addr} (hown : s.vm.findClass own = some m.cls) (pre : List ExceptionTableEntry) (x : ExceptionTableEntry) (suf : List ExceptionTableEntry) (hsplit : c.exceptionTable.toList = pre ++ x :: suf)
    (hpass : ∀ z ∈ pre, covers z pc = false ∨ (z.catchType ≠ 0 ∧ ∃ nm : String, (Cond.classLink own z.catchType nm).before args s = true ∧ va_Nc E nm s)) (hx : covers x pc = true) (h0 : x.catchType ≠ 0)
    (hlink : (Cond.classLink own x.catchType name).before args s = true) (hcast : (Cond.castable E name).before args s = true) (hcell : H[q]? = some ce) (hv : ce.vm = .none) (hcl : s.vm.findClass E = some ce.cls)
    (kk : W p l e R s m args below meth c H locs cells slots Q (F0 m x.handlerPc ls [.ref q])) : vx_W p l e R s m args below meth c H locs cells slots Q (F0 m pc ls rest) q := by
  intro T hT X
  have hpl : e.platform.magicAccessors = ({} : Platform).magicAccessors := by rw [X.admits.platform]
  obtain ⟨c3, c4, hc3, hc4, hasg⟩ := Cond.castable_spec hcast
  cases Option.some.inj (hc3.symm.trans hcl)
  obtain ⟨c5, hc5, hcl5⟩ := Cond.classLink_spec hown hlink e.platform hpl
  cases Option.some.inj (hc4.symm.trans hc5)
  obtain ⟨vm', X', st⟩ := X.thenCaughtThrough q (g := F0 m pc ls rest) rfl (Steps.refl _) (by rw [hT]; exact hcell) (by rw [hv]; rfl) (by obtain ⟨k9, h9, -⟩ := Vm.findClass_spec hcl; exact ⟨k9, h9⟩) pre x suf hsplit
    (fun z hz => by
      rcases hpass z hz with h | ⟨hz0, nm, hl1, hn1⟩
      · exact Or.inl h
      · obtain ⟨c6, hc6, hcl6⟩ := Cond.classLink_spec hown hl1 e.platform hpl
        obtain ⟨a8, b8, h1, h2, h3⟩ := hn1
        cases Option.some.inj (h1.symm.trans hcl)
        cases Option.some.inj (h2.symm.trans hc6)
        exact Or.inr ⟨hz0, _, hcl6, h3⟩) hx (Or.inr ⟨h0, c4, hcl5, hasg⟩)
  obtain ⟨t, a1, b1⟩ := kk (T.setVm vm') hT X'
  exact ⟨t, st.trans a1, b1⟩
end Rows
section Ends
variable {p : Program} {l : Launch} {e : Env} {R : Room} {s : State} {m : MethodId} {args : Array Value} {below : List Frame} {meth : Method} {c : Code} {H : Heap} {locs : List Loc} {cells slots : Nat} {Q : State → Prop}
variable {mc ms : Nat} {free : Addr → Prop} {A0 A1 : Nat → Prop} {H0 : Heap} {a : Array Value} {ls : Array Slot} {st0 rest : List Value}
variable {Qc : Array Value → State → Outcome → State → Prop} {XC : String → State → State → Prop}
/-- what a body that may throw owes at its end -/
def vx_MQ (below : List Frame) (Qc : Array Value → State → Outcome → State → Prop) (XC : String → State → State → Prop) (a : Array Value) (s : State) (mc ms : Nat) (free : Addr → Prop) : State → Prop := fun t =>
  ∃ o, t.status = .running ∧ Ended t below o ∧ vx_Q Qc XC mc ms free a s o t
theorem vx_ret {g : JFrame} {mc ms : Nat} (k : W p l e R s m args below meth c H locs cells slots (MQ below Qc args s mc ms free) g) : W p l e R s m args below meth c H locs cells slots (vx_MQ below Qc XC args s mc ms free) g := by
  intro T hT X
  obtain ⟨t, a1, o, b1, b2, b3, b4⟩ := k T hT X
  exact ⟨t, a1, o, b1, b2, Or.inl ⟨b3, b4⟩⟩
/-- not caught here: it goes on to the caller -/
theorem vx_widen {g : JFrame} {q : Addr} {k n : Nat} (h1 : cells ≤ k) (h2 : slots ≤ n) (kk : vx_W p l e R s m args below meth c H locs k n Q g q) : vx_W p l e R s m args below meth c H locs cells slots Q g q := fun T hT X => kk T hT (stand_widen X h1 h2)
theorem vx_out {pc : Nat} {E : String} {ce : Cell} {q : Addr} {mc ms : Nat} (hout : ∀ x ∈ c.exceptionTable.toList, covers x pc = false) (hlocks : meth.locks = false) (hcell : H[q]? = some ce) (hv : ce.vm = .none) (hcl : s.vm.findClass E = some ce.cls)
    (hx : ∀ t : State, t.heap = H → s.vm.Alike t.vm → XC E s t) (hf : ∀ z ∈ locs, free z.base) (hc : cells ≤ mc) (hs : slots ≤ ms) :
    vx_W p l e R s m args below meth c H locs cells slots (vx_MQ below Qc XC args s mc ms free) (F0 m pc ls rest) q := by
  intro T hT X
  obtain ⟨st1, hrun, hend, hW, hsm⟩ := X.leaveThrown q (g := F0 m pc ls rest) rfl rfl rfl hout hlocks
  have hcell9 : (T.setFrames (.throwing q :: below)).heap[q]? = some ce := by
    show T.heap[q]? = some ce
    rw [hT]; exact hcell
  exact ⟨_, st1, .threw q, hrun, hend, Or.inr ⟨q, rfl, E, ce, locs, hx _ hT hW.alike, hcell9, hv, hcl, hW, hsm.mono hc hs, hf⟩⟩
theorem vx_frame {U : State} {k n : Nat} (h : s.sameButNew ({ U with vm := s.vm } : State) locs k n) : s.heap.size ≤ U.heap.size ∧ ∀ q : Nat, q < s.heap.size → (∀ z ∈ locs, z.base ≠ q) → U.heap[q]? = s.heap[q]? := by
  obtain ⟨-, h2, -, -, -, h6⟩ := h
  refine ⟨h2, fun q hq hz => ?_⟩
  obtain ⟨c9, e1, e2, e3, e4⟩ := h6 q _ (Array.getElem?_eq_getElem hq)
  have hs : c9.slots = (s.heap[q]).slots := Array.ext_getElem? fun i => e4 i fun hm => hz _ hm rfl
  have h9 : c9 = s.heap[q] := by
    rw [hs] at e2
    exact e2
  have e5 : U.heap[q]? = some c9 := e1
  rw [e5, h9, Array.getElem?_eq_getElem hq]
/-- the words of a throw but the four that speak of the heap -/
def vx_no (w : Cond) : Bool := decide (w ≠ .isRef (.static Bundle.tN "UNASSIGNED_STACK" Bundle.steD)) && decide (w ≠ .isRef (.static Bundle.tN "SUPPRESSED_SENTINEL" Bundle.listD)) && decide (w ≠ .laysStatic Bundle.tN "UNASSIGNED_STACK" Bundle.steD) && decide (w ≠ .laysStatic Bundle.tN "SUPPRESSED_SENTINEL" Bundle.listD)
def vx_at0 (own : String) (ic : Nat) (X : String) (names : List String) : List Cond := (Bundle.ownAtoms0 own ic X names).filter vx_no
def vx_atS (own : String) (ic : Nat) (X : String) (names : List String) : List Cond := (Bundle.ownAtoms own ic X names).filter vx_no
/-- a word that the tables alone decide, or a good one -/
def vx_ot (w : Cond) : Bool := w.onTables || goodWord w
theorem vx_ot_at {args a' : Array Value} {s U : State} {w : Cond} (hW : s.WarmedH U.vm) (hvm : s.vm = U.vm) (hg : vx_ot w = true) (h : w.before args s = true) : w.before a' U = true := by
  simp only [vx_ot, Bool.or_eq_true] at hg
  rcases hg with hg | hg
  · exact va_tabs hg hvm h
  · exact word_at hW (good_of_word hg) h
/-- a list's words: the good ones out of the method's own list, the others by premises of their own -/
theorem vx_hat {args : Array Value} {s : State} {L B : List Cond} (h1 : ∀ w ∈ L.filter goodWord, w.before args s = true) (h2 : ∀ w ∈ L.filter (fun w => !goodWord w), w ∈ B) (h3 : ∀ w ∈ B, w.before args s = true) : ∀ w ∈ L, w.before args s = true := by
  intro w hw
  by_cases g : goodWord w = true
  · exact h1 w (List.mem_filter.mpr ⟨hw, g⟩)
  · refine h3 w (h2 w (List.mem_filter.mpr ⟨hw, ?_⟩))
    show (!goodWord w) = true
    cases hgw : goodWord w
    · rfl
    · exact absurd hgw g
theorem vx_c {args : Array Value} {s : State} {w : Cond} {B : List Cond} (h : w.before args s = true) (t : ∀ w ∈ B, w.before args s = true) : ∀ w' ∈ w :: B, w'.before args s = true := fun w' h' => (List.mem_cons.mp h').elim (fun e => by rw [e]; exact h) (t w')
theorem vx_n {args : Array Value} {s : State} : ∀ w ∈ ([] : List Cond), w.before args s = true := fun _ h => nomatch h
theorem vx_own {args : Array Value} {s : State} {L : List Cond} (h1 : ∀ w ∈ L.filter vx_no, w.before args s = true)
    (hU : (Cond.isRef (.static Bundle.tN "UNASSIGNED_STACK" Bundle.steD)).before args s = true) (hN : (Cond.isRef (.static Bundle.tN "SUPPRESSED_SENTINEL" Bundle.listD)).before args s = true)
    (lU : (Cond.laysStatic Bundle.tN "UNASSIGNED_STACK" Bundle.steD).before args s = true) (lN : (Cond.laysStatic Bundle.tN "SUPPRESSED_SENTINEL" Bundle.listD).before args s = true) : ∀ w ∈ L, w.before args s = true := by
  intro w hw
  by_cases e1 : w = .isRef (.static Bundle.tN "UNASSIGNED_STACK" Bundle.steD)
  · rw [e1]; exact hU
  · by_cases e2 : w = .isRef (.static Bundle.tN "SUPPRESSED_SENTINEL" Bundle.listD)
    · rw [e2]; exact hN
    · by_cases e3 : w = .laysStatic Bundle.tN "UNASSIGNED_STACK" Bundle.steD
      · rw [e3]; exact lU
      · by_cases e4 : w = .laysStatic Bundle.tN "SUPPRESSED_SENTINEL" Bundle.listD
        · rw [e4]; exact lN
        · exact h1 w (List.mem_filter.mpr ⟨hw, by unfold vx_no; rw [decide_eq_true e1, decide_eq_true e2, decide_eq_true e3, decide_eq_true e4]; rfl⟩)
/-- where a static field lies, its class's statics cell in H -/
def vx_L (C n d : String) (A : Nat → Prop) (U : State) (H : Heap) : Prop := ∃ (c : ClassId) (k : Class) (i : Nat) (f : Field) (a : Nat) (cell : Cell), U.vm.findClass C = some c ∧ U.fieldFound? C n d = some (c, k, i, f) ∧ f.isStatic = true ∧ k.statics = some a ∧ H[a]? = some cell ∧ cell.vm.isStatics = true ∧ cell.cls = c ∧ f.slot < cell.slots.size ∧ k.staticTypes[f.slot]? = some f.type ∧ ¬ A a
theorem vx_L.moved {C n d : String} {A : Nat → Prop} {u U : State} {H : Heap} (hvm : u.vm.Alike U.vm) (h : vx_L C n d A u H) : vx_L C n d A U H := by
  obtain ⟨c, k, i, f, a, cell, h1, h2, h3, h4, h5, h6, h7, h8, h9, h10⟩ := h
  obtain ⟨k', hi', he⟩ := State.fieldFound?_setVm hvm h2
  exact ⟨c, k', i, f, a, cell, by rw [hvm.findClass]; exact h1, hi', h3, by rw [he]; exact h4, h5, h6, h7, h8, by rw [he]; exact h9, h10⟩
theorem vx_L.kept {C n d : String} {A : Nat → Prop} {U : State} {H H1 : Heap} (h : vx_L C n d A U H) (hq : ∀ a : Nat, a < H.size → ¬ A a → H1[a]? = H[a]?) : vx_L C n d A U H1 := by
  obtain ⟨c, k, i, f, a, cell, h1, h2, h3, h4, h5, h6, h7, h8, h9, h10⟩ := h
  exact ⟨c, k, i, f, a, cell, h1, h2, h3, h4, by rw [hq a (Array.getElem?_eq_some_iff.mp h5).1 h10]; exact h5, h6, h7, h8, h9, h10⟩
theorem vx_L.narrow {C n d : String} {A B : Nat → Prop} {U : State} {H : Heap} (h : vx_L C n d A U H) (hAB : ∀ q, B q → A q) : vx_L C n d B U H := by
  obtain ⟨c, k, i, f, a, cell, h1, h2, h3, h4, h5, h6, h7, h8, h9, h10⟩ := h
  exact ⟨c, k, i, f, a, cell, h1, h2, h3, h4, h5, h6, h7, h8, h9, fun z => h10 (hAB _ z)⟩
theorem vx_L.word {C n d : String} {A : Nat → Prop} {s : State} {args : Array Value} (h : vx_L C n d A s s.heap) : (Cond.laysStatic C n d).before args s = true := by
  obtain ⟨c, k, i, f, a, cell, h1, h2, h3, h4, h5, h6, h7, h8, h9, -⟩ := h
  show (Cond.laysStatic C n d).holds args s none s [] = true
  exact Cond.laysStatic_of h1 h2 h3 h4 h5 h6 h7 h8 h9
/-- .. and what it holds: null or some reference -/
def vx_Zq (C n d : String) (A : Nat → Prop) (U : State) (H : Heap) : Prop := va_Zq C n d A U H ∧ vx_L C n d A U H
theorem vx_Zq.moved {C n d : String} {A : Nat → Prop} {u U : State} {H : Heap} (hvm : u.vm.Alike U.vm) (h : vx_Zq C n d A u H) : vx_Zq C n d A U H := ⟨va_Zq.moved hvm h.1, vx_L.moved hvm h.2⟩
theorem vx_Zq.kept {C n d : String} {A : Nat → Prop} {U : State} {H H1 : Heap} (h : vx_Zq C n d A U H) (hq : ∀ a : Nat, a < H.size → ¬ A a → H1[a]? = H[a]?) : vx_Zq C n d A U H1 := ⟨va_Zq.kept h.1 hq, vx_L.kept h.2 hq⟩
theorem vx_Zq.narrow {C n d : String} {A B : Nat → Prop} {U : State} {H : Heap} (h : vx_Zq C n d A U H) (hAB : ∀ q, B q → A q) : vx_Zq C n d B U H := ⟨va_Zq.narrow h.1 hAB, vx_L.narrow h.2 hAB⟩
theorem vx_Zqof {args : Array Value} {s : State} {C n d : String} {A : Nat → Prop} (hl : (Cond.laysStatic C n d).before args s = true) (hini : (Cond.initialized C).before args s = true) (h : (Cond.isRef (.static C n d)).before args s = true) (hA : ∀ a : Nat, a < s.heap.size → ¬ A a) : vx_Zq C n d A s s.heap := by
  refine ⟨va_Zqof hl hini h hA, ?_⟩
  obtain ⟨c, k, i, f, a, cell, h1, h2, h3, h4, h5, h6, h7, h8, h9⟩ := Cond.laysStatic_spec hl
  exact ⟨c, k, i, f, a, cell, h1, h2, h3, h4, h5, h6, h7, h8, h9, hA a (Array.getElem?_eq_some_iff.mp h5).1⟩
theorem vx_isRef {C n d : String} {v : Value} {A : Nat → Prop} {s : State} {args : Array Value} (h : va_Z C n d v A s s.heap) (hv : v.isRef = true) : (Cond.isRef (.static C n d)).before args s = true := by
  obtain ⟨cf, kf, fi, f, a, cell, h1, h2, h3, h4, h5, h6, h7, -⟩ := h
  have he : (Term.static C n d).eval args s none [] s = some v := by
    simp [Term.eval, State.fieldNamed?, h1, h2, h4, h5, h6, h7]
  simp only [Cond.before, Cond.holds, Cond.value, he]
  cases v <;> simp_all [Value.isRef]
theorem vx_isRefq {C n d : String} {A : Nat → Prop} {s : State} {args : Array Value} (h : va_Zq C n d A s s.heap) : (Cond.isRef (.static C n d)).before args s = true := by
  rcases h with h | ⟨t, h⟩
  · exact vx_isRef h rfl
  · exact vx_isRef h rfl
/-- the same frame, seen from here: as if the method were called anew in this heap -/
theorem vx_rebase {T : State} (X : Stand p l e R s m args below meth c T locs cells slots) {R' : Room} (hf : R'.frames ≤ R.frames) (hl : R'.locals ≤ R.locals) (hc : cells + R'.cells ≤ R.cells) (hs : slots + R'.slots ≤ R.slots) :
    Stand p l e R' ((T.setVm s.vm).setFrames (.invoking m args :: below)) m args below meth c T [] 0 0 := by
  have htop : (T.setVm s.vm).topJava?.isSome := X.here.top
  have hF : ((T.setVm s.vm).setFrames (.invoking m args :: below)).frames = .invoking m args :: below := State.frames_setFrames _ (State.cur_lt_of_top htop)
  obtain ⟨g₀, hg0⟩ := Option.isSome_iff_exists.mp htop
  obtain ⟨r, hr⟩ := State.topJava?_eq_some.mp hg0
  have hl9 : e.platform.stackLimits (T.setVm s.vm).me = e.platform.stackLimits s.me := X.limits
  have hb9 : (T.setVm s.vm).me.stackBytes = s.me.stackBytes := X.bytes
  refine ⟨X.admits, X.cas, X.clock, hF, ?_, X.hears, X.method, X.code, X.here, X.tail, X.warmed, ?_, ?_, ?_⟩
  · have h := X.room
    have hU : ((T.setVm s.vm).setFrames (.invoking m args :: below)).localsInUse = s.localsInUse := by
      rw [State.localsInUse_invoking hF (meth := meth) (c := c) X.method X.code, State.localsInUse_invoking X.frames X.method X.code]
    simp only [State.hasRoom, Bool.and_eq_true, decide_eq_true_eq] at h ⊢
    obtain ⟨⟨⟨⟨h1, h2, h3, h4, h5, h6⟩, h7⟩, h8⟩, h9⟩ := h
    rw [X.frames, List.length_cons] at h2 h3
    have q1 := X.heapSize
    have q2 := X.used
    simp only [hF, hU, List.length_cons, State.stackLimits_setFrames, State.stackBytes_setFrames, hl9, hb9]
    refine ⟨⟨⟨⟨by omega, by omega, by omega, by omega, by omega, h6⟩, ?_⟩, ?_⟩, X.book⟩
    · show T.heap.size + R'.cells ≤ e.platform.maxCells
      omega
    · show T.slotsUsed + R'.slots ≤ e.platform.maxSlots
      omega
  · rw [State.stackLimits_setFrames]; rfl
  · rw [State.stackBytes_setFrames]; rfl
  · refine ⟨?_, Nat.le_refl _, Nat.le_refl _, ?_, ?_, fun a c9 h9 => ⟨c9, h9, rfl, rfl, fun _ _ => rfl⟩⟩
    · obtain ⟨t, ht, -⟩ := State.frames_cons hr
      show T.setVm s.vm = { ((T.setVm s.vm).setFrames (.invoking m args :: below)).setFrames (T.setVm s.vm).frames with heap := T.heap, slotsUsed := T.slotsUsed }
      rw [State.setFrames_setFrames, State.setFrames_self ht]
      rfl
    · show T.slotsUsed = T.slotsUsed + ((T.heap.toList.drop T.heap.size).map (·.slots.size)).sum
      rw [List.drop_eq_nil_of_le (Nat.le_of_eq Array.length_toList)]
      rfl
    · show ((T.heap.toList.drop T.heap.size).map (·.slots.size)).sum ≤ 0
      rw [List.drop_eq_nil_of_le (Nat.le_of_eq Array.length_toList)]
      exact Nat.le_refl _
/-- 'throw new E()': new; dup; invokespecial; athrow -/
theorem vx_throw0 {cc : ByteArray} {pc : Nat} (hexec : p.tables.exec = Jvm.exec) (hb : c.code = cc) (hl : l.stackTraces = false) {own cls : String} {names : List String} {ik ic mc ms : Nat} {A : Nat → Prop}
    (hown : s.vm.findClass own = some m.cls) (hcls : Bundle.fit cls = true) (hnames : ∀ n ∈ names, Bundle.fit n = true)
    (hk : (Cond.classLink own ik cls).before args s = true) (hini : (Cond.initialized cls).before args s = true) (hat : ∀ w ∈ vx_at0 own ic cls names, w.before args s = true)
    (hgood : ∀ w ∈ Cond.classLink own ik cls :: Cond.initialized cls :: vx_at0 own ic cls names, vx_ot w = true)
    (hU : vx_Zq Bundle.tN "UNASSIGNED_STACK" Bundle.steD A s s.heap) (hN : vx_Zq Bundle.tN "SUPPRESSED_SENTINEL" Bundle.listD A s s.heap) (hS : va_S A s.heap H locs) (hsize : ls.size = c.maxLocals)
    (d0 : decode cc pc = .ok (.new ik, 3)) (d3 : decode cc (pc + 3) = .ok (.dup, 1)) (d4 : decode cc (pc + 4) = .ok (.invokespecial ic, 3)) (d7 : decode cc (pc + 7) = .ok (.athrow, 1))
    (hout : ∀ x ∈ c.exceptionTable.toList, covers x (pc + 7) = false)
    (hRframes : names.length + 3 < R.frames) (hRlocals : (rest.map fun v => v.category).sum + (13 * (names.length + 1) + 42) ≤ R.locals) (hRcells : cells + 1 ≤ R.cells) (hRslots : slots + 6 ≤ R.slots) (hlocks : meth.locks = false)
    (hx : ∀ t : State, s.vm.Alike t.vm → H.size ≤ t.heap.size → (∀ q : Nat, q < H.size → t.heap[q]? = H[q]?) → XC cls s t)
    (hf : ∀ z ∈ locs, free z.base) (hc : cells + 1 ≤ mc) (hs : slots + 6 ≤ ms) :
    W p l e R s m args below meth c H locs cells slots (vx_MQ below Qc XC args s mc ms free) (F0 m pc ls rest) := by
  intro T hT X
  have htr : e.platform.stackTraces = false := (show e.platform.stackTraces = l.stackTraces by rw [X.admits.platform]).trans hl
  have Y := vx_rebase X (R' := { frames := R.frames, locals := R.locals, cells := 1, slots := 6 }) (Nat.le_refl _) (Nat.le_refl _) hRcells hRslots
  obtain ⟨s', hA⟩ : ∃ z, z = (T.setVm s.vm).setFrames (.invoking m args :: below) := ⟨_, rfl⟩
  rw [← hA] at Y
  have hvm : s'.vm = s.vm := by rw [hA]; rfl
  have hhp : s'.heap = H := by rw [hA]; exact hT
  have hW0 : s.WarmedH s'.vm := by rw [hvm]; exact State.WarmedH.refl s
  have hat' : ∀ w ∈ vx_at0 own ic cls names, w.before args s' = true := fun w hw => vx_ot_at hW0 hvm.symm (hgood w (List.mem_cons_of_mem _ (List.mem_cons_of_mem _ hw))) (hat w hw)
  have hk' : (Cond.classLink own ik cls).before args s' = true := vx_ot_at hW0 hvm.symm (hgood _ List.mem_cons_self) hk
  have hini' : (Cond.initialized cls).before args s' = true := vx_ot_at hW0 hvm.symm (hgood _ (List.mem_cons_of_mem _ List.mem_cons_self)) hini
  have hU' : vx_Zq Bundle.tN "UNASSIGNED_STACK" Bundle.steD A s' s'.heap := by rw [hhp]; exact vx_Zq.moved hW0.alike (hU.kept hS.2.1)
  have hN' : vx_Zq Bundle.tN "SUPPRESSED_SENTINEL" Bundle.listD A s' s'.heap := by rw [hhp]; exact vx_Zq.moved hW0.alike (hN.kept hS.2.1)
  have h : ∀ w ∈ Bundle.ownAtoms0 own ic cls names, w.before args s' = true := vx_own hat' (vx_isRefq hU'.1) (vx_isRefq hN'.1) hU'.2.word hN'.2.word
  have hown' : s'.vm.findClass own = some m.cls := by rw [hvm]; exact hown
  have hins : (Cond.instantiable cls 6).before args s' = true := h _ (by simp [Bundle.ownAtoms0])
  obtain ⟨vm₁, cX, kX, hfX, hkX, -, -, X₁, st1⟩ := Y.newCold hexec (own := own) (C := cls) (index := ik) (n := 6) hown' hk' hins hini'
    (g := F0 m pc ls rest) rfl (by rw [hb]; exact d0) (Nat.le_refl _) (Nat.le_refl _)
  generalize hT1 : (T.setVm vm₁).pushCell { cls := cX, slots := kX.instanceTypes.map defaultValue, vm := .none } = T1 at X₁ st1
  have hcat : (Value.ref T.heap.size).category = 1 := rfl
  have hcellA : T1.heap[T.heap.size]? = some (freshCell cX kX) := by rw [← hT1]; exact State.heap_pushCell_size _ _
  have d3' : decode c.code (pc + 3) = .ok (.dup, 1) := by rw [hb]; exact d3
  obtain ⟨U, hsteps, hrun, hend, hW, hsame, ce, hce, hO⟩ := X₁.ctorThrow0 hexec htr (own := own) (cls := cls) (names := names) (ic := ic) hown' hcls hnames h (fun x hx => nomatch hx) hfX hkX hcellA (by rw [hhp, hT]; exact Nat.le_refl _)
    (g := { method := m, pc := pc + 4, locals := ls, stack := .ref T.heap.size :: .ref T.heap.size :: rest, locked := none }) rfl hsize rfl rfl (rest := rest) rfl
    (by rw [hb]; exact d4) (by rw [hb]; exact d7) hout hRframes (by simp only [List.map_cons, List.sum_cons, hcat]; omega) hlocks
  obtain ⟨f1, f2⟩ := vx_frame hsame
  rw [hhp] at f1 f2
  have hWs : s.WarmedH U.vm := State.WarmedH.trans hW0 hW
  have hcl : s.vm.findClass cls = some ce.cls := by
    have h9 := hO.cls
    rw [hvm] at h9
    exact h9
  have hall : s.sameButNew ({ U with vm := s.vm } : State) locs mc ms := by
    subst hA
    obtain ⟨e1, e2⟩ := hsame
    rw [State.setFrames_setFrames] at e1
    have h2 : (T.setVm s.vm).sameButNew ({ U with vm := s.vm } : State) [] (0 + 1) (0 + 6) := ⟨e1, e2⟩
    have h3 := X.same.trans h2
    rw [List.append_nil] at h3
    exact h3.mono hc hs
  refine ⟨U, ?_, .threw T.heap.size, hrun, hend, Or.inr ⟨T.heap.size, rfl, cls, ce, locs, hx U hWs.alike f1 (fun q hq => f2 q hq (fun z hz => nomatch hz)), hce, hO.vm, hcl, hWs, hall, hf⟩⟩
  refine st1 _ ?_
  show Steps p.tables e below (T1.setTop { method := m, pc := pc + 3, locals := ls, stack := .ref T.heap.size :: rest, locked := none }) _
  jvm_step X₁.here [X₁.here.top, hexec, d3', Value.category]
  exact hsteps
/-- 'throw new E("text")': new; dup; ldc; invokespecial; athrow -/
theorem vx_throwS {cc : ByteArray} {pc : Nat} (hexec : p.tables.exec = Jvm.exec) (hb : c.code = cc) (hl : l.stackTraces = false) {own cls text : String} {names : List String} {ik is ic mc ms sa : Nat} {A : Nat → Prop}
    (hown : s.vm.findClass own = some m.cls) (hcls : Bundle.fit cls = true) (hnames : ∀ n ∈ names, Bundle.fit n = true)
    (hk : (Cond.classLink own ik cls).before args s = true) (hini : (Cond.initialized cls).before args s = true) (hstr : vk_R own is text sa s) (hat : ∀ w ∈ vx_atS own ic cls names, w.before args s = true)
    (hgood : ∀ w ∈ Cond.classLink own ik cls :: Cond.initialized cls :: vx_atS own ic cls names, vx_ot w = true)
    (hU : vx_Zq Bundle.tN "UNASSIGNED_STACK" Bundle.steD A s s.heap) (hN : vx_Zq Bundle.tN "SUPPRESSED_SENTINEL" Bundle.listD A s s.heap) (hS : va_S A s.heap H locs) (hsize : ls.size = c.maxLocals)
    (d0 : decode cc pc = .ok (.new ik, 3)) (d3 : decode cc (pc + 3) = .ok (.dup, 1)) (d4 : decode cc (pc + 4) = .ok (.ldc is, 2)) (d6 : decode cc (pc + 6) = .ok (.invokespecial ic, 3)) (d9 : decode cc (pc + 9) = .ok (.athrow, 1))
    (hout : ∀ x ∈ c.exceptionTable.toList, covers x (pc + 9) = false)
    (hRframes : names.length + 3 < R.frames) (hRlocals : (rest.map fun v => v.category).sum + (13 * (names.length + 1) + 43) ≤ R.locals) (hRcells : cells + 1 ≤ R.cells) (hRslots : slots + 6 ≤ R.slots) (hlocks : meth.locks = false)
    (hx : ∀ t : State, s.vm.Alike t.vm → H.size ≤ t.heap.size → (∀ q : Nat, q < H.size → t.heap[q]? = H[q]?) → XC cls s t)
    (hf : ∀ z ∈ locs, free z.base) (hc : cells + 1 ≤ mc) (hs : slots + 6 ≤ ms) :
    W p l e R s m args below meth c H locs cells slots (vx_MQ below Qc XC args s mc ms free) (F0 m pc ls rest) := by
  intro T hT X
  have htr : e.platform.stackTraces = false := (show e.platform.stackTraces = l.stackTraces by rw [X.admits.platform]).trans hl
  have Y := vx_rebase X (R' := { frames := R.frames, locals := R.locals, cells := 1, slots := 6 }) (Nat.le_refl _) (Nat.le_refl _) hRcells hRslots
  obtain ⟨s', hA⟩ : ∃ z, z = (T.setVm s.vm).setFrames (.invoking m args :: below) := ⟨_, rfl⟩
  rw [← hA] at Y
  have hvm : s'.vm = s.vm := by rw [hA]; rfl
  have hhp : s'.heap = H := by rw [hA]; exact hT
  have hW0 : s.WarmedH s'.vm := by rw [hvm]; exact State.WarmedH.refl s
  have hat' : ∀ w ∈ vx_atS own ic cls names, w.before args s' = true := fun w hw => vx_ot_at hW0 hvm.symm (hgood w (List.mem_cons_of_mem _ (List.mem_cons_of_mem _ hw))) (hat w hw)
  have hk' : (Cond.classLink own ik cls).before args s' = true := vx_ot_at hW0 hvm.symm (hgood _ List.mem_cons_self) hk
  have hini' : (Cond.initialized cls).before args s' = true := vx_ot_at hW0 hvm.symm (hgood _ (List.mem_cons_of_mem _ List.mem_cons_self)) hini
  have hU' : vx_Zq Bundle.tN "UNASSIGNED_STACK" Bundle.steD A s' s'.heap := by rw [hhp]; exact vx_Zq.moved hW0.alike (hU.kept hS.2.1)
  have hN' : vx_Zq Bundle.tN "SUPPRESSED_SENTINEL" Bundle.listD A s' s'.heap := by rw [hhp]; exact vx_Zq.moved hW0.alike (hN.kept hS.2.1)
  have h : ∀ w ∈ Bundle.ownAtoms own ic cls names, w.before args s' = true := vx_own hat' (vx_isRefq hU'.1) (vx_isRefq hN'.1) hU'.2.word hN'.2.word
  have hown' : s'.vm.findClass own = some m.cls := by rw [hvm]; exact hown
  have hins : (Cond.instantiable cls 6).before args s' = true := h _ (by simp [Bundle.ownAtoms])
  obtain ⟨vm₁, cX, kX, hfX, hkX, -, -, X₁, st1⟩ := Y.newCold hexec (own := own) (C := cls) (index := ik) (n := 6) hown' hk' hins hini'
    (g := F0 m pc ls rest) rfl (by rw [hb]; exact d0) (Nat.le_refl _) (Nat.le_refl _)
  generalize hT1 : (T.setVm vm₁).pushCell { cls := cX, slots := kX.instanceTypes.map defaultValue, vm := .none } = T1 at X₁ st1
  have hcat : (Value.ref T.heap.size).category = 1 := rfl
  have hcellA : T1.heap[T.heap.size]? = some (freshCell cX kX) := by rw [← hT1]; exact State.heap_pushCell_size _ _
  have d3' : decode c.code (pc + 3) = .ok (.dup, 1) := by rw [hb]; exact d3
  have d4' : decode c.code (pc + 4) = .ok (.ldc is, 2) := by rw [hb]; exact d4
  have hstr' : vk_R own is text sa s' := vk_R.warm hW0 hstr
  obtain ⟨U, hsteps, hrun, hend, hW, hsame, ce, hce, hO⟩ := X₁.ctorThrowS hexec htr (own := own) (cls := cls) (names := names) (ic := ic) hown' hcls hnames h (fun x hx => nomatch hx) hfX hkX hcellA (by rw [hhp, hT]; exact Nat.le_refl _) (msg := .ref sa) rfl
    (g := { method := m, pc := pc + 6, locals := ls, stack := .ref sa :: .ref T.heap.size :: .ref T.heap.size :: rest, locked := none }) rfl hsize rfl rfl (rest := rest) rfl
    (by rw [hb]; exact d6) (by rw [hb]; exact d9) hout hRframes (by simp only [List.map_cons, List.sum_cons, hcat]; omega) hlocks
  obtain ⟨f1, f2⟩ := vx_frame hsame
  rw [hhp] at f1 f2
  have hWs : s.WarmedH U.vm := State.WarmedH.trans hW0 hW
  have hcl : s.vm.findClass cls = some ce.cls := by
    have h9 := hO.cls
    rw [hvm] at h9
    exact h9
  have hall : s.sameButNew ({ U with vm := s.vm } : State) locs mc ms := by
    subst hA
    obtain ⟨e1, e2⟩ := hsame
    rw [State.setFrames_setFrames] at e1
    have h2 : (T.setVm s.vm).sameButNew ({ U with vm := s.vm } : State) [] (0 + 1) (0 + 6) := ⟨e1, e2⟩
    have h3 := X.same.trans h2
    rw [List.append_nil] at h3
    exact h3.mono hc hs
  refine ⟨U, ?_, .threw T.heap.size, hrun, hend, Or.inr ⟨T.heap.size, rfl, cls, ce, locs, hx U hWs.alike f1 (fun q hq => f2 q hq (fun z hz => nomatch hz)), hce, hO.vm, hcl, hWs, hall, hf⟩⟩
  refine st1 _ ?_
  show Steps p.tables e below (T1.setTop { method := m, pc := pc + 3, locals := ls, stack := .ref T.heap.size :: rest, locked := none }) _
  jvm_step X₁.here [X₁.here.top, hexec, d3', Value.category]
  exact X₁.ldcString hexec (own := own) (text := text) (index := is) (a := sa) hown' hstr'.1 hstr'.2
    (g := { method := m, pc := pc + 4, locals := ls, stack := .ref T.heap.size :: .ref T.heap.size :: rest, locked := none }) rfl d4' _ hsteps
/-- 'throw new E("text")', the text by a wide index -/
theorem vx_throwSW {cc : ByteArray} {pc : Nat} (hexec : p.tables.exec = Jvm.exec) (hb : c.code = cc) (hl : l.stackTraces = false) {own cls text : String} {names : List String} {ik is ic mc ms sa : Nat} {A : Nat → Prop}
    (hown : s.vm.findClass own = some m.cls) (hcls : Bundle.fit cls = true) (hnames : ∀ n ∈ names, Bundle.fit n = true)
    (hk : (Cond.classLink own ik cls).before args s = true) (hini : (Cond.initialized cls).before args s = true) (hstr : vk_R own is text sa s) (hat : ∀ w ∈ vx_atS own ic cls names, w.before args s = true)
    (hgood : ∀ w ∈ Cond.classLink own ik cls :: Cond.initialized cls :: vx_atS own ic cls names, vx_ot w = true)
    (hU : vx_Zq Bundle.tN "UNASSIGNED_STACK" Bundle.steD A s s.heap) (hN : vx_Zq Bundle.tN "SUPPRESSED_SENTINEL" Bundle.listD A s s.heap) (hS : va_S A s.heap H locs) (hsize : ls.size = c.maxLocals)
    (d0 : decode cc pc = .ok (.new ik, 3)) (d3 : decode cc (pc + 3) = .ok (.dup, 1)) (d4 : decode cc (pc + 4) = .ok (.ldc_w is, 3)) (d7 : decode cc (pc + 7) = .ok (.invokespecial ic, 3)) (d10 : decode cc (pc + 10) = .ok (.athrow, 1))
    (hout : ∀ x ∈ c.exceptionTable.toList, covers x (pc + 10) = false)
    (hRframes : names.length + 3 < R.frames) (hRlocals : (rest.map fun v => v.category).sum + (13 * (names.length + 1) + 43) ≤ R.locals) (hRcells : cells + 1 ≤ R.cells) (hRslots : slots + 6 ≤ R.slots) (hlocks : meth.locks = false)
    (hx : ∀ t : State, s.vm.Alike t.vm → H.size ≤ t.heap.size → (∀ q : Nat, q < H.size → t.heap[q]? = H[q]?) → XC cls s t)
    (hf : ∀ z ∈ locs, free z.base) (hc : cells + 1 ≤ mc) (hs : slots + 6 ≤ ms) :
    W p l e R s m args below meth c H locs cells slots (vx_MQ below Qc XC args s mc ms free) (F0 m pc ls rest) := by
  intro T hT X
  have htr : e.platform.stackTraces = false := (show e.platform.stackTraces = l.stackTraces by rw [X.admits.platform]).trans hl
  have Y := vx_rebase X (R' := { frames := R.frames, locals := R.locals, cells := 1, slots := 6 }) (Nat.le_refl _) (Nat.le_refl _) hRcells hRslots
  obtain ⟨s', hA⟩ : ∃ z, z = (T.setVm s.vm).setFrames (.invoking m args :: below) := ⟨_, rfl⟩
  rw [← hA] at Y
  have hvm : s'.vm = s.vm := by rw [hA]; rfl
  have hhp : s'.heap = H := by rw [hA]; exact hT
  have hW0 : s.WarmedH s'.vm := by rw [hvm]; exact State.WarmedH.refl s
  have hat' : ∀ w ∈ vx_atS own ic cls names, w.before args s' = true := fun w hw => vx_ot_at hW0 hvm.symm (hgood w (List.mem_cons_of_mem _ (List.mem_cons_of_mem _ hw))) (hat w hw)
  have hk' : (Cond.classLink own ik cls).before args s' = true := vx_ot_at hW0 hvm.symm (hgood _ List.mem_cons_self) hk
  have hini' : (Cond.initialized cls).before args s' = true := vx_ot_at hW0 hvm.symm (hgood _ (List.mem_cons_of_mem _ List.mem_cons_self)) hini
  have hU' : vx_Zq Bundle.tN "UNASSIGNED_STACK" Bundle.steD A s' s'.heap := by rw [hhp]; exact vx_Zq.moved hW0.alike (hU.kept hS.2.1)
  have hN' : vx_Zq Bundle.tN "SUPPRESSED_SENTINEL" Bundle.listD A s' s'.heap := by rw [hhp]; exact vx_Zq.moved hW0.alike (hN.kept hS.2.1)
  have h : ∀ w ∈ Bundle.ownAtoms own ic cls names, w.before args s' = true := vx_own hat' (vx_isRefq hU'.1) (vx_isRefq hN'.1) hU'.2.word hN'.2.word
  have hown' : s'.vm.findClass own = some m.cls := by rw [hvm]; exact hown
  have hins : (Cond.instantiable cls 6).before args s' = true := h _ (by simp [Bundle.ownAtoms])
  obtain ⟨vm₁, cX, kX, hfX, hkX, -, -, X₁, st1⟩ := Y.newCold hexec (own := own) (C := cls) (index := ik) (n := 6) hown' hk' hins hini'
    (g := F0 m pc ls rest) rfl (by rw [hb]; exact d0) (Nat.le_refl _) (Nat.le_refl _)
  generalize hT1 : (T.setVm vm₁).pushCell { cls := cX, slots := kX.instanceTypes.map defaultValue, vm := .none } = T1 at X₁ st1
  have hcat : (Value.ref T.heap.size).category = 1 := rfl
  have hcellA : T1.heap[T.heap.size]? = some (freshCell cX kX) := by rw [← hT1]; exact State.heap_pushCell_size _ _
  have d3' : decode c.code (pc + 3) = .ok (.dup, 1) := by rw [hb]; exact d3
  have d4' : decode c.code (pc + 4) = .ok (.ldc_w is, 3) := by rw [hb]; exact d4
  have hstr' : vk_R own is text sa s' := vk_R.warm hW0 hstr
  obtain ⟨U, hsteps, hrun, hend, hW, hsame, ce, hce, hO⟩ := X₁.ctorThrowS hexec htr (own := own) (cls := cls) (names := names) (ic := ic) hown' hcls hnames h (fun x hx => nomatch hx) hfX hkX hcellA (by rw [hhp, hT]; exact Nat.le_refl _) (msg := .ref sa) rfl
    (g := { method := m, pc := pc + 7, locals := ls, stack := .ref sa :: .ref T.heap.size :: .ref T.heap.size :: rest, locked := none }) rfl hsize rfl rfl (rest := rest) rfl
    (by rw [hb]; exact d7) (by rw [hb]; exact d10) hout hRframes (by simp only [List.map_cons, List.sum_cons, hcat]; omega) hlocks
  obtain ⟨f1, f2⟩ := vx_frame hsame
  rw [hhp] at f1 f2
  have hWs : s.WarmedH U.vm := State.WarmedH.trans hW0 hW
  have hcl : s.vm.findClass cls = some ce.cls := by
    have h9 := hO.cls
    rw [hvm] at h9
    exact h9
  have hall : s.sameButNew ({ U with vm := s.vm } : State) locs mc ms := by
    subst hA
    obtain ⟨e1, e2⟩ := hsame
    rw [State.setFrames_setFrames] at e1
    have h2 : (T.setVm s.vm).sameButNew ({ U with vm := s.vm } : State) [] (0 + 1) (0 + 6) := ⟨e1, e2⟩
    have h3 := X.same.trans h2
    rw [List.append_nil] at h3
    exact h3.mono hc hs
  refine ⟨U, ?_, .threw T.heap.size, hrun, hend, Or.inr ⟨T.heap.size, rfl, cls, ce, locs, hx U hWs.alike f1 (fun q hq => f2 q hq (fun z hz => nomatch hz)), hce, hO.vm, hcl, hWs, hall, hf⟩⟩
  refine st1 _ ?_
  show Steps p.tables e below (T1.setTop { method := m, pc := pc + 3, locals := ls, stack := .ref T.heap.size :: rest, locked := none }) _
  jvm_step X₁.here [X₁.here.top, hexec, d3', Value.category]
  exact X₁.ldcStringW hexec (own := own) (text := text) (index := is) (a := sa) hown' hstr'.1 hstr'.2
    (g := { method := m, pc := pc + 4, locals := ls, stack := .ref T.heap.size :: .ref T.heap.size :: rest, locked := none }) rfl d4' _ hsteps
end Ends
section Bodies
variable {l : Launch}
theorem vx_ofW {y : MethodName} {ws ws' : List Cond} {rm : Room} {Pc : Array Value → State → Prop} {Qc : Array Value → State → Outcome → State → Prop} {XC : String → State → State → Prop} {mc ms : Nat} {free : Addr → Prop} {cc : ByteArray} {maxL : Nat} {ret : Option FieldType}
    (hy : plainName y.cls = true) (hw : ws = Cond.code y cc maxL ret :: ws')
    (body : ∀ p e s m args below meth c s₁, BodyLoose p l y (headSpec ws rm) cc maxL ret e s m args below meth c s₁ → c.maxLocals = maxL → (∀ x ∈ c.exceptionTable.toList, False) → Pc args s →
      W p l e (headSpec ws rm).room s m args below meth c s.heap [] 0 0 (vx_MQ below Qc XC args s mc ms free) (entryFrame m args maxL)) : vx_Met l y ws rm Pc Qc XC mc ms free := by
  refine MetFree.of_bodyS (code := cc) (maxLocals := maxL) (ret := ret) hy ?_ ?_
  · intro args s m h hn
    obtain ⟨meth, c, h1, h2, h3, h4, h5, h6, -, -⟩ := Cond.code_spec hn (atoms_spec (ws := ws) h _ (by rw [hw]; exact List.mem_cons_self))
    exact ⟨meth, c, h1, h2, h3, h4, h5, h6⟩
  · intro p e s m args below meth c s₁ B hml hP _
    have hh0 : s₁.heap = s.heap := by rw [B.state]; rfl
    have ht : ∀ x ∈ c.exceptionTable.toList, False := by
      obtain ⟨meth9, c9, h1, h2, -, -, -, -, h7, -⟩ := Cond.code_spec B.named (atoms_spec (ws := ws) B.pre _ (by rw [hw]; exact List.mem_cons_self))
      cases Option.some.inj (h1.symm.trans B.method)
      cases Option.some.inj (h2.symm.trans (Stand.of_body B).code)
      intro x hx
      rw [Array.isEmpty_iff.mp h7] at hx
      cases hx
    obtain ⟨t, a1, o, b1, b2, b3⟩ := body p e s m args below meth c s₁ B hml ht hP s₁ hh0 (Stand.of_body B)
    exact ⟨t, o, a1, b1, b2, b3⟩
/-- the table of a body with handlers -/
theorem vx_table {p : Program} {x y : MethodName} {S : Spec} {cc bytes : ByteArray} {maxL maxL' : Nat} {ret ret' : Option FieldType} {e : Env} {s s₁ : State} {m : MethodId} {args : Array Value} {below : List Frame} {meth : Method} {c : Code} {hh : List (Nat × Nat × Nat × Nat)}
    (B : BodyLoose p l y S cc maxL ret e s m args below meth c s₁) (h : (Cond.codeWith y bytes maxL' ret' hh).before args s = true) : c.exceptionTable.toList = tableOf hh := by
  obtain ⟨m9, meth9, c9, hn9, h1, h2, -, -, h6, -⟩ := Cond.codeWith_spec h
  cases Option.some.inj (hn9.symm.trans B.named)
  cases Option.some.inj (h1.symm.trans B.method)
  cases Option.some.inj (h2.symm.trans (Stand.of_body B).code)
  rw [← h6, table_eq]
end Bodies
end VXA
/-! ===== END ===== -/
/-! ===== BEGIN a static call of a method with an exception table ===== -/
section VXS
variable {p : Program} {l : Launch} {e : Env} {R : Room} {s : State} {m : MethodId} {args : Array Value} {below : List Frame} {meth : Method} {c : Code} {T : State} {H : Heap} {locs : List Loc} {cells slots : Nat}
abbrev vx_CSW (R : Room) (s : State) (args : Array Value) (own : String) (index : Nat) (y : MethodName) (bytes : ByteArray) (maxL : Nat) (ret : Option FieldType) (hh : List (Nat × Nat × Nat × Nat)) (ws : List Cond) (rm : Room) (mc ms n : Nat) : Prop :=
  (rm.cells = mc ∧ rm.slots = ms ∧ rm.frames + 1 ≤ R.frames ∧ 8 + (maxL + 11) + rm.locals ≤ R.locals ∧ (∀ w ∈ ws, ∀ (a' : Array Value) (U : State), s.WarmedH U.vm → w.before a' U = true) ∧ Cond.codeWith y bytes maxL ret hh ∈ ws) ∧
  (Cond.codeWith y bytes maxL ret hh).before args s = true ∧ (Cond.initialized y.cls).before args s = true ∧ (y.cls ≠ "java/lang/invoke/MethodHandle" ∧ y.cls ≠ "java/lang/invoke/VarHandle") ∧
  (∀ sig, parseMethodDescriptor y.desc = some sig → n = sig.parameters.length) ∧ (Cond.methodLink own index y).before args s = true ∧ (Cond.static y).before args s = true
theorem vx_cwSW {own : String} {index maxL mc ms : Nat} {y : MethodName} {bytes : ByteArray} {ret : Option FieldType} {hh : List (Nat × Nat × Nat × Nat)} {Ts ws ws' : List Cond} {rm : Room} (n : Nat) (ht : ∀ w ∈ Ts, w.before args s = true) (hT : GoodIn Ts (va_wsS own index y ws)) (hw : ws = Cond.codeWith y bytes maxL ret hh :: ws') (hrc : rm.cells = mc) (hrs : rm.slots = ms)
    (hd : y.cls ≠ "java/lang/invoke/MethodHandle" ∧ y.cls ≠ "java/lang/invoke/VarHandle" ∧ (parseMethodDescriptor y.desc).map (fun d => d.parameters.length) = some n) (hR : rm.frames + 1 ≤ R.frames ∧ 8 + (maxL + 11) + rm.locals ≤ R.locals) :
    vx_CSW R s args own index y bytes maxL ret hh ws rm mc ms n := by
  have ok : ∀ w ∈ va_wsS own index y ws, w.before args s = true := fun w h => ht w (hT w h).1
  have hG : GoodIn Ts ws := fun w h => hT w (by unfold va_wsS; exact List.mem_append_right _ h)
  have hc : Cond.codeWith y bytes maxL ret hh ∈ ws := by rw [hw]; exact List.mem_cons_self
  refine ⟨⟨hrc, hrs, hR.1, hR.2, pay_in ht hG, hc⟩, ht _ (hG _ hc).1, ok _ (by simp [va_wsS]), ⟨hd.1, hd.2.1⟩, fun sig h => ?_, ok _ (by simp [va_wsS]), ok _ (by simp [va_wsS])⟩
  have h2 := hd.2.2
  rw [h] at h2
  exact (Option.some.inj h2).symm
theorem vx_callSW (X : Stand p l e R s m args below meth c T locs cells slots) (hexec : p.tables.exec = Jvm.exec) {own : String} {index : Nat} {y : MethodName} {bytes : ByteArray} {maxL : Nat} {ret : Option FieldType} {hh : List (Nat × Nat × Nat × Nat)}
    (hown : s.vm.findClass own = some m.cls) (hlink : (Cond.methodLink own index y).before args s = true) (hstat : (Cond.static y).before args s = true) (hinit : (Cond.initialized y.cls).before args s = true)
    (hcode : (Cond.codeWith y bytes maxL ret hh).before args s = true) (hy : y.cls ≠ "java/lang/invoke/MethodHandle" ∧ y.cls ≠ "java/lang/invoke/VarHandle")
    {W9 : Nat} {Pre : Pt → Array Value → Prop} {Post : Pt → Array Value → Option Value → Pt → Prop} (hK : Back l R p e below s args y 3 W9 Pre Post)
    {g : JFrame} (hg : g.method = m) (hsize : g.locals.size = c.maxLocals) {argsL rest : List Value} (hlen : ∀ sig, parseMethodDescriptor y.desc = some sig → argsL.length = sig.parameters.length)
    (hstack : g.stack = argsL.reverse ++ rest) (hW : 2 * g.monitorRoom + (rest.map fun v => v.category).sum ≤ W9) (hdg : decode c.code g.pc = .ok (.invokestatic index, 3))
    (hpre : ∀ vm₁, s.WarmedH vm₁ → Pre ⟨T.setVm vm₁, locs, cells, slots⟩ argsL.toArray) :
    ∃ (v : Option Value) (vm₁ : Vm) (B : Pt), s.WarmedH vm₁ ∧ Stand p l e R s m args below meth c B.U B.locs B.cells B.slots ∧ Post ⟨T.setVm vm₁, locs, cells, slots⟩ argsL.toArray v B ∧
      ∀ target, Steps p.tables e below (B.U.setTop { g with pc := g.pc + 3, stack := v.toList ++ rest }) target → Steps p.tables e below (T.setTop g) target := by
  obtain ⟨mk, methM, cM, hnamed, hmethM, -, -, -, -, -, -, hsigM⟩ := Cond.codeWith_spec hcode
  have hstatic : methM.isStatic = true := Cond.static_spec hnamed hmethM hstat
  obtain ⟨kP, hkP, -⟩ := className_of_methodNamed hnamed
  have hinitP : kP.init = .initialized := Cond.initialized_spec (findClass_of_methodNamed hnamed) hkP hinit
  obtain ⟨vm₁, X₁, hstep₁⟩ := X.invokestatic hexec hown hlink hnamed hmethM hstatic hkP hinitP hy (g := g) hg (argsL := argsL) (rest := rest) (hlen _ hsigM) hstack hdg
  obtain ⟨v, B, X', hpost, hsteps⟩ := hK m meth c ⟨T.setVm vm₁, locs, cells, slots⟩ { g with stack := rest } (.invokestatic index) mk argsL.toArray X₁ hg hsize hdg hW (X₁.named hnamed) (hpre vm₁ X₁.warmed)
  exact ⟨v, vm₁, B, X₁.warmed, X', hpost, fun target h => hstep₁ _ fun acts => by rw [doInvoke_state]; exact hsteps.trans h⟩
theorem vx_runSW {y : MethodName} {bytes cc : ByteArray} {maxL nL mc ms n index : Nat} {ret : Option FieldType} {hh : List (Nat × Nat × Nat × Nat)} {ws : List Cond} {rm : Room} {Pc : Array Value → State → Prop} {Qc : Array Value → State → Outcome → State → Prop} {free : Addr → Prop} {Ts : List Cond} {own : String} {As rest : List Value} {g : JFrame}
    (S : CallFix p m c cc nL s args Ts own) (hM : Met l y ws rm Pc Qc mc ms free) (cw : vx_CSW R s args own index y bytes maxL ret hh ws rm mc ms n) (hp : PreS s H Pc As)
    (hg : g.method = m) (hn : As.length = n) (hsize : g.locals.size = nL) (hstack : g.stack = As.reverse ++ rest) (hW : 2 * g.monitorRoom + (rest.map fun v => v.category).sum ≤ 8) (hdg : decode cc g.pc = .ok (.invokestatic index, 3)) (hf : cells + mc ≤ R.cells ∧ slots + ms ≤ R.slots) :
    va_Run p l e R s m args below meth c H locs cells slots mc ms g rest (Qc As.toArray) (free) := by
  obtain ⟨⟨hrc, hrs, hfr, hlo, hws, hcw⟩, hcode, hini, hy, hlen, hl, hstt⟩ := cw
  have hK : Back l R p e below s args y 3 8 (PreOf R mc ms Pc) (PostOf Qc mc ms free) := va_backW (hh := hh) (bytes := bytes) (maxL := maxL) (ret := ret) hM hp.1 hrc hrs hfr hlo hws hcw (fun a' U hW => word_at hW (Or.inl (by first | rfl | simp [Cond.onTables, Cond.keeps, Cond.steady])) hini)
  obtain ⟨hx, hb, hml, ho, -⟩ := S
  intro T hT X
  obtain ⟨v, vm₁, ⟨U', l2, c2, s2⟩, hW₁, X', ⟨g', mk, t, L, e1, e2, hq, h1, hL, h2, h3⟩, st⟩ := vx_callSW X hx (hh := hh) (bytes := bytes) (maxL := maxL) (ret := ret) ho hl hstt hini hcode hy hK hg (hsize.trans hml.symm) (argsL := As) (rest := rest) (fun sig h => hn.trans (hlen sig h)) hstack hW (by rw [hb]; exact hdg)
    (fun vm₁ hW₁ => ⟨hf.1, hf.2, hp.2 (T.setVm vm₁) hT hW₁⟩)
  dsimp only [Pt.U, Pt.locs, Pt.cells, Pt.slots] at X' e1 e2 h1 h2 h3 st
  subst h1; subst h2; subst h3
  exact ⟨v, (T.setVm vm₁).calling g' mk As.toArray, t, U', L, hT, X', hL, e1, e2, hq, st⟩
/-- not caught here, past rows that name other classes: it goes on to the caller -/
theorem vx_outP {p : Program} {l : Launch} {e : Env} {R : Room} {s : State} {m : MethodId} {args : Array Value} {below : List Frame} {meth : Method} {c : Code} {H : Heap} {locs : List Loc} {cells slots : Nat} {free : Addr → Prop} {ls : Array Slot} {rest : List Value} {Qc : Array Value → State → Outcome → State → Prop} {XC : String → State → State → Prop}
    {pc : Nat} {own E : String} {ce : Cell} {q : Addr} {mc ms : Nat} (hown : s.vm.findClass own = some m.cls) (hlocks : meth.locks = false)
    (hpass : ∀ z ∈ c.exceptionTable.toList, covers z pc = false ∨ (z.catchType ≠ 0 ∧ ∃ nm : String, (Cond.classLink own z.catchType nm).before args s = true ∧ va_Nc E nm s)) (hcell : H[q]? = some ce) (hv : ce.vm = .none) (hcl : s.vm.findClass E = some ce.cls)
    (hx : ∀ t : State, t.heap = H → s.vm.Alike t.vm → XC E s t) (hf : ∀ z ∈ locs, free z.base) (hc : cells ≤ mc) (hs : slots ≤ ms) :
    vx_W p l e R s m args below meth c H locs cells slots (vx_MQ below Qc XC args s mc ms free) (F0 m pc ls rest) q := by
  intro T hT X
  have hpl : e.platform.magicAccessors = ({} : Platform).magicAccessors := by rw [X.admits.platform]
  obtain ⟨vm', hW', X', st⟩ := X.outThrough hlocks q (g := F0 m pc ls rest) rfl rfl rfl (cell := ce) (by rw [hT]; exact hcell) (by rw [hv]; rfl)
    (by obtain ⟨k9, h9, -⟩ := Vm.findClass_spec hcl; exact ⟨k9, h9⟩) (fun z hz => by
      rcases hpass z hz with h | ⟨hz0, nm, hl1, hn1⟩
      · exact Or.inl h
      · obtain ⟨c6, hc6, hcl6⟩ := Cond.classLink_spec hown hl1 e.platform hpl
        obtain ⟨a8, b8, h1, h2, h3⟩ := hn1
        cases Option.some.inj (h1.symm.trans hcl)
        cases Option.some.inj (h2.symm.trans hc6)
        exact Or.inr ⟨hz0, _, hcl6, h3⟩)
  obtain ⟨g₀, hfr⟩ := X'.frames_eq
  have hcell9 : ((T.setVm vm').setFrames (.throwing q :: below)).heap[q]? = some ce := by
    show T.heap[q]? = some ce
    rw [hT]; exact hcell
  have hend : Ended ((T.setVm vm').setFrames (.throwing q :: below)) below (.threw q) := State.frames_setFrames _ (State.cur_lt_of_frames hfr)
  refine ⟨(T.setVm vm').setFrames (.throwing q :: below), ?_, .threw q, X'.here.running, hend, Or.inr ⟨q, rfl, E, ce, locs, hx _ hT (X'.ends _).1.alike, hcell9, hv, hcl, (X'.ends _).1, (X'.ends _).2.mono hc hs, hf⟩⟩
  rw [X.pushThrowing_eq]
  exact st
/-- a thing of a world lies in the heap -/
theorem vx_lt {D : va_G} {cl : List vw_C} {ws : va_W} {H1 : Heap} (h : va_P D cl ws H1) {k : Nat} {q : Nat × va_E} (hk : ws[k]? = some q) : q.1 < H1.size := (h k q hk).lt
end VXS
/-! ===== END ===== -/
/-! ===== BEGIN methods with a table of their own: called by a name, returning or throwing ===== -/
section VXH
/-! vx_backW, vx_callVX, vx_callSX, vx_callVW, vx_runVW, vx_runVX, vx_runSX, vx_ofWH follow the same proofs as their sisters above (Free/Laws.lean, Shelf42/LK1.lean); vx_outP calls Shelf42/NT130.lean (outThrough). -/
section
variable {l : Launch} {R : Room} {p : Program} {e : Env} {below : List Frame} {s : State} {sargs : Array Value} {y : MethodName} {len W9 : Nat}
theorem vx_backW {ws : List Cond} {rm : Room} {Pc : Array Value → State → Prop} {Qc : Array Value → State → Outcome → State → Prop} {XC : String → State → State → Prop} {mc ms : Nat} {free : Addr → Prop} {bytes : ByteArray} {maxL : Nat} {ret : Option FieldType} {hh : List (Nat × Nat × Nat × Nat)}
    (hM : vx_Met l y ws rm Pc Qc XC mc ms free) (hblind : FrameBlind Pc) (hrc : rm.cells = mc) (hrs : rm.slots = ms)
    (hframes : rm.frames + 1 ≤ R.frames) (hlocals : W9 + (maxL + 11) + rm.locals ≤ R.locals)
    (hws : ∀ w ∈ ws, ∀ a' U, s.WarmedH U.vm → w.before a' U = true) (hcode : Cond.codeWith y bytes maxL ret hh ∈ ws) (hinit : ∀ a' U, s.WarmedH U.vm → (Cond.initialized y.cls).before a' U = true) :
    vx_Back l R p e below s sargs y len W9 (PreOf R mc ms Pc) (PostOf Qc mc ms free) (vx_Post XC mc ms free) := by
  intro m meth c A g ig mk a X hg hsize hdg hW hn hp
  have h1 : (headSpec ws rm).pre.before a A.U = true := atoms_intro fun w hw => hws w hw _ _ X.warmed
  have h2 : (Cond.codeWith y bytes maxL ret hh).before a A.U = true := hws _ hcode _ _ X.warmed
  have h3 : (Cond.initialized y.cls).before a A.U = true := hinit _ _ X.warmed
  have h4 : A.cells + (headSpec ws rm).room.cells ≤ R.cells := by rw [show (headSpec ws rm).room.cells = mc from hrc]; exact hp.1
  have h5 : A.slots + (headSpec ws rm).room.slots ≤ R.slots := by rw [show (headSpec ws rm).room.slots = ms from hrs]; exact hp.2.1
  have hPc : Pc a (A.U.calling g mk a) := hblind _ _ _ _ hp.2.2
  obtain ⟨U, Ls, c0, s0⟩ := A
  dsimp only [Pt.U, Pt.locs, Pt.cells, Pt.slots] at h1 h2 h3 h4 h5 X hn hPc ⊢
  obtain ⟨m9, methY, cY, hn9, hmY, hcY, -, hlY, -⟩ := Cond.codeWith_spec h2
  cases Option.some.inj (hn9.symm.trans hn)
  obtain ⟨kY, hkY, -⟩ := className_of_methodNamed hn
  have hinitY : kY.init = .initialized := Cond.initialized_spec (findClass_of_methodNamed hn) hkY h3
  have h : At U g.method c below := by rw [hg]; exact X.here
  have hlocals9 : W9 + (maxL + 11) + (headSpec ws rm).room.locals ≤ R.locals := hlocals
  have happ : (headSpec ws rm).appliesLoose y e.platform (U.calling g mk a) = true :=
    Spec.appliesLoose_calling (g := g) h hdg hn hkY hinitY
      (X.room_calling (g := g) (R' := (headSpec ws rm).room) hsize hmY hcY hframes (by rw [hlY]; omega) h4 h5) h1
  obtain ⟨mid, hmid⟩ := h.above
  have hfr : (U.setTop g).frames = (.java g :: mid) ++ below := by rw [State.frames_setTop' g h.top, hmid]; rfl
  obtain ⟨o, s₂, hsteps, -, hend, hq⟩ := Steps.callFree hM p X.admits X.cas X.clock (acts := []) hfr happ hPc trivial
  have hq' : vx_Q Qc XC mc ms free a (U.calling g mk a) o s₂ := hq
  rw [State.frames_setTop' g h.top] at hend
  obtain ⟨g₀, hg0⟩ := Option.isSome_iff_exists.mp h.top
  obtain ⟨r, hr⟩ := State.topJava?_eq_some.mp hg0
  have hr' : (({ U with heap := s₂.heap, slotsUsed := s₂.slotsUsed } : State).setVm s₂.vm).frames = .java g₀ :: r := hr
  rcases hq' with ⟨hqc, L, hfe, hL⟩ | ⟨q, rfl, E, ce, L, hx, hce, hcv, hcl, hW₂, hsm, hL⟩
  · obtain ⟨⟨v, rfl⟩, hW₂, e2, q2, q3, q4, q5, q6⟩ := id hfe
    have e3 : s₂ = ({ (U.calling g mk a).setFrames s₂.frames with heap := s₂.heap, slotsUsed := s₂.slotsUsed } : State).setVm s₂.vm := by
      have : s₂ = ({ s₂ with vm := (U.calling g mk a).vm } : State).setVm s₂.vm := rfl
      rw [e2] at this
      exact this
    obtain ⟨c₂, i₂, len₂, hc₂, hd₂, hf₂⟩ := hend
    have hW' : U.WarmedH s₂.vm := hW₂
    have hcc : c₂ = c := by
      have h1 : s₂.code? g.method = U.code? g.method := by
        rw [State.code?_eq, State.code?_eq, hW'.alike.method?]
      exact Option.some.inj (hc₂.symm.trans (h1.trans h.code))
    subst hcc
    have hlen : len₂ = len := by rw [hdg] at hd₂; cases hd₂; rfl
    subst hlen
    have hs₂ : s₂ = (({ U with heap := s₂.heap, slotsUsed := s₂.slotsUsed } : State).setVm s₂.vm).setTop { g with pc := g.pc + len₂, stack := v.toList ++ g.stack } := by
      refine e3.trans ?_
      rw [hf₂, State.calling_eq h.top, State.setFrames_setFrames, State.setTop_of_frames _ hr', hr]
      rfl
    have hsame : U.sameButNew ({ U with heap := s₂.heap, slotsUsed := s₂.slotsUsed } : State) L mc ms := by
      refine ⟨?_, q2, q3, q4, q5, q6⟩
      obtain ⟨t, ht, -⟩ := State.frames_cons hr
      show ({ U with heap := s₂.heap, slotsUsed := s₂.slotsUsed } : State) = { U.setFrames U.frames with heap := s₂.heap, slotsUsed := s₂.slotsUsed }
      rw [State.setFrames_self ht]
    subst hg
    refine Or.inl ⟨v, ⟨(({ U with heap := s₂.heap, slotsUsed := s₂.slotsUsed } : State).setVm s₂.vm), Ls ++ L, c0 + mc, s0 + ms⟩,
      ⟨X.admits, X.cas, X.clock, X.frames, X.room, X.hears, X.method, X.code, (X.here.setHeapUsed s₂.heap s₂.slotsUsed).setVm hW'.alike, X.tail, State.WarmedH.trans X.warmed hW', X.limits, X.bytes, X.same.trans (hsame.setVm s.vm)⟩,
      ⟨g, mk, s₂, L, rfl, rfl, hqc, rfl, hL, rfl, rfl⟩, ?_⟩
    show Steps p.tables e below _ ((({ U with heap := s₂.heap, slotsUsed := s₂.slotsUsed } : State).setVm s₂.vm).setTop { g with pc := g.pc + len₂, stack := v.toList ++ g.stack })
    rw [← hs₂]
    exact hsteps
  · obtain ⟨e2, q2, q3, q4, q5, q6⟩ := id hsm
    have e3 : s₂ = ({ (U.calling g mk a).setFrames s₂.frames with heap := s₂.heap, slotsUsed := s₂.slotsUsed } : State).setVm s₂.vm := by
      have : s₂ = ({ s₂ with vm := (U.calling g mk a).vm } : State).setVm s₂.vm := rfl
      rw [e2] at this
      exact this
    have hf₂ : s₂.frames = .throwing q :: .java g :: U.frames.tail := hend
    have hW' : U.WarmedH s₂.vm := hW₂
    have hs₂ : s₂ = ((({ U with heap := s₂.heap, slotsUsed := s₂.slotsUsed } : State).setVm s₂.vm).setTop g).pushFrame (.throwing q) := by
      refine e3.trans ?_
      rw [hf₂, State.calling_eq h.top, State.setFrames_setFrames, State.pushFrame, State.frames_setTop _ hr', State.setTop_of_frames _ hr', State.setFrames_setFrames, hr]
      rfl
    have hsame : U.sameButNew ({ U with heap := s₂.heap, slotsUsed := s₂.slotsUsed } : State) L mc ms := by
      refine ⟨?_, q2, q3, q4, q5, q6⟩
      obtain ⟨t, ht, -⟩ := State.frames_cons hr
      show ({ U with heap := s₂.heap, slotsUsed := s₂.slotsUsed } : State) = { U.setFrames U.frames with heap := s₂.heap, slotsUsed := s₂.slotsUsed }
      rw [State.setFrames_self ht]
    subst hg
    refine Or.inr ⟨q, ⟨(({ U with heap := s₂.heap, slotsUsed := s₂.slotsUsed } : State).setVm s₂.vm), Ls ++ L, c0 + mc, s0 + ms⟩,
      ⟨X.admits, X.cas, X.clock, X.frames, X.room, X.hears, X.method, X.code, (X.here.setHeapUsed s₂.heap s₂.slotsUsed).setVm hW'.alike, X.tail, State.WarmedH.trans X.warmed hW', X.limits, X.bytes, X.same.trans (hsame.setVm s.vm)⟩,
      ⟨g, mk, s₂, L, E, ce, rfl, rfl, hx, hce, hcv, hcl, rfl, hL, rfl, rfl⟩, ?_⟩
    show Steps p.tables e below _ (((({ U with heap := s₂.heap, slotsUsed := s₂.slotsUsed } : State).setVm s₂.vm).setTop g).pushFrame (.throwing q))
    rw [← hs₂]
    exact hsteps
end
variable {p : Program} {l : Launch} {e : Env} {R : Room} {s : State} {m : MethodId} {args : Array Value} {below : List Frame} {meth : Method} {c : Code} {T : State} {H : Heap} {locs : List Loc} {cells slots : Nat}
theorem vx_callVX (X : Stand p l e R s m args below meth c T locs cells slots) (hexec : p.tables.exec = Jvm.exec) {own C : String} {index : Nat} {y : MethodName} {bytes : ByteArray} {maxL : Nat} {ret : Option FieldType} {hh : List (Nat × Nat × Nat × Nat)}
    (hown : s.vm.findClass own = some m.cls) (hlink : (Cond.methodLink own index y).before args s = true) (hinst : (Cond.instanceMethod y).before args s = true) (hsel : (Cond.selects C y y).before args s = true)
    (hcode : (Cond.codeWith y bytes maxL ret hh).before args s = true) (hy : y.cls ≠ "java/lang/invoke/MethodHandle" ∧ y.cls ≠ "java/lang/invoke/VarHandle")
    {W9 : Nat} {Pre : Pt → Array Value → Prop} {Post : Pt → Array Value → Option Value → Pt → Prop} {PostX : Pt → Array Value → Addr → Pt → Prop} (hK : vx_Back l R p e below s args y 3 W9 Pre Post PostX)
    {b : Addr} {cellB : Cell} (hcell : T.heap[b]? = some cellB) (hobj : cellB.vm.isStatics = false) (hcls : s.vm.findClass C = some cellB.cls)
    {g : JFrame} (hg : g.method = m) (hsize : g.locals.size = c.maxLocals) {argsL rest : List Value} (hlen : ∀ sig, parseMethodDescriptor y.desc = some sig → argsL.length = sig.parameters.length)
    (hstack : g.stack = argsL.reverse ++ .ref b :: rest) (hW : 2 * g.monitorRoom + (rest.map fun v => v.category).sum ≤ W9) (hdg : decode c.code g.pc = .ok (.invokevirtual index, 3))
    (hpre : ∀ vm₁, s.WarmedH vm₁ → Pre ⟨T.setVm vm₁, locs, cells, slots⟩ (Value.ref b :: argsL).toArray) :
    (∃ (v : Option Value) (vm₁ : Vm) (B : Pt), s.WarmedH vm₁ ∧ Stand p l e R s m args below meth c B.U B.locs B.cells B.slots ∧ Post ⟨T.setVm vm₁, locs, cells, slots⟩ (Value.ref b :: argsL).toArray v B ∧
      ∀ target, Steps p.tables e below (B.U.setTop { g with pc := g.pc + 3, stack := v.toList ++ rest }) target → Steps p.tables e below (T.setTop g) target) ∨
    (∃ (q : Addr) (vm₁ : Vm) (B : Pt), s.WarmedH vm₁ ∧ Stand p l e R s m args below meth c B.U B.locs B.cells B.slots ∧ PostX ⟨T.setVm vm₁, locs, cells, slots⟩ (Value.ref b :: argsL).toArray q B ∧
      Steps p.tables e below (T.setTop g) ((B.U.setTop { g with stack := rest }).pushFrame (.throwing q))) := by
  obtain ⟨mk, methM, hnamed, hmethM, hstM, habM⟩ := Cond.instanceMethod_spec hinst
  obtain ⟨m8, methM', cM, hn8, hmethM', -, -, -, -, -, -, hsigM⟩ := Cond.codeWith_spec hcode
  cases Option.some.inj (hn8.symm.trans hnamed)
  cases hmethM.symm.trans hmethM'
  obtain ⟨c2, r2, m2, q1, q2, q3, q4, kP, hkP, hkPi⟩ := Cond.selects_spec hsel
  cases hcls.symm.trans q1
  cases (State.methodFound?_of_named hnamed hy).symm.trans q2
  cases hnamed.symm.trans q3
  have hselP : selectMethod e.platform s.vm cellB.cls mk = .method mk := by rw [Launch.admits_selectMethod X.admits]; exact q4
  obtain ⟨vm₁, X₁, hstep₁⟩ := X.invokevirtual hexec hown hlink hnamed hmethM hstM hkP hkPi hy (a := b) (cell := cellB) hcell
    (fun z h => by rw [h] at hobj; cases hobj) hselP hmethM habM hkP hkPi (g := g) hg (argsL := argsL) (rest := rest) (hlen _ hsigM) hstack hdg
  rcases hK m meth c ⟨T.setVm vm₁, locs, cells, slots⟩ { g with stack := rest } (.invokevirtual index) mk (Value.ref b :: argsL).toArray X₁ hg hsize hdg hW (X₁.named hnamed) (hpre vm₁ X₁.warmed) with ⟨v, B, X', hpost, hsteps⟩ | ⟨q, B, X', hpost, hsteps⟩
  · exact Or.inl ⟨v, vm₁, B, X₁.warmed, X', hpost, fun target h => hstep₁ _ fun acts => by rw [doInvoke_state]; exact hsteps.trans h⟩
  · exact Or.inr ⟨q, vm₁, B, X₁.warmed, X', hpost, hstep₁ _ fun acts => by rw [doInvoke_state]; exact hsteps⟩
theorem vx_callSX (X : Stand p l e R s m args below meth c T locs cells slots) (hexec : p.tables.exec = Jvm.exec) {own : String} {index : Nat} {y : MethodName} {bytes : ByteArray} {maxL : Nat} {ret : Option FieldType} {hh : List (Nat × Nat × Nat × Nat)}
    (hown : s.vm.findClass own = some m.cls) (hlink : (Cond.methodLink own index y).before args s = true) (hstat : (Cond.static y).before args s = true) (hinit : (Cond.initialized y.cls).before args s = true)
    (hcode : (Cond.codeWith y bytes maxL ret hh).before args s = true) (hy : y.cls ≠ "java/lang/invoke/MethodHandle" ∧ y.cls ≠ "java/lang/invoke/VarHandle")
    {W9 : Nat} {Pre : Pt → Array Value → Prop} {Post : Pt → Array Value → Option Value → Pt → Prop} {PostX : Pt → Array Value → Addr → Pt → Prop} (hK : vx_Back l R p e below s args y 3 W9 Pre Post PostX)
    {g : JFrame} (hg : g.method = m) (hsize : g.locals.size = c.maxLocals) {argsL rest : List Value} (hlen : ∀ sig, parseMethodDescriptor y.desc = some sig → argsL.length = sig.parameters.length)
    (hstack : g.stack = argsL.reverse ++ rest) (hW : 2 * g.monitorRoom + (rest.map fun v => v.category).sum ≤ W9) (hdg : decode c.code g.pc = .ok (.invokestatic index, 3))
    (hpre : ∀ vm₁, s.WarmedH vm₁ → Pre ⟨T.setVm vm₁, locs, cells, slots⟩ argsL.toArray) :
    (∃ (v : Option Value) (vm₁ : Vm) (B : Pt), s.WarmedH vm₁ ∧ Stand p l e R s m args below meth c B.U B.locs B.cells B.slots ∧ Post ⟨T.setVm vm₁, locs, cells, slots⟩ argsL.toArray v B ∧
      ∀ target, Steps p.tables e below (B.U.setTop { g with pc := g.pc + 3, stack := v.toList ++ rest }) target → Steps p.tables e below (T.setTop g) target) ∨
    (∃ (q : Addr) (vm₁ : Vm) (B : Pt), s.WarmedH vm₁ ∧ Stand p l e R s m args below meth c B.U B.locs B.cells B.slots ∧ PostX ⟨T.setVm vm₁, locs, cells, slots⟩ argsL.toArray q B ∧
      Steps p.tables e below (T.setTop g) ((B.U.setTop { g with stack := rest }).pushFrame (.throwing q))) := by
  obtain ⟨mk, methM, cM, hnamed, hmethM, -, -, -, -, -, -, hsigM⟩ := Cond.codeWith_spec hcode
  have hstatic : methM.isStatic = true := Cond.static_spec hnamed hmethM hstat
  obtain ⟨kP, hkP, -⟩ := className_of_methodNamed hnamed
  have hinitP : kP.init = .initialized := Cond.initialized_spec (findClass_of_methodNamed hnamed) hkP hinit
  obtain ⟨vm₁, X₁, hstep₁⟩ := X.invokestatic hexec hown hlink hnamed hmethM hstatic hkP hinitP hy (g := g) hg (argsL := argsL) (rest := rest) (hlen _ hsigM) hstack hdg
  rcases hK m meth c ⟨T.setVm vm₁, locs, cells, slots⟩ { g with stack := rest } (.invokestatic index) mk argsL.toArray X₁ hg hsize hdg hW (X₁.named hnamed) (hpre vm₁ X₁.warmed) with ⟨v, B, X', hpost, hsteps⟩ | ⟨q, B, X', hpost, hsteps⟩
  · exact Or.inl ⟨v, vm₁, B, X₁.warmed, X', hpost, fun target h => hstep₁ _ fun acts => by rw [doInvoke_state]; exact hsteps.trans h⟩
  · exact Or.inr ⟨q, vm₁, B, X₁.warmed, X', hpost, hstep₁ _ fun acts => by rw [doInvoke_state]; exact hsteps⟩
theorem vx_callVW (X : Stand p l e R s m args below meth c T locs cells slots) (hexec : p.tables.exec = Jvm.exec) {own C : String} {index : Nat} {y : MethodName} {bytes : ByteArray} {maxL : Nat} {ret : Option FieldType} {hh : List (Nat × Nat × Nat × Nat)}
    (hown : s.vm.findClass own = some m.cls) (hlink : (Cond.methodLink own index y).before args s = true) (hinst : (Cond.instanceMethod y).before args s = true) (hsel : (Cond.selects C y y).before args s = true)
    (hcode : (Cond.codeWith y bytes maxL ret hh).before args s = true) (hy : y.cls ≠ "java/lang/invoke/MethodHandle" ∧ y.cls ≠ "java/lang/invoke/VarHandle")
    {W9 : Nat} {Pre : Pt → Array Value → Prop} {Post : Pt → Array Value → Option Value → Pt → Prop} (hK : Back l R p e below s args y 3 W9 Pre Post)
    {b : Addr} {cellB : Cell} (hcell : T.heap[b]? = some cellB) (hobj : cellB.vm.isStatics = false) (hcls : s.vm.findClass C = some cellB.cls)
    {g : JFrame} (hg : g.method = m) (hsize : g.locals.size = c.maxLocals) {argsL rest : List Value} (hlen : ∀ sig, parseMethodDescriptor y.desc = some sig → argsL.length = sig.parameters.length)
    (hstack : g.stack = argsL.reverse ++ .ref b :: rest) (hW : 2 * g.monitorRoom + (rest.map fun v => v.category).sum ≤ W9) (hdg : decode c.code g.pc = .ok (.invokevirtual index, 3))
    (hpre : ∀ vm₁, s.WarmedH vm₁ → Pre ⟨T.setVm vm₁, locs, cells, slots⟩ (Value.ref b :: argsL).toArray) :
    ∃ (v : Option Value) (vm₁ : Vm) (B : Pt), s.WarmedH vm₁ ∧ Stand p l e R s m args below meth c B.U B.locs B.cells B.slots ∧ Post ⟨T.setVm vm₁, locs, cells, slots⟩ (Value.ref b :: argsL).toArray v B ∧
      ∀ target, Steps p.tables e below (B.U.setTop { g with pc := g.pc + 3, stack := v.toList ++ rest }) target → Steps p.tables e below (T.setTop g) target := by
  obtain ⟨mk, methM, hnamed, hmethM, hstM, habM⟩ := Cond.instanceMethod_spec hinst
  obtain ⟨m8, methM', cM, hn8, hmethM', -, -, -, -, -, -, hsigM⟩ := Cond.codeWith_spec hcode
  cases Option.some.inj (hn8.symm.trans hnamed)
  cases hmethM.symm.trans hmethM'
  obtain ⟨c2, r2, m2, q1, q2, q3, q4, kP, hkP, hkPi⟩ := Cond.selects_spec hsel
  cases hcls.symm.trans q1
  cases (State.methodFound?_of_named hnamed hy).symm.trans q2
  cases hnamed.symm.trans q3
  have hselP : selectMethod e.platform s.vm cellB.cls mk = .method mk := by rw [Launch.admits_selectMethod X.admits]; exact q4
  obtain ⟨vm₁, X₁, hstep₁⟩ := X.invokevirtual hexec hown hlink hnamed hmethM hstM hkP hkPi hy (a := b) (cell := cellB) hcell
    (fun z h => by rw [h] at hobj; cases hobj) hselP hmethM habM hkP hkPi (g := g) hg (argsL := argsL) (rest := rest) (hlen _ hsigM) hstack hdg
  obtain ⟨v, B, X', hpost, hsteps⟩ := hK m meth c ⟨T.setVm vm₁, locs, cells, slots⟩ { g with stack := rest } (.invokevirtual index) mk (Value.ref b :: argsL).toArray X₁ hg hsize hdg hW (X₁.named hnamed) (hpre vm₁ X₁.warmed)
  exact ⟨v, vm₁, B, X₁.warmed, X', hpost, fun target h => hstep₁ _ fun acts => by rw [doInvoke_state]; exact hsteps.trans h⟩
abbrev vx_CVW (R : Room) (s : State) (args : Array Value) (own C : String) (index : Nat) (y : MethodName) (bytes : ByteArray) (maxL : Nat) (ret : Option FieldType) (hh : List (Nat × Nat × Nat × Nat)) (ws : List Cond) (rm : Room) (mc ms n : Nat) : Prop :=
  (rm.cells = mc ∧ rm.slots = ms ∧ rm.frames + 1 ≤ R.frames ∧ 8 + (maxL + 11) + rm.locals ≤ R.locals ∧ (∀ w ∈ ws, ∀ (a' : Array Value) (U : State), s.WarmedH U.vm → w.before a' U = true) ∧ Cond.codeWith y bytes maxL ret hh ∈ ws) ∧
  (Cond.codeWith y bytes maxL ret hh).before args s = true ∧ (Cond.initialized y.cls).before args s = true ∧ (y.cls ≠ "java/lang/invoke/MethodHandle" ∧ y.cls ≠ "java/lang/invoke/VarHandle") ∧
  (∀ sig, parseMethodDescriptor y.desc = some sig → n = sig.parameters.length) ∧ (Cond.methodLink own index y).before args s = true ∧ (Cond.instanceMethod y).before args s = true ∧ (Cond.selects C y y).before args s = true
theorem vx_cwVW {own C : String} {index maxL mc ms : Nat} {y : MethodName} {bytes : ByteArray} {ret : Option FieldType} {hh : List (Nat × Nat × Nat × Nat)} {Ts ws ws' : List Cond} {rm : Room} (n : Nat) (ht : ∀ w ∈ Ts, w.before args s = true) (hT : GoodIn Ts (wsV own index C y ws)) (hw : ws = Cond.codeWith y bytes maxL ret hh :: ws') (hrc : rm.cells = mc) (hrs : rm.slots = ms)
    (hd : y.cls = C ∧ y.cls ≠ "java/lang/invoke/MethodHandle" ∧ y.cls ≠ "java/lang/invoke/VarHandle" ∧ (parseMethodDescriptor y.desc).map (fun d => d.parameters.length) = some n) (hR : rm.frames + 1 ≤ R.frames ∧ 8 + (maxL + 11) + rm.locals ≤ R.locals) :
    vx_CVW R s args own C index y bytes maxL ret hh ws rm mc ms n := by
  obtain ⟨hC, hd⟩ := hd
  subst hC
  have ok : ∀ w ∈ wsV own index y.cls y ws, w.before args s = true := fun w h => ht w (hT w h).1
  have hG : GoodIn Ts ws := fun w h => hT w (by unfold wsV; exact List.mem_append_right _ h)
  have hc : Cond.codeWith y bytes maxL ret hh ∈ ws := by rw [hw]; exact List.mem_cons_self
  refine ⟨⟨hrc, hrs, hR.1, hR.2, pay_in ht hG, hc⟩, ht _ (hG _ hc).1, ok _ (by simp [wsV]), ⟨hd.1, hd.2.1⟩, fun sig h => ?_, ok _ (by simp [wsV]), ok _ (by simp [wsV]), ok _ (by simp [wsV])⟩
  have h2 := hd.2.2
  rw [h] at h2
  exact (Option.some.inj h2).symm
theorem vx_runVW {y : MethodName} {bytes cc : ByteArray} {maxL nL mc ms n index : Nat} {ret : Option FieldType} {hh : List (Nat × Nat × Nat × Nat)} {ws : List Cond} {rm : Room} {Pc : Array Value → State → Prop} {Qc : Array Value → State → Outcome → State → Prop} {free : Addr → Prop} {Ts : List Cond} {own C : String} {b : Addr} {As rest : List Value} {g : JFrame}
    (S : CallFix p m c cc nL s args Ts own) (hM : Met l y ws rm Pc Qc mc ms free) (cw : vx_CVW R s args own C index y bytes maxL ret hh ws rm mc ms n) (hp : PreV s H C b Pc As)
    (hg : g.method = m) (hn : As.length = n) (hsize : g.locals.size = nL) (hstack : g.stack = As.reverse ++ .ref b :: rest) (hW : 2 * g.monitorRoom + (rest.map fun v => v.category).sum ≤ 8) (hdg : decode cc g.pc = .ok (.invokevirtual index, 3)) (hf : cells + mc ≤ R.cells ∧ slots + ms ≤ R.slots) :
    va_Run p l e R s m args below meth c H locs cells slots mc ms g rest (Qc (Value.ref b :: As).toArray) free := by
  obtain ⟨⟨hrc, hrs, hfr, hlo, hws, hcw⟩, hcode, hini, hy, hlen, hl, hin, hse⟩ := cw
  have hK : Back l R p e below s args y 3 8 (PreOf R mc ms Pc) (PostOf Qc mc ms free) := va_backW (hh := hh) (bytes := bytes) (maxL := maxL) (ret := ret) hM hp.1 hrc hrs hfr hlo hws hcw (fun a' U hW => word_at hW (Or.inl (by first | rfl | simp [Cond.onTables, Cond.keeps, Cond.steady])) hini)
  obtain ⟨hx, hb, hml, ho, -⟩ := S
  obtain ⟨-, ⟨cellB, hcB, hoB, hclB⟩, hPc⟩ := hp
  intro T hT X
  obtain ⟨v, vm₁, ⟨U', l2, c2, s2⟩, hW₁, X', ⟨g', mk, t, L, e1, e2, hq, h1, hL, h2, h3⟩, st⟩ := vx_callVW X hx (C := C) (hh := hh) (bytes := bytes) (maxL := maxL) (ret := ret) ho hl hin hse hcode hy hK (by rw [hT]; exact hcB) hoB hclB hg (hsize.trans hml.symm) (argsL := As) (rest := rest) (fun sig h => hn.trans (hlen sig h)) hstack hW (by rw [hb]; exact hdg)
    (fun vm₁ hW₁ => ⟨hf.1, hf.2, hPc (T.setVm vm₁) hT hW₁⟩)
  dsimp only [Pt.U, Pt.locs, Pt.cells, Pt.slots] at X' e1 e2 h1 h2 h3 st
  subst h1; subst h2; subst h3
  exact ⟨v, (T.setVm vm₁).calling g' mk (Value.ref b :: As).toArray, t, U', L, hT, X', hL, e1, e2, hq, st⟩
section
variable {y : MethodName} {bytes cc : ByteArray} {maxL nL mc ms n index : Nat} {ret : Option FieldType} {ws : List Cond} {rm : Room} {Pc : Array Value → State → Prop} {Qc : Array Value → State → Outcome → State → Prop} {XC : String → State → State → Prop} {free : Addr → Prop} {Ts : List Cond} {own C : String} {b : Addr} {As rest : List Value} {g : JFrame}
theorem vx_runVX {hh : List (Nat × Nat × Nat × Nat)} (S : CallFix p m c cc nL s args Ts own) (hM : vx_Met l y ws rm Pc Qc XC mc ms free) (cw : vx_CVW R s args own C index y bytes maxL ret hh ws rm mc ms n) (hp : PreV s H C b Pc As)
    (hg : g.method = m) (hn : As.length = n) (hsize : g.locals.size = nL) (hstack : g.stack = As.reverse ++ .ref b :: rest) (hW : 2 * g.monitorRoom + (rest.map fun v => v.category).sum ≤ 8) (hdg : decode cc g.pc = .ok (.invokevirtual index, 3)) (hf : cells + mc ≤ R.cells ∧ slots + ms ≤ R.slots) :
    vx_Run p l e R s m args below meth c H locs cells slots mc ms g rest (Qc (Value.ref b :: As).toArray) XC free := by
  obtain ⟨⟨hrc, hrs, hfr, hlo, hws, hcw⟩, hcode, hini, hy, hlen, hl, hin, hse⟩ := cw
  have hK : vx_Back l R p e below s args y 3 8 (PreOf R mc ms Pc) (PostOf Qc mc ms free) (vx_Post XC mc ms free) := vx_backW (hh := hh) (bytes := bytes) (maxL := maxL) (ret := ret) hM hp.1 hrc hrs hfr hlo hws hcw (fun a' U hW => word_at hW (Or.inl (by first | rfl | simp [Cond.onTables, Cond.keeps, Cond.steady])) hini)
  obtain ⟨hx, hb, hml, ho, -⟩ := S
  obtain ⟨-, ⟨cellB, hcB, hoB, hclB⟩, hPc⟩ := hp
  intro T hT X
  rcases vx_callVX X hx (C := C) (hh := hh) (bytes := bytes) (maxL := maxL) (ret := ret) ho hl hin hse hcode hy hK (by rw [hT]; exact hcB) hoB hclB hg (hsize.trans hml.symm) (argsL := As) (rest := rest) (fun sig h => hn.trans (hlen sig h)) hstack hW (by rw [hb]; exact hdg)
    (fun vm₁ hW₁ => ⟨hf.1, hf.2, hPc (T.setVm vm₁) hT hW₁⟩) with ⟨v, vm₁, ⟨U', l2, c2, s2⟩, hW₁, X', ⟨g', mk, t, L, e1, e2, hq, h1, hL, h2, h3⟩, st⟩ | ⟨q, vm₁, ⟨U', l2, c2, s2⟩, hW₁, X', ⟨g', mk, t, L, E, ce, e1, e2, hq, hce, hcv, hcl, h1, hL, h2, h3⟩, st⟩
  · dsimp only [Pt.U, Pt.locs, Pt.cells, Pt.slots] at X' e1 e2 h1 h2 h3 st
    subst h1; subst h2; subst h3
    exact Or.inl ⟨v, (T.setVm vm₁).calling g' mk (Value.ref b :: As).toArray, t, U', L, hT, X', hL, e1, e2, hq, st⟩
  · dsimp only [Pt.U, Pt.locs, Pt.cells, Pt.slots] at X' e1 e2 h1 h2 h3 st hcl
    subst h1; subst h2; subst h3
    exact Or.inr ⟨q, (T.setVm vm₁).calling g' mk (Value.ref b :: As).toArray, t, U', L, E, ce, hT, X', hL, e1, e2, hq, hce, hcv, vx_cls hW₁ hcl, st⟩
theorem vx_runSX {hh : List (Nat × Nat × Nat × Nat)} (S : CallFix p m c cc nL s args Ts own) (hM : vx_Met l y ws rm Pc Qc XC mc ms free) (cw : vx_CSW R s args own index y bytes maxL ret hh ws rm mc ms n) (hp : PreS s H Pc As)
    (hg : g.method = m) (hn : As.length = n) (hsize : g.locals.size = nL) (hstack : g.stack = As.reverse ++ rest) (hW : 2 * g.monitorRoom + (rest.map fun v => v.category).sum ≤ 8) (hdg : decode cc g.pc = .ok (.invokestatic index, 3)) (hf : cells + mc ≤ R.cells ∧ slots + ms ≤ R.slots) :
    vx_Run p l e R s m args below meth c H locs cells slots mc ms g rest (Qc As.toArray) XC free := by
  obtain ⟨⟨hrc, hrs, hfr, hlo, hws, hcw⟩, hcode, hini, hy, hlen, hl, hstt⟩ := cw
  have hK : vx_Back l R p e below s args y 3 8 (PreOf R mc ms Pc) (PostOf Qc mc ms free) (vx_Post XC mc ms free) := vx_backW (hh := hh) (bytes := bytes) (maxL := maxL) (ret := ret) hM hp.1 hrc hrs hfr hlo hws hcw (fun a' U hW => word_at hW (Or.inl (by first | rfl | simp [Cond.onTables, Cond.keeps, Cond.steady])) hini)
  obtain ⟨hx, hb, hml, ho, -⟩ := S
  intro T hT X
  rcases vx_callSX X hx (hh := hh) (bytes := bytes) (maxL := maxL) (ret := ret) ho hl hstt hini hcode hy hK hg (hsize.trans hml.symm) (argsL := As) (rest := rest) (fun sig h => hn.trans (hlen sig h)) hstack hW (by rw [hb]; exact hdg)
    (fun vm₁ hW₁ => ⟨hf.1, hf.2, hp.2 (T.setVm vm₁) hT hW₁⟩) with ⟨v, vm₁, ⟨U', l2, c2, s2⟩, hW₁, X', ⟨g', mk, t, L, e1, e2, hq, h1, hL, h2, h3⟩, st⟩ | ⟨q, vm₁, ⟨U', l2, c2, s2⟩, hW₁, X', ⟨g', mk, t, L, E, ce, e1, e2, hq, hce, hcv, hcl, h1, hL, h2, h3⟩, st⟩
  · dsimp only [Pt.U, Pt.locs, Pt.cells, Pt.slots] at X' e1 e2 h1 h2 h3 st
    subst h1; subst h2; subst h3
    exact Or.inl ⟨v, (T.setVm vm₁).calling g' mk As.toArray, t, U', L, hT, X', hL, e1, e2, hq, st⟩
  · dsimp only [Pt.U, Pt.locs, Pt.cells, Pt.slots] at X' e1 e2 h1 h2 h3 st hcl
    subst h1; subst h2; subst h3
    exact Or.inr ⟨q, (T.setVm vm₁).calling g' mk As.toArray, t, U', L, E, ce, hT, X', hL, e1, e2, hq, hce, hcv, vx_cls hW₁ hcl, st⟩
end
end VXH
theorem vx_ofWH {l : Launch} {y : MethodName} {ws ws' : List Cond} {rm : Room} {Pc : Array Value → State → Prop} {Qc : Array Value → State → Outcome → State → Prop} {XC : String → State → State → Prop} {mc ms : Nat} {free : Addr → Prop} {cc : ByteArray} {maxL : Nat} {ret : Option FieldType} {hh : List (Nat × Nat × Nat × Nat)}
    (hy : plainName y.cls = true) (hw : ws = Cond.codeWith y cc maxL ret hh :: ws')
    (body : ∀ p e s m args below meth c s₁, BodyLoose p l y (headSpec ws rm) cc maxL ret e s m args below meth c s₁ → c.maxLocals = maxL → Pc args s →
      W p l e (headSpec ws rm).room s m args below meth c s.heap [] 0 0 (vx_MQ below Qc XC args s mc ms free) (entryFrame m args maxL)) : vx_Met l y ws rm Pc Qc XC mc ms free := by
  refine MetFree.of_bodyS (code := cc) (maxLocals := maxL) (ret := ret) hy ?_ ?_
  · intro args s m h hn
    obtain ⟨m9, meth, c, hn9, h1, h2, h3, h4, -, h5, h6, -⟩ := Cond.codeWith_spec (atoms_spec (ws := ws) h _ (by rw [hw]; exact List.mem_cons_self))
    cases hn.symm.trans hn9
    exact ⟨meth, c, h1, h2, h3, h4, h5, h6⟩
  · intro p e s m args below meth c s₁ B hml hP _
    have hh0 : s₁.heap = s.heap := by rw [B.state]; rfl
    obtain ⟨t, a1, o, b1, b2, b3⟩ := body p e s m args below meth c s₁ B hml hP s₁ hh0 (Stand.of_body B)
    exact ⟨t, o, a1, b1, b2, b3⟩
/-! ===== END ===== -/

/-! ===== BEGIN what the machine throws by itself, no traces kept ===== -/
section VXM
set_option maxHeartbeats 1000000 in
/-- the machine throws cls with the message text, no traces kept: from its note over the frame g to 'throwing' over the same frame (follows the proofs of Stand.vmThrowsMessage, Shelf/KitTracedVmS.lean, and Stand.throwsMessageColdBareV, StandMessageColdV.lean, without the step out of the frame) -/
theorem vx_vmAt {p : Program} {l : Launch} {e : Env} {R : Room} {s : State} {m₀ : MethodId} {args : Array Value} {below : List Frame} {meth : Method} {c : Code} {W : State} {locs : List Loc} {cells slots : Nat}
    (X : Stand p l e R s m₀ args below meth c W locs cells slots) (hexec : p.tables.exec = Jvm.exec) (htr : e.platform.stackTraces = false) {cls : String} {names : List String} {text : String}
    (hcls : Bundle.fit cls = true) (hnames : ∀ n ∈ names, Bundle.fit n = true) (hsoe : (cls == "java/lang/StackOverflowError") = false) (hoom : (cls == "java/lang/OutOfMemoryError") = false)
    (h : ∀ a ∈ Bundle.messageArmAtoms cls names, a.before args s = true)
    (hlocs : ∀ x ∈ locs, ∀ cell, s.heap[x.base]? = some cell → cell.vm.isStatics = false)
    (htext : (text == notModelled) = false) (hlimit : ¬ (stringBytes (stringToUtf16 text)).size > e.platform.arrayLengthLimit) (hheap : ¬ (stringBytes (stringToUtf16 text)).size * componentBytes .byte > e.platform.maxHeapBytes)
    {g : JFrame} (hg : g.method = m₀) (hsize : g.locals.size = c.maxLocals)
    (hRframes : names.length + 4 < R.frames) (hRlocals : 2 * g.monitorRoom + (g.stack.map fun v => v.category).sum + 10240 ≤ R.locals) (hshort : 13 * names.length + 55 ≤ 10240)
    (hRcells : cells + 3 ≤ R.cells) (hRslots : slots + ((stringBytes (stringToUtf16 text)).size + 4 + 6) ≤ R.slots) (hlocks : meth.locks = false) :
    ∃ (S : State) (q : Addr) (ce : Cell), (∀ target, Steps p.tables e below ((S.setTop g).pushFrame (.throwing q)) target → Steps p.tables e below ((W.setTop g).pushFrame (.throwNew cls (some text) none)) target) ∧
      Stand p l e R s m₀ args below meth c S locs (cells + 3) (slots + ((stringBytes (stringToUtf16 text)).size + 4 + 6)) ∧ S.heap[q]? = some ce ∧ s.vm.findClass cls = some ce.cls ∧ ce.vm = .none := by
  have howns : e.platform.frameOwnsMonitors = true := by rw [X.admits.platform]
  have hfin : e.platform.finalization = false := by rw [X.admits.platform]
  have hpl : e.platform.magicAccessors = ({} : Platform).magicAccessors := by rw [X.admits.platform]
  have a : ∀ x, x ∈ Bundle.messageArmAtoms cls names → x.holds args s none s [] = true := fun x hx => h x hx
  obtain ⟨T, Z0, L, -, Y⟩ := ThrowableC.of_atoms (args := args) howns hfin hpl (fun x hx => h x (by simp [Bundle.messageArmAtoms, hx]))
  obtain ⟨Z, M, LZ, LM, hnZ⟩ := Init0T.ofS_atoms (args := args) hpl L Y (fun x hx => h x (by simp [Bundle.messageArmAtoms, hx]))
  obtain ⟨P1, Ps, hlen, L1, hL, hP1m, hlink1, hlink⟩ := Bundle.chainS (args := args) hpl hnZ names cls hcls hnames (fun x hx => h x (by simp [Bundle.messageArmAtoms, hx]))
  obtain ⟨Zs, LZs, hn4, hfitv, hfitc⟩ := StringT.of_atoms (args := args) (fun x hx => h x (by simp [Bundle.messageArmAtoms, hx]))
  have hfound : s.vm.findClass cls = some P1.m.cls := findClass_of_methodNamed hP1m
  obtain ⟨c1, kX, hc1, hk, hord, -, -, hn6⟩ := Cond.instantiable_spec (a (.instantiable cls 6) (by simp [Bundle.messageArmAtoms]))
  cases Option.some.inj (hc1.symm.trans hfound)
  have hinit := Cond.initialized_spec hfound hk (a (.initialized cls) (by simp [Bundle.messageArmAtoms]))
  have hctor : kX.findMethod "<init>" "(Ljava/lang/String;)V" = some P1.m.idx := findMethod_of_methodNamed hP1m hk
  have hsel0 : selectMethod e.platform s.vm P1.m.cls T.fill0 = .method T.fill0 := by
    obtain ⟨c2, r2, m2, q1, q2, q3, q4, -⟩ := Cond.selects_spec (a (.selects cls Bundle.tFill0 Bundle.tFill0) (by simp [Bundle.messageArmAtoms]))
    cases Option.some.inj (q1.symm.trans hfound)
    cases Option.some.inj (q2.symm.trans (State.methodFound?_of_named Y.fill0 (by decide)))
    cases Option.some.inj (q3.symm.trans Y.fill0)
    rw [Launch.admits_selectMethod X.admits]; exact q4
  have hselF : selectMethod e.platform s.vm P1.m.cls T.fill = .method T.fill := by
    obtain ⟨c2, r2, m2, q1, q2, q3, q4, -⟩ := Cond.selects_spec (a (.selects cls Bundle.tFill Bundle.tFill) (by simp [Bundle.messageArmAtoms]))
    cases Option.some.inj (q1.symm.trans hfound)
    cases Option.some.inj (q2.symm.trans (State.methodFound?_of_named Y.fill (by decide)))
    cases Option.some.inj (q3.symm.trans Y.fill)
    rw [Launch.admits_selectMethod X.admits]; exact q4
  obtain ⟨cellS0, hcS0, hiss⟩ := Y.statics
  obtain ⟨u0, hu0⟩ := Cond.staticRefV Y.unassigned L.unassignedStatic L.statics hcS0 hiss (a (.isRef (.static Bundle.tN "UNASSIGNED_STACK" Bundle.steD)) (by simp [Bundle.messageArmAtoms]))
  obtain ⟨sen, hsen⟩ := Cond.staticRefV Y.sentinel L.sentinelStatic L.statics hcS0 hiss (a (.isRef (.static Bundle.tN "SUPPRESSED_SENTINEL" Bundle.listD)) (by simp [Bundle.messageArmAtoms]))
  obtain ⟨ci198, i198, fB, hk198, hg198, ha198, hsB, -, hnB, htB, hffB⟩ := Cond.ownField (t := .object "java/lang/Object") Y.found L.cls (by decide +kernel) (a (.fieldLink Bundle.tN 198 Bundle.tN "backtrace" "Ljava/lang/Object;") (by simp [Bundle.messageArmAtoms])) (a (.lays Bundle.tN Bundle.tN "backtrace" "Ljava/lang/Object;") (by simp [Bundle.messageArmAtoms])) e.platform hpl
  obtain ⟨cellS, hcS', heS, -, hkeep⟩ := X.same.2.2.2.2.2 T.aS cellS0 hcS0
  have hcellS : W.heap[T.aS]? = some cellS := hcS'
  have hout' : ∀ i, (⟨T.aS, i⟩ : Loc) ∉ locs := fun i hmem => by
    have := hlocs _ hmem cellS0 hcS0
    rw [hiss] at this; cases this
  have hknownS : cellS.vm ≠ .unknown := by
    rw [heS]; intro hu
    rw [show cellS0.vm = .unknown from hu] at hiss
    cases hiss
  have hvU : cellS.slots[T.fUnassigned.slot]? = some u0.v := by rw [hkeep _ (hout' _)]; exact hu0
  have hvSen : cellS.slots[T.fSentinel.slot]? = some sen.v := by rw [hkeep _ (hout' _)]; exact hsen
  obtain ⟨iM, hffM⟩ := Y.msg
  obtain ⟨tyC, dC, hdC, hdnC⟩ := Cond.laysAt hfound hk Y.cause (a (.lays cls Bundle.tN "cause" "Ljava/lang/Throwable;") (by simp [Bundle.messageArmAtoms]))
  obtain ⟨tyS, dS, hdS, hdnS⟩ := Cond.laysAt hfound hk Y.stack (a (.lays cls Bundle.tN "stackTrace" Bundle.steD) (by simp [Bundle.messageArmAtoms]))
  obtain ⟨tyP, dP, hdP, hdnP⟩ := Cond.laysAt hfound hk Y.supp (a (.lays cls Bundle.tN "suppressedExceptions" Bundle.listD) (by simp [Bundle.messageArmAtoms]))
  obtain ⟨tyM, dM, hdM, hdnM⟩ := Cond.laysAt hfound hk hffM (a (.lays cls Bundle.tN "detailMessage" "Ljava/lang/String;") (by simp [Bundle.messageArmAtoms]))
  obtain ⟨tyB, dB, hdB, hdnB⟩ := Cond.laysAt hfound hk hffB (a (.lays cls Bundle.tN "backtrace" "Ljava/lang/Object;") (by simp [Bundle.messageArmAtoms]))
  have bC := Cond.laysApart hdB hdC hdnB hdnC (by rw [hnB, Y.causeName]; decide)
  have bS := Cond.laysApart hdB hdS hdnB hdnS (by rw [hnB, Y.stackName]; decide)
  have bP := Cond.laysApart hdB hdP hdnB hdnP (by rw [hnB, Y.suppName]; decide)
  have hbk : ((preparedCellV T.toThrowableT (freshCell P1.m.cls kX) (W.heap.size + 2) u0 sen).withEntry W.cur).slots[fB.slot]? = some .null := by
    have := fresh_default (c := P1.m.cls) tyB
    rw [htB] at this
    simpa [preparedCellV, Cell.setSlot, Cell.withEntry, Array.getElem?_setIfInBounds, bC, bS, bP, bC.symm, bS.symm, bP.symm, defaultValue] using this
  have tkC := Takes.of_laid (v := .ref (W.heap.size + 2)) hk hord tyC (by rw [Y.causeType]; rfl)
  have tkS := Takes.of_laid (v := u0.v) hk hord tyS (by rw [Y.stackType]; exact fits_refV_array _ u0)
  have tkP := Takes.of_laid (v := sen.v) hk hord tyP (by rw [Y.suppType]; exact fits_refV_object _ sen)
  have tkM := Takes.of_laid (v := .ref (W.heap.size + 1)) hk hord tyM (by rw [Y.msgType]; rfl)
  have hskip : SkipFacts T e.platform s (fun u => u) u0 ((preparedCellV T.toThrowableT (freshCell P1.m.cls kX) (W.heap.size + 2) u0 sen).withEntry W.cur) := ⟨{ ci198 := ci198, i198 := i198, fBack := fB }, ⟨hk198, hg198, ha198, hsB⟩, hbk, fun _ _ => rfl⟩
  have h0 : At W g.method c below := by rw [hg]; exact X.here
  obtain ⟨hbeyond, hfreeW⟩ := X.vmMayThrow hsize (.throwNew cls (some text) none) (fun f hf => by cases hf) rfl hRlocals
  have hfr' : W.frames.length + Ps.length + 4 < (e.platform.stackLimits W.me).1 := by have := X.framesAbove hRframes; omega
  have hwd' : (stackUse (.java g :: W.frames.tail)).2 + 13 * Ps.length + 55 ≤ (e.platform.stackLimits W.me).2 := by have := X.stackAbove hsize (K := 13 * Ps.length + 55) (by omega); omega
  have hslots : W.slotsUsed + (stringBytes (stringToUtf16 text)).size + Zs.kS.instanceTypes.size + kX.instanceTypes.size ≤ e.platform.maxSlots := by
    have := X.slotsAbove hRslots
    rw [hn4, hn6]
    omega
  obtain ⟨vm', hW', st⟩ := Steps.vmThrowsMessageColdByV p (s₀ := s) (S := W) (g := g) h0 hexec T L Z LZ M LM X.warmed (t := W.cur) rfl Zs LZs P1 L1 Ps hL hlink1 hlink hsoe hoom hfound hk hinit hord hctor
    (Launch.admits_hotImplicitExceptions X.admits) hbeyond hfreeW htext hlimit hheap (X.cellsAbove hRcells) hslots (hfitv _) (hfitc _)
    (Nn := fun u => u) heapOnly_id (fun _ _ => rfl) (fun _ => rfl) (fun u x y => setCell_twice _ _ _ _) (fun _ => Nat.le_refl _) (cN := ((preparedCellV T.toThrowableT (freshCell P1.m.cls kX) (W.heap.size + 2) u0 sen).withEntry W.cur))
    hsel0 hcellS hknownS hvU tkS (fun _ hu => hu) (fun _ hu => hu) rfl rfl rfl (by simp [preparedCellV, Cell.setSlot, Cell.withEntry]) hskip (fun _ _ hA hW _ hroom _ hrest => L.nativeOff p htr hA hW hroom hrest) hselF hvSen tkC tkP tkM Y.objLocals rfl hfr' hwd'
  rw [plainBareV_eq T.toThrowableT (W.heap.size + 2) u0 sen (.ref (W.heap.size + 1)) W.cur rfl rfl] at st
  obtain ⟨-, -, w3, w4, -, -, -⟩ := withThrown_facts e.platform W Zs text P1.m.cls kX
  have X3 := ((X.pushed (bytesOf Zs.cB (stringToUtf16 text))).pushed (stringAt Zs.cS Zs.kS Zs.fv Zs.fc (stringToUtf16 text) W.heap.size)).pushed (freshCell P1.m.cls kX)
  rw [← withString_eq] at X3
  have X4 := X3.noted hW'
  have ha : (W.heap.size + 2) < ((withThrown W Zs text P1.m.cls kX).setVm vm').heap.size := by show _ < (withThrown W Zs text P1.m.cls kX).heap.size; rw [w3]; omega
  have hcell : ((withThrown W Zs text P1.m.cls kX).setVm vm').heap[(W.heap.size + 2)]? = some (freshCell P1.m.cls kX) := w4
  have X5 := ((((X4.stored hcell T.fCause.slot (.ref (W.heap.size + 2))).storedAgain ha T.fStack.slot u0.v).storedAgain ha T.fSupp.slot sen.v).storedAgain ha T.fStack.slot u0.v).storedAgain ha T.fMsg.slot (.ref (W.heap.size + 1))
  obtain ⟨g₁, hfrM⟩ := X5.frames_eq
  have hU : ((((withThrown W Zs text P1.m.cls kX).setVm vm').setCell (W.heap.size + 2) (plainBareV T.toThrowableT (freshCell P1.m.cls kX) (W.heap.size + 2) u0 sen (.ref (W.heap.size + 1)))).setTop g).pushFrame (.throwing (W.heap.size + 2)) = (((withThrown W Zs text P1.m.cls kX).setVm vm').setCell (W.heap.size + 2) (plainBareV T.toThrowableT (freshCell P1.m.cls kX) (W.heap.size + 2) u0 sen (.ref (W.heap.size + 1)))).setFrames (.throwing (W.heap.size + 2) :: .java g :: below) := by
    rw [State.pushFrame, State.frames_setTop _ hfrM, State.setTop_of_frames _ hfrM, State.setFrames_setFrames]
  have b1 : (bytesOf Zs.cB (stringToUtf16 text)).slots.size = (stringBytes (stringToUtf16 text)).size := by
    rw [(Cell.writeAll_facts _ _).2.2]; simp [bytes0]
  have b2 : (stringAt Zs.cS Zs.kS Zs.fv Zs.fc (stringToUtf16 text) W.heap.size).slots.size = 4 := by simp [string0, Cell.setSlot, hn4]
  have b3 : (freshCell P1.m.cls kX).slots.size = 6 := by simp [hn6]
  rw [b1, b2, b3] at X5
  have e9 : slots + (stringBytes (stringToUtf16 text)).size + 4 + 6 = slots + ((stringBytes (stringToUtf16 text)).size + 4 + 6) := by omega
  rw [e9] at X5
  simp only [List.append_assoc, List.cons_append, List.nil_append] at X5
  refine ⟨((withThrown W Zs text P1.m.cls kX).setVm vm').setCell (W.heap.size + 2) (plainBareV T.toThrowableT (freshCell P1.m.cls kX) (W.heap.size + 2) u0 sen (.ref (W.heap.size + 1))), W.heap.size + 2, _, fun target ht => st _ (by rw [X.tail, ← hU]; exact ht),
    X5.forget (fun y hy => ?_), heapAt_setCell_self _ ha, hfound, rfl⟩
  simp only [List.mem_cons, List.not_mem_nil, or_false] at hy
  have hge : s.heap.size ≤ W.heap.size := X.same.2.1
  rcases hy with rfl | rfl | rfl | rfl | rfl <;> exact Nat.le_trans hge (Nat.le_add_right _ 2)
set_option maxHeartbeats 1000000 in
/-- the machine throws NullPointerException, no traces kept: from its note over the frame g to 'throwing' over the same frame (follows the proof of Stand.vmThrowsNpe, Shelf42/KT2.lean; throwsNpeColdBareVAt, Shelf42/NT91.lean, called) -/
theorem vx_npeAt {p : Program} {l : Launch} {e : Env} {R : Room} {s : State} {m₀ : MethodId} {args : Array Value} {below : List Frame} {meth : Method} {c : Code} {W : State} {locs : List Loc} {cells slots : Nat}
    (X : Stand p l e R s m₀ args below meth c W locs cells slots) (hexec : p.tables.exec = Jvm.exec) (htr : e.platform.stackTraces = false) {n : Nat}
    (h : ∀ a ∈ Bundle.npeArmAtoms n, a.before args s = true)
    (hlocs : ∀ x ∈ locs, ∀ cell, s.heap[x.base]? = some cell → cell.vm.isStatics = false)
    {g : JFrame} (hg : g.method = m₀) (hsize : g.locals.size = c.maxLocals)
    (hRframes : 7 < R.frames) (hRlocals : 2 * g.monitorRoom + (g.stack.map fun v => v.category).sum + 10240 ≤ R.locals)
    (hRcells : cells + 1 ≤ R.cells) (hRslots : slots + n ≤ R.slots) (hlocks : meth.locks = false) :
    ∃ (S : State) (q : Addr) (ce : Cell), (∀ target, Steps p.tables e below ((S.setTop g).pushFrame (.throwing q)) target → Steps p.tables e below ((W.setTop g).pushFrame (.throwNew "java/lang/NullPointerException" none none)) target) ∧
      Stand p l e R s m₀ args below meth c S locs (cells + 1) (slots + n) ∧ S.heap[q]? = some ce ∧ s.vm.findClass "java/lang/NullPointerException" = some ce.cls ∧ ce.vm = .none := by
  have howns : e.platform.frameOwnsMonitors = true := by rw [X.admits.platform]
  have hfin : e.platform.finalization = false := by rw [X.admits.platform]
  have hpl : e.platform.magicAccessors = ({} : Platform).magicAccessors := by rw [X.admits.platform]
  have hpl2 : e.platform.arrayCloneIsPublic = true := by rw [X.admits.platform]
  have a' : ∀ x, x ∈ Bundle.npeArmAtoms n → x.holds args s none s [] = true := fun x hx => h x hx
  obtain ⟨T, Z, L, LZ, Y⟩ := ThrowableC.of_atoms (args := args) howns hfin hpl (fun x hx => h x (by simp [Bundle.npeArmAtoms, hx]))
  obtain ⟨N, LN, hcN, hnNF, hordN, hffS⟩ := NpeC.of_atoms (args := args) hpl hpl2 L Y (fun x hx => h x (by simp [Bundle.npeArmAtoms, hx]))
  obtain ⟨P1, L1, hP1m, hP1s⟩ := PassC.of_atoms (args := args) (s := s) hpl (X := Bundle.nN) (Y := Bundle.rN) (by decide) (by decide) LibCode.NullPointerException.Init0.at_0 LibCode.NullPointerException.Init0.at_1 LibCode.NullPointerException.Init0.at_4 (fun x hx => h x (by simp [Bundle.npeArmAtoms, hx]))
  obtain ⟨PR, LR, hPRm, hPRs⟩ := PassC.of_atoms (args := args) (s := s) hpl (X := Bundle.rN) (Y := Bundle.eN) (by decide) (by decide) LibCode.RuntimeException.Init0.at_0 LibCode.RuntimeException.Init0.at_1 LibCode.RuntimeException.Init0.at_4 (fun x hx => h x (by simp [Bundle.npeArmAtoms, hx]))
  obtain ⟨PE, LEx, hPEm, hPEs⟩ := PassC.of_atoms (args := args) (s := s) hpl (X := Bundle.eN) (Y := Bundle.tN) (by decide) (by decide) LibCode.Exception.Init0.at_0 LibCode.Exception.Init0.at_1 LibCode.Exception.Init0.at_4 (fun x hx => h x (by simp [Bundle.npeArmAtoms, hx]))
  have hfound : s.vm.findClass Bundle.nN = some P1.m.cls := findClass_of_methodNamed hP1m
  have ecls : N.cN = P1.m.cls := Option.some.inj (hcN.symm.trans hfound)
  have hk : s.vm.classes[P1.m.cls]? = some N.kN := by rw [← ecls]; exact LN.cls
  have hinit := Cond.initialized_spec hfound hk (a' (.initialized Bundle.nN) (by simp [Bundle.npeArmAtoms]))
  have hctor : N.kN.findMethod "<init>" "()V" = some P1.m.idx := findMethod_of_methodNamed hP1m hk
  obtain ⟨c1, k1, hc1, hk1, -, -, -, hn⟩ := Cond.instantiable_spec (a' (.instantiable Bundle.nN n) (by simp [Bundle.npeArmAtoms]))
  cases Option.some.inj (hc1.symm.trans hfound)
  cases Option.some.inj (hk1.symm.trans hk)
  have hfsz : (freshCell P1.m.cls N.kN).slots.size = n := by simp [hn]
  have hlink1 : P1.sup = PR.m := Option.some.inj (hP1s.symm.trans hPRm)
  have hlinkR : PR.sup = PE.m := Option.some.inj (hPRs.symm.trans hPEm)
  have hlinkE : PE.sup = Z.m T.toThrowableT := Option.some.inj (hPEs.symm.trans Y.init0)
  have hLs : ∀ P, P ∈ [PR, PE] → P.Links0 e.platform s := fun P hP => by
    simp only [List.mem_cons, List.not_mem_nil, or_false] at hP
    rcases hP with rfl | rfl
    · exact LR
    · exact LEx
  have hsel0 : selectMethod e.platform s.vm P1.m.cls T.fill0 = .method T.fill0 := by
    obtain ⟨c2, r2, m2, q1, q2, q3, q4, -⟩ := Cond.selects_spec (a' (.selects Bundle.nN Bundle.tFill0 Bundle.tFill0) (by simp [Bundle.npeArmAtoms]))
    cases Option.some.inj (q1.symm.trans hfound)
    cases Option.some.inj (q2.symm.trans (State.methodFound?_of_named Y.fill0 (by decide)))
    cases Option.some.inj (q3.symm.trans Y.fill0)
    rw [Launch.admits_selectMethod X.admits]; exact q4
  have hselF : selectMethod e.platform s.vm P1.m.cls T.fill = .method N.fill := by
    obtain ⟨c2, r2, m2, q1, q2, q3, q4, -⟩ := Cond.selects_spec (a' (.selects Bundle.nN Bundle.tFill Bundle.nFill) (by simp [Bundle.npeArmAtoms]))
    cases Option.some.inj (q1.symm.trans hfound)
    cases Option.some.inj (q2.symm.trans (State.methodFound?_of_named Y.fill (by decide)))
    cases Option.some.inj (q3.symm.trans hnNF)
    rw [Launch.admits_selectMethod X.admits]; exact q4
  obtain ⟨cellS0, hcS0, hiss⟩ := Y.statics
  obtain ⟨u0, hu0⟩ := Cond.staticRefV Y.unassigned L.unassignedStatic L.statics hcS0 hiss (a' (.isRef (.static Bundle.tN "UNASSIGNED_STACK" Bundle.steD)) (by simp [Bundle.npeArmAtoms]))
  obtain ⟨sen, hsen⟩ := Cond.staticRefV Y.sentinel L.sentinelStatic L.statics hcS0 hiss (a' (.isRef (.static Bundle.tN "SUPPRESSED_SENTINEL" Bundle.listD)) (by simp [Bundle.npeArmAtoms]))
  obtain ⟨ci198, i198, fB, hk198, hg198, ha198, hsB, -, hnB, htB, hffB⟩ := Cond.ownField (t := .object "java/lang/Object") Y.found L.cls (by decide +kernel) (a' (.fieldLink Bundle.tN 198 Bundle.tN "backtrace" Bundle.objD) (by simp [Bundle.npeArmAtoms])) (a' (.lays Bundle.tN Bundle.tN "backtrace" Bundle.objD) (by simp [Bundle.npeArmAtoms])) e.platform hpl
  obtain ⟨cellS, hcS', heS, -, hkeep⟩ := X.same.2.2.2.2.2 T.aS cellS0 hcS0
  have hcellS : W.heap[T.aS]? = some cellS := hcS'
  have hout' : ∀ i, (⟨T.aS, i⟩ : Loc) ∉ locs := fun i hmem => by
    have := hlocs _ hmem cellS0 hcS0
    rw [hiss] at this; cases this
  have hknownS : cellS.vm ≠ .unknown := by
    rw [heS]; intro hu
    rw [show cellS0.vm = .unknown from hu] at hiss
    cases hiss
  have hvU : cellS.slots[T.fUnassigned.slot]? = some u0.v := by rw [hkeep _ (hout' _)]; exact hu0
  have hvSen : cellS.slots[T.fSentinel.slot]? = some sen.v := by rw [hkeep _ (hout' _)]; exact hsen
  obtain ⟨tyC, dC, hdC, hdnC⟩ := Cond.laysAt hfound hk Y.cause (a' (.lays Bundle.nN Bundle.tN "cause" "Ljava/lang/Throwable;") (by simp [Bundle.npeArmAtoms]))
  obtain ⟨tyS, dS, hdS, hdnS⟩ := Cond.laysAt hfound hk Y.stack (a' (.lays Bundle.nN Bundle.tN "stackTrace" Bundle.steD) (by simp [Bundle.npeArmAtoms]))
  obtain ⟨tyP, dP, hdP, hdnP⟩ := Cond.laysAt hfound hk Y.supp (a' (.lays Bundle.nN Bundle.tN "suppressedExceptions" Bundle.listD) (by simp [Bundle.npeArmAtoms]))
  obtain ⟨tyX, dX, hdX, hdnX⟩ := Cond.laysAt hfound hk hffS (a' (.lays Bundle.nN Bundle.nN "extendedMessageState" "I") (by simp [Bundle.npeArmAtoms, Bundle.npeAtoms]))
  obtain ⟨hnX, htX⟩ := State.fieldFound?_type hffS (t := .int) (by decide +kernel)
  have xC := Cond.laysApart hdC hdX hdnC hdnX (by rw [hnX, Y.causeName]; decide)
  have xS := Cond.laysApart hdS hdX hdnS hdnX (by rw [hnX, Y.stackName]; decide)
  have xP := Cond.laysApart hdP hdX hdnP hdnX (by rw [hnX, Y.suppName]; decide)
  have hv0 : (freshCell P1.m.cls N.kN).slots[N.fState.slot]? = some (.int 0) := by
    have := fresh_default (c := P1.m.cls) tyX
    rw [htX] at this; exact this
  obtain ⟨tyB, dB, hdB, hdnB⟩ := Cond.laysAt hfound hk hffB (a' (.lays Bundle.nN Bundle.tN "backtrace" Bundle.objD) (by simp [Bundle.npeArmAtoms]))
  have bC := Cond.laysApart hdB hdC hdnB hdnC (by rw [hnB, Y.causeName]; decide)
  have bS := Cond.laysApart hdB hdS hdnB hdnS (by rw [hnB, Y.stackName]; decide)
  have bP := Cond.laysApart hdB hdP hdnB hdnP (by rw [hnB, Y.suppName]; decide)
  have bX := Cond.laysApart hdB hdX hdnB hdnX (by rw [hnB, hnX]; decide)
  have hbk : ((npeCell N.toNpeT (preparedCellV T.toThrowableT (freshCell P1.m.cls N.kN) W.heap.size u0 sen) W.cur).withEntry W.cur).slots[fB.slot]? = some .null := by
    have := fresh_default (c := P1.m.cls) tyB
    rw [htB] at this
    simpa [npeCell, preparedCellV, Cell.setSlot, Cell.withEntry, Array.getElem?_setIfInBounds, bC, bS, bP, bX, bC.symm, bS.symm, bP.symm, bX.symm, defaultValue] using this
  have tkC := Takes.of_laid (v := .ref W.heap.size) hk hordN tyC (by rw [Y.causeType]; rfl)
  have tkS := Takes.of_laid (v := u0.v) hk hordN tyS (by rw [Y.stackType]; exact fits_refV_array _ u0)
  have tkP := Takes.of_laid (v := sen.v) hk hordN tyP (by rw [Y.suppType]; exact fits_refV_object _ sen)
  have tkX := Takes.of_laid (v := .int 1) hk hordN tyX (by rw [htX]; rfl)
  have hskip : SkipFacts T e.platform s (fun u => u) u0 ((npeCell N.toNpeT (preparedCellV T.toThrowableT (freshCell P1.m.cls N.kN) W.heap.size u0 sen) W.cur).withEntry W.cur) := ⟨{ ci198 := ci198, i198 := i198, fBack := fB }, ⟨hk198, hg198, ha198, hsB⟩, hbk, fun _ _ => rfl⟩
  obtain ⟨vm', X3, st, -⟩ := X.throwsNpeColdBareVAt hexec hg hsize T L Z LZ N LN P1 L1 [PR, PE] hLs hlink1 ⟨hlinkR, hlinkE, trivial⟩ hfound hk hinit hordN hctor hsel0 hselF hcellS hknownS hvU hvSen
    hv0 xC xS xP tkC tkS tkP tkX Y.objLocals hskip (fun _ _ hA hW _ hroom _ hrest => L.nativeOff p htr hA hW hroom hrest) (by simpa using hRframes) hRlocals (by simp) hRcells (by rw [hn]; exact hRslots)
  have hlt : W.heap.size < ((W.pushCell (freshCell P1.m.cls N.kN)).setVm vm').heap.size := by
    show W.heap.size < (W.pushCell (freshCell P1.m.cls N.kN)).heap.size
    rw [State.heap_size_pushCell]; omega
  rw [hfsz] at X3
  obtain ⟨g₁, hfrM⟩ := X3.frames_eq
  have hU : ((((W.pushCell (freshCell P1.m.cls N.kN)).setVm vm').setCell W.heap.size (npeBareV T.toThrowableT N.toNpeT (freshCell P1.m.cls N.kN) W.heap.size u0 sen)).setTop g).pushFrame (.throwing W.heap.size) = (((W.pushCell (freshCell P1.m.cls N.kN)).setVm vm').setCell W.heap.size (npeBareV T.toThrowableT N.toNpeT (freshCell P1.m.cls N.kN) W.heap.size u0 sen)).setFrames (.throwing W.heap.size :: .java g :: below) := by
    rw [State.pushFrame, State.frames_setTop _ hfrM, State.setTop_of_frames _ hfrM, State.setFrames_setFrames]
  refine ⟨_, W.heap.size, _, fun target ht => st.trans (by rw [← hU]; exact ht), X3.forget (fun y hy => ?_), heapAt_setCell_self _ hlt, hfound, rfl⟩
  simp only [List.mem_cons, List.not_mem_nil, or_false] at hy
  have hge : s.heap.size ≤ W.heap.size := X.same.2.1
  rcases hy with rfl | rfl | rfl | rfl | rfl <;> exact hge
/-- the words of a machine's NullPointerException, but the four that speak of the heap -/
def vx_atN (n : Nat) : List Cond := (Bundle.npeArmAtoms n).filter vx_no
/-- the words of a machine's throw with a message, but the four that speak of the heap -/
def vx_atM (X : String) (names : List String) : List Cond := (Bundle.messageArmAtoms X names).filter vx_no
section
variable {p : Program} {l : Launch} {e : Env} {R : Room} {s : State} {m : MethodId} {args : Array Value} {below : List Frame} {meth : Method} {c : Code} {H : Heap} {locs : List Loc} {cells slots : Nat}
/-- a frame seen from a rebased start, seen from the first start again -/
theorem vx_back9 {T S : State} {R' : Room} {k n : Nat} (X : Stand p l e R s m args below meth c T locs cells slots) (Y : Stand p l e R' ((T.setVm s.vm).setFrames (.invoking m args :: below)) m args below meth c T [] 0 0) (Z : Stand p l e R' ((T.setVm s.vm).setFrames (.invoking m args :: below)) m args below meth c S [] k n) :
    Stand p l e R s m args below meth c S locs (cells + k) (slots + n) := by
  have hW0 : s.WarmedH ((T.setVm s.vm).setFrames (.invoking m args :: below)).vm := State.WarmedH.refl s
  refine { admits := X.admits, cas := X.cas, clock := X.clock, frames := X.frames, room := X.room, hears := X.hears, method := X.method, code := X.code, here := Z.here, tail := Z.tail, warmed := State.WarmedH.trans hW0 Z.warmed, limits := Z.limits.trans (Y.limits.symm.trans X.limits), bytes := Z.bytes.trans (Y.bytes.symm.trans X.bytes), same := ?_ }
  obtain ⟨e1, e2⟩ := Z.same
  rw [State.setFrames_setFrames] at e1
  have h2 : (T.setVm s.vm).sameButNew (S.setVm s.vm) [] k n := ⟨e1, e2⟩
  have h3 := X.same.trans h2
  rw [List.append_nil] at h3
  exact h3
/-- from the machine's note that E is thrown here with this text -/
def vx_Note (p : Program) (l : Launch) (e : Env) (R : Room) (s : State) (m : MethodId) (args : Array Value) (below : List Frame) (meth : Method) (c : Code) (H : Heap) (locs : List Loc) (cells slots : Nat) (Q : State → Prop) (g : JFrame) (E text : String) : Prop :=
  ∀ T : State, T.heap = H → Stand p l e R s m args below meth c T locs cells slots → ∃ t, Steps p.tables e below ((T.setTop g).pushFrame (.throwNew E (some text) none)) t ∧ Q t
theorem vx_vm {pc : Nat} {ls : Array Slot} {rest : List Value} {Q : State → Prop} (hexec : p.tables.exec = Jvm.exec) (hl : l.stackTraces = false) {cls text : String} {names : List String} {nb : Nat} {A : Nat → Prop}
    (hcls : Bundle.fit cls = true) (hnames : ∀ n ∈ names, Bundle.fit n = true) (hsoe : (cls == "java/lang/StackOverflowError") = false) (hoom : (cls == "java/lang/OutOfMemoryError") = false)
    (hat : ∀ w ∈ vx_atM cls names, w.before args s = true) (hgood : ∀ w ∈ vx_atM cls names, vx_ot w = true)
    (hU : vx_Zq Bundle.tN "UNASSIGNED_STACK" Bundle.steD A s s.heap) (hN : vx_Zq Bundle.tN "SUPPRESSED_SENTINEL" Bundle.listD A s s.heap) (hS : va_S A s.heap H locs) (hsize : ls.size = c.maxLocals)
    (htext : (text == notModelled) = false) (hnb : (stringBytes (stringToUtf16 text)).size ≤ nb) (hnb1 : nb ≤ 1000)
    (hRframes : names.length + 4 < R.frames) (hRlocals : (rest.map fun v => v.category).sum + 10240 ≤ R.locals) (hshort : 13 * names.length + 55 ≤ 10240) (hRcells : cells + 3 ≤ R.cells) (hRslots : slots + (nb + 10) ≤ R.slots) (hlocks : meth.locks = false)
    (k : ∀ (H1 : Heap) (q9 : Addr) (ce : Cell), H.size ≤ H1.size → (∀ q : Nat, q < H.size → H1[q]? = H[q]?) → va_S A s.heap H1 locs → H1[q9]? = some ce → ce.vm = .none → s.vm.findClass cls = some ce.cls → vx_W p l e R s m args below meth c H1 locs (cells + 3) (slots + (nb + 10)) Q (F0 m pc ls rest) q9) :
    vx_Note p l e R s m args below meth c H locs cells slots Q (F0 m pc ls rest) cls text := by
  intro T hT X
  have htr : e.platform.stackTraces = false := (show e.platform.stackTraces = l.stackTraces by rw [X.admits.platform]).trans hl
  have Y := vx_rebase X (R' := { frames := R.frames, locals := R.locals, cells := 3, slots := nb + 10 }) (Nat.le_refl _) (Nat.le_refl _) hRcells hRslots
  have hhp : ((T.setVm s.vm).setFrames (.invoking m args :: below)).heap = H := hT
  have hW0 : s.WarmedH ((T.setVm s.vm).setFrames (.invoking m args :: below)).vm := State.WarmedH.refl s
  have hat' : ∀ w ∈ vx_atM cls names, w.before args ((T.setVm s.vm).setFrames (.invoking m args :: below)) = true := fun w hw => vx_ot_at hW0 rfl (hgood w hw) (hat w hw)
  have hU' : vx_Zq Bundle.tN "UNASSIGNED_STACK" Bundle.steD A ((T.setVm s.vm).setFrames (.invoking m args :: below)) ((T.setVm s.vm).setFrames (.invoking m args :: below)).heap := by rw [hhp]; exact vx_Zq.moved hW0.alike (hU.kept hS.2.1)
  have hN' : vx_Zq Bundle.tN "SUPPRESSED_SENTINEL" Bundle.listD A ((T.setVm s.vm).setFrames (.invoking m args :: below)) ((T.setVm s.vm).setFrames (.invoking m args :: below)).heap := by rw [hhp]; exact vx_Zq.moved hW0.alike (hN.kept hS.2.1)
  obtain ⟨S, q, ce, st, Z, hce, hcl', hv⟩ := vx_vmAt Y hexec htr (cls := cls) (names := names) (text := text) hcls hnames hsoe hoom (vx_own hat' (vx_isRefq hU'.1) (vx_isRefq hN'.1) hU'.2.word hN'.2.word) (fun x hx => nomatch hx) htext
    (by rw [Launch.admits_arrayLengthLimit X.admits]; omega) (by rw [Launch.admits_maxHeapBytes X.admits]; simp only [componentBytes]; omega)
    (g := F0 m pc ls rest) rfl hsize hRframes (by show 2 * 0 + (rest.map fun v => v.category).sum + 10240 ≤ R.locals; omega) hshort (by show 0 + 3 ≤ 3; omega) (by show 0 + (_ + 4 + 6) ≤ nb + 10; omega) hlocks
  obtain ⟨f1, f2⟩ := vx_frame Z.same
  have f1' : H.size ≤ S.heap.size := by rw [← hT]; exact f1
  have f2' : ∀ q : Nat, q < H.size → S.heap[q]? = H[q]? := fun q hq => by
    rw [← hT]
    exact f2 q (by rw [← hT] at hq; exact hq) (fun z hz => nomatch hz)
  have X5 := vx_back9 X Y Z
  have X6 : Stand p l e R s m args below meth c S locs (cells + 3) (slots + (nb + 10)) := { X5 with same := X5.same.mono (by omega) (by omega) }
  obtain ⟨t, a1, b1⟩ := k S.heap q ce f1' f2' ⟨Nat.le_trans hS.1 f1', fun q h1 h2 => (f2' q (Nat.lt_of_lt_of_le h1 hS.1)).trans (hS.2.1 q h1 h2), hS.2.2⟩ hce hv hcl' S rfl X6
  exact ⟨t, st t a1, b1⟩
/-- from the machine's note that NullPointerException is thrown here -/
def vx_NoteN (p : Program) (l : Launch) (e : Env) (R : Room) (s : State) (m : MethodId) (args : Array Value) (below : List Frame) (meth : Method) (c : Code) (H : Heap) (locs : List Loc) (cells slots : Nat) (Q : State → Prop) (g : JFrame) : Prop :=
  ∀ T : State, T.heap = H → Stand p l e R s m args below meth c T locs cells slots → ∃ t, Steps p.tables e below ((T.setTop g).pushFrame (.throwNew "java/lang/NullPointerException" none none)) t ∧ Q t
theorem vx_npe {pc : Nat} {ls : Array Slot} {rest : List Value} {Q : State → Prop} (hexec : p.tables.exec = Jvm.exec) (hl : l.stackTraces = false) {nb : Nat} {A : Nat → Prop}
    (hat : ∀ w ∈ vx_atN nb, w.before args s = true) (hgood : ∀ w ∈ vx_atN nb, vx_ot w = true)
    (hU : vx_Zq Bundle.tN "UNASSIGNED_STACK" Bundle.steD A s s.heap) (hN : vx_Zq Bundle.tN "SUPPRESSED_SENTINEL" Bundle.listD A s s.heap) (hS : va_S A s.heap H locs) (hsize : ls.size = c.maxLocals)
    (hRframes : 7 < R.frames) (hRlocals : (rest.map fun v => v.category).sum + 10240 ≤ R.locals) (hRcells : cells + 1 ≤ R.cells) (hRslots : slots + nb ≤ R.slots) (hlocks : meth.locks = false)
    (k : ∀ (H1 : Heap) (q9 : Addr) (ce : Cell), H.size ≤ H1.size → (∀ q : Nat, q < H.size → H1[q]? = H[q]?) → va_S A s.heap H1 locs → H1[q9]? = some ce → ce.vm = .none → s.vm.findClass "java/lang/NullPointerException" = some ce.cls → vx_W p l e R s m args below meth c H1 locs (cells + 1) (slots + nb) Q (F0 m pc ls rest) q9) :
    vx_NoteN p l e R s m args below meth c H locs cells slots Q (F0 m pc ls rest) := by
  intro T hT X
  have htr : e.platform.stackTraces = false := (show e.platform.stackTraces = l.stackTraces by rw [X.admits.platform]).trans hl
  have Y := vx_rebase X (R' := { frames := R.frames, locals := R.locals, cells := 1, slots := nb }) (Nat.le_refl _) (Nat.le_refl _) hRcells hRslots
  have hhp : ((T.setVm s.vm).setFrames (.invoking m args :: below)).heap = H := hT
  have hW0 : s.WarmedH ((T.setVm s.vm).setFrames (.invoking m args :: below)).vm := State.WarmedH.refl s
  have hat' : ∀ w ∈ vx_atN nb, w.before args ((T.setVm s.vm).setFrames (.invoking m args :: below)) = true := fun w hw => vx_ot_at hW0 rfl (hgood w hw) (hat w hw)
  have hU' : vx_Zq Bundle.tN "UNASSIGNED_STACK" Bundle.steD A ((T.setVm s.vm).setFrames (.invoking m args :: below)) ((T.setVm s.vm).setFrames (.invoking m args :: below)).heap := by rw [hhp]; exact vx_Zq.moved hW0.alike (hU.kept hS.2.1)
  have hN' : vx_Zq Bundle.tN "SUPPRESSED_SENTINEL" Bundle.listD A ((T.setVm s.vm).setFrames (.invoking m args :: below)) ((T.setVm s.vm).setFrames (.invoking m args :: below)).heap := by rw [hhp]; exact vx_Zq.moved hW0.alike (hN.kept hS.2.1)
  obtain ⟨S, q, ce, st, Z, hce, hcl', hv⟩ := vx_npeAt Y hexec htr (n := nb) (vx_own hat' (vx_isRefq hU'.1) (vx_isRefq hN'.1) hU'.2.word hN'.2.word) (fun x hx => nomatch hx)
    (g := F0 m pc ls rest) rfl hsize hRframes (by show 2 * 0 + (rest.map fun v => v.category).sum + 10240 ≤ R.locals; omega) (by show 0 + 1 ≤ 1; omega) (by show 0 + nb ≤ nb; omega) hlocks
  obtain ⟨f1, f2⟩ := vx_frame Z.same
  have f1' : H.size ≤ S.heap.size := by rw [← hT]; exact f1
  have f2' : ∀ q : Nat, q < H.size → S.heap[q]? = H[q]? := fun q hq => by
    rw [← hT]
    exact f2 q (by rw [← hT] at hq; exact hq) (fun z hz => nomatch hz)
  have X5 := vx_back9 X Y Z
  have X6 : Stand p l e R s m args below meth c S locs (cells + 1) (slots + nb) := { X5 with same := X5.same.mono (by omega) (by omega) }
  obtain ⟨t, a1, b1⟩ := k S.heap q ce f1' f2' ⟨Nat.le_trans hS.1 f1', fun q h1 h2 => (f2' q (Nat.lt_of_lt_of_le h1 hS.1)).trans (hS.2.1 q h1 h2), hS.2.2⟩ hce hv hcl' S rfl X6
  exact ⟨t, st t a1, b1⟩
variable {Q : State → Prop} {cc : ByteArray} {pc : Nat} {ls : Array Slot} {rest : List Value}
theorem vx_idivZ (hexec : p.tables.exec = Jvm.exec) (hb : c.code = cc) {a b : Int32} (h0 : b = 0) (d : decode cc pc = .ok (.idiv, 1)) (k : vx_Note p l e R s m args below meth c H locs cells slots Q (F0 m pc ls rest) "java/lang/ArithmeticException" "/ by zero") :
    W p l e R s m args below meth c H locs cells slots Q (F0 m pc ls (.int b :: .int a :: rest)) := by
  intro T hT X
  obtain ⟨t, st, q⟩ := k T hT X
  exact ⟨t, X.idivZero hexec (g := F0 m pc ls (.int b :: .int a :: rest)) rfl (a := a) (rest := rest) (by rw [h0]) (by rw [hb]; exact d) t st, q⟩
theorem vx_iremZ (hexec : p.tables.exec = Jvm.exec) (hb : c.code = cc) {a b : Int32} (h0 : b = 0) (d : decode cc pc = .ok (.irem, 1)) (k : vx_Note p l e R s m args below meth c H locs cells slots Q (F0 m pc ls rest) "java/lang/ArithmeticException" "/ by zero") :
    W p l e R s m args below meth c H locs cells slots Q (F0 m pc ls (.int b :: .int a :: rest)) := by
  intro T hT X
  obtain ⟨t, st, q⟩ := k T hT X
  exact ⟨t, X.iremZero hexec (g := F0 m pc ls (.int b :: .int a :: rest)) rfl (a := a) (rest := rest) (by rw [h0]) (by rw [hb]; exact d) t st, q⟩
theorem vx_ldivZ (hexec : p.tables.exec = Jvm.exec) (hb : c.code = cc) {a b : Int64} (h0 : b = 0) (d : decode cc pc = .ok (.ldiv, 1)) (k : vx_Note p l e R s m args below meth c H locs cells slots Q (F0 m pc ls rest) "java/lang/ArithmeticException" "/ by zero") :
    W p l e R s m args below meth c H locs cells slots Q (F0 m pc ls (.long b :: .long a :: rest)) := by
  intro T hT X
  obtain ⟨t, st, q⟩ := k T hT X
  exact ⟨t, X.ldivZero hexec (g := F0 m pc ls (.long b :: .long a :: rest)) rfl (a := a) (rest := rest) (by rw [h0]) (by rw [hb]; exact d) t st, q⟩
theorem vx_lremZ (hexec : p.tables.exec = Jvm.exec) (hb : c.code = cc) {a b : Int64} (h0 : b = 0) (d : decode cc pc = .ok (.lrem, 1)) (k : vx_Note p l e R s m args below meth c H locs cells slots Q (F0 m pc ls rest) "java/lang/ArithmeticException" "/ by zero") :
    W p l e R s m args below meth c H locs cells slots Q (F0 m pc ls (.long b :: .long a :: rest)) := by
  intro T hT X
  obtain ⟨t, st, q⟩ := k T hT X
  exact ⟨t, X.lremZero hexec (g := F0 m pc ls (.long b :: .long a :: rest)) rfl (a := a) (rest := rest) (by rw [h0]) (by rw [hb]; exact d) t st, q⟩
theorem vx_ialdZ {D : va_G} {cl : List vw_C} {ws : va_W} {tys : List (ClassId × FieldType)} {a : Nat} (hexec : p.tables.exec = Jvm.exec) (hb : c.code = cc) (hK : va_K D cl tys s) (hP : va_P D cl ws H) (q0 t0 : Nat) {cA : ClassId} {n : Nat} {f : Nat → Int32} (ha : ws[q0]? = some (a, .inl (cA, n, .inl f))) (ht : tys[t0]? = some (cA, .int)) {i : Int32} (hout : ¬ vp_in i n) (hdg : decode cc pc = .ok (.iaload, 1))
    (k : ∀ tx : String, tx = (toString "Index " ++ toString i ++ toString " out of bounds for length " ++ toString n : String) → vx_Note p l e R s m args below meth c H locs cells slots Q (F0 m pc ls rest) "java/lang/ArrayIndexOutOfBoundsException" tx) : W p l e R s m args below meth c H locs cells slots Q (F0 m pc ls (.int i :: .ref a :: rest)) := by
  intro T hT X
  obtain ⟨t, st, q⟩ := k _ rfl T hT X
  refine ⟨t, ?_, q⟩
  have h1 := X.ialoadOut hexec (by rw [hT]; exact hP q0 _ ha) ((hK.2 t0 _ ht).1 n (fun j => .int (f j))) (j := i) (by show (i < 0 ∨ (arrV _ _ _).slots.size ≤ _); rw [arrV_size]; exact Classical.byContradiction hout) (g := F0 m pc ls (.int i :: .ref a :: rest)) rfl (rest := rest) rfl (by rw [hb]; exact hdg) t
  simp only [arrV_size] at h1
  exact h1 st
theorem vx_iastZ {D : va_G} {cl : List vw_C} {ws : va_W} {tys : List (ClassId × FieldType)} {a : Nat} (hexec : p.tables.exec = Jvm.exec) (hb : c.code = cc) (hK : va_K D cl tys s) (hP : va_P D cl ws H) (q0 t0 : Nat) {cA : ClassId} {n : Nat} {f : Nat → Int32} (ha : ws[q0]? = some (a, .inl (cA, n, .inl f))) (ht : tys[t0]? = some (cA, .int)) {i : Int32} {x : Int32} (hout : ¬ vp_in i n) (hdg : decode cc pc = .ok (.iastore, 1))
    (k : ∀ tx : String, tx = (toString "Index " ++ toString i ++ toString " out of bounds for length " ++ toString n : String) → vx_Note p l e R s m args below meth c H locs cells slots Q (F0 m pc ls rest) "java/lang/ArrayIndexOutOfBoundsException" tx) : W p l e R s m args below meth c H locs cells slots Q (F0 m pc ls (.int x :: .int i :: .ref a :: rest)) := by
  intro T hT X
  obtain ⟨t, st, q⟩ := k _ rfl T hT X
  refine ⟨t, ?_, q⟩
  have h1 := X.iastoreOut hexec (by rw [hT]; exact hP q0 _ ha) ((hK.2 t0 _ ht).1 n (fun j => .int (f j))) (j := i) (by show (i < 0 ∨ (arrV _ _ _).slots.size ≤ _); rw [arrV_size]; exact Classical.byContradiction hout) (g := F0 m pc ls (.int x :: .int i :: .ref a :: rest)) rfl (rest := rest) rfl (by rw [hb]; exact hdg) t
  simp only [arrV_size] at h1
  exact h1 st
theorem vx_baldZ {D : va_G} {cl : List vw_C} {ws : va_W} {tys : List (ClassId × FieldType)} {a : Nat} (hexec : p.tables.exec = Jvm.exec) (hb : c.code = cc) (hK : va_K D cl tys s) (hP : va_P D cl ws H) (q0 t0 : Nat) {cA : ClassId} {n : Nat} {f : Nat → Int32} (ha : ws[q0]? = some (a, .inl (cA, n, .inl f))) (ht : tys[t0]? = some (cA, .byte)) {i : Int32} (hout : ¬ vp_in i n) (hdg : decode cc pc = .ok (.baload, 1))
    (k : ∀ tx : String, tx = (toString "Index " ++ toString i ++ toString " out of bounds for length " ++ toString n : String) → vx_Note p l e R s m args below meth c H locs cells slots Q (F0 m pc ls rest) "java/lang/ArrayIndexOutOfBoundsException" tx) : W p l e R s m args below meth c H locs cells slots Q (F0 m pc ls (.int i :: .ref a :: rest)) := by
  intro T hT X
  obtain ⟨t, st, q⟩ := k _ rfl T hT X
  refine ⟨t, ?_, q⟩
  have h1 := X.baloadOut hexec (by rw [hT]; exact hP q0 _ ha) ((hK.2 t0 _ ht).1 n (fun j => .int (f j))) (j := i) (by show (i < 0 ∨ (arrV _ _ _).slots.size ≤ _); rw [arrV_size]; exact Classical.byContradiction hout) (g := F0 m pc ls (.int i :: .ref a :: rest)) rfl (rest := rest) rfl (by rw [hb]; exact hdg) t
  simp only [arrV_size] at h1
  exact h1 st
theorem vx_bastZ {D : va_G} {cl : List vw_C} {ws : va_W} {tys : List (ClassId × FieldType)} {a : Nat} (hexec : p.tables.exec = Jvm.exec) (hb : c.code = cc) (hK : va_K D cl tys s) (hP : va_P D cl ws H) (q0 t0 : Nat) {cA : ClassId} {n : Nat} {f : Nat → Int32} (ha : ws[q0]? = some (a, .inl (cA, n, .inl f))) (ht : tys[t0]? = some (cA, .byte)) {i : Int32} {x : Int32} (hout : ¬ vp_in i n) (hdg : decode cc pc = .ok (.bastore, 1))
    (k : ∀ tx : String, tx = (toString "Index " ++ toString i ++ toString " out of bounds for length " ++ toString n : String) → vx_Note p l e R s m args below meth c H locs cells slots Q (F0 m pc ls rest) "java/lang/ArrayIndexOutOfBoundsException" tx) : W p l e R s m args below meth c H locs cells slots Q (F0 m pc ls (.int x :: .int i :: .ref a :: rest)) := by
  intro T hT X
  obtain ⟨t, st, q⟩ := k _ rfl T hT X
  refine ⟨t, ?_, q⟩
  have h1 := X.bastoreOut hexec (by rw [hT]; exact hP q0 _ ha) ((hK.2 t0 _ ht).1 n (fun j => .int (f j))) (j := i) (by show (i < 0 ∨ (arrV _ _ _).slots.size ≤ _); rw [arrV_size]; exact Classical.byContradiction hout) (g := F0 m pc ls (.int x :: .int i :: .ref a :: rest)) rfl (rest := rest) rfl (by rw [hb]; exact hdg) t
  simp only [arrV_size] at h1
  exact h1 st
theorem vx_zaldZ {D : va_G} {cl : List vw_C} {ws : va_W} {tys : List (ClassId × FieldType)} {a : Nat} (hexec : p.tables.exec = Jvm.exec) (hb : c.code = cc) (hK : va_K D cl tys s) (hP : va_P D cl ws H) (q0 t0 : Nat) {cA : ClassId} {n : Nat} {f : Nat → Int32} (ha : ws[q0]? = some (a, .inl (cA, n, .inl f))) (ht : tys[t0]? = some (cA, .boolean)) {i : Int32} (hout : ¬ vp_in i n) (hdg : decode cc pc = .ok (.baload, 1))
    (k : ∀ tx : String, tx = (toString "Index " ++ toString i ++ toString " out of bounds for length " ++ toString n : String) → vx_Note p l e R s m args below meth c H locs cells slots Q (F0 m pc ls rest) "java/lang/ArrayIndexOutOfBoundsException" tx) : W p l e R s m args below meth c H locs cells slots Q (F0 m pc ls (.int i :: .ref a :: rest)) := by
  intro T hT X
  obtain ⟨t, st, q⟩ := k _ rfl T hT X
  refine ⟨t, ?_, q⟩
  have h1 := X.baloadOut hexec (by rw [hT]; exact hP q0 _ ha) ((hK.2 t0 _ ht).1 n (fun j => .int (f j))) (j := i) (by show (i < 0 ∨ (arrV _ _ _).slots.size ≤ _); rw [arrV_size]; exact Classical.byContradiction hout) (g := F0 m pc ls (.int i :: .ref a :: rest)) rfl (rest := rest) rfl (by rw [hb]; exact hdg) t
  simp only [arrV_size] at h1
  exact h1 st
theorem vx_zastZ {D : va_G} {cl : List vw_C} {ws : va_W} {tys : List (ClassId × FieldType)} {a : Nat} (hexec : p.tables.exec = Jvm.exec) (hb : c.code = cc) (hK : va_K D cl tys s) (hP : va_P D cl ws H) (q0 t0 : Nat) {cA : ClassId} {n : Nat} {f : Nat → Int32} (ha : ws[q0]? = some (a, .inl (cA, n, .inl f))) (ht : tys[t0]? = some (cA, .boolean)) {i : Int32} {x : Int32} (hout : ¬ vp_in i n) (hdg : decode cc pc = .ok (.bastore, 1))
    (k : ∀ tx : String, tx = (toString "Index " ++ toString i ++ toString " out of bounds for length " ++ toString n : String) → vx_Note p l e R s m args below meth c H locs cells slots Q (F0 m pc ls rest) "java/lang/ArrayIndexOutOfBoundsException" tx) : W p l e R s m args below meth c H locs cells slots Q (F0 m pc ls (.int x :: .int i :: .ref a :: rest)) := by
  intro T hT X
  obtain ⟨t, st, q⟩ := k _ rfl T hT X
  refine ⟨t, ?_, q⟩
  have h1 := X.bastoreOut hexec (by rw [hT]; exact hP q0 _ ha) ((hK.2 t0 _ ht).1 n (fun j => .int (f j))) (j := i) (by show (i < 0 ∨ (arrV _ _ _).slots.size ≤ _); rw [arrV_size]; exact Classical.byContradiction hout) (g := F0 m pc ls (.int x :: .int i :: .ref a :: rest)) rfl (rest := rest) rfl (by rw [hb]; exact hdg) t
  simp only [arrV_size] at h1
  exact h1 st
theorem vx_caldZ {D : va_G} {cl : List vw_C} {ws : va_W} {tys : List (ClassId × FieldType)} {a : Nat} (hexec : p.tables.exec = Jvm.exec) (hb : c.code = cc) (hK : va_K D cl tys s) (hP : va_P D cl ws H) (q0 t0 : Nat) {cA : ClassId} {n : Nat} {f : Nat → Int32} (ha : ws[q0]? = some (a, .inl (cA, n, .inl f))) (ht : tys[t0]? = some (cA, .char)) {i : Int32} (hout : ¬ vp_in i n) (hdg : decode cc pc = .ok (.caload, 1))
    (k : ∀ tx : String, tx = (toString "Index " ++ toString i ++ toString " out of bounds for length " ++ toString n : String) → vx_Note p l e R s m args below meth c H locs cells slots Q (F0 m pc ls rest) "java/lang/ArrayIndexOutOfBoundsException" tx) : W p l e R s m args below meth c H locs cells slots Q (F0 m pc ls (.int i :: .ref a :: rest)) := by
  intro T hT X
  obtain ⟨t, st, q⟩ := k _ rfl T hT X
  refine ⟨t, ?_, q⟩
  have h1 := X.caloadOut hexec (by rw [hT]; exact hP q0 _ ha) ((hK.2 t0 _ ht).1 n (fun j => .int (f j))) (j := i) (by show (i < 0 ∨ (arrV _ _ _).slots.size ≤ _); rw [arrV_size]; exact Classical.byContradiction hout) (g := F0 m pc ls (.int i :: .ref a :: rest)) rfl (rest := rest) rfl (by rw [hb]; exact hdg) t
  simp only [arrV_size] at h1
  exact h1 st
theorem vx_castZ {D : va_G} {cl : List vw_C} {ws : va_W} {tys : List (ClassId × FieldType)} {a : Nat} (hexec : p.tables.exec = Jvm.exec) (hb : c.code = cc) (hK : va_K D cl tys s) (hP : va_P D cl ws H) (q0 t0 : Nat) {cA : ClassId} {n : Nat} {f : Nat → Int32} (ha : ws[q0]? = some (a, .inl (cA, n, .inl f))) (ht : tys[t0]? = some (cA, .char)) {i : Int32} {x : Int32} (hout : ¬ vp_in i n) (hdg : decode cc pc = .ok (.castore, 1))
    (k : ∀ tx : String, tx = (toString "Index " ++ toString i ++ toString " out of bounds for length " ++ toString n : String) → vx_Note p l e R s m args below meth c H locs cells slots Q (F0 m pc ls rest) "java/lang/ArrayIndexOutOfBoundsException" tx) : W p l e R s m args below meth c H locs cells slots Q (F0 m pc ls (.int x :: .int i :: .ref a :: rest)) := by
  intro T hT X
  obtain ⟨t, st, q⟩ := k _ rfl T hT X
  refine ⟨t, ?_, q⟩
  have h1 := X.castoreOut hexec (by rw [hT]; exact hP q0 _ ha) ((hK.2 t0 _ ht).1 n (fun j => .int (f j))) (j := i) (by show (i < 0 ∨ (arrV _ _ _).slots.size ≤ _); rw [arrV_size]; exact Classical.byContradiction hout) (g := F0 m pc ls (.int x :: .int i :: .ref a :: rest)) rfl (rest := rest) rfl (by rw [hb]; exact hdg) t
  simp only [arrV_size] at h1
  exact h1 st
theorem vx_saldZ {D : va_G} {cl : List vw_C} {ws : va_W} {tys : List (ClassId × FieldType)} {a : Nat} (hexec : p.tables.exec = Jvm.exec) (hb : c.code = cc) (hK : va_K D cl tys s) (hP : va_P D cl ws H) (q0 t0 : Nat) {cA : ClassId} {n : Nat} {f : Nat → Int32} (ha : ws[q0]? = some (a, .inl (cA, n, .inl f))) (ht : tys[t0]? = some (cA, .short)) {i : Int32} (hout : ¬ vp_in i n) (hdg : decode cc pc = .ok (.saload, 1))
    (k : ∀ tx : String, tx = (toString "Index " ++ toString i ++ toString " out of bounds for length " ++ toString n : String) → vx_Note p l e R s m args below meth c H locs cells slots Q (F0 m pc ls rest) "java/lang/ArrayIndexOutOfBoundsException" tx) : W p l e R s m args below meth c H locs cells slots Q (F0 m pc ls (.int i :: .ref a :: rest)) := by
  intro T hT X
  obtain ⟨t, st, q⟩ := k _ rfl T hT X
  refine ⟨t, ?_, q⟩
  have h1 := X.saloadOut hexec (by rw [hT]; exact hP q0 _ ha) ((hK.2 t0 _ ht).1 n (fun j => .int (f j))) (j := i) (by show (i < 0 ∨ (arrV _ _ _).slots.size ≤ _); rw [arrV_size]; exact Classical.byContradiction hout) (g := F0 m pc ls (.int i :: .ref a :: rest)) rfl (rest := rest) rfl (by rw [hb]; exact hdg) t
  simp only [arrV_size] at h1
  exact h1 st
theorem vx_sastZ {D : va_G} {cl : List vw_C} {ws : va_W} {tys : List (ClassId × FieldType)} {a : Nat} (hexec : p.tables.exec = Jvm.exec) (hb : c.code = cc) (hK : va_K D cl tys s) (hP : va_P D cl ws H) (q0 t0 : Nat) {cA : ClassId} {n : Nat} {f : Nat → Int32} (ha : ws[q0]? = some (a, .inl (cA, n, .inl f))) (ht : tys[t0]? = some (cA, .short)) {i : Int32} {x : Int32} (hout : ¬ vp_in i n) (hdg : decode cc pc = .ok (.sastore, 1))
    (k : ∀ tx : String, tx = (toString "Index " ++ toString i ++ toString " out of bounds for length " ++ toString n : String) → vx_Note p l e R s m args below meth c H locs cells slots Q (F0 m pc ls rest) "java/lang/ArrayIndexOutOfBoundsException" tx) : W p l e R s m args below meth c H locs cells slots Q (F0 m pc ls (.int x :: .int i :: .ref a :: rest)) := by
  intro T hT X
  obtain ⟨t, st, q⟩ := k _ rfl T hT X
  refine ⟨t, ?_, q⟩
  have h1 := X.sastoreOut hexec (by rw [hT]; exact hP q0 _ ha) ((hK.2 t0 _ ht).1 n (fun j => .int (f j))) (j := i) (by show (i < 0 ∨ (arrV _ _ _).slots.size ≤ _); rw [arrV_size]; exact Classical.byContradiction hout) (g := F0 m pc ls (.int x :: .int i :: .ref a :: rest)) rfl (rest := rest) rfl (by rw [hb]; exact hdg) t
  simp only [arrV_size] at h1
  exact h1 st
theorem vx_laldZ {D : va_G} {cl : List vw_C} {ws : va_W} {tys : List (ClassId × FieldType)} {a : Nat} (hexec : p.tables.exec = Jvm.exec) (hb : c.code = cc) (hK : va_K D cl tys s) (hP : va_P D cl ws H) (q0 t0 : Nat) {cA : ClassId} {n : Nat} {f : Nat → Int64} (ha : ws[q0]? = some (a, .inl (cA, n, .inr (.inl f)))) (ht : tys[t0]? = some (cA, .long)) {i : Int32} (hout : ¬ vp_in i n) (hdg : decode cc pc = .ok (.laload, 1))
    (k : ∀ tx : String, tx = (toString "Index " ++ toString i ++ toString " out of bounds for length " ++ toString n : String) → vx_Note p l e R s m args below meth c H locs cells slots Q (F0 m pc ls rest) "java/lang/ArrayIndexOutOfBoundsException" tx) : W p l e R s m args below meth c H locs cells slots Q (F0 m pc ls (.int i :: .ref a :: rest)) := by
  intro T hT X
  obtain ⟨t, st, q⟩ := k _ rfl T hT X
  refine ⟨t, ?_, q⟩
  have h1 := X.laloadOut hexec (by rw [hT]; exact hP q0 _ ha) ((hK.2 t0 _ ht).1 n (fun j => .long (f j))) (j := i) (by show (i < 0 ∨ (arrV _ _ _).slots.size ≤ _); rw [arrV_size]; exact Classical.byContradiction hout) (g := F0 m pc ls (.int i :: .ref a :: rest)) rfl (rest := rest) rfl (by rw [hb]; exact hdg) t
  simp only [arrV_size] at h1
  exact h1 st
theorem vx_lastZ {D : va_G} {cl : List vw_C} {ws : va_W} {tys : List (ClassId × FieldType)} {a : Nat} (hexec : p.tables.exec = Jvm.exec) (hb : c.code = cc) (hK : va_K D cl tys s) (hP : va_P D cl ws H) (q0 t0 : Nat) {cA : ClassId} {n : Nat} {f : Nat → Int64} (ha : ws[q0]? = some (a, .inl (cA, n, .inr (.inl f)))) (ht : tys[t0]? = some (cA, .long)) {i : Int32} {x : Int64} (hout : ¬ vp_in i n) (hdg : decode cc pc = .ok (.lastore, 1))
    (k : ∀ tx : String, tx = (toString "Index " ++ toString i ++ toString " out of bounds for length " ++ toString n : String) → vx_Note p l e R s m args below meth c H locs cells slots Q (F0 m pc ls rest) "java/lang/ArrayIndexOutOfBoundsException" tx) : W p l e R s m args below meth c H locs cells slots Q (F0 m pc ls (.long x :: .int i :: .ref a :: rest)) := by
  intro T hT X
  obtain ⟨t, st, q⟩ := k _ rfl T hT X
  refine ⟨t, ?_, q⟩
  have h1 := X.lastoreOut hexec (by rw [hT]; exact hP q0 _ ha) ((hK.2 t0 _ ht).1 n (fun j => .long (f j))) (j := i) (by show (i < 0 ∨ (arrV _ _ _).slots.size ≤ _); rw [arrV_size]; exact Classical.byContradiction hout) (g := F0 m pc ls (.long x :: .int i :: .ref a :: rest)) rfl (rest := rest) rfl (by rw [hb]; exact hdg) t
  simp only [arrV_size] at h1
  exact h1 st
theorem vx_faldZ {D : va_G} {cl : List vw_C} {ws : va_W} {tys : List (ClassId × FieldType)} {a : Nat} (hexec : p.tables.exec = Jvm.exec) (hb : c.code = cc) (hK : va_K D cl tys s) (hP : va_P D cl ws H) (q0 t0 : Nat) {cA : ClassId} {n : Nat} {f : Nat → UInt32} (ha : ws[q0]? = some (a, .inl (cA, n, .inr (.inr (.inl f))))) (ht : tys[t0]? = some (cA, .float)) {i : Int32} (hout : ¬ vp_in i n) (hdg : decode cc pc = .ok (.faload, 1))
    (k : ∀ tx : String, tx = (toString "Index " ++ toString i ++ toString " out of bounds for length " ++ toString n : String) → vx_Note p l e R s m args below meth c H locs cells slots Q (F0 m pc ls rest) "java/lang/ArrayIndexOutOfBoundsException" tx) : W p l e R s m args below meth c H locs cells slots Q (F0 m pc ls (.int i :: .ref a :: rest)) := by
  intro T hT X
  obtain ⟨t, st, q⟩ := k _ rfl T hT X
  refine ⟨t, ?_, q⟩
  have h1 := X.faloadOut hexec (by rw [hT]; exact hP q0 _ ha) ((hK.2 t0 _ ht).1 n (fun j => .float (f j))) (j := i) (by show (i < 0 ∨ (arrV _ _ _).slots.size ≤ _); rw [arrV_size]; exact Classical.byContradiction hout) (g := F0 m pc ls (.int i :: .ref a :: rest)) rfl (rest := rest) rfl (by rw [hb]; exact hdg) t
  simp only [arrV_size] at h1
  exact h1 st
theorem vx_fastZ {D : va_G} {cl : List vw_C} {ws : va_W} {tys : List (ClassId × FieldType)} {a : Nat} (hexec : p.tables.exec = Jvm.exec) (hb : c.code = cc) (hK : va_K D cl tys s) (hP : va_P D cl ws H) (q0 t0 : Nat) {cA : ClassId} {n : Nat} {f : Nat → UInt32} (ha : ws[q0]? = some (a, .inl (cA, n, .inr (.inr (.inl f))))) (ht : tys[t0]? = some (cA, .float)) {i : Int32} {x : UInt32} (hout : ¬ vp_in i n) (hdg : decode cc pc = .ok (.fastore, 1))
    (k : ∀ tx : String, tx = (toString "Index " ++ toString i ++ toString " out of bounds for length " ++ toString n : String) → vx_Note p l e R s m args below meth c H locs cells slots Q (F0 m pc ls rest) "java/lang/ArrayIndexOutOfBoundsException" tx) : W p l e R s m args below meth c H locs cells slots Q (F0 m pc ls (.float x :: .int i :: .ref a :: rest)) := by
  intro T hT X
  obtain ⟨t, st, q⟩ := k _ rfl T hT X
  refine ⟨t, ?_, q⟩
  have h1 := X.fastoreOut hexec (by rw [hT]; exact hP q0 _ ha) ((hK.2 t0 _ ht).1 n (fun j => .float (f j))) (j := i) (by show (i < 0 ∨ (arrV _ _ _).slots.size ≤ _); rw [arrV_size]; exact Classical.byContradiction hout) (g := F0 m pc ls (.float x :: .int i :: .ref a :: rest)) rfl (rest := rest) rfl (by rw [hb]; exact hdg) t
  simp only [arrV_size] at h1
  exact h1 st
theorem vx_daldZ {D : va_G} {cl : List vw_C} {ws : va_W} {tys : List (ClassId × FieldType)} {a : Nat} (hexec : p.tables.exec = Jvm.exec) (hb : c.code = cc) (hK : va_K D cl tys s) (hP : va_P D cl ws H) (q0 t0 : Nat) {cA : ClassId} {n : Nat} {f : Nat → UInt64} (ha : ws[q0]? = some (a, .inl (cA, n, .inr (.inr (.inr (.inl f)))))) (ht : tys[t0]? = some (cA, .double)) {i : Int32} (hout : ¬ vp_in i n) (hdg : decode cc pc = .ok (.daload, 1))
    (k : ∀ tx : String, tx = (toString "Index " ++ toString i ++ toString " out of bounds for length " ++ toString n : String) → vx_Note p l e R s m args below meth c H locs cells slots Q (F0 m pc ls rest) "java/lang/ArrayIndexOutOfBoundsException" tx) : W p l e R s m args below meth c H locs cells slots Q (F0 m pc ls (.int i :: .ref a :: rest)) := by
  intro T hT X
  obtain ⟨t, st, q⟩ := k _ rfl T hT X
  refine ⟨t, ?_, q⟩
  have h1 := X.daloadOut hexec (by rw [hT]; exact hP q0 _ ha) ((hK.2 t0 _ ht).1 n (fun j => .double (f j))) (j := i) (by show (i < 0 ∨ (arrV _ _ _).slots.size ≤ _); rw [arrV_size]; exact Classical.byContradiction hout) (g := F0 m pc ls (.int i :: .ref a :: rest)) rfl (rest := rest) rfl (by rw [hb]; exact hdg) t
  simp only [arrV_size] at h1
  exact h1 st
theorem vx_dastZ {D : va_G} {cl : List vw_C} {ws : va_W} {tys : List (ClassId × FieldType)} {a : Nat} (hexec : p.tables.exec = Jvm.exec) (hb : c.code = cc) (hK : va_K D cl tys s) (hP : va_P D cl ws H) (q0 t0 : Nat) {cA : ClassId} {n : Nat} {f : Nat → UInt64} (ha : ws[q0]? = some (a, .inl (cA, n, .inr (.inr (.inr (.inl f)))))) (ht : tys[t0]? = some (cA, .double)) {i : Int32} {x : UInt64} (hout : ¬ vp_in i n) (hdg : decode cc pc = .ok (.dastore, 1))
    (k : ∀ tx : String, tx = (toString "Index " ++ toString i ++ toString " out of bounds for length " ++ toString n : String) → vx_Note p l e R s m args below meth c H locs cells slots Q (F0 m pc ls rest) "java/lang/ArrayIndexOutOfBoundsException" tx) : W p l e R s m args below meth c H locs cells slots Q (F0 m pc ls (.double x :: .int i :: .ref a :: rest)) := by
  intro T hT X
  obtain ⟨t, st, q⟩ := k _ rfl T hT X
  refine ⟨t, ?_, q⟩
  have h1 := X.dastoreOut hexec (by rw [hT]; exact hP q0 _ ha) ((hK.2 t0 _ ht).1 n (fun j => .double (f j))) (j := i) (by show (i < 0 ∨ (arrV _ _ _).slots.size ≤ _); rw [arrV_size]; exact Classical.byContradiction hout) (g := F0 m pc ls (.double x :: .int i :: .ref a :: rest)) rfl (rest := rest) rfl (by rw [hb]; exact hdg) t
  simp only [arrV_size] at h1
  exact h1 st
theorem vx_arraylengthN (hexec : p.tables.exec = Jvm.exec) (hb : c.code = cc) (hdg : decode cc pc = .ok (.arraylength, 1)) (k : vx_NoteN p l e R s m args below meth c H locs cells slots Q (F0 m pc ls rest)) : W p l e R s m args below meth c H locs cells slots Q (F0 m pc ls (.null :: rest)) := by
  intro T hT X
  obtain ⟨t, st, q⟩ := k T hT X
  exact ⟨t, X.arraylengthNull hexec (g := F0 m pc ls (.null :: rest)) rfl (rest := rest) rfl (by rw [hb]; exact hdg) t st, q⟩
theorem vx_ialoadN (hexec : p.tables.exec = Jvm.exec) (hb : c.code = cc) {i : Int32} (hdg : decode cc pc = .ok (.iaload, 1)) (k : vx_NoteN p l e R s m args below meth c H locs cells slots Q (F0 m pc ls rest)) : W p l e R s m args below meth c H locs cells slots Q (F0 m pc ls (.int i :: .null :: rest)) := by
  intro T hT X
  obtain ⟨t, st, q⟩ := k T hT X
  exact ⟨t, X.ialoadNull hexec (g := F0 m pc ls (.int i :: .null :: rest)) rfl (rest := rest) rfl (by rw [hb]; exact hdg) t st, q⟩
theorem vx_laloadN (hexec : p.tables.exec = Jvm.exec) (hb : c.code = cc) {i : Int32} (hdg : decode cc pc = .ok (.laload, 1)) (k : vx_NoteN p l e R s m args below meth c H locs cells slots Q (F0 m pc ls rest)) : W p l e R s m args below meth c H locs cells slots Q (F0 m pc ls (.int i :: .null :: rest)) := by
  intro T hT X
  obtain ⟨t, st, q⟩ := k T hT X
  exact ⟨t, X.laloadNull hexec (g := F0 m pc ls (.int i :: .null :: rest)) rfl (rest := rest) rfl (by rw [hb]; exact hdg) t st, q⟩
theorem vx_faloadN (hexec : p.tables.exec = Jvm.exec) (hb : c.code = cc) {i : Int32} (hdg : decode cc pc = .ok (.faload, 1)) (k : vx_NoteN p l e R s m args below meth c H locs cells slots Q (F0 m pc ls rest)) : W p l e R s m args below meth c H locs cells slots Q (F0 m pc ls (.int i :: .null :: rest)) := by
  intro T hT X
  obtain ⟨t, st, q⟩ := k T hT X
  exact ⟨t, X.faloadNull hexec (g := F0 m pc ls (.int i :: .null :: rest)) rfl (rest := rest) rfl (by rw [hb]; exact hdg) t st, q⟩
theorem vx_daloadN (hexec : p.tables.exec = Jvm.exec) (hb : c.code = cc) {i : Int32} (hdg : decode cc pc = .ok (.daload, 1)) (k : vx_NoteN p l e R s m args below meth c H locs cells slots Q (F0 m pc ls rest)) : W p l e R s m args below meth c H locs cells slots Q (F0 m pc ls (.int i :: .null :: rest)) := by
  intro T hT X
  obtain ⟨t, st, q⟩ := k T hT X
  exact ⟨t, X.daloadNull hexec (g := F0 m pc ls (.int i :: .null :: rest)) rfl (rest := rest) rfl (by rw [hb]; exact hdg) t st, q⟩
theorem vx_aaloadN (hexec : p.tables.exec = Jvm.exec) (hb : c.code = cc) {i : Int32} (hdg : decode cc pc = .ok (.aaload, 1)) (k : vx_NoteN p l e R s m args below meth c H locs cells slots Q (F0 m pc ls rest)) : W p l e R s m args below meth c H locs cells slots Q (F0 m pc ls (.int i :: .null :: rest)) := by
  intro T hT X
  obtain ⟨t, st, q⟩ := k T hT X
  exact ⟨t, X.aaloadNull hexec (g := F0 m pc ls (.int i :: .null :: rest)) rfl (rest := rest) rfl (by rw [hb]; exact hdg) t st, q⟩
theorem vx_baloadN (hexec : p.tables.exec = Jvm.exec) (hb : c.code = cc) {i : Int32} (hdg : decode cc pc = .ok (.baload, 1)) (k : vx_NoteN p l e R s m args below meth c H locs cells slots Q (F0 m pc ls rest)) : W p l e R s m args below meth c H locs cells slots Q (F0 m pc ls (.int i :: .null :: rest)) := by
  intro T hT X
  obtain ⟨t, st, q⟩ := k T hT X
  exact ⟨t, X.baloadNull hexec (g := F0 m pc ls (.int i :: .null :: rest)) rfl (rest := rest) rfl (by rw [hb]; exact hdg) t st, q⟩
theorem vx_caloadN (hexec : p.tables.exec = Jvm.exec) (hb : c.code = cc) {i : Int32} (hdg : decode cc pc = .ok (.caload, 1)) (k : vx_NoteN p l e R s m args below meth c H locs cells slots Q (F0 m pc ls rest)) : W p l e R s m args below meth c H locs cells slots Q (F0 m pc ls (.int i :: .null :: rest)) := by
  intro T hT X
  obtain ⟨t, st, q⟩ := k T hT X
  exact ⟨t, X.caloadNull hexec (g := F0 m pc ls (.int i :: .null :: rest)) rfl (rest := rest) rfl (by rw [hb]; exact hdg) t st, q⟩
theorem vx_saloadN (hexec : p.tables.exec = Jvm.exec) (hb : c.code = cc) {i : Int32} (hdg : decode cc pc = .ok (.saload, 1)) (k : vx_NoteN p l e R s m args below meth c H locs cells slots Q (F0 m pc ls rest)) : W p l e R s m args below meth c H locs cells slots Q (F0 m pc ls (.int i :: .null :: rest)) := by
  intro T hT X
  obtain ⟨t, st, q⟩ := k T hT X
  exact ⟨t, X.saloadNull hexec (g := F0 m pc ls (.int i :: .null :: rest)) rfl (rest := rest) rfl (by rw [hb]; exact hdg) t st, q⟩
theorem vx_iastoreN (hexec : p.tables.exec = Jvm.exec) (hb : c.code = cc) {x : Int32} {i : Int32} (hdg : decode cc pc = .ok (.iastore, 1)) (k : vx_NoteN p l e R s m args below meth c H locs cells slots Q (F0 m pc ls rest)) : W p l e R s m args below meth c H locs cells slots Q (F0 m pc ls (.int x :: .int i :: .null :: rest)) := by
  intro T hT X
  obtain ⟨t, st, q⟩ := k T hT X
  exact ⟨t, X.iastoreNull hexec (g := F0 m pc ls (.int x :: .int i :: .null :: rest)) rfl (rest := rest) rfl (by rw [hb]; exact hdg) t st, q⟩
theorem vx_lastoreN (hexec : p.tables.exec = Jvm.exec) (hb : c.code = cc) {x : Int64} {i : Int32} (hdg : decode cc pc = .ok (.lastore, 1)) (k : vx_NoteN p l e R s m args below meth c H locs cells slots Q (F0 m pc ls rest)) : W p l e R s m args below meth c H locs cells slots Q (F0 m pc ls (.long x :: .int i :: .null :: rest)) := by
  intro T hT X
  obtain ⟨t, st, q⟩ := k T hT X
  exact ⟨t, X.lastoreNull hexec (g := F0 m pc ls (.long x :: .int i :: .null :: rest)) rfl (rest := rest) rfl (by rw [hb]; exact hdg) t st, q⟩
theorem vx_fastoreN (hexec : p.tables.exec = Jvm.exec) (hb : c.code = cc) {x : UInt32} {i : Int32} (hdg : decode cc pc = .ok (.fastore, 1)) (k : vx_NoteN p l e R s m args below meth c H locs cells slots Q (F0 m pc ls rest)) : W p l e R s m args below meth c H locs cells slots Q (F0 m pc ls (.float x :: .int i :: .null :: rest)) := by
  intro T hT X
  obtain ⟨t, st, q⟩ := k T hT X
  exact ⟨t, X.fastoreNull hexec (g := F0 m pc ls (.float x :: .int i :: .null :: rest)) rfl (rest := rest) rfl (by rw [hb]; exact hdg) t st, q⟩
theorem vx_dastoreN (hexec : p.tables.exec = Jvm.exec) (hb : c.code = cc) {x : UInt64} {i : Int32} (hdg : decode cc pc = .ok (.dastore, 1)) (k : vx_NoteN p l e R s m args below meth c H locs cells slots Q (F0 m pc ls rest)) : W p l e R s m args below meth c H locs cells slots Q (F0 m pc ls (.double x :: .int i :: .null :: rest)) := by
  intro T hT X
  obtain ⟨t, st, q⟩ := k T hT X
  exact ⟨t, X.dastoreNull hexec (g := F0 m pc ls (.double x :: .int i :: .null :: rest)) rfl (rest := rest) rfl (by rw [hb]; exact hdg) t st, q⟩
theorem vx_bastoreN (hexec : p.tables.exec = Jvm.exec) (hb : c.code = cc) {x : Int32} {i : Int32} (hdg : decode cc pc = .ok (.bastore, 1)) (k : vx_NoteN p l e R s m args below meth c H locs cells slots Q (F0 m pc ls rest)) : W p l e R s m args below meth c H locs cells slots Q (F0 m pc ls (.int x :: .int i :: .null :: rest)) := by
  intro T hT X
  obtain ⟨t, st, q⟩ := k T hT X
  exact ⟨t, X.bastoreNull hexec (g := F0 m pc ls (.int x :: .int i :: .null :: rest)) rfl (rest := rest) rfl (by rw [hb]; exact hdg) t st, q⟩
theorem vx_castoreN (hexec : p.tables.exec = Jvm.exec) (hb : c.code = cc) {x : Int32} {i : Int32} (hdg : decode cc pc = .ok (.castore, 1)) (k : vx_NoteN p l e R s m args below meth c H locs cells slots Q (F0 m pc ls rest)) : W p l e R s m args below meth c H locs cells slots Q (F0 m pc ls (.int x :: .int i :: .null :: rest)) := by
  intro T hT X
  obtain ⟨t, st, q⟩ := k T hT X
  exact ⟨t, X.castoreNull hexec (g := F0 m pc ls (.int x :: .int i :: .null :: rest)) rfl (rest := rest) rfl (by rw [hb]; exact hdg) t st, q⟩
theorem vx_sastoreN (hexec : p.tables.exec = Jvm.exec) (hb : c.code = cc) {x : Int32} {i : Int32} (hdg : decode cc pc = .ok (.sastore, 1)) (k : vx_NoteN p l e R s m args below meth c H locs cells slots Q (F0 m pc ls rest)) : W p l e R s m args below meth c H locs cells slots Q (F0 m pc ls (.int x :: .int i :: .null :: rest)) := by
  intro T hT X
  obtain ⟨t, st, q⟩ := k T hT X
  exact ⟨t, X.sastoreNull hexec (g := F0 m pc ls (.int x :: .int i :: .null :: rest)) rfl (rest := rest) rfl (by rw [hb]; exact hdg) t st, q⟩
theorem vx_invokeN {own C : String} {index maxL : Nat} {y : MethodName} {bytes : ByteArray} {ret : Option FieldType} (hexec : p.tables.exec = Jvm.exec) (hb : c.code = cc) (hown : s.vm.findClass own = some m.cls) (hlink : (Cond.methodLink own index y).before args s = true) (hinst : (Cond.instanceMethod y).before args s = true) (hcode : (Cond.code y bytes maxL ret).before args s = true) (hsel : (Cond.selects C y y).before args s = true)
    (hx : y.cls ≠ "java/lang/invoke/MethodHandle" ∧ y.cls ≠ "java/lang/invoke/VarHandle") {As : List Value} (hlen : (parseMethodDescriptor y.desc).map (fun d => d.parameters.length) = some As.length) (hdg : decode cc pc = .ok (.invokevirtual index, 3))
    (k : vx_NoteN p l e R s m args below meth c H locs cells slots Q (F0 m pc ls rest)) {st0 : List Value} (hst : st0 = As.reverse ++ .null :: rest) : W p l e R s m args below meth c H locs cells slots Q (F0 m pc ls st0) := by
  intro T hT X
  obtain ⟨r0, r, hn, hrm, hstR, hsigR⟩ := va_Decl.of hinst hcode
  obtain ⟨c2, r2, m2, q1, q2, q3, q4, kP, hkP, hkPi⟩ := Cond.selects_spec hsel
  cases hn.symm.trans q3
  have hl9 : As.length = r.sig.parameters.length := by
    rw [hsigR] at hlen
    exact (Option.some.inj hlen).symm
  obtain ⟨vm', X1, st1⟩ := X.invokevirtualNull hexec hown hlink hn hrm hstR hkP hkPi hx (g := F0 m pc ls st0) rfl (argsL := As) (rest := rest) hl9 hst (by rw [hb]; exact hdg)
  obtain ⟨t, st, q⟩ := k (T.setVm vm') hT X1
  exact ⟨t, st1 t st, q⟩
theorem vx_newarrayZ {atype : ArrayType} (hexec : p.tables.exec = Jvm.exec) (hb : c.code = cc) {n : Int32} (h0 : n < 0) (hdg : decode cc pc = .ok (.newarray atype, 2)) (k : ∀ tx : String, tx = toString n → vx_Note p l e R s m args below meth c H locs cells slots Q (F0 m pc ls rest) "java/lang/NegativeArraySizeException" tx) : W p l e R s m args below meth c H locs cells slots Q (F0 m pc ls (.int n :: rest)) := by
  intro T hT X
  obtain ⟨t, st, q⟩ := k _ rfl T hT X
  exact ⟨t, X.newarrayNegative hexec (g := F0 m pc ls (.int n :: rest)) rfl h0 (rest := rest) rfl (by rw [hb]; exact hdg) t st, q⟩
end
end VXM
/-! ===== END ===== -/
/-! ===== BEGIN a private method of a nest mate that may throw (follows va_callVN, va_callSN, va_runVN, va_runSN) ===== -/
section
variable {p : Program} {l : Launch} {e : Env} {R : Room} {s : State} {m : MethodId} {args : Array Value} {below : List Frame} {meth : Method} {c : Code} {H : Heap} {locs : List Loc} {cells slots : Nat}
variable {T : State}
theorem vx_callVN (X : Stand p l e R s m args below meth c T locs cells slots) (hexec : p.tables.exec = Jvm.exec) {own C : String} {index : Nat} {host : String} {y : MethodName} {bytes : ByteArray} {maxL : Nat} {ret : Option FieldType}
    (hown : s.vm.findClass own = some m.cls) (hlink : (Cond.methodLinkNest own index y host).before args s = true) (hinst : (Cond.instanceMethod y).before args s = true) (hsel : (Cond.selects C y y).before args s = true)
    (hcode : (Cond.code y bytes maxL ret).before args s = true) (hy : y.cls ≠ "java/lang/invoke/MethodHandle" ∧ y.cls ≠ "java/lang/invoke/VarHandle")
    {W : Nat} {Pre : Pt → Array Value → Prop} {Post : Pt → Array Value → Option Value → Pt → Prop} {PostX : Pt → Array Value → Addr → Pt → Prop} (hK : vx_Back l R p e below s args y 3 W Pre Post PostX)
    {b : Addr} {cellB : Cell} (hcell : T.heap[b]? = some cellB) (hobj : cellB.vm.isStatics = false) (hcls : s.vm.findClass C = some cellB.cls)
    {g : JFrame} (hg : g.method = m) (hsize : g.locals.size = c.maxLocals) {argsL rest : List Value} (hlen : ∀ sig, parseMethodDescriptor y.desc = some sig → argsL.length = sig.parameters.length)
    (hstack : g.stack = argsL.reverse ++ .ref b :: rest) (hW : 2 * g.monitorRoom + (rest.map fun v => v.category).sum ≤ W) (hdg : decode c.code g.pc = .ok (.invokevirtual index, 3))
    (hpre : ∀ vm₁, s.WarmedH vm₁ → Pre ⟨T.setVm vm₁, locs, cells, slots⟩ (Value.ref b :: argsL).toArray) :
    (∃ (v : Option Value) (vm₁ : Vm) (B : Pt), s.WarmedH vm₁ ∧ Stand p l e R s m args below meth c B.U B.locs B.cells B.slots ∧ Post ⟨T.setVm vm₁, locs, cells, slots⟩ (Value.ref b :: argsL).toArray v B ∧
      ∀ target, Steps p.tables e below (B.U.setTop { g with pc := g.pc + 3, stack := v.toList ++ rest }) target → Steps p.tables e below (T.setTop g) target) ∨
    (∃ (q : Addr) (vm₁ : Vm) (B : Pt), s.WarmedH vm₁ ∧ Stand p l e R s m args below meth c B.U B.locs B.cells B.slots ∧ PostX ⟨T.setVm vm₁, locs, cells, slots⟩ (Value.ref b :: argsL).toArray q B ∧
      Steps p.tables e below (T.setTop g) ((B.U.setTop { g with stack := rest }).pushFrame (.throwing q))) := by
  obtain ⟨mk, methM, hnamed, hmethM, hstM, habM⟩ := Cond.instanceMethod_spec hinst
  obtain ⟨methM', cM, hmethM', -, -, -, -, -, -, hsigM⟩ := Cond.code_spec hnamed hcode
  cases hmethM.symm.trans hmethM'
  obtain ⟨c2, r2, m2, q1, q2, q3, q4, kP, hkP, hkPi⟩ := Cond.selects_spec hsel
  cases hcls.symm.trans q1
  cases (State.methodFound?_of_named hnamed hy).symm.trans q2
  cases hnamed.symm.trans q3
  have hselP : selectMethod e.platform s.vm cellB.cls mk = .method mk := by rw [Launch.admits_selectMethod X.admits]; exact q4
  obtain ⟨vm₁, X₁, hstep₁⟩ := X.invokevirtualNest hexec hown hlink hnamed hmethM hstM hkP hkPi hy (a := b) (cell := cellB) hcell
    (fun z h => by rw [h] at hobj; cases hobj) hselP hmethM habM hkP hkPi (g := g) hg (argsL := argsL) (rest := rest) (hlen _ hsigM) hstack hdg
  rcases hK m meth c ⟨T.setVm vm₁, locs, cells, slots⟩ { g with stack := rest } (.invokevirtual index) mk (Value.ref b :: argsL).toArray X₁ hg hsize hdg hW (X₁.named hnamed) (hpre vm₁ X₁.warmed) with ⟨v, B, X', hpost, hsteps⟩ | ⟨q, B, X', hpost, hsteps⟩
  · exact Or.inl ⟨v, vm₁, B, X₁.warmed, X', hpost, fun target h => hstep₁ _ fun acts => by rw [doInvoke_state]; exact hsteps.trans h⟩
  · exact Or.inr ⟨q, vm₁, B, X₁.warmed, X', hpost, hstep₁ _ fun acts => by rw [doInvoke_state]; exact hsteps⟩
theorem vx_callSN (X : Stand p l e R s m args below meth c T locs cells slots) (hexec : p.tables.exec = Jvm.exec) {own : String} {index : Nat} {host : String} {y : MethodName} {bytes : ByteArray} {maxL : Nat} {ret : Option FieldType}
    (hown : s.vm.findClass own = some m.cls) (hlink : (Cond.methodLinkNest own index y host).before args s = true) (hstat : (Cond.static y).before args s = true) (hinit : (Cond.initialized y.cls).before args s = true)
    (hcode : (Cond.code y bytes maxL ret).before args s = true) (hy : y.cls ≠ "java/lang/invoke/MethodHandle" ∧ y.cls ≠ "java/lang/invoke/VarHandle")
    {W : Nat} {Pre : Pt → Array Value → Prop} {Post : Pt → Array Value → Option Value → Pt → Prop} {PostX : Pt → Array Value → Addr → Pt → Prop} (hK : vx_Back l R p e below s args y 3 W Pre Post PostX)
    {g : JFrame} (hg : g.method = m) (hsize : g.locals.size = c.maxLocals) {argsL rest : List Value} (hlen : ∀ sig, parseMethodDescriptor y.desc = some sig → argsL.length = sig.parameters.length)
    (hstack : g.stack = argsL.reverse ++ rest) (hW : 2 * g.monitorRoom + (rest.map fun v => v.category).sum ≤ W) (hdg : decode c.code g.pc = .ok (.invokestatic index, 3))
    (hpre : ∀ vm₁, s.WarmedH vm₁ → Pre ⟨T.setVm vm₁, locs, cells, slots⟩ argsL.toArray) :
    (∃ (v : Option Value) (vm₁ : Vm) (B : Pt), s.WarmedH vm₁ ∧ Stand p l e R s m args below meth c B.U B.locs B.cells B.slots ∧ Post ⟨T.setVm vm₁, locs, cells, slots⟩ argsL.toArray v B ∧
      ∀ target, Steps p.tables e below (B.U.setTop { g with pc := g.pc + 3, stack := v.toList ++ rest }) target → Steps p.tables e below (T.setTop g) target) ∨
    (∃ (q : Addr) (vm₁ : Vm) (B : Pt), s.WarmedH vm₁ ∧ Stand p l e R s m args below meth c B.U B.locs B.cells B.slots ∧ PostX ⟨T.setVm vm₁, locs, cells, slots⟩ argsL.toArray q B ∧
      Steps p.tables e below (T.setTop g) ((B.U.setTop { g with stack := rest }).pushFrame (.throwing q))) := by
  obtain ⟨mk, hnamed⟩ := Cond.code_named hcode
  obtain ⟨methM, cM, hmethM, -, -, -, -, -, -, hsigM⟩ := Cond.code_spec hnamed hcode
  have hstatic : methM.isStatic = true := Cond.static_spec hnamed hmethM hstat
  obtain ⟨kP, hkP, -⟩ := className_of_methodNamed hnamed
  have hinitP : kP.init = .initialized := Cond.initialized_spec (findClass_of_methodNamed hnamed) hkP hinit
  obtain ⟨vm₁, X₁, hstep₁⟩ := X.invokestaticNest hexec hown hlink hnamed hmethM hstatic hkP hinitP hy (g := g) hg (argsL := argsL) (rest := rest) (hlen _ hsigM) hstack hdg
  rcases hK m meth c ⟨T.setVm vm₁, locs, cells, slots⟩ { g with stack := rest } (.invokestatic index) mk argsL.toArray X₁ hg hsize hdg hW (X₁.named hnamed) (hpre vm₁ X₁.warmed) with ⟨v, B, X', hpost, hsteps⟩ | ⟨q, B, X', hpost, hsteps⟩
  · exact Or.inl ⟨v, vm₁, B, X₁.warmed, X', hpost, fun target h => hstep₁ _ fun acts => by rw [doInvoke_state]; exact hsteps.trans h⟩
  · exact Or.inr ⟨q, vm₁, B, X₁.warmed, X', hpost, hstep₁ _ fun acts => by rw [doInvoke_state]; exact hsteps⟩
theorem vx_runVN {y : MethodName} {bytes cc : ByteArray} {maxL nL mc ms n index : Nat} {ret : Option FieldType} {ws : List Cond} {rm : Room} {Pc : Array Value → State → Prop} {Qc : Array Value → State → Outcome → State → Prop} {XC : String → State → State → Prop} {free : Addr → Prop} {Ts : List Cond} {own C host : String} {b : Addr} {As rest : List Value} {g : JFrame}
    (S : CallFix p m c cc nL s args Ts own) (hM : vx_Met l y ws rm Pc Qc XC mc ms free) (cw : va_CN R s args own index y host bytes maxL ret ws rm mc ms n ∧ (Cond.instanceMethod y).before args s = true ∧ (Cond.selects C y y).before args s = true) (hp : PreV s H C b Pc As)
    (hg : g.method = m) (hn : As.length = n) (hsize : g.locals.size = nL) (hstack : g.stack = As.reverse ++ .ref b :: rest) (hW : 2 * g.monitorRoom + (rest.map fun v => v.category).sum ≤ 8) (hdg : decode cc g.pc = .ok (.invokevirtual index, 3)) (hf : cells + mc ≤ R.cells ∧ slots + ms ≤ R.slots) :
    vx_Run p l e R s m args below meth c H locs cells slots mc ms g rest (Qc (Value.ref b :: As).toArray) XC free := by
  obtain ⟨⟨⟨hrc, hrs, hfr, hlo, hws, hcw⟩, hcode, hini, hy, hlen, hl⟩, hx1, hx2⟩ := cw
  have hK : vx_Back l R p e below s args y 3 8 (PreOf R mc ms Pc) (PostOf Qc mc ms free) (vx_Post XC mc ms free) := vx_back (bytes := bytes) (maxL := maxL) (ret := ret) hM hp.1 hrc hrs hfr hlo hws hcw (fun a' U hW => word_at hW (Or.inl (by first | rfl | simp [Cond.onTables, Cond.keeps, Cond.steady])) hini)
  obtain ⟨hx, hb, hml, ho, -⟩ := S
  obtain ⟨-, ⟨cellB, hcB, hoB, hclB⟩, hPc⟩ := hp
  intro T hT X
  rcases vx_callVN X hx (C := C) (bytes := bytes) (maxL := maxL) (ret := ret) ho hl hx1 hx2 hcode hy hK (by rw [hT]; exact hcB) hoB hclB hg (hsize.trans hml.symm) (argsL := As) (rest := rest) (fun sig h => hn.trans (hlen sig h)) hstack hW (by rw [hb]; exact hdg)
    (fun vm₁ hW₁ => ⟨hf.1, hf.2, hPc (T.setVm vm₁) hT hW₁⟩) with ⟨v, vm₁, ⟨U', l2, c2, s2⟩, hW₁, X', ⟨g', mk, t, L, e1, e2, hq, h1, hL, h2, h3⟩, st⟩ | ⟨q, vm₁, ⟨U', l2, c2, s2⟩, hW₁, X', ⟨g', mk, t, L, E, ce, e1, e2, hq, hce, hcv, hcl, h1, hL, h2, h3⟩, st⟩
  · dsimp only [Pt.U, Pt.locs, Pt.cells, Pt.slots] at X' e1 e2 h1 h2 h3 st
    subst h1; subst h2; subst h3
    exact Or.inl ⟨v, (T.setVm vm₁).calling g' mk (Value.ref b :: As).toArray, t, U', L, hT, X', hL, e1, e2, hq, st⟩
  · dsimp only [Pt.U, Pt.locs, Pt.cells, Pt.slots] at X' e1 e2 h1 h2 h3 st hcl
    subst h1; subst h2; subst h3
    exact Or.inr ⟨q, (T.setVm vm₁).calling g' mk (Value.ref b :: As).toArray, t, U', L, E, ce, hT, X', hL, e1, e2, hq, hce, hcv, vx_cls hW₁ hcl, st⟩
theorem vx_runSN {y : MethodName} {bytes cc : ByteArray} {maxL nL mc ms n index : Nat} {ret : Option FieldType} {ws : List Cond} {rm : Room} {Pc : Array Value → State → Prop} {Qc : Array Value → State → Outcome → State → Prop} {XC : String → State → State → Prop} {free : Addr → Prop} {Ts : List Cond} {own host : String} {As rest : List Value} {g : JFrame}
    (S : CallFix p m c cc nL s args Ts own) (hM : vx_Met l y ws rm Pc Qc XC mc ms free) (cw : va_CN R s args own index y host bytes maxL ret ws rm mc ms n ∧ (Cond.static y).before args s = true ∧ True) (hp : PreS s H Pc As)
    (hg : g.method = m) (hn : As.length = n) (hsize : g.locals.size = nL) (hstack : g.stack = As.reverse ++ rest) (hW : 2 * g.monitorRoom + (rest.map fun v => v.category).sum ≤ 8) (hdg : decode cc g.pc = .ok (.invokestatic index, 3)) (hf : cells + mc ≤ R.cells ∧ slots + ms ≤ R.slots) :
    vx_Run p l e R s m args below meth c H locs cells slots mc ms g rest (Qc As.toArray) XC free := by
  obtain ⟨⟨⟨hrc, hrs, hfr, hlo, hws, hcw⟩, hcode, hini, hy, hlen, hl⟩, hx1, hx2⟩ := cw
  have hK : vx_Back l R p e below s args y 3 8 (PreOf R mc ms Pc) (PostOf Qc mc ms free) (vx_Post XC mc ms free) := vx_back (bytes := bytes) (maxL := maxL) (ret := ret) hM hp.1 hrc hrs hfr hlo hws hcw (fun a' U hW => word_at hW (Or.inl (by first | rfl | simp [Cond.onTables, Cond.keeps, Cond.steady])) hini)
  obtain ⟨hx, hb, hml, ho, -⟩ := S
  have hPc := hp.2
  intro T hT X
  rcases vx_callSN X hx (bytes := bytes) (maxL := maxL) (ret := ret) ho hl hx1 hini hcode hy hK hg (hsize.trans hml.symm) (argsL := As) (rest := rest) (fun sig h => hn.trans (hlen sig h)) hstack hW (by rw [hb]; exact hdg)
    (fun vm₁ hW₁ => ⟨hf.1, hf.2, hPc (T.setVm vm₁) hT hW₁⟩) with ⟨v, vm₁, ⟨U', l2, c2, s2⟩, hW₁, X', ⟨g', mk, t, L, e1, e2, hq, h1, hL, h2, h3⟩, st⟩ | ⟨q, vm₁, ⟨U', l2, c2, s2⟩, hW₁, X', ⟨g', mk, t, L, E, ce, e1, e2, hq, hce, hcv, hcl, h1, hL, h2, h3⟩, st⟩
  · dsimp only [Pt.U, Pt.locs, Pt.cells, Pt.slots] at X' e1 e2 h1 h2 h3 st
    subst h1; subst h2; subst h3
    exact Or.inl ⟨v, (T.setVm vm₁).calling g' mk As.toArray, t, U', L, hT, X', hL, e1, e2, hq, st⟩
  · dsimp only [Pt.U, Pt.locs, Pt.cells, Pt.slots] at X' e1 e2 h1 h2 h3 st hcl
    subst h1; subst h2; subst h3
    exact Or.inr ⟨q, (T.setVm vm₁).calling g' mk As.toArray, t, U', L, E, ce, hT, X', hL, e1, e2, hq, hce, hcv, vx_cls hW₁ hcl, st⟩
end
/-! ===== END ===== -/
end
section
/-! ===== AM1: straight stretches of bytecode as one function of program counter, locals and stack ===== -/
/-- references are numbers of cells; ad gives their addresses -/
def am_v (ad : Nat → Nat) : Value → Value
  | .ref c => .ref (ad c)
  | v => v
def am_get (L : List (Option Value)) (i : Nat) : Option Value := match L[i]? with
  | some o => o
  | none => none
/-- the locals that are known -/
def am_l (ad : Nat → Nat) (nL : Nat) (L : List (Option Value)) (ls : Array Slot) : Prop := ls.size = nL ∧ lv_wf ls ∧ ∀ (i : Nat) (v : Value), am_get L i = some v → ls[i]? = some (.val (am_v ad v))
theorem am_v_cat (ad : Nat → Nat) (v : Value) : (am_v ad v).category = v.category := by cases v <;> rfl
theorem am_get_set (L : List (Option Value)) (i j : Nat) (o : Option Value) (v : Value) (h : am_get (L.set i o) j = some v) : (j = i ∧ o = some v) ∨ (j ≠ i ∧ am_get L j = some v) := by
  unfold am_get at h ⊢
  rw [List.getElem?_set] at h
  by_cases e : i = j
  · subst e
    rw [if_pos rfl] at h
    refine Or.inl ⟨rfl, ?_⟩
    by_cases hl : i < L.length
    · rw [if_pos hl] at h
      exact h
    · rw [if_neg hl] at h
      cases h
  · rw [if_neg e] at h
    exact Or.inr ⟨fun q => e q.symm, h⟩
/-- the local ahead of i holds no long and no double -/
def am_ok1 (L : List (Option Value)) (i : Nat) : Bool := match i with
  | 0 => true
  | j + 1 => match am_get L j with
    | some v => v.category == 1
    | none => true
theorem am_store1 {ad : Nat → Nat} {nL : Nat} {L : List (Option Value)} {ls : Array Slot} {i : Nat} {v : Value} (h : am_l ad nL L ls) (hi : i < nL) (hc : v.category = 1) (hok : am_ok1 L i = true) :
    ∃ ls', storeLocals ls i (am_v ad v) = some ls' ∧ am_l ad nL (L.set i (some v)) ls' := by
  obtain ⟨h1, h2, h3⟩ := h
  have hc' : (am_v ad v).category = 1 := by rw [am_v_cat]; exact hc
  obtain ⟨ls', e, h4⟩ := lv_store1 (l := []) (v := am_v ad v) ⟨h1, h2, fun q hq => by cases hq⟩ hi hc'
  refine ⟨ls', e, h4.1, h4.2.1, fun j w hw => ?_⟩
  rcases am_get_set L i j _ w hw with ⟨rfl, hv⟩ | ⟨hj, hg⟩
  · cases hv
    exact h4.2.2 _ List.mem_cons_self
  · obtain ⟨ls2, e2, h5⟩ := lv_store1 (l := [(j, am_v ad w)]) (v := am_v ad v) ⟨h1, h2, fun q hq => by
      rw [List.mem_singleton.mp hq]
      exact h3 j w hg⟩ hi hc'
    cases e.symm.trans e2
    refine h5.2.2 (j, am_v ad w) (List.mem_cons_of_mem _ (List.mem_filter.mpr ⟨List.mem_singleton.mpr rfl, ?_⟩))
    have hne : (j == i) = false := by simpa using hj
    have h6 : (j + 1 == i && (am_v ad w).category == 2) = false := by
      by_cases e1 : j + 1 = i
      · subst e1
        have h7 : w.category = 1 := by
          have h8 : (match am_get L j with | some v => v.category == 1 | none => true) = true := hok
          rw [hg] at h8
          exact eq_of_beq h8
        simp [am_v_cat, h7]
      · simp [e1]
    simp [hne, h6]
theorem am_store2 {ad : Nat → Nat} {nL : Nat} {L : List (Option Value)} {ls : Array Slot} {i : Nat} {v : Value} (h : am_l ad nL L ls) (hi : i + 1 < nL) (hc : v.category = 2) (hok : am_ok1 L i = true) :
    ∃ ls', storeLocals ls i (am_v ad v) = some ls' ∧ am_l ad nL ((L.set (i + 1) none).set i (some v)) ls' := by
  obtain ⟨h1, h2, h3⟩ := h
  have hc' : (am_v ad v).category = 2 := by rw [am_v_cat]; exact hc
  obtain ⟨ls', e, h4⟩ := lv_store2 (l := []) (v := am_v ad v) ⟨h1, h2, fun q hq => by cases hq⟩ hi hc'
  refine ⟨ls', e, h4.1, h4.2.1, fun j w hw => ?_⟩
  rcases am_get_set _ i j _ w hw with ⟨rfl, hv⟩ | ⟨hj, hg⟩
  · cases hv
    exact h4.2.2 _ List.mem_cons_self
  · rcases am_get_set L (i + 1) j _ w hg with ⟨_, hv⟩ | ⟨hj2, hg2⟩
    · cases hv
    clear hg
    rename am_get L j = some w => hg
    obtain ⟨ls2, e2, h5⟩ := lv_store2 (l := [(j, am_v ad w)]) (v := am_v ad v) ⟨h1, h2, fun q hq => by
      rw [List.mem_singleton.mp hq]
      exact h3 j w hg⟩ hi hc'
    cases e.symm.trans e2
    refine h5.2.2 (j, am_v ad w) (List.mem_cons_of_mem _ (List.mem_filter.mpr ⟨List.mem_singleton.mpr rfl, ?_⟩))
    have hne : (j == i) = false := by simpa using hj
    have hne2 : (j == i + 1) = false := by simpa using hj2
    have h6 : (j + 1 == i && (am_v ad w).category == 2) = false := by
      by_cases e1 : j + 1 = i
      · subst e1
        have h7 : w.category = 1 := by
          have h8 : (match am_get L j with | some v => v.category == 1 | none => true) = true := hok
          rw [hg] at h8
          exact eq_of_beq h8
        simp [am_v_cat, h7]
      · simp [e1]
    simp [hne, hne2, h6]
def am_len : Instr → Nat
  | .iload _ => 2
  | .fload _ => 2
  | .lload _ => 2
  | .dload _ => 2
  | .aload _ => 2
  | .istore _ => 2
  | .fstore _ => 2
  | .lstore _ => 2
  | .dstore _ => 2
  | .astore _ => 2
  | .bipush _ => 2
  | .sipush _ => 3
  | .iinc _ _ => 3
  | .goto _ => 3
  | _ => 1
def am_ld (L : List (Option Value)) (st : List Value) (pc n i : Nat) (p : Value → Bool) : Option (Nat × List (Option Value) × List Value) := match am_get L i with
  | some v => if p v then some (pc + n, L, v :: st) else none
  | none => none
def am_isI : Value → Bool
  | .int _ => true
  | _ => false
def am_isL : Value → Bool
  | .long _ => true
  | _ => false
def am_isF : Value → Bool
  | .float _ => true
  | _ => false
def am_isD : Value → Bool
  | .double _ => true
  | _ => false
def am_isA : Value → Bool
  | .ref _ => true
  | _ => false
def am_s1 (nL : Nat) (L : List (Option Value)) (st : List Value) (pc n i : Nat) (p : Value → Bool) : Option (Nat × List (Option Value) × List Value) := match st with
  | v :: r => if p v && decide (i < nL) && am_ok1 L i then some (pc + n, L.set i (some v), r) else none
  | [] => none
def am_s2 (nL : Nat) (L : List (Option Value)) (st : List Value) (pc n i : Nat) (p : Value → Bool) : Option (Nat × List (Option Value) × List Value) := match st with
  | v :: r => if p v && decide (i + 1 < nL) && am_ok1 L i then some (pc + n, (L.set (i + 1) none).set i (some v), r) else none
  | [] => none
def am_b (L : List (Option Value)) (st : List Value) (pc : Nat) (f : Int32 → Int32 → Int32) : Option (Nat × List (Option Value) × List Value) := match st with
  | .int y :: .int x :: r => some (pc + 1, L, .int (f x y) :: r)
  | _ => none
def am_bl (L : List (Option Value)) (st : List Value) (pc : Nat) (f : Int64 → Int64 → Int64) : Option (Nat × List (Option Value) × List Value) := match st with
  | .long y :: .long x :: r => some (pc + 1, L, .long (f x y) :: r)
  | _ => none
def am_u (L : List (Option Value)) (st : List Value) (pc : Nat) (f : Int32 → Value) : Option (Nat × List (Option Value) × List Value) := match st with
  | .int x :: r => some (pc + 1, L, f x :: r)
  | _ => none
/-- one straight instruction -/
def am_i (nL : Nat) (i : Instr) (pc : Nat) (L : List (Option Value)) (st : List Value) : Option (Nat × List (Option Value) × List Value) := match i with
  | .iload_n k => am_ld L st pc 1 k.val am_isI
  | .iload k => am_ld L st pc 2 k am_isI
  | .fload_n k => am_ld L st pc 1 k.val am_isF
  | .fload k => am_ld L st pc 2 k am_isF
  | .lload_n k => am_ld L st pc 1 k.val am_isL
  | .lload k => am_ld L st pc 2 k am_isL
  | .dload_n k => am_ld L st pc 1 k.val am_isD
  | .dload k => am_ld L st pc 2 k am_isD
  | .aload_n k => am_ld L st pc 1 k.val am_isA
  | .aload k => am_ld L st pc 2 k am_isA
  | .istore_n k => am_s1 nL L st pc 1 k.val am_isI
  | .istore k => am_s1 nL L st pc 2 k am_isI
  | .fstore_n k => am_s1 nL L st pc 1 k.val am_isF
  | .fstore k => am_s1 nL L st pc 2 k am_isF
  | .astore_n k => am_s1 nL L st pc 1 k.val am_isA
  | .astore k => am_s1 nL L st pc 2 k am_isA
  | .lstore_n k => am_s2 nL L st pc 1 k.val am_isL
  | .lstore k => am_s2 nL L st pc 2 k am_isL
  | .dstore_n k => am_s2 nL L st pc 1 k.val am_isD
  | .dstore k => am_s2 nL L st pc 2 k am_isD
  | .iconst n => some (pc + 1, L, .int (Int32.ofInt n) :: st)
  | .bipush n => some (pc + 2, L, .int (Int8.ofInt n).toInt32 :: st)
  | .sipush n => some (pc + 3, L, .int (Int16.ofInt n).toInt32 :: st)
  | .lconst n => some (pc + 1, L, .long (Int64.ofNat (n : Nat)) :: st)
  | .iadd => am_b L st pc (fun x y => x + y)
  | .isub => am_b L st pc (fun x y => x - y)
  | .imul => am_b L st pc (fun x y => x * y)
  | .iand => am_b L st pc (fun x y => x &&& y)
  | .ior => am_b L st pc (fun x y => x ||| y)
  | .ixor => am_b L st pc (fun x y => x ^^^ y)
  | .ishl => am_b L st pc (fun x y => x <<< (y &&& 31))
  | .ishr => am_b L st pc (fun x y => x >>> (y &&& 31))
  | .iushr => am_b L st pc (fun x y => (x.toUInt32 >>> (y.toUInt32 &&& Int32.toUInt32 31)).toInt32)
  | .ladd => am_bl L st pc (fun x y => x + y)
  | .lmul => am_bl L st pc (fun x y => x * y)
  | .i2l => am_u L st pc (fun x => .long x.toInt64)
  | .i2c => am_u L st pc (fun x => .int (x.toUInt32 % 65536).toInt32)
  | .i2f => am_u L st pc (fun x => .float (FP.i2f x))
  | .i2d => am_u L st pc (fun x => .double (FP.i2d x))
  | .lcmp => match st with
    | .long y :: .long x :: r => some (pc + 1, L, .int (lg_cmp x y) :: r)
    | _ => none
  | .fcmp op => match st with
    | .float y :: .float x :: r => some (pc + 1, L, .int (Op.cmpValue (FP.fcmp x y) op) :: r)
    | _ => none
  | .dcmp op => match st with
    | .double y :: .double x :: r => some (pc + 1, L, .int (Op.cmpValue (FP.dcmp x y) op) :: r)
    | _ => none
  | .dup => match st with
    | v :: r => if v.category == 1 then some (pc + 1, L, v :: v :: r) else none
    | _ => none
  | .dup2 => match st with
    | v :: w :: r => if v.category == 1 && w.category == 1 then some (pc + 1, L, v :: w :: v :: w :: r) else none
    | _ => none
  | .pop => match st with
    | v :: r => if v.category == 1 then some (pc + 1, L, r) else none
    | _ => none
  | .goto off => if 0 ≤ (pc : Int) + off then some (((pc : Int) + off).toNat, L, st) else none
  | .iinc k n => match am_get L k with
    | some (.int x) => if decide (k < nL) && am_ok1 L k then some (pc + 3, L.set k (some (.int (x + Int32.ofInt n))), st) else none
    | _ => none
  | _ => none
theorem am_ld_ok {L st pc n i p pc' L' st'} (h : am_ld L st pc n i p = some (pc', L', st')) : ∃ v, am_get L i = some v ∧ p v = true ∧ pc' = pc + n ∧ L' = L ∧ st' = v :: st := by
  unfold am_ld at h
  cases hg : am_get L i with
  | none => rw [hg] at h; cases h
  | some v =>
    rw [hg] at h
    by_cases hp : p v = true
    · simp only [hp, if_true, Option.some.injEq, Prod.mk.injEq] at h
      exact ⟨v, rfl, hp, h.1.symm, h.2.1.symm, h.2.2.symm⟩
    · simp [hp] at h
theorem am_s1_ok {nL L st pc n i p pc' L' st'} (h : am_s1 nL L st pc n i p = some (pc', L', st')) : ∃ v, st = v :: st' ∧ p v = true ∧ i < nL ∧ am_ok1 L i = true ∧ pc' = pc + n ∧ L' = L.set i (some v) := by
  cases st with
  | nil => cases h
  | cons v r =>
    simp only [am_s1] at h
    by_cases hc : (p v && decide (i < nL) && am_ok1 L i) = true
    · rw [if_pos hc] at h
      simp only [Bool.and_eq_true, decide_eq_true_eq] at hc
      cases h
      exact ⟨v, rfl, hc.1.1, hc.1.2, hc.2, rfl, rfl⟩
    · rw [if_neg hc] at h
      cases h
theorem am_s2_ok {nL L st pc n i p pc' L' st'} (h : am_s2 nL L st pc n i p = some (pc', L', st')) : ∃ v, st = v :: st' ∧ p v = true ∧ i + 1 < nL ∧ am_ok1 L i = true ∧ pc' = pc + n ∧ L' = (L.set (i + 1) none).set i (some v) := by
  cases st with
  | nil => cases h
  | cons v r =>
    simp only [am_s2] at h
    by_cases hc : (p v && decide (i + 1 < nL) && am_ok1 L i) = true
    · rw [if_pos hc] at h
      simp only [Bool.and_eq_true, decide_eq_true_eq] at hc
      cases h
      exact ⟨v, rfl, hc.1.1, hc.1.2, hc.2, rfl, rfl⟩
    · rw [if_neg hc] at h
      cases h
theorem am_b_ok {L st pc f pc' L' st'} (h : am_b L st pc f = some (pc', L', st')) : ∃ x y r, st = .int y :: .int x :: r ∧ pc' = pc + 1 ∧ L' = L ∧ st' = .int (f x y) :: r := by
  unfold am_b at h
  split at h
  · cases h
    exact ⟨_, _, _, rfl, rfl, rfl, rfl⟩
  · cases h
theorem am_bl_ok {L st pc f pc' L' st'} (h : am_bl L st pc f = some (pc', L', st')) : ∃ x y r, st = .long y :: .long x :: r ∧ pc' = pc + 1 ∧ L' = L ∧ st' = .long (f x y) :: r := by
  unfold am_bl at h
  split at h
  · cases h
    exact ⟨_, _, _, rfl, rfl, rfl, rfl⟩
  · cases h
theorem am_u_ok {L st pc f pc' L' st'} (h : am_u L st pc f = some (pc', L', st')) : ∃ x r, st = .int x :: r ∧ pc' = pc + 1 ∧ L' = L ∧ st' = f x :: r := by
  unfold am_u at h
  split at h
  · cases h
    exact ⟨_, _, rfl, rfl, rfl, rfl⟩
  · cases h
theorem am_isI_ok {v : Value} (h : am_isI v = true) : ∃ x, v = .int x := by cases v <;> first | exact ⟨_, rfl⟩ | cases h
theorem am_isL_ok {v : Value} (h : am_isL v = true) : ∃ x, v = .long x := by cases v <;> first | exact ⟨_, rfl⟩ | cases h
theorem am_isF_ok {v : Value} (h : am_isF v = true) : ∃ x, v = .float x := by cases v <;> first | exact ⟨_, rfl⟩ | cases h
theorem am_isD_ok {v : Value} (h : am_isD v = true) : ∃ x, v = .double x := by cases v <;> first | exact ⟨_, rfl⟩ | cases h
theorem am_isA_ok {v : Value} (h : am_isA v = true) : ∃ x, v = .ref x := by cases v <;> first | exact ⟨_, rfl⟩ | cases h
end
section
section AMS
variable {p : Program} {l : Launch} {e : Env} {R : Room} {s : State} {m : MethodId} {args : Array Value} {below : List Frame} {meth : Method} {c : Code} {H : Heap} {locs : List Loc} {cells slots : Nat} {Q : State → Prop}
variable {cc : ByteArray} {ad : Nat → Nat} {nL pc pc' : Nat} {L L' : List (Option Value)} {st st' : List Value} {ls : Array Slot}
set_option maxHeartbeats 4000000 in
set_option maxRecDepth 100000 in
theorem am_i_ok {i : Instr} (hx : p.tables.exec = Jvm.exec) (hb : c.code = cc) (hdg : decode cc pc = .ok (i, am_len i)) (h : am_i nL i pc L st = some (pc', L', st')) (hl : am_l ad nL L ls)
    (k : ∀ ls' : Array Slot, am_l ad nL L' ls' → W p l e R s m args below meth c H locs cells slots Q (F0 m pc' ls' (st'.map (am_v ad)))) : W p l e R s m args below meth c H locs cells slots Q (F0 m pc ls (st.map (am_v ad))) := by
  cases i
  case iload_n n =>
    obtain ⟨v, hg, hp, rfl, rfl, rfl⟩ := am_ld_ok h
    obtain ⟨x, rfl⟩ := am_isI_ok hp
    exact lv_iload_n hx hb hdg rfl (hl.2.2 _ _ hg) (k ls hl)
  case iload n =>
    obtain ⟨v, hg, hp, rfl, rfl, rfl⟩ := am_ld_ok h
    obtain ⟨x, rfl⟩ := am_isI_ok hp
    exact lv_iload hx hb hdg (hl.2.2 _ _ hg) (k ls hl)
  case fload_n n =>
    obtain ⟨v, hg, hp, rfl, rfl, rfl⟩ := am_ld_ok h
    obtain ⟨x, rfl⟩ := am_isF_ok hp
    exact lv_fload_n hx hb hdg rfl (hl.2.2 _ _ hg) (k ls hl)
  case fload n =>
    obtain ⟨v, hg, hp, rfl, rfl, rfl⟩ := am_ld_ok h
    obtain ⟨x, rfl⟩ := am_isF_ok hp
    exact lv_fload hx hb hdg (hl.2.2 _ _ hg) (k ls hl)
  case lload_n n =>
    obtain ⟨v, hg, hp, rfl, rfl, rfl⟩ := am_ld_ok h
    obtain ⟨x, rfl⟩ := am_isL_ok hp
    exact lv_lload_n hx hb hdg rfl (hl.2.2 _ _ hg) (k ls hl)
  case lload n =>
    obtain ⟨v, hg, hp, rfl, rfl, rfl⟩ := am_ld_ok h
    obtain ⟨x, rfl⟩ := am_isL_ok hp
    exact lv_lload hx hb hdg (hl.2.2 _ _ hg) (k ls hl)
  case dload_n n =>
    obtain ⟨v, hg, hp, rfl, rfl, rfl⟩ := am_ld_ok h
    obtain ⟨x, rfl⟩ := am_isD_ok hp
    exact lv_dload_n hx hb hdg rfl (hl.2.2 _ _ hg) (k ls hl)
  case dload n =>
    obtain ⟨v, hg, hp, rfl, rfl, rfl⟩ := am_ld_ok h
    obtain ⟨x, rfl⟩ := am_isD_ok hp
    exact lv_dload hx hb hdg (hl.2.2 _ _ hg) (k ls hl)
  case aload_n n =>
    obtain ⟨v, hg, hp, rfl, rfl, rfl⟩ := am_ld_ok h
    obtain ⟨x, rfl⟩ := am_isA_ok hp
    exact lv_aload_n hx hb hdg rfl (hl.2.2 _ _ hg) (k ls hl)
  case aload n =>
    obtain ⟨v, hg, hp, rfl, rfl, rfl⟩ := am_ld_ok h
    obtain ⟨x, rfl⟩ := am_isA_ok hp
    exact lv_aload hx hb hdg (hl.2.2 _ _ hg) (k ls hl)
  case istore_n n =>
    obtain ⟨v, rfl, hp, hi, hok, rfl, rfl⟩ := am_s1_ok h
    obtain ⟨x, rfl⟩ := am_isI_ok hp
    obtain ⟨ls', e', h'⟩ := am_store1 (v := .int x) hl hi rfl hok
    have e' : storeLocals ls n.val (.int x) = some ls' := e'
    intro T hT X
    obtain ⟨t, a, b⟩ := k ls' h' T hT X
    refine ⟨t, ?_, b⟩
    show Steps p.tables e below (T.setTop (F0 m pc ls (.int x :: st'.map (am_v ad)))) t
    jvm_step X.here [X.here.top, ↓top_set X.here.top, hx, hb, hdg, e']
    exact a
  case istore n =>
    obtain ⟨v, rfl, hp, hi, hok, rfl, rfl⟩ := am_s1_ok h
    obtain ⟨x, rfl⟩ := am_isI_ok hp
    obtain ⟨ls', e', h'⟩ := am_store1 (v := .int x) hl hi rfl hok
    have e' : storeLocals ls n (.int x) = some ls' := e'
    intro T hT X
    obtain ⟨t, a, b⟩ := k ls' h' T hT X
    refine ⟨t, ?_, b⟩
    show Steps p.tables e below (T.setTop (F0 m pc ls (.int x :: st'.map (am_v ad)))) t
    jvm_step X.here [X.here.top, ↓top_set X.here.top, hx, hb, hdg, e']
    exact a
  case fstore_n n =>
    obtain ⟨v, rfl, hp, hi, hok, rfl, rfl⟩ := am_s1_ok h
    obtain ⟨x, rfl⟩ := am_isF_ok hp
    obtain ⟨ls', e', h'⟩ := am_store1 (v := .float x) hl hi rfl hok
    have e' : storeLocals ls n.val (.float x) = some ls' := e'
    intro T hT X
    obtain ⟨t, a, b⟩ := k ls' h' T hT X
    refine ⟨t, ?_, b⟩
    show Steps p.tables e below (T.setTop (F0 m pc ls (.float x :: st'.map (am_v ad)))) t
    jvm_step X.here [X.here.top, ↓top_set X.here.top, hx, hb, hdg, e', Op.fstore_n.sem]
    exact a
  case fstore n =>
    obtain ⟨v, rfl, hp, hi, hok, rfl, rfl⟩ := am_s1_ok h
    obtain ⟨x, rfl⟩ := am_isF_ok hp
    obtain ⟨ls', e', h'⟩ := am_store1 (v := .float x) hl hi rfl hok
    have e' : storeLocals ls n (.float x) = some ls' := e'
    intro T hT X
    obtain ⟨t, a, b⟩ := k ls' h' T hT X
    refine ⟨t, ?_, b⟩
    show Steps p.tables e below (T.setTop (F0 m pc ls (.float x :: st'.map (am_v ad)))) t
    jvm_step X.here [X.here.top, ↓top_set X.here.top, hx, hb, hdg, e', Op.fstore.sem]
    exact a
  case lstore_n n =>
    obtain ⟨v, rfl, hp, hi, hok, rfl, rfl⟩ := am_s2_ok h
    obtain ⟨x, rfl⟩ := am_isL_ok hp
    obtain ⟨ls', e', h'⟩ := am_store2 (v := .long x) hl hi rfl hok
    have e' : storeLocals ls n.val (.long x) = some ls' := e'
    intro T hT X
    obtain ⟨t, a, b⟩ := k ls' h' T hT X
    refine ⟨t, ?_, b⟩
    show Steps p.tables e below (T.setTop (F0 m pc ls (.long x :: st'.map (am_v ad)))) t
    jvm_step X.here [X.here.top, ↓top_set X.here.top, hx, hb, hdg, e']
    exact a
  case lstore n =>
    obtain ⟨v, rfl, hp, hi, hok, rfl, rfl⟩ := am_s2_ok h
    obtain ⟨x, rfl⟩ := am_isL_ok hp
    obtain ⟨ls', e', h'⟩ := am_store2 (v := .long x) hl hi rfl hok
    have e' : storeLocals ls n (.long x) = some ls' := e'
    intro T hT X
    obtain ⟨t, a, b⟩ := k ls' h' T hT X
    refine ⟨t, ?_, b⟩
    show Steps p.tables e below (T.setTop (F0 m pc ls (.long x :: st'.map (am_v ad)))) t
    jvm_step X.here [X.here.top, ↓top_set X.here.top, hx, hb, hdg, e']
    exact a
  case dstore_n n =>
    obtain ⟨v, rfl, hp, hi, hok, rfl, rfl⟩ := am_s2_ok h
    obtain ⟨x, rfl⟩ := am_isD_ok hp
    obtain ⟨ls', e', h'⟩ := am_store2 (v := .double x) hl hi rfl hok
    have e' : storeLocals ls n.val (.double x) = some ls' := e'
    intro T hT X
    obtain ⟨t, a, b⟩ := k ls' h' T hT X
    refine ⟨t, ?_, b⟩
    show Steps p.tables e below (T.setTop (F0 m pc ls (.double x :: st'.map (am_v ad)))) t
    jvm_step X.here [X.here.top, ↓top_set X.here.top, hx, hb, hdg, e', Op.dstore_n.sem]
    exact a
  case dstore n =>
    obtain ⟨v, rfl, hp, hi, hok, rfl, rfl⟩ := am_s2_ok h
    obtain ⟨x, rfl⟩ := am_isD_ok hp
    obtain ⟨ls', e', h'⟩ := am_store2 (v := .double x) hl hi rfl hok
    have e' : storeLocals ls n (.double x) = some ls' := e'
    intro T hT X
    obtain ⟨t, a, b⟩ := k ls' h' T hT X
    refine ⟨t, ?_, b⟩
    show Steps p.tables e below (T.setTop (F0 m pc ls (.double x :: st'.map (am_v ad)))) t
    jvm_step X.here [X.here.top, ↓top_set X.here.top, hx, hb, hdg, e', Op.dstore.sem]
    exact a
  case astore_n n =>
    obtain ⟨v, rfl, hp, hi, hok, rfl, rfl⟩ := am_s1_ok h
    obtain ⟨x, rfl⟩ := am_isA_ok hp
    obtain ⟨ls', e', h'⟩ := am_store1 (v := .ref x) hl hi rfl hok
    have e' : storeLocals ls n.val (.ref (ad x)) = some ls' := e'
    intro T hT X
    obtain ⟨t, a, b⟩ := k ls' h' T hT X
    refine ⟨t, ?_, b⟩
    show Steps p.tables e below (T.setTop (F0 m pc ls (.ref (ad x) :: st'.map (am_v ad)))) t
    jvm_step X.here [X.here.top, ↓top_set X.here.top, hx, hb, hdg, e', Value.isRef]
    exact a
  case astore n =>
    obtain ⟨v, rfl, hp, hi, hok, rfl, rfl⟩ := am_s1_ok h
    obtain ⟨x, rfl⟩ := am_isA_ok hp
    obtain ⟨ls', e', h'⟩ := am_store1 (v := .ref x) hl hi rfl hok
    have e' : storeLocals ls n (.ref (ad x)) = some ls' := e'
    intro T hT X
    obtain ⟨t, a, b⟩ := k ls' h' T hT X
    refine ⟨t, ?_, b⟩
    show Steps p.tables e below (T.setTop (F0 m pc ls (.ref (ad x) :: st'.map (am_v ad)))) t
    jvm_step X.here [X.here.top, ↓top_set X.here.top, hx, hb, hdg, e', Value.isRef]
    exact a
  case iconst n =>
    cases h
    exact lv_iconst hx hb hdg rfl (k ls hl)
  case bipush n =>
    cases h
    exact lv_bipush hx hb hdg rfl (k ls hl)
  case sipush n =>
    cases h
    exact lv_sipush hx hb hdg rfl (k ls hl)
  case lconst n =>
    cases h
    exact lv_lconst hx hb hdg rfl (k ls hl)
  case iadd =>
    obtain ⟨x, y, r, rfl, rfl, rfl, rfl⟩ := am_b_ok h
    exact lv_iadd hx hb hdg (k ls hl)
  case isub =>
    obtain ⟨x, y, r, rfl, rfl, rfl, rfl⟩ := am_b_ok h
    exact lv_isub hx hb hdg (k ls hl)
  case imul =>
    obtain ⟨x, y, r, rfl, rfl, rfl, rfl⟩ := am_b_ok h
    exact lv_imul hx hb hdg (k ls hl)
  case iand =>
    obtain ⟨x, y, r, rfl, rfl, rfl, rfl⟩ := am_b_ok h
    exact lv_iand hx hb hdg (k ls hl)
  case ior =>
    obtain ⟨x, y, r, rfl, rfl, rfl, rfl⟩ := am_b_ok h
    exact lv_ior hx hb hdg (k ls hl)
  case ixor =>
    obtain ⟨x, y, r, rfl, rfl, rfl, rfl⟩ := am_b_ok h
    exact lv_ixor hx hb hdg (k ls hl)
  case ishl =>
    obtain ⟨x, y, r, rfl, rfl, rfl, rfl⟩ := am_b_ok h
    exact lv_ishl hx hb hdg (k ls hl)
  case ishr =>
    obtain ⟨x, y, r, rfl, rfl, rfl, rfl⟩ := am_b_ok h
    exact lv_ishr hx hb hdg (k ls hl)
  case iushr =>
    obtain ⟨x, y, r, rfl, rfl, rfl, rfl⟩ := am_b_ok h
    exact lv_iushr hx hb hdg rfl (k ls hl)
  case ladd =>
    obtain ⟨x, y, r, rfl, rfl, rfl, rfl⟩ := am_bl_ok h
    exact lv_ladd hx hb hdg (k ls hl)
  case lmul =>
    obtain ⟨x, y, r, rfl, rfl, rfl, rfl⟩ := am_bl_ok h
    exact lv_lmul hx hb hdg (k ls hl)
  case i2l =>
    obtain ⟨x, r, rfl, rfl, rfl, rfl⟩ := am_u_ok h
    exact lv_i2l hx hb hdg rfl (k ls hl)
  case i2c =>
    obtain ⟨x, r, rfl, rfl, rfl, rfl⟩ := am_u_ok h
    exact lv_i2c hx hb hdg rfl (k ls hl)
  case i2f =>
    obtain ⟨x, r, rfl, rfl, rfl, rfl⟩ := am_u_ok h
    exact lv_i2f hx hb hdg (k ls hl)
  case i2d =>
    obtain ⟨x, r, rfl, rfl, rfl, rfl⟩ := am_u_ok h
    exact lv_i2d hx hb hdg (k ls hl)
  case lcmp =>
    simp only [am_i] at h
    split at h
    · cases h
      exact W.lcmp hx hb hdg (k ls hl)
    · cases h
  case fcmp op =>
    simp only [am_i] at h
    split at h
    · cases h
      exact lv_fcmp hx hb hdg (k ls hl)
    · cases h
  case dcmp op =>
    simp only [am_i] at h
    split at h
    · cases h
      exact lv_dcmp hx hb hdg (k ls hl)
    · cases h
  case dup =>
    simp only [am_i] at h
    split at h
    · rename_i v r
      by_cases hc : (v.category == 1) = true
      · rw [if_pos hc] at h
        cases h
        exact lv_dup hx hb hdg ((am_v_cat ad v).trans (eq_of_beq hc)) (k ls hl)
      · rw [if_neg hc] at h
        cases h
    · cases h
  case dup2 =>
    simp only [am_i] at h
    split at h
    · rename_i v w r
      by_cases hc : (v.category == 1 && w.category == 1) = true
      · rw [if_pos hc] at h
        simp only [Bool.and_eq_true] at hc
        cases h
        exact lv_dup2_11 hx hb hdg ((am_v_cat ad v).trans (eq_of_beq hc.1)) ((am_v_cat ad w).trans (eq_of_beq hc.2)) (k ls hl)
      · rw [if_neg hc] at h
        cases h
    · cases h
  case pop =>
    simp only [am_i] at h
    split at h
    · rename_i v r
      by_cases hc : (v.category == 1) = true
      · rw [if_pos hc] at h
        cases h
        exact lv_pop hx hb hdg ((am_v_cat ad v).trans (eq_of_beq hc)) (k ls hl)
      · rw [if_neg hc] at h
        cases h
    · cases h
  case goto off =>
    simp only [am_i] at h
    by_cases hc : 0 ≤ (pc : Int) + off
    · rw [if_pos hc] at h
      cases h
      exact lv_goto hx hb hdg (Int.toNat_of_nonneg hc).symm (k ls hl)
    · rw [if_neg hc] at h
      cases h
  case iinc q n =>
    simp only [am_i] at h
    split at h
    · rename_i x hg
      by_cases hc : (decide (q < nL) && am_ok1 L q) = true
      · rw [if_pos hc] at h
        simp only [Bool.and_eq_true, decide_eq_true_eq] at hc
        cases h
        obtain ⟨ls', e', h'⟩ := am_store1 (v := .int (x + Int32.ofInt n)) hl hc.1 rfl hc.2
        have e' : storeLocals ls q (.int (x + Int32.ofInt n)) = some ls' := e'
        have hg' : ls[q]? = some (.val (.int x)) := hl.2.2 q _ hg
        intro T hT X
        obtain ⟨t, a, b⟩ := k ls' h' T hT X
        refine ⟨t, ?_, b⟩
        jvm_step X.here [X.here.top, ↓top_set X.here.top, hx, hb, hdg, hg', e']
        exact a
      · rw [if_neg hc] at h
        cases h
    · cases h
  all_goals exact absurd (show (none : Option (Nat × List (Option Value) × List Value)) = some (pc', L', st') from h) (by intro q; cases q)
end AMS
end
section
/-! ===== AM2: the world as a table of numbers. V c k: what field k of the object c, or place k of the array c, holds; shapes and references are fixed ===== -/
/-- a cell's shape: an object (class number, for each field none: a number, some d: the object d), or an array (number of its class, length; numbers, floats (true), or references told by place and number) -/
abbrev am_Sh : Type := (Nat × List (Option Nat)) ⊕ (Nat × Nat × (Bool ⊕ (Nat → Int32 → Option Nat)))
def am_fv (ad : Nat → Nat) (x : Int32) : Option Nat → Value
  | none => .int x
  | some c => .ref (ad c)
/-- the same with cells' numbers for addresses -/
def am_fw (x : Int32) : Option Nat → Value
  | none => .int x
  | some c => .ref c
theorem am_fw_v (ad : Nat → Nat) (x : Int32) (o : Option Nat) : am_v ad (am_fw x o) = am_fv ad x o := by cases o <;> rfl
def am_fs (ad : Nat → Nat) (f : Nat → Int32) : Nat → List (Option Nat) → List Value
  | _, [] => []
  | j, o :: r => am_fv ad (f j) o :: am_fs ad f (j + 1) r
theorem am_fs_get (ad : Nat → Nat) (f : Nat → Int32) : ∀ (os : List (Option Nat)) (j k : Nat), (am_fs ad f j os)[k]? = (os[k]?).map (am_fv ad (f (j + k)))
  | [], _, _ => by simp [am_fs]
  | o :: r, j, 0 => by simp [am_fs]
  | o :: r, j, k + 1 => by
    simp only [am_fs, List.getElem?_cons_succ]
    rw [am_fs_get ad f r (j + 1) k, show j + 1 + k = j + (k + 1) by omega]
theorem am_fs_len (ad : Nat → Nat) (f : Nat → Int32) : ∀ (os : List (Option Nat)) (j : Nat), (am_fs ad f j os).length = os.length
  | [], _ => rfl
  | o :: r, j => by simp [am_fs, am_fs_len ad f r (j + 1)]
theorem am_fs_set {ad : Nat → Nat} {f : Nat → Int32} {os : List (Option Nat)} {k : Nat} (h : os[k]? = some none) (x : Int32) : (am_fs ad f 0 os).set k (.int x) = am_fs ad (upd f k x) 0 os := by
  apply List.ext_getElem?
  intro i
  rw [am_fs_get, List.getElem?_set, am_fs_len, am_fs_get]
  by_cases e : k = i
  · subst e
    have hl : k < os.length := (List.getElem?_eq_some_iff.mp h).1
    rw [if_pos rfl, if_pos hl, h]
    simp [am_fv, upd]
  · rw [if_neg e, Nat.zero_add]
    have : upd f k x i = f i := by simp [upd, Ne.symm e]
    rw [this]
def am_e (dA : Nat → ClassId) (ad : Nat → Nat) (f : Nat → Int32) : am_Sh → va_E
  | .inl (ci, os) => .inr (ci, am_fs ad f 0 os)
  | .inr (t, n, .inl false) => .inl (dA t, n, .inl f)
  | .inr (t, n, .inl true) => .inl (dA t, n, .inr (.inr (.inl (fun j => (f j).toUInt32))))
  | .inr (t, n, .inr g) => .inl (dA t, n, .inr (.inr (.inr (.inr (fun j => (g j (f j)).map ad)))))
abbrev am_V : Type := Nat → Nat → Int32
def am_set (V : am_V) (c k : Nat) (x : Int32) : am_V := fun d => if d = c then upd (V c) k x else V d
theorem am_set_at (V : am_V) (c k : Nat) (x : Int32) : am_set V c k x c = upd (V c) k x := if_pos rfl
theorem am_set_ne (V : am_V) {c d : Nat} (k : Nat) (x : Int32) (h : d ≠ c) : am_set V c k x d = V d := if_neg h
theorem am_set_get (V : am_V) (c k : Nat) (x : Int32) (d j : Nat) : am_set V c k x d j = if d = c ∧ j = k then x else V d j := by
  by_cases h : d = c
  · subst h
    rw [am_set_at]
    by_cases h2 : j = k <;> simp [upd, h2]
  · rw [am_set_ne _ _ _ h]
    simp [h]
/-- what is fixed for a claim: the classes, the words, the shapes, which cells may be written, the arrays' types -/
abbrev am_X : Type := List vw_C × List Cond × List Cond × (Nat → Option am_Sh) × (Nat → Bool) × (Nat → FieldType) × List (String × Nat × String) × List (String × String) × List (String × String × String × Value)
def am_cl (X : am_X) : List vw_C := X.1
def am_WS (X : am_X) : List Cond := X.2.1
def am_NS (X : am_X) : List Cond := X.2.2.1
def am_sh (X : am_X) : Nat → Option am_Sh := X.2.2.2.1
def am_wr (X : am_X) : Nat → Bool := X.2.2.2.2.1
def am_tA (X : am_X) : Nat → FieldType := X.2.2.2.2.2.1
def am_TS (X : am_X) : List (String × Nat × String) := X.2.2.2.2.2.2.1
def am_NC (X : am_X) : List (String × String) := X.2.2.2.2.2.2.2.1
def am_SF (X : am_X) : List (String × String × String × Value) := X.2.2.2.2.2.2.2.2
/-- the words that hold at every call: good ones, and links to nest mates -/
def am_words (X : am_X) : Prop := (∀ w ∈ am_WS X, (w.onTables && w.keeps) = true ∨ ∃ ty, w = .arrayClass ty) ∧ ∀ w ∈ am_NS X, (∃ (a : String) (i : Nat) (y : MethodName) (h : String), w = .methodLinkNest a i y h) ∨ (∃ (a : String) (i : Nat) (b n d h : String), w = .fieldLinkNest a i b n d h) ∨ (∃ a b : String, w = .castable a b) ∨ ∃ y : MethodName, w = .declares y
/-- what a run finds: the classes' numbers, the array classes', the addresses, the state at the law's start -/
abbrev am_U : Type := va_G × (Nat → ClassId) × (Nat → Nat) × State
def am_D (U : am_U) : va_G := U.1
def am_dA (U : am_U) : Nat → ClassId := U.2.1
def am_ad (U : am_U) : Nat → Nat := U.2.2.1
def am_s0 (U : am_U) : State := U.2.2.2
/-- a method's walk -/
abbrev am_G : Type := Launch × Program × Env × Room × State × MethodId × Array Value × List Frame × Method × Code
def am_gl (G : am_G) : Launch := G.1
def am_gp (G : am_G) : Program := G.2.1
def am_ge (G : am_G) : Env := G.2.2.1
def am_gR (G : am_G) : Room := G.2.2.2.1
def am_gs (G : am_G) : State := G.2.2.2.2.1
def am_gm (G : am_G) : MethodId := G.2.2.2.2.2.1
def am_ga (G : am_G) : Array Value := G.2.2.2.2.2.2.1
def am_gb (G : am_G) : List Frame := G.2.2.2.2.2.2.2.1
def am_gt (G : am_G) : Method := G.2.2.2.2.2.2.2.2.1
def am_gc (G : am_G) : Code := G.2.2.2.2.2.2.2.2.2
def am_H (X : am_X) (U : am_U) (V : am_V) (H : Heap) : Prop :=
  (∀ (c : Nat) (x : am_Sh), am_sh X c = some x → va_at (am_D U) (am_cl X) (am_ad U c, am_e (am_dA U) (am_ad U) (V c) x) H) ∧
  (am_s0 U).heap.size ≤ H.size ∧ ∀ q : Nat, q < (am_s0 U).heap.size → H[q]? = (am_s0 U).heap[q]?
def am_base (X : am_X) (U : am_U) : Prop :=
  (am_words X ∧ (∀ w ∈ am_NS X, va_Nw w (am_s0 U)) ∧ (∀ x ∈ am_TS X, ∃ a : Nat, vk_R x.1 x.2.1 x.2.2 a (am_s0 U)) ∧ (∀ x ∈ am_NC X, va_Nc x.1 x.2 (am_s0 U)) ∧
    vx_Zq Bundle.tN "UNASSIGNED_STACK" Bundle.steD (fun q => (am_s0 U).heap.size ≤ q) (am_s0 U) (am_s0 U).heap ∧ vx_Zq Bundle.tN "SUPPRESSED_SENTINEL" Bundle.listD (fun q => (am_s0 U).heap.size ≤ q) (am_s0 U) (am_s0 U).heap ∧
    ∀ x ∈ am_SF X, va_Z x.1 x.2.1 x.2.2.1 (am_v (am_ad U) x.2.2.2) (fun q => (am_s0 U).heap.size ≤ q) (am_s0 U) (am_s0 U).heap) ∧ va_K (am_D U) (am_cl X) [] (am_s0 U) ∧ (∀ t : Nat, t < 8 → ArrOfT (am_s0 U) (am_dA U t) (am_tA X t) ∧ va_RA (am_s0 U) (am_dA U t) (am_tA X t)) ∧
  (∀ (c d : Nat) (x y : am_Sh), am_sh X c = some x → am_sh X d = some y → am_wr X d = true → am_ad U c = am_ad U d → c = d) ∧
  (∀ (c : Nat) (x : am_Sh), am_sh X c = some x → am_wr X c = true → (am_s0 U).heap.size ≤ am_ad U c)
def am_ok (X : am_X) (U : am_U) (G : am_G) (own : String) (cc : ByteArray) (nL : Nat) : Prop :=
  (am_gp G).tables.exec = Jvm.exec ∧ (am_gc G).code = cc ∧ (am_gc G).maxLocals = nL ∧ (am_gs G).vm.findClass own = some (am_gm G).cls ∧ (∀ w ∈ am_WS X, w.before (am_ga G) (am_gs G) = true) ∧
  (am_s0 U).WarmedH (am_gs G).vm ∧ am_base X U ∧ (am_gt G).locks = false ∧ (am_gl G).stackTraces = false
def am_W (G : am_G) (H : Heap) (locs : List Loc) (kc ks : Nat) (Q : State → Prop) (g : JFrame) : Prop :=
  W (am_gp G) (am_gl G) (am_ge G) (am_gR G) (am_gs G) (am_gm G) (am_ga G) (am_gb G) (am_gt G) (am_gc G) H locs kc ks Q g
/-- the goal: from here, with these locals, this stack and this table, the machine comes to a state with Q -/
def AW (X : am_X) (U : am_U) (G : am_G) (nL kc ks : Nat) (V : am_V) (Q : State → Prop) (pc : Nat) (L : List (Option Value)) (st : List Value) : Prop :=
  ∀ (H : Heap) (locs : List Loc) (ls : Array Slot), am_H X U V H → (am_gs G).heap.size ≤ H.size → (∀ q ∈ locs, (am_s0 U).heap.size ≤ q.base) → am_l (am_ad U) nL L ls →
    am_W G H locs kc ks Q (F0 (am_gm G) pc ls (st.map (am_v (am_ad U))))
def am_dec (cc : ByteArray) (t : List (Nat × Instr × Nat)) : Prop := ∀ x ∈ t, decode cc x.1 = .ok (x.2.1, x.2.2)
def am_run (nL : Nat) : List (Nat × Instr × Nat) → Nat → List (Option Value) → List Value → Option (Nat × List (Option Value) × List Value)
  | [], pc, L, st => some (pc, L, st)
  | (q, i, n) :: r, pc, L, st => if (q == pc && n == am_len i) = true then (am_i nL i pc L st).bind (fun x => am_run nL r x.1 x.2.1 x.2.2) else none
section AMR
variable {X : am_X} {U : am_U} {G : am_G} {own : String} {cc : ByteArray} {nL kc ks pc pc' : Nat} {V : am_V} {Q : State → Prop} {L L' : List (Option Value)} {st st' : List Value}
theorem AW.step {i : Instr} {n : Nat} (ok : am_ok X U G own cc nL) (hdg : decode cc pc = .ok (i, n)) (hn : n = am_len i) (h : am_i nL i pc L st = some (pc', L', st')) (k : AW X U G nL kc ks V Q pc' L' st') : AW X U G nL kc ks V Q pc L st := by
  subst hn
  intro H locs ls hH hz hlo hl
  exact am_i_ok ok.1 ok.2.1 hdg h hl (fun ls' hl' => k H locs ls' hH hz hlo hl')
theorem AW.runs (ok : am_ok X U G own cc nL) : ∀ (t : List (Nat × Instr × Nat)), am_dec cc t → ∀ (pc : Nat) (L : List (Option Value)) (st : List Value), am_run nL t pc L st = some (pc', L', st') → AW X U G nL kc ks V Q pc' L' st' → AW X U G nL kc ks V Q pc L st
  | [], _, pc, L, st, h, k => by
    cases h
    exact k
  | (q, i, n) :: r, hd, pc, L, st, h, k => by
    simp only [am_run] at h
    by_cases hc : (q == pc && n == am_len i) = true
    · rw [if_pos hc] at h
      simp only [Bool.and_eq_true, beq_iff_eq] at hc
      cases hi : am_i nL i pc L st with
      | none => rw [hi] at h; cases h
      | some x =>
        obtain ⟨p1, L1, s1⟩ := x
        rw [hi] at h
        have hdg := hd (q, i, n) List.mem_cons_self
        rw [hc.1] at hdg
        exact AW.step ok hdg hc.2 hi (AW.runs ok r (fun x hx => hd x (List.mem_cons_of_mem _ hx)) p1 L1 s1 h k)
    · rw [if_neg hc] at h
      cases h
/-- a stretch of a method's table: n rows from the a-th on -/
theorem AW.run {t : List (Nat × Instr × Nat)} (ok : am_ok X U G own cc nL) (hd : am_dec cc t) (a n : Nat) (h : am_run nL ((t.drop a).take n) pc L st = some (pc', L', st')) (k : AW X U G nL kc ks V Q pc' L' st') : AW X U G nL kc ks V Q pc L st :=
  AW.runs ok _ (fun x hx => hd x (List.mem_of_mem_drop (List.mem_of_mem_take hx))) pc L st h k
/-- a row of the table -/
theorem am_at {t : List (Nat × Instr × Nat)} (hd : am_dec cc t) (a : Nat) {i : Instr} {n : Nat} (h : t[a]? = some (pc, i, n)) : decode cc pc = .ok (i, n) := hd (pc, i, n) (List.mem_of_getElem? h)
def am_cnd : Jvm.ClassFile.Cond → Int32 → Int32 → Prop
  | .eq, x, y => x = y
  | .ne, x, y => ¬ x = y
  | .lt, x, y => x < y
  | .ge, x, y => y ≤ x
  | .gt, x, y => y < x
  | .le, x, y => x ≤ y
theorem AW.icmp {cond : Jvm.ClassFile.Cond} {off : Int} {x y : Int32} (ok : am_ok X U G own cc nL) (tgt : Nat) (hdg : decode cc pc = .ok (.if_icmp cond off, 3)) (ht : (pc : Int) + off = (tgt : Int)) (kt : am_cnd cond x y → AW X U G nL kc ks V Q tgt L st) (kf : ¬ am_cnd cond x y → AW X U G nL kc ks V Q (pc + 3) L st) :
    AW X U G nL kc ks V Q pc L (.int y :: .int x :: st) := by
  intro H locs ls hH hz hlo hl
  have a1 := fun h => kt h H locs ls hH hz hlo hl
  have a2 := fun h => kf h H locs ls hH hz hlo hl
  cases cond
  · exact lv_icmp_eq ok.1 ok.2.1 hdg ht a1 a2
  · exact lv_icmp_ne ok.1 ok.2.1 hdg ht a1 (fun h => a2 (fun q => q h))
  · exact lv_icmp_lt ok.1 ok.2.1 hdg ht a1 a2
  · exact lv_icmp_ge ok.1 ok.2.1 hdg ht a1 a2
  · exact lv_icmp_gt ok.1 ok.2.1 hdg ht a1 a2
  · exact lv_icmp_le ok.1 ok.2.1 hdg ht a1 a2
theorem AW.ifc {cond : Jvm.ClassFile.Cond} {off : Int} {x : Int32} (ok : am_ok X U G own cc nL) (tgt : Nat) (hdg : decode cc pc = .ok (.ifCond cond off, 3)) (ht : (pc : Int) + off = (tgt : Int)) (kt : am_cnd cond x 0 → AW X U G nL kc ks V Q tgt L st) (kf : ¬ am_cnd cond x 0 → AW X U G nL kc ks V Q (pc + 3) L st) :
    AW X U G nL kc ks V Q pc L (.int x :: st) := by
  intro H locs ls hH hz hlo hl
  have a1 := fun h => kt h H locs ls hH hz hlo hl
  have a2 := fun h => kf h H locs ls hH hz hlo hl
  cases cond
  · exact lv_if_eq ok.1 ok.2.1 hdg ht a1 a2
  · exact lv_if_ne ok.1 ok.2.1 hdg ht a1 (fun h => a2 (fun q => q h))
  · exact lv_if_lt ok.1 ok.2.1 hdg ht a1 a2
  · exact lv_if_ge ok.1 ok.2.1 hdg ht a1 a2
  · exact lv_if_gt ok.1 ok.2.1 hdg ht a1 a2
  · exact lv_if_le ok.1 ok.2.1 hdg ht a1 a2
end AMR
end
section
/-! ===== AM3: fields and arrays ===== -/
theorem am_one {D : va_G} {cl : List vw_C} {q : Nat × va_E} {H : Heap} (h : va_at D cl q H) : va_P D cl [q] H := by
  intro k x hx
  have hl : k < 1 := (List.getElem?_eq_some_iff.mp hx).1
  rw [show k = 0 by omega] at hx
  cases hx
  exact h
/-- a read of a field, by the pool's entry: class ci, field k -/
def am_gf (X : am_X) (own : String) (index ci k : Nat) : Prop := ∃ (C : String) (T : u_T) (N : Nat), (am_cl X)[ci]? = some (C, T, N) ∧ (∀ w ∈ u_ws C T N, w ∈ am_WS X) ∧ k < N ∧ Cond.fieldLink own index (T k).1 (T k).2.1 (T k).2.2.1 ∈ am_WS X
/-- .. and a write of a number, of type ty, the field not final -/
def am_pf (X : am_X) (own : String) (index ci k : Nat) (ty : FieldType) : Prop := ∃ (C : String) (T : u_T) (N : Nat) (ty0 : Nat → FieldType), (am_cl X)[ci]? = some (C, T, N) ∧ (∀ w ∈ u_ws C T N, w ∈ am_WS X) ∧ k < N ∧ Cond.fieldLink own index (T k).1 (T k).2.1 (T k).2.2.1 ∈ am_WS X ∧
  (∀ k, k < N → parseFieldDescriptor (T k).2.2.1 = some (ty0 k)) ∧ (∀ a, a < N → ∀ b, b < N → a ≠ b → (T a).2.1 ≠ (T b).2.1) ∧ (T k).2.2.2 = false ∧ parseFieldDescriptor (T k).2.2.1 = some ty
section AMH
variable {X : am_X} {U : am_U} {G : am_G} {own : String} {cc : ByteArray} {nL kc ks pc pc' : Nat} {V : am_V} {Q : State → Prop} {L L' : List (Option Value)} {st st' : List Value}
theorem am_ok.K (ok : am_ok X U G own cc nL) : va_K (am_D U) (am_cl X) [] (am_gs G) := va_K.moved ok.2.2.2.2.2.1.alike ok.2.2.2.2.2.2.1.2.1
theorem am_ok.A (ok : am_ok X U G own cc nL) {t : Nat} (ht : t < 8) : ArrOfT (am_gs G) (am_dA U t) (am_tA X t) := arrOfT_moved ok.2.2.2.2.2.1.alike (ok.2.2.2.2.2.2.1.2.2.1 t ht).1
theorem am_ok.RA (ok : am_ok X U G own cc nL) {t : Nat} (ht : t < 8) : va_RA (am_gs G) (am_dA U t) (am_tA X t) := (ok.2.2.2.2.2.2.1.2.2.1 t ht).2.moved ok.2.2.2.2.2.1.alike
theorem AW.getf {c ci k index : Nat} {os : List (Option Nat)} {o : Option Nat} (ok : am_ok X U G own cc nL) (hf : am_gf X own index ci k) (hsh : am_sh X c = some (.inl (ci, os))) (ho : os[k]? = some o) (hdg : decode cc pc = .ok (.getfield index, 3))
    (kk : AW X U G nL kc ks V Q (pc + 3) L (am_fw (V c k) o :: st)) : AW X U G nL kc ks V Q pc L (.ref c :: st) := by
  intro H locs ls hH hz hlo hl
  obtain ⟨C, T, N, hc, hin, hk, hlink⟩ := hf
  have hP := am_one (hH.1 c _ hsh)
  have hv : (am_fs (am_ad U) (V c) 0 os)[k]? = some (am_fv (am_ad U) (V c k) o) := by rw [am_fs_get, ho, Nat.zero_add]; rfl
  have k2 := kk H locs ls hH hz hlo hl
  rw [List.map_cons, am_fw_v] at k2
  exact va_get (D := am_D U) (ci := ci) (C := C) (T := T) (N := N) (ws := [(am_ad U c, am_e (am_dA U) (am_ad U) (V c) (.inl (ci, os)))]) ok.1 ok.2.1 ok.2.2.2.2.1 hin ok.2.2.2.1 (am_ok.K ok) hP 0 rfl hc k hk (ok.2.2.2.2.1 _ hlink) (fun _ h9 => h9) hv hdg k2
theorem am_H.put {H H1 : Heap} {c : Nat} {x : am_Sh} {f : Nat → Int32} {V1 : am_V} (hb : am_base X U) (hH : am_H X U V H) (hx : am_sh X c = some x) (hw : am_wr X c = true) (hV : V1 c = f) (hV2 : ∀ d, d ≠ c → V1 d = V d)
    (he : va_at (am_D U) (am_cl X) (am_ad U c, am_e (am_dA U) (am_ad U) f x) H1) (hz : H1.size = H.size) (oq : ∀ q, q ≠ am_ad U c → H1[q]? = H[q]?) : am_H X U V1 H1 := by
  refine ⟨fun d y hy => ?_, by rw [hz]; exact hH.2.1, fun q hq => ?_⟩
  · by_cases e : d = c
    · subst e
      cases hx.symm.trans hy
      rw [hV]
      exact he
    · rw [hV2 d e]
      exact (hH.1 d y hy).kept (oq _ (fun q => e (hb.2.2.2.1 d c y x hy hx hw q)))
  · have h1 := hb.2.2.2.2 c x hx hw
    rw [oq q (by omega)]
    exact hH.2.2 q hq
theorem am_locs {locs : List Loc} {a i N0 : Nat} (h : ∀ q ∈ locs, N0 ≤ q.base) (ha : N0 ≤ a) : ∀ q ∈ locs ++ [(⟨a, i⟩ : Loc)], N0 ≤ q.base := by
  intro q hq
  rcases List.mem_append.mp hq with h1 | h1
  · exact h q h1
  · rw [List.mem_singleton.mp h1]
    exact ha
theorem AW.putf {c ci k index : Nat} {os : List (Option Nat)} {ty : FieldType} {x : Int32} (ok : am_ok X U G own cc nL) (hf : am_pf X own index ci k ty) (hsh : am_sh X c = some (.inl (ci, os))) (hw : am_wr X c = true) (ho : os[k]? = some none) (hn : narrow ty (.int x) = .int x) (hfit : fits ty (.int x) = true) (hdg : decode cc pc = .ok (.putfield index, 3))
    (kk : AW X U G nL kc ks (am_set V c k x) Q (pc + 3) L st) : AW X U G nL kc ks V Q pc L (.int x :: .ref c :: st) := by
  intro H locs ls hH hz hlo hl
  obtain ⟨C, T, N, ty0, hc, hin, hk, hlink, hty, hnm, hfin, hd⟩ := hf
  have hts := ok.2.2.2.2.1
  have hown := ok.2.2.2.1
  have hK := am_ok.K ok
  have hap := va_apart (own := own) hts hin ty0 hty hnm hK hc
  obtain ⟨r, h1, cell, q1, q2, q3, q4⟩ := hH.1 c _ hsh
  have hr : r = (C, T, N) := Option.some.inj (h1.symm.trans hc)
  subst hr
  obtain ⟨hS, hfc, kC, hkC, hkind⟩ := hK.1 ci _ hc
  obtain ⟨cf, kf, fi, f, hi, hsl⟩ := hS k hk
  have hlay := hts _ (hin _ (u_in_lay hk))
  unfold u_lay at hlay
  rw [if_neg (by rw [hfin]; decide)] at hlay
  have hst := (u_facts hfc hkC (u_lays hts hin hk) hi).1
  have h6 := u_store hfc hkC hkind hlay hi hd hn hfit
  have hle : k < (am_fs (am_ad U) (V c) 0 os).length := by rw [am_fs_len]; exact (List.getElem?_eq_some_iff.mp ho).1
  refine W.putK ok.1 ok.2.1 (f := f) ⟨hown, hts _ hlink, ⟨_, _, _, hi⟩, hst⟩ (by rw [q2]; exact h6) q1 q3 (by rw [hsl]; exact k2_hasslot (q4 k hk)) rfl rfl hdg fun H' e1 e2 e3 => ?_
  rw [hsl] at e1 ⊢
  have hat : va_at (am_D U) (am_cl X) (am_ad U c, am_e (am_dA U) (am_ad U) (upd (V c) k x) (.inl (ci, os))) H' := by
    refine ⟨_, hc, ?_⟩
    show t_OB (am_ad U c) _ _ _ H' (vp_V (am_fs (am_ad U) (upd (V c) k x) 0 os))
    rw [← am_fs_set ho x]
    exact t_OB.to (V := updV (vp_V (am_fs (am_ad U) (V c) 0 os)) k (.int x)) ⟨_, e1, q2, q3, t_set q4 hap hk (.int x)⟩ (fun j _ => vp_updV_set hle (.int x) j)
  exact kk H' _ ls (am_H.put ok.2.2.2.2.2.2.1 hH hsh hw (am_set_at V c k x) (fun d hd => am_set_ne V k x hd) hat e2 e3) (by rw [e2]; exact hz) (am_locs hlo (ok.2.2.2.2.2.2.1.2.2.2.2 c _ hsh hw)) hl
theorem AW.iald {c t n : Nat} {i : Int32} (ok : am_ok X U G own cc nL) (hsh : am_sh X c = some (.inr (t, n, .inl false))) (ht : t < 8) (hty : am_tA X t = .int) (hin : vp_in i n) (hdg : decode cc pc = .ok (.iaload, 1))
    (kk : AW X U G nL kc ks V Q (pc + 1) L (.int (V c i.toNatClampNeg) :: st)) : AW X U G nL kc ks V Q pc L (.int i :: .ref c :: st) := by
  intro H locs ls hH hz hlo hl
  have hA := am_ok.A ok ht
  rw [hty] at hA
  have hlt : i.toNatClampNeg < n := Nat.not_le.mp fun q => hin (Or.inr q)
  exact W.iald (v := .int (V c i.toNatClampNeg)) ok.1 ok.2.1 (hH.1 c _ hsh) (hA n (fun j => .int (V c j))) (fun q => by cases q) (by show ¬ (i < 0 ∨ (arrV _ _ _).slots.size ≤ _); rw [arrV_size]; exact hin) (by show (arrV _ _ _).slots[_]? = _; rw [arrV_read _ _ hlt]) rfl rfl hdg (kk H locs ls hH hz hlo hl)
theorem AW.cald {c t n : Nat} {i : Int32} (ok : am_ok X U G own cc nL) (hsh : am_sh X c = some (.inr (t, n, .inl false))) (ht : t < 8) (hty : am_tA X t = .char) (hin : vp_in i n) (hdg : decode cc pc = .ok (.caload, 1))
    (kk : AW X U G nL kc ks V Q (pc + 1) L (.int (V c i.toNatClampNeg) :: st)) : AW X U G nL kc ks V Q pc L (.int i :: .ref c :: st) := by
  intro H locs ls hH hz hlo hl
  have hA := am_ok.A ok ht
  rw [hty] at hA
  have hlt : i.toNatClampNeg < n := Nat.not_le.mp fun q => hin (Or.inr q)
  exact W.cald (v := .int (V c i.toNatClampNeg)) ok.1 ok.2.1 (hH.1 c _ hsh) (hA n (fun j => .int (V c j))) (fun q => by cases q) (by show ¬ (i < 0 ∨ (arrV _ _ _).slots.size ≤ _); rw [arrV_size]; exact hin) (by show (arrV _ _ _).slots[_]? = _; rw [arrV_read _ _ hlt]) rfl rfl hdg (kk H locs ls hH hz hlo hl)
theorem AW.fald {c t n : Nat} {i : Int32} (ok : am_ok X U G own cc nL) (hsh : am_sh X c = some (.inr (t, n, .inl true))) (ht : t < 8) (hty : am_tA X t = .float) (hin : vp_in i n) (hdg : decode cc pc = .ok (.faload, 1))
    (kk : AW X U G nL kc ks V Q (pc + 1) L (.float (V c i.toNatClampNeg).toUInt32 :: st)) : AW X U G nL kc ks V Q pc L (.int i :: .ref c :: st) := by
  intro H locs ls hH hz hlo hl
  have hA := am_ok.A ok ht
  rw [hty] at hA
  have hlt : i.toNatClampNeg < n := Nat.not_le.mp fun q => hin (Or.inr q)
  exact W.fald (v := .float (V c i.toNatClampNeg).toUInt32) ok.1 ok.2.1 (hH.1 c _ hsh) (hA n (fun j => .float (V c j).toUInt32)) (fun q => by cases q) (by show ¬ (i < 0 ∨ (arrV _ _ _).slots.size ≤ _); rw [arrV_size]; exact hin) (by show (arrV _ _ _).slots[_]? = _; rw [arrV_read _ _ hlt]) rfl rfl hdg (kk H locs ls hH hz hlo hl)
/-- a reference out of an array of references, not null -/
theorem AW.aald {c t n d : Nat} {i : Int32} {g : Nat → Int32 → Option Nat} {C : FieldType} (ok : am_ok X U G own cc nL) (hsh : am_sh X c = some (.inr (t, n, .inr g))) (ht : t < 8) (hty : am_tA X t = C) (hC : C.isReference = true) (hin : vp_in i n) (hg : g i.toNatClampNeg (V c i.toNatClampNeg) = some d) (hdg : decode cc pc = .ok (.aaload, 1))
    (kk : AW X U G nL kc ks V Q (pc + 1) L (.ref d :: st)) : AW X U G nL kc ks V Q pc L (.int i :: .ref c :: st) := by
  intro H locs ls hH hz hlo hl
  have hA := am_ok.A ok ht
  rw [hty] at hA
  have hlt : i.toNatClampNeg < n := Nat.not_le.mp fun q => hin (Or.inr q)
  exact W.aald (v := .ref (am_ad U d)) (ty := C) ok.1 ok.2.1 (hH.1 c _ hsh) (hA n (fun j => va_rf ((g j (V c j)).map (am_ad U)))) hC (fun q => by cases q) (by show ¬ (i < 0 ∨ (arrV _ _ _).slots.size ≤ _); rw [arrV_size]; exact hin) (by show (arrV _ _ _).slots[_]? = _; rw [arrV_read _ _ hlt]; show some (va_rf ((g i.toNatClampNeg (V c i.toNatClampNeg)).map (am_ad U))) = _; rw [hg]; rfl) rfl rfl hdg (kk H locs ls hH hz hlo hl)
theorem AW.iast {c t n : Nat} {i x : Int32} (ok : am_ok X U G own cc nL) (hsh : am_sh X c = some (.inr (t, n, .inl false))) (hw : am_wr X c = true) (ht : t < 8) (hty : am_tA X t = .int) (hin : vp_in i n) (hdg : decode cc pc = .ok (.iastore, 1))
    (kk : AW X U G nL kc ks (am_set V c i.toNatClampNeg x) Q (pc + 1) L st) : AW X U G nL kc ks V Q pc L (.int x :: .int i :: .ref c :: st) := by
  intro H locs ls hH hz hlo hl
  have hA := am_ok.A ok ht
  rw [hty] at hA
  refine W.iast ok.1 ok.2.1 (hH.1 c _ hsh) (hA n (fun j => .int (V c j))) (fun q => by cases q) (by show ¬ (i < 0 ∨ (arrV _ _ _).slots.size ≤ _); rw [arrV_size]; exact hin) rfl rfl hdg fun H1 e z oq => ?_
  have hat : va_at (am_D U) (am_cl X) (am_ad U c, am_e (am_dA U) (am_ad U) (upd (V c) i.toNatClampNeg x) (.inr (t, n, .inl false))) H1 := by
    show H1[am_ad U c]? = some (vp_cell (am_dA U t) (n, .inl (upd (V c) i.toNatClampNeg x)))
    have e : H1[am_ad U c]? = some ((vp_cell (am_dA U t) (n, .inl (V c))).setSlot i.toNatClampNeg (.int x)) := e
    rw [e, vp_cell_i, vp_cell_i, arrV_store]
    congr 2
    funext q
    by_cases hq : q = i.toNatClampNeg
    · subst hq
      simp [updV, upd]
    · simp [updV, upd, hq]
  exact kk H1 _ ls (am_H.put ok.2.2.2.2.2.2.1 hH hsh hw (am_set_at V c _ x) (fun d hd => am_set_ne V _ x hd) hat z oq) (by rw [z]; exact hz) (am_locs hlo (ok.2.2.2.2.2.2.1.2.2.2.2 c _ hsh hw)) hl
theorem AW.cast {c t n : Nat} {i x : Int32} (ok : am_ok X U G own cc nL) (hsh : am_sh X c = some (.inr (t, n, .inl false))) (hw : am_wr X c = true) (ht : t < 8) (hty : am_tA X t = .char) (hin : vp_in i n) (hx : narrow .char (.int x) = .int x) (hdg : decode cc pc = .ok (.castore, 1))
    (kk : AW X U G nL kc ks (am_set V c i.toNatClampNeg x) Q (pc + 1) L st) : AW X U G nL kc ks V Q pc L (.int x :: .int i :: .ref c :: st) := by
  intro H locs ls hH hz hlo hl
  have hA := am_ok.A ok ht
  rw [hty] at hA
  refine W.cast ok.1 ok.2.1 (hH.1 c _ hsh) (hA n (fun j => .int (V c j))) (fun q => by cases q) (by show ¬ (i < 0 ∨ (arrV _ _ _).slots.size ≤ _); rw [arrV_size]; exact hin) rfl rfl hdg fun H1 e z oq => ?_
  rw [hx] at e
  have hat : va_at (am_D U) (am_cl X) (am_ad U c, am_e (am_dA U) (am_ad U) (upd (V c) i.toNatClampNeg x) (.inr (t, n, .inl false))) H1 := by
    show H1[am_ad U c]? = some (vp_cell (am_dA U t) (n, .inl (upd (V c) i.toNatClampNeg x)))
    have e : H1[am_ad U c]? = some ((vp_cell (am_dA U t) (n, .inl (V c))).setSlot i.toNatClampNeg (.int x)) := e
    rw [e, vp_cell_i, vp_cell_i, arrV_store]
    congr 2
    funext q
    by_cases hq : q = i.toNatClampNeg
    · subst hq
      simp [updV, upd]
    · simp [updV, upd, hq]
  exact kk H1 _ ls (am_H.put ok.2.2.2.2.2.2.1 hH hsh hw (am_set_at V c _ x) (fun d hd => am_set_ne V _ x hd) hat z oq) (by rw [z]; exact hz) (am_locs hlo (ok.2.2.2.2.2.2.1.2.2.2.2 c _ hsh hw)) hl
theorem AW.fast {c t n : Nat} {i : Int32} {x : UInt32} (ok : am_ok X U G own cc nL) (hsh : am_sh X c = some (.inr (t, n, .inl true))) (hw : am_wr X c = true) (ht : t < 8) (hty : am_tA X t = .float) (hin : vp_in i n) (hdg : decode cc pc = .ok (.fastore, 1))
    (kk : AW X U G nL kc ks (am_set V c i.toNatClampNeg x.toInt32) Q (pc + 1) L st) : AW X U G nL kc ks V Q pc L (.float x :: .int i :: .ref c :: st) := by
  intro H locs ls hH hz hlo hl
  have hA := am_ok.A ok ht
  rw [hty] at hA
  refine W.fast ok.1 ok.2.1 (hH.1 c _ hsh) (hA n (fun j => .float (V c j).toUInt32)) (fun q => by cases q) (by show ¬ (i < 0 ∨ (arrV _ _ _).slots.size ≤ _); rw [arrV_size]; exact hin) rfl rfl hdg fun H1 e z oq => ?_
  have hat : va_at (am_D U) (am_cl X) (am_ad U c, am_e (am_dA U) (am_ad U) (upd (V c) i.toNatClampNeg x.toInt32) (.inr (t, n, .inl true))) H1 := by
    show H1[am_ad U c]? = some (vp_cell (am_dA U t) (n, .inr (.inr (.inl (fun j => (upd (V c) i.toNatClampNeg x.toInt32 j).toUInt32)))))
    have e : H1[am_ad U c]? = some ((vp_cell (am_dA U t) (n, .inr (.inr (.inl (fun j => (V c j).toUInt32))))).setSlot i.toNatClampNeg (.float x)) := e
    rw [e, vp_cell_f, vp_cell_f, arrV_store]
    congr 2
    funext q
    by_cases hq : q = i.toNatClampNeg
    · subst hq
      simp [updV, upd]
    · simp [updV, upd, hq]
  exact kk H1 _ ls (am_H.put ok.2.2.2.2.2.2.1 hH hsh hw (am_set_at V c _ _) (fun d hd => am_set_ne V _ _ hd) hat z oq) (by rw [z]; exact hz) (am_locs hlo (ok.2.2.2.2.2.2.1.2.2.2.2 c _ hsh hw)) hl
end AMH
end
section
/-! ===== AM4: contracts, calls, ends ===== -/
def am_St (X : am_X) (U : am_U) (V : am_V) (S : State) : Prop := am_H X U V S.heap ∧ (am_s0 U).WarmedH S.vm
def am_Qc (X : am_X) (U : am_U) (res : Option Value ⊕ String) (V : am_V) : Array Value → State → Outcome → State → Prop := fun _ st o t => ∃ r : Option Value, res = .inl r ∧ o = .returned (r.map (am_v (am_ad U))) ∧ am_H X U V t.heap ∧ st.heap.size ≤ t.heap.size
def am_XC (X : am_X) (U : am_U) (res : Option Value ⊕ String) (V : am_V) : String → State → State → Prop := fun E st t => res = .inr E ∧ am_H X U V t.heap ∧ st.heap.size ≤ t.heap.size
def am_fr (U : am_U) : Addr → Prop := fun q => (am_s0 U).heap.size ≤ q
/-- the contract of a method at these arguments and this table: it comes to res, and to the table V' -/
def am_Ct (X : am_X) (U : am_U) (l : Launch) (y : MethodName) (b : ByteArray) (nL : Nat) (ret : Option FieldType) (rm : Room) (As : List Value) (V : am_V) (res : Option Value ⊕ String) (V' : am_V) : Prop :=
  vx_Met l y (Cond.code y b nL ret :: am_WS X) rm (fun v S => v = (As.map (am_v (am_ad U))).toArray ∧ am_St X U V S) (am_Qc X U res V') (am_XC X U res V') rm.cells rm.slots (am_fr U)
def am_End (X : am_X) (U : am_U) (G : am_G) (rm : Room) (res : Option Value ⊕ String) (V' : am_V) : State → Prop :=
  vx_MQ (am_gb G) (am_Qc X U res V') (am_XC X U res V') (am_ga G) (am_gs G) rm.cells rm.slots (am_fr U)
/-- the heap at the walk's start holds the world too: what stood before the law stands -/
def am_st0 (U : am_U) (G : am_G) : Prop := (am_s0 U).heap.size ≤ (am_gs G).heap.size ∧ ∀ q : Nat, q < (am_s0 U).heap.size → (am_gs G).heap[q]? = (am_s0 U).heap[q]?
def am_L0 : Nat → List Value → List (Option Value)
  | n, [] => List.replicate n none
  | n, v :: r => if (v.category == 2) = true then some v :: none :: am_L0 (n - 2) r else some v :: am_L0 (n - 1) r
theorem am_rep (n i : Nat) (v : Value) (h : am_get (List.replicate n none) i = some v) : False := by
  unfold am_get at h
  rw [List.getElem?_replicate] at h
  by_cases e : i < n
  · rw [if_pos e] at h
    cases h
  · rw [if_neg e] at h
    cases h
theorem am_args (ad : Nat → Nat) : ∀ (As : List Value) (n j i : Nat) (v : Value), am_get (am_L0 n As) i = some v → (j + i, am_v ad v) ∈ lv_args j (As.map (am_v ad))
  | [], n, j, i, v, h => (am_rep n i v h).elim
  | w :: r, n, j, i, v, h => by
    simp only [am_L0] at h
    simp only [List.map_cons, lv_args, am_v_cat]
    by_cases hc : w.category = 2
    · rw [if_pos (by simp [hc])] at h
      rw [if_pos hc]
      match i, h with
      | 0, h =>
        cases h
        exact List.mem_cons_self
      | 1, h => cases h
      | i + 2, h =>
        have := am_args ad r (n - 2) (j + 2) i v h
        rw [show j + 2 + i = j + (i + 2) by omega] at this
        exact List.mem_cons_of_mem _ this
    · rw [if_neg (by simp [hc])] at h
      rw [if_neg hc]
      match i, h with
      | 0, h =>
        cases h
        exact List.mem_cons_self
      | i + 1, h =>
        have := am_args ad r (n - 1) (j + 1) i v h
        rw [show j + 1 + i = j + (i + 1) by omega] at this
        exact List.mem_cons_of_mem _ this
theorem am_sl (ad : Nat → Nat) : ∀ As : List Value, (lg_sl (As.map (am_v ad))).length = (As.map Value.category).sum
  | [] => rfl
  | v :: r => by
    have h := am_sl ad r
    unfold lg_sl at h ⊢
    rw [List.map_cons, List.flatMap_cons, List.length_append, h, am_v_cat, List.map_cons, List.sum_cons]
    rcases lv_cat v with e | e <;> simp [e]
theorem am_NS_moved {X : am_X} {U : am_U} {S : State} (hb : am_base X U) (hW : (am_s0 U).WarmedH S.vm) {w : Cond} (hw : w ∈ am_NS X) : va_Nw w S := by
  rcases hb.1.1.2 w hw with ⟨a, i, y, h, rfl⟩ | ⟨a, i, b, n, d, h, rfl⟩ | ⟨a, b, rfl⟩ | ⟨y, rfl⟩
  · exact va_Nw.warmM hW (hb.1.2.1 _ hw)
  · exact va_Nw.warmF hW (hb.1.2.1 _ hw)
  · exact va_Nw.warmC hW (hb.1.2.1 _ hw)
  · exact va_Nw.warmD hW (hb.1.2.1 _ hw)
theorem am_NS_on {X : am_X} {U : am_U} (hb : am_base X U) {w : Cond} (hw : w ∈ am_NS X) : w.onTables = true := by
  rcases hb.1.1.2 w hw with ⟨a, i, y, h, rfl⟩ | ⟨a, i, b, n, d, h, rfl⟩ | ⟨a, b, rfl⟩ | ⟨y, rfl⟩ <;> rfl
set_option maxHeartbeats 4000000 in
/-- a contract by a walk of the body -/
theorem am_Ct.of {X : am_X} {U : am_U} {l : Launch} {y : MethodName} {b : ByteArray} {nL : Nat} {ret : Option FieldType} {rm : Room} {As : List Value} {V : am_V} {res : Option Value ⊕ String} {V' : am_V} (hb : am_base X U) (hfl : l.stackTraces = false) (hy : plainName y.cls = true) (hlen : (As.map Value.category).sum ≤ nL)
    (body : ∀ G : am_G, am_gl G = l → am_gR G = rm → (am_gt G).sig.returnType = ret → am_ok X U G y.cls b nL → am_st0 U G → (∀ x ∈ (am_gc G).exceptionTable.toList, False) → AW X U G nL 0 0 V (am_End X U G rm res V') 0 (am_L0 nL As) []) : am_Ct X U l y b nL ret rm As V res V' := by
  refine vx_ofW (cc := b) (maxL := nL) (ret := ret) hy rfl ?_
  intro p e s m args below meth c s₁ B hml hex hv
  obtain ⟨rfl, hH, hW⟩ := hv
  have hts := atoms_spec (ws := Cond.code y b nL ret :: am_WS X) B.pre
  have hown : s.vm.findClass y.cls = some m.cls := findClass_of_methodNamed B.named
  have ok : am_ok X U (l, p, e, rm, s, m, (As.map (am_v (am_ad U))).toArray, below, meth, c) y.cls b nL := ⟨B.exec, B.bytes, hml, hown, fun w hw => hts w (List.mem_cons_of_mem _ hw), hW, hb, B.notSynchronized, hfl⟩
  have h1 := body (l, p, e, rm, s, m, (As.map (am_v (am_ad U))).toArray, below, meth, c) rfl rfl B.returns ok hH.2 hex
  rw [lg_entry_eq]
  have he := lv_entry (As.map (am_v (am_ad U))) (n := nL) (by rw [am_sl]; exact hlen)
  exact h1 s.heap [] _ hH (Nat.le_refl _) (fun q hq => by cases hq) ⟨he.1, he.2.1, fun i v hi => by
    have h2 := am_args (am_ad U) As nL 0 i v hi
    rw [Nat.zero_add] at h2
    exact he.2.2 _ h2⟩
section AMC
variable {X : am_X} {U : am_U} {G : am_G} {own : String} {cc : ByteArray} {nL kc ks pc pc' : Nat} {V : am_V} {Q : State → Prop} {L L' : List (Option Value)} {st st' : List Value}
/-- an exception of class E has come over the frame at pc -/
def AX (X : am_X) (U : am_U) (G : am_G) (nL kc ks : Nat) (V : am_V) (Q : State → Prop) (E : String) (pc : Nat) (L : List (Option Value)) : Prop :=
  ∀ (H : Heap) (locs : List Loc) (ls : Array Slot) (rest : List Value) (q : Addr) (ce : Cell), am_H X U V H → (am_gs G).heap.size ≤ H.size → (∀ q ∈ locs, (am_s0 U).heap.size ≤ q.base) → am_l (am_ad U) nL L ls →
    H[q]? = some ce → ce.vm = .none → (am_gs G).vm.findClass E = some ce.cls →
    vx_W (am_gp G) (am_gl G) (am_ge G) (am_gR G) (am_gs G) (am_gm G) (am_ga G) (am_gb G) (am_gt G) (am_gc G) H locs kc ks Q (F0 (am_gm G) pc ls rest) q
theorem am_wordsok {X : am_X} {U : am_U} {G : am_G} {own : String} {cc : ByteArray} {nL : Nat} (ok : am_ok X U G own cc nL) : am_words X := ok.2.2.2.2.2.2.1.1.1
/-- the words of a virtual call -/
def am_cv (X : am_X) (own : String) (index : Nat) (y : MethodName) (b : ByteArray) (nL : Nat) (ret : Option FieldType) (n : Nat) : Prop :=
  Cond.methodLink own index y ∈ am_WS X ∧ Cond.instanceMethod y ∈ am_WS X ∧ Cond.selects y.cls y y ∈ am_WS X ∧ Cond.initialized y.cls ∈ am_WS X ∧ Cond.code y b nL ret ∈ am_WS X ∧
  (y.cls ≠ "java/lang/invoke/MethodHandle" ∧ y.cls ≠ "java/lang/invoke/VarHandle" ∧ (parseMethodDescriptor y.desc).map (fun d => d.parameters.length) = some n)
def am_cs (X : am_X) (own : String) (index : Nat) (y : MethodName) (b : ByteArray) (nL : Nat) (ret : Option FieldType) (n : Nat) : Prop :=
  Cond.methodLink own index y ∈ am_WS X ∧ Cond.static y ∈ am_WS X ∧ Cond.initialized y.cls ∈ am_WS X ∧ Cond.code y b nL ret ∈ am_WS X ∧
  (y.cls ≠ "java/lang/invoke/MethodHandle" ∧ y.cls ≠ "java/lang/invoke/VarHandle" ∧ (parseMethodDescriptor y.desc).map (fun d => d.parameters.length) = some n)
def am_cn (X : am_X) (own : String) (index : Nat) (y : MethodName) (host : String) (b : ByteArray) (nL : Nat) (ret : Option FieldType) (n : Nat) : Prop :=
  Cond.methodLinkNest own index y host ∈ am_NS X ∧ Cond.static y ∈ am_WS X ∧ Cond.initialized y.cls ∈ am_WS X ∧ Cond.code y b nL ret ∈ am_WS X ∧
  (y.cls ≠ "java/lang/invoke/MethodHandle" ∧ y.cls ≠ "java/lang/invoke/VarHandle" ∧ (parseMethodDescriptor y.desc).map (fun d => d.parameters.length) = some n)
theorem am_good (hw : am_words X) {ws : List Cond} (h : ∀ w ∈ ws, w ∈ am_WS X) : GoodIn (am_WS X) ws := fun w hm => ⟨h w hm, hw.1 w (h w hm)⟩
theorem am_blind (As : List Value) : FrameBlind (fun v S => v = (As.map (am_v (am_ad U))).toArray ∧ am_St X U V S) := fun _ _ _ _ q => q
end AMC
end
section
/-! ===== AM5: calls ===== -/
section AMD
variable {X : am_X} {U : am_U} {G : am_G} {own : String} {cc : ByteArray} {nL kc ks pc pc' : Nat} {V V1 : am_V} {Q : State → Prop} {L L' : List (Option Value)} {st st' : List Value} {res : Option Value ⊕ String} {H : Heap} {locs : List Loc} {ls : Array Slot}
theorem am_after {mc ms : Nat} {st0 : List Value} {a : Array Value} (hr : vx_Run (am_gp G) (am_gl G) (am_ge G) (am_gR G) (am_gs G) (am_gm G) (am_ga G) (am_gb G) (am_gt G) (am_gc G) H locs kc ks mc ms (F0 (am_gm G) pc ls st0) (st.map (am_v (am_ad U))) (am_Qc X U res V1 a) (am_XC X U res V1) (am_fr U))
    (hz : (am_gs G).heap.size ≤ H.size) (hlo : ∀ q ∈ locs, (am_s0 U).heap.size ≤ q.base) (hl : am_l (am_ad U) nL L ls)
    (kx : ∀ E, res = .inr E → AX X U G nL (kc + mc) (ks + ms) V1 Q E pc L) (kk : ∀ r : Option Value, res = .inl r → AW X U G nL (kc + mc) (ks + ms) V1 Q (pc + 3) L (r.toList ++ st)) : am_W G H locs kc ks Q (F0 (am_gm G) pc ls st0) := by
  intro T hT XX
  rcases hr T hT XX with ⟨v, st₀, t, T', L9, h0, X', hL, e1, e2, ⟨r, hr1, hv, hH1, hsz⟩, stp⟩ | ⟨q, st₀, t, T', L9, E, ce, h0, X', hL, e1, e2, ⟨hr1, hH1, hsz⟩, hce, hcv, hcl, stp⟩
  · cases hv
    have hlo2 : ∀ q ∈ locs ++ L9, (am_s0 U).heap.size ≤ q.base := fun q hq => (List.mem_append.mp hq).elim (hlo q) (hL q)
    have k2 := kk r hr1 T'.heap (locs ++ L9) ls (by rw [e1]; exact hH1) (by rw [e1]; exact Nat.le_trans (by rw [← h0] at hz; exact hz) hsz) hlo2 hl
    have e3 : ((r.toList ++ st).map (am_v (am_ad U))) = (r.map (am_v (am_ad U))).toList ++ st.map (am_v (am_ad U)) := by cases r <;> simp
    rw [e3] at k2
    obtain ⟨t2, a1, b1⟩ := k2 T' rfl X'
    exact ⟨t2, stp t2 a1, b1⟩
  · have hlo2 : ∀ q ∈ locs ++ L9, (am_s0 U).heap.size ≤ q.base := fun q hq => (List.mem_append.mp hq).elim (hlo q) (hL q)
    have k2 := kx E hr1 T'.heap (locs ++ L9) ls (st.map (am_v (am_ad U))) q ce (by rw [e1]; exact hH1) (by rw [e1]; exact Nat.le_trans (by rw [← h0] at hz; exact hz) hsz) hlo2 hl (by rw [e1]; exact hce) hcv hcl
    obtain ⟨t2, a1, b1⟩ := k2 T' rfl X'
    exact ⟨t2, stp.trans a1, b1⟩
theorem am_map_rev (As st : List Value) (c : Nat) (ad : Nat → Nat) : ((As.reverse ++ .ref c :: st).map (am_v ad)) = (As.map (am_v ad)).reverse ++ .ref (ad c) :: st.map (am_v ad) := by
  rw [List.map_append, List.map_reverse]
  rfl
theorem am_cat (ad : Nat → Nat) : ∀ st : List Value, ((st.map (am_v ad)).map fun v => v.category) = st.map fun v => v.category
  | [] => rfl
  | v :: r => by simp only [List.map_cons, am_v_cat, am_cat ad r]
set_option maxHeartbeats 4000000 in
/-- a virtual call of a method of the receiver's own class (private ones too) -/
theorem AW.callV {y : MethodName} {b : ByteArray} {nL' n index ci c : Nat} {ret : Option FieldType} {rm : Room} {As : List Value} {os : List (Option Nat)} {T : u_T} {N : Nat}
    (ok : am_ok X U G own cc nL) (hC : am_Ct X U (am_gl G) y b nL' ret rm (.ref c :: As) V res V1) (hcv : am_cv X own index y b nL' ret n) (hsh : am_sh X c = some (.inl (ci, os))) (hcl : (am_cl X)[ci]? = some (y.cls, T, N)) (hn : As.length = n)
    (hst : (st.map fun v => v.category).sum ≤ 8) (hR : rm.frames + 1 ≤ (am_gR G).frames ∧ 8 + (nL' + 11) + rm.locals ≤ (am_gR G).locals) (hf : kc + rm.cells ≤ (am_gR G).cells ∧ ks + rm.slots ≤ (am_gR G).slots) (hdg : decode cc pc = .ok (.invokevirtual index, 3))
    (kx : ∀ E, res = .inr E → AX X U G nL (kc + rm.cells) (ks + rm.slots) V1 Q E pc L) (kk : ∀ r : Option Value, res = .inl r → AW X U G nL (kc + rm.cells) (ks + rm.slots) V1 Q (pc + 3) L (r.toList ++ st)) :
    AW X U G nL kc ks V Q pc L (As.reverse ++ .ref c :: st) := by
  intro H locs ls hH hz hlo hl
  obtain ⟨w1, w2, w3, w4, w5, hd⟩ := hcv
  have hts := ok.2.2.2.2.1
  have hw := am_wordsok ok
  have hT : GoodIn (am_WS X) (wsV own index y.cls y (Cond.code y b nL' ret :: am_WS X)) := am_good hw (by
    intro w hm
    simp only [wsV, List.mem_append, List.mem_cons, List.not_mem_nil, or_false] at hm
    rcases hm with (rfl | rfl | rfl | rfl) | rfl | hm
    · exact w1
    · exact w2
    · exact w3
    · exact w4
    · exact w5
    · exact hm)
  have cw := cwV (R := am_gR G) (s := am_gs G) (args := am_ga G) (own := own) (C := y.cls) (index := index) (y := y) (bytes := b) (maxL := nL') (ret := ret) (ws := Cond.code y b nL' ret :: am_WS X) (rm := rm) (mc := rm.cells) (ms := rm.slots) n hts hT rfl rfl rfl ⟨rfl, hd⟩ hR
  rw [am_map_rev]
  obtain ⟨r0, hr0, hob⟩ := hH.1 c _ hsh
  have hrec := va_recv (D := am_D U) (q0 := 0) (am_ok.K ok) (am_one (hH.1 c _ hsh)) hcl rfl
  refine am_after (a := (Value.ref (am_ad U c) :: As.map (am_v (am_ad U))).toArray) (vx_runV (Ts := am_WS X) (nL := nL) (own := own) (As := As.map (am_v (am_ad U))) (rest := st.map (am_v (am_ad U))) ⟨ok.1, ok.2.1, ok.2.2.1, ok.2.2.2.1, hts⟩ hC cw ⟨am_blind (.ref c :: As), hrec, fun S hS hWS => ⟨rfl, ?_, State.WarmedH.trans ok.2.2.2.2.2.1 hWS⟩⟩ rfl (by rw [List.length_map]; exact hn) hl.1 rfl ?_ hdg hf) hz hlo hl kx kk
  · rw [hS]; exact hH
  · show 2 * 0 + _ ≤ 8
    rw [am_cat]
    omega
theorem am_map_rev2 (As st : List Value) (ad : Nat → Nat) : ((As.reverse ++ st).map (am_v ad)) = (As.map (am_v ad)).reverse ++ st.map (am_v ad) := by
  rw [List.map_append, List.map_reverse]
set_option maxHeartbeats 4000000 in
theorem AW.callS {y : MethodName} {b : ByteArray} {nL' n index : Nat} {ret : Option FieldType} {rm : Room} {As : List Value}
    (ok : am_ok X U G own cc nL) (hC : am_Ct X U (am_gl G) y b nL' ret rm As V res V1) (hcv : am_cs X own index y b nL' ret n) (hn : As.length = n)
    (hst : (st.map fun v => v.category).sum ≤ 8) (hR : rm.frames + 1 ≤ (am_gR G).frames ∧ 8 + (nL' + 11) + rm.locals ≤ (am_gR G).locals) (hf : kc + rm.cells ≤ (am_gR G).cells ∧ ks + rm.slots ≤ (am_gR G).slots) (hdg : decode cc pc = .ok (.invokestatic index, 3))
    (kx : ∀ E, res = .inr E → AX X U G nL (kc + rm.cells) (ks + rm.slots) V1 Q E pc L) (kk : ∀ r : Option Value, res = .inl r → AW X U G nL (kc + rm.cells) (ks + rm.slots) V1 Q (pc + 3) L (r.toList ++ st)) :
    AW X U G nL kc ks V Q pc L (As.reverse ++ st) := by
  intro H locs ls hH hz hlo hl
  obtain ⟨w1, w2, w4, w5, hd⟩ := hcv
  have hts := ok.2.2.2.2.1
  have hw := am_wordsok ok
  have hT : GoodIn (am_WS X) (va_wsS own index y (Cond.code y b nL' ret :: am_WS X)) := am_good hw (by
    intro w hm
    simp only [va_wsS, List.mem_append, List.mem_cons, List.not_mem_nil, or_false] at hm
    rcases hm with (rfl | rfl | rfl) | rfl | hm
    · exact w1
    · exact w2
    · exact w4
    · exact w5
    · exact hm)
  have cw := va_cwS (R := am_gR G) (s := am_gs G) (args := am_ga G) (own := own) (index := index) (y := y) (bytes := b) (maxL := nL') (ret := ret) (ws := Cond.code y b nL' ret :: am_WS X) (rm := rm) (mc := rm.cells) (ms := rm.slots) n hts hT rfl rfl rfl hd hR
  rw [am_map_rev2]
  refine am_after (a := (As.map (am_v (am_ad U))).toArray) (vx_runS (Ts := am_WS X) (nL := nL) (own := own) (As := As.map (am_v (am_ad U))) (rest := st.map (am_v (am_ad U))) ⟨ok.1, ok.2.1, ok.2.2.1, ok.2.2.2.1, hts⟩ hC cw ⟨am_blind As, fun S hS hWS => ⟨rfl, ?_, State.WarmedH.trans ok.2.2.2.2.2.1 hWS⟩⟩ rfl (by rw [List.length_map]; exact hn) hl.1 rfl ?_ hdg hf) hz hlo hl kx kk
  · rw [hS]; exact hH
  · show 2 * 0 + _ ≤ 8
    rw [am_cat]
    omega
set_option maxHeartbeats 4000000 in
/-- a static call of a nest mate's private method -/
theorem AW.callSN {y : MethodName} {b : ByteArray} {nL' n index : Nat} {ret : Option FieldType} {rm : Room} {As : List Value} {host : String}
    (ok : am_ok X U G own cc nL) (hC : am_Ct X U (am_gl G) y b nL' ret rm As V res V1) (hcv : am_cn X own index y host b nL' ret n) (hn : As.length = n)
    (hst : (st.map fun v => v.category).sum ≤ 8) (hR : rm.frames + 1 ≤ (am_gR G).frames ∧ 8 + (nL' + 11) + rm.locals ≤ (am_gR G).locals) (hf : kc + rm.cells ≤ (am_gR G).cells ∧ ks + rm.slots ≤ (am_gR G).slots) (hdg : decode cc pc = .ok (.invokestatic index, 3))
    (kx : ∀ E, res = .inr E → AX X U G nL (kc + rm.cells) (ks + rm.slots) V1 Q E pc L) (kk : ∀ r : Option Value, res = .inl r → AW X U G nL (kc + rm.cells) (ks + rm.slots) V1 Q (pc + 3) L (r.toList ++ st)) :
    AW X U G nL kc ks V Q pc L (As.reverse ++ st) := by
  intro H locs ls hH hz hlo hl
  obtain ⟨w1, w2, w4, w5, hd⟩ := hcv
  have hts := ok.2.2.2.2.1
  have hw := am_wordsok ok
  have hT : GoodIn (am_WS X) (Cond.code y b nL' ret :: am_WS X) := am_good hw (by
    intro w hm
    rcases List.mem_cons.mp hm with rfl | hm
    · exact w5
    · exact hm)
  have cw := va_cnB (R := am_gR G) (s := am_gs G) (args := am_ga G) (own := own) (host := host) (index := index) (y := y) (bytes := b) (maxL := nL') (ret := ret) (ws := Cond.code y b nL' ret :: am_WS X) (rm := rm) (mc := rm.cells) (ms := rm.slots) n hts hT rfl rfl rfl (am_NS_moved ok.2.2.2.2.2.2.1 ok.2.2.2.2.2.1 w1) (hts _ w4) hd hR
  rw [am_map_rev2]
  refine am_after (a := (As.map (am_v (am_ad U))).toArray) (vx_runSN (Ts := am_WS X) (nL := nL) (own := own) (As := As.map (am_v (am_ad U))) (rest := st.map (am_v (am_ad U))) ⟨ok.1, ok.2.1, ok.2.2.1, ok.2.2.2.1, hts⟩ hC ⟨cw, hts _ w2, trivial⟩ ⟨am_blind As, fun S hS hWS => ⟨rfl, ?_, State.WarmedH.trans ok.2.2.2.2.2.1 hWS⟩⟩ rfl (by rw [List.length_map]; exact hn) hl.1 rfl ?_ hdg hf) hz hlo hl kx kk
  · rw [hS]; exact hH
  · show 2 * 0 + _ ≤ 8
    rw [am_cat]
    omega
/-! ends -/
theorem am_end {G : am_G} {rm : Room} {V' : am_V} {v : Option Value} (ok : am_ok X U G own cc nL) (hH : am_H X U V' H) (hz : (am_gs G).heap.size ≤ H.size) : ∀ t : State, t.heap = H → (am_gs G).WarmedH t.vm → am_Qc X U (.inl v) V' (am_ga G) (am_gs G) (.returned (v.map (am_v (am_ad U)))) t :=
  fun t ht _ => ⟨v, rfl, rfl, by rw [ht]; exact hH, by rw [ht]; exact hz⟩
theorem AW.iret {rm : Room} {x : Int32} {ty : FieldType} (ok : am_ok X U G own cc nL) (hr : (am_gt G).sig.returnType = some ty) (hn : narrow ty (.int x) = .int x) (hc : kc ≤ rm.cells) (hs : ks ≤ rm.slots) (hdg : decode cc pc = .ok (.ireturn, 1)) :
    AW X U G nL kc ks V (am_End X U G rm (.inl (some (.int x))) V) pc L [.int x] := by
  intro H locs ls hH hz hlo hl
  exact W.widen hc hs (vx_ret (W.zret (v := x) ok.1 ok.2.1 hr hn (am_end (rm := rm) (v := some (.int x)) ok hH hz) hlo hdg ok.2.2.2.2.2.2.2.1))
theorem AW.lret {rm : Room} {x : Int64} (ok : am_ok X U G own cc nL) (hr : (am_gt G).sig.returnType = some .long) (hc : kc ≤ rm.cells) (hs : ks ≤ rm.slots) (hdg : decode cc pc = .ok (.lreturn, 1)) :
    AW X U G nL kc ks V (am_End X U G rm (.inl (some (.long x))) V) pc L [.long x] := by
  intro H locs ls hH hz hlo hl
  exact W.widen hc hs (vx_ret (W.lret (v := x) ok.1 ok.2.1 hr (am_end (rm := rm) (v := some (.long x)) ok hH hz) hlo hdg ok.2.2.2.2.2.2.2.1))
theorem AW.fret {rm : Room} {x : UInt32} (ok : am_ok X U G own cc nL) (hr : (am_gt G).sig.returnType = some .float) (hc : kc ≤ rm.cells) (hs : ks ≤ rm.slots) (hdg : decode cc pc = .ok (.freturn, 1)) :
    AW X U G nL kc ks V (am_End X U G rm (.inl (some (.float x))) V) pc L [.float x] := by
  intro H locs ls hH hz hlo hl
  exact W.widen hc hs (vx_ret (W.fret (v := x) ok.1 ok.2.1 hr (am_end (rm := rm) (v := some (.float x)) ok hH hz) hlo hdg ok.2.2.2.2.2.2.2.1))
theorem AW.dret {rm : Room} {x : UInt64} (ok : am_ok X U G own cc nL) (hr : (am_gt G).sig.returnType = some .double) (hc : kc ≤ rm.cells) (hs : ks ≤ rm.slots) (hdg : decode cc pc = .ok (.dreturn, 1)) :
    AW X U G nL kc ks V (am_End X U G rm (.inl (some (.double x))) V) pc L [.double x] := by
  intro H locs ls hH hz hlo hl
  exact W.widen hc hs (vx_ret (W.dret (v := x) ok.1 ok.2.1 hr (am_end (rm := rm) (v := some (.double x)) ok hH hz) hlo hdg ok.2.2.2.2.2.2.2.1))
theorem AW.vret {rm : Room} (ok : am_ok X U G own cc nL) (hr : (am_gt G).sig.returnType = none) (hc : kc ≤ rm.cells) (hs : ks ≤ rm.slots) (hdg : decode cc pc = .ok (.return_, 1)) :
    AW X U G nL kc ks V (am_End X U G rm (.inl none) V) pc L [] := by
  intro H locs ls hH hz hlo hl
  exact W.widen hc hs (vx_ret (W.vret ok.1 ok.2.1 hr (am_end (rm := rm) (v := none) ok hH hz) hlo hdg ok.2.2.2.2.2.2.2.1))
theorem AW.aret {rm : Room} {c : Nat} {rt : FieldType} (ok : am_ok X U G own cc nL) (hr : (am_gt G).sig.returnType = some rt) (hrt : (∃ n, rt = .object n) ∨ ∃ t, rt = .array t) (hc : kc ≤ rm.cells) (hs : ks ≤ rm.slots) (hdg : decode cc pc = .ok (.areturn, 1)) :
    AW X U G nL kc ks V (am_End X U G rm (.inl (some (.ref c))) V) pc L [.ref c] := by
  intro H locs ls hH hz hlo hl
  exact W.widen hc hs (vx_ret (W.aret (v := .ref (am_ad U c)) ok.1 ok.2.1 hr hrt (Or.inr ⟨_, rfl⟩) (am_end (rm := rm) (v := some (.ref c)) ok hH hz) hlo hdg ok.2.2.2.2.2.2.2.1))
/-- an exception that this method's table doesn't cover goes on to the caller -/
theorem AX.out {rm : Room} {E : String} (ok : am_ok X U G own cc nL) (hex : ∀ x ∈ (am_gc G).exceptionTable.toList, False) (hc : kc ≤ rm.cells) (hs : ks ≤ rm.slots) : AX X U G nL kc ks V (am_End X U G rm (.inr E) V) E pc L := by
  intro H locs ls rest q ce hH hz hlo hl hq hv hcl
  exact vx_out (fun x hx => (hex x hx).elim) ok.2.2.2.2.2.2.2.1 hq hv hcl (fun t ht _ => ⟨rfl, by rw [ht]; exact hH, by rw [ht]; exact hz⟩) hlo hc hs
end AMD
end
section
/-! ===== AM6: exceptions ===== -/
theorem am_H.grow {X : am_X} {U : am_U} {V : am_V} {H H1 : Heap} (h : am_H X U V H) (hz : H.size ≤ H1.size) (hq : ∀ q : Nat, q < H.size → H1[q]? = H[q]?) : am_H X U V H1 :=
  ⟨fun c x hx => (h.1 c x hx).kept (hq _ (h.1 c x hx).lt), Nat.le_trans h.2.1 hz, fun q hl => (hq q (Nat.lt_of_lt_of_le hl h.2.1)).trans (h.2.2 q hl)⟩
/-- the words of 'throw new cls("text")' at the pool's entries ik, is, ic of own -/
def am_th (X : am_X) (own : String) (ik is ic : Nat) (cls text : String) (names : List String) : Prop :=
  Cond.classLink own ik cls ∈ am_WS X ∧ Cond.initialized cls ∈ am_WS X ∧ (∀ w ∈ vx_atS own ic cls names, w ∈ am_WS X ∨ w ∈ am_NS X) ∧ (∀ w ∈ Cond.classLink own ik cls :: Cond.initialized cls :: vx_atS own ic cls names, vx_ot w = true) ∧
  Bundle.fit cls = true ∧ (∀ n ∈ names, Bundle.fit n = true) ∧ (own, is, text) ∈ am_TS X
section AME
variable {X : am_X} {U : am_U} {G : am_G} {own : String} {cc : ByteArray} {nL kc ks pc pc' : Nat} {V V1 : am_V} {Q : State → Prop} {L L' : List (Option Value)} {st st' : List Value} {H : Heap} {locs : List Loc} {ls : Array Slot}
theorem am_ok.NS (ok : am_ok X U G own cc nL) {w : Cond} (hw : w ∈ am_NS X) : w.before (am_ga G) (am_gs G) = true :=
  va_Nw.use (am_NS_on ok.2.2.2.2.2.2.1 hw) (am_NS_moved ok.2.2.2.2.2.2.1 ok.2.2.2.2.2.1 hw)
theorem am_ok.NC (ok : am_ok X U G own cc nL) {x : String × String} (hw : x ∈ am_NC X) : va_Nc x.1 x.2 (am_gs G) := va_Nc.moved ok.2.2.2.2.2.1.alike (ok.2.2.2.2.2.2.1.1.2.2.2.1 x hw)
theorem am_ok.str (ok : am_ok X U G own cc nL) {x : String × Nat × String} (hx : x ∈ am_TS X) : ∃ a : Nat, vk_R x.1 x.2.1 x.2.2 a (am_gs G) := by
  obtain ⟨a, ha⟩ := ok.2.2.2.2.2.2.1.1.2.2.1 x hx
  exact ⟨a, vk_R.warm ok.2.2.2.2.2.1 ha⟩
theorem am_Zq (ok : am_ok X U G own cc nL) (h0 : am_st0 U G) {C n d : String} (h : vx_Zq C n d (fun q => (am_s0 U).heap.size ≤ q) (am_s0 U) (am_s0 U).heap) : vx_Zq C n d (fun q => (am_s0 U).heap.size ≤ q) (am_gs G) (am_gs G).heap :=
  vx_Zq.moved ok.2.2.2.2.2.1.alike (h.kept (fun a ha _ => h0.2 a ha))
theorem am_vaS (h0 : am_st0 U G) (hH : am_H X U V H) (hz : (am_gs G).heap.size ≤ H.size) (hlo : ∀ q ∈ locs, (am_s0 U).heap.size ≤ q.base) (A : Nat → Prop) (hA : A = fun q => (am_s0 U).heap.size ≤ q) : va_S A (am_gs G).heap H locs := by
  subst hA
  refine ⟨hz, fun q hq hn => ?_, hlo⟩
  have hlt : q < (am_s0 U).heap.size := Nat.lt_of_not_le hn
  rw [hH.2.2 q hlt, h0.2 q hlt]
set_option maxHeartbeats 4000000 in
theorem AW.throwS {rm : Room} {ik is ic : Nat} {cls text : String} {names : List String} (ok : am_ok X U G own cc nL) (h0 : am_st0 U G) (hex : ∀ x ∈ (am_gc G).exceptionTable.toList, False) (hth : am_th X own ik is ic cls text names)
    (d0 : decode cc pc = .ok (.new ik, 3)) (d3 : decode cc (pc + 3) = .ok (.dup, 1)) (d4 : decode cc (pc + 4) = .ok (.ldc is, 2)) (d6 : decode cc (pc + 6) = .ok (.invokespecial ic, 3)) (d9 : decode cc (pc + 9) = .ok (.athrow, 1))
    (hRf : names.length + 3 < (am_gR G).frames) (hRl : (st.map fun v => v.category).sum + (13 * (names.length + 1) + 43) ≤ (am_gR G).locals) (hRc : kc + 1 ≤ (am_gR G).cells) (hRs : ks + 6 ≤ (am_gR G).slots) (hc : kc + 1 ≤ rm.cells) (hs : ks + 6 ≤ rm.slots) :
    AW X U G nL kc ks V (am_End X U G rm (.inr cls) V) pc L st := by
  intro H locs ls hH hz hlo hl
  obtain ⟨t1, t2, t3, t4, t5, t6, t7⟩ := hth
  have hts := ok.2.2.2.2.1
  obtain ⟨sa, hsa⟩ := am_ok.str ok t7
  exact vx_throwS (A := fun q => (am_s0 U).heap.size ≤ q) ok.1 ok.2.1 ok.2.2.2.2.2.2.2.2 ok.2.2.2.1 t5 t6 (hts _ t1) (hts _ t2) hsa (fun w hw => (t3 w hw).elim (hts w) (am_ok.NS ok)) t4 (am_Zq ok h0 ok.2.2.2.2.2.2.1.1.2.2.2.2.1) (am_Zq ok h0 ok.2.2.2.2.2.2.1.1.2.2.2.2.2.1) (am_vaS h0 hH hz hlo _ rfl) (hl.1.trans ok.2.2.1.symm)
    d0 d3 d4 d6 d9 (fun x hx => (hex x hx).elim) hRf (by rw [am_cat]; exact hRl) hRc hRs ok.2.2.2.2.2.2.2.1 (fun t _ hsz hq => ⟨rfl, hH.grow hsz hq, Nat.le_trans hz hsz⟩) hlo hc hs
set_option maxHeartbeats 4000000 in
theorem AW.throwSW {rm : Room} {ik is ic : Nat} {cls text : String} {names : List String} (ok : am_ok X U G own cc nL) (h0 : am_st0 U G) (hex : ∀ x ∈ (am_gc G).exceptionTable.toList, False) (hth : am_th X own ik is ic cls text names)
    (d0 : decode cc pc = .ok (.new ik, 3)) (d3 : decode cc (pc + 3) = .ok (.dup, 1)) (d4 : decode cc (pc + 4) = .ok (.ldc_w is, 3)) (d7 : decode cc (pc + 7) = .ok (.invokespecial ic, 3)) (d10 : decode cc (pc + 10) = .ok (.athrow, 1))
    (hRf : names.length + 3 < (am_gR G).frames) (hRl : (st.map fun v => v.category).sum + (13 * (names.length + 1) + 43) ≤ (am_gR G).locals) (hRc : kc + 1 ≤ (am_gR G).cells) (hRs : ks + 6 ≤ (am_gR G).slots) (hc : kc + 1 ≤ rm.cells) (hs : ks + 6 ≤ rm.slots) :
    AW X U G nL kc ks V (am_End X U G rm (.inr cls) V) pc L st := by
  intro H locs ls hH hz hlo hl
  obtain ⟨t1, t2, t3, t4, t5, t6, t7⟩ := hth
  have hts := ok.2.2.2.2.1
  obtain ⟨sa, hsa⟩ := am_ok.str ok t7
  exact vx_throwSW (A := fun q => (am_s0 U).heap.size ≤ q) ok.1 ok.2.1 ok.2.2.2.2.2.2.2.2 ok.2.2.2.1 t5 t6 (hts _ t1) (hts _ t2) hsa (fun w hw => (t3 w hw).elim (hts w) (am_ok.NS ok)) t4 (am_Zq ok h0 ok.2.2.2.2.2.2.1.1.2.2.2.2.1) (am_Zq ok h0 ok.2.2.2.2.2.2.1.1.2.2.2.2.2.1) (am_vaS h0 hH hz hlo _ rfl) (hl.1.trans ok.2.2.1.symm)
    d0 d3 d4 d7 d10 (fun x hx => (hex x hx).elim) hRf (by rw [am_cat]; exact hRl) hRc hRs ok.2.2.2.2.2.2.2.1 (fun t _ hsz hq => ⟨rfl, hH.grow hsz hq, Nat.le_trans hz hsz⟩) hlo hc hs
end AME
end
section
/-! ===== AM7: constants, switches, floats, statics, Math, arraycopy, handlers ===== -/
section AMF
variable {X : am_X} {U : am_U} {G : am_G} {own : String} {cc : ByteArray} {nL kc ks pc pc' : Nat} {V V1 : am_V} {Q : State → Prop} {L L' : List (Option Value)} {st st' : List Value} {H : Heap} {locs : List Loc} {ls : Array Slot}
theorem AW.ldcI {index : Nat} {v : Int32} (ok : am_ok X U G own cc nL) (hw : Jvm.Cond.constant own index v ∈ am_WS X) (hdg : decode cc pc = .ok (.ldc index, 2)) (kk : AW X U G nL kc ks V Q (pc + 2) L (.int v :: st)) : AW X U G nL kc ks V Q pc L st :=
  fun H locs ls hH hz hlo hl => lv_ldc ok.1 ok.2.1 ok.2.2.2.1 (ok.2.2.2.2.1 _ hw) hdg (kk H locs ls hH hz hlo hl)
theorem AW.ldcwI {index : Nat} {v : Int32} (ok : am_ok X U G own cc nL) (hw : Jvm.Cond.constant own index v ∈ am_WS X) (hdg : decode cc pc = .ok (.ldc_w index, 3)) (kk : AW X U G nL kc ks V Q (pc + 3) L (.int v :: st)) : AW X U G nL kc ks V Q pc L st :=
  fun H locs ls hH hz hlo hl => lv_ldcw ok.1 ok.2.1 ok.2.2.2.1 (ok.2.2.2.2.1 _ hw) hdg (kk H locs ls hH hz hlo hl)
theorem AW.ldcF {index : Nat} {v : UInt32} (ok : am_ok X U G own cc nL) (hw : Jvm.Cond.constantFloat own index v ∈ am_WS X) (hdg : decode cc pc = .ok (.ldc index, 2)) (kk : AW X U G nL kc ks V Q (pc + 2) L (.float v :: st)) : AW X U G nL kc ks V Q pc L st :=
  fun H locs ls hH hz hlo hl => lv_ldcf ok.1 ok.2.1 ok.2.2.2.1 (ok.2.2.2.2.1 _ hw) hdg (kk H locs ls hH hz hlo hl)
theorem AW.ldcL {index : Nat} {v : Int64} (ok : am_ok X U G own cc nL) (hw : Jvm.Cond.constantLong own index v ∈ am_WS X) (hdg : decode cc pc = .ok (.ldc2_w index, 3)) (kk : AW X U G nL kc ks V Q (pc + 3) L (.long v :: st)) : AW X U G nL kc ks V Q pc L st :=
  fun H locs ls hH hz hlo hl => lv_ldc2 ok.1 ok.2.1 ok.2.2.2.1 (ok.2.2.2.2.1 _ hw) hdg (kk H locs ls hH hz hlo hl)
theorem AW.ldcD {index : Nat} {v : UInt64} (ok : am_ok X U G own cc nL) (hw : Jvm.Cond.constantDouble own index v ∈ am_WS X) (hdg : decode cc pc = .ok (.ldc2_w index, 3)) (kk : AW X U G nL kc ks V Q (pc + 3) L (.double v :: st)) : AW X U G nL kc ks V Q pc L st :=
  fun H locs ls hH hz hlo hl => lv_ldc2d ok.1 ok.2.1 ok.2.2.2.1 (ok.2.2.2.2.1 _ hw) hdg (kk H locs ls hH hz hlo hl)
theorem AW.fc0 (ok : am_ok X U G own cc nL) (hdg : decode cc pc = .ok (.fconst 0, 1)) (kk : AW X U G nL kc ks V Q (pc + 1) L (.float FP.fconst0 :: st)) : AW X U G nL kc ks V Q pc L st :=
  fun H locs ls hH hz hlo hl => lv_fconst0 ok.1 ok.2.1 hdg (kk H locs ls hH hz hlo hl)
theorem AW.fc1 (ok : am_ok X U G own cc nL) (hdg : decode cc pc = .ok (.fconst 1, 1)) (kk : AW X U G nL kc ks V Q (pc + 1) L (.float FP.fconst1 :: st)) : AW X U G nL kc ks V Q pc L st :=
  fun H locs ls hH hz hlo hl => lv_fconst1 ok.1 ok.2.1 hdg (kk H locs ls hH hz hlo hl)
theorem AW.fc2 (ok : am_ok X U G own cc nL) (hdg : decode cc pc = .ok (.fconst 2, 1)) (kk : AW X U G nL kc ks V Q (pc + 1) L (.float FP.fconst2 :: st)) : AW X U G nL kc ks V Q pc L st :=
  fun H locs ls hH hz hlo hl => lv_fconst2 ok.1 ok.2.1 hdg (kk H locs ls hH hz hlo hl)
theorem AW.fmul {x y : UInt32} (ok : am_ok X U G own cc nL) (hne : vf_n32 (FP.fmul x y)) (hdg : decode cc pc = .ok (.fmul, 1)) (kk : AW X U G nL kc ks V Q (pc + 1) L (.float (FP.fmul x y) :: st)) : AW X U G nL kc ks V Q pc L (.float y :: .float x :: st) :=
  fun H locs ls hH hz hlo hl => lv_fmul ok.1 ok.2.1 hdg hne (kk H locs ls hH hz hlo hl)
theorem AW.fdiv {x y : UInt32} (ok : am_ok X U G own cc nL) (hne : vf_n32 (FP.fdiv x y)) (hdg : decode cc pc = .ok (.fdiv, 1)) (kk : AW X U G nL kc ks V Q (pc + 1) L (.float (FP.fdiv x y) :: st)) : AW X U G nL kc ks V Q pc L (.float y :: .float x :: st) :=
  fun H locs ls hH hz hlo hl => lv_fdiv ok.1 ok.2.1 hdg hne (kk H locs ls hH hz hlo hl)
theorem AW.fsub {x y : UInt32} (ok : am_ok X U G own cc nL) (hne : vf_n32 (FP.fsub x y)) (hdg : decode cc pc = .ok (.fsub, 1)) (kk : AW X U G nL kc ks V Q (pc + 1) L (.float (FP.fsub x y) :: st)) : AW X U G nL kc ks V Q pc L (.float y :: .float x :: st) :=
  fun H locs ls hH hz hlo hl => lv_fsub ok.1 ok.2.1 hdg hne (kk H locs ls hH hz hlo hl)
theorem AW.ddiv {x y : UInt64} (ok : am_ok X U G own cc nL) (hne : vf_n64 (FP.ddiv x y)) (hdg : decode cc pc = .ok (.ddiv, 1)) (kk : AW X U G nL kc ks V Q (pc + 1) L (.double (FP.ddiv x y) :: st)) : AW X U G nL kc ks V Q pc L (.double y :: .double x :: st) :=
  fun H locs ls hH hz hlo hl => lv_ddiv ok.1 ok.2.1 hdg hne (kk H locs ls hH hz hlo hl)
theorem AW.f2i {x : UInt32} (ok : am_ok X U G own cc nL) (hdg : decode cc pc = .ok (.f2i, 1)) (kk : AW X U G nL kc ks V Q (pc + 1) L (.int (FP.f2i x) :: st)) : AW X U G nL kc ks V Q pc L (.float x :: st) :=
  fun H locs ls hH hz hlo hl => lv_f2i ok.1 ok.2.1 hdg (kk H locs ls hH hz hlo hl)
theorem AW.irem {x y : Int32} (ok : am_ok X U G own cc nL) (hne : ¬ y = 0) (hdg : decode cc pc = .ok (.irem, 1)) (kk : AW X U G nL kc ks V Q (pc + 1) L (.int (x - x / y * y) :: st)) : AW X U G nL kc ks V Q pc L (.int y :: .int x :: st) :=
  fun H locs ls hH hz hlo hl => t_irem ok.1 ok.2.1 hdg hne rfl (kk H locs ls hH hz hlo hl)
theorem AW.ifnonnull {off : Int} {c : Nat} (ok : am_ok X U G own cc nL) (tgt : Nat) (hdg : decode cc pc = .ok (.ifnonnull off, 3)) (ht : (pc : Int) + off = (tgt : Int)) (kk : AW X U G nL kc ks V Q tgt L st) : AW X U G nL kc ks V Q pc L (.ref c :: st) :=
  fun H locs ls hH hz hlo hl => lv_ifnonnull ok.1 ok.2.1 hdg ht (kk H locs ls hH hz hlo hl)
theorem AW.ifnull {off : Int} {c : Nat} (ok : am_ok X U G own cc nL) (hdg : decode cc pc = .ok (.ifnull off, 3)) (kk : AW X U G nL kc ks V Q (pc + 3) L st) : AW X U G nL kc ks V Q pc L (.ref c :: st) :=
  fun H locs ls hH hz hlo hl => lv_ifnull ok.1 ok.2.1 hdg (kk H locs ls hH hz hlo hl)
theorem AW.tswIn {dflt lo hi off : Int} {offs : Array Int} {len : Nat} {x : Int32} (ok : am_ok X U G own cc nL) (tgt : Nat) (hdg : decode cc pc = .ok (.tableswitch dflt lo hi offs, len)) (h1 : ¬ x.toInt < lo) (h2 : ¬ hi < x.toInt) (ho : offs[(x.toInt - lo).toNat]? = some off) (ht : (pc : Int) + off = (tgt : Int)) (kk : AW X U G nL kc ks V Q tgt L st) : AW X U G nL kc ks V Q pc L (.int x :: st) :=
  fun H locs ls hH hz hlo hl => lv_tableIn ok.1 ok.2.1 hdg h1 h2 ho ht (kk H locs ls hH hz hlo hl)
theorem AW.tswOut {dflt lo hi : Int} {offs : Array Int} {len : Nat} {x : Int32} (ok : am_ok X U G own cc nL) (tgt : Nat) (hdg : decode cc pc = .ok (.tableswitch dflt lo hi offs, len)) (h : x.toInt < lo ∨ hi < x.toInt) (ht : (pc : Int) + dflt = (tgt : Int)) (kk : AW X U G nL kc ks V Q tgt L st) : AW X U G nL kc ks V Q pc L (.int x :: st) :=
  fun H locs ls hH hz hlo hl => lv_tableOut ok.1 ok.2.1 hdg h ht (kk H locs ls hH hz hlo hl)
theorem AW.alen {c t n : Nat} {b : Bool ⊕ (Nat → Int32 → Option Nat)} (ok : am_ok X U G own cc nL) (hsh : am_sh X c = some (.inr (t, n, b))) (ht : t < 8) (hdg : decode cc pc = .ok (.arraylength, 1)) (kk : AW X U G nL kc ks V Q (pc + 1) L (.int (Int32.ofNat n) :: st)) : AW X U G nL kc ks V Q pc L (.ref c :: st) := by
  intro H locs ls hH hz hlo hl
  have hA := am_ok.A ok ht
  have hP := am_one (hH.1 c _ hsh)
  have hK2 : va_K (am_D U) (am_cl X) [(am_dA U t, am_tA X t)] (am_gs G) := ⟨(am_ok.K ok).1, fun k q hk => by
    have hz : k < 1 := (List.getElem?_eq_some_iff.mp hk).1
    rw [show k = 0 by omega] at hk
    cases hk
    exact ⟨hA, am_ok.RA ok ht⟩⟩
  rcases b with (_ | _) | g
  · exact va_alen (v := Int32.ofNat n) ok.1 ok.2.1 hK2 hP 0 0 rfl rfl rfl hdg (kk H locs ls hH hz hlo hl)
  · exact va_alen (v := Int32.ofNat n) ok.1 ok.2.1 hK2 hP 0 0 rfl rfl rfl hdg (kk H locs ls hH hz hlo hl)
  · exact va_alen (v := Int32.ofNat n) ok.1 ok.2.1 hK2 hP 0 0 rfl rfl rfl hdg (kk H locs ls hH hz hlo hl)
theorem AW.bald {c t n : Nat} {i : Int32} (ok : am_ok X U G own cc nL) (hsh : am_sh X c = some (.inr (t, n, .inl false))) (ht : t < 8) (hty : am_tA X t = .byte) (hin : vp_in i n) (hdg : decode cc pc = .ok (.baload, 1))
    (kk : AW X U G nL kc ks V Q (pc + 1) L (.int (V c i.toNatClampNeg) :: st)) : AW X U G nL kc ks V Q pc L (.int i :: .ref c :: st) := by
  intro H locs ls hH hz hlo hl
  have hA := am_ok.A ok ht
  rw [hty] at hA
  have hlt : i.toNatClampNeg < n := Nat.not_le.mp fun q => hin (Or.inr q)
  exact W.bald (v := .int (V c i.toNatClampNeg)) ok.1 ok.2.1 (hH.1 c _ hsh) (hA n (fun j => .int (V c j))) (fun q => by cases q) (by show ¬ (i < 0 ∨ (arrV _ _ _).slots.size ≤ _); rw [arrV_size]; exact hin) (by show (arrV _ _ _).slots[_]? = _; rw [arrV_read _ _ hlt]) rfl rfl hdg (kk H locs ls hH hz hlo hl)
/-- a static field that nobody writes -/
theorem AW.gets {C n d : String} {v : Value} {index : Nat} (ok : am_ok X U G own cc nL) (h0 : am_st0 U G) (hx : (C, n, d, v) ∈ am_SF X) (hw : Cond.fieldLink own index C n d ∈ am_WS X) (hdg : decode cc pc = .ok (.getstatic index, 3)) (kk : AW X U G nL kc ks V Q (pc + 3) L (v :: st)) : AW X U G nL kc ks V Q pc L st := by
  intro H locs ls hH hz hlo hl
  have hZ : va_Z C n d (am_v (am_ad U) v) (fun q => (am_s0 U).heap.size ≤ q) (am_gs G) (am_gs G).heap := va_Z.moved ok.2.2.2.2.2.1.alike ((ok.2.2.2.2.2.2.1.1.2.2.2.2.2.2 _ hx).kept (fun a ha _ => h0.2 a ha))
  exact va_gets ok.1 ok.2.1 hZ (am_vaS h0 hH hz hlo _ rfl) ok.2.2.2.1 (ok.2.2.2.2.1 _ hw) (fun _ h9 => h9) hdg (kk H locs ls hH hz hlo hl)
theorem AW.getsN {C n d host : String} {v : Value} {index : Nat} (ok : am_ok X U G own cc nL) (h0 : am_st0 U G) (hx : (C, n, d, v) ∈ am_SF X) (hw : Cond.fieldLinkNest own index C n d host ∈ am_NS X) (hdg : decode cc pc = .ok (.getstatic index, 3)) (kk : AW X U G nL kc ks V Q (pc + 3) L (v :: st)) : AW X U G nL kc ks V Q pc L st := by
  intro H locs ls hH hz hlo hl
  have hZ : va_Z C n d (am_v (am_ad U) v) (fun q => (am_s0 U).heap.size ≤ q) (am_gs G) (am_gs G).heap := va_Z.moved ok.2.2.2.2.2.1.alike ((ok.2.2.2.2.2.2.1.1.2.2.2.2.2.2 _ hx).kept (fun a ha _ => h0.2 a ha))
  exact va_getsN ok.1 ok.2.1 hZ (am_vaS h0 hH hz hlo _ rfl) ok.2.2.2.1 (am_ok.NS ok hw) (fun _ h9 => h9) hdg (kk H locs ls hH hz hlo hl)
/-- Math.min, Math.max -/
def am_mm (X : am_X) (own : String) (index : Nat) (y : MethodName) (b : ByteArray) : Prop := Cond.methodLink own index y ∈ am_WS X ∧ Cond.static y ∈ am_WS X ∧ Cond.initialized "java/lang/Math" ∈ am_WS X ∧ Cond.code y b 2 (some .int) ∈ am_WS X
theorem AW.mmin {index : Nat} {x y : Int32} (ok : am_ok X U G own cc nL) (hw : am_mm X own index Lib.Math.min.name Lib.Math.min.code) (hf : 1 ≤ (am_gR G).frames) (hlo9 : (st.map fun v => v.category).sum + 13 ≤ (am_gR G).locals) (hc : kc ≤ (am_gR G).cells) (hs : ks ≤ (am_gR G).slots) (hdg : decode cc pc = .ok (.invokestatic index, 3))
    (kk : AW X U G nL kc ks V Q (pc + 3) L (.int (if y < x then y else x) :: st)) : AW X U G nL kc ks V Q pc L (.int y :: .int x :: st) := by
  intro H locs ls hH hz hlo hl
  have hts := ok.2.2.2.2.1
  exact va_mmin ok.1 ok.2.1 (ok.2.2.1.trans hl.1.symm) ok.2.2.2.1 (hts _ hw.1) (hts _ hw.2.1) (hts _ hw.2.2.1) (hts _ hw.2.2.2) hf (by rw [am_cat]; exact hlo9) hc hs hdg (kk H locs ls hH hz hlo hl)
theorem AW.mmax {index : Nat} {x y : Int32} (ok : am_ok X U G own cc nL) (hw : am_mm X own index Lib.Math.max.name Lib.Math.max.code) (hf : 1 ≤ (am_gR G).frames) (hlo9 : (st.map fun v => v.category).sum + 13 ≤ (am_gR G).locals) (hc : kc ≤ (am_gR G).cells) (hs : ks ≤ (am_gR G).slots) (hdg : decode cc pc = .ok (.invokestatic index, 3))
    (kk : AW X U G nL kc ks V Q (pc + 3) L (.int (if x < y then y else x) :: st)) : AW X U G nL kc ks V Q pc L (.int y :: .int x :: st) := by
  intro H locs ls hH hz hlo hl
  have hts := ok.2.2.2.2.1
  exact va_mmax ok.1 ok.2.1 (ok.2.2.1.trans hl.1.symm) ok.2.2.2.1 (hts _ hw.1) (hts _ hw.2.1) (hts _ hw.2.2.1) (hts _ hw.2.2.2) hf (by rw [am_cat]; exact hlo9) hc hs hdg (kk H locs ls hH hz hlo hl)
end AMF
end
section
/-! ===== AM8: arraycopy of numbers; handlers ===== -/
def am_row (V : am_V) (c : Nat) (f : Nat → Int32) : am_V := fun d => if d = c then f else V d
theorem am_row_at (V : am_V) (c : Nat) (f : Nat → Int32) : am_row V c f c = f := if_pos rfl
theorem am_row_ne (V : am_V) {c d : Nat} (f : Nat → Int32) (h : d ≠ c) : am_row V c f d = V d := if_neg h
def am_ac (X : am_X) (own : String) (index : Nat) : Prop := Cond.methodLink own index arraycopyName ∈ am_WS X ∧ Cond.native arraycopyName ∈ am_WS X ∧ Cond.static arraycopyName ∈ am_WS X ∧ Cond.initialized "java/lang/System" ∈ am_WS X
section AMI
variable {X : am_X} {U : am_U} {G : am_G} {own : String} {cc : ByteArray} {nL kc ks pc pc' : Nat} {V V1 : am_V} {Q : State → Prop} {L L' : List (Option Value)} {st st' : List Value} {H : Heap} {locs : List Loc} {ls : Array Slot}
theorem am_locsL {N0 : Nat} {locs L9 : List Loc} (h : ∀ q ∈ locs, N0 ≤ q.base) (h2 : ∀ q ∈ L9, N0 ≤ q.base) : ∀ q ∈ locs ++ L9, N0 ≤ q.base := fun q hq => (List.mem_append.mp hq).elim (h q) (h2 q)
set_option maxHeartbeats 4000000 in
theorem AW.copy {index c0 c1 t n0 n1 : Nat} {sp dp n : Int32} (ok : am_ok X U G own cc nL) (hw : am_ac X own index) (hs0 : am_sh X c0 = some (.inr (t, n0, .inl false))) (hs1 : am_sh X c1 = some (.inr (t, n1, .inl false))) (hw1 : am_wr X c1 = true) (ht : t < 8) (hty : am_tA X t = .int)
    (h1 : ¬ sp < 0) (h2 : ¬ dp < 0) (h3 : ¬ n < 0) (h4 : sp.toNatClampNeg + n.toNatClampNeg ≤ n0) (h5 : dp.toNatClampNeg + n.toNatClampNeg ≤ n1) (hframes : 1 ≤ (am_gR G).frames) (hlocals : (st.map fun v => v.category).sum + (nativeFrameWords "java/lang/System" "arraycopy" 5 + 11) ≤ (am_gR G).locals) (hdg : decode cc pc = .ok (.invokestatic index, 3))
    (kk : AW X U G nL kc ks (am_row V c1 (va_cpy (V c0) (V c1) sp.toNatClampNeg dp.toNatClampNeg n.toNatClampNeg)) Q (pc + 3) L st) : AW X U G nL kc ks V Q pc L (.int n :: .int dp :: .ref c1 :: .int sp :: .ref c0 :: st) := by
  intro H locs ls hH hz hlo hl
  have nn : ∀ z : Int32, ¬ z < 0 → z.toInt = (z.toNatClampNeg : Int) := by
    intro z hz
    have hz0 : (0 : Int) ≤ z.toInt := by
      have := Int32.not_lt.mp hz
      simpa using Int32.le_iff_toInt_le.mp this
    show z.toInt = ((z.toInt.toNat : Nat) : Int)
    omega
  have hA := am_ok.A ok ht
  rw [hty] at hA
  have hts := ok.2.2.2.2.1
  intro T hT XX
  have hc0 : H[am_ad U c0]? = some (vp_cell (am_dA U t) (n0, .inl (V c0))) := hH.1 c0 _ hs0
  have hc1 : H[am_ad U c1]? = some (vp_cell (am_dA U t) (n1, .inl (V c1))) := hH.1 c1 _ hs1
  obtain ⟨-, k0, hk0, cm0, hkk0⟩ := hA n0 (fun j => .int (V c0 j))
  obtain ⟨-, k1, hk1, cm1, hkk1⟩ := hA n1 (fun j => .int (V c1 j))
  obtain ⟨vm', X', step⟩ := XX.arraycopy ok.1 ok.2.2.2.1 (hts _ hw.1) (hts _ hw.2.1) (hts _ hw.2.2.1) (hts _ hw.2.2.2) (src := am_ad U c0) (dst := am_ad U c1) (cs := vp_cell (am_dA U t) (n0, .inl (V c0))) (cd := vp_cell (am_dA U t) (n1, .inl (V c1))) (srcPos := sp) (destPos := dp) (n := n) (by rw [hT]; exact hc0) (by rw [hT]; exact hc1)
    (fun _ h => by cases h) (fun _ h => by cases h) (fun h => by cases h) (fun h => by cases h) hk0 hk1 hkk0 hkk1 (by simp [refKind]) h1 h2 h3
    (by rw [nn sp h1, nn n h3]; show ¬ _ > ((arrV (am_dA U t) n0 (fun j => .int (V c0 j))).slots.size : Int); rw [arrV_size]; omega)
    (by rw [nn dp h2, nn n h3]; show ¬ _ > ((arrV (am_dA U t) n1 (fun j => .int (V c1 j))).slots.size : Int); rw [arrV_size]; omega)
    (fun vm₁ _ i hi => by
      have e : (vp_cell (am_dA U t) (n0, .inl (V c0))).slots.getD (sp.toNatClampNeg + i) .null = .int (V c0 (sp.toNatClampNeg + i)) := by
        show (arrV (am_dA U t) n0 (fun j => .int (V c0 j))).slots.getD _ _ = _
        rw [Array.getD_eq_getD_getElem?, arrV_read _ _ (by omega)]
        rfl
      refine ⟨?_, ?_⟩
      · rw [e]
        rfl
      · rw [e]
        exact trivial)
    (g := F0 (am_gm G) pc ls (.int n :: .int dp :: .ref (am_ad U c1) :: .int sp :: .ref (am_ad U c0) :: st.map (am_v (am_ad U)))) rfl (by rw [ok.2.2.1]; exact hl.1) (rest := st.map (am_v (am_ad U))) rfl (by rw [ok.2.1]; exact hdg) hframes (by rw [← am_cat (am_ad U)] at hlocals; show 2 * 0 + _ + _ ≤ _; omega)
  have e1 : copied (vp_cell (am_dA U t) (n0, .inl (V c0))) (vp_cell (am_dA U t) (n1, .inl (V c1))) sp dp n = vp_cell (am_dA U t) (n1, .inl (va_cpy (V c0) (V c1) sp.toNatClampNeg dp.toNatClampNeg n.toNatClampNeg)) := va_copied (fun z => .int z) _ _ _ _ h4
  rw [e1] at X' step
  have hl9 : am_ad U c1 < H.size := (Array.getElem?_eq_some_iff.mp hc1).1
  generalize hF : va_cpy (V c0) (V c1) sp.toNatClampNeg dp.toNatClampNeg n.toNatClampNeg = F at X' step kk
  have hheap : ((T.setVm vm').setCell (am_ad U c1) (vp_cell (am_dA U t) (n1, .inl F))).heap = H.setIfInBounds (am_ad U c1) (vp_cell (am_dA U t) (n1, .inl F)) := by rw [← hT]; rfl
  have oq : ∀ q : Nat, q ≠ am_ad U c1 → (H.setIfInBounds (am_ad U c1) (vp_cell (am_dA U t) (n1, .inl F)))[q]? = H[q]? := fun q hq => by simp [Array.getElem?_setIfInBounds, Ne.symm hq]
  have hat : va_at (am_D U) (am_cl X) (am_ad U c1, am_e (am_dA U) (am_ad U) F (.inr (t, n1, .inl false))) (H.setIfInBounds (am_ad U c1) (vp_cell (am_dA U t) (n1, .inl F))) := by
    show (H.setIfInBounds (am_ad U c1) _)[am_ad U c1]? = some _
    simp [Array.getElem?_setIfInBounds, hl9]
  have hHn := am_H.put (V1 := am_row V c1 F) ok.2.2.2.2.2.2.1 hH hs1 hw1 (am_row_at V c1 F) (fun d hd => am_row_ne V F hd) hat (by simp) oq
  obtain ⟨t9, a1, b1⟩ := kk _ _ ls hHn (by simp; exact hz) (am_locsL hlo (fun q hq => by
      obtain ⟨z, -, hz2⟩ := List.mem_map.mp hq
      rw [← hz2]
      exact ok.2.2.2.2.2.2.1.2.2.2.2 c1 _ hs1 hw1)) hl _ hheap X'
  exact ⟨t9, step t9 a1, b1⟩
/-! handlers: the frame that catches, its first row an astore -/
theorem am_store0 {ad : Nat → Nat} {nL : Nat} {L : List (Option Value)} {ls : Array Slot} {i : Nat} {w : Value} (h : am_l ad nL L ls) (hi : i < nL) (hc : w.category = 1) (hok : am_ok1 L i = true) :
    ∃ ls', storeLocals ls i w = some ls' ∧ am_l ad nL (L.set i none) ls' := by
  obtain ⟨h1, h2, h3⟩ := h
  obtain ⟨ls', e, h4⟩ := lv_store1 (l := []) (v := w) ⟨h1, h2, fun q hq => by cases hq⟩ hi hc
  refine ⟨ls', e, h4.1, h4.2.1, fun j v hw => ?_⟩
  rcases am_get_set L i j _ v hw with ⟨rfl, hv⟩ | ⟨hj, hg⟩
  · cases hv
  · obtain ⟨ls2, e2, h5⟩ := lv_store1 (l := [(j, am_v ad v)]) (v := w) ⟨h1, h2, fun q hq => by
      rw [List.mem_singleton.mp hq]
      exact h3 j v hg⟩ hi hc
    cases e.symm.trans e2
    refine h5.2.2 (j, am_v ad v) (List.mem_cons_of_mem _ (List.mem_filter.mpr ⟨List.mem_singleton.mpr rfl, ?_⟩))
    have hne : (j == i) = false := by simpa using hj
    have h6 : (j + 1 == i && (am_v ad v).category == 2) = false := by
      by_cases e1 : j + 1 = i
      · subst e1
        have h8 : (match am_get L j with | some v => v.category == 1 | none => true) = true := hok
        rw [hg] at h8
        simp [am_v_cat, eq_of_beq h8]
      · simp [e1]
    simp [hne, h6]
/-- a row of a method's table of handlers passes an exception of class E by: it doesn't cover the place, or names a class that E isn't -/
def am_hp (X : am_X) (own E : String) (pc : Nat) (z : ExceptionTableEntry) : Prop := covers z pc = false ∨ (z.catchType ≠ 0 ∧ ∃ nm : String, Cond.classLink own z.catchType nm ∈ am_WS X ∧ (E, nm) ∈ am_NC X)
theorem AX.catch {E name : String} {k : Nat} {n : Nat} (ok : am_ok X U G own cc nL) (pre : List ExceptionTableEntry) (x : ExceptionTableEntry) (suf : List ExceptionTableEntry) (hsplit : (am_gc G).exceptionTable.toList = pre ++ x :: suf) (hpass : ∀ z ∈ pre, am_hp X own E pc z) (hx : covers x pc = true) (h0 : x.catchType ≠ 0)
    (hlink : Cond.classLink own x.catchType name ∈ am_WS X) (hcast : Cond.castable E name ∈ am_NS X) (hk : k < nL) (hok : am_ok1 L k = true) (hd : (∃ q : Fin 4, q.val = k ∧ n = 1 ∧ decode cc x.handlerPc = .ok (.astore_n q, 1)) ∨ (n = 2 ∧ decode cc x.handlerPc = .ok (.astore k, 2)))
    (kk : AW X U G nL kc ks V Q (x.handlerPc + n) (L.set k none) []) : AX X U G nL kc ks V Q E pc L := by
  intro H locs ls rest q ce hH hz hlo hl hq hv hcl
  refine vx_catch ok.2.2.2.1 pre x suf hsplit (fun z hz => ?_) hx h0 (ok.2.2.2.2.1 _ hlink) (am_ok.NS ok hcast) hq hv hcl ?_
  · rcases hpass z hz with h | ⟨h1, nm, h2, h3⟩
    · exact Or.inl h
    · exact Or.inr ⟨h1, nm, ok.2.2.2.2.1 _ h2, am_ok.NC ok h3⟩
  · obtain ⟨ls', e', h'⟩ := am_store0 (w := .ref q) hl hk rfl hok
    have k2 := kk H locs ls' hH hz hlo h'
    rcases hd with ⟨q9, rfl, rfl, hdg⟩ | ⟨rfl, hdg⟩
    · intro T hT XX
      obtain ⟨t, a, b⟩ := k2 T hT XX
      refine ⟨t, ?_, b⟩
      have hx1 := ok.1
      have hb1 := ok.2.1
      jvm_step XX.here [XX.here.top, ↓top_set XX.here.top, hx1, hb1, hdg, e', Value.isRef]
      exact a
    · intro T hT XX
      obtain ⟨t, a, b⟩ := k2 T hT XX
      refine ⟨t, ?_, b⟩
      have hx1 := ok.1
      have hb1 := ok.2.1
      jvm_step XX.here [XX.here.top, ↓top_set XX.here.top, hx1, hb1, hdg, e', Value.isRef]
      exact a
end AMI
/-- the contract of a method with handlers -/
def am_CtW (X : am_X) (U : am_U) (l : Launch) (y : MethodName) (b : ByteArray) (nL : Nat) (ret : Option FieldType) (hh : List (Nat × Nat × Nat × Nat)) (rm : Room) (As : List Value) (V : am_V) (res : Option Value ⊕ String) (V' : am_V) : Prop :=
  vx_Met l y (Cond.codeWith y b nL ret hh :: am_WS X) rm (fun v S => v = (As.map (am_v (am_ad U))).toArray ∧ am_St X U V S) (am_Qc X U res V') (am_XC X U res V') rm.cells rm.slots (am_fr U)
set_option maxHeartbeats 4000000 in
theorem am_CtW.of {X : am_X} {U : am_U} {l : Launch} {y : MethodName} {b : ByteArray} {nL : Nat} {ret : Option FieldType} {hh : List (Nat × Nat × Nat × Nat)} {rm : Room} {As : List Value} {V : am_V} {res : Option Value ⊕ String} {V' : am_V} (hb : am_base X U) (hfl : l.stackTraces = false) (hy : plainName y.cls = true) (hlen : (As.map Value.category).sum ≤ nL)
    (body : ∀ G : am_G, am_gl G = l → am_gR G = rm → (am_gt G).sig.returnType = ret → am_ok X U G y.cls b nL → am_st0 U G → (am_gc G).exceptionTable.toList = tableOf hh → AW X U G nL 0 0 V (am_End X U G rm res V') 0 (am_L0 nL As) []) : am_CtW X U l y b nL ret hh rm As V res V' := by
  refine vx_ofWH (cc := b) (maxL := nL) (ret := ret) (hh := hh) hy rfl ?_
  intro p e s m args below meth c s₁ B hml hv
  obtain ⟨rfl, hH, hW⟩ := hv
  have hts := atoms_spec (ws := Cond.codeWith y b nL ret hh :: am_WS X) B.pre
  have hown : s.vm.findClass y.cls = some m.cls := findClass_of_methodNamed B.named
  have hex := vx_table (x := y) B (hts _ List.mem_cons_self)
  have ok : am_ok X U (l, p, e, rm, s, m, (As.map (am_v (am_ad U))).toArray, below, meth, c) y.cls b nL := ⟨B.exec, B.bytes, hml, hown, fun w hw => hts w (List.mem_cons_of_mem _ hw), hW, hb, B.notSynchronized, hfl⟩
  have h1 := body (l, p, e, rm, s, m, (As.map (am_v (am_ad U))).toArray, below, meth, c) rfl rfl B.returns ok hH.2 hex
  rw [lg_entry_eq]
  have he := lv_entry (As.map (am_v (am_ad U))) (n := nL) (by rw [am_sl]; exact hlen)
  exact h1 s.heap [] _ hH (Nat.le_refl _) (fun q hq => by cases hq) ⟨he.1, he.2.1, fun i v hi => by
    have h2 := am_args (am_ad U) As nL 0 i v hi
    rw [Nat.zero_add] at h2
    exact he.2.2 _ h2⟩
end
section
/-! names, fields: rows of claim/NAMES.whole.lean.txt, as it prints them -/
def RX0 : String := "DandelionBroadcast$1"
def TX0 : u_T := fun k => match k with
  | _ => ("", "", "", false)
def tyX0 : Nat → FieldType := fun k => match k with
  | _ => .int
abbrev wsX00 : List Cond := u_ws RX0 TX0 0
theorem nmX0 : ∀ a, a < 0 → ∀ b, b < 0 → a ≠ b → (TX0 a).2.1 ≠ (TX0 b).2.1 := by decide +kernel
theorem tyX0_ok : ∀ k, k < 0 → parseFieldDescriptor (TX0 k).2.2.1 = some (tyX0 k) := by decide +kernel
def RX1 : String := "DandelionBroadcast$Cast"
def TX1 : u_T := fun k => match k with
  | 0 => ("DandelionBroadcast$Cast", "held", "[I", true)
  | 1 => ("DandelionBroadcast$Cast", "started", "I", false)
  | 2 => ("DandelionBroadcast$Cast", "running", "Z", false)
  | 3 => ("DandelionBroadcast$Cast", "origin", "I", false)
  | 4 => ("DandelionBroadcast$Cast", "data", "I", false)
  | 5 => ("DandelionBroadcast$Cast", "parity", "Z", false)
  | 6 => ("DandelionBroadcast$Cast", "blown", "I", false)
  | _ => ("DandelionBroadcast$Cast", "seed", "I", false)
def tyX1 : Nat → FieldType := fun k => match k with
  | 0 => .array .int
  | 1 => .int
  | 2 => .boolean
  | 3 => .int
  | 4 => .int
  | 5 => .boolean
  | 6 => .int
  | _ => .int
abbrev wsX10 : List Cond := u_ws RX1 TX1 8
theorem nmX1 : ∀ a, a < 8 → ∀ b, b < 8 → a ≠ b → (TX1 a).2.1 ≠ (TX1 b).2.1 := by decide +kernel
theorem tyX1_ok : ∀ k, k < 8 → parseFieldDescriptor (TX1 k).2.2.1 = some (tyX1 k) := by decide +kernel
abbrev cX1_init : ByteArray := prog_3_method_1_code
def yX1_init : MethodName := ⟨RX1, "<init>", "()V"⟩
abbrev cX1_packetTotal : ByteArray := prog_3_method_2_code
def yX1_packetTotal : MethodName := ⟨RX1, "packetTotal", "()I"⟩
abbrev cX1_allPackets : ByteArray := prog_3_method_3_code
def yX1_allPackets : MethodName := ⟨RX1, "allPackets", "()I"⟩
abbrev cX1_covers : ByteArray := prog_3_method_4_code
def yX1_covers : MethodName := ⟨RX1, "covers", "(I)Z"⟩
abbrev cX1_copyFrom : ByteArray := prog_3_method_5_code
def yX1_copyFrom : MethodName := ⟨RX1, "copyFrom", "(LDandelionBroadcast$Cast;)V"⟩
def RX2 : String := "DandelionBroadcast$Changer"
def TX2 : u_T := fun k => match k with
  | 0 => ("DandelionBroadcast$Changer", "reason", "I", false)
  | _ => ("DandelionBroadcast$Changer", "detail", "I", false)
def tyX2 : Nat → FieldType := fun k => match k with
  | 0 => .int
  | _ => .int
abbrev wsX20 : List Cond := u_ws RX2 TX2 2
theorem nmX2 : ∀ a, a < 2 → ∀ b, b < 2 → a ≠ b → (TX2 a).2.1 ≠ (TX2 b).2.1 := by decide +kernel
theorem tyX2_ok : ∀ k, k < 2 → parseFieldDescriptor (TX2 k).2.2.1 = some (tyX2 k) := by decide +kernel
abbrev cX2_init : ByteArray := prog_4_method_1_code
def yX2_init : MethodName := ⟨RX2, "<init>", "()V"⟩
abbrev cX2_reject : ByteArray := prog_4_method_2_code
def yX2_reject : MethodName := ⟨RX2, "reject", "(II)I"⟩
abbrev cX2_isDigit : ByteArray := prog_4_method_3_code
def yX2_isDigit : MethodName := ⟨RX2, "isDigit", "(I)Z"⟩
abbrev cX2_appendField : ByteArray := prog_4_method_4_code
def yX2_appendField : MethodName := ⟨RX2, "appendField", "(LDandelionBroadcast$State;I)I"⟩
abbrev cX2_replaceShield : ByteArray := prog_4_method_5_code
def yX2_replaceShield : MethodName := ⟨RX2, "replaceShield", "(LDandelionBroadcast$State;II)I"⟩
abbrev cX2_appendPath : ByteArray := prog_4_method_6_code
def yX2_appendPath : MethodName := ⟨RX2, "appendPath", "(LDandelionBroadcast$State;IIII)I"⟩
abbrev cX2_replaceGust : ByteArray := prog_4_method_7_code
def yX2_replaceGust : MethodName := ⟨RX2, "replaceGust", "(LDandelionBroadcast$State;II)I"⟩
abbrev cX2_replaceBlocked : ByteArray := prog_4_method_8_code
def yX2_replaceBlocked : MethodName := ⟨RX2, "replaceBlocked", "(LDandelionBroadcast$State;IZ)I"⟩
abbrev cX2_replaceSeed : ByteArray := prog_4_method_9_code
def yX2_replaceSeed : MethodName := ⟨RX2, "replaceSeed", "(LDandelionBroadcast$State;I)I"⟩
abbrev cX2_beginBroadcast : ByteArray := prog_4_method_10_code
def yX2_beginBroadcast : MethodName := ⟨RX2, "beginBroadcast", "(LDandelionBroadcast$State;IIZ)I"⟩
abbrev cX2_letBlowOnce : ByteArray := prog_4_method_11_code
def yX2_letBlowOnce : MethodName := ⟨RX2, "letBlowOnce", "(LDandelionBroadcast$State;LDandelionBroadcast$Winds;)I"⟩
abbrev cX2_letBlowToEnd : ByteArray := prog_4_method_12_code
def yX2_letBlowToEnd : MethodName := ⟨RX2, "letBlowToEnd", "(LDandelionBroadcast$State;LDandelionBroadcast$Winds;)I"⟩
abbrev cX2_stopBroadcast : ByteArray := prog_4_method_13_code
def yX2_stopBroadcast : MethodName := ⟨RX2, "stopBroadcast", "(LDandelionBroadcast$State;)I"⟩
def RX3 : String := "DandelionBroadcast$Commands"
def TX3 : u_T := fun k => match k with
  | 0 => ("DandelionBroadcast$Commands", "kinds", "[LDandelionBroadcast$Kind;", true)
  | 1 => ("DandelionBroadcast$Commands", "values", "[[I", true)
  | 2 => ("DandelionBroadcast$Commands", "total", "I", false)
  | 3 => ("DandelionBroadcast$Commands", "length", "I", false)
  | 4 => ("DandelionBroadcast$Commands", "text", "[C", true)
  | _ => ("DandelionBroadcast$Commands", "at", "I", false)
def tyX3 : Nat → FieldType := fun k => match k with
  | 0 => .array (.object "DandelionBroadcast$Kind")
  | 1 => .array (.array .int)
  | 2 => .int
  | 3 => .int
  | 4 => .array .char
  | _ => .int
abbrev wsX30 : List Cond := u_ws RX3 TX3 6
theorem nmX3 : ∀ a, a < 6 → ∀ b, b < 6 → a ≠ b → (TX3 a).2.1 ≠ (TX3 b).2.1 := by decide +kernel
theorem tyX3_ok : ∀ k, k < 6 → parseFieldDescriptor (TX3 k).2.2.1 = some (tyX3 k) := by decide +kernel
abbrev cX3_init : ByteArray := prog_5_method_1_code
def yX3_init : MethodName := ⟨RX3, "<init>", "()V"⟩
abbrev cX3_append : ByteArray := prog_5_method_2_code
def yX3_append : MethodName := ⟨RX3, "append", "(C)V"⟩
abbrev cX3_read : ByteArray := prog_5_method_3_code
def yX3_read : MethodName := ⟨RX3, "read", "()I"⟩
abbrev cX3_readAll : ByteArray := prog_5_method_4_code
def yX3_readAll : MethodName := ⟨RX3, "readAll", "()I"⟩
abbrev cX3_readCommand : ByteArray := prog_5_method_5_code
def yX3_readCommand : MethodName := ⟨RX3, "readCommand", "(I)Z"⟩
abbrev cX3_takeShape : ByteArray := prog_5_method_6_code
def yX3_takeShape : MethodName := ⟨RX3, "takeShape", "(Ljava/lang/String;[I)Z"⟩
abbrev cX3_takeValue : ByteArray := prog_5_method_7_code
def yX3_takeValue : MethodName := ⟨RX3, "takeValue", "(C)I"⟩
abbrev cX3_takeSign : ByteArray := prog_5_method_8_code
def yX3_takeSign : MethodName := ⟨RX3, "takeSign", "(C)Z"⟩
abbrev cX3_takeDigits : ByteArray := prog_5_method_9_code
def yX3_takeDigits : MethodName := ⟨RX3, "takeDigits", "(I)I"⟩
def RX4 : String := "DandelionBroadcast$History"
def TX4 : u_T := fun k => match k with
  | 0 => ("DandelionBroadcast$History", "slots", "[LDandelionBroadcast$State;", true)
  | 1 => ("DandelionBroadcast$History", "next", "I", false)
  | _ => ("DandelionBroadcast$History", "kept", "I", false)
def tyX4 : Nat → FieldType := fun k => match k with
  | 0 => .array (.object "DandelionBroadcast$State")
  | 1 => .int
  | _ => .int
abbrev wsX40 : List Cond := u_ws RX4 TX4 3
theorem nmX4 : ∀ a, a < 3 → ∀ b, b < 3 → a ≠ b → (TX4 a).2.1 ≠ (TX4 b).2.1 := by decide +kernel
theorem tyX4_ok : ∀ k, k < 3 → parseFieldDescriptor (TX4 k).2.2.1 = some (tyX4 k) := by decide +kernel
abbrev cX4_init : ByteArray := prog_6_method_1_code
def yX4_init : MethodName := ⟨RX4, "<init>", "()V"⟩
abbrev cX4_note : ByteArray := prog_6_method_2_code
def yX4_note : MethodName := ⟨RX4, "note", "(LDandelionBroadcast$State;)V"⟩
abbrev cX4_noted : ByteArray := prog_6_method_3_code
def yX4_noted : MethodName := ⟨RX4, "noted", "()LDandelionBroadcast$State;"⟩
abbrev cX4_keep : ByteArray := prog_6_method_4_code
def yX4_keep : MethodName := ⟨RX4, "keep", "()V"⟩
abbrev cX4_stepBack : ByteArray := prog_6_method_5_code
def yX4_stepBack : MethodName := ⟨RX4, "stepBack", "(LDandelionBroadcast$State;)V"⟩
abbrev cX4_forget : ByteArray := prog_6_method_6_code
def yX4_forget : MethodName := ⟨RX4, "forget", "()V"⟩
def RX5 : String := "DandelionBroadcast$Kind"
def TX5 : u_T := fun k => match k with
  | _ => ("", "", "", false)
def tyX5 : Nat → FieldType := fun k => match k with
  | _ => .int
abbrev wsX50 : List Cond := u_ws RX5 TX5 0
theorem nmX5 : ∀ a, a < 0 → ∀ b, b < 0 → a ≠ b → (TX5 a).2.1 ≠ (TX5 b).2.1 := by decide +kernel
theorem tyX5_ok : ∀ k, k < 0 → parseFieldDescriptor (TX5 k).2.2.1 = some (tyX5 k) := by decide +kernel
def RX6 : String := "DandelionBroadcast$Net"
def TX6 : u_T := fun k => match k with
  | 0 => ("DandelionBroadcast$Net", "shields", "[I", true)
  | 1 => ("DandelionBroadcast$Net", "firsts", "[I", true)
  | 2 => ("DandelionBroadcast$Net", "seconds", "[I", true)
  | 3 => ("DandelionBroadcast$Net", "costs", "[I", true)
  | 4 => ("DandelionBroadcast$Net", "gusts", "[I", true)
  | 5 => ("DandelionBroadcast$Net", "closed", "I", false)
  | 6 => ("DandelionBroadcast$Net", "fieldTotal", "I", false)
  | _ => ("DandelionBroadcast$Net", "pathTotal", "I", false)
def tyX6 : Nat → FieldType := fun k => match k with
  | 0 => .array .int
  | 1 => .array .int
  | 2 => .array .int
  | 3 => .array .int
  | 4 => .array .int
  | 5 => .int
  | 6 => .int
  | _ => .int
abbrev wsX60 : List Cond := u_ws RX6 TX6 8
theorem nmX6 : ∀ a, a < 8 → ∀ b, b < 8 → a ≠ b → (TX6 a).2.1 ≠ (TX6 b).2.1 := by decide +kernel
theorem tyX6_ok : ∀ k, k < 8 → parseFieldDescriptor (TX6 k).2.2.1 = some (tyX6 k) := by decide +kernel
abbrev cX6_init : ByteArray := prog_8_method_1_code
def yX6_init : MethodName := ⟨RX6, "<init>", "()V"⟩
abbrev cX6_hasField : ByteArray := prog_8_method_2_code
def yX6_hasField : MethodName := ⟨RX6, "hasField", "(I)Z"⟩
abbrev cX6_hasPath : ByteArray := prog_8_method_3_code
def yX6_hasPath : MethodName := ⟨RX6, "hasPath", "(I)Z"⟩
abbrev cX6_isOpen : ByteArray := prog_8_method_4_code
def yX6_isOpen : MethodName := ⟨RX6, "isOpen", "(I)Z"⟩
abbrev cX6_closedTotal : ByteArray := prog_8_method_5_code
def yX6_closedTotal : MethodName := ⟨RX6, "closedTotal", "()I"⟩
abbrev cX6_endsOf : ByteArray := prog_8_method_6_code
def yX6_endsOf : MethodName := ⟨RX6, "endsOf", "(I)I"⟩
abbrev cX6_farEnd : ByteArray := prog_8_method_7_code
def yX6_farEnd : MethodName := ⟨RX6, "farEnd", "(II)I"⟩
abbrev cX6_pathBetween : ByteArray := prog_8_method_8_code
def yX6_pathBetween : MethodName := ⟨RX6, "pathBetween", "(II)I"⟩
abbrev cX6_dangerOf : ByteArray := prog_8_method_9_code
def yX6_dangerOf : MethodName := ⟨RX6, "dangerOf", "(II)I"⟩
abbrev cX6_copyFrom : ByteArray := prog_8_method_10_code
def yX6_copyFrom : MethodName := ⟨RX6, "copyFrom", "(LDandelionBroadcast$Net;)V"⟩
def RX7 : String := "DandelionBroadcast$SpreadTree"
def TX7 : u_T := fun k => match k with
  | 0 => ("DandelionBroadcast$SpreadTree", "parents", "[I", true)
  | 1 => ("DandelionBroadcast$SpreadTree", "pathsUp", "[I", true)
  | 2 => ("DandelionBroadcast$SpreadTree", "depths", "[I", true)
  | 3 => ("DandelionBroadcast$SpreadTree", "chances", "[F", true)
  | _ => ("DandelionBroadcast$SpreadTree", "labels", "[I", true)
def tyX7 : Nat → FieldType := fun k => match k with
  | 0 => .array .int
  | 1 => .array .int
  | 2 => .array .int
  | 3 => .array .float
  | _ => .array .int
abbrev wsX70 : List Cond := u_ws RX7 TX7 5
theorem nmX7 : ∀ a, a < 5 → ∀ b, b < 5 → a ≠ b → (TX7 a).2.1 ≠ (TX7 b).2.1 := by decide +kernel
theorem tyX7_ok : ∀ k, k < 5 → parseFieldDescriptor (TX7 k).2.2.1 = some (tyX7 k) := by decide +kernel
abbrev cX7_init : ByteArray := prog_9_method_1_code
def yX7_init : MethodName := ⟨RX7, "<init>", "()V"⟩
abbrev cX7_grow : ByteArray := prog_9_method_2_code
def yX7_grow : MethodName := ⟨RX7, "grow", "(LDandelionBroadcast$Net;I)V"⟩
abbrev cX7_firstPathOut : ByteArray := prog_9_method_3_code
def yX7_firstPathOut : MethodName := ⟨RX7, "firstPathOut", "(LDandelionBroadcast$Net;)I"⟩
abbrev cX7_attach : ByteArray := prog_9_method_4_code
def yX7_attach : MethodName := ⟨RX7, "attach", "(LDandelionBroadcast$Net;I)V"⟩
abbrev cX7_costGrown : ByteArray := prog_9_method_5_code
def yX7_costGrown : MethodName := ⟨RX7, "costGrown", "(LDandelionBroadcast$Net;I)I"⟩
abbrev cX7_chooseInOrder : ByteArray := prog_9_method_6_code
def yX7_chooseInOrder : MethodName := ⟨RX7, "chooseInOrder", "(LDandelionBroadcast$Net;I)I"⟩
abbrev cX7_joinLabels : ByteArray := prog_9_method_7_code
def yX7_joinLabels : MethodName := ⟨RX7, "joinLabels", "(LDandelionBroadcast$Net;I)Z"⟩
abbrev cX7_onlyAround : ByteArray := prog_9_method_8_code
def yX7_onlyAround : MethodName := ⟨RX7, "onlyAround", "(LDandelionBroadcast$Net;II)I"⟩
abbrev cX7_costInOrder : ByteArray := prog_9_method_9_code
def yX7_costInOrder : MethodName := ⟨RX7, "costInOrder", "(LDandelionBroadcast$Net;I)I"⟩
def RX8 : String := "DandelionBroadcast$State"
def TX8 : u_T := fun k => match k with
  | 0 => ("DandelionBroadcast$State", "net", "LDandelionBroadcast$Net;", true)
  | 1 => ("DandelionBroadcast$State", "cast", "LDandelionBroadcast$Cast;", true)
  | 2 => ("DandelionBroadcast$State", "uses", "[I", true)
  | 3 => ("DandelionBroadcast$State", "sent", "I", false)
  | 4 => ("DandelionBroadcast$State", "lost", "I", false)
  | 5 => ("DandelionBroadcast$State", "rebuilt", "I", false)
  | 6 => ("DandelionBroadcast$State", "spent", "I", false)
  | 7 => ("DandelionBroadcast$State", "finished", "I", false)
  | _ => ("DandelionBroadcast$State", "failed", "I", false)
def tyX8 : Nat → FieldType := fun k => match k with
  | 0 => .object "DandelionBroadcast$Net"
  | 1 => .object "DandelionBroadcast$Cast"
  | 2 => .array .int
  | 3 => .int
  | 4 => .int
  | 5 => .int
  | 6 => .int
  | 7 => .int
  | _ => .int
abbrev wsX80 : List Cond := u_ws RX8 TX8 9
theorem nmX8 : ∀ a, a < 9 → ∀ b, b < 9 → a ≠ b → (TX8 a).2.1 ≠ (TX8 b).2.1 := by decide +kernel
theorem tyX8_ok : ∀ k, k < 9 → parseFieldDescriptor (TX8 k).2.2.1 = some (tyX8 k) := by decide +kernel
abbrev cX8_init : ByteArray := prog_10_method_1_code
def yX8_init : MethodName := ⟨RX8, "<init>", "()V"⟩
abbrev cX8_fieldsAheadOf : ByteArray := prog_10_method_2_code
def yX8_fieldsAheadOf : MethodName := ⟨RX8, "fieldsAheadOf", "(I)I"⟩
abbrev cX8_fieldIsAhead : ByteArray := prog_10_method_3_code
def yX8_fieldIsAhead : MethodName := ⟨RX8, "fieldIsAhead", "(II)Z"⟩
abbrev cX8_pathsAheadOf : ByteArray := prog_10_method_4_code
def yX8_pathsAheadOf : MethodName := ⟨RX8, "pathsAheadOf", "(I)I"⟩
abbrev cX8_pathIsAhead : ByteArray := prog_10_method_5_code
def yX8_pathIsAhead : MethodName := ⟨RX8, "pathIsAhead", "(II)Z"⟩
abbrev cX8_totalsAgree : ByteArray := prog_10_method_6_code
def yX8_totalsAgree : MethodName := ⟨RX8, "totalsAgree", "()Z"⟩
abbrev cX8_copyFrom : ByteArray := prog_10_method_7_code
def yX8_copyFrom : MethodName := ⟨RX8, "copyFrom", "(LDandelionBroadcast$State;)V"⟩
def RX9 : String := "DandelionBroadcast$Ways"
def TX9 : u_T := fun k => match k with
  | 0 => ("DandelionBroadcast$Ways", "costs", "[I", true)
  | 1 => ("DandelionBroadcast$Ways", "flows", "[I", true)
  | 2 => ("DandelionBroadcast$Ways", "arrivals", "[I", true)
  | 3 => ("DandelionBroadcast$Ways", "numbers", "[I", true)
  | 4 => ("DandelionBroadcast$Ways", "earliest", "[I", true)
  | 5 => ("DandelionBroadcast$Ways", "nextPaths", "[I", true)
  | _ => ("DandelionBroadcast$Ways", "numbered", "I", false)
def tyX9 : Nat → FieldType := fun k => match k with
  | 0 => .array .int
  | 1 => .array .int
  | 2 => .array .int
  | 3 => .array .int
  | 4 => .array .int
  | 5 => .array .int
  | _ => .int
abbrev wsX90 : List Cond := u_ws RX9 TX9 7
theorem nmX9 : ∀ a, a < 7 → ∀ b, b < 7 → a ≠ b → (TX9 a).2.1 ≠ (TX9 b).2.1 := by decide +kernel
theorem tyX9_ok : ∀ k, k < 7 → parseFieldDescriptor (TX9 k).2.2.1 = some (tyX9 k) := by decide +kernel
abbrev cX9_init : ByteArray := prog_11_method_1_code
def yX9_init : MethodName := ⟨RX9, "<init>", "()V"⟩
abbrev cX9_groupAround : ByteArray := prog_11_method_2_code
def yX9_groupAround : MethodName := ⟨RX9, "groupAround", "(LDandelionBroadcast$Net;II)I"⟩
abbrev cX9_countGroups : ByteArray := prog_11_method_3_code
def yX9_countGroups : MethodName := ⟨RX9, "countGroups", "(LDandelionBroadcast$Net;I)I"⟩
abbrev cX9_cheapestByVisiting : ByteArray := prog_11_method_4_code
def yX9_cheapestByVisiting : MethodName := ⟨RX9, "cheapestByVisiting", "(LDandelionBroadcast$Net;II)I"⟩
abbrev cX9_startCosts : ByteArray := prog_11_method_5_code
def yX9_startCosts : MethodName := ⟨RX9, "startCosts", "(I)V"⟩
abbrev cX9_nearestOutside : ByteArray := prog_11_method_6_code
def yX9_nearestOutside : MethodName := ⟨RX9, "nearestOutside", "(LDandelionBroadcast$Net;I)I"⟩
abbrev cX9_lowerAround : ByteArray := prog_11_method_7_code
def yX9_lowerAround : MethodName := ⟨RX9, "lowerAround", "(LDandelionBroadcast$Net;I)V"⟩
abbrev cX9_cheapestByLowering : ByteArray := prog_11_method_8_code
def yX9_cheapestByLowering : MethodName := ⟨RX9, "cheapestByLowering", "(LDandelionBroadcast$Net;II)I"⟩
abbrev cX9_mostDisjoint : ByteArray := prog_11_method_9_code
def yX9_mostDisjoint : MethodName := ⟨RX9, "mostDisjoint", "(LDandelionBroadcast$Net;II)I"⟩
abbrev cX9_addWay : ByteArray := prog_11_method_10_code
def yX9_addWay : MethodName := ⟨RX9, "addWay", "(LDandelionBroadcast$Net;II)Z"⟩
abbrev cX9_reachByFlows : ByteArray := prog_11_method_11_code
def yX9_reachByFlows : MethodName := ⟨RX9, "reachByFlows", "(LDandelionBroadcast$Net;I)I"⟩
abbrev cX9_fewestLeaving : ByteArray := prog_11_method_12_code
def yX9_fewestLeaving : MethodName := ⟨RX9, "fewestLeaving", "(LDandelionBroadcast$Net;II)I"⟩
abbrev cX9_countLeaving : ByteArray := prog_11_method_13_code
def yX9_countLeaving : MethodName := ⟨RX9, "countLeaving", "(LDandelionBroadcast$Net;I)I"⟩
abbrev cX9_partsGroups : ByteArray := prog_11_method_14_code
def yX9_partsGroups : MethodName := ⟨RX9, "partsGroups", "(LDandelionBroadcast$Net;I)Z"⟩
abbrev cX9_countBridgesByGroups : ByteArray := prog_11_method_15_code
def yX9_countBridgesByGroups : MethodName := ⟨RX9, "countBridgesByGroups", "(LDandelionBroadcast$Net;)I"⟩
abbrev cX9_countBridgesByWalk : ByteArray := prog_11_method_16_code
def yX9_countBridgesByWalk : MethodName := ⟨RX9, "countBridgesByWalk", "(LDandelionBroadcast$Net;)I"⟩
abbrev cX9_countBridgesFrom : ByteArray := prog_11_method_17_code
def yX9_countBridgesFrom : MethodName := ⟨RX9, "countBridgesFrom", "(LDandelionBroadcast$Net;I)I"⟩
abbrev cX9_enter : ByteArray := prog_11_method_18_code
def yX9_enter : MethodName := ⟨RX9, "enter", "(II)V"⟩
abbrev cX9_takePath : ByteArray := prog_11_method_19_code
def yX9_takePath : MethodName := ⟨RX9, "takePath", "(LDandelionBroadcast$Net;I)I"⟩
def RX10 : String := "DandelionBroadcast$Winds"
def TX10 : u_T := fun k => match k with
  | _ => ("DandelionBroadcast$Winds", "tree", "LDandelionBroadcast$SpreadTree;", true)
def tyX10 : Nat → FieldType := fun k => match k with
  | _ => .object "DandelionBroadcast$SpreadTree"
abbrev wsX100 : List Cond := u_ws RX10 TX10 1
theorem nmX10 : ∀ a, a < 1 → ∀ b, b < 1 → a ≠ b → (TX10 a).2.1 ≠ (TX10 b).2.1 := by decide +kernel
theorem tyX10_ok : ∀ k, k < 1 → parseFieldDescriptor (TX10 k).2.2.1 = some (tyX10 k) := by decide +kernel
abbrev cX10_init : ByteArray := prog_12_method_1_code
def yX10_init : MethodName := ⟨RX10, "<init>", "()V"⟩
abbrev cX10_blowOnce : ByteArray := prog_12_method_2_code
def yX10_blowOnce : MethodName := ⟨RX10, "blowOnce", "(LDandelionBroadcast$State;)I"⟩
abbrev cX10_sendDown : ByteArray := prog_12_method_3_code
def yX10_sendDown : MethodName := ⟨RX10, "sendDown", "(LDandelionBroadcast$State;I)I"⟩
abbrev cX10_arrives : ByteArray := prog_12_method_4_code
def yX10_arrives : MethodName := ⟨RX10, "arrives", "(LDandelionBroadcast$State;I)Z"⟩
abbrev cX10_rebuildMissing : ByteArray := prog_12_method_5_code
def yX10_rebuildMissing : MethodName := ⟨RX10, "rebuildMissing", "(LDandelionBroadcast$State;)V"⟩
abbrev cX10_endIfDue : ByteArray := prog_12_method_6_code
def yX10_endIfDue : MethodName := ⟨RX10, "endIfDue", "(LDandelionBroadcast$State;)V"⟩
abbrev cX10_coversTree : ByteArray := prog_12_method_7_code
def yX10_coversTree : MethodName := ⟨RX10, "coversTree", "(LDandelionBroadcast$State;)Z"⟩
def RX11 : String := "DandelionBroadcast"
def TX11 : u_T := fun k => match k with
  | 0 => ("DandelionBroadcast", "now", "LDandelionBroadcast$State;", true)
  | 1 => ("DandelionBroadcast", "foreseen", "LDandelionBroadcast$State;", true)
  | 2 => ("DandelionBroadcast", "snapshot", "LDandelionBroadcast$State;", true)
  | 3 => ("DandelionBroadcast", "history", "LDandelionBroadcast$History;", true)
  | 4 => ("DandelionBroadcast", "ways", "LDandelionBroadcast$Ways;", true)
  | 5 => ("DandelionBroadcast", "tree", "LDandelionBroadcast$SpreadTree;", true)
  | 6 => ("DandelionBroadcast", "winds", "LDandelionBroadcast$Winds;", true)
  | 7 => ("DandelionBroadcast", "changer", "LDandelionBroadcast$Changer;", true)
  | 8 => ("DandelionBroadcast", "commands", "LDandelionBroadcast$Commands;", true)
  | 9 => ("DandelionBroadcast", "output", "[C", true)
  | 10 => ("DandelionBroadcast", "outputLength", "I", false)
  | 11 => ("DandelionBroadcast", "snapshotSaved", "Z", false)
  | 12 => ("DandelionBroadcast", "latestReason", "I", false)
  | 13 => ("DandelionBroadcast", "latestDetail", "I", false)
  | 14 => ("DandelionBroadcast", "latestCause", "I", false)
  | _ => ("DandelionBroadcast", "latestSyntaxError", "I", false)
def tyX11 : Nat → FieldType := fun k => match k with
  | 0 => .object "DandelionBroadcast$State"
  | 1 => .object "DandelionBroadcast$State"
  | 2 => .object "DandelionBroadcast$State"
  | 3 => .object "DandelionBroadcast$History"
  | 4 => .object "DandelionBroadcast$Ways"
  | 5 => .object "DandelionBroadcast$SpreadTree"
  | 6 => .object "DandelionBroadcast$Winds"
  | 7 => .object "DandelionBroadcast$Changer"
  | 8 => .object "DandelionBroadcast$Commands"
  | 9 => .array .char
  | 10 => .int
  | 11 => .boolean
  | 12 => .int
  | 13 => .int
  | 14 => .int
  | _ => .int
abbrev wsX110 : List Cond := u_ws RX11 TX11 16
theorem nmX11 : ∀ a, a < 16 → ∀ b, b < 16 → a ≠ b → (TX11 a).2.1 ≠ (TX11 b).2.1 := by decide +kernel
theorem tyX11_ok : ∀ k, k < 16 → parseFieldDescriptor (TX11 k).2.2.1 = some (tyX11 k) := by decide +kernel
abbrev cX11_init : ByteArray := prog_1_method_1_code
def yX11_init : MethodName := ⟨RX11, "<init>", "()V"⟩
abbrev cX11_addField : ByteArray := prog_1_method_2_code
def yX11_addField : MethodName := ⟨RX11, "addField", "(I)I"⟩
abbrev cX11_setShield : ByteArray := prog_1_method_3_code
def yX11_setShield : MethodName := ⟨RX11, "setShield", "(II)I"⟩
abbrev cX11_addPath : ByteArray := prog_1_method_4_code
def yX11_addPath : MethodName := ⟨RX11, "addPath", "(IIII)I"⟩
abbrev cX11_setGust : ByteArray := prog_1_method_5_code
def yX11_setGust : MethodName := ⟨RX11, "setGust", "(II)I"⟩
abbrev cX11_setBlocked : ByteArray := prog_1_method_6_code
def yX11_setBlocked : MethodName := ⟨RX11, "setBlocked", "(IZ)I"⟩
abbrev cX11_fieldCount : ByteArray := prog_1_method_7_code
def yX11_fieldCount : MethodName := ⟨RX11, "fieldCount", "()I"⟩
abbrev cX11_pathCount : ByteArray := prog_1_method_8_code
def yX11_pathCount : MethodName := ⟨RX11, "pathCount", "()I"⟩
abbrev cX11_shieldOf : ByteArray := prog_1_method_9_code
def yX11_shieldOf : MethodName := ⟨RX11, "shieldOf", "(I)I"⟩
abbrev cX11_firstOf : ByteArray := prog_1_method_10_code
def yX11_firstOf : MethodName := ⟨RX11, "firstOf", "(I)I"⟩
abbrev cX11_secondOf : ByteArray := prog_1_method_11_code
def yX11_secondOf : MethodName := ⟨RX11, "secondOf", "(I)I"⟩
abbrev cX11_costOf : ByteArray := prog_1_method_12_code
def yX11_costOf : MethodName := ⟨RX11, "costOf", "(I)I"⟩
abbrev cX11_gustOf : ByteArray := prog_1_method_13_code
def yX11_gustOf : MethodName := ⟨RX11, "gustOf", "(I)I"⟩
abbrev cX11_isBlocked : ByteArray := prog_1_method_14_code
def yX11_isBlocked : MethodName := ⟨RX11, "isBlocked", "(I)Z"⟩
abbrev cX11_groupCount : ByteArray := prog_1_method_15_code
def yX11_groupCount : MethodName := ⟨RX11, "groupCount", "()I"⟩
abbrev cX11_isConnected : ByteArray := prog_1_method_16_code
def yX11_isConnected : MethodName := ⟨RX11, "isConnected", "(II)Z"⟩
abbrev cX11_wayCost : ByteArray := prog_1_method_17_code
def yX11_wayCost : MethodName := ⟨RX11, "wayCost", "(II)I"⟩
abbrev cX11_wayCostByRounds : ByteArray := prog_1_method_18_code
def yX11_wayCostByRounds : MethodName := ⟨RX11, "wayCostByRounds", "(II)I"⟩
abbrev cX11_disjointWays : ByteArray := prog_1_method_19_code
def yX11_disjointWays : MethodName := ⟨RX11, "disjointWays", "(II)I"⟩
abbrev cX11_smallestCut : ByteArray := prog_1_method_20_code
def yX11_smallestCut : MethodName := ⟨RX11, "smallestCut", "(II)I"⟩
abbrev cX11_isBridge : ByteArray := prog_1_method_21_code
def yX11_isBridge : MethodName := ⟨RX11, "isBridge", "(I)Z"⟩
abbrev cX11_bridgeCount : ByteArray := prog_1_method_22_code
def yX11_bridgeCount : MethodName := ⟨RX11, "bridgeCount", "()I"⟩
abbrev cX11_bridgeCountByBlocking : ByteArray := prog_1_method_23_code
def yX11_bridgeCountByBlocking : MethodName := ⟨RX11, "bridgeCountByBlocking", "()I"⟩
abbrev cX11_treeCost : ByteArray := prog_1_method_24_code
def yX11_treeCost : MethodName := ⟨RX11, "treeCost", "(I)I"⟩
abbrev cX11_treeCostByGrowing : ByteArray := prog_1_method_25_code
def yX11_treeCostByGrowing : MethodName := ⟨RX11, "treeCostByGrowing", "(I)I"⟩
abbrev cX11_isInTree : ByteArray := prog_1_method_26_code
def yX11_isInTree : MethodName := ⟨RX11, "isInTree", "(II)Z"⟩
abbrev cX11_parentIn : ByteArray := prog_1_method_27_code
def yX11_parentIn : MethodName := ⟨RX11, "parentIn", "(II)I"⟩
abbrev cX11_reachChance : ByteArray := prog_1_method_28_code
def yX11_reachChance : MethodName := ⟨RX11, "reachChance", "(II)F"⟩
abbrev cX11_setSeed : ByteArray := prog_1_method_29_code
def yX11_setSeed : MethodName := ⟨RX11, "setSeed", "(I)I"⟩
abbrev cX11_startBroadcast : ByteArray := prog_1_method_30_code
def yX11_startBroadcast : MethodName := ⟨RX11, "startBroadcast", "(IIZ)I"⟩
abbrev cX11_wind : ByteArray := prog_1_method_31_code
def yX11_wind : MethodName := ⟨RX11, "wind", "()I"⟩
abbrev cX11_windUntilEnd : ByteArray := prog_1_method_32_code
def yX11_windUntilEnd : MethodName := ⟨RX11, "windUntilEnd", "()I"⟩
abbrev cX11_abort : ByteArray := prog_1_method_33_code
def yX11_abort : MethodName := ⟨RX11, "abort", "()I"⟩
abbrev cX11_isBroadcasting : ByteArray := prog_1_method_34_code
def yX11_isBroadcasting : MethodName := ⟨RX11, "isBroadcasting", "()Z"⟩
abbrev cX11_source : ByteArray := prog_1_method_35_code
def yX11_source : MethodName := ⟨RX11, "source", "()I"⟩
abbrev cX11_hasPacket : ByteArray := prog_1_method_36_code
def yX11_hasPacket : MethodName := ⟨RX11, "hasPacket", "(II)Z"⟩
abbrev cX11_packetsOf : ByteArray := prog_1_method_37_code
def yX11_packetsOf : MethodName := ⟨RX11, "packetsOf", "(I)I"⟩
abbrev cX11_isCovered : ByteArray := prog_1_method_38_code
def yX11_isCovered : MethodName := ⟨RX11, "isCovered", "(I)Z"⟩
abbrev cX11_coveredCount : ByteArray := prog_1_method_39_code
def yX11_coveredCount : MethodName := ⟨RX11, "coveredCount", "()I"⟩
abbrev cX11_windsLeft : ByteArray := prog_1_method_40_code
def yX11_windsLeft : MethodName := ⟨RX11, "windsLeft", "()I"⟩
abbrev cX11_energyLeft : ByteArray := prog_1_method_41_code
def yX11_energyLeft : MethodName := ⟨RX11, "energyLeft", "()I"⟩
abbrev cX11_sentCount : ByteArray := prog_1_method_42_code
def yX11_sentCount : MethodName := ⟨RX11, "sentCount", "()I"⟩
abbrev cX11_lostCount : ByteArray := prog_1_method_43_code
def yX11_lostCount : MethodName := ⟨RX11, "lostCount", "()I"⟩
abbrev cX11_rebuiltCount : ByteArray := prog_1_method_44_code
def yX11_rebuiltCount : MethodName := ⟨RX11, "rebuiltCount", "()I"⟩
abbrev cX11_energy : ByteArray := prog_1_method_45_code
def yX11_energy : MethodName := ⟨RX11, "energy", "()I"⟩
abbrev cX11_finishedCount : ByteArray := prog_1_method_46_code
def yX11_finishedCount : MethodName := ⟨RX11, "finishedCount", "()I"⟩
abbrev cX11_failedCount : ByteArray := prog_1_method_47_code
def yX11_failedCount : MethodName := ⟨RX11, "failedCount", "()I"⟩
abbrev cX11_useOf : ByteArray := prog_1_method_48_code
def yX11_useOf : MethodName := ⟨RX11, "useOf", "(I)I"⟩
abbrev cX11_fieldByPackets : ByteArray := prog_1_method_49_code
def yX11_fieldByPackets : MethodName := ⟨RX11, "fieldByPackets", "(I)I"⟩
abbrev cX11_pathByUse : ByteArray := prog_1_method_50_code
def yX11_pathByUse : MethodName := ⟨RX11, "pathByUse", "(I)I"⟩
abbrev cX11_meanEnergy : ByteArray := prog_1_method_51_code
def yX11_meanEnergy : MethodName := ⟨RX11, "meanEnergy", "()D"⟩
abbrev cX11_lossShare : ByteArray := prog_1_method_52_code
def yX11_lossShare : MethodName := ⟨RX11, "lossShare", "()F"⟩
abbrev cX11_lossBits : ByteArray := prog_1_method_53_code
def yX11_lossBits : MethodName := ⟨RX11, "lossBits", "()I"⟩
abbrev cX11_isConsistent : ByteArray := prog_1_method_54_code
def yX11_isConsistent : MethodName := ⟨RX11, "isConsistent", "()Z"⟩
abbrev cX11_writeField : ByteArray := prog_1_method_55_code
def yX11_writeField : MethodName := ⟨RX11, "writeField", "(I)I"⟩
abbrev cX11_outputAt : ByteArray := prog_1_method_56_code
def yX11_outputAt : MethodName := ⟨RX11, "outputAt", "(I)C"⟩
abbrev cX11_appendInput : ByteArray := prog_1_method_57_code
def yX11_appendInput : MethodName := ⟨RX11, "appendInput", "(C)I"⟩
abbrev cX11_execute : ByteArray := prog_1_method_58_code
def yX11_execute : MethodName := ⟨RX11, "execute", "()I"⟩
abbrev cX11_syntaxErrorOffset : ByteArray := prog_1_method_59_code
def yX11_syntaxErrorOffset : MethodName := ⟨RX11, "syntaxErrorOffset", "()I"⟩
abbrev cX11_rejectionReason : ByteArray := prog_1_method_60_code
def yX11_rejectionReason : MethodName := ⟨RX11, "rejectionReason", "()I"⟩
abbrev cX11_rejectionDetail : ByteArray := prog_1_method_61_code
def yX11_rejectionDetail : MethodName := ⟨RX11, "rejectionDetail", "()I"⟩
abbrev cX11_causeReason : ByteArray := prog_1_method_62_code
def yX11_causeReason : MethodName := ⟨RX11, "causeReason", "()I"⟩
abbrev cX11_undo : ByteArray := prog_1_method_63_code
def yX11_undo : MethodName := ⟨RX11, "undo", "()I"⟩
abbrev cX11_saveSnapshot : ByteArray := prog_1_method_64_code
def yX11_saveSnapshot : MethodName := ⟨RX11, "saveSnapshot", "()I"⟩
abbrev cX11_restoreSnapshot : ByteArray := prog_1_method_65_code
def yX11_restoreSnapshot : MethodName := ⟨RX11, "restoreSnapshot", "()I"⟩
abbrev cX11_requireField : ByteArray := prog_1_method_66_code
def yX11_requireField : MethodName := ⟨RX11, "requireField", "(I)V"⟩
abbrev cX11_requirePath : ByteArray := prog_1_method_67_code
def yX11_requirePath : MethodName := ⟨RX11, "requirePath", "(I)V"⟩
abbrev cX11_requireTwoFields : ByteArray := prog_1_method_68_code
def yX11_requireTwoFields : MethodName := ⟨RX11, "requireTwoFields", "(II)V"⟩
abbrev cX11_requireStarted : ByteArray := prog_1_method_69_code
def yX11_requireStarted : MethodName := ⟨RX11, "requireStarted", "()V"⟩
abbrev cX11_requireRunning : ByteArray := prog_1_method_70_code
def yX11_requireRunning : MethodName := ⟨RX11, "requireRunning", "()V"⟩
abbrev cX11_requireSent : ByteArray := prog_1_method_71_code
def yX11_requireSent : MethodName := ⟨RX11, "requireSent", "()V"⟩
abbrev cX11_requireRejection : ByteArray := prog_1_method_72_code
def yX11_requireRejection : MethodName := ⟨RX11, "requireRejection", "()V"⟩
abbrev cX11_requireWay : ByteArray := prog_1_method_73_code
def yX11_requireWay : MethodName := ⟨RX11, "requireWay", "(I)I"⟩
abbrev cX11_settle : ByteArray := prog_1_method_74_code
def yX11_settle : MethodName := ⟨RX11, "settle", "(I)I"⟩
abbrev cX11_noteRejection : ByteArray := prog_1_method_75_code
def yX11_noteRejection : MethodName := ⟨RX11, "noteRejection", "(III)V"⟩
abbrev cX11_perform : ByteArray := prog_1_method_76_code
def yX11_perform : MethodName := ⟨RX11, "perform", "(LDandelionBroadcast$Kind;[I)I"⟩
abbrev cX11_put : ByteArray := prog_1_method_77_code
def yX11_put : MethodName := ⟨RX11, "put", "(C)V"⟩
abbrev cX11_treeCostsAgree : ByteArray := prog_1_method_78_code
def yX11_treeCostsAgree : MethodName := ⟨RX11, "treeCostsAgree", "()Z"⟩
abbrev cX11_waysAgreeWithCuts : ByteArray := prog_1_method_79_code
def yX11_waysAgreeWithCuts : MethodName := ⟨RX11, "waysAgreeWithCuts", "()Z"⟩
abbrev cX11_hasBit : ByteArray := prog_1_method_80_code
def yX11_hasBit : MethodName := ⟨RX11, "hasBit", "(II)Z"⟩
abbrev cX11_bitsOfShare : ByteArray := prog_1_method_81_code
def yX11_bitsOfShare : MethodName := ⟨RX11, "bitsOfShare", "(F)I"⟩
def RX12 : String := "DandelionBroadcastModel"
def TX12 : u_T := fun k => match k with
  | 0 => ("DandelionBroadcastModel", "thrown", "I", false)
  | 1 => ("DandelionBroadcastModel", "now", "[I", true)
  | 2 => ("DandelionBroadcastModel", "saved", "[I", true)
  | 3 => ("DandelionBroadcastModel", "before", "[I", true)
  | 4 => ("DandelionBroadcastModel", "tried", "[I", true)
  | 5 => ("DandelionBroadcastModel", "history", "[[I", true)
  | 6 => ("DandelionBroadcastModel", "labels", "[I", true)
  | 7 => ("DandelionBroadcastModel", "parents", "[I", true)
  | 8 => ("DandelionBroadcastModel", "ways", "[I", true)
  | 9 => ("DandelionBroadcastModel", "depths", "[I", true)
  | 10 => ("DandelionBroadcastModel", "costs", "[I", true)
  | 11 => ("DandelionBroadcastModel", "kept", "I", false)
  | 12 => ("DandelionBroadcastModel", "reason", "I", false)
  | 13 => ("DandelionBroadcastModel", "reasonDetail", "I", false)
  | 14 => ("DandelionBroadcastModel", "cause", "I", false)
  | 15 => ("DandelionBroadcastModel", "isSaved", "Z", false)
  | 16 => ("DandelionBroadcastModel", "isInCommands", "Z", false)
  | 17 => ("DandelionBroadcastModel", "output", "[C", true)
  | 18 => ("DandelionBroadcastModel", "written", "I", false)
  | 19 => ("DandelionBroadcastModel", "input", "[C", true)
  | 20 => ("DandelionBroadcastModel", "numbers", "[I", true)
  | 21 => ("DandelionBroadcastModel", "length", "I", false)
  | 22 => ("DandelionBroadcastModel", "at", "I", false)
  | 23 => ("DandelionBroadcastModel", "count", "I", false)
  | 24 => ("DandelionBroadcastModel", "error", "I", false)
  | 25 => ("DandelionBroadcastModel", "isWrong", "Z", false)
  | 26 => ("DandelionBroadcastModel", "isPlus", "Z", false)
  | _ => ("DandelionBroadcastModel", "command", "Ljava/lang/String;", false)
def tyX12 : Nat → FieldType := fun k => match k with
  | 0 => .int
  | 1 => .array .int
  | 2 => .array .int
  | 3 => .array .int
  | 4 => .array .int
  | 5 => .array (.array .int)
  | 6 => .array .int
  | 7 => .array .int
  | 8 => .array .int
  | 9 => .array .int
  | 10 => .array .int
  | 11 => .int
  | 12 => .int
  | 13 => .int
  | 14 => .int
  | 15 => .boolean
  | 16 => .boolean
  | 17 => .array .char
  | 18 => .int
  | 19 => .array .char
  | 20 => .array .int
  | 21 => .int
  | 22 => .int
  | 23 => .int
  | 24 => .int
  | 25 => .boolean
  | 26 => .boolean
  | _ => .object "java/lang/String"
abbrev wsX120 : List Cond := u_ws RX12 TX12 28
theorem nmX12 : ∀ a, a < 28 → ∀ b, b < 28 → a ≠ b → (TX12 a).2.1 ≠ (TX12 b).2.1 := by decide +kernel
theorem tyX12_ok : ∀ k, k < 28 → parseFieldDescriptor (TX12 k).2.2.1 = some (tyX12 k) := by decide +kernel
abbrev cX12_init : ByteArray := prog_14_method_1_code
def yX12_init : MethodName := ⟨RX12, "<init>", "()V"⟩
abbrev cX12_thrown : ByteArray := prog_14_method_2_code
def yX12_thrown : MethodName := ⟨RX12, "thrown", "()I"⟩
abbrev cX12_isBetween : ByteArray := prog_14_method_3_code
def yX12_isBetween : MethodName := ⟨RX12, "isBetween", "(III)Z"⟩
abbrev cX12_isDigit : ByteArray := prog_14_method_4_code
def yX12_isDigit : MethodName := ⟨RX12, "isDigit", "(I)Z"⟩
abbrev cX12_copyRow : ByteArray := prog_14_method_5_code
def yX12_copyRow : MethodName := ⟨RX12, "copyRow", "([I[I)V"⟩
abbrev cX12_fails : ByteArray := prog_14_method_6_code
def yX12_fails : MethodName := ⟨RX12, "fails", "(IZ)Z"⟩
abbrev cX12_rejects : ByteArray := prog_14_method_7_code
def yX12_rejects : MethodName := ⟨RX12, "rejects", "(ZII)Z"⟩
abbrev cX12_remember : ByteArray := prog_14_method_8_code
def yX12_remember : MethodName := ⟨RX12, "remember", "([I)V"⟩
abbrev cX12_change : ByteArray := prog_14_method_9_code
def yX12_change : MethodName := ⟨RX12, "change", "()V"⟩
abbrev cX12_isField : ByteArray := prog_14_method_10_code
def yX12_isField : MethodName := ⟨RX12, "isField", "(I)Z"⟩
abbrev cX12_areFields : ByteArray := prog_14_method_11_code
def yX12_areFields : MethodName := ⟨RX12, "areFields", "(II)Z"⟩
abbrev cX12_ofField : ByteArray := prog_14_method_12_code
def yX12_ofField : MethodName := ⟨RX12, "ofField", "(II)I"⟩
abbrev cX12_putField : ByteArray := prog_14_method_13_code
def yX12_putField : MethodName := ⟨RX12, "putField", "(III)V"⟩
abbrev cX12_isPath : ByteArray := prog_14_method_14_code
def yX12_isPath : MethodName := ⟨RX12, "isPath", "(I)Z"⟩
abbrev cX12_of : ByteArray := prog_14_method_15_code
def yX12_of : MethodName := ⟨RX12, "of", "(II)I"⟩
abbrev cX12_put : ByteArray := prog_14_method_16_code
def yX12_put : MethodName := ⟨RX12, "put", "(III)V"⟩
abbrev cX12_has : ByteArray := prog_14_method_17_code
def yX12_has : MethodName := ⟨RX12, "has", "(II)Z"⟩
abbrev cX12_openPaths : ByteArray := prog_14_method_18_code
def yX12_openPaths : MethodName := ⟨RX12, "openPaths", "()I"⟩
abbrev cX12_countBlocked : ByteArray := prog_14_method_19_code
def yX12_countBlocked : MethodName := ⟨RX12, "countBlocked", "()I"⟩
abbrev cX12_between : ByteArray := prog_14_method_20_code
def yX12_between : MethodName := ⟨RX12, "between", "(II)I"⟩
abbrev cX12_join : ByteArray := prog_14_method_21_code
def yX12_join : MethodName := ⟨RX12, "join", "(I)V"⟩
abbrev cX12_separate : ByteArray := prog_14_method_22_code
def yX12_separate : MethodName := ⟨RX12, "separate", "()V"⟩
abbrev cX12_label : ByteArray := prog_14_method_23_code
def yX12_label : MethodName := ⟨RX12, "label", "(I)I"⟩
abbrev cX12_forest : ByteArray := prog_14_method_24_code
def yX12_forest : MethodName := ⟨RX12, "forest", "()I"⟩
abbrev cX12_isInTreeOf : ByteArray := prog_14_method_25_code
def yX12_isInTreeOf : MethodName := ⟨RX12, "isInTreeOf", "(II)Z"⟩
abbrev cX12_reach : ByteArray := prog_14_method_26_code
def yX12_reach : MethodName := ⟨RX12, "reach", "(III)V"⟩
abbrev cX12_growTree : ByteArray := prog_14_method_27_code
def yX12_growTree : MethodName := ⟨RX12, "growTree", "(I)V"⟩
abbrev cX12_danger : ByteArray := prog_14_method_28_code
def yX12_danger : MethodName := ⟨RX12, "danger", "(II)I"⟩
abbrev cX12_addField : ByteArray := prog_14_method_29_code
def yX12_addField : MethodName := ⟨RX12, "addField", "(I)I"⟩
abbrev cX12_setShield : ByteArray := prog_14_method_30_code
def yX12_setShield : MethodName := ⟨RX12, "setShield", "(II)I"⟩
abbrev cX12_addPath : ByteArray := prog_14_method_31_code
def yX12_addPath : MethodName := ⟨RX12, "addPath", "(IIII)I"⟩
abbrev cX12_setGust : ByteArray := prog_14_method_32_code
def yX12_setGust : MethodName := ⟨RX12, "setGust", "(II)I"⟩
abbrev cX12_setBlocked : ByteArray := prog_14_method_33_code
def yX12_setBlocked : MethodName := ⟨RX12, "setBlocked", "(IZ)I"⟩
abbrev cX12_setSeed : ByteArray := prog_14_method_34_code
def yX12_setSeed : MethodName := ⟨RX12, "setSeed", "(I)I"⟩
abbrev cX12_runs : ByteArray := prog_14_method_35_code
def yX12_runs : MethodName := ⟨RX12, "runs", "()Z"⟩
abbrev cX12_isIdle : ByteArray := prog_14_method_36_code
def yX12_isIdle : MethodName := ⟨RX12, "isIdle", "()Z"⟩
abbrev cX12_packets : ByteArray := prog_14_method_37_code
def yX12_packets : MethodName := ⟨RX12, "packets", "()I"⟩
abbrev cX12_allPackets : ByteArray := prog_14_method_38_code
def yX12_allPackets : MethodName := ⟨RX12, "allPackets", "()I"⟩
abbrev cX12_covered : ByteArray := prog_14_method_39_code
def yX12_covered : MethodName := ⟨RX12, "covered", "(I)Z"⟩
abbrev cX12_startBroadcast : ByteArray := prog_14_method_40_code
def yX12_startBroadcast : MethodName := ⟨RX12, "startBroadcast", "(IIZ)I"⟩
abbrev cX12_send : ByteArray := prog_14_method_41_code
def yX12_send : MethodName := ⟨RX12, "send", "(II)I"⟩
abbrev cX12_visit : ByteArray := prog_14_method_42_code
def yX12_visit : MethodName := ⟨RX12, "visit", "(I)I"⟩
abbrev cX12_rebuild : ByteArray := prog_14_method_43_code
def yX12_rebuild : MethodName := ⟨RX12, "rebuild", "()V"⟩
abbrev cX12_judgeEnd : ByteArray := prog_14_method_44_code
def yX12_judgeEnd : MethodName := ⟨RX12, "judgeEnd", "()V"⟩
abbrev cX12_blow : ByteArray := prog_14_method_45_code
def yX12_blow : MethodName := ⟨RX12, "blow", "()I"⟩
abbrev cX12_blowAll : ByteArray := prog_14_method_46_code
def yX12_blowAll : MethodName := ⟨RX12, "blowAll", "()I"⟩
abbrev cX12_wind : ByteArray := prog_14_method_47_code
def yX12_wind : MethodName := ⟨RX12, "wind", "()I"⟩
abbrev cX12_windUntilEnd : ByteArray := prog_14_method_48_code
def yX12_windUntilEnd : MethodName := ⟨RX12, "windUntilEnd", "()I"⟩
abbrev cX12_abort : ByteArray := prog_14_method_49_code
def yX12_abort : MethodName := ⟨RX12, "abort", "()I"⟩
abbrev cX12_fieldCount : ByteArray := prog_14_method_50_code
def yX12_fieldCount : MethodName := ⟨RX12, "fieldCount", "()I"⟩
abbrev cX12_pathCount : ByteArray := prog_14_method_51_code
def yX12_pathCount : MethodName := ⟨RX12, "pathCount", "()I"⟩
abbrev cX12_shieldOf : ByteArray := prog_14_method_52_code
def yX12_shieldOf : MethodName := ⟨RX12, "shieldOf", "(I)I"⟩
abbrev cX12_number : ByteArray := prog_14_method_53_code
def yX12_number : MethodName := ⟨RX12, "number", "(II)I"⟩
abbrev cX12_firstOf : ByteArray := prog_14_method_54_code
def yX12_firstOf : MethodName := ⟨RX12, "firstOf", "(I)I"⟩
abbrev cX12_secondOf : ByteArray := prog_14_method_55_code
def yX12_secondOf : MethodName := ⟨RX12, "secondOf", "(I)I"⟩
abbrev cX12_costOf : ByteArray := prog_14_method_56_code
def yX12_costOf : MethodName := ⟨RX12, "costOf", "(I)I"⟩
abbrev cX12_gustOf : ByteArray := prog_14_method_57_code
def yX12_gustOf : MethodName := ⟨RX12, "gustOf", "(I)I"⟩
abbrev cX12_isBlocked : ByteArray := prog_14_method_58_code
def yX12_isBlocked : MethodName := ⟨RX12, "isBlocked", "(I)Z"⟩
abbrev cX12_useOf : ByteArray := prog_14_method_59_code
def yX12_useOf : MethodName := ⟨RX12, "useOf", "(I)I"⟩
abbrev cX12_groupCount : ByteArray := prog_14_method_60_code
def yX12_groupCount : MethodName := ⟨RX12, "groupCount", "()I"⟩
abbrev cX12_connected : ByteArray := prog_14_method_61_code
def yX12_connected : MethodName := ⟨RX12, "connected", "(II)Z"⟩
abbrev cX12_isConnected : ByteArray := prog_14_method_62_code
def yX12_isConnected : MethodName := ⟨RX12, "isConnected", "(II)Z"⟩
abbrev cX12_lower : ByteArray := prog_14_method_63_code
def yX12_lower : MethodName := ⟨RX12, "lower", "(III)V"⟩
abbrev cX12_wayCost : ByteArray := prog_14_method_64_code
def yX12_wayCost : MethodName := ⟨RX12, "wayCost", "(II)I"⟩
abbrev cX12_wayCostByRounds : ByteArray := prog_14_method_65_code
def yX12_wayCostByRounds : MethodName := ⟨RX12, "wayCostByRounds", "(II)I"⟩
abbrev cX12_leaving : ByteArray := prog_14_method_66_code
def yX12_leaving : MethodName := ⟨RX12, "leaving", "(I)I"⟩
abbrev cX12_smallestCut : ByteArray := prog_14_method_67_code
def yX12_smallestCut : MethodName := ⟨RX12, "smallestCut", "(II)I"⟩
abbrev cX12_disjointWays : ByteArray := prog_14_method_68_code
def yX12_disjointWays : MethodName := ⟨RX12, "disjointWays", "(II)I"⟩
abbrev cX12_bridges : ByteArray := prog_14_method_69_code
def yX12_bridges : MethodName := ⟨RX12, "bridges", "(I)Z"⟩
abbrev cX12_isBridge : ByteArray := prog_14_method_70_code
def yX12_isBridge : MethodName := ⟨RX12, "isBridge", "(I)Z"⟩
abbrev cX12_bridgeCount : ByteArray := prog_14_method_71_code
def yX12_bridgeCount : MethodName := ⟨RX12, "bridgeCount", "()I"⟩
abbrev cX12_bridgeCountByBlocking : ByteArray := prog_14_method_72_code
def yX12_bridgeCountByBlocking : MethodName := ⟨RX12, "bridgeCountByBlocking", "()I"⟩
abbrev cX12_treeCost : ByteArray := prog_14_method_73_code
def yX12_treeCost : MethodName := ⟨RX12, "treeCost", "(I)I"⟩
abbrev cX12_treeCostByGrowing : ByteArray := prog_14_method_74_code
def yX12_treeCostByGrowing : MethodName := ⟨RX12, "treeCostByGrowing", "(I)I"⟩
abbrev cX12_isInTree : ByteArray := prog_14_method_75_code
def yX12_isInTree : MethodName := ⟨RX12, "isInTree", "(II)Z"⟩
abbrev cX12_parentIn : ByteArray := prog_14_method_76_code
def yX12_parentIn : MethodName := ⟨RX12, "parentIn", "(II)I"⟩
abbrev cX12_chance : ByteArray := prog_14_method_77_code
def yX12_chance : MethodName := ⟨RX12, "chance", "(I)F"⟩
abbrev cX12_reachChance : ByteArray := prog_14_method_78_code
def yX12_reachChance : MethodName := ⟨RX12, "reachChance", "(II)F"⟩
abbrev cX12_isBroadcasting : ByteArray := prog_14_method_79_code
def yX12_isBroadcasting : MethodName := ⟨RX12, "isBroadcasting", "()Z"⟩
abbrev cX12_source : ByteArray := prog_14_method_80_code
def yX12_source : MethodName := ⟨RX12, "source", "()I"⟩
abbrev cX12_hasPacket : ByteArray := prog_14_method_81_code
def yX12_hasPacket : MethodName := ⟨RX12, "hasPacket", "(II)Z"⟩
abbrev cX12_countPackets : ByteArray := prog_14_method_82_code
def yX12_countPackets : MethodName := ⟨RX12, "countPackets", "(I)I"⟩
abbrev cX12_packetsOf : ByteArray := prog_14_method_83_code
def yX12_packetsOf : MethodName := ⟨RX12, "packetsOf", "(I)I"⟩
abbrev cX12_isCovered : ByteArray := prog_14_method_84_code
def yX12_isCovered : MethodName := ⟨RX12, "isCovered", "(I)Z"⟩
abbrev cX12_coveredCount : ByteArray := prog_14_method_85_code
def yX12_coveredCount : MethodName := ⟨RX12, "coveredCount", "()I"⟩
abbrev cX12_windsLeft : ByteArray := prog_14_method_86_code
def yX12_windsLeft : MethodName := ⟨RX12, "windsLeft", "()I"⟩
abbrev cX12_energyLeft : ByteArray := prog_14_method_87_code
def yX12_energyLeft : MethodName := ⟨RX12, "energyLeft", "()I"⟩
abbrev cX12_sentCount : ByteArray := prog_14_method_88_code
def yX12_sentCount : MethodName := ⟨RX12, "sentCount", "()I"⟩
abbrev cX12_lostCount : ByteArray := prog_14_method_89_code
def yX12_lostCount : MethodName := ⟨RX12, "lostCount", "()I"⟩
abbrev cX12_rebuiltCount : ByteArray := prog_14_method_90_code
def yX12_rebuiltCount : MethodName := ⟨RX12, "rebuiltCount", "()I"⟩
abbrev cX12_energy : ByteArray := prog_14_method_91_code
def yX12_energy : MethodName := ⟨RX12, "energy", "()I"⟩
abbrev cX12_finishedCount : ByteArray := prog_14_method_92_code
def yX12_finishedCount : MethodName := ⟨RX12, "finishedCount", "()I"⟩
abbrev cX12_failedCount : ByteArray := prog_14_method_93_code
def yX12_failedCount : MethodName := ⟨RX12, "failedCount", "()I"⟩
abbrev cX12_comesFirst : ByteArray := prog_14_method_94_code
def yX12_comesFirst : MethodName := ⟨RX12, "comesFirst", "(II)Z"⟩
abbrev cX12_fieldByPackets : ByteArray := prog_14_method_95_code
def yX12_fieldByPackets : MethodName := ⟨RX12, "fieldByPackets", "(I)I"⟩
abbrev cX12_isUsedFirst : ByteArray := prog_14_method_96_code
def yX12_isUsedFirst : MethodName := ⟨RX12, "isUsedFirst", "(II)Z"⟩
abbrev cX12_pathByUse : ByteArray := prog_14_method_97_code
def yX12_pathByUse : MethodName := ⟨RX12, "pathByUse", "(I)I"⟩
abbrev cX12_meanEnergy : ByteArray := prog_14_method_98_code
def yX12_meanEnergy : MethodName := ⟨RX12, "meanEnergy", "()D"⟩
abbrev cX12_lossShare : ByteArray := prog_14_method_99_code
def yX12_lossShare : MethodName := ⟨RX12, "lossShare", "()F"⟩
abbrev cX12_lossBits : ByteArray := prog_14_method_100_code
def yX12_lossBits : MethodName := ⟨RX12, "lossBits", "()I"⟩
abbrev cX12_isConsistent : ByteArray := prog_14_method_101_code
def yX12_isConsistent : MethodName := ⟨RX12, "isConsistent", "()Z"⟩
abbrev cX12_write : ByteArray := prog_14_method_102_code
def yX12_write : MethodName := ⟨RX12, "write", "(C)V"⟩
abbrev cX12_writeDigit : ByteArray := prog_14_method_103_code
def yX12_writeDigit : MethodName := ⟨RX12, "writeDigit", "(I)V"⟩
abbrev cX12_writeField : ByteArray := prog_14_method_104_code
def yX12_writeField : MethodName := ⟨RX12, "writeField", "(I)I"⟩
abbrev cX12_outputAt : ByteArray := prog_14_method_105_code
def yX12_outputAt : MethodName := ⟨RX12, "outputAt", "(I)C"⟩
abbrev cX12_appendInput : ByteArray := prog_14_method_106_code
def yX12_appendInput : MethodName := ⟨RX12, "appendInput", "(C)I"⟩
abbrev cX12_seen : ByteArray := prog_14_method_107_code
def yX12_seen : MethodName := ⟨RX12, "seen", "(I)C"⟩
abbrev cX12_sees : ByteArray := prog_14_method_108_code
def yX12_sees : MethodName := ⟨RX12, "sees", "(CC)Z"⟩
abbrev cX12_must : ByteArray := prog_14_method_109_code
def yX12_must : MethodName := ⟨RX12, "must", "(C)V"⟩
abbrev cX12_readBehind : ByteArray := prog_14_method_110_code
def yX12_readBehind : MethodName := ⟨RX12, "readBehind", "(CI)V"⟩
abbrev cX12_keyword : ByteArray := prog_14_method_111_code
def yX12_keyword : MethodName := ⟨RX12, "keyword", "()Ljava/lang/String;"⟩
abbrev cX12_readCommand : ByteArray := prog_14_method_112_code
def yX12_readCommand : MethodName := ⟨RX12, "readCommand", "()V"⟩
abbrev cX12_countCommands : ByteArray := prog_14_method_113_code
def yX12_countCommands : MethodName := ⟨RX12, "countCommands", "()I"⟩
abbrev cX12_executeCommand : ByteArray := prog_14_method_114_code
def yX12_executeCommand : MethodName := ⟨RX12, "executeCommand", "()I"⟩
abbrev cX12_failCommand : ByteArray := prog_14_method_115_code
def yX12_failCommand : MethodName := ⟨RX12, "failCommand", "(IZ)I"⟩
abbrev cX12_execute : ByteArray := prog_14_method_116_code
def yX12_execute : MethodName := ⟨RX12, "execute", "()I"⟩
abbrev cX12_syntaxErrorOffset : ByteArray := prog_14_method_117_code
def yX12_syntaxErrorOffset : MethodName := ⟨RX12, "syntaxErrorOffset", "()I"⟩
abbrev cX12_rejectionReason : ByteArray := prog_14_method_118_code
def yX12_rejectionReason : MethodName := ⟨RX12, "rejectionReason", "()I"⟩
abbrev cX12_rejectionDetail : ByteArray := prog_14_method_119_code
def yX12_rejectionDetail : MethodName := ⟨RX12, "rejectionDetail", "()I"⟩
abbrev cX12_causeReason : ByteArray := prog_14_method_120_code
def yX12_causeReason : MethodName := ⟨RX12, "causeReason", "()I"⟩
abbrev cX12_undo : ByteArray := prog_14_method_121_code
def yX12_undo : MethodName := ⟨RX12, "undo", "()I"⟩
abbrev cX12_saveSnapshot : ByteArray := prog_14_method_122_code
def yX12_saveSnapshot : MethodName := ⟨RX12, "saveSnapshot", "()I"⟩
abbrev cX12_restoreSnapshot : ByteArray := prog_14_method_123_code
def yX12_restoreSnapshot : MethodName := ⟨RX12, "restoreSnapshot", "()I"⟩
def RJx145de : String := "java/io/Serializable"
def TJx145de : u_T := fun k => match k with
  | _ => ("", "", "", false)
def tyJx145de : Nat → FieldType := fun k => match k with
  | _ => .int
abbrev wsJx145de0 : List Cond := u_ws RJx145de TJx145de 0
theorem nmJx145de : ∀ a, a < 0 → ∀ b, b < 0 → a ≠ b → (TJx145de a).2.1 ≠ (TJx145de b).2.1 := by decide +kernel
theorem tyJx145de_ok : ∀ k, k < 0 → parseFieldDescriptor (TJx145de k).2.2.1 = some (tyJx145de k) := by decide +kernel
def RJ5 : String := "java/lang/AbstractStringBuilder"
def TJ5 : u_T := fun k => match k with
  | _ => ("", "", "", false)
def tyJ5 : Nat → FieldType := fun k => match k with
  | _ => .int
abbrev wsJ50 : List Cond := u_ws RJ5 TJ5 0
theorem nmJ5 : ∀ a, a < 0 → ∀ b, b < 0 → a ≠ b → (TJ5 a).2.1 ≠ (TJ5 b).2.1 := by decide +kernel
theorem tyJ5_ok : ∀ k, k < 0 → parseFieldDescriptor (TJ5 k).2.2.1 = some (tyJ5 k) := by decide +kernel
abbrev cJ5_init_d00df : ByteArray := prog_16_method_2_code
def yJ5_init_d00df : MethodName := ⟨RJ5, "<init>", "(I)V"⟩
abbrev cJ5_length_8abf5 : ByteArray := prog_16_method_6_code
def yJ5_length_8abf5 : MethodName := ⟨RJ5, "length", "()I"⟩
abbrev cJ5_ensureCapacityInternal_d00df : ByteArray := prog_16_method_9_code
def yJ5_ensureCapacityInternal_d00df : MethodName := ⟨RJ5, "ensureCapacityInternal", "(I)V"⟩
abbrev cJ5_newCapacity_0f7a4 : ByteArray := prog_16_method_10_code
def yJ5_newCapacity_0f7a4 : MethodName := ⟨RJ5, "newCapacity", "(I)I"⟩
abbrev cJ5_inflate_da8c8 : ByteArray := prog_16_method_11_code
def yJ5_inflate_da8c8 : MethodName := ⟨RJ5, "inflate", "()V"⟩
abbrev cJ5_append_cf1ce : ByteArray := prog_16_method_22_code
def yJ5_append_cf1ce : MethodName := ⟨RJ5, "append", "(Ljava/lang/String;)Ljava/lang/AbstractStringBuilder;"⟩
abbrev cJ5_appendNull_278bc : ByteArray := prog_16_method_26_code
def yJ5_appendNull_278bc : MethodName := ⟨RJ5, "appendNull", "()Ljava/lang/AbstractStringBuilder;"⟩
abbrev cJ5_append_c97b9 : ByteArray := prog_16_method_32_code
def yJ5_append_c97b9 : MethodName := ⟨RJ5, "append", "(I)Ljava/lang/AbstractStringBuilder;"⟩
abbrev cJ5_getValue_6d5f1 : ByteArray := prog_16_method_64_code
def yJ5_getValue_6d5f1 : MethodName := ⟨RJ5, "getValue", "()[B"⟩
abbrev cJ5_isLatin1_aae02 : ByteArray := prog_16_method_68_code
def yJ5_isLatin1_aae02 : MethodName := ⟨RJ5, "isLatin1", "()Z"⟩
abbrev cJ5_inflateIfNeededFor_a7421 : ByteArray := prog_16_method_71_code
def yJ5_inflateIfNeededFor_a7421 : MethodName := ⟨RJ5, "inflateIfNeededFor", "(Ljava/lang/String;)V"⟩
abbrev cJ5_putStringAt_47b60 : ByteArray := prog_16_method_73_code
def yJ5_putStringAt_47b60 : MethodName := ⟨RJ5, "putStringAt", "(ILjava/lang/String;)V"⟩
def RJx2cfe8 : String := "java/lang/Appendable"
def TJx2cfe8 : u_T := fun k => match k with
  | _ => ("", "", "", false)
def tyJx2cfe8 : Nat → FieldType := fun k => match k with
  | _ => .int
abbrev wsJx2cfe80 : List Cond := u_ws RJx2cfe8 TJx2cfe8 0
theorem nmJx2cfe8 : ∀ a, a < 0 → ∀ b, b < 0 → a ≠ b → (TJx2cfe8 a).2.1 ≠ (TJx2cfe8 b).2.1 := by decide +kernel
theorem tyJx2cfe8_ok : ∀ k, k < 0 → parseFieldDescriptor (TJx2cfe8 k).2.2.1 = some (tyJx2cfe8 k) := by decide +kernel
def RJx00060 : String := "java/lang/ArrayIndexOutOfBoundsException"
def TJx00060 : u_T := fun k => match k with
  | 0 => ("java/lang/Throwable", "backtrace", "Ljava/lang/Object;", false)
  | 1 => ("java/lang/Throwable", "detailMessage", "Ljava/lang/String;", false)
  | 2 => ("java/lang/Throwable", "cause", "Ljava/lang/Throwable;", false)
  | 3 => ("java/lang/Throwable", "stackTrace", "[Ljava/lang/StackTraceElement;", false)
  | 4 => ("java/lang/Throwable", "depth", "I", false)
  | _ => ("java/lang/Throwable", "suppressedExceptions", "Ljava/util/List;", false)
def tyJx00060 : Nat → FieldType := fun k => match k with
  | 0 => .object "java/lang/Object"
  | 1 => .object "java/lang/String"
  | 2 => .object "java/lang/Throwable"
  | 3 => .array (.object "java/lang/StackTraceElement")
  | 4 => .int
  | _ => .object "java/util/List"
abbrev wsJx000600 : List Cond := u_ws RJx00060 TJx00060 6
theorem nmJx00060 : ∀ a, a < 6 → ∀ b, b < 6 → a ≠ b → (TJx00060 a).2.1 ≠ (TJx00060 b).2.1 := by decide +kernel
theorem tyJx00060_ok : ∀ k, k < 6 → parseFieldDescriptor (TJx00060 k).2.2.1 = some (tyJx00060 k) := by decide +kernel
abbrev cJx00060_init_a7421 : ByteArray := prog_19_method_2_code
def yJx00060_init_a7421 : MethodName := ⟨RJx00060, "<init>", "(Ljava/lang/String;)V"⟩
def RJx9f9b0 : String := "java/lang/CharSequence"
def TJx9f9b0 : u_T := fun k => match k with
  | _ => ("", "", "", false)
def tyJx9f9b0 : Nat → FieldType := fun k => match k with
  | _ => .int
abbrev wsJx9f9b00 : List Cond := u_ws RJx9f9b0 TJx9f9b0 0
theorem nmJx9f9b0 : ∀ a, a < 0 → ∀ b, b < 0 → a ≠ b → (TJx9f9b0 a).2.1 ≠ (TJx9f9b0 b).2.1 := by decide +kernel
theorem tyJx9f9b0_ok : ∀ k, k < 0 → parseFieldDescriptor (TJx9f9b0 k).2.2.1 = some (tyJx9f9b0 k) := by decide +kernel
def RJx8e188 : String := "java/lang/Cloneable"
def TJx8e188 : u_T := fun k => match k with
  | _ => ("", "", "", false)
def tyJx8e188 : Nat → FieldType := fun k => match k with
  | _ => .int
abbrev wsJx8e1880 : List Cond := u_ws RJx8e188 TJx8e188 0
theorem nmJx8e188 : ∀ a, a < 0 → ∀ b, b < 0 → a ≠ b → (TJx8e188 a).2.1 ≠ (TJx8e188 b).2.1 := by decide +kernel
theorem tyJx8e188_ok : ∀ k, k < 0 → parseFieldDescriptor (TJx8e188 k).2.2.1 = some (tyJx8e188 k) := by decide +kernel
def RJxb160c : String := "java/lang/Comparable"
def TJxb160c : u_T := fun k => match k with
  | _ => ("", "", "", false)
def tyJxb160c : Nat → FieldType := fun k => match k with
  | _ => .int
abbrev wsJxb160c0 : List Cond := u_ws RJxb160c TJxb160c 0
theorem nmJxb160c : ∀ a, a < 0 → ∀ b, b < 0 → a ≠ b → (TJxb160c a).2.1 ≠ (TJxb160c b).2.1 := by decide +kernel
theorem tyJxb160c_ok : ∀ k, k < 0 → parseFieldDescriptor (TJxb160c k).2.2.1 = some (tyJxb160c k) := by decide +kernel
def RJx29ce0 : String := "java/lang/Enum"
def TJx29ce0 : u_T := fun k => match k with
  | _ => ("", "", "", false)
def tyJx29ce0 : Nat → FieldType := fun k => match k with
  | _ => .int
abbrev wsJx29ce00 : List Cond := u_ws RJx29ce0 TJx29ce0 0
theorem nmJx29ce0 : ∀ a, a < 0 → ∀ b, b < 0 → a ≠ b → (TJx29ce0 a).2.1 ≠ (TJx29ce0 b).2.1 := by decide +kernel
theorem tyJx29ce0_ok : ∀ k, k < 0 → parseFieldDescriptor (TJx29ce0 k).2.2.1 = some (tyJx29ce0 k) := by decide +kernel
abbrev cJx29ce0_ordinal_8abf5 : ByteArray := prog_23_method_2_code
def yJx29ce0_ordinal_8abf5 : MethodName := ⟨RJx29ce0, "ordinal", "()I"⟩
def RJxf58ca : String := "java/lang/Float"
def TJxf58ca : u_T := fun k => match k with
  | _ => ("", "", "", false)
def tyJxf58ca : Nat → FieldType := fun k => match k with
  | _ => .int
abbrev wsJxf58ca0 : List Cond := u_ws RJxf58ca TJxf58ca 0
theorem nmJxf58ca : ∀ a, a < 0 → ∀ b, b < 0 → a ≠ b → (TJxf58ca a).2.1 ≠ (TJxf58ca b).2.1 := by decide +kernel
theorem tyJxf58ca_ok : ∀ k, k < 0 → parseFieldDescriptor (TJxf58ca k).2.2.1 = some (tyJxf58ca k) := by decide +kernel
abbrev cJxf58ca_isNaN_12338 : ByteArray := prog_25_method_6_code
def yJxf58ca_isNaN_12338 : MethodName := ⟨RJxf58ca, "isNaN", "(F)Z"⟩
abbrev cJxf58ca_floatToIntBits_5c35a : ByteArray := prog_25_method_24_code
def yJxf58ca_floatToIntBits_5c35a : MethodName := ⟨RJxf58ca, "floatToIntBits", "(F)I"⟩
def RJ6 : String := "java/lang/Integer"
def TJ6 : u_T := fun k => match k with
  | _ => ("", "", "", false)
def tyJ6 : Nat → FieldType := fun k => match k with
  | _ => .int
abbrev wsJ60 : List Cond := u_ws RJ6 TJ6 0
theorem nmJ6 : ∀ a, a < 0 → ∀ b, b < 0 → a ≠ b → (TJ6 a).2.1 ≠ (TJ6 b).2.1 := by decide +kernel
theorem tyJ6_ok : ∀ k, k < 0 → parseFieldDescriptor (TJ6 k).2.2.1 = some (tyJ6 k) := by decide +kernel
abbrev cJ6_getChars_ba4f3 : ByteArray := prog_29_method_12_code
def yJ6_getChars_ba4f3 : MethodName := ⟨RJ6, "getChars", "(II[B)I"⟩
abbrev cJ6_stringSize_0f7a4 : ByteArray := prog_29_method_13_code
def yJ6_stringSize_0f7a4 : MethodName := ⟨RJ6, "stringSize", "(I)I"⟩
abbrev cJ6_bitCount_0f7a4 : ByteArray := prog_29_method_49_code
def yJ6_bitCount_0f7a4 : MethodName := ⟨RJ6, "bitCount", "(I)I"⟩
def RJ9 : String := "java/lang/Math"
def TJ9 : u_T := fun k => match k with
  | _ => ("", "", "", false)
def tyJ9 : Nat → FieldType := fun k => match k with
  | _ => .int
abbrev wsJ90 : List Cond := u_ws RJ9 TJ9 0
theorem nmJ9 : ∀ a, a < 0 → ∀ b, b < 0 → a ≠ b → (TJ9 a).2.1 ≠ (TJ9 b).2.1 := by decide +kernel
theorem tyJ9_ok : ∀ k, k < 0 → parseFieldDescriptor (TJ9 k).2.2.1 = some (tyJ9 k) := by decide +kernel
abbrev cJ9_max_7cf53 : ByteArray := prog_30_method_65_code
def yJ9_max_7cf53 : MethodName := ⟨RJ9, "max", "(II)I"⟩
abbrev cJ9_min_7cf53 : ByteArray := prog_30_method_69_code
def yJ9_min_7cf53 : MethodName := ⟨RJ9, "min", "(II)I"⟩
def RJxd2413 : String := "java/lang/Number"
def TJxd2413 : u_T := fun k => match k with
  | _ => ("", "", "", false)
def tyJxd2413 : Nat → FieldType := fun k => match k with
  | _ => .int
abbrev wsJxd24130 : List Cond := u_ws RJxd2413 TJxd2413 0
theorem nmJxd2413 : ∀ a, a < 0 → ∀ b, b < 0 → a ≠ b → (TJxd2413 a).2.1 ≠ (TJxd2413 b).2.1 := by decide +kernel
theorem tyJxd2413_ok : ∀ k, k < 0 → parseFieldDescriptor (TJxd2413 k).2.2.1 = some (tyJxd2413 k) := by decide +kernel
def RJ0 : String := "java/lang/String"
def TJ0 : u_T := fun k => match k with
  | 0 => ("java/lang/String", "value", "[B", true)
  | 1 => ("java/lang/String", "coder", "B", true)
  | 2 => ("java/lang/String", "hash", "I", false)
  | _ => ("java/lang/String", "hashIsZero", "Z", false)
def tyJ0 : Nat → FieldType := fun k => match k with
  | 0 => .array .byte
  | 1 => .byte
  | 2 => .int
  | _ => .boolean
abbrev wsJ00 : List Cond := u_ws RJ0 TJ0 4
theorem nmJ0 : ∀ a, a < 4 → ∀ b, b < 4 → a ≠ b → (TJ0 a).2.1 ≠ (TJ0 b).2.1 := by decide +kernel
theorem tyJ0_ok : ∀ k, k < 4 → parseFieldDescriptor (TJ0 k).2.2.1 = some (tyJ0 k) := by decide +kernel
abbrev cJ0_init_81219 : ByteArray := prog_33_method_53_code
def yJ0_init_81219 : MethodName := ⟨RJ0, "<init>", "(Ljava/lang/StringBuilder;)V"⟩
abbrev cJ0_length_8abf5 : ByteArray := prog_33_method_54_code
def yJ0_length_8abf5 : MethodName := ⟨RJ0, "length", "()I"⟩
abbrev cJ0_charAt_5068e : ByteArray := prog_33_method_56_code
def yJ0_charAt_5068e : MethodName := ⟨RJ0, "charAt", "(I)C"⟩
abbrev cJ0_equals_9ea2d : ByteArray := prog_33_method_66_code
def yJ0_equals_9ea2d : MethodName := ⟨RJ0, "equals", "(Ljava/lang/Object;)Z"⟩
abbrev cJ0_hashCode_8abf5 : ByteArray := prog_33_method_78_code
def yJ0_hashCode_8abf5 : MethodName := ⟨RJ0, "hashCode", "()I"⟩
abbrev cJ0_getBytes_840e7 : ByteArray := prog_33_method_147_code
def yJ0_getBytes_840e7 : MethodName := ⟨RJ0, "getBytes", "([BIB)V"⟩
abbrev cJ0_init_db425 : ByteArray := prog_33_method_150_code
def yJ0_init_db425 : MethodName := ⟨RJ0, "<init>", "(Ljava/lang/AbstractStringBuilder;Ljava/lang/Void;)V"⟩
abbrev cJ0_coder_7d493 : ByteArray := prog_33_method_152_code
def yJ0_coder_7d493 : MethodName := ⟨RJ0, "coder", "()B"⟩
abbrev cJ0_isLatin1_aae02 : ByteArray := prog_33_method_154_code
def yJ0_isLatin1_aae02 : MethodName := ⟨RJ0, "isLatin1", "()Z"⟩
abbrev cJ0_checkIndex_df160 : ByteArray := prog_33_method_155_code
def yJ0_checkIndex_df160 : MethodName := ⟨RJ0, "checkIndex", "(II)V"⟩
abbrev cJ0_checkBoundsOffCount_cabcc : ByteArray := prog_33_method_157_code
def yJ0_checkBoundsOffCount_cabcc : MethodName := ⟨RJ0, "checkBoundsOffCount", "(III)I"⟩
abbrev cJ0_checkBoundsBeginEnd_23922 : ByteArray := prog_33_method_158_code
def yJ0_checkBoundsBeginEnd_23922 : MethodName := ⟨RJ0, "checkBoundsBeginEnd", "(III)V"⟩
def RJ4 : String := "java/lang/StringBuilder"
def TJ4 : u_T := fun k => match k with
  | 0 => ("java/lang/AbstractStringBuilder", "value", "[B", false)
  | 1 => ("java/lang/AbstractStringBuilder", "coder", "B", false)
  | 2 => ("java/lang/AbstractStringBuilder", "maybeLatin1", "Z", false)
  | _ => ("java/lang/AbstractStringBuilder", "count", "I", false)
def tyJ4 : Nat → FieldType := fun k => match k with
  | 0 => .array .byte
  | 1 => .byte
  | 2 => .boolean
  | _ => .int
abbrev wsJ40 : List Cond := u_ws RJ4 TJ4 4
theorem nmJ4 : ∀ a, a < 4 → ∀ b, b < 4 → a ≠ b → (TJ4 a).2.1 ≠ (TJ4 b).2.1 := by decide +kernel
theorem tyJ4_ok : ∀ k, k < 4 → parseFieldDescriptor (TJ4 k).2.2.1 = some (tyJ4 k) := by decide +kernel
abbrev cJ4_init_da8c8 : ByteArray := prog_34_method_1_code
def yJ4_init_da8c8 : MethodName := ⟨RJ4, "<init>", "()V"⟩
abbrev cJ4_append_15ec4 : ByteArray := prog_34_method_7_code
def yJ4_append_15ec4 : MethodName := ⟨RJ4, "append", "(Ljava/lang/String;)Ljava/lang/StringBuilder;"⟩
abbrev cJ4_append_bf812 : ByteArray := prog_34_method_15_code
def yJ4_append_bf812 : MethodName := ⟨RJ4, "append", "(I)Ljava/lang/StringBuilder;"⟩
abbrev cJ4_toString_0e30d : ByteArray := prog_34_method_42_code
def yJ4_toString_0e30d : MethodName := ⟨RJ4, "toString", "()Ljava/lang/String;"⟩
abbrev cJ4_length_8abf5 : ByteArray := prog_34_method_93_code
def yJ4_length_8abf5 : MethodName := ⟨RJ4, "length", "()I"⟩
def RJ1 : String := "java/lang/StringLatin1"
def TJ1 : u_T := fun k => match k with
  | _ => ("", "", "", false)
def tyJ1 : Nat → FieldType := fun k => match k with
  | _ => .int
abbrev wsJ10 : List Cond := u_ws RJ1 TJ1 0
theorem nmJ1 : ∀ a, a < 0 → ∀ b, b < 0 → a ≠ b → (TJ1 a).2.1 ≠ (TJ1 b).2.1 := by decide +kernel
theorem tyJ1_ok : ∀ k, k < 0 → parseFieldDescriptor (TJ1 k).2.2.1 = some (tyJ1 k) := by decide +kernel
abbrev cJ1_charAt_3b067 : ByteArray := prog_35_method_2_code
def yJ1_charAt_3b067 : MethodName := ⟨RJ1, "charAt", "([BI)C"⟩
abbrev cJ1_equals_b5fdf : ByteArray := prog_35_method_13_code
def yJ1_equals_b5fdf : MethodName := ⟨RJ1, "equals", "([B[B)Z"⟩
abbrev cJ1_hashCode_9d52b : ByteArray := prog_35_method_21_code
def yJ1_hashCode_9d52b : MethodName := ⟨RJ1, "hashCode", "([B)I"⟩
abbrev cJ1_inflate_0e8fd : ByteArray := prog_35_method_50_code
def yJ1_inflate_0e8fd : MethodName := ⟨RJ1, "inflate", "([BI[BII)V"⟩
def RJ2 : String := "java/lang/StringUTF16"
def TJ2 : u_T := fun k => match k with
  | _ => ("", "", "", false)
def tyJ2 : Nat → FieldType := fun k => match k with
  | _ => .int
abbrev wsJ20 : List Cond := u_ws RJ2 TJ2 0
theorem nmJ2 : ∀ a, a < 0 → ∀ b, b < 0 → a ≠ b → (TJ2 a).2.1 ≠ (TJ2 b).2.1 := by decide +kernel
theorem tyJ2_ok : ∀ k, k < 0 → parseFieldDescriptor (TJ2 k).2.2.1 = some (tyJ2 k) := by decide +kernel
abbrev cJ2_newBytesFor_77867 : ByteArray := prog_36_method_2_code
def yJ2_newBytesFor_77867 : MethodName := ⟨RJ2, "newBytesFor", "(I)[B"⟩
abbrev cJ2_newBytesLength_0f7a4 : ByteArray := prog_36_method_3_code
def yJ2_newBytesLength_0f7a4 : MethodName := ⟨RJ2, "newBytesLength", "(I)I"⟩
abbrev cJ2_putChar_b72d1 : ByteArray := prog_36_method_4_code
def yJ2_putChar_b72d1 : MethodName := ⟨RJ2, "putChar", "([BII)V"⟩
abbrev cJ2_getChar_3b067 : ByteArray := prog_36_method_5_code
def yJ2_getChar_3b067 : MethodName := ⟨RJ2, "getChar", "([BI)C"⟩
abbrev cJ2_length_9d52b : ByteArray := prog_36_method_6_code
def yJ2_length_9d52b : MethodName := ⟨RJ2, "length", "([B)I"⟩
abbrev cJ2_coderFromArrayLen_85cad : ByteArray := prog_36_method_15_code
def yJ2_coderFromArrayLen_85cad : MethodName := ⟨RJ2, "coderFromArrayLen", "([BI)B"⟩
abbrev cJ2_compress_39247 : ByteArray := prog_36_method_17_code
def yJ2_compress_39247 : MethodName := ⟨RJ2, "compress", "([BII)[B"⟩
abbrev cJ2_compress_5af95 : ByteArray := prog_36_method_22_code
def yJ2_compress_5af95 : MethodName := ⟨RJ2, "compress", "([BI[BII)I"⟩
abbrev cJ2_hashCode_9d52b : ByteArray := prog_36_method_39_code
def yJ2_hashCode_9d52b : MethodName := ⟨RJ2, "hashCode", "([B)I"⟩
abbrev cJ2_getChars_46870 : ByteArray := prog_36_method_77_code
def yJ2_getChars_46870 : MethodName := ⟨RJ2, "getChars", "(III[B)I"⟩
abbrev cJ2_putCharsAt_cd4e5 : ByteArray := prog_36_method_81_code
def yJ2_putCharsAt_cd4e5 : MethodName := ⟨RJ2, "putCharsAt", "([BICCCC)I"⟩
abbrev cJ2_charAt_3b067 : ByteArray := prog_36_method_83_code
def yJ2_charAt_3b067 : MethodName := ⟨RJ2, "charAt", "([BI)C"⟩
abbrev cJ2_inflate_0e8fd : ByteArray := prog_36_method_86_code
def yJ2_inflate_0e8fd : MethodName := ⟨RJ2, "inflate", "([BI[BII)V"⟩
abbrev cJ2_getChars_ba4f3 : ByteArray := prog_36_method_89_code
def yJ2_getChars_ba4f3 : MethodName := ⟨RJ2, "getChars", "(II[B)I"⟩
abbrev cJ2_checkIndex_2214a : ByteArray := prog_36_method_91_code
def yJ2_checkIndex_2214a : MethodName := ⟨RJ2, "checkIndex", "(I[B)V"⟩
abbrev cJ2_checkBoundsBeginEnd_d044e : ByteArray := prog_36_method_93_code
def yJ2_checkBoundsBeginEnd_d044e : MethodName := ⟨RJ2, "checkBoundsBeginEnd", "(II[B)V"⟩
abbrev cJ2_checkBoundsOffCount_d044e : ByteArray := prog_36_method_94_code
def yJ2_checkBoundsOffCount_d044e : MethodName := ⟨RJ2, "checkBoundsOffCount", "(II[B)V"⟩
def RJx0b718 : String := "java/lang/System$2"
def TJx0b718 : u_T := fun k => match k with
  | _ => ("", "", "", false)
def tyJx0b718 : Nat → FieldType := fun k => match k with
  | _ => .int
abbrev wsJx0b7180 : List Cond := u_ws RJx0b718 TJx0b718 0
theorem nmJx0b718 : ∀ a, a < 0 → ∀ b, b < 0 → a ≠ b → (TJx0b718 a).2.1 ≠ (TJx0b718 b).2.1 := by decide +kernel
theorem tyJx0b718_ok : ∀ k, k < 0 → parseFieldDescriptor (TJx0b718 k).2.2.1 = some (tyJx0b718 k) := by decide +kernel
abbrev cJx0b718_getUTF16Char_3b067 : ByteArray := prog_38_method_45_code
def yJx0b718_getUTF16Char_3b067 : MethodName := ⟨RJx0b718, "getUTF16Char", "([BI)C"⟩
def RJ10 : String := "java/lang/System"
def TJ10 : u_T := fun k => match k with
  | _ => ("", "", "", false)
def tyJ10 : Nat → FieldType := fun k => match k with
  | _ => .int
abbrev wsJ100 : List Cond := u_ws RJ10 TJ10 0
theorem nmJ10 : ∀ a, a < 0 → ∀ b, b < 0 → a ≠ b → (TJ10 a).2.1 ≠ (TJ10 b).2.1 := by decide +kernel
theorem tyJ10_ok : ∀ k, k < 0 → parseFieldDescriptor (TJ10 k).2.2.1 = some (tyJ10 k) := by decide +kernel
def RJxfd54e : String := "java/lang/constant/Constable"
def TJxfd54e : u_T := fun k => match k with
  | _ => ("", "", "", false)
def tyJxfd54e : Nat → FieldType := fun k => match k with
  | _ => .int
abbrev wsJxfd54e0 : List Cond := u_ws RJxfd54e TJxfd54e 0
theorem nmJxfd54e : ∀ a, a < 0 → ∀ b, b < 0 → a ≠ b → (TJxfd54e a).2.1 ≠ (TJxfd54e b).2.1 := by decide +kernel
theorem tyJxfd54e_ok : ∀ k, k < 0 → parseFieldDescriptor (TJxfd54e k).2.2.1 = some (tyJxfd54e k) := by decide +kernel
def RJx3cf43 : String := "java/lang/constant/ConstantDesc"
def TJx3cf43 : u_T := fun k => match k with
  | _ => ("", "", "", false)
def tyJx3cf43 : Nat → FieldType := fun k => match k with
  | _ => .int
abbrev wsJx3cf430 : List Cond := u_ws RJx3cf43 TJx3cf43 0
theorem nmJx3cf43 : ∀ a, a < 0 → ∀ b, b < 0 → a ≠ b → (TJx3cf43 a).2.1 ≠ (TJx3cf43 b).2.1 := by decide +kernel
theorem tyJx3cf43_ok : ∀ k, k < 0 → parseFieldDescriptor (TJx3cf43 k).2.2.1 = some (tyJx3cf43 k) := by decide +kernel
def RJ7 : String := "java/util/Arrays"
def TJ7 : u_T := fun k => match k with
  | _ => ("", "", "", false)
def tyJ7 : Nat → FieldType := fun k => match k with
  | _ => .int
abbrev wsJ70 : List Cond := u_ws RJ7 TJ7 0
theorem nmJ7 : ∀ a, a < 0 → ∀ b, b < 0 → a ≠ b → (TJ7 a).2.1 ≠ (TJ7 b).2.1 := by decide +kernel
theorem tyJ7_ok : ∀ k, k < 0 → parseFieldDescriptor (TJ7 k).2.2.1 = some (tyJ7 k) := by decide +kernel
abbrev cJ7_copyOf_9075b : ByteArray := prog_43_method_121_code
def yJ7_copyOf_9075b : MethodName := ⟨RJ7, "copyOf", "([BI)[B"⟩
abbrev cJ7_checkLength_df160 : ByteArray := prog_43_method_131_code
def yJ7_checkLength_df160 : MethodName := ⟨RJ7, "checkLength", "(II)V"⟩
abbrev cJ7_copyOfRange_39247 : ByteArray := prog_43_method_132_code
def yJ7_copyOfRange_39247 : MethodName := ⟨RJ7, "copyOfRange", "([BII)[B"⟩
abbrev cJ7_copyOfRangeByte_39247 : ByteArray := prog_43_method_133_code
def yJ7_copyOfRangeByte_39247 : MethodName := ⟨RJ7, "copyOfRangeByte", "([BII)[B"⟩
def RJxbb4bb : String := "jdk/internal/access/JavaLangAccess"
def TJxbb4bb : u_T := fun k => match k with
  | _ => ("", "", "", false)
def tyJxbb4bb : Nat → FieldType := fun k => match k with
  | _ => .int
abbrev wsJxbb4bb0 : List Cond := u_ws RJxbb4bb TJxbb4bb 0
theorem nmJxbb4bb : ∀ a, a < 0 → ∀ b, b < 0 → a ≠ b → (TJxbb4bb a).2.1 ≠ (TJxbb4bb b).2.1 := by decide +kernel
theorem tyJxbb4bb_ok : ∀ k, k < 0 → parseFieldDescriptor (TJxbb4bb k).2.2.1 = some (tyJxbb4bb k) := by decide +kernel
def RJ8 : String := "jdk/internal/util/ArraysSupport"
def TJ8 : u_T := fun k => match k with
  | _ => ("", "", "", false)
def tyJ8 : Nat → FieldType := fun k => match k with
  | _ => .int
abbrev wsJ80 : List Cond := u_ws RJ8 TJ8 0
theorem nmJ8 : ∀ a, a < 0 → ∀ b, b < 0 → a ≠ b → (TJ8 a).2.1 ≠ (TJ8 b).2.1 := by decide +kernel
theorem tyJ8_ok : ∀ k, k < 0 → parseFieldDescriptor (TJ8 k).2.2.1 = some (tyJ8 k) := by decide +kernel
abbrev cJ8_vectorizedHashCode_7ce64 : ByteArray := prog_46_method_4_code
def yJ8_vectorizedHashCode_7ce64 : MethodName := ⟨RJ8, "vectorizedHashCode", "(Ljava/lang/Object;IIII)I"⟩
abbrev cJ8_signedHashCode_aed26 : ByteArray := prog_46_method_5_code
def yJ8_signedHashCode_aed26 : MethodName := ⟨RJ8, "signedHashCode", "(I[BII)I"⟩
abbrev cJ8_hashCode_aed26 : ByteArray := prog_46_method_6_code
def yJ8_hashCode_aed26 : MethodName := ⟨RJ8, "hashCode", "(I[BII)I"⟩
abbrev cJ8_hashCode_c0dc3 : ByteArray := prog_46_method_7_code
def yJ8_hashCode_c0dc3 : MethodName := ⟨RJ8, "hashCode", "(I[CII)I"⟩
abbrev cJ8_hashCode_c23d2 : ByteArray := prog_46_method_8_code
def yJ8_hashCode_c23d2 : MethodName := ⟨RJ8, "hashCode", "(I[SII)I"⟩
abbrev cJ8_hashCode_e4c2a : ByteArray := prog_46_method_9_code
def yJ8_hashCode_e4c2a : MethodName := ⟨RJ8, "hashCode", "(I[III)I"⟩
abbrev cJ8_utf16hashCode_aed26 : ByteArray := prog_46_method_10_code
def yJ8_utf16hashCode_aed26 : MethodName := ⟨RJ8, "utf16hashCode", "(I[BII)I"⟩
abbrev cJ8_newLength_cabcc : ByteArray := prog_46_method_27_code
def yJ8_newLength_cabcc : MethodName := ⟨RJ8, "newLength", "(III)I"⟩
abbrev cJ8_hugeLength_7cf53 : ByteArray := prog_46_method_28_code
def yJ8_hugeLength_7cf53 : MethodName := ⟨RJ8, "hugeLength", "(II)I"⟩
def RJ3 : String := "jdk/internal/util/Preconditions"
def TJ3 : u_T := fun k => match k with
  | _ => ("", "", "", false)
def tyJ3 : Nat → FieldType := fun k => match k with
  | _ => .int
abbrev wsJ30 : List Cond := u_ws RJ3 TJ3 0
theorem nmJ3 : ∀ a, a < 0 → ∀ b, b < 0 → a ≠ b → (TJ3 a).2.1 ≠ (TJ3 b).2.1 := by decide +kernel
theorem tyJ3_ok : ∀ k, k < 0 → parseFieldDescriptor (TJ3 k).2.2.1 = some (tyJ3 k) := by decide +kernel
abbrev cJ3_checkIndex_8e157 : ByteArray := prog_47_method_11_code
def yJ3_checkIndex_8e157 : MethodName := ⟨RJ3, "checkIndex", "(IILjava/util/function/BiFunction;)I"⟩
abbrev cJ3_checkFromToIndex_8c36e : ByteArray := prog_47_method_12_code
def yJ3_checkFromToIndex_8c36e : MethodName := ⟨RJ3, "checkFromToIndex", "(IIILjava/util/function/BiFunction;)I"⟩
abbrev cJ3_checkFromIndexSize_8c36e : ByteArray := prog_47_method_13_code
def yJ3_checkFromIndexSize_8c36e : MethodName := ⟨RJ3, "checkFromIndexSize", "(IIILjava/util/function/BiFunction;)I"⟩
def RL : String := "DandelionBroadcastLaw"
abbrev cL_addField : ByteArray := method_3_code
def yL_addField : MethodName := ⟨RL, "addField", "(LDandelionBroadcast;I[J)I"⟩
abbrev cL_setShield : ByteArray := method_4_code
def yL_setShield : MethodName := ⟨RL, "setShield", "(LDandelionBroadcast;II[J)I"⟩
abbrev cL_addPath : ByteArray := method_5_code
def yL_addPath : MethodName := ⟨RL, "addPath", "(LDandelionBroadcast;IIII[J)I"⟩
abbrev cL_setGust : ByteArray := method_6_code
def yL_setGust : MethodName := ⟨RL, "setGust", "(LDandelionBroadcast;II[J)I"⟩
abbrev cL_setBlocked : ByteArray := method_7_code
def yL_setBlocked : MethodName := ⟨RL, "setBlocked", "(LDandelionBroadcast;IZ[J)I"⟩
abbrev cL_shieldOf : ByteArray := method_8_code
def yL_shieldOf : MethodName := ⟨RL, "shieldOf", "(LDandelionBroadcast;I[J)I"⟩
abbrev cL_firstOf : ByteArray := method_9_code
def yL_firstOf : MethodName := ⟨RL, "firstOf", "(LDandelionBroadcast;I[J)I"⟩
abbrev cL_secondOf : ByteArray := method_10_code
def yL_secondOf : MethodName := ⟨RL, "secondOf", "(LDandelionBroadcast;I[J)I"⟩
abbrev cL_costOf : ByteArray := method_11_code
def yL_costOf : MethodName := ⟨RL, "costOf", "(LDandelionBroadcast;I[J)I"⟩
abbrev cL_gustOf : ByteArray := method_12_code
def yL_gustOf : MethodName := ⟨RL, "gustOf", "(LDandelionBroadcast;I[J)I"⟩
abbrev cL_isBlocked : ByteArray := method_13_code
def yL_isBlocked : MethodName := ⟨RL, "isBlocked", "(LDandelionBroadcast;I[J)I"⟩
abbrev cL_isConnected : ByteArray := method_14_code
def yL_isConnected : MethodName := ⟨RL, "isConnected", "(LDandelionBroadcast;II[J)I"⟩
abbrev cL_wayCost : ByteArray := method_15_code
def yL_wayCost : MethodName := ⟨RL, "wayCost", "(LDandelionBroadcast;II[J)I"⟩
abbrev cL_wayCostByRounds : ByteArray := method_16_code
def yL_wayCostByRounds : MethodName := ⟨RL, "wayCostByRounds", "(LDandelionBroadcast;II[J)I"⟩
abbrev cL_disjointWays : ByteArray := method_17_code
def yL_disjointWays : MethodName := ⟨RL, "disjointWays", "(LDandelionBroadcast;II[J)I"⟩
abbrev cL_smallestCut : ByteArray := method_18_code
def yL_smallestCut : MethodName := ⟨RL, "smallestCut", "(LDandelionBroadcast;II[J)I"⟩
abbrev cL_isBridge : ByteArray := method_19_code
def yL_isBridge : MethodName := ⟨RL, "isBridge", "(LDandelionBroadcast;I[J)I"⟩
abbrev cL_treeCost : ByteArray := method_20_code
def yL_treeCost : MethodName := ⟨RL, "treeCost", "(LDandelionBroadcast;I[J)I"⟩
abbrev cL_treeCostByGrowing : ByteArray := method_21_code
def yL_treeCostByGrowing : MethodName := ⟨RL, "treeCostByGrowing", "(LDandelionBroadcast;I[J)I"⟩
abbrev cL_isInTree : ByteArray := method_22_code
def yL_isInTree : MethodName := ⟨RL, "isInTree", "(LDandelionBroadcast;II[J)I"⟩
abbrev cL_parentIn : ByteArray := method_23_code
def yL_parentIn : MethodName := ⟨RL, "parentIn", "(LDandelionBroadcast;II[J)I"⟩
abbrev cL_reachChance : ByteArray := method_24_code
def yL_reachChance : MethodName := ⟨RL, "reachChance", "(LDandelionBroadcast;II[D)I"⟩
abbrev cL_setSeed : ByteArray := method_25_code
def yL_setSeed : MethodName := ⟨RL, "setSeed", "(LDandelionBroadcast;I[J)I"⟩
abbrev cL_startBroadcast : ByteArray := method_26_code
def yL_startBroadcast : MethodName := ⟨RL, "startBroadcast", "(LDandelionBroadcast;IIZ[J)I"⟩
abbrev cL_wind : ByteArray := method_27_code
def yL_wind : MethodName := ⟨RL, "wind", "(LDandelionBroadcast;[J)I"⟩
abbrev cL_windUntilEnd : ByteArray := method_28_code
def yL_windUntilEnd : MethodName := ⟨RL, "windUntilEnd", "(LDandelionBroadcast;[J)I"⟩
abbrev cL_abort : ByteArray := method_29_code
def yL_abort : MethodName := ⟨RL, "abort", "(LDandelionBroadcast;[J)I"⟩
abbrev cL_source : ByteArray := method_30_code
def yL_source : MethodName := ⟨RL, "source", "(LDandelionBroadcast;[J)I"⟩
abbrev cL_hasPacket : ByteArray := method_31_code
def yL_hasPacket : MethodName := ⟨RL, "hasPacket", "(LDandelionBroadcast;II[J)I"⟩
abbrev cL_packetsOf : ByteArray := method_32_code
def yL_packetsOf : MethodName := ⟨RL, "packetsOf", "(LDandelionBroadcast;I[J)I"⟩
abbrev cL_isCovered : ByteArray := method_33_code
def yL_isCovered : MethodName := ⟨RL, "isCovered", "(LDandelionBroadcast;I[J)I"⟩
abbrev cL_windsLeft : ByteArray := method_34_code
def yL_windsLeft : MethodName := ⟨RL, "windsLeft", "(LDandelionBroadcast;[J)I"⟩
abbrev cL_energyLeft : ByteArray := method_35_code
def yL_energyLeft : MethodName := ⟨RL, "energyLeft", "(LDandelionBroadcast;[J)I"⟩
abbrev cL_useOf : ByteArray := method_36_code
def yL_useOf : MethodName := ⟨RL, "useOf", "(LDandelionBroadcast;I[J)I"⟩
abbrev cL_fieldByPackets : ByteArray := method_37_code
def yL_fieldByPackets : MethodName := ⟨RL, "fieldByPackets", "(LDandelionBroadcast;I[J)I"⟩
abbrev cL_pathByUse : ByteArray := method_38_code
def yL_pathByUse : MethodName := ⟨RL, "pathByUse", "(LDandelionBroadcast;I[J)I"⟩
abbrev cL_meanEnergy : ByteArray := method_39_code
def yL_meanEnergy : MethodName := ⟨RL, "meanEnergy", "(LDandelionBroadcast;[D)I"⟩
abbrev cL_lossShare : ByteArray := method_40_code
def yL_lossShare : MethodName := ⟨RL, "lossShare", "(LDandelionBroadcast;[D)I"⟩
abbrev cL_lossBits : ByteArray := method_41_code
def yL_lossBits : MethodName := ⟨RL, "lossBits", "(LDandelionBroadcast;[J)I"⟩
abbrev cL_writeField : ByteArray := method_42_code
def yL_writeField : MethodName := ⟨RL, "writeField", "(LDandelionBroadcast;I[J)I"⟩
abbrev cL_outputAt : ByteArray := method_43_code
def yL_outputAt : MethodName := ⟨RL, "outputAt", "(LDandelionBroadcast;I[J)I"⟩
abbrev cL_appendInput : ByteArray := method_44_code
def yL_appendInput : MethodName := ⟨RL, "appendInput", "(LDandelionBroadcast;C[J)I"⟩
abbrev cL_execute : ByteArray := method_45_code
def yL_execute : MethodName := ⟨RL, "execute", "(LDandelionBroadcast;[J)I"⟩
abbrev cL_syntaxErrorOffset : ByteArray := method_46_code
def yL_syntaxErrorOffset : MethodName := ⟨RL, "syntaxErrorOffset", "(LDandelionBroadcast;[J)I"⟩
abbrev cL_rejectionReason : ByteArray := method_47_code
def yL_rejectionReason : MethodName := ⟨RL, "rejectionReason", "(LDandelionBroadcast;[J)I"⟩
abbrev cL_rejectionDetail : ByteArray := method_48_code
def yL_rejectionDetail : MethodName := ⟨RL, "rejectionDetail", "(LDandelionBroadcast;[J)I"⟩
abbrev cL_causeReason : ByteArray := method_49_code
def yL_causeReason : MethodName := ⟨RL, "causeReason", "(LDandelionBroadcast;[J)I"⟩
abbrev cL_undo : ByteArray := method_50_code
def yL_undo : MethodName := ⟨RL, "undo", "(LDandelionBroadcast;[J)I"⟩
abbrev cL_restoreSnapshot : ByteArray := method_51_code
def yL_restoreSnapshot : MethodName := ⟨RL, "restoreSnapshot", "(LDandelionBroadcast;[J)I"⟩
abbrev cL_law : ByteArray := code
def yL_law : MethodName := ⟨RL, "law", "([I)Z"⟩
abbrev vwCl : List vw_C := [(RJ0, TJ0, 4), (RJ4, TJ4, 4), (RJx00060, TJx00060, 6), (RX1, TX1, 8), (RX2, TX2, 2), (RX3, TX3, 6), (RX4, TX4, 3), (RX6, TX6, 8), (RX7, TX7, 5), (RX8, TX8, 9), (RX9, TX9, 7), (RX10, TX10, 1), (RX11, TX11, 16), (RX12, TX12, 28)]
end
section
theorem am_dec_of {cc : ByteArray} {t : List (Nat × Instr × Nat)} (h : (t.all fun x => decide (decode cc x.1 = .ok (x.2.1, x.2.2))) = true) : am_dec cc t := fun x hx => of_decide_eq_true (List.all_eq_true.mp h x hx)
def tX1_init : List (Nat × Instr × Nat) := [(0, .aload_n 0, 1), (1, .invokespecial 3, 3), (4, .aload_n 0, 1), (5, .bipush 9, 2), (7, .newarray .int, 2), (9, .putfield 9, 3), (12, .aload_n 0, 1), (13, .iconst 0, 1), (14, .putfield 15, 3), (17, .aload_n 0, 1), (18, .iconst 0, 1), (19, .putfield 19, 3), (22, .aload_n 0, 1), (23, .iconst (-1), 1), (24, .putfield 23, 3), (27, .aload_n 0, 1), (28, .iconst 0, 1), (29, .putfield 26, 3), (32, .aload_n 0, 1), (33, .iconst 0, 1), (34, .putfield 29, 3), (37, .aload_n 0, 1), (38, .iconst 0, 1), (39, .putfield 32, 3), (42, .aload_n 0, 1), (43, .iconst 0, 1), (44, .putfield 35, 3), (47, .return_, 1)]
set_option maxRecDepth 100000 in
theorem eX1_init : am_dec cX1_init tX1_init := am_dec_of (by decide +kernel)
def tX1_packetTotal : List (Nat × Instr × Nat) := [(0, .aload_n 0, 1), (1, .getfield 29, 3), (4, .ifCond .eq 12, 3), (7, .aload_n 0, 1), (8, .getfield 26, 3), (11, .iconst 1, 1), (12, .iadd, 1), (13, .goto 7, 3), (16, .aload_n 0, 1), (17, .getfield 26, 3), (20, .ireturn, 1)]
set_option maxRecDepth 100000 in
theorem eX1_packetTotal : am_dec cX1_packetTotal tX1_packetTotal := am_dec_of (by decide +kernel)
def tX1_allPackets : List (Nat × Instr × Nat) := [(0, .iconst 1, 1), (1, .aload_n 0, 1), (2, .invokevirtual 38, 3), (5, .ishl, 1), (6, .iconst 1, 1), (7, .isub, 1), (8, .ireturn, 1)]
set_option maxRecDepth 100000 in
theorem eX1_allPackets : am_dec cX1_allPackets tX1_allPackets := am_dec_of (by decide +kernel)
def tX1_covers : List (Nat × Instr × Nat) := [(0, .iconst 1, 1), (1, .aload_n 0, 1), (2, .getfield 26, 3), (5, .ishl, 1), (6, .iconst 1, 1), (7, .isub, 1), (8, .istore_n 2, 1), (9, .aload_n 0, 1), (10, .getfield 15, 3), (13, .ifCond .le 19, 3), (16, .aload_n 0, 1), (17, .getfield 9, 3), (20, .iload_n 1, 1), (21, .iaload, 1), (22, .iload_n 2, 1), (23, .iand, 1), (24, .iload_n 2, 1), (25, .if_icmp .ne 7, 3), (28, .iconst 1, 1), (29, .goto 4, 3), (32, .iconst 0, 1), (33, .ireturn, 1)]
set_option maxRecDepth 100000 in
theorem eX1_covers : am_dec cX1_covers tX1_covers := am_dec_of (by decide +kernel)
def tX1_copyFrom : List (Nat × Instr × Nat) := [(0, .aload_n 1, 1), (1, .getfield 9, 3), (4, .iconst 0, 1), (5, .aload_n 0, 1), (6, .getfield 9, 3), (9, .iconst 0, 1), (10, .bipush 9, 2), (12, .invokestatic 42, 3), (15, .aload_n 0, 1), (16, .aload_n 1, 1), (17, .getfield 15, 3), (20, .putfield 15, 3), (23, .aload_n 0, 1), (24, .aload_n 1, 1), (25, .getfield 19, 3), (28, .putfield 19, 3), (31, .aload_n 0, 1), (32, .aload_n 1, 1), (33, .getfield 23, 3), (36, .putfield 23, 3), (39, .aload_n 0, 1), (40, .aload_n 1, 1), (41, .getfield 26, 3), (44, .putfield 26, 3), (47, .aload_n 0, 1), (48, .aload_n 1, 1), (49, .getfield 29, 3), (52, .putfield 29, 3), (55, .aload_n 0, 1), (56, .aload_n 1, 1), (57, .getfield 32, 3), (60, .putfield 32, 3), (63, .aload_n 0, 1), (64, .aload_n 1, 1), (65, .getfield 35, 3), (68, .putfield 35, 3), (71, .return_, 1)]
set_option maxRecDepth 100000 in
theorem eX1_copyFrom : am_dec cX1_copyFrom tX1_copyFrom := am_dec_of (by decide +kernel)
def tX2_init : List (Nat × Instr × Nat) := [(0, .aload_n 0, 1), (1, .invokespecial 3, 3), (4, .aload_n 0, 1), (5, .iconst (-1), 1), (6, .putfield 9, 3), (9, .aload_n 0, 1), (10, .iconst 0, 1), (11, .putfield 15, 3), (14, .return_, 1)]
set_option maxRecDepth 100000 in
theorem eX2_init : am_dec cX2_init tX2_init := am_dec_of (by decide +kernel)
def tX2_reject : List (Nat × Instr × Nat) := [(0, .aload_n 0, 1), (1, .iload_n 1, 1), (2, .putfield 9, 3), (5, .aload_n 0, 1), (6, .iload_n 2, 1), (7, .putfield 15, 3), (10, .bipush (-3), 2), (12, .ireturn, 1)]
set_option maxRecDepth 100000 in
theorem eX2_reject : am_dec cX2_reject tX2_reject := am_dec_of (by decide +kernel)
def tX2_isDigit : List (Nat × Instr × Nat) := [(0, .iload_n 0, 1), (1, .ifCond .lt 13, 3), (4, .iload_n 0, 1), (5, .bipush 9, 2), (7, .if_icmp .gt 7, 3), (10, .iconst 1, 1), (11, .goto 4, 3), (14, .iconst 0, 1), (15, .ireturn, 1)]
set_option maxRecDepth 100000 in
theorem eX2_isDigit : am_dec cX2_isDigit tX2_isDigit := am_dec_of (by decide +kernel)
def tX2_appendField : List (Nat × Instr × Nat) := [(0, .aload_n 1, 1), (1, .getfield 18, 3), (4, .astore_n 3, 1), (5, .iload_n 2, 1), (6, .invokestatic 24, 3), (9, .ifCond .ne 6, 3), (12, .bipush (-2), 2), (14, .ireturn, 1), (15, .aload_n 3, 1), (16, .getfield 28, 3), (19, .bipush 9, 2), (21, .if_icmp .lt 11, 3), (24, .aload_n 0, 1), (25, .iconst 1, 1), (26, .bipush 9, 2), (28, .invokevirtual 33, 3), (31, .ireturn, 1), (32, .aload_n 3, 1), (33, .getfield 37, 3), (36, .aload_n 3, 1), (37, .getfield 28, 3), (40, .iload_n 2, 1), (41, .iastore, 1), (42, .aload_n 1, 1), (43, .getfield 41, 3), (46, .getfield 45, 3), (49, .aload_n 3, 1), (50, .getfield 28, 3), (53, .iconst 0, 1), (54, .iastore, 1), (55, .aload_n 3, 1), (56, .dup, 1), (57, .getfield 28, 3), (60, .iconst 1, 1), (61, .iadd, 1), (62, .putfield 28, 3), (65, .aload_n 3, 1), (66, .getfield 28, 3), (69, .iconst 1, 1), (70, .isub, 1), (71, .ireturn, 1)]
set_option maxRecDepth 100000 in
theorem eX2_appendField : am_dec cX2_appendField tX2_appendField := am_dec_of (by decide +kernel)
def tX2_replaceShield : List (Nat × Instr × Nat) := [(0, .aload_n 1, 1), (1, .getfield 18, 3), (4, .iload_n 2, 1), (5, .invokevirtual 50, 3), (8, .ifCond .ne 5, 3), (11, .iconst (-1), 1), (12, .ireturn, 1), (13, .iload_n 3, 1), (14, .invokestatic 24, 3), (17, .ifCond .ne 6, 3), (20, .bipush (-2), 2), (22, .ireturn, 1), (23, .aload_n 1, 1), (24, .getfield 18, 3), (27, .getfield 37, 3), (30, .iload_n 2, 1), (31, .iaload, 1), (32, .istore 4, 2), (34, .aload_n 1, 1), (35, .getfield 18, 3), (38, .getfield 37, 3), (41, .iload_n 2, 1), (42, .iload_n 3, 1), (43, .iastore, 1), (44, .iload 4, 2), (46, .ireturn, 1)]
set_option maxRecDepth 100000 in
theorem eX2_replaceShield : am_dec cX2_replaceShield tX2_replaceShield := am_dec_of (by decide +kernel)
def tX2_appendPath : List (Nat × Instr × Nat) := [(0, .aload_n 1, 1), (1, .getfield 18, 3), (4, .astore 6, 2), (6, .aload 6, 2), (8, .iload_n 2, 1), (9, .invokevirtual 50, 3), (12, .ifCond .eq 12, 3), (15, .aload 6, 2), (17, .iload_n 3, 1), (18, .invokevirtual 50, 3), (21, .ifCond .ne 5, 3), (24, .iconst (-1), 1), (25, .ireturn, 1), (26, .iload_n 2, 1), (27, .iload_n 3, 1), (28, .if_icmp .eq 24, 3), (31, .iload 4, 2), (33, .ifCond .eq 19, 3), (36, .iload 4, 2), (38, .invokestatic 24, 3), (41, .ifCond .eq 11, 3), (44, .iload 5, 2), (46, .invokestatic 24, 3), (49, .ifCond .ne 6, 3), (52, .bipush (-2), 2), (54, .ireturn, 1), (55, .aload 6, 2), (57, .getfield 53, 3), (60, .bipush 16, 2), (62, .if_icmp .lt 20, 3), (65, .aload_n 0, 1), (66, .iconst 2, 1), (67, .aload 6, 2), (69, .getfield 53, 3), (72, .aload 6, 2), (74, .invokevirtual 56, 3), (77, .isub, 1), (78, .invokevirtual 33, 3), (81, .ireturn, 1), (82, .aload 6, 2), (84, .iload_n 2, 1), (85, .iload_n 3, 1), (86, .invokevirtual 60, 3), (89, .istore 7, 2), (91, .iload 7, 2), (93, .iconst (-1), 1), (94, .if_icmp .eq 11, 3), (97, .aload_n 0, 1), (98, .iconst 3, 1), (99, .iload 7, 2), (101, .invokevirtual 33, 3), (104, .ireturn, 1), (105, .aload 6, 2), (107, .getfield 53, 3), (110, .istore 8, 2), (112, .aload 6, 2), (114, .getfield 63, 3), (117, .iload 8, 2), (119, .iload_n 2, 1), (120, .iastore, 1), (121, .aload 6, 2), (123, .getfield 66, 3), (126, .iload 8, 2), (128, .iload_n 3, 1), (129, .iastore, 1), (130, .aload 6, 2), (132, .getfield 69, 3), (135, .iload 8, 2), (137, .iload 4, 2), (139, .iastore, 1), (140, .aload 6, 2), (142, .getfield 72, 3), (145, .iload 8, 2), (147, .iload 5, 2), (149, .iastore, 1), (150, .aload 6, 2), (152, .dup, 1), (153, .getfield 75, 3), (156, .iconst 1, 1), (157, .iload 8, 2), (159, .ishl, 1), (160, .iconst (-1), 1), (161, .ixor, 1), (162, .iand, 1), (163, .putfield 75, 3), (166, .aload_n 1, 1), (167, .getfield 78, 3), (170, .iload 8, 2), (172, .iconst 0, 1), (173, .iastore, 1), (174, .aload 6, 2), (176, .dup, 1), (177, .getfield 53, 3), (180, .iconst 1, 1), (181, .iadd, 1), (182, .putfield 53, 3), (185, .iload 8, 2), (187, .ireturn, 1)]
set_option maxRecDepth 100000 in
theorem eX2_appendPath : am_dec cX2_appendPath tX2_appendPath := am_dec_of (by decide +kernel)
def tX2_replaceGust : List (Nat × Instr × Nat) := [(0, .aload_n 1, 1), (1, .getfield 18, 3), (4, .iload_n 2, 1), (5, .invokevirtual 81, 3), (8, .ifCond .ne 5, 3), (11, .iconst (-1), 1), (12, .ireturn, 1), (13, .iload_n 3, 1), (14, .invokestatic 24, 3), (17, .ifCond .ne 6, 3), (20, .bipush (-2), 2), (22, .ireturn, 1), (23, .aload_n 1, 1), (24, .getfield 18, 3), (27, .getfield 72, 3), (30, .iload_n 2, 1), (31, .iaload, 1), (32, .istore 4, 2), (34, .aload_n 1, 1), (35, .getfield 18, 3), (38, .getfield 72, 3), (41, .iload_n 2, 1), (42, .iload_n 3, 1), (43, .iastore, 1), (44, .iload 4, 2), (46, .ireturn, 1)]
set_option maxRecDepth 100000 in
theorem eX2_replaceGust : am_dec cX2_replaceGust tX2_replaceGust := am_dec_of (by decide +kernel)
def tX2_replaceBlocked : List (Nat × Instr × Nat) := [(0, .aload_n 1, 1), (1, .getfield 18, 3), (4, .astore 4, 2), (6, .aload 4, 2), (8, .iload_n 2, 1), (9, .invokevirtual 81, 3), (12, .ifCond .ne 5, 3), (15, .iconst (-1), 1), (16, .ireturn, 1), (17, .aload 4, 2), (19, .iload_n 2, 1), (20, .invokevirtual 84, 3), (23, .iload_n 3, 1), (24, .if_icmp .eq 14, 3), (27, .aload_n 0, 1), (28, .iconst 4, 1), (29, .aload 4, 2), (31, .invokevirtual 56, 3), (34, .invokevirtual 33, 3), (37, .ireturn, 1), (38, .aload 4, 2), (40, .dup, 1), (41, .getfield 75, 3), (44, .iconst 1, 1), (45, .iload_n 2, 1), (46, .ishl, 1), (47, .ixor, 1), (48, .putfield 75, 3), (51, .aload 4, 2), (53, .invokevirtual 56, 3), (56, .ireturn, 1)]
set_option maxRecDepth 100000 in
theorem eX2_replaceBlocked : am_dec cX2_replaceBlocked tX2_replaceBlocked := am_dec_of (by decide +kernel)
def tX2_replaceSeed : List (Nat × Instr × Nat) := [(0, .iload_n 2, 1), (1, .ifCond .lt 10, 3), (4, .iload_n 2, 1), (5, .sipush 512, 3), (8, .if_icmp .lt 6, 3), (11, .bipush (-2), 2), (13, .ireturn, 1), (14, .aload_n 1, 1), (15, .getfield 41, 3), (18, .getfield 87, 3), (21, .istore_n 3, 1), (22, .aload_n 1, 1), (23, .getfield 41, 3), (26, .iload_n 2, 1), (27, .putfield 87, 3), (30, .iload_n 3, 1), (31, .ireturn, 1)]
set_option maxRecDepth 100000 in
theorem eX2_replaceSeed : am_dec cX2_replaceSeed tX2_replaceSeed := am_dec_of (by decide +kernel)
def tX2_beginBroadcast : List (Nat × Instr × Nat) := [(0, .aload_n 1, 1), (1, .getfield 41, 3), (4, .astore 5, 2), (6, .aload_n 1, 1), (7, .getfield 18, 3), (10, .iload_n 2, 1), (11, .invokevirtual 50, 3), (14, .ifCond .ne 5, 3), (17, .iconst (-1), 1), (18, .ireturn, 1), (19, .iload_n 3, 1), (20, .iconst 1, 1), (21, .if_icmp .lt 9, 3), (24, .iload_n 3, 1), (25, .bipush 6, 2), (27, .if_icmp .le 6, 3), (30, .bipush (-2), 2), (32, .ireturn, 1), (33, .aload 5, 2), (35, .getfield 90, 3), (38, .ifCond .eq 14, 3), (41, .aload_n 0, 1), (42, .iconst 5, 1), (43, .aload 5, 2), (45, .getfield 94, 3), (48, .invokevirtual 33, 3), (51, .ireturn, 1), (52, .aload 5, 2), (54, .iconst 1, 1), (55, .putfield 90, 3), (58, .aload 5, 2), (60, .iload_n 2, 1), (61, .putfield 97, 3), (64, .aload 5, 2), (66, .iload_n 3, 1), (67, .putfield 100, 3), (70, .aload 5, 2), (72, .iload 4, 2), (74, .putfield 103, 3), (77, .aload 5, 2), (79, .iconst 0, 1), (80, .putfield 94, 3), (83, .iconst 0, 1), (84, .istore 6, 2), (86, .iload 6, 2), (88, .bipush 9, 2), (90, .if_icmp .ge 32, 3), (93, .aload 5, 2), (95, .getfield 45, 3), (98, .iload 6, 2), (100, .iload 6, 2), (102, .iload_n 2, 1), (103, .if_icmp .ne 11, 3), (106, .aload 5, 2), (108, .invokevirtual 106, 3), (111, .goto 4, 3), (114, .iconst 0, 1), (115, .iastore, 1), (116, .iinc 6 1, 3), (119, .goto (-33), 3), (122, .aload 5, 2), (124, .dup, 1), (125, .getfield 109, 3), (128, .iconst 1, 1), (129, .iadd, 1), (130, .putfield 109, 3), (133, .aload 5, 2), (135, .getfield 109, 3), (138, .ireturn, 1)]
set_option maxRecDepth 100000 in
theorem eX2_beginBroadcast : am_dec cX2_beginBroadcast tX2_beginBroadcast := am_dec_of (by decide +kernel)
def tX2_letBlowOnce : List (Nat × Instr × Nat) := [(0, .aload_n 1, 1), (1, .getfield 41, 3), (4, .getfield 90, 3), (7, .ifCond .ne 17, 3), (10, .aload_n 0, 1), (11, .bipush 6, 2), (13, .aload_n 1, 1), (14, .getfield 41, 3), (17, .getfield 109, 3), (20, .invokevirtual 33, 3), (23, .ireturn, 1), (24, .aload_n 2, 1), (25, .aload_n 1, 1), (26, .invokevirtual 112, 3), (29, .ireturn, 1)]
set_option maxRecDepth 100000 in
theorem eX2_letBlowOnce : am_dec cX2_letBlowOnce tX2_letBlowOnce := am_dec_of (by decide +kernel)
def tX2_letBlowToEnd : List (Nat × Instr × Nat) := [(0, .aload_n 1, 1), (1, .getfield 41, 3), (4, .getfield 90, 3), (7, .ifCond .ne 17, 3), (10, .aload_n 0, 1), (11, .bipush 6, 2), (13, .aload_n 1, 1), (14, .getfield 41, 3), (17, .getfield 109, 3), (20, .invokevirtual 33, 3), (23, .ireturn, 1), (24, .iconst 0, 1), (25, .istore_n 3, 1), (26, .iload_n 3, 1), (27, .bipush 30, 2), (29, .if_icmp .ge 25, 3), (32, .aload_n 1, 1), (33, .getfield 41, 3), (36, .getfield 90, 3), (39, .ifCond .eq 15, 3), (42, .aload_n 2, 1), (43, .aload_n 1, 1), (44, .invokevirtual 112, 3), (47, .pop, 1), (48, .iinc 3 1, 3), (51, .goto (-25), 3), (54, .iload_n 3, 1), (55, .ireturn, 1)]
set_option maxRecDepth 100000 in
theorem eX2_letBlowToEnd : am_dec cX2_letBlowToEnd tX2_letBlowToEnd := am_dec_of (by decide +kernel)
def tX2_stopBroadcast : List (Nat × Instr × Nat) := [(0, .aload_n 1, 1), (1, .getfield 41, 3), (4, .getfield 90, 3), (7, .ifCond .ne 17, 3), (10, .aload_n 0, 1), (11, .bipush 6, 2), (13, .aload_n 1, 1), (14, .getfield 41, 3), (17, .getfield 109, 3), (20, .invokevirtual 33, 3), (23, .ireturn, 1), (24, .aload_n 1, 1), (25, .getfield 41, 3), (28, .iconst 0, 1), (29, .putfield 90, 3), (32, .aload_n 1, 1), (33, .getfield 41, 3), (36, .getfield 94, 3), (39, .ireturn, 1)]
set_option maxRecDepth 100000 in
theorem eX2_stopBroadcast : am_dec cX2_stopBroadcast tX2_stopBroadcast := am_dec_of (by decide +kernel)
def tX3_init : List (Nat × Instr × Nat) := [(0, .aload_n 0, 1), (1, .invokespecial 3, 3), (4, .aload_n 0, 1), (5, .bipush 12, 2), (7, .anewarray 9, 3), (10, .putfield 11, 3), (13, .aload_n 0, 1), (14, .bipush 12, 2), (16, .iconst 4, 1), (17, .multianewarray 17 2, 4), (21, .putfield 19, 3), (24, .aload_n 0, 1), (25, .iconst 0, 1), (26, .putfield 22, 3), (29, .aload_n 0, 1), (30, .iconst 0, 1), (31, .putfield 26, 3), (34, .aload_n 0, 1), (35, .bipush 60, 2), (37, .newarray .char, 2), (39, .putfield 29, 3), (42, .aload_n 0, 1), (43, .iconst 0, 1), (44, .putfield 33, 3), (47, .return_, 1)]
set_option maxRecDepth 100000 in
theorem eX3_init : am_dec cX3_init tX3_init := am_dec_of (by decide +kernel)
def tX3_append : List (Nat × Instr × Nat) := [(0, .aload_n 0, 1), (1, .getfield 26, 3), (4, .bipush 60, 2), (6, .if_icmp .ge 23, 3), (9, .aload_n 0, 1), (10, .getfield 29, 3), (13, .aload_n 0, 1), (14, .getfield 26, 3), (17, .iload_n 1, 1), (18, .castore, 1), (19, .aload_n 0, 1), (20, .dup, 1), (21, .getfield 26, 3), (24, .iconst 1, 1), (25, .iadd, 1), (26, .putfield 26, 3), (29, .return_, 1)]
set_option maxRecDepth 100000 in
theorem eX3_append : am_dec cX3_append tX3_append := am_dec_of (by decide +kernel)
def tX3_read : List (Nat × Instr × Nat) := [(0, .aload_n 0, 1), (1, .invokevirtual 36, 3), (4, .istore_n 1, 1), (5, .aload_n 0, 1), (6, .iconst 0, 1), (7, .putfield 26, 3), (10, .iload_n 1, 1), (11, .ireturn, 1)]
set_option maxRecDepth 100000 in
theorem eX3_read : am_dec cX3_read tX3_read := am_dec_of (by decide +kernel)
def tX3_readAll : List (Nat × Instr × Nat) := [(0, .aload_n 0, 1), (1, .iconst 0, 1), (2, .putfield 22, 3), (5, .aload_n 0, 1), (6, .iconst 0, 1), (7, .putfield 33, 3), (10, .aload_n 0, 1), (11, .getfield 22, 3), (14, .bipush 12, 2), (16, .if_icmp .ge 51, 3), (19, .aload_n 0, 1), (20, .aload_n 0, 1), (21, .getfield 33, 3), (24, .invokevirtual 40, 3), (27, .ifCond .eq 40, 3), (30, .aload_n 0, 1), (31, .dup, 1), (32, .getfield 22, 3), (35, .iconst 1, 1), (36, .iadd, 1), (37, .putfield 22, 3), (40, .aload_n 0, 1), (41, .getfield 33, 3), (44, .aload_n 0, 1), (45, .getfield 26, 3), (48, .if_icmp .lt 5, 3), (51, .iconst (-1), 1), (52, .ireturn, 1), (53, .aload_n 0, 1), (54, .bipush 59, 2), (56, .invokevirtual 44, 3), (59, .ifCond .ne (-49), 3), (62, .aload_n 0, 1), (63, .getfield 33, 3), (66, .ireturn, 1), (67, .aload_n 0, 1), (68, .getfield 33, 3), (71, .ireturn, 1)]
set_option maxRecDepth 100000 in
theorem eX3_readAll : am_dec cX3_readAll tX3_readAll := am_dec_of (by decide +kernel)
def tX3_readCommand : List (Nat × Instr × Nat) := [(0, .iload_n 1, 1), (1, .istore_n 2, 1), (2, .iconst 0, 1), (3, .istore_n 3, 1), (4, .iload_n 3, 1), (5, .getstatic 48, 3), (8, .arraylength, 1), (9, .if_icmp .ge 63, 3), (12, .aload_n 0, 1), (13, .iload_n 1, 1), (14, .putfield 33, 3), (17, .aload_n 0, 1), (18, .getstatic 48, 3), (21, .iload_n 3, 1), (22, .aaload, 1), (23, .getfield 51, 3), (26, .aload_n 0, 1), (27, .getfield 19, 3), (30, .aload_n 0, 1), (31, .getfield 22, 3), (34, .aaload, 1), (35, .invokevirtual 55, 3), (38, .ifCond .eq 19, 3), (41, .aload_n 0, 1), (42, .getfield 11, 3), (45, .aload_n 0, 1), (46, .getfield 22, 3), (49, .getstatic 48, 3), (52, .iload_n 3, 1), (53, .aaload, 1), (54, .aastore, 1), (55, .iconst 1, 1), (56, .ireturn, 1), (57, .iload_n 2, 1), (58, .aload_n 0, 1), (59, .getfield 33, 3), (62, .invokestatic 59, 3), (65, .istore_n 2, 1), (66, .iinc 3 1, 3), (69, .goto (-65), 3), (72, .aload_n 0, 1), (73, .iload_n 2, 1), (74, .putfield 33, 3), (77, .iconst 0, 1), (78, .ireturn, 1)]
set_option maxRecDepth 100000 in
theorem eX3_readCommand : am_dec cX3_readCommand tX3_readCommand := am_dec_of (by decide +kernel)
def tX3_takeShape : List (Nat × Instr × Nat) := [(0, .iconst 0, 1), (1, .istore_n 3, 1), (2, .iconst 0, 1), (3, .istore 4, 2), (5, .iload 4, 2), (7, .aload_n 1, 1), (8, .invokevirtual 65, 3), (11, .if_icmp .ge 81, 3), (14, .aload_n 1, 1), (15, .iload 4, 2), (17, .invokevirtual 69, 3), (20, .istore 5, 2), (22, .iload 5, 2), (24, .bipush 35, 2), (26, .if_icmp .eq 17, 3), (29, .iload 5, 2), (31, .bipush 64, 2), (33, .if_icmp .eq 10, 3), (36, .iload 5, 2), (38, .bipush 42, 2), (40, .if_icmp .ne 35, 3), (43, .aload_n 0, 1), (44, .iload 5, 2), (46, .invokevirtual 73, 3), (49, .istore 6, 2), (51, .iload 6, 2), (53, .iconst (-1), 1), (54, .if_icmp .eq 8, 3), (57, .iload_n 3, 1), (58, .iconst 4, 1), (59, .if_icmp .lt 5, 3), (62, .iconst 0, 1), (63, .ireturn, 1), (64, .aload_n 2, 1), (65, .iload_n 3, 1), (66, .iload 6, 2), (68, .iastore, 1), (69, .iinc 3 1, 3), (72, .goto 14, 3), (75, .aload_n 0, 1), (76, .iload 5, 2), (78, .invokevirtual 44, 3), (81, .ifCond .ne 5, 3), (84, .iconst 0, 1), (85, .ireturn, 1), (86, .iinc 4 1, 3), (89, .goto (-84), 3), (92, .iconst 1, 1), (93, .ireturn, 1)]
set_option maxRecDepth 100000 in
theorem eX3_takeShape : am_dec cX3_takeShape tX3_takeShape := am_dec_of (by decide +kernel)
def tX3_takeValue : List (Nat × Instr × Nat) := [(0, .iload_n 1, 1), (1, .bipush 42, 2), (3, .if_icmp .ne 18, 3), (6, .aload_n 0, 1), (7, .bipush 43, 2), (9, .invokevirtual 44, 3), (12, .ifCond .eq 7, 3), (15, .iconst 1, 1), (16, .goto 4, 3), (19, .iconst 0, 1), (20, .ireturn, 1), (21, .aload_n 0, 1), (22, .iload_n 1, 1), (23, .bipush 35, 2), (25, .if_icmp .ne 7, 3), (28, .iconst 1, 1), (29, .goto 4, 3), (32, .iconst 3, 1), (33, .invokevirtual 77, 3), (36, .ireturn, 1)]
set_option maxRecDepth 100000 in
theorem eX3_takeValue : am_dec cX3_takeValue tX3_takeValue := am_dec_of (by decide +kernel)
def tX3_takeSign : List (Nat × Instr × Nat) := [(0, .aload_n 0, 1), (1, .getfield 33, 3), (4, .aload_n 0, 1), (5, .getfield 26, 3), (8, .if_icmp .ge 28, 3), (11, .aload_n 0, 1), (12, .getfield 29, 3), (15, .aload_n 0, 1), (16, .getfield 33, 3), (19, .caload, 1), (20, .iload_n 1, 1), (21, .if_icmp .ne 15, 3), (24, .aload_n 0, 1), (25, .dup, 1), (26, .getfield 33, 3), (29, .iconst 1, 1), (30, .iadd, 1), (31, .putfield 33, 3), (34, .iconst 1, 1), (35, .ireturn, 1), (36, .iconst 0, 1), (37, .ireturn, 1)]
set_option maxRecDepth 100000 in
theorem eX3_takeSign : am_dec cX3_takeSign tX3_takeSign := am_dec_of (by decide +kernel)
def tX3_takeDigits : List (Nat × Instr × Nat) := [(0, .iconst (-1), 1), (1, .istore_n 2, 1), (2, .iconst 0, 1), (3, .istore_n 3, 1), (4, .iload_n 3, 1), (5, .iload_n 1, 1), (6, .if_icmp .ge 80, 3), (9, .aload_n 0, 1), (10, .getfield 33, 3), (13, .aload_n 0, 1), (14, .getfield 26, 3), (17, .if_icmp .ge 63, 3), (20, .aload_n 0, 1), (21, .getfield 29, 3), (24, .aload_n 0, 1), (25, .getfield 33, 3), (28, .caload, 1), (29, .bipush 48, 2), (31, .if_icmp .lt 49, 3), (34, .aload_n 0, 1), (35, .getfield 29, 3), (38, .aload_n 0, 1), (39, .getfield 33, 3), (42, .caload, 1), (43, .bipush 57, 2), (45, .if_icmp .gt 35, 3), (48, .iload_n 2, 1), (49, .iconst 0, 1), (50, .invokestatic 59, 3), (53, .bipush 10, 2), (55, .imul, 1), (56, .aload_n 0, 1), (57, .getfield 29, 3), (60, .aload_n 0, 1), (61, .getfield 33, 3), (64, .caload, 1), (65, .bipush 48, 2), (67, .isub, 1), (68, .iadd, 1), (69, .istore_n 2, 1), (70, .aload_n 0, 1), (71, .dup, 1), (72, .getfield 33, 3), (75, .iconst 1, 1), (76, .iadd, 1), (77, .putfield 33, 3), (80, .iinc 3 1, 3), (83, .goto (-79), 3), (86, .iload_n 2, 1), (87, .ireturn, 1)]
set_option maxRecDepth 100000 in
theorem eX3_takeDigits : am_dec cX3_takeDigits tX3_takeDigits := am_dec_of (by decide +kernel)
def tX4_init : List (Nat × Instr × Nat) := [(0, .aload_n 0, 1), (1, .invokespecial 3, 3), (4, .aload_n 0, 1), (5, .bipush 9, 2), (7, .anewarray 11, 3), (10, .putfield 13, 3), (13, .aload_n 0, 1), (14, .iconst 0, 1), (15, .putfield 17, 3), (18, .aload_n 0, 1), (19, .iconst 0, 1), (20, .putfield 21, 3), (23, .iconst 0, 1), (24, .istore_n 1, 1), (25, .iload_n 1, 1), (26, .bipush 9, 2), (28, .if_icmp .ge 22, 3), (31, .aload_n 0, 1), (32, .getfield 13, 3), (35, .iload_n 1, 1), (36, .new 11, 3), (39, .dup, 1), (40, .invokespecial 24, 3), (43, .aastore, 1), (44, .iinc 1 1, 3), (47, .goto (-22), 3), (50, .return_, 1)]
set_option maxRecDepth 100000 in
theorem eX4_init : am_dec cX4_init tX4_init := am_dec_of (by decide +kernel)
def tX4_note : List (Nat × Instr × Nat) := [(0, .aload_n 0, 1), (1, .getfield 13, 3), (4, .aload_n 0, 1), (5, .getfield 17, 3), (8, .aaload, 1), (9, .aload_n 1, 1), (10, .invokevirtual 25, 3), (13, .return_, 1)]
set_option maxRecDepth 100000 in
theorem eX4_note : am_dec cX4_note tX4_note := am_dec_of (by decide +kernel)
def tX4_noted : List (Nat × Instr × Nat) := [(0, .aload_n 0, 1), (1, .getfield 13, 3), (4, .aload_n 0, 1), (5, .getfield 17, 3), (8, .aaload, 1), (9, .areturn, 1)]
set_option maxRecDepth 100000 in
theorem eX4_noted : am_dec cX4_noted tX4_noted := am_dec_of (by decide +kernel)
def tX4_keep : List (Nat × Instr × Nat) := [(0, .aload_n 0, 1), (1, .aload_n 0, 1), (2, .getfield 17, 3), (5, .iconst 1, 1), (6, .iadd, 1), (7, .bipush 9, 2), (9, .irem, 1), (10, .putfield 17, 3), (13, .aload_n 0, 1), (14, .aload_n 0, 1), (15, .getfield 21, 3), (18, .iconst 1, 1), (19, .iadd, 1), (20, .bipush 8, 2), (22, .invokestatic 29, 3), (25, .putfield 21, 3), (28, .return_, 1)]
set_option maxRecDepth 100000 in
theorem eX4_keep : am_dec cX4_keep tX4_keep := am_dec_of (by decide +kernel)
def tX4_stepBack : List (Nat × Instr × Nat) := [(0, .aload_n 0, 1), (1, .getfield 21, 3), (4, .ifCond .le 42, 3), (7, .aload_n 0, 1), (8, .aload_n 0, 1), (9, .getfield 17, 3), (12, .bipush 9, 2), (14, .iadd, 1), (15, .iconst 1, 1), (16, .isub, 1), (17, .bipush 9, 2), (19, .irem, 1), (20, .putfield 17, 3), (23, .aload_n 0, 1), (24, .dup, 1), (25, .getfield 21, 3), (28, .iconst 1, 1), (29, .isub, 1), (30, .putfield 21, 3), (33, .aload_n 1, 1), (34, .aload_n 0, 1), (35, .getfield 13, 3), (38, .aload_n 0, 1), (39, .getfield 17, 3), (42, .aaload, 1), (43, .invokevirtual 25, 3), (46, .return_, 1)]
set_option maxRecDepth 100000 in
theorem eX4_stepBack : am_dec cX4_stepBack tX4_stepBack := am_dec_of (by decide +kernel)
def tX4_forget : List (Nat × Instr × Nat) := [(0, .aload_n 0, 1), (1, .iconst 0, 1), (2, .putfield 21, 3), (5, .return_, 1)]
set_option maxRecDepth 100000 in
theorem eX4_forget : am_dec cX4_forget tX4_forget := am_dec_of (by decide +kernel)
def tX6_init : List (Nat × Instr × Nat) := [(0, .aload_n 0, 1), (1, .invokespecial 3, 3), (4, .aload_n 0, 1), (5, .bipush 9, 2), (7, .newarray .int, 2), (9, .putfield 9, 3), (12, .aload_n 0, 1), (13, .bipush 16, 2), (15, .newarray .int, 2), (17, .putfield 15, 3), (20, .aload_n 0, 1), (21, .bipush 16, 2), (23, .newarray .int, 2), (25, .putfield 18, 3), (28, .aload_n 0, 1), (29, .bipush 16, 2), (31, .newarray .int, 2), (33, .putfield 21, 3), (36, .aload_n 0, 1), (37, .bipush 16, 2), (39, .newarray .int, 2), (41, .putfield 24, 3), (44, .aload_n 0, 1), (45, .iconst 0, 1), (46, .putfield 27, 3), (49, .aload_n 0, 1), (50, .iconst 0, 1), (51, .putfield 31, 3), (54, .aload_n 0, 1), (55, .iconst 0, 1), (56, .putfield 34, 3), (59, .return_, 1)]
set_option maxRecDepth 100000 in
theorem eX6_init : am_dec cX6_init tX6_init := am_dec_of (by decide +kernel)
def tX6_hasField : List (Nat × Instr × Nat) := [(0, .iload_n 1, 1), (1, .ifCond .lt 15, 3), (4, .iload_n 1, 1), (5, .aload_n 0, 1), (6, .getfield 31, 3), (9, .if_icmp .ge 7, 3), (12, .iconst 1, 1), (13, .goto 4, 3), (16, .iconst 0, 1), (17, .ireturn, 1)]
set_option maxRecDepth 100000 in
theorem eX6_hasField : am_dec cX6_hasField tX6_hasField := am_dec_of (by decide +kernel)
def tX6_hasPath : List (Nat × Instr × Nat) := [(0, .iload_n 1, 1), (1, .ifCond .lt 15, 3), (4, .iload_n 1, 1), (5, .aload_n 0, 1), (6, .getfield 34, 3), (9, .if_icmp .ge 7, 3), (12, .iconst 1, 1), (13, .goto 4, 3), (16, .iconst 0, 1), (17, .ireturn, 1)]
set_option maxRecDepth 100000 in
theorem eX6_hasPath : am_dec cX6_hasPath tX6_hasPath := am_dec_of (by decide +kernel)
def tX6_isOpen : List (Nat × Instr × Nat) := [(0, .iload_n 1, 1), (1, .ifCond .lt 26, 3), (4, .iload_n 1, 1), (5, .aload_n 0, 1), (6, .getfield 34, 3), (9, .if_icmp .ge 18, 3), (12, .aload_n 0, 1), (13, .getfield 27, 3), (16, .iload_n 1, 1), (17, .ishr, 1), (18, .iconst 1, 1), (19, .iand, 1), (20, .ifCond .ne 7, 3), (23, .iconst 1, 1), (24, .goto 4, 3), (27, .iconst 0, 1), (28, .ireturn, 1)]
set_option maxRecDepth 100000 in
theorem eX6_isOpen : am_dec cX6_isOpen tX6_isOpen := am_dec_of (by decide +kernel)
def tX6_closedTotal : List (Nat × Instr × Nat) := [(0, .aload_n 0, 1), (1, .getfield 27, 3), (4, .invokestatic 37, 3), (7, .ireturn, 1)]
set_option maxRecDepth 100000 in
theorem eX6_closedTotal : am_dec cX6_closedTotal tX6_closedTotal := am_dec_of (by decide +kernel)
def tX6_endsOf : List (Nat × Instr × Nat) := [(0, .iconst 1, 1), (1, .aload_n 0, 1), (2, .getfield 15, 3), (5, .iload_n 1, 1), (6, .iaload, 1), (7, .ishl, 1), (8, .iconst 1, 1), (9, .aload_n 0, 1), (10, .getfield 18, 3), (13, .iload_n 1, 1), (14, .iaload, 1), (15, .ishl, 1), (16, .ior, 1), (17, .ireturn, 1)]
set_option maxRecDepth 100000 in
theorem eX6_endsOf : am_dec cX6_endsOf tX6_endsOf := am_dec_of (by decide +kernel)
def tX6_farEnd : List (Nat × Instr × Nat) := [(0, .aload_n 0, 1), (1, .iload_n 1, 1), (2, .invokevirtual 43, 3), (5, .ifCond .ne 5, 3), (8, .iconst (-1), 1), (9, .ireturn, 1), (10, .aload_n 0, 1), (11, .getfield 15, 3), (14, .iload_n 1, 1), (15, .iaload, 1), (16, .iload_n 2, 1), (17, .if_icmp .ne 10, 3), (20, .aload_n 0, 1), (21, .getfield 18, 3), (24, .iload_n 1, 1), (25, .iaload, 1), (26, .ireturn, 1), (27, .aload_n 0, 1), (28, .getfield 18, 3), (31, .iload_n 1, 1), (32, .iaload, 1), (33, .iload_n 2, 1), (34, .if_icmp .ne 12, 3), (37, .aload_n 0, 1), (38, .getfield 15, 3), (41, .iload_n 1, 1), (42, .iaload, 1), (43, .goto 4, 3), (46, .iconst (-1), 1), (47, .ireturn, 1)]
set_option maxRecDepth 100000 in
theorem eX6_farEnd : am_dec cX6_farEnd tX6_farEnd := am_dec_of (by decide +kernel)
def tX6_pathBetween : List (Nat × Instr × Nat) := [(0, .iconst 1, 1), (1, .iload_n 1, 1), (2, .ishl, 1), (3, .iconst 1, 1), (4, .iload_n 2, 1), (5, .ishl, 1), (6, .ior, 1), (7, .istore_n 3, 1), (8, .iconst 0, 1), (9, .istore 4, 2), (11, .iload 4, 2), (13, .aload_n 0, 1), (14, .getfield 34, 3), (17, .if_icmp .ge 22, 3), (20, .aload_n 0, 1), (21, .iload 4, 2), (23, .invokevirtual 47, 3), (26, .iload_n 3, 1), (27, .if_icmp .ne 6, 3), (30, .iload 4, 2), (32, .ireturn, 1), (33, .iinc 4 1, 3), (36, .goto (-25), 3), (39, .iconst (-1), 1), (40, .ireturn, 1)]
set_option maxRecDepth 100000 in
theorem eX6_pathBetween : am_dec cX6_pathBetween tX6_pathBetween := am_dec_of (by decide +kernel)
def tX6_dangerOf : List (Nat × Instr × Nat) := [(0, .aload_n 0, 1), (1, .getfield 24, 3), (4, .iload_n 1, 1), (5, .iaload, 1), (6, .aload_n 0, 1), (7, .getfield 9, 3), (10, .iload_n 2, 1), (11, .iaload, 1), (12, .if_icmp .le 19, 3), (15, .aload_n 0, 1), (16, .getfield 24, 3), (19, .iload_n 1, 1), (20, .iaload, 1), (21, .aload_n 0, 1), (22, .getfield 9, 3), (25, .iload_n 2, 1), (26, .iaload, 1), (27, .isub, 1), (28, .goto 4, 3), (31, .iconst 0, 1), (32, .ireturn, 1)]
set_option maxRecDepth 100000 in
theorem eX6_dangerOf : am_dec cX6_dangerOf tX6_dangerOf := am_dec_of (by decide +kernel)
def tX6_copyFrom : List (Nat × Instr × Nat) := [(0, .aload_n 1, 1), (1, .getfield 9, 3), (4, .iconst 0, 1), (5, .aload_n 0, 1), (6, .getfield 9, 3), (9, .iconst 0, 1), (10, .bipush 9, 2), (12, .invokestatic 50, 3), (15, .aload_n 1, 1), (16, .getfield 15, 3), (19, .iconst 0, 1), (20, .aload_n 0, 1), (21, .getfield 15, 3), (24, .iconst 0, 1), (25, .bipush 16, 2), (27, .invokestatic 50, 3), (30, .aload_n 1, 1), (31, .getfield 18, 3), (34, .iconst 0, 1), (35, .aload_n 0, 1), (36, .getfield 18, 3), (39, .iconst 0, 1), (40, .bipush 16, 2), (42, .invokestatic 50, 3), (45, .aload_n 1, 1), (46, .getfield 21, 3), (49, .iconst 0, 1), (50, .aload_n 0, 1), (51, .getfield 21, 3), (54, .iconst 0, 1), (55, .bipush 16, 2), (57, .invokestatic 50, 3), (60, .aload_n 1, 1), (61, .getfield 24, 3), (64, .iconst 0, 1), (65, .aload_n 0, 1), (66, .getfield 24, 3), (69, .iconst 0, 1), (70, .bipush 16, 2), (72, .invokestatic 50, 3), (75, .aload_n 0, 1), (76, .aload_n 1, 1), (77, .getfield 27, 3), (80, .putfield 27, 3), (83, .aload_n 0, 1), (84, .aload_n 1, 1), (85, .getfield 31, 3), (88, .putfield 31, 3), (91, .aload_n 0, 1), (92, .aload_n 1, 1), (93, .getfield 34, 3), (96, .putfield 34, 3), (99, .return_, 1)]
set_option maxRecDepth 100000 in
theorem eX6_copyFrom : am_dec cX6_copyFrom tX6_copyFrom := am_dec_of (by decide +kernel)
def tX7_init : List (Nat × Instr × Nat) := [(0, .aload_n 0, 1), (1, .invokespecial 3, 3), (4, .aload_n 0, 1), (5, .bipush 9, 2), (7, .newarray .int, 2), (9, .putfield 9, 3), (12, .aload_n 0, 1), (13, .bipush 9, 2), (15, .newarray .int, 2), (17, .putfield 15, 3), (20, .aload_n 0, 1), (21, .bipush 9, 2), (23, .newarray .int, 2), (25, .putfield 18, 3), (28, .aload_n 0, 1), (29, .bipush 9, 2), (31, .newarray .float, 2), (33, .putfield 21, 3), (36, .aload_n 0, 1), (37, .bipush 9, 2), (39, .newarray .int, 2), (41, .putfield 25, 3), (44, .return_, 1)]
set_option maxRecDepth 100000 in
theorem eX7_init : am_dec cX7_init tX7_init := am_dec_of (by decide +kernel)
def tX7_grow : List (Nat × Instr × Nat) := [(0, .iconst 0, 1), (1, .istore_n 3, 1), (2, .iload_n 3, 1), (3, .bipush 9, 2), (5, .if_icmp .ge 55, 3), (8, .aload_n 0, 1), (9, .getfield 9, 3), (12, .iload_n 3, 1), (13, .iconst (-1), 1), (14, .iastore, 1), (15, .aload_n 0, 1), (16, .getfield 15, 3), (19, .iload_n 3, 1), (20, .iconst (-1), 1), (21, .iastore, 1), (22, .aload_n 0, 1), (23, .getfield 18, 3), (26, .iload_n 3, 1), (27, .iload_n 3, 1), (28, .iload_n 2, 1), (29, .if_icmp .ne 7, 3), (32, .iconst 0, 1), (33, .goto 4, 3), (36, .iconst (-1), 1), (37, .iastore, 1), (38, .aload_n 0, 1), (39, .getfield 21, 3), (42, .iload_n 3, 1), (43, .iload_n 3, 1), (44, .iload_n 2, 1), (45, .if_icmp .ne 7, 3), (48, .fconst 1, 1), (49, .goto 4, 3), (52, .fconst 0, 1), (53, .fastore, 1), (54, .iinc 3 1, 3), (57, .goto (-55), 3), (60, .iconst 1, 1), (61, .istore_n 3, 1), (62, .iload_n 3, 1), (63, .aload_n 1, 1), (64, .getfield 28, 3), (67, .if_icmp .ge 29, 3), (70, .aload_n 0, 1), (71, .aload_n 1, 1), (72, .invokevirtual 34, 3), (75, .istore 4, 2), (77, .iload 4, 2), (79, .iconst (-1), 1), (80, .if_icmp .eq 10, 3), (83, .aload_n 0, 1), (84, .aload_n 1, 1), (85, .iload 4, 2), (87, .invokevirtual 38, 3), (90, .iinc 3 1, 3), (93, .goto (-31), 3), (96, .return_, 1)]
set_option maxRecDepth 100000 in
theorem eX7_grow : am_dec cX7_grow tX7_grow := am_dec_of (by decide +kernel)
def tX7_firstPathOut : List (Nat × Instr × Nat) := [(0, .iconst (-1), 1), (1, .istore_n 2, 1), (2, .iconst 0, 1), (3, .istore_n 3, 1), (4, .iload_n 3, 1), (5, .aload_n 1, 1), (6, .getfield 42, 3), (9, .if_icmp .ge 94, 3), (12, .aload_n 0, 1), (13, .getfield 18, 3), (16, .aload_n 1, 1), (17, .getfield 45, 3), (20, .iload_n 3, 1), (21, .iaload, 1), (22, .iaload, 1), (23, .iconst (-1), 1), (24, .if_icmp .ne 7, 3), (27, .iconst 1, 1), (28, .goto 4, 3), (31, .iconst 0, 1), (32, .aload_n 0, 1), (33, .getfield 18, 3), (36, .aload_n 1, 1), (37, .getfield 48, 3), (40, .iload_n 3, 1), (41, .iaload, 1), (42, .iaload, 1), (43, .iconst (-1), 1), (44, .if_icmp .ne 7, 3), (47, .iconst 1, 1), (48, .goto 4, 3), (51, .iconst 0, 1), (52, .if_icmp .eq 7, 3), (55, .iconst 1, 1), (56, .goto 4, 3), (59, .iconst 0, 1), (60, .istore 4, 2), (62, .aload_n 1, 1), (63, .iload_n 3, 1), (64, .invokevirtual 51, 3), (67, .ifCond .eq 30, 3), (70, .iload 4, 2), (72, .ifCond .eq 25, 3), (75, .iload_n 2, 1), (76, .iconst (-1), 1), (77, .if_icmp .eq 18, 3), (80, .aload_n 1, 1), (81, .getfield 55, 3), (84, .iload_n 3, 1), (85, .iaload, 1), (86, .aload_n 1, 1), (87, .getfield 55, 3), (90, .iload_n 2, 1), (91, .iaload, 1), (92, .if_icmp .ge 5, 3), (95, .iload_n 3, 1), (96, .istore_n 2, 1), (97, .iinc 3 1, 3), (100, .goto (-96), 3), (103, .iload_n 2, 1), (104, .ireturn, 1)]
set_option maxRecDepth 100000 in
theorem eX7_firstPathOut : am_dec cX7_firstPathOut tX7_firstPathOut := am_dec_of (by decide +kernel)
def tX7_attach : List (Nat × Instr × Nat) := [(0, .aload_n 0, 1), (1, .getfield 18, 3), (4, .aload_n 1, 1), (5, .getfield 48, 3), (8, .iload_n 2, 1), (9, .iaload, 1), (10, .iaload, 1), (11, .iconst (-1), 1), (12, .if_icmp .ne 7, 3), (15, .iconst 1, 1), (16, .goto 4, 3), (19, .iconst 0, 1), (20, .istore_n 3, 1), (21, .iload_n 3, 1), (22, .ifCond .eq 12, 3), (25, .aload_n 1, 1), (26, .getfield 45, 3), (29, .iload_n 2, 1), (30, .iaload, 1), (31, .goto 9, 3), (34, .aload_n 1, 1), (35, .getfield 48, 3), (38, .iload_n 2, 1), (39, .iaload, 1), (40, .istore 4, 2), (42, .iload_n 3, 1), (43, .ifCond .eq 12, 3), (46, .aload_n 1, 1), (47, .getfield 48, 3), (50, .iload_n 2, 1), (51, .iaload, 1), (52, .goto 9, 3), (55, .aload_n 1, 1), (56, .getfield 45, 3), (59, .iload_n 2, 1), (60, .iaload, 1), (61, .istore 5, 2), (63, .aload_n 0, 1), (64, .getfield 9, 3), (67, .iload 5, 2), (69, .iload 4, 2), (71, .iastore, 1), (72, .aload_n 0, 1), (73, .getfield 15, 3), (76, .iload 5, 2), (78, .iload_n 2, 1), (79, .iastore, 1), (80, .aload_n 0, 1), (81, .getfield 18, 3), (84, .iload 5, 2), (86, .aload_n 0, 1), (87, .getfield 18, 3), (90, .iload 4, 2), (92, .iaload, 1), (93, .iconst 1, 1), (94, .iadd, 1), (95, .iastore, 1), (96, .aload_n 0, 1), (97, .getfield 21, 3), (100, .iload 5, 2), (102, .aload_n 0, 1), (103, .getfield 21, 3), (106, .iload 4, 2), (108, .faload, 1), (109, .bipush 10, 2), (111, .aload_n 1, 1), (112, .iload_n 2, 1), (113, .iload 5, 2), (115, .invokevirtual 58, 3), (118, .isub, 1), (119, .i2f, 1), (120, .ldc 62, 2), (122, .fdiv, 1), (123, .fmul, 1), (124, .fastore, 1), (125, .return_, 1)]
set_option maxRecDepth 100000 in
theorem eX7_attach : am_dec cX7_attach tX7_attach := am_dec_of (by decide +kernel)
def tX7_costGrown : List (Nat × Instr × Nat) := [(0, .aload_n 0, 1), (1, .aload_n 1, 1), (2, .iload_n 2, 1), (3, .invokevirtual 63, 3), (6, .iconst 0, 1), (7, .istore_n 3, 1), (8, .iconst 0, 1), (9, .istore 4, 2), (11, .iload 4, 2), (13, .aload_n 1, 1), (14, .getfield 28, 3), (17, .if_icmp .ge 35, 3), (20, .aload_n 0, 1), (21, .getfield 15, 3), (24, .iload 4, 2), (26, .iaload, 1), (27, .iconst (-1), 1), (28, .if_icmp .eq 18, 3), (31, .iload_n 3, 1), (32, .aload_n 1, 1), (33, .getfield 55, 3), (36, .aload_n 0, 1), (37, .getfield 15, 3), (40, .iload 4, 2), (42, .iaload, 1), (43, .iaload, 1), (44, .iadd, 1), (45, .istore_n 3, 1), (46, .iinc 4 1, 3), (49, .goto (-38), 3), (52, .iload_n 3, 1), (53, .ireturn, 1)]
set_option maxRecDepth 100000 in
theorem eX7_costGrown : am_dec cX7_costGrown tX7_costGrown := am_dec_of (by decide +kernel)
def tX7_chooseInOrder : List (Nat × Instr × Nat) := [(0, .iconst 0, 1), (1, .istore_n 3, 1), (2, .iload_n 3, 1), (3, .bipush 9, 2), (5, .if_icmp .ge 16, 3), (8, .aload_n 0, 1), (9, .getfield 25, 3), (12, .iload_n 3, 1), (13, .iload_n 3, 1), (14, .iastore, 1), (15, .iinc 3 1, 3), (18, .goto (-16), 3), (21, .iconst 0, 1), (22, .istore_n 3, 1), (23, .iconst 1, 1), (24, .istore 4, 2), (26, .iload 4, 2), (28, .bipush 9, 2), (30, .if_icmp .gt 65, 3), (33, .iconst 0, 1), (34, .istore 5, 2), (36, .iload 5, 2), (38, .aload_n 1, 1), (39, .getfield 42, 3), (42, .if_icmp .ge 47, 3), (45, .aload_n 1, 1), (46, .getfield 55, 3), (49, .iload 5, 2), (51, .iaload, 1), (52, .iload 4, 2), (54, .if_icmp .ne 29, 3), (57, .aload_n 1, 1), (58, .iload 5, 2), (60, .invokevirtual 51, 3), (63, .ifCond .eq 20, 3), (66, .aload_n 0, 1), (67, .aload_n 1, 1), (68, .iload 5, 2), (70, .invokevirtual 66, 3), (73, .ifCond .eq 10, 3), (76, .iload_n 3, 1), (77, .iconst 1, 1), (78, .iload 5, 2), (80, .ishl, 1), (81, .ior, 1), (82, .istore_n 3, 1), (83, .iinc 5 1, 3), (86, .goto (-50), 3), (89, .iinc 4 1, 3), (92, .goto (-66), 3), (95, .aload_n 0, 1), (96, .aload_n 1, 1), (97, .iload_n 2, 1), (98, .iload_n 3, 1), (99, .invokevirtual 70, 3), (102, .ireturn, 1)]
set_option maxRecDepth 100000 in
theorem eX7_chooseInOrder : am_dec cX7_chooseInOrder tX7_chooseInOrder := am_dec_of (by decide +kernel)
def tX7_joinLabels : List (Nat × Instr × Nat) := [(0, .aload_n 0, 1), (1, .getfield 25, 3), (4, .aload_n 1, 1), (5, .getfield 45, 3), (8, .iload_n 2, 1), (9, .iaload, 1), (10, .iaload, 1), (11, .istore_n 3, 1), (12, .aload_n 0, 1), (13, .getfield 25, 3), (16, .aload_n 1, 1), (17, .getfield 48, 3), (20, .iload_n 2, 1), (21, .iaload, 1), (22, .iaload, 1), (23, .istore 4, 2), (25, .iconst 0, 1), (26, .istore 5, 2), (28, .iload 5, 2), (30, .aload_n 1, 1), (31, .getfield 28, 3), (34, .if_icmp .ge 29, 3), (37, .aload_n 0, 1), (38, .getfield 25, 3), (41, .iload 5, 2), (43, .iaload, 1), (44, .iload 4, 2), (46, .if_icmp .ne 11, 3), (49, .aload_n 0, 1), (50, .getfield 25, 3), (53, .iload 5, 2), (55, .iload_n 3, 1), (56, .iastore, 1), (57, .iinc 5 1, 3), (60, .goto (-32), 3), (63, .iload_n 3, 1), (64, .iload 4, 2), (66, .if_icmp .eq 7, 3), (69, .iconst 1, 1), (70, .goto 4, 3), (73, .iconst 0, 1), (74, .ireturn, 1)]
set_option maxRecDepth 100000 in
theorem eX7_joinLabels : am_dec cX7_joinLabels tX7_joinLabels := am_dec_of (by decide +kernel)
def tX7_onlyAround : List (Nat × Instr × Nat) := [(0, .iconst 0, 1), (1, .istore 4, 2), (3, .iconst 0, 1), (4, .istore 5, 2), (6, .iload 5, 2), (8, .aload_n 1, 1), (9, .getfield 42, 3), (12, .if_icmp .ge 48, 3), (15, .iload_n 3, 1), (16, .iload 5, 2), (18, .invokestatic 74, 3), (21, .ifCond .eq 33, 3), (24, .aload_n 0, 1), (25, .getfield 25, 3), (28, .aload_n 1, 1), (29, .getfield 45, 3), (32, .iload 5, 2), (34, .iaload, 1), (35, .iaload, 1), (36, .aload_n 0, 1), (37, .getfield 25, 3), (40, .iload_n 2, 1), (41, .iaload, 1), (42, .if_icmp .ne 12, 3), (45, .iload 4, 2), (47, .iconst 1, 1), (48, .iload 5, 2), (50, .ishl, 1), (51, .ior, 1), (52, .istore 4, 2), (54, .iinc 5 1, 3), (57, .goto (-51), 3), (60, .iload 4, 2), (62, .ireturn, 1)]
set_option maxRecDepth 100000 in
theorem eX7_onlyAround : am_dec cX7_onlyAround tX7_onlyAround := am_dec_of (by decide +kernel)
def tX7_costInOrder : List (Nat × Instr × Nat) := [(0, .aload_n 0, 1), (1, .aload_n 1, 1), (2, .iload_n 2, 1), (3, .invokevirtual 78, 3), (6, .istore_n 3, 1), (7, .iconst 0, 1), (8, .istore 4, 2), (10, .iconst 0, 1), (11, .istore 5, 2), (13, .iload 5, 2), (15, .aload_n 1, 1), (16, .getfield 42, 3), (19, .if_icmp .ge 30, 3), (22, .iload_n 3, 1), (23, .iload 5, 2), (25, .invokestatic 74, 3), (28, .ifCond .eq 15, 3), (31, .iload 4, 2), (33, .aload_n 1, 1), (34, .getfield 55, 3), (37, .iload 5, 2), (39, .iaload, 1), (40, .iadd, 1), (41, .istore 4, 2), (43, .iinc 5 1, 3), (46, .goto (-33), 3), (49, .iload 4, 2), (51, .ireturn, 1)]
set_option maxRecDepth 100000 in
theorem eX7_costInOrder : am_dec cX7_costInOrder tX7_costInOrder := am_dec_of (by decide +kernel)
def tX8_init : List (Nat × Instr × Nat) := [(0, .aload_n 0, 1), (1, .invokespecial 3, 3), (4, .aload_n 0, 1), (5, .new 9, 3), (8, .dup, 1), (9, .invokespecial 11, 3), (12, .putfield 12, 3), (15, .aload_n 0, 1), (16, .new 18, 3), (19, .dup, 1), (20, .invokespecial 20, 3), (23, .putfield 21, 3), (26, .aload_n 0, 1), (27, .bipush 16, 2), (29, .newarray .int, 2), (31, .putfield 25, 3), (34, .aload_n 0, 1), (35, .iconst 0, 1), (36, .putfield 29, 3), (39, .aload_n 0, 1), (40, .iconst 0, 1), (41, .putfield 33, 3), (44, .aload_n 0, 1), (45, .iconst 0, 1), (46, .putfield 36, 3), (49, .aload_n 0, 1), (50, .iconst 0, 1), (51, .putfield 39, 3), (54, .aload_n 0, 1), (55, .iconst 0, 1), (56, .putfield 42, 3), (59, .aload_n 0, 1), (60, .iconst 0, 1), (61, .putfield 45, 3), (64, .return_, 1)]
set_option maxRecDepth 100000 in
theorem eX8_init : am_dec cX8_init tX8_init := am_dec_of (by decide +kernel)
def tX8_fieldsAheadOf : List (Nat × Instr × Nat) := [(0, .iconst 0, 1), (1, .istore_n 2, 1), (2, .iconst 0, 1), (3, .istore_n 3, 1), (4, .iload_n 3, 1), (5, .aload_n 0, 1), (6, .getfield 12, 3), (9, .getfield 48, 3), (12, .if_icmp .ge 26, 3), (15, .iload_n 3, 1), (16, .iload_n 1, 1), (17, .if_icmp .eq 15, 3), (20, .aload_n 0, 1), (21, .iload_n 3, 1), (22, .iload_n 1, 1), (23, .invokevirtual 51, 3), (26, .ifCond .eq 6, 3), (29, .iinc 2 1, 3), (32, .iinc 3 1, 3), (35, .goto (-31), 3), (38, .iload_n 2, 1), (39, .ireturn, 1)]
set_option maxRecDepth 100000 in
theorem eX8_fieldsAheadOf : am_dec cX8_fieldsAheadOf tX8_fieldsAheadOf := am_dec_of (by decide +kernel)
def tX8_fieldIsAhead : List (Nat × Instr × Nat) := [(0, .aload_n 0, 1), (1, .getfield 21, 3), (4, .getfield 55, 3), (7, .iload_n 1, 1), (8, .iaload, 1), (9, .invokestatic 58, 3), (12, .istore_n 3, 1), (13, .aload_n 0, 1), (14, .getfield 21, 3), (17, .getfield 55, 3), (20, .iload_n 2, 1), (21, .iaload, 1), (22, .invokestatic 58, 3), (25, .istore 4, 2), (27, .iload_n 3, 1), (28, .iload 4, 2), (30, .if_icmp .eq 15, 3), (33, .iload_n 3, 1), (34, .iload 4, 2), (36, .if_icmp .le 7, 3), (39, .iconst 1, 1), (40, .goto 4, 3), (43, .iconst 0, 1), (44, .ireturn, 1), (45, .aload_n 0, 1), (46, .getfield 12, 3), (49, .getfield 64, 3), (52, .iload_n 1, 1), (53, .iaload, 1), (54, .aload_n 0, 1), (55, .getfield 12, 3), (58, .getfield 64, 3), (61, .iload_n 2, 1), (62, .iaload, 1), (63, .if_icmp .eq 30, 3), (66, .aload_n 0, 1), (67, .getfield 12, 3), (70, .getfield 64, 3), (73, .iload_n 1, 1), (74, .iaload, 1), (75, .aload_n 0, 1), (76, .getfield 12, 3), (79, .getfield 64, 3), (82, .iload_n 2, 1), (83, .iaload, 1), (84, .if_icmp .le 7, 3), (87, .iconst 1, 1), (88, .goto 4, 3), (91, .iconst 0, 1), (92, .ireturn, 1), (93, .iload_n 1, 1), (94, .iload_n 2, 1), (95, .if_icmp .ge 7, 3), (98, .iconst 1, 1), (99, .goto 4, 3), (102, .iconst 0, 1), (103, .ireturn, 1)]
set_option maxRecDepth 100000 in
theorem eX8_fieldIsAhead : am_dec cX8_fieldIsAhead tX8_fieldIsAhead := am_dec_of (by decide +kernel)
def tX8_pathsAheadOf : List (Nat × Instr × Nat) := [(0, .iconst 0, 1), (1, .istore_n 2, 1), (2, .iconst 0, 1), (3, .istore_n 3, 1), (4, .iload_n 3, 1), (5, .aload_n 0, 1), (6, .getfield 12, 3), (9, .getfield 67, 3), (12, .if_icmp .ge 26, 3), (15, .iload_n 3, 1), (16, .iload_n 1, 1), (17, .if_icmp .eq 15, 3), (20, .aload_n 0, 1), (21, .iload_n 3, 1), (22, .iload_n 1, 1), (23, .invokevirtual 70, 3), (26, .ifCond .eq 6, 3), (29, .iinc 2 1, 3), (32, .iinc 3 1, 3), (35, .goto (-31), 3), (38, .iload_n 2, 1), (39, .ireturn, 1)]
set_option maxRecDepth 100000 in
theorem eX8_pathsAheadOf : am_dec cX8_pathsAheadOf tX8_pathsAheadOf := am_dec_of (by decide +kernel)
def tX8_pathIsAhead : List (Nat × Instr × Nat) := [(0, .aload_n 0, 1), (1, .getfield 25, 3), (4, .iload_n 1, 1), (5, .iaload, 1), (6, .aload_n 0, 1), (7, .getfield 25, 3), (10, .iload_n 2, 1), (11, .iaload, 1), (12, .if_icmp .eq 24, 3), (15, .aload_n 0, 1), (16, .getfield 25, 3), (19, .iload_n 1, 1), (20, .iaload, 1), (21, .aload_n 0, 1), (22, .getfield 25, 3), (25, .iload_n 2, 1), (26, .iaload, 1), (27, .if_icmp .le 7, 3), (30, .iconst 1, 1), (31, .goto 4, 3), (34, .iconst 0, 1), (35, .ireturn, 1), (36, .aload_n 0, 1), (37, .getfield 12, 3), (40, .getfield 73, 3), (43, .iload_n 1, 1), (44, .iaload, 1), (45, .aload_n 0, 1), (46, .getfield 12, 3), (49, .getfield 73, 3), (52, .iload_n 2, 1), (53, .iaload, 1), (54, .if_icmp .eq 30, 3), (57, .aload_n 0, 1), (58, .getfield 12, 3), (61, .getfield 73, 3), (64, .iload_n 1, 1), (65, .iaload, 1), (66, .aload_n 0, 1), (67, .getfield 12, 3), (70, .getfield 73, 3), (73, .iload_n 2, 1), (74, .iaload, 1), (75, .if_icmp .ge 7, 3), (78, .iconst 1, 1), (79, .goto 4, 3), (82, .iconst 0, 1), (83, .ireturn, 1), (84, .iload_n 1, 1), (85, .iload_n 2, 1), (86, .if_icmp .ge 7, 3), (89, .iconst 1, 1), (90, .goto 4, 3), (93, .iconst 0, 1), (94, .ireturn, 1)]
set_option maxRecDepth 100000 in
theorem eX8_pathIsAhead : am_dec cX8_pathIsAhead tX8_pathIsAhead := am_dec_of (by decide +kernel)
def tX8_totalsAgree : List (Nat × Instr × Nat) := [(0, .iconst 0, 1), (1, .istore_n 1, 1), (2, .iconst 0, 1), (3, .istore_n 2, 1), (4, .iconst 0, 1), (5, .istore_n 3, 1), (6, .iload_n 3, 1), (7, .aload_n 0, 1), (8, .getfield 12, 3), (11, .getfield 67, 3), (14, .if_icmp .ge 37, 3), (17, .iload_n 1, 1), (18, .aload_n 0, 1), (19, .getfield 25, 3), (22, .iload_n 3, 1), (23, .iaload, 1), (24, .iadd, 1), (25, .istore_n 1, 1), (26, .iload_n 2, 1), (27, .aload_n 0, 1), (28, .getfield 25, 3), (31, .iload_n 3, 1), (32, .iaload, 1), (33, .aload_n 0, 1), (34, .getfield 12, 3), (37, .getfield 73, 3), (40, .iload_n 3, 1), (41, .iaload, 1), (42, .imul, 1), (43, .iadd, 1), (44, .istore_n 2, 1), (45, .iinc 3 1, 3), (48, .goto (-42), 3), (51, .iload_n 1, 1), (52, .aload_n 0, 1), (53, .getfield 29, 3), (56, .if_icmp .ne 15, 3), (59, .iload_n 2, 1), (60, .aload_n 0, 1), (61, .getfield 39, 3), (64, .if_icmp .ne 7, 3), (67, .iconst 1, 1), (68, .goto 4, 3), (71, .iconst 0, 1), (72, .ireturn, 1)]
set_option maxRecDepth 100000 in
theorem eX8_totalsAgree : am_dec cX8_totalsAgree tX8_totalsAgree := am_dec_of (by decide +kernel)
def tX8_copyFrom : List (Nat × Instr × Nat) := [(0, .aload_n 0, 1), (1, .getfield 12, 3), (4, .aload_n 1, 1), (5, .getfield 12, 3), (8, .invokevirtual 76, 3), (11, .aload_n 0, 1), (12, .getfield 21, 3), (15, .aload_n 1, 1), (16, .getfield 21, 3), (19, .invokevirtual 80, 3), (22, .aload_n 1, 1), (23, .getfield 25, 3), (26, .iconst 0, 1), (27, .aload_n 0, 1), (28, .getfield 25, 3), (31, .iconst 0, 1), (32, .bipush 16, 2), (34, .invokestatic 83, 3), (37, .aload_n 0, 1), (38, .aload_n 1, 1), (39, .getfield 29, 3), (42, .putfield 29, 3), (45, .aload_n 0, 1), (46, .aload_n 1, 1), (47, .getfield 33, 3), (50, .putfield 33, 3), (53, .aload_n 0, 1), (54, .aload_n 1, 1), (55, .getfield 36, 3), (58, .putfield 36, 3), (61, .aload_n 0, 1), (62, .aload_n 1, 1), (63, .getfield 39, 3), (66, .putfield 39, 3), (69, .aload_n 0, 1), (70, .aload_n 1, 1), (71, .getfield 42, 3), (74, .putfield 42, 3), (77, .aload_n 0, 1), (78, .aload_n 1, 1), (79, .getfield 45, 3), (82, .putfield 45, 3), (85, .return_, 1)]
set_option maxRecDepth 100000 in
theorem eX8_copyFrom : am_dec cX8_copyFrom tX8_copyFrom := am_dec_of (by decide +kernel)
def tX9_init : List (Nat × Instr × Nat) := [(0, .aload_n 0, 1), (1, .invokespecial 3, 3), (4, .aload_n 0, 1), (5, .bipush 9, 2), (7, .newarray .int, 2), (9, .putfield 9, 3), (12, .aload_n 0, 1), (13, .bipush 16, 2), (15, .newarray .int, 2), (17, .putfield 15, 3), (20, .aload_n 0, 1), (21, .bipush 9, 2), (23, .newarray .int, 2), (25, .putfield 18, 3), (28, .aload_n 0, 1), (29, .bipush 9, 2), (31, .newarray .int, 2), (33, .putfield 21, 3), (36, .aload_n 0, 1), (37, .bipush 9, 2), (39, .newarray .int, 2), (41, .putfield 24, 3), (44, .aload_n 0, 1), (45, .bipush 9, 2), (47, .newarray .int, 2), (49, .putfield 27, 3), (52, .aload_n 0, 1), (53, .iconst 0, 1), (54, .putfield 30, 3), (57, .return_, 1)]
set_option maxRecDepth 100000 in
theorem eX9_init : am_dec cX9_init tX9_init := am_dec_of (by decide +kernel)
def tX9_groupAround : List (Nat × Instr × Nat) := [(0, .iconst 1, 1), (1, .iload_n 2, 1), (2, .ishl, 1), (3, .istore 4, 2), (5, .iconst 1, 1), (6, .istore 5, 2), (8, .iload 5, 2), (10, .aload_n 1, 1), (11, .getfield 34, 3), (14, .if_icmp .ge 65, 3), (17, .iconst 0, 1), (18, .istore 6, 2), (20, .iload 6, 2), (22, .aload_n 1, 1), (23, .getfield 39, 3), (26, .if_icmp .ge 47, 3), (29, .aload_n 1, 1), (30, .iload 6, 2), (32, .invokevirtual 42, 3), (35, .istore 7, 2), (37, .iload 6, 2), (39, .iload_n 3, 1), (40, .if_icmp .eq 27, 3), (43, .aload_n 1, 1), (44, .iload 6, 2), (46, .invokevirtual 46, 3), (49, .ifCond .eq 18, 3), (52, .iload 4, 2), (54, .iload 7, 2), (56, .iand, 1), (57, .ifCond .eq 10, 3), (60, .iload 4, 2), (62, .iload 7, 2), (64, .ior, 1), (65, .istore 4, 2), (67, .iinc 6 1, 3), (70, .goto (-50), 3), (73, .iinc 5 1, 3), (76, .goto (-68), 3), (79, .iload 4, 2), (81, .ireturn, 1)]
set_option maxRecDepth 100000 in
theorem eX9_groupAround : am_dec cX9_groupAround tX9_groupAround := am_dec_of (by decide +kernel)
def tX9_countGroups : List (Nat × Instr × Nat) := [(0, .iconst 0, 1), (1, .istore_n 3, 1), (2, .iconst 0, 1), (3, .istore 4, 2), (5, .iconst 0, 1), (6, .istore 5, 2), (8, .iload 5, 2), (10, .aload_n 1, 1), (11, .getfield 34, 3), (14, .if_icmp .ge 32, 3), (17, .iload_n 3, 1), (18, .iload 5, 2), (20, .invokestatic 50, 3), (23, .ifCond .ne 17, 3), (26, .iload_n 3, 1), (27, .aload_n 0, 1), (28, .aload_n 1, 1), (29, .iload 5, 2), (31, .iload_n 2, 1), (32, .invokevirtual 54, 3), (35, .ior, 1), (36, .istore_n 3, 1), (37, .iinc 4 1, 3), (40, .iinc 5 1, 3), (43, .goto (-35), 3), (46, .iload 4, 2), (48, .ireturn, 1)]
set_option maxRecDepth 100000 in
theorem eX9_countGroups : am_dec cX9_countGroups tX9_countGroups := am_dec_of (by decide +kernel)
def tX9_cheapestByVisiting : List (Nat × Instr × Nat) := [(0, .aload_n 0, 1), (1, .iload_n 2, 1), (2, .invokevirtual 58, 3), (5, .iconst 0, 1), (6, .istore 4, 2), (8, .iconst 0, 1), (9, .istore 5, 2), (11, .iload 5, 2), (13, .aload_n 1, 1), (14, .getfield 34, 3), (17, .if_icmp .ge 40, 3), (20, .aload_n 0, 1), (21, .aload_n 1, 1), (22, .iload 4, 2), (24, .invokevirtual 62, 3), (27, .istore 6, 2), (29, .iload 6, 2), (31, .iconst (-1), 1), (32, .if_icmp .eq 19, 3), (35, .iload 4, 2), (37, .iconst 1, 1), (38, .iload 6, 2), (40, .ishl, 1), (41, .ior, 1), (42, .istore 4, 2), (44, .aload_n 0, 1), (45, .aload_n 1, 1), (46, .iload 6, 2), (48, .invokevirtual 66, 3), (51, .iinc 5 1, 3), (54, .goto (-43), 3), (57, .aload_n 0, 1), (58, .getfield 9, 3), (61, .iload_n 3, 1), (62, .iaload, 1), (63, .ireturn, 1)]
set_option maxRecDepth 100000 in
theorem eX9_cheapestByVisiting : am_dec cX9_cheapestByVisiting tX9_cheapestByVisiting := am_dec_of (by decide +kernel)
def tX9_startCosts : List (Nat × Instr × Nat) := [(0, .iconst 0, 1), (1, .istore_n 2, 1), (2, .iload_n 2, 1), (3, .bipush 9, 2), (5, .if_icmp .ge 27, 3), (8, .aload_n 0, 1), (9, .getfield 9, 3), (12, .iload_n 2, 1), (13, .iload_n 2, 1), (14, .iload_n 1, 1), (15, .if_icmp .ne 7, 3), (18, .iconst 0, 1), (19, .goto 6, 3), (22, .sipush 1000, 3), (25, .iastore, 1), (26, .iinc 2 1, 3), (29, .goto (-27), 3), (32, .return_, 1)]
set_option maxRecDepth 100000 in
theorem eX9_startCosts : am_dec cX9_startCosts tX9_startCosts := am_dec_of (by decide +kernel)
def tX9_nearestOutside : List (Nat × Instr × Nat) := [(0, .iconst (-1), 1), (1, .istore_n 3, 1), (2, .sipush 1000, 3), (5, .istore 4, 2), (7, .iconst 0, 1), (8, .istore 5, 2), (10, .iload 5, 2), (12, .aload_n 1, 1), (13, .getfield 34, 3), (16, .if_icmp .ge 42, 3), (19, .iload_n 2, 1), (20, .iload 5, 2), (22, .invokestatic 50, 3), (25, .ifCond .ne 27, 3), (28, .aload_n 0, 1), (29, .getfield 9, 3), (32, .iload 5, 2), (34, .iaload, 1), (35, .iload 4, 2), (37, .if_icmp .ge 15, 3), (40, .iload 5, 2), (42, .istore_n 3, 1), (43, .aload_n 0, 1), (44, .getfield 9, 3), (47, .iload 5, 2), (49, .iaload, 1), (50, .istore 4, 2), (52, .iinc 5 1, 3), (55, .goto (-45), 3), (58, .iload_n 3, 1), (59, .ireturn, 1)]
set_option maxRecDepth 100000 in
theorem eX9_nearestOutside : am_dec cX9_nearestOutside tX9_nearestOutside := am_dec_of (by decide +kernel)
def tX9_lowerAround : List (Nat × Instr × Nat) := [(0, .iconst 0, 1), (1, .istore_n 3, 1), (2, .iload_n 3, 1), (3, .aload_n 1, 1), (4, .getfield 39, 3), (7, .if_icmp .ge 65, 3), (10, .aload_n 1, 1), (11, .iload_n 3, 1), (12, .invokevirtual 46, 3), (15, .ifCond .eq 12, 3), (18, .aload_n 1, 1), (19, .iload_n 3, 1), (20, .iload_n 2, 1), (21, .invokevirtual 70, 3), (24, .goto 4, 3), (27, .iconst (-1), 1), (28, .istore 4, 2), (30, .iload 4, 2), (32, .iconst (-1), 1), (33, .if_icmp .eq 33, 3), (36, .aload_n 0, 1), (37, .getfield 9, 3), (40, .iload 4, 2), (42, .aload_n 0, 1), (43, .getfield 9, 3), (46, .iload 4, 2), (48, .iaload, 1), (49, .aload_n 0, 1), (50, .getfield 9, 3), (53, .iload_n 2, 1), (54, .iaload, 1), (55, .aload_n 1, 1), (56, .getfield 74, 3), (59, .iload_n 3, 1), (60, .iaload, 1), (61, .iadd, 1), (62, .invokestatic 75, 3), (65, .iastore, 1), (66, .iinc 3 1, 3), (69, .goto (-67), 3), (72, .return_, 1)]
set_option maxRecDepth 100000 in
theorem eX9_lowerAround : am_dec cX9_lowerAround tX9_lowerAround := am_dec_of (by decide +kernel)
def tX9_cheapestByLowering : List (Nat × Instr × Nat) := [(0, .aload_n 0, 1), (1, .iload_n 2, 1), (2, .invokevirtual 58, 3), (5, .iconst 1, 1), (6, .istore 4, 2), (8, .iload 4, 2), (10, .aload_n 1, 1), (11, .getfield 34, 3), (14, .if_icmp .ge 118, 3), (17, .iconst 0, 1), (18, .istore 5, 2), (20, .iload 5, 2), (22, .aload_n 1, 1), (23, .getfield 39, 3), (26, .if_icmp .ge 100, 3), (29, .aload_n 1, 1), (30, .iload 5, 2), (32, .invokevirtual 46, 3), (35, .ifCond .eq 85, 3), (38, .aload_n 1, 1), (39, .getfield 80, 3), (42, .iload 5, 2), (44, .iaload, 1), (45, .istore 6, 2), (47, .aload_n 1, 1), (48, .getfield 83, 3), (51, .iload 5, 2), (53, .iaload, 1), (54, .istore 7, 2), (56, .aload_n 0, 1), (57, .getfield 9, 3), (60, .iload 7, 2), (62, .aload_n 0, 1), (63, .getfield 9, 3), (66, .iload 7, 2), (68, .iaload, 1), (69, .aload_n 0, 1), (70, .getfield 9, 3), (73, .iload 6, 2), (75, .iaload, 1), (76, .aload_n 1, 1), (77, .getfield 74, 3), (80, .iload 5, 2), (82, .iaload, 1), (83, .iadd, 1), (84, .invokestatic 75, 3), (87, .iastore, 1), (88, .aload_n 0, 1), (89, .getfield 9, 3), (92, .iload 6, 2), (94, .aload_n 0, 1), (95, .getfield 9, 3), (98, .iload 6, 2), (100, .iaload, 1), (101, .aload_n 0, 1), (102, .getfield 9, 3), (105, .iload 7, 2), (107, .iaload, 1), (108, .aload_n 1, 1), (109, .getfield 74, 3), (112, .iload 5, 2), (114, .iaload, 1), (115, .iadd, 1), (116, .invokestatic 75, 3), (119, .iastore, 1), (120, .iinc 5 1, 3), (123, .goto (-103), 3), (126, .iinc 4 1, 3), (129, .goto (-121), 3), (132, .aload_n 0, 1), (133, .getfield 9, 3), (136, .iload_n 3, 1), (137, .iaload, 1), (138, .ireturn, 1)]
set_option maxRecDepth 100000 in
theorem eX9_cheapestByLowering : am_dec cX9_cheapestByLowering tX9_cheapestByLowering := am_dec_of (by decide +kernel)
def tX9_mostDisjoint : List (Nat × Instr × Nat) := [(0, .iconst 0, 1), (1, .istore 4, 2), (3, .iload 4, 2), (5, .bipush 16, 2), (7, .if_icmp .ge 17, 3), (10, .aload_n 0, 1), (11, .getfield 15, 3), (14, .iload 4, 2), (16, .iconst 0, 1), (17, .iastore, 1), (18, .iinc 4 1, 3), (21, .goto (-18), 3), (24, .iconst 0, 1), (25, .istore 4, 2), (27, .iload 4, 2), (29, .bipush 16, 2), (31, .if_icmp .ge 19, 3), (34, .aload_n 0, 1), (35, .aload_n 1, 1), (36, .iload_n 2, 1), (37, .iload_n 3, 1), (38, .invokevirtual 86, 3), (41, .ifCond .eq 9, 3), (44, .iinc 4 1, 3), (47, .goto (-20), 3), (50, .iload 4, 2), (52, .ireturn, 1)]
set_option maxRecDepth 100000 in
theorem eX9_mostDisjoint : am_dec cX9_mostDisjoint tX9_mostDisjoint := am_dec_of (by decide +kernel)
def tX9_addWay : List (Nat × Instr × Nat) := [(0, .aload_n 0, 1), (1, .aload_n 1, 1), (2, .iload_n 2, 1), (3, .invokevirtual 90, 3), (6, .iload_n 3, 1), (7, .invokestatic 50, 3), (10, .ifCond .ne 5, 3), (13, .iconst 0, 1), (14, .ireturn, 1), (15, .iload_n 3, 1), (16, .istore 4, 2), (18, .iconst 0, 1), (19, .istore 5, 2), (21, .iload 5, 2), (23, .aload_n 1, 1), (24, .getfield 34, 3), (27, .if_icmp .ge 87, 3), (30, .iload 4, 2), (32, .iload_n 2, 1), (33, .if_icmp .eq 81, 3), (36, .aload_n 0, 1), (37, .getfield 18, 3), (40, .iload 4, 2), (42, .iaload, 1), (43, .istore 6, 2), (45, .aload_n 1, 1), (46, .getfield 83, 3), (49, .iload 6, 2), (51, .iaload, 1), (52, .iload 4, 2), (54, .if_icmp .ne 7, 3), (57, .iconst 1, 1), (58, .goto 4, 3), (61, .iconst 0, 1), (62, .istore 7, 2), (64, .aload_n 0, 1), (65, .getfield 15, 3), (68, .iload 6, 2), (70, .dup2, 1), (71, .iaload, 1), (72, .iload 7, 2), (74, .ifCond .eq 7, 3), (77, .iconst 1, 1), (78, .goto 4, 3), (81, .iconst (-1), 1), (82, .iadd, 1), (83, .iastore, 1), (84, .iload 7, 2), (86, .ifCond .eq 13, 3), (89, .aload_n 1, 1), (90, .getfield 80, 3), (93, .iload 6, 2), (95, .iaload, 1), (96, .goto 10, 3), (99, .aload_n 1, 1), (100, .getfield 83, 3), (103, .iload 6, 2), (105, .iaload, 1), (106, .istore 4, 2), (108, .iinc 5 1, 3), (111, .goto (-90), 3), (114, .iconst 1, 1), (115, .ireturn, 1)]
set_option maxRecDepth 100000 in
theorem eX9_addWay : am_dec cX9_addWay tX9_addWay := am_dec_of (by decide +kernel)
def tX9_reachByFlows : List (Nat × Instr × Nat) := [(0, .iconst 1, 1), (1, .iload_n 2, 1), (2, .ishl, 1), (3, .istore_n 3, 1), (4, .iconst 1, 1), (5, .istore 4, 2), (7, .iload 4, 2), (9, .aload_n 1, 1), (10, .getfield 34, 3), (13, .if_icmp .ge 147, 3), (16, .iconst 0, 1), (17, .istore 5, 2), (19, .iload 5, 2), (21, .aload_n 1, 1), (22, .getfield 39, 3), (25, .if_icmp .ge 129, 3), (28, .aload_n 1, 1), (29, .iload 5, 2), (31, .invokevirtual 46, 3), (34, .ifCond .eq 114, 3), (37, .aload_n 1, 1), (38, .getfield 80, 3), (41, .iload 5, 2), (43, .iaload, 1), (44, .istore 6, 2), (46, .aload_n 1, 1), (47, .getfield 83, 3), (50, .iload 5, 2), (52, .iaload, 1), (53, .istore 7, 2), (55, .iload_n 3, 1), (56, .iload 6, 2), (58, .invokestatic 50, 3), (61, .ifCond .eq 42, 3), (64, .iload_n 3, 1), (65, .iload 7, 2), (67, .invokestatic 50, 3), (70, .ifCond .ne 33, 3), (73, .aload_n 0, 1), (74, .getfield 15, 3), (77, .iload 5, 2), (79, .iaload, 1), (80, .iconst 1, 1), (81, .if_icmp .ge 22, 3), (84, .iload_n 3, 1), (85, .iconst 1, 1), (86, .iload 7, 2), (88, .ishl, 1), (89, .ior, 1), (90, .istore_n 3, 1), (91, .aload_n 0, 1), (92, .getfield 18, 3), (95, .iload 7, 2), (97, .iload 5, 2), (99, .iastore, 1), (100, .goto 48, 3), (103, .iload_n 3, 1), (104, .iload 7, 2), (106, .invokestatic 50, 3), (109, .ifCond .eq 39, 3), (112, .iload_n 3, 1), (113, .iload 6, 2), (115, .invokestatic 50, 3), (118, .ifCond .ne 30, 3), (121, .aload_n 0, 1), (122, .getfield 15, 3), (125, .iload 5, 2), (127, .iaload, 1), (128, .iconst (-1), 1), (129, .if_icmp .le 19, 3), (132, .iload_n 3, 1), (133, .iconst 1, 1), (134, .iload 6, 2), (136, .ishl, 1), (137, .ior, 1), (138, .istore_n 3, 1), (139, .aload_n 0, 1), (140, .getfield 18, 3), (143, .iload 6, 2), (145, .iload 5, 2), (147, .iastore, 1), (148, .iinc 5 1, 3), (151, .goto (-132), 3), (154, .iinc 4 1, 3), (157, .goto (-150), 3), (160, .iload_n 3, 1), (161, .ireturn, 1)]
set_option maxRecDepth 100000 in
theorem eX9_reachByFlows : am_dec cX9_reachByFlows tX9_reachByFlows := am_dec_of (by decide +kernel)
def tX9_fewestLeaving : List (Nat × Instr × Nat) := [(0, .bipush 16, 2), (2, .istore 4, 2), (4, .iconst 1, 1), (5, .aload_n 1, 1), (6, .getfield 34, 3), (9, .ishl, 1), (10, .istore 5, 2), (12, .iconst 0, 1), (13, .istore 6, 2), (15, .iload 6, 2), (17, .iload 5, 2), (19, .if_icmp .ge 40, 3), (22, .iload 6, 2), (24, .iload_n 2, 1), (25, .invokestatic 50, 3), (28, .ifCond .eq 25, 3), (31, .iload 6, 2), (33, .iload_n 3, 1), (34, .invokestatic 50, 3), (37, .ifCond .ne 16, 3), (40, .iload 4, 2), (42, .aload_n 1, 1), (43, .iload 6, 2), (45, .invokestatic 93, 3), (48, .invokestatic 75, 3), (51, .istore 4, 2), (53, .iinc 6 1, 3), (56, .goto (-41), 3), (59, .iload 4, 2), (61, .ireturn, 1)]
set_option maxRecDepth 100000 in
theorem eX9_fewestLeaving : am_dec cX9_fewestLeaving tX9_fewestLeaving := am_dec_of (by decide +kernel)
def tX9_countLeaving : List (Nat × Instr × Nat) := [(0, .iconst 0, 1), (1, .istore_n 2, 1), (2, .iconst 0, 1), (3, .istore_n 3, 1), (4, .iload_n 3, 1), (5, .aload_n 0, 1), (6, .getfield 39, 3), (9, .if_icmp .ge 43, 3), (12, .aload_n 0, 1), (13, .iload_n 3, 1), (14, .invokevirtual 46, 3), (17, .ifCond .eq 29, 3), (20, .iload_n 1, 1), (21, .aload_n 0, 1), (22, .getfield 80, 3), (25, .iload_n 3, 1), (26, .iaload, 1), (27, .invokestatic 50, 3), (30, .iload_n 1, 1), (31, .aload_n 0, 1), (32, .getfield 83, 3), (35, .iload_n 3, 1), (36, .iaload, 1), (37, .invokestatic 50, 3), (40, .if_icmp .eq 6, 3), (43, .iinc 2 1, 3), (46, .iinc 3 1, 3), (49, .goto (-45), 3), (52, .iload_n 2, 1), (53, .ireturn, 1)]
set_option maxRecDepth 100000 in
theorem eX9_countLeaving : am_dec cX9_countLeaving tX9_countLeaving := am_dec_of (by decide +kernel)
def tX9_partsGroups : List (Nat × Instr × Nat) := [(0, .aload_n 1, 1), (1, .iload_n 2, 1), (2, .invokevirtual 46, 3), (5, .ifCond .eq 22, 3), (8, .aload_n 0, 1), (9, .aload_n 1, 1), (10, .iload_n 2, 1), (11, .invokevirtual 96, 3), (14, .aload_n 0, 1), (15, .aload_n 1, 1), (16, .iconst (-1), 1), (17, .invokevirtual 96, 3), (20, .if_icmp .le 7, 3), (23, .iconst 1, 1), (24, .goto 4, 3), (27, .iconst 0, 1), (28, .ireturn, 1)]
set_option maxRecDepth 100000 in
theorem eX9_partsGroups : am_dec cX9_partsGroups tX9_partsGroups := am_dec_of (by decide +kernel)
def tX9_countBridgesByGroups : List (Nat × Instr × Nat) := [(0, .iconst 0, 1), (1, .istore_n 2, 1), (2, .iconst 0, 1), (3, .istore_n 3, 1), (4, .iload_n 3, 1), (5, .aload_n 1, 1), (6, .getfield 39, 3), (9, .if_icmp .ge 21, 3), (12, .aload_n 0, 1), (13, .aload_n 1, 1), (14, .iload_n 3, 1), (15, .invokevirtual 99, 3), (18, .ifCond .eq 6, 3), (21, .iinc 2 1, 3), (24, .iinc 3 1, 3), (27, .goto (-23), 3), (30, .iload_n 2, 1), (31, .ireturn, 1)]
set_option maxRecDepth 100000 in
theorem eX9_countBridgesByGroups : am_dec cX9_countBridgesByGroups tX9_countBridgesByGroups := am_dec_of (by decide +kernel)
def tX9_countBridgesByWalk : List (Nat × Instr × Nat) := [(0, .iconst 0, 1), (1, .istore_n 2, 1), (2, .iload_n 2, 1), (3, .bipush 9, 2), (5, .if_icmp .ge 16, 3), (8, .aload_n 0, 1), (9, .getfield 21, 3), (12, .iload_n 2, 1), (13, .iconst (-1), 1), (14, .iastore, 1), (15, .iinc 2 1, 3), (18, .goto (-16), 3), (21, .aload_n 0, 1), (22, .iconst 0, 1), (23, .putfield 30, 3), (26, .iconst 0, 1), (27, .istore_n 2, 1), (28, .iconst 0, 1), (29, .istore_n 3, 1), (30, .iload_n 3, 1), (31, .aload_n 1, 1), (32, .getfield 34, 3), (35, .if_icmp .ge 28, 3), (38, .aload_n 0, 1), (39, .getfield 21, 3), (42, .iload_n 3, 1), (43, .iaload, 1), (44, .iconst (-1), 1), (45, .if_icmp .ne 12, 3), (48, .iload_n 2, 1), (49, .aload_n 0, 1), (50, .aload_n 1, 1), (51, .iload_n 3, 1), (52, .invokevirtual 103, 3), (55, .iadd, 1), (56, .istore_n 2, 1), (57, .iinc 3 1, 3), (60, .goto (-30), 3), (63, .iload_n 2, 1), (64, .ireturn, 1)]
set_option maxRecDepth 100000 in
theorem eX9_countBridgesByWalk : am_dec cX9_countBridgesByWalk tX9_countBridgesByWalk := am_dec_of (by decide +kernel)
def tX9_countBridgesFrom : List (Nat × Instr × Nat) := [(0, .iconst 0, 1), (1, .istore_n 3, 1), (2, .iload_n 2, 1), (3, .istore 4, 2), (5, .aload_n 0, 1), (6, .iload_n 2, 1), (7, .iconst (-1), 1), (8, .invokevirtual 106, 3), (11, .iconst 0, 1), (12, .istore 5, 2), (14, .iload 5, 2), (16, .sipush 153, 3), (19, .if_icmp .ge 106, 3), (22, .aload_n 0, 1), (23, .getfield 27, 3), (26, .iload 4, 2), (28, .iaload, 1), (29, .aload_n 1, 1), (30, .getfield 39, 3), (33, .if_icmp .ge 15, 3), (36, .aload_n 0, 1), (37, .aload_n 1, 1), (38, .iload 4, 2), (40, .invokevirtual 110, 3), (43, .istore 4, 2), (45, .goto 74, 3), (48, .aload_n 1, 1), (49, .aload_n 0, 1), (50, .getfield 18, 3), (53, .iload 4, 2), (55, .iaload, 1), (56, .iload 4, 2), (58, .invokevirtual 70, 3), (61, .istore 6, 2), (63, .iload 6, 2), (65, .iconst (-1), 1), (66, .if_icmp .ne 5, 3), (69, .iload_n 3, 1), (70, .ireturn, 1), (71, .aload_n 0, 1), (72, .getfield 24, 3), (75, .iload 4, 2), (77, .iaload, 1), (78, .aload_n 0, 1), (79, .getfield 21, 3), (82, .iload 6, 2), (84, .iaload, 1), (85, .if_icmp .le 6, 3), (88, .iinc 3 1, 3), (91, .aload_n 0, 1), (92, .getfield 24, 3), (95, .iload 6, 2), (97, .aload_n 0, 1), (98, .getfield 24, 3), (101, .iload 6, 2), (103, .iaload, 1), (104, .aload_n 0, 1), (105, .getfield 24, 3), (108, .iload 4, 2), (110, .iaload, 1), (111, .invokestatic 75, 3), (114, .iastore, 1), (115, .iload 6, 2), (117, .istore 4, 2), (119, .iinc 5 1, 3), (122, .goto (-108), 3), (125, .iload_n 3, 1), (126, .ireturn, 1)]
set_option maxRecDepth 100000 in
theorem eX9_countBridgesFrom : am_dec cX9_countBridgesFrom tX9_countBridgesFrom := am_dec_of (by decide +kernel)
def tX9_enter : List (Nat × Instr × Nat) := [(0, .aload_n 0, 1), (1, .getfield 21, 3), (4, .iload_n 1, 1), (5, .aload_n 0, 1), (6, .getfield 30, 3), (9, .iastore, 1), (10, .aload_n 0, 1), (11, .getfield 24, 3), (14, .iload_n 1, 1), (15, .aload_n 0, 1), (16, .getfield 30, 3), (19, .iastore, 1), (20, .aload_n 0, 1), (21, .getfield 18, 3), (24, .iload_n 1, 1), (25, .iload_n 2, 1), (26, .iastore, 1), (27, .aload_n 0, 1), (28, .getfield 27, 3), (31, .iload_n 1, 1), (32, .iconst 0, 1), (33, .iastore, 1), (34, .aload_n 0, 1), (35, .dup, 1), (36, .getfield 30, 3), (39, .iconst 1, 1), (40, .iadd, 1), (41, .putfield 30, 3), (44, .return_, 1)]
set_option maxRecDepth 100000 in
theorem eX9_enter : am_dec cX9_enter tX9_enter := am_dec_of (by decide +kernel)
def tX9_takePath : List (Nat × Instr × Nat) := [(0, .aload_n 0, 1), (1, .getfield 27, 3), (4, .iload_n 2, 1), (5, .iaload, 1), (6, .istore_n 3, 1), (7, .aload_n 0, 1), (8, .getfield 27, 3), (11, .iload_n 2, 1), (12, .dup2, 1), (13, .iaload, 1), (14, .iconst 1, 1), (15, .iadd, 1), (16, .iastore, 1), (17, .aload_n 1, 1), (18, .iload_n 3, 1), (19, .invokevirtual 46, 3), (22, .ifCond .eq 22, 3), (25, .iload_n 3, 1), (26, .aload_n 0, 1), (27, .getfield 18, 3), (30, .iload_n 2, 1), (31, .iaload, 1), (32, .if_icmp .eq 12, 3), (35, .aload_n 1, 1), (36, .iload_n 3, 1), (37, .iload_n 2, 1), (38, .invokevirtual 70, 3), (41, .goto 4, 3), (44, .iconst (-1), 1), (45, .istore 4, 2), (47, .iload 4, 2), (49, .iconst (-1), 1), (50, .if_icmp .ne 5, 3), (53, .iload_n 2, 1), (54, .ireturn, 1), (55, .aload_n 0, 1), (56, .getfield 21, 3), (59, .iload 4, 2), (61, .iaload, 1), (62, .iconst (-1), 1), (63, .if_icmp .ne 13, 3), (66, .aload_n 0, 1), (67, .iload 4, 2), (69, .iload_n 3, 1), (70, .invokevirtual 106, 3), (73, .iload 4, 2), (75, .ireturn, 1), (76, .aload_n 0, 1), (77, .getfield 24, 3), (80, .iload_n 2, 1), (81, .aload_n 0, 1), (82, .getfield 24, 3), (85, .iload_n 2, 1), (86, .iaload, 1), (87, .aload_n 0, 1), (88, .getfield 21, 3), (91, .iload 4, 2), (93, .iaload, 1), (94, .invokestatic 75, 3), (97, .iastore, 1), (98, .iload_n 2, 1), (99, .ireturn, 1)]
set_option maxRecDepth 100000 in
theorem eX9_takePath : am_dec cX9_takePath tX9_takePath := am_dec_of (by decide +kernel)
def tX10_init : List (Nat × Instr × Nat) := [(0, .aload_n 0, 1), (1, .invokespecial 3, 3), (4, .aload_n 0, 1), (5, .new 9, 3), (8, .dup, 1), (9, .invokespecial 11, 3), (12, .putfield 12, 3), (15, .return_, 1)]
set_option maxRecDepth 100000 in
theorem eX10_init : am_dec cX10_init tX10_init := am_dec_of (by decide +kernel)
def tX10_blowOnce : List (Nat × Instr × Nat) := [(0, .aload_n 0, 1), (1, .getfield 12, 3), (4, .aload_n 1, 1), (5, .getfield 18, 3), (8, .aload_n 1, 1), (9, .getfield 24, 3), (12, .getfield 28, 3), (15, .invokevirtual 34, 3), (18, .iconst 0, 1), (19, .istore_n 2, 1), (20, .iconst 1, 1), (21, .istore_n 3, 1), (22, .iload_n 3, 1), (23, .aload_n 1, 1), (24, .getfield 18, 3), (27, .getfield 38, 3), (30, .if_icmp .ge 68, 3), (33, .iconst 0, 1), (34, .istore 4, 2), (36, .iload 4, 2), (38, .aload_n 1, 1), (39, .getfield 18, 3), (42, .getfield 38, 3), (45, .if_icmp .ge 47, 3), (48, .aload_n 0, 1), (49, .getfield 12, 3), (52, .getfield 43, 3), (55, .iload 4, 2), (57, .iaload, 1), (58, .iload_n 3, 1), (59, .if_icmp .ne 27, 3), (62, .aload_n 0, 1), (63, .getfield 12, 3), (66, .getfield 47, 3), (69, .iload 4, 2), (71, .iaload, 1), (72, .iconst (-1), 1), (73, .if_icmp .eq 13, 3), (76, .iload_n 2, 1), (77, .aload_n 0, 1), (78, .aload_n 1, 1), (79, .iload 4, 2), (81, .invokevirtual 50, 3), (84, .iadd, 1), (85, .istore_n 2, 1), (86, .iinc 4 1, 3), (89, .goto (-53), 3), (92, .iinc 3 1, 3), (95, .goto (-73), 3), (98, .aload_n 1, 1), (99, .getfield 24, 3), (102, .getfield 54, 3), (105, .ifCond .eq 8, 3), (108, .aload_n 0, 1), (109, .aload_n 1, 1), (110, .invokevirtual 58, 3), (113, .aload_n 1, 1), (114, .getfield 24, 3), (117, .dup, 1), (118, .getfield 62, 3), (121, .iconst 1, 1), (122, .iadd, 1), (123, .putfield 62, 3), (126, .aload_n 0, 1), (127, .aload_n 1, 1), (128, .invokevirtual 65, 3), (131, .iload_n 2, 1), (132, .ireturn, 1)]
set_option maxRecDepth 100000 in
theorem eX10_blowOnce : am_dec cX10_blowOnce tX10_blowOnce := am_dec_of (by decide +kernel)
def tX10_sendDown : List (Nat × Instr × Nat) := [(0, .aload_n 1, 1), (1, .getfield 24, 3), (4, .getfield 68, 3), (7, .astore_n 3, 1), (8, .aload_n 3, 1), (9, .aload_n 0, 1), (10, .getfield 12, 3), (13, .getfield 47, 3), (16, .iload_n 2, 1), (17, .iaload, 1), (18, .iaload, 1), (19, .aload_n 3, 1), (20, .iload_n 2, 1), (21, .iaload, 1), (22, .iconst (-1), 1), (23, .ixor, 1), (24, .iand, 1), (25, .istore 4, 2), (27, .iconst 0, 1), (28, .istore 5, 2), (30, .iconst 0, 1), (31, .istore 6, 2), (33, .iload 6, 2), (35, .bipush 7, 2), (37, .if_icmp .ge 41, 3), (40, .iload 4, 2), (42, .iload 6, 2), (44, .invokestatic 71, 3), (47, .ifCond .eq 25, 3), (50, .aload_n 0, 1), (51, .aload_n 1, 1), (52, .iload_n 2, 1), (53, .invokevirtual 75, 3), (56, .ifCond .eq 16, 3), (59, .aload_n 3, 1), (60, .iload_n 2, 1), (61, .dup2, 1), (62, .iaload, 1), (63, .iconst 1, 1), (64, .iload 6, 2), (66, .ishl, 1), (67, .ior, 1), (68, .iastore, 1), (69, .iinc 5 1, 3), (72, .iinc 6 1, 3), (75, .goto (-42), 3), (78, .iload 5, 2), (80, .ireturn, 1)]
set_option maxRecDepth 100000 in
theorem eX10_sendDown : am_dec cX10_sendDown tX10_sendDown := am_dec_of (by decide +kernel)
def tX10_arrives : List (Nat × Instr × Nat) := [(0, .aload_n 0, 1), (1, .getfield 12, 3), (4, .getfield 79, 3), (7, .iload_n 2, 1), (8, .iaload, 1), (9, .istore_n 3, 1), (10, .aload_n 1, 1), (11, .getfield 82, 3), (14, .iload_n 3, 1), (15, .dup2, 1), (16, .iaload, 1), (17, .iconst 1, 1), (18, .iadd, 1), (19, .iastore, 1), (20, .aload_n 1, 1), (21, .dup, 1), (22, .getfield 85, 3), (25, .iconst 1, 1), (26, .iadd, 1), (27, .putfield 85, 3), (30, .aload_n 1, 1), (31, .dup, 1), (32, .getfield 88, 3), (35, .aload_n 1, 1), (36, .getfield 18, 3), (39, .getfield 91, 3), (42, .iload_n 3, 1), (43, .iaload, 1), (44, .iadd, 1), (45, .putfield 88, 3), (48, .aload_n 1, 1), (49, .getfield 24, 3), (52, .aload_n 1, 1), (53, .getfield 24, 3), (56, .getfield 94, 3), (59, .bipush 61, 2), (61, .imul, 1), (62, .bipush 17, 2), (64, .iadd, 1), (65, .sipush 512, 3), (68, .irem, 1), (69, .putfield 94, 3), (72, .aload_n 1, 1), (73, .getfield 24, 3), (76, .getfield 94, 3), (79, .bipush 10, 2), (81, .irem, 1), (82, .aload_n 1, 1), (83, .getfield 18, 3), (86, .iload_n 3, 1), (87, .iload_n 2, 1), (88, .invokevirtual 97, 3), (91, .if_icmp .ge 15, 3), (94, .aload_n 1, 1), (95, .dup, 1), (96, .getfield 101, 3), (99, .iconst 1, 1), (100, .iadd, 1), (101, .putfield 101, 3), (104, .iconst 0, 1), (105, .ireturn, 1), (106, .iconst 1, 1), (107, .ireturn, 1)]
set_option maxRecDepth 100000 in
theorem eX10_arrives : am_dec cX10_arrives tX10_arrives := am_dec_of (by decide +kernel)
def tX10_rebuildMissing : List (Nat × Instr × Nat) := [(0, .aload_n 1, 1), (1, .getfield 24, 3), (4, .invokevirtual 104, 3), (7, .istore_n 2, 1), (8, .iconst 0, 1), (9, .istore_n 3, 1), (10, .iload_n 3, 1), (11, .aload_n 1, 1), (12, .getfield 18, 3), (15, .getfield 38, 3), (18, .if_icmp .ge 66, 3), (21, .iload_n 2, 1), (22, .aload_n 1, 1), (23, .getfield 24, 3), (26, .getfield 68, 3), (29, .iload_n 3, 1), (30, .iaload, 1), (31, .iconst (-1), 1), (32, .ixor, 1), (33, .iand, 1), (34, .istore 4, 2), (36, .aload_n 0, 1), (37, .getfield 12, 3), (40, .getfield 43, 3), (43, .iload_n 3, 1), (44, .iaload, 1), (45, .iconst (-1), 1), (46, .if_icmp .eq 32, 3), (49, .iload 4, 2), (51, .invokestatic 108, 3), (54, .iconst 1, 1), (55, .if_icmp .ne 23, 3), (58, .aload_n 1, 1), (59, .getfield 24, 3), (62, .getfield 68, 3), (65, .iload_n 3, 1), (66, .iload_n 2, 1), (67, .iastore, 1), (68, .aload_n 1, 1), (69, .dup, 1), (70, .getfield 114, 3), (73, .iconst 1, 1), (74, .iadd, 1), (75, .putfield 114, 3), (78, .iinc 3 1, 3), (81, .goto (-71), 3), (84, .return_, 1)]
set_option maxRecDepth 100000 in
theorem eX10_rebuildMissing : am_dec cX10_rebuildMissing tX10_rebuildMissing := am_dec_of (by decide +kernel)
def tX10_endIfDue : List (Nat × Instr × Nat) := [(0, .aload_n 0, 1), (1, .aload_n 1, 1), (2, .invokevirtual 117, 3), (5, .ifCond .eq 24, 3), (8, .aload_n 1, 1), (9, .getfield 24, 3), (12, .iconst 0, 1), (13, .putfield 121, 3), (16, .aload_n 1, 1), (17, .dup, 1), (18, .getfield 124, 3), (21, .iconst 1, 1), (22, .iadd, 1), (23, .putfield 124, 3), (26, .goto 33, 3), (29, .aload_n 1, 1), (30, .getfield 24, 3), (33, .getfield 62, 3), (36, .bipush 30, 2), (38, .if_icmp .lt 21, 3), (41, .aload_n 1, 1), (42, .getfield 24, 3), (45, .iconst 0, 1), (46, .putfield 121, 3), (49, .aload_n 1, 1), (50, .dup, 1), (51, .getfield 127, 3), (54, .iconst 1, 1), (55, .iadd, 1), (56, .putfield 127, 3), (59, .return_, 1)]
set_option maxRecDepth 100000 in
theorem eX10_endIfDue : am_dec cX10_endIfDue tX10_endIfDue := am_dec_of (by decide +kernel)
def tX10_coversTree : List (Nat × Instr × Nat) := [(0, .iconst 0, 1), (1, .istore_n 2, 1), (2, .iload_n 2, 1), (3, .aload_n 1, 1), (4, .getfield 18, 3), (7, .getfield 38, 3), (10, .if_icmp .ge 35, 3), (13, .aload_n 0, 1), (14, .getfield 12, 3), (17, .getfield 43, 3), (20, .iload_n 2, 1), (21, .iaload, 1), (22, .iconst (-1), 1), (23, .if_icmp .eq 16, 3), (26, .aload_n 1, 1), (27, .getfield 24, 3), (30, .iload_n 2, 1), (31, .invokevirtual 130, 3), (34, .ifCond .ne 5, 3), (37, .iconst 0, 1), (38, .ireturn, 1), (39, .iinc 2 1, 3), (42, .goto (-40), 3), (45, .iconst 1, 1), (46, .ireturn, 1)]
set_option maxRecDepth 100000 in
theorem eX10_coversTree : am_dec cX10_coversTree tX10_coversTree := am_dec_of (by decide +kernel)
def tX11_init : List (Nat × Instr × Nat) := [(0, .aload_n 0, 1), (1, .invokespecial 1, 3), (4, .aload_n 0, 1), (5, .new 7, 3), (8, .dup, 1), (9, .invokespecial 9, 3), (12, .putfield 10, 3), (15, .aload_n 0, 1), (16, .new 7, 3), (19, .dup, 1), (20, .invokespecial 9, 3), (23, .putfield 16, 3), (26, .aload_n 0, 1), (27, .new 7, 3), (30, .dup, 1), (31, .invokespecial 9, 3), (34, .putfield 19, 3), (37, .aload_n 0, 1), (38, .new 22, 3), (41, .dup, 1), (42, .invokespecial 24, 3), (45, .putfield 25, 3), (48, .aload_n 0, 1), (49, .new 29, 3), (52, .dup, 1), (53, .invokespecial 31, 3), (56, .putfield 32, 3), (59, .aload_n 0, 1), (60, .new 36, 3), (63, .dup, 1), (64, .invokespecial 38, 3), (67, .putfield 39, 3), (70, .aload_n 0, 1), (71, .new 43, 3), (74, .dup, 1), (75, .invokespecial 45, 3), (78, .putfield 46, 3), (81, .aload_n 0, 1), (82, .new 50, 3), (85, .dup, 1), (86, .invokespecial 52, 3), (89, .putfield 53, 3), (92, .aload_n 0, 1), (93, .new 57, 3), (96, .dup, 1), (97, .invokespecial 59, 3), (100, .putfield 60, 3), (103, .aload_n 0, 1), (104, .bipush 12, 2), (106, .newarray .char, 2), (108, .putfield 64, 3), (111, .aload_n 0, 1), (112, .iconst 0, 1), (113, .putfield 68, 3), (116, .aload_n 0, 1), (117, .iconst 0, 1), (118, .putfield 72, 3), (121, .aload_n 0, 1), (122, .iconst (-1), 1), (123, .putfield 76, 3), (126, .aload_n 0, 1), (127, .iconst 0, 1), (128, .putfield 79, 3), (131, .aload_n 0, 1), (132, .iconst (-1), 1), (133, .putfield 82, 3), (136, .aload_n 0, 1), (137, .iconst (-1), 1), (138, .putfield 85, 3), (141, .return_, 1)]
set_option maxRecDepth 100000 in
theorem eX11_init : am_dec cX11_init tX11_init := am_dec_of (by decide +kernel)
def tX11_addField : List (Nat × Instr × Nat) := [(0, .aload_n 0, 1), (1, .getfield 25, 3), (4, .aload_n 0, 1), (5, .getfield 10, 3), (8, .invokevirtual 88, 3), (11, .aload_n 0, 1), (12, .aload_n 0, 1), (13, .getfield 53, 3), (16, .aload_n 0, 1), (17, .getfield 10, 3), (20, .iload_n 1, 1), (21, .invokevirtual 92, 3), (24, .invokevirtual 96, 3), (27, .ireturn, 1)]
set_option maxRecDepth 100000 in
theorem eX11_addField : am_dec cX11_addField tX11_addField := am_dec_of (by decide +kernel)
def tX11_setShield : List (Nat × Instr × Nat) := [(0, .aload_n 0, 1), (1, .getfield 25, 3), (4, .aload_n 0, 1), (5, .getfield 10, 3), (8, .invokevirtual 88, 3), (11, .aload_n 0, 1), (12, .aload_n 0, 1), (13, .getfield 53, 3), (16, .aload_n 0, 1), (17, .getfield 10, 3), (20, .iload_n 1, 1), (21, .iload_n 2, 1), (22, .invokevirtual 100, 3), (25, .invokevirtual 96, 3), (28, .ireturn, 1)]
set_option maxRecDepth 100000 in
theorem eX11_setShield : am_dec cX11_setShield tX11_setShield := am_dec_of (by decide +kernel)
def tX11_addPath : List (Nat × Instr × Nat) := [(0, .aload_n 0, 1), (1, .getfield 25, 3), (4, .aload_n 0, 1), (5, .getfield 10, 3), (8, .invokevirtual 88, 3), (11, .aload_n 0, 1), (12, .aload_n 0, 1), (13, .getfield 53, 3), (16, .aload_n 0, 1), (17, .getfield 10, 3), (20, .iload_n 1, 1), (21, .iload_n 2, 1), (22, .iload_n 3, 1), (23, .iload 4, 2), (25, .invokevirtual 104, 3), (28, .invokevirtual 96, 3), (31, .ireturn, 1)]
set_option maxRecDepth 100000 in
theorem eX11_addPath : am_dec cX11_addPath tX11_addPath := am_dec_of (by decide +kernel)
def tX11_setGust : List (Nat × Instr × Nat) := [(0, .aload_n 0, 1), (1, .getfield 25, 3), (4, .aload_n 0, 1), (5, .getfield 10, 3), (8, .invokevirtual 88, 3), (11, .aload_n 0, 1), (12, .aload_n 0, 1), (13, .getfield 53, 3), (16, .aload_n 0, 1), (17, .getfield 10, 3), (20, .iload_n 1, 1), (21, .iload_n 2, 1), (22, .invokevirtual 108, 3), (25, .invokevirtual 96, 3), (28, .ireturn, 1)]
set_option maxRecDepth 100000 in
theorem eX11_setGust : am_dec cX11_setGust tX11_setGust := am_dec_of (by decide +kernel)
def tX11_setBlocked : List (Nat × Instr × Nat) := [(0, .aload_n 0, 1), (1, .getfield 25, 3), (4, .aload_n 0, 1), (5, .getfield 10, 3), (8, .invokevirtual 88, 3), (11, .aload_n 0, 1), (12, .aload_n 0, 1), (13, .getfield 53, 3), (16, .aload_n 0, 1), (17, .getfield 10, 3), (20, .iload_n 1, 1), (21, .iload_n 2, 1), (22, .invokevirtual 111, 3), (25, .invokevirtual 96, 3), (28, .ireturn, 1)]
set_option maxRecDepth 100000 in
theorem eX11_setBlocked : am_dec cX11_setBlocked tX11_setBlocked := am_dec_of (by decide +kernel)
def tX11_fieldCount : List (Nat × Instr × Nat) := [(0, .aload_n 0, 1), (1, .getfield 10, 3), (4, .getfield 115, 3), (7, .getfield 119, 3), (10, .ireturn, 1)]
set_option maxRecDepth 100000 in
theorem eX11_fieldCount : am_dec cX11_fieldCount tX11_fieldCount := am_dec_of (by decide +kernel)
def tX11_pathCount : List (Nat × Instr × Nat) := [(0, .aload_n 0, 1), (1, .getfield 10, 3), (4, .getfield 115, 3), (7, .getfield 124, 3), (10, .ireturn, 1)]
set_option maxRecDepth 100000 in
theorem eX11_pathCount : am_dec cX11_pathCount tX11_pathCount := am_dec_of (by decide +kernel)
def tX11_shieldOf : List (Nat × Instr × Nat) := [(0, .aload_n 0, 1), (1, .iload_n 1, 1), (2, .invokevirtual 127, 3), (5, .aload_n 0, 1), (6, .getfield 10, 3), (9, .getfield 115, 3), (12, .getfield 131, 3), (15, .iload_n 1, 1), (16, .iaload, 1), (17, .ireturn, 1)]
set_option maxRecDepth 100000 in
theorem eX11_shieldOf : am_dec cX11_shieldOf tX11_shieldOf := am_dec_of (by decide +kernel)
def tX11_firstOf : List (Nat × Instr × Nat) := [(0, .aload_n 0, 1), (1, .iload_n 1, 1), (2, .invokevirtual 135, 3), (5, .aload_n 0, 1), (6, .getfield 10, 3), (9, .getfield 115, 3), (12, .getfield 138, 3), (15, .iload_n 1, 1), (16, .iaload, 1), (17, .ireturn, 1)]
set_option maxRecDepth 100000 in
theorem eX11_firstOf : am_dec cX11_firstOf tX11_firstOf := am_dec_of (by decide +kernel)
def tX11_secondOf : List (Nat × Instr × Nat) := [(0, .aload_n 0, 1), (1, .iload_n 1, 1), (2, .invokevirtual 135, 3), (5, .aload_n 0, 1), (6, .getfield 10, 3), (9, .getfield 115, 3), (12, .getfield 141, 3), (15, .iload_n 1, 1), (16, .iaload, 1), (17, .ireturn, 1)]
set_option maxRecDepth 100000 in
theorem eX11_secondOf : am_dec cX11_secondOf tX11_secondOf := am_dec_of (by decide +kernel)
def tX11_costOf : List (Nat × Instr × Nat) := [(0, .aload_n 0, 1), (1, .iload_n 1, 1), (2, .invokevirtual 135, 3), (5, .aload_n 0, 1), (6, .getfield 10, 3), (9, .getfield 115, 3), (12, .getfield 144, 3), (15, .iload_n 1, 1), (16, .iaload, 1), (17, .ireturn, 1)]
set_option maxRecDepth 100000 in
theorem eX11_costOf : am_dec cX11_costOf tX11_costOf := am_dec_of (by decide +kernel)
def tX11_gustOf : List (Nat × Instr × Nat) := [(0, .aload_n 0, 1), (1, .iload_n 1, 1), (2, .invokevirtual 135, 3), (5, .aload_n 0, 1), (6, .getfield 10, 3), (9, .getfield 115, 3), (12, .getfield 147, 3), (15, .iload_n 1, 1), (16, .iaload, 1), (17, .ireturn, 1)]
set_option maxRecDepth 100000 in
theorem eX11_gustOf : am_dec cX11_gustOf tX11_gustOf := am_dec_of (by decide +kernel)
def tX11_isBlocked : List (Nat × Instr × Nat) := [(0, .aload_n 0, 1), (1, .iload_n 1, 1), (2, .invokevirtual 135, 3), (5, .aload_n 0, 1), (6, .getfield 10, 3), (9, .getfield 115, 3), (12, .iload_n 1, 1), (13, .invokevirtual 150, 3), (16, .ifCond .ne 7, 3), (19, .iconst 1, 1), (20, .goto 4, 3), (23, .iconst 0, 1), (24, .ireturn, 1)]
set_option maxRecDepth 100000 in
theorem eX11_isBlocked : am_dec cX11_isBlocked tX11_isBlocked := am_dec_of (by decide +kernel)
def tX11_groupCount : List (Nat × Instr × Nat) := [(0, .aload_n 0, 1), (1, .getfield 32, 3), (4, .aload_n 0, 1), (5, .getfield 10, 3), (8, .getfield 115, 3), (11, .iconst (-1), 1), (12, .invokevirtual 154, 3), (15, .ireturn, 1)]
set_option maxRecDepth 100000 in
theorem eX11_groupCount : am_dec cX11_groupCount tX11_groupCount := am_dec_of (by decide +kernel)
def tX11_isConnected : List (Nat × Instr × Nat) := [(0, .aload_n 0, 1), (1, .iload_n 1, 1), (2, .invokevirtual 127, 3), (5, .aload_n 0, 1), (6, .iload_n 2, 1), (7, .invokevirtual 127, 3), (10, .aload_n 0, 1), (11, .getfield 32, 3), (14, .aload_n 0, 1), (15, .getfield 10, 3), (18, .getfield 115, 3), (21, .iload_n 1, 1), (22, .iconst (-1), 1), (23, .invokevirtual 158, 3), (26, .iload_n 2, 1), (27, .invokestatic 162, 3), (30, .ireturn, 1)]
set_option maxRecDepth 100000 in
theorem eX11_isConnected : am_dec cX11_isConnected tX11_isConnected := am_dec_of (by decide +kernel)
def tX11_wayCost : List (Nat × Instr × Nat) := [(0, .aload_n 0, 1), (1, .iload_n 1, 1), (2, .invokevirtual 127, 3), (5, .aload_n 0, 1), (6, .iload_n 2, 1), (7, .invokevirtual 127, 3), (10, .aload_n 0, 1), (11, .getfield 32, 3), (14, .aload_n 0, 1), (15, .getfield 10, 3), (18, .getfield 115, 3), (21, .iload_n 1, 1), (22, .iload_n 2, 1), (23, .invokevirtual 166, 3), (26, .invokestatic 169, 3), (29, .ireturn, 1)]
set_option maxRecDepth 100000 in
theorem eX11_wayCost : am_dec cX11_wayCost tX11_wayCost := am_dec_of (by decide +kernel)
def tX11_wayCostByRounds : List (Nat × Instr × Nat) := [(0, .aload_n 0, 1), (1, .iload_n 1, 1), (2, .invokevirtual 127, 3), (5, .aload_n 0, 1), (6, .iload_n 2, 1), (7, .invokevirtual 127, 3), (10, .aload_n 0, 1), (11, .getfield 32, 3), (14, .aload_n 0, 1), (15, .getfield 10, 3), (18, .getfield 115, 3), (21, .iload_n 1, 1), (22, .iload_n 2, 1), (23, .invokevirtual 172, 3), (26, .invokestatic 169, 3), (29, .ireturn, 1)]
set_option maxRecDepth 100000 in
theorem eX11_wayCostByRounds : am_dec cX11_wayCostByRounds tX11_wayCostByRounds := am_dec_of (by decide +kernel)
def tX11_disjointWays : List (Nat × Instr × Nat) := [(0, .aload_n 0, 1), (1, .iload_n 1, 1), (2, .iload_n 2, 1), (3, .invokevirtual 175, 3), (6, .aload_n 0, 1), (7, .getfield 32, 3), (10, .aload_n 0, 1), (11, .getfield 10, 3), (14, .getfield 115, 3), (17, .iload_n 1, 1), (18, .iload_n 2, 1), (19, .invokevirtual 179, 3), (22, .ireturn, 1)]
set_option maxRecDepth 100000 in
theorem eX11_disjointWays : am_dec cX11_disjointWays tX11_disjointWays := am_dec_of (by decide +kernel)
def tX11_smallestCut : List (Nat × Instr × Nat) := [(0, .aload_n 0, 1), (1, .iload_n 1, 1), (2, .iload_n 2, 1), (3, .invokevirtual 175, 3), (6, .aload_n 0, 1), (7, .getfield 32, 3), (10, .aload_n 0, 1), (11, .getfield 10, 3), (14, .getfield 115, 3), (17, .iload_n 1, 1), (18, .iload_n 2, 1), (19, .invokevirtual 182, 3), (22, .ireturn, 1)]
set_option maxRecDepth 100000 in
theorem eX11_smallestCut : am_dec cX11_smallestCut tX11_smallestCut := am_dec_of (by decide +kernel)
def tX11_isBridge : List (Nat × Instr × Nat) := [(0, .aload_n 0, 1), (1, .iload_n 1, 1), (2, .invokevirtual 135, 3), (5, .aload_n 0, 1), (6, .getfield 32, 3), (9, .aload_n 0, 1), (10, .getfield 10, 3), (13, .getfield 115, 3), (16, .iload_n 1, 1), (17, .invokevirtual 185, 3), (20, .ireturn, 1)]
set_option maxRecDepth 100000 in
theorem eX11_isBridge : am_dec cX11_isBridge tX11_isBridge := am_dec_of (by decide +kernel)
def tX11_bridgeCount : List (Nat × Instr × Nat) := [(0, .aload_n 0, 1), (1, .getfield 32, 3), (4, .aload_n 0, 1), (5, .getfield 10, 3), (8, .getfield 115, 3), (11, .invokevirtual 189, 3), (14, .ireturn, 1)]
set_option maxRecDepth 100000 in
theorem eX11_bridgeCount : am_dec cX11_bridgeCount tX11_bridgeCount := am_dec_of (by decide +kernel)
def tX11_bridgeCountByBlocking : List (Nat × Instr × Nat) := [(0, .aload_n 0, 1), (1, .getfield 32, 3), (4, .aload_n 0, 1), (5, .getfield 10, 3), (8, .getfield 115, 3), (11, .invokevirtual 193, 3), (14, .ireturn, 1)]
set_option maxRecDepth 100000 in
theorem eX11_bridgeCountByBlocking : am_dec cX11_bridgeCountByBlocking tX11_bridgeCountByBlocking := am_dec_of (by decide +kernel)
def tX11_treeCost : List (Nat × Instr × Nat) := [(0, .aload_n 0, 1), (1, .iload_n 1, 1), (2, .invokevirtual 127, 3), (5, .aload_n 0, 1), (6, .getfield 39, 3), (9, .aload_n 0, 1), (10, .getfield 10, 3), (13, .getfield 115, 3), (16, .iload_n 1, 1), (17, .invokevirtual 196, 3), (20, .ireturn, 1)]
set_option maxRecDepth 100000 in
theorem eX11_treeCost : am_dec cX11_treeCost tX11_treeCost := am_dec_of (by decide +kernel)
def tX11_treeCostByGrowing : List (Nat × Instr × Nat) := [(0, .aload_n 0, 1), (1, .iload_n 1, 1), (2, .invokevirtual 127, 3), (5, .aload_n 0, 1), (6, .getfield 39, 3), (9, .aload_n 0, 1), (10, .getfield 10, 3), (13, .getfield 115, 3), (16, .iload_n 1, 1), (17, .invokevirtual 199, 3), (20, .ireturn, 1)]
set_option maxRecDepth 100000 in
theorem eX11_treeCostByGrowing : am_dec cX11_treeCostByGrowing tX11_treeCostByGrowing := am_dec_of (by decide +kernel)
def tX11_isInTree : List (Nat × Instr × Nat) := [(0, .aload_n 0, 1), (1, .iload_n 1, 1), (2, .invokevirtual 127, 3), (5, .aload_n 0, 1), (6, .iload_n 2, 1), (7, .invokevirtual 135, 3), (10, .aload_n 0, 1), (11, .getfield 39, 3), (14, .aload_n 0, 1), (15, .getfield 10, 3), (18, .getfield 115, 3), (21, .iload_n 1, 1), (22, .invokevirtual 202, 3), (25, .iload_n 2, 1), (26, .invokestatic 162, 3), (29, .ireturn, 1)]
set_option maxRecDepth 100000 in
theorem eX11_isInTree : am_dec cX11_isInTree tX11_isInTree := am_dec_of (by decide +kernel)
def tX11_parentIn : List (Nat × Instr × Nat) := [(0, .aload_n 0, 1), (1, .iload_n 1, 1), (2, .invokevirtual 127, 3), (5, .aload_n 0, 1), (6, .iload_n 2, 1), (7, .invokevirtual 127, 3), (10, .aload_n 0, 1), (11, .getfield 39, 3), (14, .aload_n 0, 1), (15, .getfield 10, 3), (18, .getfield 115, 3), (21, .iload_n 1, 1), (22, .invokevirtual 205, 3), (25, .aload_n 0, 1), (26, .getfield 39, 3), (29, .getfield 209, 3), (32, .iload_n 2, 1), (33, .iaload, 1), (34, .iconst (-1), 1), (35, .if_icmp .ne 13, 3), (38, .new 212, 3), (41, .dup, 1), (42, .ldc 214, 2), (44, .invokespecial 216, 3), (47, .athrow, 1), (48, .aload_n 0, 1), (49, .getfield 39, 3), (52, .getfield 209, 3), (55, .iload_n 2, 1), (56, .iaload, 1), (57, .ireturn, 1)]
set_option maxRecDepth 100000 in
theorem eX11_parentIn : am_dec cX11_parentIn tX11_parentIn := am_dec_of (by decide +kernel)
def tX11_reachChance : List (Nat × Instr × Nat) := [(0, .aload_n 0, 1), (1, .iload_n 1, 1), (2, .invokevirtual 127, 3), (5, .aload_n 0, 1), (6, .iload_n 2, 1), (7, .invokevirtual 127, 3), (10, .aload_n 0, 1), (11, .getfield 39, 3), (14, .aload_n 0, 1), (15, .getfield 10, 3), (18, .getfield 115, 3), (21, .iload_n 1, 1), (22, .invokevirtual 205, 3), (25, .aload_n 0, 1), (26, .getfield 39, 3), (29, .getfield 219, 3), (32, .iload_n 2, 1), (33, .iaload, 1), (34, .iconst (-1), 1), (35, .if_icmp .ne 13, 3), (38, .new 212, 3), (41, .dup, 1), (42, .ldc 222, 2), (44, .invokespecial 216, 3), (47, .athrow, 1), (48, .aload_n 0, 1), (49, .getfield 39, 3), (52, .getfield 224, 3), (55, .iload_n 2, 1), (56, .faload, 1), (57, .freturn, 1)]
set_option maxRecDepth 100000 in
theorem eX11_reachChance : am_dec cX11_reachChance tX11_reachChance := am_dec_of (by decide +kernel)
def tX11_setSeed : List (Nat × Instr × Nat) := [(0, .aload_n 0, 1), (1, .getfield 25, 3), (4, .aload_n 0, 1), (5, .getfield 10, 3), (8, .invokevirtual 88, 3), (11, .aload_n 0, 1), (12, .aload_n 0, 1), (13, .getfield 53, 3), (16, .aload_n 0, 1), (17, .getfield 10, 3), (20, .iload_n 1, 1), (21, .invokevirtual 228, 3), (24, .invokevirtual 96, 3), (27, .ireturn, 1)]
set_option maxRecDepth 100000 in
theorem eX11_setSeed : am_dec cX11_setSeed tX11_setSeed := am_dec_of (by decide +kernel)
def tX11_startBroadcast : List (Nat × Instr × Nat) := [(0, .aload_n 0, 1), (1, .getfield 25, 3), (4, .aload_n 0, 1), (5, .getfield 10, 3), (8, .invokevirtual 88, 3), (11, .aload_n 0, 1), (12, .aload_n 0, 1), (13, .getfield 53, 3), (16, .aload_n 0, 1), (17, .getfield 10, 3), (20, .iload_n 1, 1), (21, .iload_n 2, 1), (22, .iload_n 3, 1), (23, .invokevirtual 231, 3), (26, .invokevirtual 96, 3), (29, .ireturn, 1)]
set_option maxRecDepth 100000 in
theorem eX11_startBroadcast : am_dec cX11_startBroadcast tX11_startBroadcast := am_dec_of (by decide +kernel)
def tX11_wind : List (Nat × Instr × Nat) := [(0, .aload_n 0, 1), (1, .getfield 25, 3), (4, .aload_n 0, 1), (5, .getfield 10, 3), (8, .invokevirtual 88, 3), (11, .aload_n 0, 1), (12, .aload_n 0, 1), (13, .getfield 53, 3), (16, .aload_n 0, 1), (17, .getfield 10, 3), (20, .aload_n 0, 1), (21, .getfield 46, 3), (24, .invokevirtual 235, 3), (27, .invokevirtual 96, 3), (30, .ireturn, 1)]
set_option maxRecDepth 100000 in
theorem eX11_wind : am_dec cX11_wind tX11_wind := am_dec_of (by decide +kernel)
def tX11_windUntilEnd : List (Nat × Instr × Nat) := [(0, .aload_n 0, 1), (1, .getfield 25, 3), (4, .aload_n 0, 1), (5, .getfield 10, 3), (8, .invokevirtual 88, 3), (11, .aload_n 0, 1), (12, .aload_n 0, 1), (13, .getfield 53, 3), (16, .aload_n 0, 1), (17, .getfield 10, 3), (20, .aload_n 0, 1), (21, .getfield 46, 3), (24, .invokevirtual 239, 3), (27, .invokevirtual 96, 3), (30, .ireturn, 1)]
set_option maxRecDepth 100000 in
theorem eX11_windUntilEnd : am_dec cX11_windUntilEnd tX11_windUntilEnd := am_dec_of (by decide +kernel)
def tX11_abort : List (Nat × Instr × Nat) := [(0, .aload_n 0, 1), (1, .getfield 25, 3), (4, .aload_n 0, 1), (5, .getfield 10, 3), (8, .invokevirtual 88, 3), (11, .aload_n 0, 1), (12, .aload_n 0, 1), (13, .getfield 53, 3), (16, .aload_n 0, 1), (17, .getfield 10, 3), (20, .invokevirtual 242, 3), (23, .invokevirtual 96, 3), (26, .ireturn, 1)]
set_option maxRecDepth 100000 in
theorem eX11_abort : am_dec cX11_abort tX11_abort := am_dec_of (by decide +kernel)
def tX11_isBroadcasting : List (Nat × Instr × Nat) := [(0, .aload_n 0, 1), (1, .getfield 10, 3), (4, .getfield 246, 3), (7, .getfield 250, 3), (10, .ireturn, 1)]
set_option maxRecDepth 100000 in
theorem eX11_isBroadcasting : am_dec cX11_isBroadcasting tX11_isBroadcasting := am_dec_of (by decide +kernel)
def tX11_source : List (Nat × Instr × Nat) := [(0, .aload_n 0, 1), (1, .invokevirtual 255, 3), (4, .aload_n 0, 1), (5, .getfield 10, 3), (8, .getfield 246, 3), (11, .getfield 258, 3), (14, .ireturn, 1)]
set_option maxRecDepth 100000 in
theorem eX11_source : am_dec cX11_source tX11_source := am_dec_of (by decide +kernel)
def tX11_hasPacket : List (Nat × Instr × Nat) := [(0, .aload_n 0, 1), (1, .iload_n 1, 1), (2, .invokevirtual 127, 3), (5, .aload_n 0, 1), (6, .invokevirtual 255, 3), (9, .iload_n 2, 1), (10, .ifCond .lt 17, 3), (13, .iload_n 2, 1), (14, .aload_n 0, 1), (15, .getfield 10, 3), (18, .getfield 246, 3), (21, .invokevirtual 261, 3), (24, .if_icmp .lt 14, 3), (27, .new 212, 3), (30, .dup, 1), (31, .ldc_w 265, 3), (34, .invokespecial 216, 3), (37, .athrow, 1), (38, .aload_n 0, 1), (39, .getfield 10, 3), (42, .getfield 246, 3), (45, .getfield 267, 3), (48, .iload_n 1, 1), (49, .iaload, 1), (50, .iload_n 2, 1), (51, .invokestatic 162, 3), (54, .ireturn, 1)]
set_option maxRecDepth 100000 in
theorem eX11_hasPacket : am_dec cX11_hasPacket tX11_hasPacket := am_dec_of (by decide +kernel)
def tX11_packetsOf : List (Nat × Instr × Nat) := [(0, .aload_n 0, 1), (1, .iload_n 1, 1), (2, .invokevirtual 127, 3), (5, .aload_n 0, 1), (6, .getfield 10, 3), (9, .getfield 246, 3), (12, .getfield 267, 3), (15, .iload_n 1, 1), (16, .iaload, 1), (17, .invokestatic 270, 3), (20, .ireturn, 1)]
set_option maxRecDepth 100000 in
theorem eX11_packetsOf : am_dec cX11_packetsOf tX11_packetsOf := am_dec_of (by decide +kernel)
def tX11_isCovered : List (Nat × Instr × Nat) := [(0, .aload_n 0, 1), (1, .iload_n 1, 1), (2, .invokevirtual 127, 3), (5, .aload_n 0, 1), (6, .invokevirtual 255, 3), (9, .aload_n 0, 1), (10, .getfield 10, 3), (13, .getfield 246, 3), (16, .iload_n 1, 1), (17, .invokevirtual 275, 3), (20, .ireturn, 1)]
set_option maxRecDepth 100000 in
theorem eX11_isCovered : am_dec cX11_isCovered tX11_isCovered := am_dec_of (by decide +kernel)
def tX11_coveredCount : List (Nat × Instr × Nat) := [(0, .iconst 0, 1), (1, .istore_n 1, 1), (2, .iconst 0, 1), (3, .istore_n 2, 1), (4, .iload_n 2, 1), (5, .aload_n 0, 1), (6, .getfield 10, 3), (9, .getfield 115, 3), (12, .getfield 119, 3), (15, .if_icmp .ge 26, 3), (18, .aload_n 0, 1), (19, .getfield 10, 3), (22, .getfield 246, 3), (25, .iload_n 2, 1), (26, .invokevirtual 275, 3), (29, .ifCond .eq 6, 3), (32, .iinc 1 1, 3), (35, .iinc 2 1, 3), (38, .goto (-34), 3), (41, .iload_n 1, 1), (42, .ireturn, 1)]
set_option maxRecDepth 100000 in
theorem eX11_coveredCount : am_dec cX11_coveredCount tX11_coveredCount := am_dec_of (by decide +kernel)
def tX11_windsLeft : List (Nat × Instr × Nat) := [(0, .aload_n 0, 1), (1, .invokevirtual 278, 3), (4, .aload_n 0, 1), (5, .getfield 16, 3), (8, .aload_n 0, 1), (9, .getfield 10, 3), (12, .invokevirtual 281, 3), (15, .aload_n 0, 1), (16, .getfield 53, 3), (19, .aload_n 0, 1), (20, .getfield 16, 3), (23, .aload_n 0, 1), (24, .getfield 46, 3), (27, .invokevirtual 239, 3), (30, .ireturn, 1)]
set_option maxRecDepth 100000 in
theorem eX11_windsLeft : am_dec cX11_windsLeft tX11_windsLeft := am_dec_of (by decide +kernel)
def tX11_energyLeft : List (Nat × Instr × Nat) := [(0, .aload_n 0, 1), (1, .invokevirtual 278, 3), (4, .aload_n 0, 1), (5, .getfield 16, 3), (8, .aload_n 0, 1), (9, .getfield 10, 3), (12, .invokevirtual 281, 3), (15, .aload_n 0, 1), (16, .getfield 53, 3), (19, .aload_n 0, 1), (20, .getfield 16, 3), (23, .aload_n 0, 1), (24, .getfield 46, 3), (27, .invokevirtual 239, 3), (30, .pop, 1), (31, .aload_n 0, 1), (32, .getfield 16, 3), (35, .getfield 284, 3), (38, .aload_n 0, 1), (39, .getfield 10, 3), (42, .getfield 284, 3), (45, .isub, 1), (46, .ireturn, 1)]
set_option maxRecDepth 100000 in
theorem eX11_energyLeft : am_dec cX11_energyLeft tX11_energyLeft := am_dec_of (by decide +kernel)
def tX11_sentCount : List (Nat × Instr × Nat) := [(0, .aload_n 0, 1), (1, .getfield 10, 3), (4, .getfield 287, 3), (7, .ireturn, 1)]
set_option maxRecDepth 100000 in
theorem eX11_sentCount : am_dec cX11_sentCount tX11_sentCount := am_dec_of (by decide +kernel)
def tX11_lostCount : List (Nat × Instr × Nat) := [(0, .aload_n 0, 1), (1, .getfield 10, 3), (4, .getfield 290, 3), (7, .ireturn, 1)]
set_option maxRecDepth 100000 in
theorem eX11_lostCount : am_dec cX11_lostCount tX11_lostCount := am_dec_of (by decide +kernel)
def tX11_rebuiltCount : List (Nat × Instr × Nat) := [(0, .aload_n 0, 1), (1, .getfield 10, 3), (4, .getfield 293, 3), (7, .ireturn, 1)]
set_option maxRecDepth 100000 in
theorem eX11_rebuiltCount : am_dec cX11_rebuiltCount tX11_rebuiltCount := am_dec_of (by decide +kernel)
def tX11_energy : List (Nat × Instr × Nat) := [(0, .aload_n 0, 1), (1, .getfield 10, 3), (4, .getfield 284, 3), (7, .ireturn, 1)]
set_option maxRecDepth 100000 in
theorem eX11_energy : am_dec cX11_energy tX11_energy := am_dec_of (by decide +kernel)
def tX11_finishedCount : List (Nat × Instr × Nat) := [(0, .aload_n 0, 1), (1, .getfield 10, 3), (4, .getfield 296, 3), (7, .ireturn, 1)]
set_option maxRecDepth 100000 in
theorem eX11_finishedCount : am_dec cX11_finishedCount tX11_finishedCount := am_dec_of (by decide +kernel)
def tX11_failedCount : List (Nat × Instr × Nat) := [(0, .aload_n 0, 1), (1, .getfield 10, 3), (4, .getfield 299, 3), (7, .ireturn, 1)]
set_option maxRecDepth 100000 in
theorem eX11_failedCount : am_dec cX11_failedCount tX11_failedCount := am_dec_of (by decide +kernel)
def tX11_useOf : List (Nat × Instr × Nat) := [(0, .aload_n 0, 1), (1, .iload_n 1, 1), (2, .invokevirtual 135, 3), (5, .aload_n 0, 1), (6, .getfield 10, 3), (9, .getfield 302, 3), (12, .iload_n 1, 1), (13, .iaload, 1), (14, .ireturn, 1)]
set_option maxRecDepth 100000 in
theorem eX11_useOf : am_dec cX11_useOf tX11_useOf := am_dec_of (by decide +kernel)
def tX11_fieldByPackets : List (Nat × Instr × Nat) := [(0, .iconst 0, 1), (1, .istore_n 2, 1), (2, .iload_n 2, 1), (3, .aload_n 0, 1), (4, .getfield 10, 3), (7, .getfield 115, 3), (10, .getfield 119, 3), (13, .if_icmp .ge 23, 3), (16, .aload_n 0, 1), (17, .getfield 10, 3), (20, .iload_n 2, 1), (21, .invokevirtual 305, 3), (24, .iload_n 1, 1), (25, .if_icmp .ne 5, 3), (28, .iload_n 2, 1), (29, .ireturn, 1), (30, .iinc 2 1, 3), (33, .goto (-31), 3), (36, .new 212, 3), (39, .dup, 1), (40, .ldc_w 308, 3), (43, .invokespecial 216, 3), (46, .athrow, 1)]
set_option maxRecDepth 100000 in
theorem eX11_fieldByPackets : am_dec cX11_fieldByPackets tX11_fieldByPackets := am_dec_of (by decide +kernel)
def tX11_pathByUse : List (Nat × Instr × Nat) := [(0, .iconst 0, 1), (1, .istore_n 2, 1), (2, .iload_n 2, 1), (3, .aload_n 0, 1), (4, .getfield 10, 3), (7, .getfield 115, 3), (10, .getfield 124, 3), (13, .if_icmp .ge 23, 3), (16, .aload_n 0, 1), (17, .getfield 10, 3), (20, .iload_n 2, 1), (21, .invokevirtual 310, 3), (24, .iload_n 1, 1), (25, .if_icmp .ne 5, 3), (28, .iload_n 2, 1), (29, .ireturn, 1), (30, .iinc 2 1, 3), (33, .goto (-31), 3), (36, .new 212, 3), (39, .dup, 1), (40, .ldc_w 308, 3), (43, .invokespecial 216, 3), (46, .athrow, 1)]
set_option maxRecDepth 100000 in
theorem eX11_pathByUse : am_dec cX11_pathByUse tX11_pathByUse := am_dec_of (by decide +kernel)
def tX11_meanEnergy : List (Nat × Instr × Nat) := [(0, .aload_n 0, 1), (1, .invokevirtual 313, 3), (4, .aload_n 0, 1), (5, .getfield 10, 3), (8, .getfield 284, 3), (11, .i2d, 1), (12, .aload_n 0, 1), (13, .getfield 10, 3), (16, .getfield 287, 3), (19, .i2d, 1), (20, .ddiv, 1), (21, .dreturn, 1)]
set_option maxRecDepth 100000 in
theorem eX11_meanEnergy : am_dec cX11_meanEnergy tX11_meanEnergy := am_dec_of (by decide +kernel)
def tX11_lossShare : List (Nat × Instr × Nat) := [(0, .aload_n 0, 1), (1, .invokevirtual 313, 3), (4, .aload_n 0, 1), (5, .getfield 10, 3), (8, .getfield 290, 3), (11, .i2f, 1), (12, .aload_n 0, 1), (13, .getfield 10, 3), (16, .getfield 287, 3), (19, .i2f, 1), (20, .fdiv, 1), (21, .freturn, 1)]
set_option maxRecDepth 100000 in
theorem eX11_lossShare : am_dec cX11_lossShare tX11_lossShare := am_dec_of (by decide +kernel)
def tX11_lossBits : List (Nat × Instr × Nat) := [(0, .aload_n 0, 1), (1, .invokevirtual 313, 3), (4, .aload_n 0, 1), (5, .getfield 10, 3), (8, .getfield 290, 3), (11, .i2f, 1), (12, .aload_n 0, 1), (13, .getfield 10, 3), (16, .getfield 287, 3), (19, .i2f, 1), (20, .fdiv, 1), (21, .invokestatic 316, 3), (24, .ireturn, 1)]
set_option maxRecDepth 100000 in
theorem eX11_lossBits : am_dec cX11_lossBits tX11_lossBits := am_dec_of (by decide +kernel)
def tX11_isConsistent : List (Nat × Instr × Nat) := [(0, .aload_n 0, 1), (1, .invokevirtual 320, 3), (4, .ifCond .eq 55, 3), (7, .aload_n 0, 1), (8, .invokevirtual 324, 3), (11, .ifCond .eq 48, 3), (14, .aload_n 0, 1), (15, .getfield 32, 3), (18, .aload_n 0, 1), (19, .getfield 10, 3), (22, .getfield 115, 3), (25, .invokevirtual 189, 3), (28, .aload_n 0, 1), (29, .getfield 32, 3), (32, .aload_n 0, 1), (33, .getfield 10, 3), (36, .getfield 115, 3), (39, .invokevirtual 193, 3), (42, .if_icmp .ne 17, 3), (45, .aload_n 0, 1), (46, .getfield 10, 3), (49, .invokevirtual 327, 3), (52, .ifCond .eq 7, 3), (55, .iconst 1, 1), (56, .goto 4, 3), (59, .iconst 0, 1), (60, .ireturn, 1)]
set_option maxRecDepth 100000 in
theorem eX11_isConsistent : am_dec cX11_isConsistent tX11_isConsistent := am_dec_of (by decide +kernel)
def tX11_writeField : List (Nat × Instr × Nat) := [(0, .aload_n 0, 1), (1, .iload_n 1, 1), (2, .invokevirtual 127, 3), (5, .aload_n 0, 1), (6, .iconst 0, 1), (7, .putfield 68, 3), (10, .aload_n 0, 1), (11, .bipush 48, 2), (13, .iload_n 1, 1), (14, .iadd, 1), (15, .i2c, 1), (16, .invokevirtual 330, 3), (19, .aload_n 0, 1), (20, .bipush 115, 2), (22, .invokevirtual 330, 3), (25, .aload_n 0, 1), (26, .bipush 48, 2), (28, .aload_n 0, 1), (29, .getfield 10, 3), (32, .getfield 115, 3), (35, .getfield 131, 3), (38, .iload_n 1, 1), (39, .iaload, 1), (40, .iadd, 1), (41, .i2c, 1), (42, .invokevirtual 330, 3), (45, .aload_n 0, 1), (46, .bipush 58, 2), (48, .invokevirtual 330, 3), (51, .iconst 0, 1), (52, .istore_n 2, 1), (53, .iload_n 2, 1), (54, .aload_n 0, 1), (55, .getfield 10, 3), (58, .getfield 246, 3), (61, .invokevirtual 261, 3), (64, .if_icmp .ge 39, 3), (67, .aload_n 0, 1), (68, .aload_n 0, 1), (69, .getfield 10, 3), (72, .getfield 246, 3), (75, .getfield 267, 3), (78, .iload_n 1, 1), (79, .iaload, 1), (80, .iload_n 2, 1), (81, .invokestatic 162, 3), (84, .ifCond .eq 8, 3), (87, .bipush 35, 2), (89, .goto 5, 3), (92, .bipush 46, 2), (94, .invokevirtual 330, 3), (97, .iinc 2 1, 3), (100, .goto (-47), 3), (103, .aload_n 0, 1), (104, .getfield 10, 3), (107, .getfield 246, 3), (110, .iload_n 1, 1), (111, .invokevirtual 275, 3), (114, .ifCond .eq 9, 3), (117, .aload_n 0, 1), (118, .bipush 33, 2), (120, .invokevirtual 330, 3), (123, .aload_n 0, 1), (124, .getfield 68, 3), (127, .ireturn, 1)]
set_option maxRecDepth 100000 in
theorem eX11_writeField : am_dec cX11_writeField tX11_writeField := am_dec_of (by decide +kernel)
def tX11_outputAt : List (Nat × Instr × Nat) := [(0, .iload_n 1, 1), (1, .ifCond .lt 11, 3), (4, .iload_n 1, 1), (5, .aload_n 0, 1), (6, .getfield 68, 3), (9, .if_icmp .lt 14, 3), (12, .new 334, 3), (15, .dup, 1), (16, .ldc_w 336, 3), (19, .invokespecial 338, 3), (22, .athrow, 1), (23, .aload_n 0, 1), (24, .getfield 64, 3), (27, .iload_n 1, 1), (28, .caload, 1), (29, .ireturn, 1)]
set_option maxRecDepth 100000 in
theorem eX11_outputAt : am_dec cX11_outputAt tX11_outputAt := am_dec_of (by decide +kernel)
def tX11_appendInput : List (Nat × Instr × Nat) := [(0, .iload_n 1, 1), (1, .bipush 32, 2), (3, .if_icmp .lt 9, 3), (6, .iload_n 1, 1), (7, .bipush 126, 2), (9, .if_icmp .le 14, 3), (12, .new 339, 3), (15, .dup, 1), (16, .ldc_w 341, 3), (19, .invokespecial 343, 3), (22, .athrow, 1), (23, .aload_n 0, 1), (24, .getfield 60, 3), (27, .getfield 344, 3), (30, .bipush 60, 2), (32, .if_icmp .lt 14, 3), (35, .new 347, 3), (38, .dup, 1), (39, .ldc_w 349, 3), (42, .invokespecial 351, 3), (45, .athrow, 1), (46, .aload_n 0, 1), (47, .getfield 60, 3), (50, .iload_n 1, 1), (51, .invokevirtual 352, 3), (54, .aload_n 0, 1), (55, .getfield 60, 3), (58, .getfield 344, 3), (61, .ireturn, 1)]
set_option maxRecDepth 100000 in
theorem eX11_appendInput : am_dec cX11_appendInput tX11_appendInput := am_dec_of (by decide +kernel)
def tX11_execute : List (Nat × Instr × Nat) := [(0, .aload_n 0, 1), (1, .getfield 60, 3), (4, .invokevirtual 355, 3), (7, .istore_n 1, 1), (8, .iload_n 1, 1), (9, .iconst (-1), 1), (10, .if_icmp .eq 19, 3), (13, .aload_n 0, 1), (14, .iload_n 1, 1), (15, .putfield 85, 3), (18, .new 339, 3), (21, .dup, 1), (22, .ldc_w 358, 3), (25, .invokespecial 343, 3), (28, .athrow, 1), (29, .aload_n 0, 1), (30, .getfield 25, 3), (33, .aload_n 0, 1), (34, .getfield 10, 3), (37, .invokevirtual 88, 3), (40, .iconst 0, 1), (41, .istore_n 2, 1), (42, .iconst 0, 1), (43, .istore_n 3, 1), (44, .iload_n 2, 1), (45, .aload_n 0, 1), (46, .getfield 60, 3), (49, .getfield 360, 3), (52, .if_icmp .ge 36, 3), (55, .iload_n 3, 1), (56, .ifCond .lt 32, 3), (59, .aload_n 0, 1), (60, .aload_n 0, 1), (61, .getfield 60, 3), (64, .getfield 363, 3), (67, .iload_n 2, 1), (68, .aaload, 1), (69, .aload_n 0, 1), (70, .getfield 60, 3), (73, .getfield 367, 3), (76, .iload_n 2, 1), (77, .aaload, 1), (78, .invokevirtual 371, 3), (81, .istore_n 3, 1), (82, .iinc 2 1, 3), (85, .goto (-41), 3), (88, .iload_n 3, 1), (89, .ifCond .ge 17, 3), (92, .aload_n 0, 1), (93, .getfield 10, 3), (96, .aload_n 0, 1), (97, .getfield 25, 3), (100, .invokevirtual 375, 3), (103, .invokevirtual 281, 3), (106, .iload_n 3, 1), (107, .bipush (-3), 2), (109, .if_icmp .ne 30, 3), (112, .aload_n 0, 1), (113, .bipush 7, 2), (115, .iload_n 2, 1), (116, .iconst 1, 1), (117, .isub, 1), (118, .aload_n 0, 1), (119, .getfield 53, 3), (122, .getfield 379, 3), (125, .invokevirtual 382, 3), (128, .new 386, 3), (131, .dup, 1), (132, .ldc_w 388, 3), (135, .invokespecial 390, 3), (138, .athrow, 1), (139, .iload_n 3, 1), (140, .ifCond .ge 14, 3), (143, .new 347, 3), (146, .dup, 1), (147, .ldc_w 391, 3), (150, .invokespecial 351, 3), (153, .athrow, 1), (154, .aload_n 0, 1), (155, .getfield 25, 3), (158, .invokevirtual 393, 3), (161, .iload_n 2, 1), (162, .ireturn, 1)]
set_option maxRecDepth 100000 in
theorem eX11_execute : am_dec cX11_execute tX11_execute := am_dec_of (by decide +kernel)
def tX11_syntaxErrorOffset : List (Nat × Instr × Nat) := [(0, .aload_n 0, 1), (1, .getfield 85, 3), (4, .iconst (-1), 1), (5, .if_icmp .ne 14, 3), (8, .new 212, 3), (11, .dup, 1), (12, .ldc_w 396, 3), (15, .invokespecial 216, 3), (18, .athrow, 1), (19, .aload_n 0, 1), (20, .getfield 85, 3), (23, .ireturn, 1)]
set_option maxRecDepth 100000 in
theorem eX11_syntaxErrorOffset : am_dec cX11_syntaxErrorOffset tX11_syntaxErrorOffset := am_dec_of (by decide +kernel)
def tX11_rejectionReason : List (Nat × Instr × Nat) := [(0, .aload_n 0, 1), (1, .invokevirtual 398, 3), (4, .aload_n 0, 1), (5, .getfield 76, 3), (8, .ireturn, 1)]
set_option maxRecDepth 100000 in
theorem eX11_rejectionReason : am_dec cX11_rejectionReason tX11_rejectionReason := am_dec_of (by decide +kernel)
def tX11_rejectionDetail : List (Nat × Instr × Nat) := [(0, .aload_n 0, 1), (1, .invokevirtual 398, 3), (4, .aload_n 0, 1), (5, .getfield 79, 3), (8, .ireturn, 1)]
set_option maxRecDepth 100000 in
theorem eX11_rejectionDetail : am_dec cX11_rejectionDetail tX11_rejectionDetail := am_dec_of (by decide +kernel)
def tX11_causeReason : List (Nat × Instr × Nat) := [(0, .aload_n 0, 1), (1, .getfield 76, 3), (4, .bipush 7, 2), (6, .if_icmp .eq 14, 3), (9, .new 212, 3), (12, .dup, 1), (13, .ldc_w 401, 3), (16, .invokespecial 216, 3), (19, .athrow, 1), (20, .aload_n 0, 1), (21, .getfield 82, 3), (24, .ireturn, 1)]
set_option maxRecDepth 100000 in
theorem eX11_causeReason : am_dec cX11_causeReason tX11_causeReason := am_dec_of (by decide +kernel)
def tX11_undo : List (Nat × Instr × Nat) := [(0, .aload_n 0, 1), (1, .getfield 25, 3), (4, .getfield 403, 3), (7, .ifCond .ne 14, 3), (10, .new 347, 3), (13, .dup, 1), (14, .ldc_w 406, 3), (17, .invokespecial 351, 3), (20, .athrow, 1), (21, .aload_n 0, 1), (22, .getfield 25, 3), (25, .aload_n 0, 1), (26, .getfield 10, 3), (29, .invokevirtual 408, 3), (32, .aload_n 0, 1), (33, .getfield 25, 3), (36, .getfield 403, 3), (39, .ireturn, 1)]
set_option maxRecDepth 100000 in
theorem eX11_undo : am_dec cX11_undo tX11_undo := am_dec_of (by decide +kernel)
def tX11_saveSnapshot : List (Nat × Instr × Nat) := [(0, .aload_n 0, 1), (1, .getfield 19, 3), (4, .aload_n 0, 1), (5, .getfield 10, 3), (8, .invokevirtual 281, 3), (11, .aload_n 0, 1), (12, .iconst 1, 1), (13, .putfield 72, 3), (16, .aload_n 0, 1), (17, .getfield 10, 3), (20, .getfield 115, 3), (23, .getfield 119, 3), (26, .ireturn, 1)]
set_option maxRecDepth 100000 in
theorem eX11_saveSnapshot : am_dec cX11_saveSnapshot tX11_saveSnapshot := am_dec_of (by decide +kernel)
def tX11_restoreSnapshot : List (Nat × Instr × Nat) := [(0, .aload_n 0, 1), (1, .getfield 72, 3), (4, .ifCond .ne 14, 3), (7, .new 347, 3), (10, .dup, 1), (11, .ldc_w 411, 3), (14, .invokespecial 351, 3), (17, .athrow, 1), (18, .aload_n 0, 1), (19, .getfield 10, 3), (22, .aload_n 0, 1), (23, .getfield 19, 3), (26, .invokevirtual 281, 3), (29, .aload_n 0, 1), (30, .getfield 25, 3), (33, .invokevirtual 413, 3), (36, .aload_n 0, 1), (37, .getfield 10, 3), (40, .getfield 115, 3), (43, .getfield 119, 3), (46, .ireturn, 1)]
set_option maxRecDepth 100000 in
theorem eX11_restoreSnapshot : am_dec cX11_restoreSnapshot tX11_restoreSnapshot := am_dec_of (by decide +kernel)
def tX11_requireField : List (Nat × Instr × Nat) := [(0, .aload_n 0, 1), (1, .getfield 10, 3), (4, .getfield 115, 3), (7, .iload_n 1, 1), (8, .invokevirtual 416, 3), (11, .ifCond .ne 14, 3), (14, .new 334, 3), (17, .dup, 1), (18, .ldc_w 419, 3), (21, .invokespecial 338, 3), (24, .athrow, 1), (25, .return_, 1)]
set_option maxRecDepth 100000 in
theorem eX11_requireField : am_dec cX11_requireField tX11_requireField := am_dec_of (by decide +kernel)
def tX11_requirePath : List (Nat × Instr × Nat) := [(0, .aload_n 0, 1), (1, .getfield 10, 3), (4, .getfield 115, 3), (7, .iload_n 1, 1), (8, .invokevirtual 421, 3), (11, .ifCond .ne 14, 3), (14, .new 334, 3), (17, .dup, 1), (18, .ldc_w 424, 3), (21, .invokespecial 338, 3), (24, .athrow, 1), (25, .return_, 1)]
set_option maxRecDepth 100000 in
theorem eX11_requirePath : am_dec cX11_requirePath tX11_requirePath := am_dec_of (by decide +kernel)
def tX11_requireTwoFields : List (Nat × Instr × Nat) := [(0, .aload_n 0, 1), (1, .iload_n 1, 1), (2, .invokevirtual 127, 3), (5, .aload_n 0, 1), (6, .iload_n 2, 1), (7, .invokevirtual 127, 3), (10, .iload_n 1, 1), (11, .iload_n 2, 1), (12, .if_icmp .ne 14, 3), (15, .new 339, 3), (18, .dup, 1), (19, .ldc_w 426, 3), (22, .invokespecial 343, 3), (25, .athrow, 1), (26, .return_, 1)]
set_option maxRecDepth 100000 in
theorem eX11_requireTwoFields : am_dec cX11_requireTwoFields tX11_requireTwoFields := am_dec_of (by decide +kernel)
def tX11_requireStarted : List (Nat × Instr × Nat) := [(0, .aload_n 0, 1), (1, .getfield 10, 3), (4, .getfield 246, 3), (7, .getfield 428, 3), (10, .ifCond .ne 14, 3), (13, .new 212, 3), (16, .dup, 1), (17, .ldc_w 431, 3), (20, .invokespecial 216, 3), (23, .athrow, 1), (24, .return_, 1)]
set_option maxRecDepth 100000 in
theorem eX11_requireStarted : am_dec cX11_requireStarted tX11_requireStarted := am_dec_of (by decide +kernel)
def tX11_requireRunning : List (Nat × Instr × Nat) := [(0, .aload_n 0, 1), (1, .getfield 10, 3), (4, .getfield 246, 3), (7, .getfield 250, 3), (10, .ifCond .ne 14, 3), (13, .new 212, 3), (16, .dup, 1), (17, .ldc_w 433, 3), (20, .invokespecial 216, 3), (23, .athrow, 1), (24, .return_, 1)]
set_option maxRecDepth 100000 in
theorem eX11_requireRunning : am_dec cX11_requireRunning tX11_requireRunning := am_dec_of (by decide +kernel)
def tX11_requireSent : List (Nat × Instr × Nat) := [(0, .aload_n 0, 1), (1, .getfield 10, 3), (4, .getfield 287, 3), (7, .ifCond .ne 14, 3), (10, .new 435, 3), (13, .dup, 1), (14, .ldc_w 437, 3), (17, .invokespecial 439, 3), (20, .athrow, 1), (21, .return_, 1)]
set_option maxRecDepth 100000 in
theorem eX11_requireSent : am_dec cX11_requireSent tX11_requireSent := am_dec_of (by decide +kernel)
def tX11_requireRejection : List (Nat × Instr × Nat) := [(0, .aload_n 0, 1), (1, .getfield 76, 3), (4, .iconst (-1), 1), (5, .if_icmp .ne 14, 3), (8, .new 212, 3), (11, .dup, 1), (12, .ldc_w 440, 3), (15, .invokespecial 216, 3), (18, .athrow, 1), (19, .return_, 1)]
set_option maxRecDepth 100000 in
theorem eX11_requireRejection : am_dec cX11_requireRejection tX11_requireRejection := am_dec_of (by decide +kernel)
def tX11_requireWay : List (Nat × Instr × Nat) := [(0, .iload_n 0, 1), (1, .sipush 1000, 3), (4, .if_icmp .lt 14, 3), (7, .new 212, 3), (10, .dup, 1), (11, .ldc_w 442, 3), (14, .invokespecial 216, 3), (17, .athrow, 1), (18, .iload_n 0, 1), (19, .ireturn, 1)]
set_option maxRecDepth 100000 in
theorem eX11_requireWay : am_dec cX11_requireWay tX11_requireWay := am_dec_of (by decide +kernel)
def tX11_settle : List (Nat × Instr × Nat) := [(0, .iload_n 1, 1), (1, .iconst (-1), 1), (2, .if_icmp .ne 14, 3), (5, .new 334, 3), (8, .dup, 1), (9, .ldc_w 444, 3), (12, .invokespecial 338, 3), (15, .athrow, 1), (16, .iload_n 1, 1), (17, .bipush (-2), 2), (19, .if_icmp .ne 14, 3), (22, .new 339, 3), (25, .dup, 1), (26, .ldc_w 446, 3), (29, .invokespecial 343, 3), (32, .athrow, 1), (33, .iload_n 1, 1), (34, .bipush (-3), 2), (36, .if_icmp .ne 33, 3), (39, .aload_n 0, 1), (40, .aload_n 0, 1), (41, .getfield 53, 3), (44, .getfield 379, 3), (47, .aload_n 0, 1), (48, .getfield 53, 3), (51, .getfield 448, 3), (54, .iconst (-1), 1), (55, .invokevirtual 382, 3), (58, .new 386, 3), (61, .dup, 1), (62, .ldc_w 451, 3), (65, .invokespecial 390, 3), (68, .athrow, 1), (69, .aload_n 0, 1), (70, .getfield 25, 3), (73, .invokevirtual 393, 3), (76, .iload_n 1, 1), (77, .ireturn, 1)]
set_option maxRecDepth 100000 in
theorem eX11_settle : am_dec cX11_settle tX11_settle := am_dec_of (by decide +kernel)
def tX11_noteRejection : List (Nat × Instr × Nat) := [(0, .aload_n 0, 1), (1, .iload_n 1, 1), (2, .putfield 76, 3), (5, .aload_n 0, 1), (6, .iload_n 2, 1), (7, .putfield 79, 3), (10, .aload_n 0, 1), (11, .iload_n 3, 1), (12, .putfield 82, 3), (15, .return_, 1)]
set_option maxRecDepth 100000 in
theorem eX11_noteRejection : am_dec cX11_noteRejection tX11_noteRejection := am_dec_of (by decide +kernel)
def tX11_perform : List (Nat × Instr × Nat) := [(0, .aload_n 1, 1), (1, .ifnull 13, 3), (4, .aload_n 2, 1), (5, .ifnull 9, 3), (8, .aload_n 2, 1), (9, .arraylength, 1), (10, .iconst 4, 1), (11, .if_icmp .ge 6, 3), (14, .bipush (-2), 2), (16, .ireturn, 1), (17, .getstatic 453, 3), (20, .aload_n 1, 1), (21, .invokevirtual 458, 3), (24, .iaload, 1), (25, .tableswitch 255 1 11 #[59, 74, 98, 116, 134, 150, 166, 181, 211, 227, 243], 59), (84, .aload_n 0, 1), (85, .getfield 53, 3), (88, .aload_n 0, 1), (89, .getfield 10, 3), (92, .aload_n 2, 1), (93, .iconst 0, 1), (94, .iaload, 1), (95, .invokevirtual 92, 3), (98, .ireturn, 1), (99, .aload_n 0, 1), (100, .getfield 53, 3), (103, .aload_n 0, 1), (104, .getfield 10, 3), (107, .aload_n 2, 1), (108, .iconst 0, 1), (109, .iaload, 1), (110, .aload_n 2, 1), (111, .iconst 1, 1), (112, .iaload, 1), (113, .aload_n 2, 1), (114, .iconst 2, 1), (115, .iaload, 1), (116, .aload_n 2, 1), (117, .iconst 3, 1), (118, .iaload, 1), (119, .invokevirtual 104, 3), (122, .ireturn, 1), (123, .aload_n 0, 1), (124, .getfield 53, 3), (127, .aload_n 0, 1), (128, .getfield 10, 3), (131, .aload_n 2, 1), (132, .iconst 0, 1), (133, .iaload, 1), (134, .aload_n 2, 1), (135, .iconst 1, 1), (136, .iaload, 1), (137, .invokevirtual 100, 3), (140, .ireturn, 1), (141, .aload_n 0, 1), (142, .getfield 53, 3), (145, .aload_n 0, 1), (146, .getfield 10, 3), (149, .aload_n 2, 1), (150, .iconst 0, 1), (151, .iaload, 1), (152, .aload_n 2, 1), (153, .iconst 1, 1), (154, .iaload, 1), (155, .invokevirtual 108, 3), (158, .ireturn, 1), (159, .aload_n 0, 1), (160, .getfield 53, 3), (163, .aload_n 0, 1), (164, .getfield 10, 3), (167, .aload_n 2, 1), (168, .iconst 0, 1), (169, .iaload, 1), (170, .iconst 1, 1), (171, .invokevirtual 111, 3), (174, .ireturn, 1), (175, .aload_n 0, 1), (176, .getfield 53, 3), (179, .aload_n 0, 1), (180, .getfield 10, 3), (183, .aload_n 2, 1), (184, .iconst 0, 1), (185, .iaload, 1), (186, .iconst 0, 1), (187, .invokevirtual 111, 3), (190, .ireturn, 1), (191, .aload_n 0, 1), (192, .getfield 53, 3), (195, .aload_n 0, 1), (196, .getfield 10, 3), (199, .aload_n 2, 1), (200, .iconst 0, 1), (201, .iaload, 1), (202, .invokevirtual 228, 3), (205, .ireturn, 1), (206, .aload_n 0, 1), (207, .getfield 53, 3), (210, .aload_n 0, 1), (211, .getfield 10, 3), (214, .aload_n 2, 1), (215, .iconst 0, 1), (216, .iaload, 1), (217, .aload_n 2, 1), (218, .iconst 1, 1), (219, .iaload, 1), (220, .aload_n 2, 1), (221, .iconst 2, 1), (222, .iaload, 1), (223, .iconst 1, 1), (224, .if_icmp .ne 7, 3), (227, .iconst 1, 1), (228, .goto 4, 3), (231, .iconst 0, 1), (232, .invokevirtual 231, 3), (235, .ireturn, 1), (236, .aload_n 0, 1), (237, .getfield 53, 3), (240, .aload_n 0, 1), (241, .getfield 10, 3), (244, .aload_n 0, 1), (245, .getfield 46, 3), (248, .invokevirtual 235, 3), (251, .ireturn, 1), (252, .aload_n 0, 1), (253, .getfield 53, 3), (256, .aload_n 0, 1), (257, .getfield 10, 3), (260, .aload_n 0, 1), (261, .getfield 46, 3), (264, .invokevirtual 239, 3), (267, .ireturn, 1), (268, .aload_n 0, 1), (269, .getfield 53, 3), (272, .aload_n 0, 1), (273, .getfield 10, 3), (276, .invokevirtual 242, 3), (279, .ireturn, 1), (280, .bipush (-2), 2), (282, .ireturn, 1)]
set_option maxRecDepth 100000 in
theorem eX11_perform : am_dec cX11_perform tX11_perform := am_dec_of (by decide +kernel)
def tX11_put : List (Nat × Instr × Nat) := [(0, .aload_n 0, 1), (1, .getfield 68, 3), (4, .bipush 12, 2), (6, .if_icmp .ge 23, 3), (9, .aload_n 0, 1), (10, .getfield 64, 3), (13, .aload_n 0, 1), (14, .getfield 68, 3), (17, .iload_n 1, 1), (18, .castore, 1), (19, .aload_n 0, 1), (20, .dup, 1), (21, .getfield 68, 3), (24, .iconst 1, 1), (25, .iadd, 1), (26, .putfield 68, 3), (29, .return_, 1)]
set_option maxRecDepth 100000 in
theorem eX11_put : am_dec cX11_put tX11_put := am_dec_of (by decide +kernel)
def tX11_treeCostsAgree : List (Nat × Instr × Nat) := [(0, .iconst 0, 1), (1, .istore_n 1, 1), (2, .iload_n 1, 1), (3, .aload_n 0, 1), (4, .getfield 10, 3), (7, .getfield 115, 3), (10, .getfield 119, 3), (13, .if_icmp .ge 44, 3), (16, .aload_n 0, 1), (17, .getfield 39, 3), (20, .aload_n 0, 1), (21, .getfield 10, 3), (24, .getfield 115, 3), (27, .iload_n 1, 1), (28, .invokevirtual 196, 3), (31, .aload_n 0, 1), (32, .getfield 39, 3), (35, .aload_n 0, 1), (36, .getfield 10, 3), (39, .getfield 115, 3), (42, .iload_n 1, 1), (43, .invokevirtual 199, 3), (46, .if_icmp .eq 5, 3), (49, .iconst 0, 1), (50, .ireturn, 1), (51, .iinc 1 1, 3), (54, .goto (-52), 3), (57, .iconst 1, 1), (58, .ireturn, 1)]
set_option maxRecDepth 100000 in
theorem eX11_treeCostsAgree : am_dec cX11_treeCostsAgree tX11_treeCostsAgree := am_dec_of (by decide +kernel)
def tX11_waysAgreeWithCuts : List (Nat × Instr × Nat) := [(0, .iconst 0, 1), (1, .istore_n 1, 1), (2, .iload_n 1, 1), (3, .aload_n 0, 1), (4, .getfield 10, 3), (7, .getfield 115, 3), (10, .getfield 119, 3), (13, .if_icmp .ge 70, 3), (16, .iload_n 1, 1), (17, .iconst 1, 1), (18, .iadd, 1), (19, .istore_n 2, 1), (20, .iload_n 2, 1), (21, .aload_n 0, 1), (22, .getfield 10, 3), (25, .getfield 115, 3), (28, .getfield 119, 3), (31, .if_icmp .ge 46, 3), (34, .aload_n 0, 1), (35, .getfield 32, 3), (38, .aload_n 0, 1), (39, .getfield 10, 3), (42, .getfield 115, 3), (45, .iload_n 1, 1), (46, .iload_n 2, 1), (47, .invokevirtual 179, 3), (50, .aload_n 0, 1), (51, .getfield 32, 3), (54, .aload_n 0, 1), (55, .getfield 10, 3), (58, .getfield 115, 3), (61, .iload_n 1, 1), (62, .iload_n 2, 1), (63, .invokevirtual 182, 3), (66, .if_icmp .eq 5, 3), (69, .iconst 0, 1), (70, .ireturn, 1), (71, .iinc 2 1, 3), (74, .goto (-54), 3), (77, .iinc 1 1, 3), (80, .goto (-78), 3), (83, .iconst 1, 1), (84, .ireturn, 1)]
set_option maxRecDepth 100000 in
theorem eX11_waysAgreeWithCuts : am_dec cX11_waysAgreeWithCuts tX11_waysAgreeWithCuts := am_dec_of (by decide +kernel)
def tX11_hasBit : List (Nat × Instr × Nat) := [(0, .iload_n 0, 1), (1, .iload_n 1, 1), (2, .ishr, 1), (3, .iconst 1, 1), (4, .iand, 1), (5, .iconst 1, 1), (6, .if_icmp .ne 7, 3), (9, .iconst 1, 1), (10, .goto 4, 3), (13, .iconst 0, 1), (14, .ireturn, 1)]
set_option maxRecDepth 100000 in
theorem eX11_hasBit : am_dec cX11_hasBit tX11_hasBit := am_dec_of (by decide +kernel)
def tX11_bitsOfShare : List (Nat × Instr × Nat) := [(0, .fload_n 0, 1), (1, .fstore_n 1, 1), (2, .bipush 127, 2), (4, .istore_n 2, 1), (5, .iload_n 2, 1), (6, .ifCond .le 33, 3), (9, .fload_n 1, 1), (10, .fconst 1, 1), (11, .fcmp .l, 1), (12, .ifCond .lt 17, 3), (15, .iload_n 2, 1), (16, .bipush 23, 2), (18, .ishl, 1), (19, .fload_n 1, 1), (20, .fconst 1, 1), (21, .fsub, 1), (22, .ldc_w 463, 3), (25, .fmul, 1), (26, .f2i, 1), (27, .iadd, 1), (28, .ireturn, 1), (29, .fload_n 1, 1), (30, .fconst 2, 1), (31, .fmul, 1), (32, .fstore_n 1, 1), (33, .iinc 2 (-1), 3), (36, .goto (-31), 3), (39, .iconst 0, 1), (40, .ireturn, 1)]
set_option maxRecDepth 100000 in
theorem eX11_bitsOfShare : am_dec cX11_bitsOfShare tX11_bitsOfShare := am_dec_of (by decide +kernel)
def tX12_init : List (Nat × Instr × Nat) := [(0, .aload_n 0, 1), (1, .invokespecial 3, 3), (4, .aload_n 0, 1), (5, .sipush 129, 3), (8, .newarray .int, 2), (10, .putfield 9, 3), (13, .aload_n 0, 1), (14, .sipush 129, 3), (17, .newarray .int, 2), (19, .putfield 13, 3), (22, .aload_n 0, 1), (23, .sipush 129, 3), (26, .newarray .int, 2), (28, .putfield 16, 3), (31, .aload_n 0, 1), (32, .sipush 129, 3), (35, .newarray .int, 2), (37, .putfield 19, 3), (40, .aload_n 0, 1), (41, .bipush 8, 2), (43, .sipush 129, 3), (46, .multianewarray 22 2, 4), (50, .putfield 24, 3), (53, .aload_n 0, 1), (54, .bipush 9, 2), (56, .newarray .int, 2), (58, .putfield 27, 3), (61, .aload_n 0, 1), (62, .bipush 9, 2), (64, .newarray .int, 2), (66, .putfield 30, 3), (69, .aload_n 0, 1), (70, .bipush 9, 2), (72, .newarray .int, 2), (74, .putfield 33, 3), (77, .aload_n 0, 1), (78, .bipush 9, 2), (80, .newarray .int, 2), (82, .putfield 36, 3), (85, .aload_n 0, 1), (86, .bipush 9, 2), (88, .newarray .int, 2), (90, .putfield 39, 3), (93, .aload_n 0, 1), (94, .bipush 16, 2), (96, .newarray .char, 2), (98, .putfield 42, 3), (101, .aload_n 0, 1), (102, .bipush 60, 2), (104, .newarray .char, 2), (106, .putfield 46, 3), (109, .aload_n 0, 1), (110, .iconst 4, 1), (111, .newarray .int, 2), (113, .putfield 49, 3), (116, .aload_n 0, 1), (117, .iconst (-1), 1), (118, .putfield 52, 3), (121, .return_, 1)]
set_option maxRecDepth 100000 in
theorem eX12_init : am_dec cX12_init tX12_init := am_dec_of (by decide +kernel)
def tX12_thrown : List (Nat × Instr × Nat) := [(0, .aload_n 0, 1), (1, .getfield 56, 3), (4, .ireturn, 1)]
set_option maxRecDepth 100000 in
theorem eX12_thrown : am_dec cX12_thrown tX12_thrown := am_dec_of (by decide +kernel)
def tX12_isBetween : List (Nat × Instr × Nat) := [(0, .iload_n 0, 1), (1, .iload_n 1, 1), (2, .if_icmp .lt 12, 3), (5, .iload_n 0, 1), (6, .iload_n 2, 1), (7, .if_icmp .gt 7, 3), (10, .iconst 1, 1), (11, .goto 4, 3), (14, .iconst 0, 1), (15, .ireturn, 1)]
set_option maxRecDepth 100000 in
theorem eX12_isBetween : am_dec cX12_isBetween tX12_isBetween := am_dec_of (by decide +kernel)
def tX12_isDigit : List (Nat × Instr × Nat) := [(0, .iload_n 0, 1), (1, .iconst 0, 1), (2, .bipush 9, 2), (4, .invokestatic 59, 3), (7, .ireturn, 1)]
set_option maxRecDepth 100000 in
theorem eX12_isDigit : am_dec cX12_isDigit tX12_isDigit := am_dec_of (by decide +kernel)
def tX12_copyRow : List (Nat × Instr × Nat) := [(0, .iconst 0, 1), (1, .istore_n 2, 1), (2, .iload_n 2, 1), (3, .sipush 129, 3), (6, .if_icmp .ge 15, 3), (9, .aload_n 1, 1), (10, .iload_n 2, 1), (11, .aload_n 0, 1), (12, .iload_n 2, 1), (13, .iaload, 1), (14, .iastore, 1), (15, .iinc 2 1, 3), (18, .goto (-16), 3), (21, .return_, 1)]
set_option maxRecDepth 100000 in
theorem eX12_copyRow : am_dec cX12_copyRow tX12_copyRow := am_dec_of (by decide +kernel)
def tX12_fails : List (Nat × Instr × Nat) := [(0, .aload_n 0, 1), (1, .iload_n 2, 1), (2, .ifCond .eq 7, 3), (5, .iload_n 1, 1), (6, .goto 4, 3), (9, .iconst 0, 1), (10, .putfield 56, 3), (13, .iload_n 2, 1), (14, .ireturn, 1)]
set_option maxRecDepth 100000 in
theorem eX12_fails : am_dec cX12_fails tX12_fails := am_dec_of (by decide +kernel)
def tX12_rejects : List (Nat × Instr × Nat) := [(0, .iload_n 1, 1), (1, .ifCond .eq 18, 3), (4, .aload_n 0, 1), (5, .iload_n 2, 1), (6, .putfield 63, 3), (9, .aload_n 0, 1), (10, .iload_n 3, 1), (11, .putfield 66, 3), (14, .aload_n 0, 1), (15, .iconst 0, 1), (16, .putfield 69, 3), (19, .iload_n 1, 1), (20, .ireturn, 1)]
set_option maxRecDepth 100000 in
theorem eX12_rejects : am_dec cX12_rejects tX12_rejects := am_dec_of (by decide +kernel)
def tX12_remember : List (Nat × Instr × Nat) := [(0, .aload_n 0, 1), (1, .getfield 72, 3), (4, .bipush 8, 2), (6, .if_icmp .ne 46, 3), (9, .aload_n 0, 1), (10, .dup, 1), (11, .getfield 72, 3), (14, .iconst 1, 1), (15, .isub, 1), (16, .putfield 72, 3), (19, .iconst 0, 1), (20, .istore_n 2, 1), (21, .iload_n 2, 1), (22, .aload_n 0, 1), (23, .getfield 72, 3), (26, .if_icmp .ge 26, 3), (29, .aload_n 0, 1), (30, .getfield 24, 3), (33, .iload_n 2, 1), (34, .iconst 1, 1), (35, .iadd, 1), (36, .aaload, 1), (37, .aload_n 0, 1), (38, .getfield 24, 3), (41, .iload_n 2, 1), (42, .aaload, 1), (43, .invokestatic 75, 3), (46, .iinc 2 1, 3), (49, .goto (-28), 3), (52, .aload_n 1, 1), (53, .aload_n 0, 1), (54, .getfield 24, 3), (57, .aload_n 0, 1), (58, .getfield 72, 3), (61, .aaload, 1), (62, .invokestatic 75, 3), (65, .aload_n 0, 1), (66, .dup, 1), (67, .getfield 72, 3), (70, .iconst 1, 1), (71, .iadd, 1), (72, .putfield 72, 3), (75, .return_, 1)]
set_option maxRecDepth 100000 in
theorem eX12_remember : am_dec cX12_remember tX12_remember := am_dec_of (by decide +kernel)
def tX12_change : List (Nat × Instr × Nat) := [(0, .aload_n 0, 1), (1, .getfield 79, 3), (4, .ifCond .ne 11, 3), (7, .aload_n 0, 1), (8, .aload_n 0, 1), (9, .getfield 9, 3), (12, .invokevirtual 83, 3), (15, .return_, 1)]
set_option maxRecDepth 100000 in
theorem eX12_change : am_dec cX12_change tX12_change := am_dec_of (by decide +kernel)
def tX12_isField : List (Nat × Instr × Nat) := [(0, .iload_n 1, 1), (1, .iconst 0, 1), (2, .aload_n 0, 1), (3, .getfield 9, 3), (6, .iconst 0, 1), (7, .iaload, 1), (8, .iconst 1, 1), (9, .isub, 1), (10, .invokestatic 59, 3), (13, .ireturn, 1)]
set_option maxRecDepth 100000 in
theorem eX12_isField : am_dec cX12_isField tX12_isField := am_dec_of (by decide +kernel)
def tX12_areFields : List (Nat × Instr × Nat) := [(0, .aload_n 0, 1), (1, .iload_n 1, 1), (2, .invokevirtual 87, 3), (5, .ifCond .eq 15, 3), (8, .aload_n 0, 1), (9, .iload_n 2, 1), (10, .invokevirtual 87, 3), (13, .ifCond .eq 7, 3), (16, .iconst 1, 1), (17, .goto 4, 3), (20, .iconst 0, 1), (21, .ireturn, 1)]
set_option maxRecDepth 100000 in
theorem eX12_areFields : am_dec cX12_areFields tX12_areFields := am_dec_of (by decide +kernel)
def tX12_ofField : List (Nat × Instr × Nat) := [(0, .aload_n 0, 1), (1, .getfield 9, 3), (4, .bipush 15, 2), (6, .iconst 2, 1), (7, .iload_n 1, 1), (8, .imul, 1), (9, .iadd, 1), (10, .iload_n 2, 1), (11, .iadd, 1), (12, .iaload, 1), (13, .ireturn, 1)]
set_option maxRecDepth 100000 in
theorem eX12_ofField : am_dec cX12_ofField tX12_ofField := am_dec_of (by decide +kernel)
def tX12_putField : List (Nat × Instr × Nat) := [(0, .aload_n 0, 1), (1, .getfield 9, 3), (4, .bipush 15, 2), (6, .iconst 2, 1), (7, .iload_n 1, 1), (8, .imul, 1), (9, .iadd, 1), (10, .iload_n 2, 1), (11, .iadd, 1), (12, .iload_n 3, 1), (13, .iastore, 1), (14, .return_, 1)]
set_option maxRecDepth 100000 in
theorem eX12_putField : am_dec cX12_putField tX12_putField := am_dec_of (by decide +kernel)
def tX12_isPath : List (Nat × Instr × Nat) := [(0, .iload_n 1, 1), (1, .iconst 0, 1), (2, .aload_n 0, 1), (3, .getfield 9, 3), (6, .iconst 1, 1), (7, .iaload, 1), (8, .iconst 1, 1), (9, .isub, 1), (10, .invokestatic 59, 3), (13, .ireturn, 1)]
set_option maxRecDepth 100000 in
theorem eX12_isPath : am_dec cX12_isPath tX12_isPath := am_dec_of (by decide +kernel)
def tX12_of : List (Nat × Instr × Nat) := [(0, .aload_n 0, 1), (1, .getfield 9, 3), (4, .bipush 33, 2), (6, .bipush 6, 2), (8, .iload_n 1, 1), (9, .imul, 1), (10, .iadd, 1), (11, .iload_n 2, 1), (12, .iadd, 1), (13, .iaload, 1), (14, .ireturn, 1)]
set_option maxRecDepth 100000 in
theorem eX12_of : am_dec cX12_of tX12_of := am_dec_of (by decide +kernel)
def tX12_put : List (Nat × Instr × Nat) := [(0, .aload_n 0, 1), (1, .getfield 9, 3), (4, .bipush 33, 2), (6, .bipush 6, 2), (8, .iload_n 1, 1), (9, .imul, 1), (10, .iadd, 1), (11, .iload_n 2, 1), (12, .iadd, 1), (13, .iload_n 3, 1), (14, .iastore, 1), (15, .return_, 1)]
set_option maxRecDepth 100000 in
theorem eX12_put : am_dec cX12_put tX12_put := am_dec_of (by decide +kernel)
def tX12_has : List (Nat × Instr × Nat) := [(0, .iload_n 0, 1), (1, .iload_n 1, 1), (2, .ishr, 1), (3, .iconst 1, 1), (4, .iand, 1), (5, .iconst 1, 1), (6, .if_icmp .ne 7, 3), (9, .iconst 1, 1), (10, .goto 4, 3), (13, .iconst 0, 1), (14, .ireturn, 1)]
set_option maxRecDepth 100000 in
theorem eX12_has : am_dec cX12_has tX12_has := am_dec_of (by decide +kernel)
def tX12_openPaths : List (Nat × Instr × Nat) := [(0, .iconst 0, 1), (1, .istore_n 1, 1), (2, .iconst 0, 1), (3, .istore_n 2, 1), (4, .iload_n 2, 1), (5, .aload_n 0, 1), (6, .getfield 9, 3), (9, .iconst 1, 1), (10, .iaload, 1), (11, .if_icmp .ge 28, 3), (14, .iload_n 1, 1), (15, .aload_n 0, 1), (16, .iload_n 2, 1), (17, .iconst 4, 1), (18, .invokevirtual 91, 3), (21, .ifCond .ne 9, 3), (24, .iconst 1, 1), (25, .iload_n 2, 1), (26, .ishl, 1), (27, .goto 4, 3), (30, .iconst 0, 1), (31, .ior, 1), (32, .istore_n 1, 1), (33, .iinc 2 1, 3), (36, .goto (-32), 3), (39, .iload_n 1, 1), (40, .ireturn, 1)]
set_option maxRecDepth 100000 in
theorem eX12_openPaths : am_dec cX12_openPaths tX12_openPaths := am_dec_of (by decide +kernel)
def tX12_countBlocked : List (Nat × Instr × Nat) := [(0, .aload_n 0, 1), (1, .getfield 9, 3), (4, .iconst 1, 1), (5, .iaload, 1), (6, .aload_n 0, 1), (7, .invokevirtual 95, 3), (10, .invokestatic 99, 3), (13, .isub, 1), (14, .ireturn, 1)]
set_option maxRecDepth 100000 in
theorem eX12_countBlocked : am_dec cX12_countBlocked tX12_countBlocked := am_dec_of (by decide +kernel)
def tX12_between : List (Nat × Instr × Nat) := [(0, .iconst (-1), 1), (1, .istore_n 3, 1), (2, .iconst 0, 1), (3, .istore 4, 2), (5, .iload 4, 2), (7, .aload_n 0, 1), (8, .getfield 9, 3), (11, .iconst 1, 1), (12, .iaload, 1), (13, .if_icmp .ge 72, 3), (16, .aload_n 0, 1), (17, .iload 4, 2), (19, .iconst 0, 1), (20, .invokevirtual 91, 3), (23, .iload_n 1, 1), (24, .if_icmp .ne 14, 3), (27, .aload_n 0, 1), (28, .iload 4, 2), (30, .iconst 1, 1), (31, .invokevirtual 91, 3), (34, .iload_n 2, 1), (35, .if_icmp .eq 25, 3), (38, .aload_n 0, 1), (39, .iload 4, 2), (41, .iconst 0, 1), (42, .invokevirtual 91, 3), (45, .iload_n 2, 1), (46, .if_icmp .ne 18, 3), (49, .aload_n 0, 1), (50, .iload 4, 2), (52, .iconst 1, 1), (53, .invokevirtual 91, 3), (56, .iload_n 1, 1), (57, .if_icmp .ne 7, 3), (60, .iconst 1, 1), (61, .goto 4, 3), (64, .iconst 0, 1), (65, .istore 5, 2), (67, .iload 5, 2), (69, .ifCond .eq 8, 3), (72, .iload 4, 2), (74, .goto 4, 3), (77, .iload_n 3, 1), (78, .istore_n 3, 1), (79, .iinc 4 1, 3), (82, .goto (-77), 3), (85, .iload_n 3, 1), (86, .ireturn, 1)]
set_option maxRecDepth 100000 in
theorem eX12_between : am_dec cX12_between tX12_between := am_dec_of (by decide +kernel)
def tX12_join : List (Nat × Instr × Nat) := [(0, .aload_n 0, 1), (1, .getfield 27, 3), (4, .aload_n 0, 1), (5, .iload_n 1, 1), (6, .iconst 0, 1), (7, .invokevirtual 91, 3), (10, .iaload, 1), (11, .istore_n 2, 1), (12, .aload_n 0, 1), (13, .getfield 27, 3), (16, .aload_n 0, 1), (17, .iload_n 1, 1), (18, .iconst 1, 1), (19, .invokevirtual 91, 3), (22, .iaload, 1), (23, .istore_n 3, 1), (24, .iconst 0, 1), (25, .istore 4, 2), (27, .iload 4, 2), (29, .aload_n 0, 1), (30, .getfield 9, 3), (33, .iconst 0, 1), (34, .iaload, 1), (35, .if_icmp .ge 46, 3), (38, .aload_n 0, 1), (39, .getfield 27, 3), (42, .iload 4, 2), (44, .aload_n 0, 1), (45, .getfield 27, 3), (48, .iload 4, 2), (50, .iaload, 1), (51, .iload_n 2, 1), (52, .iload_n 3, 1), (53, .invokestatic 105, 3), (56, .if_icmp .ne 11, 3), (59, .iload_n 2, 1), (60, .iload_n 3, 1), (61, .invokestatic 110, 3), (64, .goto 10, 3), (67, .aload_n 0, 1), (68, .getfield 27, 3), (71, .iload 4, 2), (73, .iaload, 1), (74, .iastore, 1), (75, .iinc 4 1, 3), (78, .goto (-51), 3), (81, .return_, 1)]
set_option maxRecDepth 100000 in
theorem eX12_join : am_dec cX12_join tX12_join := am_dec_of (by decide +kernel)
def tX12_separate : List (Nat × Instr × Nat) := [(0, .iconst 0, 1), (1, .istore_n 1, 1), (2, .iload_n 1, 1), (3, .aload_n 0, 1), (4, .getfield 9, 3), (7, .iconst 0, 1), (8, .iaload, 1), (9, .if_icmp .ge 16, 3), (12, .aload_n 0, 1), (13, .getfield 27, 3), (16, .iload_n 1, 1), (17, .iload_n 1, 1), (18, .iastore, 1), (19, .iinc 1 1, 3), (22, .goto (-20), 3), (25, .return_, 1)]
set_option maxRecDepth 100000 in
theorem eX12_separate : am_dec cX12_separate tX12_separate := am_dec_of (by decide +kernel)
def tX12_label : List (Nat × Instr × Nat) := [(0, .aload_n 0, 1), (1, .invokevirtual 113, 3), (4, .iconst 0, 1), (5, .istore_n 2, 1), (6, .iload_n 2, 1), (7, .aload_n 0, 1), (8, .getfield 9, 3), (11, .iconst 1, 1), (12, .iaload, 1), (13, .if_icmp .ge 22, 3), (16, .iload_n 1, 1), (17, .iload_n 2, 1), (18, .invokestatic 116, 3), (21, .ifCond .eq 8, 3), (24, .aload_n 0, 1), (25, .iload_n 2, 1), (26, .invokevirtual 120, 3), (29, .iinc 2 1, 3), (32, .goto (-26), 3), (35, .iconst 0, 1), (36, .istore_n 2, 1), (37, .iconst 0, 1), (38, .istore_n 3, 1), (39, .iload_n 3, 1), (40, .aload_n 0, 1), (41, .getfield 9, 3), (44, .iconst 0, 1), (45, .iaload, 1), (46, .if_icmp .ge 27, 3), (49, .iload_n 2, 1), (50, .aload_n 0, 1), (51, .getfield 27, 3), (54, .iload_n 3, 1), (55, .iaload, 1), (56, .iload_n 3, 1), (57, .if_icmp .ne 7, 3), (60, .iconst 1, 1), (61, .goto 4, 3), (64, .iconst 0, 1), (65, .iadd, 1), (66, .istore_n 2, 1), (67, .iinc 3 1, 3), (70, .goto (-31), 3), (73, .iload_n 2, 1), (74, .ireturn, 1)]
set_option maxRecDepth 100000 in
theorem eX12_label : am_dec cX12_label tX12_label := am_dec_of (by decide +kernel)
def tX12_forest : List (Nat × Instr × Nat) := [(0, .iconst 0, 1), (1, .istore_n 1, 1), (2, .aload_n 0, 1), (3, .invokevirtual 95, 3), (6, .istore_n 2, 1), (7, .aload_n 0, 1), (8, .invokevirtual 113, 3), (11, .iconst 1, 1), (12, .istore_n 3, 1), (13, .iload_n 3, 1), (14, .bipush 9, 2), (16, .if_icmp .gt 89, 3), (19, .iconst 0, 1), (20, .istore 4, 2), (22, .iload 4, 2), (24, .aload_n 0, 1), (25, .getfield 9, 3), (28, .iconst 1, 1), (29, .iaload, 1), (30, .if_icmp .ge 69, 3), (33, .iload_n 2, 1), (34, .iload 4, 2), (36, .invokestatic 116, 3), (39, .ifCond .eq 54, 3), (42, .aload_n 0, 1), (43, .iload 4, 2), (45, .iconst 2, 1), (46, .invokevirtual 91, 3), (49, .iload_n 3, 1), (50, .if_icmp .ne 43, 3), (53, .aload_n 0, 1), (54, .getfield 27, 3), (57, .aload_n 0, 1), (58, .iload 4, 2), (60, .iconst 0, 1), (61, .invokevirtual 91, 3), (64, .iaload, 1), (65, .aload_n 0, 1), (66, .getfield 27, 3), (69, .aload_n 0, 1), (70, .iload 4, 2), (72, .iconst 1, 1), (73, .invokevirtual 91, 3), (76, .iaload, 1), (77, .if_icmp .eq 16, 3), (80, .iload_n 1, 1), (81, .iconst 1, 1), (82, .iload 4, 2), (84, .ishl, 1), (85, .ior, 1), (86, .istore_n 1, 1), (87, .aload_n 0, 1), (88, .iload 4, 2), (90, .invokevirtual 120, 3), (93, .iinc 4 1, 3), (96, .goto (-74), 3), (99, .iinc 3 1, 3), (102, .goto (-89), 3), (105, .iload_n 1, 1), (106, .ireturn, 1)]
set_option maxRecDepth 100000 in
theorem eX12_forest : am_dec cX12_forest tX12_forest := am_dec_of (by decide +kernel)
def tX12_isInTreeOf : List (Nat × Instr × Nat) := [(0, .aload_n 0, 1), (1, .invokevirtual 124, 3), (4, .iload_n 2, 1), (5, .invokestatic 116, 3), (8, .ifCond .eq 27, 3), (11, .aload_n 0, 1), (12, .getfield 27, 3), (15, .aload_n 0, 1), (16, .iload_n 2, 1), (17, .iconst 0, 1), (18, .invokevirtual 91, 3), (21, .iaload, 1), (22, .aload_n 0, 1), (23, .getfield 27, 3), (26, .iload_n 1, 1), (27, .iaload, 1), (28, .if_icmp .ne 7, 3), (31, .iconst 1, 1), (32, .goto 4, 3), (35, .iconst 0, 1), (36, .ireturn, 1)]
set_option maxRecDepth 100000 in
theorem eX12_isInTreeOf : am_dec cX12_isInTreeOf tX12_isInTreeOf := am_dec_of (by decide +kernel)
def tX12_reach : List (Nat × Instr × Nat) := [(0, .aload_n 0, 1), (1, .getfield 36, 3), (4, .iload_n 1, 1), (5, .iaload, 1), (6, .ifCond .ge 31, 3), (9, .aload_n 0, 1), (10, .getfield 36, 3), (13, .iload_n 1, 1), (14, .aload_n 0, 1), (15, .getfield 36, 3), (18, .iload_n 2, 1), (19, .iaload, 1), (20, .iconst 1, 1), (21, .iadd, 1), (22, .iastore, 1), (23, .aload_n 0, 1), (24, .getfield 30, 3), (27, .iload_n 1, 1), (28, .iload_n 2, 1), (29, .iastore, 1), (30, .aload_n 0, 1), (31, .getfield 33, 3), (34, .iload_n 1, 1), (35, .iload_n 3, 1), (36, .iastore, 1), (37, .return_, 1)]
set_option maxRecDepth 100000 in
theorem eX12_reach : am_dec cX12_reach tX12_reach := am_dec_of (by decide +kernel)
def tX12_growTree : List (Nat × Instr × Nat) := [(0, .aload_n 0, 1), (1, .invokevirtual 124, 3), (4, .istore_n 2, 1), (5, .iconst 0, 1), (6, .istore_n 3, 1), (7, .iload_n 3, 1), (8, .aload_n 0, 1), (9, .getfield 9, 3), (12, .iconst 0, 1), (13, .iaload, 1), (14, .if_icmp .ge 25, 3), (17, .aload_n 0, 1), (18, .getfield 36, 3), (21, .iload_n 3, 1), (22, .iload_n 3, 1), (23, .iload_n 1, 1), (24, .if_icmp .ne 7, 3), (27, .iconst 0, 1), (28, .goto 4, 3), (31, .iconst (-1), 1), (32, .iastore, 1), (33, .iinc 3 1, 3), (36, .goto (-29), 3), (39, .iconst 0, 1), (40, .istore_n 3, 1), (41, .iload_n 3, 1), (42, .aload_n 0, 1), (43, .getfield 9, 3), (46, .iconst 0, 1), (47, .iaload, 1), (48, .if_icmp .ge 110, 3), (51, .iconst 0, 1), (52, .istore 4, 2), (54, .iload 4, 2), (56, .aload_n 0, 1), (57, .getfield 9, 3), (60, .iconst 1, 1), (61, .iaload, 1), (62, .if_icmp .ge 90, 3), (65, .aload_n 0, 1), (66, .iload 4, 2), (68, .iconst 0, 1), (69, .invokevirtual 91, 3), (72, .istore 5, 2), (74, .aload_n 0, 1), (75, .iload 4, 2), (77, .iconst 1, 1), (78, .invokevirtual 91, 3), (81, .istore 6, 2), (83, .iload_n 2, 1), (84, .iload 4, 2), (86, .invokestatic 116, 3), (89, .ifCond .eq 27, 3), (92, .aload_n 0, 1), (93, .getfield 36, 3), (96, .iload 5, 2), (98, .iaload, 1), (99, .iload_n 3, 1), (100, .if_icmp .ne 16, 3), (103, .aload_n 0, 1), (104, .iload 6, 2), (106, .iload 5, 2), (108, .iload 4, 2), (110, .invokevirtual 127, 3), (113, .goto 33, 3), (116, .iload_n 2, 1), (117, .iload 4, 2), (119, .invokestatic 116, 3), (122, .ifCond .eq 24, 3), (125, .aload_n 0, 1), (126, .getfield 36, 3), (129, .iload 6, 2), (131, .iaload, 1), (132, .iload_n 3, 1), (133, .if_icmp .ne 13, 3), (136, .aload_n 0, 1), (137, .iload 5, 2), (139, .iload 6, 2), (141, .iload 4, 2), (143, .invokevirtual 127, 3), (146, .iinc 4 1, 3), (149, .goto (-95), 3), (152, .iinc 3 1, 3), (155, .goto (-114), 3), (158, .return_, 1)]
set_option maxRecDepth 100000 in
theorem eX12_growTree : am_dec cX12_growTree tX12_growTree := am_dec_of (by decide +kernel)
def tX12_danger : List (Nat × Instr × Nat) := [(0, .iconst 0, 1), (1, .aload_n 0, 1), (2, .iload_n 1, 1), (3, .iconst 3, 1), (4, .invokevirtual 91, 3), (7, .aload_n 0, 1), (8, .iload_n 2, 1), (9, .iconst 0, 1), (10, .invokevirtual 131, 3), (13, .isub, 1), (14, .invokestatic 105, 3), (17, .ireturn, 1)]
set_option maxRecDepth 100000 in
theorem eX12_danger : am_dec cX12_danger tX12_danger := am_dec_of (by decide +kernel)
def tX12_addField : List (Nat × Instr × Nat) := [(0, .aload_n 0, 1), (1, .iconst 1, 1), (2, .iload_n 1, 1), (3, .invokestatic 134, 3), (6, .ifCond .ne 7, 3), (9, .iconst 1, 1), (10, .goto 4, 3), (13, .iconst 0, 1), (14, .invokevirtual 137, 3), (17, .ifCond .ne 34, 3), (20, .aload_n 0, 1), (21, .iconst 2, 1), (22, .aload_n 0, 1), (23, .aload_n 0, 1), (24, .getfield 9, 3), (27, .iconst 0, 1), (28, .iaload, 1), (29, .bipush 9, 2), (31, .if_icmp .ne 7, 3), (34, .iconst 1, 1), (35, .goto 4, 3), (38, .iconst 0, 1), (39, .iconst 1, 1), (40, .bipush 9, 2), (42, .invokevirtual 141, 3), (45, .invokevirtual 137, 3), (48, .ifCond .eq 5, 3), (51, .iconst 0, 1), (52, .ireturn, 1), (53, .aload_n 0, 1), (54, .invokevirtual 145, 3), (57, .aload_n 0, 1), (58, .getfield 9, 3), (61, .iconst 0, 1), (62, .iaload, 1), (63, .istore_n 2, 1), (64, .aload_n 0, 1), (65, .getfield 9, 3), (68, .iconst 0, 1), (69, .dup2, 1), (70, .iaload, 1), (71, .iconst 1, 1), (72, .iadd, 1), (73, .iastore, 1), (74, .aload_n 0, 1), (75, .iload_n 2, 1), (76, .iconst 0, 1), (77, .iload_n 1, 1), (78, .invokevirtual 148, 3), (81, .aload_n 0, 1), (82, .iload_n 2, 1), (83, .iconst 1, 1), (84, .iconst 0, 1), (85, .invokevirtual 148, 3), (88, .iload_n 2, 1), (89, .ireturn, 1)]
set_option maxRecDepth 100000 in
theorem eX12_addField : am_dec cX12_addField tX12_addField := am_dec_of (by decide +kernel)
def tX12_setShield : List (Nat × Instr × Nat) := [(0, .aload_n 0, 1), (1, .iconst 1, 1), (2, .aload_n 0, 1), (3, .iload_n 1, 1), (4, .invokevirtual 87, 3), (7, .ifCond .ne 7, 3), (10, .iconst 1, 1), (11, .goto 4, 3), (14, .iconst 0, 1), (15, .invokevirtual 137, 3), (18, .ifCond .ne 23, 3), (21, .aload_n 0, 1), (22, .iconst 2, 1), (23, .iload_n 2, 1), (24, .invokestatic 134, 3), (27, .ifCond .ne 7, 3), (30, .iconst 1, 1), (31, .goto 4, 3), (34, .iconst 0, 1), (35, .invokevirtual 137, 3), (38, .ifCond .eq 5, 3), (41, .iconst 0, 1), (42, .ireturn, 1), (43, .aload_n 0, 1), (44, .invokevirtual 145, 3), (47, .aload_n 0, 1), (48, .iload_n 1, 1), (49, .iconst 0, 1), (50, .invokevirtual 131, 3), (53, .istore_n 3, 1), (54, .aload_n 0, 1), (55, .iload_n 1, 1), (56, .iconst 0, 1), (57, .iload_n 2, 1), (58, .invokevirtual 148, 3), (61, .iload_n 3, 1), (62, .ireturn, 1)]
set_option maxRecDepth 100000 in
theorem eX12_setShield : am_dec cX12_setShield tX12_setShield := am_dec_of (by decide +kernel)
def tX12_addPath : List (Nat × Instr × Nat) := [(0, .aload_n 0, 1), (1, .iconst 1, 1), (2, .aload_n 0, 1), (3, .iload_n 1, 1), (4, .iload_n 2, 1), (5, .invokevirtual 151, 3), (8, .ifCond .ne 7, 3), (11, .iconst 1, 1), (12, .goto 4, 3), (15, .iconst 0, 1), (16, .invokevirtual 137, 3), (19, .ifCond .ne 39, 3), (22, .aload_n 0, 1), (23, .iconst 2, 1), (24, .iload_n 1, 1), (25, .iload_n 2, 1), (26, .if_icmp .eq 21, 3), (29, .iload_n 3, 1), (30, .iconst 1, 1), (31, .bipush 9, 2), (33, .invokestatic 59, 3), (36, .ifCond .eq 11, 3), (39, .iload 4, 2), (41, .invokestatic 134, 3), (44, .ifCond .ne 7, 3), (47, .iconst 1, 1), (48, .goto 4, 3), (51, .iconst 0, 1), (52, .invokevirtual 137, 3), (55, .ifCond .eq 5, 3), (58, .iconst 0, 1), (59, .ireturn, 1), (60, .aload_n 0, 1), (61, .iload_n 1, 1), (62, .iload_n 2, 1), (63, .invokevirtual 154, 3), (66, .istore 5, 2), (68, .aload_n 0, 1), (69, .iconst 3, 1), (70, .aload_n 0, 1), (71, .aload_n 0, 1), (72, .getfield 9, 3), (75, .iconst 1, 1), (76, .iaload, 1), (77, .bipush 16, 2), (79, .if_icmp .ne 7, 3), (82, .iconst 1, 1), (83, .goto 4, 3), (86, .iconst 0, 1), (87, .iconst 2, 1), (88, .aload_n 0, 1), (89, .invokevirtual 95, 3), (92, .invokestatic 99, 3), (95, .invokevirtual 141, 3), (98, .ifCond .ne 23, 3), (101, .aload_n 0, 1), (102, .iload 5, 2), (104, .ifCond .lt 7, 3), (107, .iconst 1, 1), (108, .goto 4, 3), (111, .iconst 0, 1), (112, .iconst 3, 1), (113, .iload 5, 2), (115, .invokevirtual 141, 3), (118, .ifCond .eq 7, 3), (121, .iconst 1, 1), (122, .goto 4, 3), (125, .iconst 0, 1), (126, .invokevirtual 137, 3), (129, .ifCond .eq 5, 3), (132, .iconst 0, 1), (133, .ireturn, 1), (134, .aload_n 0, 1), (135, .invokevirtual 145, 3), (138, .aload_n 0, 1), (139, .getfield 9, 3), (142, .iconst 1, 1), (143, .iaload, 1), (144, .istore 6, 2), (146, .aload_n 0, 1), (147, .getfield 9, 3), (150, .iconst 1, 1), (151, .dup2, 1), (152, .iaload, 1), (153, .iconst 1, 1), (154, .iadd, 1), (155, .iastore, 1), (156, .aload_n 0, 1), (157, .iload 6, 2), (159, .iconst 0, 1), (160, .iload_n 1, 1), (161, .invokevirtual 157, 3), (164, .aload_n 0, 1), (165, .iload 6, 2), (167, .iconst 1, 1), (168, .iload_n 2, 1), (169, .invokevirtual 157, 3), (172, .aload_n 0, 1), (173, .iload 6, 2), (175, .iconst 2, 1), (176, .iload_n 3, 1), (177, .invokevirtual 157, 3), (180, .aload_n 0, 1), (181, .iload 6, 2), (183, .iconst 3, 1), (184, .iload 4, 2), (186, .invokevirtual 157, 3), (189, .aload_n 0, 1), (190, .iload 6, 2), (192, .iconst 4, 1), (193, .iconst 0, 1), (194, .invokevirtual 157, 3), (197, .aload_n 0, 1), (198, .iload 6, 2), (200, .iconst 5, 1), (201, .iconst 0, 1), (202, .invokevirtual 157, 3), (205, .iload 6, 2), (207, .ireturn, 1)]
set_option maxRecDepth 100000 in
theorem eX12_addPath : am_dec cX12_addPath tX12_addPath := am_dec_of (by decide +kernel)
def tX12_setGust : List (Nat × Instr × Nat) := [(0, .aload_n 0, 1), (1, .iconst 1, 1), (2, .aload_n 0, 1), (3, .iload_n 1, 1), (4, .invokevirtual 160, 3), (7, .ifCond .ne 7, 3), (10, .iconst 1, 1), (11, .goto 4, 3), (14, .iconst 0, 1), (15, .invokevirtual 137, 3), (18, .ifCond .ne 23, 3), (21, .aload_n 0, 1), (22, .iconst 2, 1), (23, .iload_n 2, 1), (24, .invokestatic 134, 3), (27, .ifCond .ne 7, 3), (30, .iconst 1, 1), (31, .goto 4, 3), (34, .iconst 0, 1), (35, .invokevirtual 137, 3), (38, .ifCond .eq 5, 3), (41, .iconst 0, 1), (42, .ireturn, 1), (43, .aload_n 0, 1), (44, .invokevirtual 145, 3), (47, .aload_n 0, 1), (48, .iload_n 1, 1), (49, .iconst 3, 1), (50, .invokevirtual 91, 3), (53, .istore_n 3, 1), (54, .aload_n 0, 1), (55, .iload_n 1, 1), (56, .iconst 3, 1), (57, .iload_n 2, 1), (58, .invokevirtual 157, 3), (61, .iload_n 3, 1), (62, .ireturn, 1)]
set_option maxRecDepth 100000 in
theorem eX12_setGust : am_dec cX12_setGust tX12_setGust := am_dec_of (by decide +kernel)
def tX12_setBlocked : List (Nat × Instr × Nat) := [(0, .iload_n 2, 1), (1, .ifCond .eq 7, 3), (4, .iconst 1, 1), (5, .goto 4, 3), (8, .iconst 0, 1), (9, .istore_n 3, 1), (10, .aload_n 0, 1), (11, .iconst 1, 1), (12, .aload_n 0, 1), (13, .iload_n 1, 1), (14, .invokevirtual 160, 3), (17, .ifCond .ne 7, 3), (20, .iconst 1, 1), (21, .goto 4, 3), (24, .iconst 0, 1), (25, .invokevirtual 137, 3), (28, .ifCond .ne 35, 3), (31, .aload_n 0, 1), (32, .iconst 2, 1), (33, .aload_n 0, 1), (34, .aload_n 0, 1), (35, .iload_n 1, 1), (36, .iconst 4, 1), (37, .invokevirtual 91, 3), (40, .iload_n 3, 1), (41, .if_icmp .ne 7, 3), (44, .iconst 1, 1), (45, .goto 4, 3), (48, .iconst 0, 1), (49, .iconst 4, 1), (50, .aload_n 0, 1), (51, .invokevirtual 163, 3), (54, .invokevirtual 141, 3), (57, .invokevirtual 137, 3), (60, .ifCond .eq 5, 3), (63, .iconst 0, 1), (64, .ireturn, 1), (65, .aload_n 0, 1), (66, .invokevirtual 145, 3), (69, .aload_n 0, 1), (70, .iload_n 1, 1), (71, .iconst 4, 1), (72, .iload_n 3, 1), (73, .invokevirtual 157, 3), (76, .aload_n 0, 1), (77, .invokevirtual 163, 3), (80, .ireturn, 1)]
set_option maxRecDepth 100000 in
theorem eX12_setBlocked : am_dec cX12_setBlocked tX12_setBlocked := am_dec_of (by decide +kernel)
def tX12_setSeed : List (Nat × Instr × Nat) := [(0, .aload_n 0, 1), (1, .iconst 1, 1), (2, .iload_n 1, 1), (3, .iconst 0, 1), (4, .sipush 511, 3), (7, .invokestatic 59, 3), (10, .ifCond .ne 7, 3), (13, .iconst 1, 1), (14, .goto 4, 3), (17, .iconst 0, 1), (18, .invokevirtual 137, 3), (21, .ifCond .eq 5, 3), (24, .iconst 0, 1), (25, .ireturn, 1), (26, .aload_n 0, 1), (27, .invokevirtual 145, 3), (30, .aload_n 0, 1), (31, .getfield 9, 3), (34, .iconst 2, 1), (35, .iaload, 1), (36, .istore_n 2, 1), (37, .aload_n 0, 1), (38, .getfield 9, 3), (41, .iconst 2, 1), (42, .iload_n 1, 1), (43, .iastore, 1), (44, .iload_n 2, 1), (45, .ireturn, 1)]
set_option maxRecDepth 100000 in
theorem eX12_setSeed : am_dec cX12_setSeed tX12_setSeed := am_dec_of (by decide +kernel)
def tX12_runs : List (Nat × Instr × Nat) := [(0, .aload_n 0, 1), (1, .getfield 9, 3), (4, .iconst 4, 1), (5, .iaload, 1), (6, .iconst 1, 1), (7, .if_icmp .ne 7, 3), (10, .iconst 1, 1), (11, .goto 4, 3), (14, .iconst 0, 1), (15, .ireturn, 1)]
set_option maxRecDepth 100000 in
theorem eX12_runs : am_dec cX12_runs tX12_runs := am_dec_of (by decide +kernel)
def tX12_isIdle : List (Nat × Instr × Nat) := [(0, .aload_n 0, 1), (1, .aload_n 0, 1), (2, .invokevirtual 166, 3), (5, .ifCond .ne 7, 3), (8, .iconst 1, 1), (9, .goto 4, 3), (12, .iconst 0, 1), (13, .bipush 6, 2), (15, .aload_n 0, 1), (16, .getfield 9, 3), (19, .iconst 3, 1), (20, .iaload, 1), (21, .invokevirtual 141, 3), (24, .ireturn, 1)]
set_option maxRecDepth 100000 in
theorem eX12_isIdle : am_dec cX12_isIdle tX12_isIdle := am_dec_of (by decide +kernel)
def tX12_packets : List (Nat × Instr × Nat) := [(0, .aload_n 0, 1), (1, .getfield 9, 3), (4, .bipush 6, 2), (6, .iaload, 1), (7, .aload_n 0, 1), (8, .getfield 9, 3), (11, .bipush 7, 2), (13, .iaload, 1), (14, .iadd, 1), (15, .ireturn, 1)]
set_option maxRecDepth 100000 in
theorem eX12_packets : am_dec cX12_packets tX12_packets := am_dec_of (by decide +kernel)
def tX12_allPackets : List (Nat × Instr × Nat) := [(0, .iconst 1, 1), (1, .aload_n 0, 1), (2, .invokevirtual 170, 3), (5, .ishl, 1), (6, .iconst 1, 1), (7, .isub, 1), (8, .ireturn, 1)]
set_option maxRecDepth 100000 in
theorem eX12_allPackets : am_dec cX12_allPackets tX12_allPackets := am_dec_of (by decide +kernel)
def tX12_covered : List (Nat × Instr × Nat) := [(0, .iconst 1, 1), (1, .aload_n 0, 1), (2, .getfield 9, 3), (5, .bipush 6, 2), (7, .iaload, 1), (8, .ishl, 1), (9, .iconst 1, 1), (10, .isub, 1), (11, .istore_n 2, 1), (12, .aload_n 0, 1), (13, .iload_n 1, 1), (14, .iconst 1, 1), (15, .invokevirtual 131, 3), (18, .iload_n 2, 1), (19, .iand, 1), (20, .iload_n 2, 1), (21, .if_icmp .ne 7, 3), (24, .iconst 1, 1), (25, .goto 4, 3), (28, .iconst 0, 1), (29, .ireturn, 1)]
set_option maxRecDepth 100000 in
theorem eX12_covered : am_dec cX12_covered tX12_covered := am_dec_of (by decide +kernel)
def tX12_startBroadcast : List (Nat × Instr × Nat) := [(0, .aload_n 0, 1), (1, .iconst 1, 1), (2, .aload_n 0, 1), (3, .iload_n 1, 1), (4, .invokevirtual 87, 3), (7, .ifCond .ne 7, 3), (10, .iconst 1, 1), (11, .goto 4, 3), (14, .iconst 0, 1), (15, .invokevirtual 137, 3), (18, .ifCond .ne 50, 3), (21, .aload_n 0, 1), (22, .iconst 2, 1), (23, .iload_n 2, 1), (24, .iconst 1, 1), (25, .bipush 6, 2), (27, .invokestatic 59, 3), (30, .ifCond .ne 7, 3), (33, .iconst 1, 1), (34, .goto 4, 3), (37, .iconst 0, 1), (38, .invokevirtual 137, 3), (41, .ifCond .ne 27, 3), (44, .aload_n 0, 1), (45, .iconst 3, 1), (46, .aload_n 0, 1), (47, .aload_n 0, 1), (48, .invokevirtual 166, 3), (51, .iconst 5, 1), (52, .aload_n 0, 1), (53, .getfield 9, 3), (56, .bipush 8, 2), (58, .iaload, 1), (59, .invokevirtual 141, 3), (62, .invokevirtual 137, 3), (65, .ifCond .eq 5, 3), (68, .iconst 0, 1), (69, .ireturn, 1), (70, .aload_n 0, 1), (71, .invokevirtual 145, 3), (74, .aload_n 0, 1), (75, .getfield 9, 3), (78, .iconst 5, 1), (79, .iload_n 1, 1), (80, .iastore, 1), (81, .aload_n 0, 1), (82, .getfield 9, 3), (85, .bipush 6, 2), (87, .iload_n 2, 1), (88, .iastore, 1), (89, .aload_n 0, 1), (90, .getfield 9, 3), (93, .bipush 7, 2), (95, .iload_n 3, 1), (96, .ifCond .eq 7, 3), (99, .iconst 1, 1), (100, .goto 4, 3), (103, .iconst 0, 1), (104, .iastore, 1), (105, .aload_n 0, 1), (106, .getfield 9, 3), (109, .bipush 8, 2), (111, .iconst 0, 1), (112, .iastore, 1), (113, .aload_n 0, 1), (114, .getfield 9, 3), (117, .iconst 4, 1), (118, .iconst 1, 1), (119, .iastore, 1), (120, .aload_n 0, 1), (121, .getfield 9, 3), (124, .iconst 3, 1), (125, .dup2, 1), (126, .iaload, 1), (127, .iconst 1, 1), (128, .iadd, 1), (129, .iastore, 1), (130, .iconst 0, 1), (131, .istore 4, 2), (133, .iload 4, 2), (135, .aload_n 0, 1), (136, .getfield 9, 3), (139, .iconst 0, 1), (140, .iaload, 1), (141, .if_icmp .ge 30, 3), (144, .aload_n 0, 1), (145, .iload 4, 2), (147, .iconst 1, 1), (148, .iload 4, 2), (150, .iload_n 1, 1), (151, .if_icmp .ne 10, 3), (154, .aload_n 0, 1), (155, .invokevirtual 173, 3), (158, .goto 4, 3), (161, .iconst 0, 1), (162, .invokevirtual 148, 3), (165, .iinc 4 1, 3), (168, .goto (-35), 3), (171, .aload_n 0, 1), (172, .getfield 9, 3), (175, .iconst 3, 1), (176, .iaload, 1), (177, .ireturn, 1)]
set_option maxRecDepth 100000 in
theorem eX12_startBroadcast : am_dec cX12_startBroadcast tX12_startBroadcast := am_dec_of (by decide +kernel)
def tX12_send : List (Nat × Instr × Nat) := [(0, .aload_n 0, 1), (1, .getfield 33, 3), (4, .iload_n 1, 1), (5, .iaload, 1), (6, .istore_n 3, 1), (7, .aload_n 0, 1), (8, .getfield 9, 3), (11, .bipush 9, 2), (13, .dup2, 1), (14, .iaload, 1), (15, .iconst 1, 1), (16, .iadd, 1), (17, .iastore, 1), (18, .aload_n 0, 1), (19, .getfield 9, 3), (22, .bipush 12, 2), (24, .dup2, 1), (25, .iaload, 1), (26, .aload_n 0, 1), (27, .iload_n 3, 1), (28, .iconst 2, 1), (29, .invokevirtual 91, 3), (32, .iadd, 1), (33, .iastore, 1), (34, .aload_n 0, 1), (35, .iload_n 3, 1), (36, .iconst 5, 1), (37, .aload_n 0, 1), (38, .iload_n 3, 1), (39, .iconst 5, 1), (40, .invokevirtual 91, 3), (43, .iconst 1, 1), (44, .iadd, 1), (45, .invokevirtual 157, 3), (48, .aload_n 0, 1), (49, .getfield 9, 3), (52, .iconst 2, 1), (53, .bipush 61, 2), (55, .aload_n 0, 1), (56, .getfield 9, 3), (59, .iconst 2, 1), (60, .iaload, 1), (61, .imul, 1), (62, .bipush 17, 2), (64, .iadd, 1), (65, .sipush 512, 3), (68, .irem, 1), (69, .iastore, 1), (70, .aload_n 0, 1), (71, .getfield 9, 3), (74, .iconst 2, 1), (75, .iaload, 1), (76, .bipush 10, 2), (78, .irem, 1), (79, .aload_n 0, 1), (80, .iload_n 3, 1), (81, .iload_n 1, 1), (82, .invokevirtual 176, 3), (85, .if_icmp .ge 16, 3), (88, .aload_n 0, 1), (89, .getfield 9, 3), (92, .bipush 10, 2), (94, .dup2, 1), (95, .iaload, 1), (96, .iconst 1, 1), (97, .iadd, 1), (98, .iastore, 1), (99, .iconst 0, 1), (100, .ireturn, 1), (101, .aload_n 0, 1), (102, .iload_n 1, 1), (103, .iconst 1, 1), (104, .aload_n 0, 1), (105, .iload_n 1, 1), (106, .iconst 1, 1), (107, .invokevirtual 131, 3), (110, .iconst 1, 1), (111, .iload_n 2, 1), (112, .ishl, 1), (113, .ior, 1), (114, .invokevirtual 148, 3), (117, .iconst 1, 1), (118, .ireturn, 1)]
set_option maxRecDepth 100000 in
theorem eX12_send : am_dec cX12_send tX12_send := am_dec_of (by decide +kernel)
def tX12_visit : List (Nat × Instr × Nat) := [(0, .iconst 0, 1), (1, .istore_n 2, 1), (2, .iconst 0, 1), (3, .istore_n 3, 1), (4, .iload_n 3, 1), (5, .aload_n 0, 1), (6, .invokevirtual 170, 3), (9, .if_icmp .ge 49, 3), (12, .aload_n 0, 1), (13, .aload_n 0, 1), (14, .getfield 30, 3), (17, .iload_n 1, 1), (18, .iaload, 1), (19, .iconst 1, 1), (20, .invokevirtual 131, 3), (23, .iload_n 3, 1), (24, .invokestatic 116, 3), (27, .ifCond .eq 25, 3), (30, .aload_n 0, 1), (31, .iload_n 1, 1), (32, .iconst 1, 1), (33, .invokevirtual 131, 3), (36, .iload_n 3, 1), (37, .invokestatic 116, 3), (40, .ifCond .ne 12, 3), (43, .iload_n 2, 1), (44, .aload_n 0, 1), (45, .iload_n 1, 1), (46, .iload_n 3, 1), (47, .invokevirtual 179, 3), (50, .iadd, 1), (51, .istore_n 2, 1), (52, .iinc 3 1, 3), (55, .goto (-51), 3), (58, .iload_n 2, 1), (59, .ireturn, 1)]
set_option maxRecDepth 100000 in
theorem eX12_visit : am_dec cX12_visit tX12_visit := am_dec_of (by decide +kernel)
def tX12_rebuild : List (Nat × Instr × Nat) := [(0, .iconst 0, 1), (1, .istore_n 1, 1), (2, .iload_n 1, 1), (3, .aload_n 0, 1), (4, .getfield 9, 3), (7, .iconst 0, 1), (8, .iaload, 1), (9, .if_icmp .ge 57, 3), (12, .aload_n 0, 1), (13, .getfield 36, 3), (16, .iload_n 1, 1), (17, .iaload, 1), (18, .ifCond .lt 42, 3), (21, .aload_n 0, 1), (22, .iload_n 1, 1), (23, .iconst 1, 1), (24, .invokevirtual 131, 3), (27, .invokestatic 99, 3), (30, .aload_n 0, 1), (31, .invokevirtual 170, 3), (34, .iconst 1, 1), (35, .isub, 1), (36, .if_icmp .ne 24, 3), (39, .aload_n 0, 1), (40, .iload_n 1, 1), (41, .iconst 1, 1), (42, .aload_n 0, 1), (43, .invokevirtual 173, 3), (46, .invokevirtual 148, 3), (49, .aload_n 0, 1), (50, .getfield 9, 3), (53, .bipush 11, 2), (55, .dup2, 1), (56, .iaload, 1), (57, .iconst 1, 1), (58, .iadd, 1), (59, .iastore, 1), (60, .iinc 1 1, 3), (63, .goto (-61), 3), (66, .return_, 1)]
set_option maxRecDepth 100000 in
theorem eX12_rebuild : am_dec cX12_rebuild tX12_rebuild := am_dec_of (by decide +kernel)
def tX12_judgeEnd : List (Nat × Instr × Nat) := [(0, .iconst 1, 1), (1, .istore_n 1, 1), (2, .iconst 0, 1), (3, .istore_n 2, 1), (4, .iload_n 2, 1), (5, .aload_n 0, 1), (6, .getfield 9, 3), (9, .iconst 0, 1), (10, .iaload, 1), (11, .if_icmp .ge 34, 3), (14, .iload_n 1, 1), (15, .aload_n 0, 1), (16, .getfield 36, 3), (19, .iload_n 2, 1), (20, .iaload, 1), (21, .ifCond .lt 11, 3), (24, .aload_n 0, 1), (25, .iload_n 2, 1), (26, .invokevirtual 182, 3), (29, .ifCond .eq 7, 3), (32, .iconst 1, 1), (33, .goto 4, 3), (36, .iconst 0, 1), (37, .iand, 1), (38, .istore_n 1, 1), (39, .iinc 2 1, 3), (42, .goto (-38), 3), (45, .aload_n 0, 1), (46, .getfield 9, 3), (49, .bipush 13, 2), (51, .dup2, 1), (52, .iaload, 1), (53, .iload_n 1, 1), (54, .ifCond .eq 7, 3), (57, .iconst 1, 1), (58, .goto 4, 3), (61, .iconst 0, 1), (62, .iadd, 1), (63, .iastore, 1), (64, .aload_n 0, 1), (65, .getfield 9, 3), (68, .bipush 14, 2), (70, .dup2, 1), (71, .iaload, 1), (72, .iload_n 1, 1), (73, .ifCond .ne 19, 3), (76, .aload_n 0, 1), (77, .getfield 9, 3), (80, .bipush 8, 2), (82, .iaload, 1), (83, .bipush 30, 2), (85, .if_icmp .ne 7, 3), (88, .iconst 1, 1), (89, .goto 4, 3), (92, .iconst 0, 1), (93, .iadd, 1), (94, .iastore, 1), (95, .aload_n 0, 1), (96, .getfield 9, 3), (99, .iconst 4, 1), (100, .iload_n 1, 1), (101, .ifCond .ne 15, 3), (104, .aload_n 0, 1), (105, .getfield 9, 3), (108, .bipush 8, 2), (110, .iaload, 1), (111, .bipush 30, 2), (113, .if_icmp .ne 7, 3), (116, .iconst 0, 1), (117, .goto 4, 3), (120, .iconst 1, 1), (121, .iastore, 1), (122, .return_, 1)]
set_option maxRecDepth 100000 in
theorem eX12_judgeEnd : am_dec cX12_judgeEnd tX12_judgeEnd := am_dec_of (by decide +kernel)
def tX12_blow : List (Nat × Instr × Nat) := [(0, .aload_n 0, 1), (1, .aload_n 0, 1), (2, .getfield 9, 3), (5, .iconst 5, 1), (6, .iaload, 1), (7, .invokevirtual 185, 3), (10, .iconst 0, 1), (11, .istore_n 1, 1), (12, .iconst 1, 1), (13, .istore_n 2, 1), (14, .iload_n 2, 1), (15, .aload_n 0, 1), (16, .getfield 9, 3), (19, .iconst 0, 1), (20, .iaload, 1), (21, .if_icmp .ge 49, 3), (24, .iconst 0, 1), (25, .istore_n 3, 1), (26, .iload_n 3, 1), (27, .aload_n 0, 1), (28, .getfield 9, 3), (31, .iconst 0, 1), (32, .iaload, 1), (33, .if_icmp .ge 31, 3), (36, .iload_n 1, 1), (37, .aload_n 0, 1), (38, .getfield 36, 3), (41, .iload_n 3, 1), (42, .iaload, 1), (43, .iload_n 2, 1), (44, .if_icmp .ne 11, 3), (47, .aload_n 0, 1), (48, .iload_n 3, 1), (49, .invokevirtual 188, 3), (52, .goto 4, 3), (55, .iconst 0, 1), (56, .iadd, 1), (57, .istore_n 1, 1), (58, .iinc 3 1, 3), (61, .goto (-35), 3), (64, .iinc 2 1, 3), (67, .goto (-53), 3), (70, .aload_n 0, 1), (71, .getfield 9, 3), (74, .bipush 7, 2), (76, .iaload, 1), (77, .iconst 1, 1), (78, .if_icmp .ne 7, 3), (81, .aload_n 0, 1), (82, .invokevirtual 191, 3), (85, .aload_n 0, 1), (86, .getfield 9, 3), (89, .bipush 8, 2), (91, .dup2, 1), (92, .iaload, 1), (93, .iconst 1, 1), (94, .iadd, 1), (95, .iastore, 1), (96, .aload_n 0, 1), (97, .invokevirtual 194, 3), (100, .iload_n 1, 1), (101, .ireturn, 1)]
set_option maxRecDepth 100000 in
theorem eX12_blow : am_dec cX12_blow tX12_blow := am_dec_of (by decide +kernel)
def tX12_blowAll : List (Nat × Instr × Nat) := [(0, .iconst 0, 1), (1, .istore_n 1, 1), (2, .aload_n 0, 1), (3, .invokevirtual 166, 3), (6, .ifCond .eq 14, 3), (9, .aload_n 0, 1), (10, .invokevirtual 197, 3), (13, .pop, 1), (14, .iinc 1 1, 3), (17, .goto (-15), 3), (20, .iload_n 1, 1), (21, .ireturn, 1)]
set_option maxRecDepth 100000 in
theorem eX12_blowAll : am_dec cX12_blowAll tX12_blowAll := am_dec_of (by decide +kernel)
def tX12_wind : List (Nat × Instr × Nat) := [(0, .aload_n 0, 1), (1, .iconst 1, 1), (2, .aload_n 0, 1), (3, .invokevirtual 200, 3), (6, .invokevirtual 137, 3), (9, .ifCond .eq 5, 3), (12, .iconst 0, 1), (13, .ireturn, 1), (14, .aload_n 0, 1), (15, .invokevirtual 145, 3), (18, .aload_n 0, 1), (19, .invokevirtual 197, 3), (22, .ireturn, 1)]
set_option maxRecDepth 100000 in
theorem eX12_wind : am_dec cX12_wind tX12_wind := am_dec_of (by decide +kernel)
def tX12_windUntilEnd : List (Nat × Instr × Nat) := [(0, .aload_n 0, 1), (1, .iconst 1, 1), (2, .aload_n 0, 1), (3, .invokevirtual 200, 3), (6, .invokevirtual 137, 3), (9, .ifCond .eq 5, 3), (12, .iconst 0, 1), (13, .ireturn, 1), (14, .aload_n 0, 1), (15, .invokevirtual 145, 3), (18, .aload_n 0, 1), (19, .invokevirtual 203, 3), (22, .ireturn, 1)]
set_option maxRecDepth 100000 in
theorem eX12_windUntilEnd : am_dec cX12_windUntilEnd tX12_windUntilEnd := am_dec_of (by decide +kernel)
def tX12_abort : List (Nat × Instr × Nat) := [(0, .aload_n 0, 1), (1, .iconst 1, 1), (2, .aload_n 0, 1), (3, .invokevirtual 200, 3), (6, .invokevirtual 137, 3), (9, .ifCond .eq 5, 3), (12, .iconst 0, 1), (13, .ireturn, 1), (14, .aload_n 0, 1), (15, .invokevirtual 145, 3), (18, .aload_n 0, 1), (19, .getfield 9, 3), (22, .iconst 4, 1), (23, .iconst 0, 1), (24, .iastore, 1), (25, .aload_n 0, 1), (26, .getfield 9, 3), (29, .bipush 8, 2), (31, .iaload, 1), (32, .ireturn, 1)]
set_option maxRecDepth 100000 in
theorem eX12_abort : am_dec cX12_abort tX12_abort := am_dec_of (by decide +kernel)
def tX12_fieldCount : List (Nat × Instr × Nat) := [(0, .aload_n 0, 1), (1, .iconst 0, 1), (2, .putfield 56, 3), (5, .aload_n 0, 1), (6, .getfield 9, 3), (9, .iconst 0, 1), (10, .iaload, 1), (11, .ireturn, 1)]
set_option maxRecDepth 100000 in
theorem eX12_fieldCount : am_dec cX12_fieldCount tX12_fieldCount := am_dec_of (by decide +kernel)
def tX12_pathCount : List (Nat × Instr × Nat) := [(0, .aload_n 0, 1), (1, .iconst 0, 1), (2, .putfield 56, 3), (5, .aload_n 0, 1), (6, .getfield 9, 3), (9, .iconst 1, 1), (10, .iaload, 1), (11, .ireturn, 1)]
set_option maxRecDepth 100000 in
theorem eX12_pathCount : am_dec cX12_pathCount tX12_pathCount := am_dec_of (by decide +kernel)
def tX12_shieldOf : List (Nat × Instr × Nat) := [(0, .aload_n 0, 1), (1, .iconst 1, 1), (2, .aload_n 0, 1), (3, .iload_n 1, 1), (4, .invokevirtual 87, 3), (7, .ifCond .ne 7, 3), (10, .iconst 1, 1), (11, .goto 4, 3), (14, .iconst 0, 1), (15, .invokevirtual 137, 3), (18, .ifCond .eq 7, 3), (21, .iconst 0, 1), (22, .goto 9, 3), (25, .aload_n 0, 1), (26, .iload_n 1, 1), (27, .iconst 0, 1), (28, .invokevirtual 131, 3), (31, .ireturn, 1)]
set_option maxRecDepth 100000 in
theorem eX12_shieldOf : am_dec cX12_shieldOf tX12_shieldOf := am_dec_of (by decide +kernel)
def tX12_number : List (Nat × Instr × Nat) := [(0, .aload_n 0, 1), (1, .iconst 1, 1), (2, .aload_n 0, 1), (3, .iload_n 1, 1), (4, .invokevirtual 160, 3), (7, .ifCond .ne 7, 3), (10, .iconst 1, 1), (11, .goto 4, 3), (14, .iconst 0, 1), (15, .invokevirtual 137, 3), (18, .ifCond .eq 7, 3), (21, .iconst 0, 1), (22, .goto 9, 3), (25, .aload_n 0, 1), (26, .iload_n 1, 1), (27, .iload_n 2, 1), (28, .invokevirtual 91, 3), (31, .ireturn, 1)]
set_option maxRecDepth 100000 in
theorem eX12_number : am_dec cX12_number tX12_number := am_dec_of (by decide +kernel)
def tX12_firstOf : List (Nat × Instr × Nat) := [(0, .aload_n 0, 1), (1, .iload_n 1, 1), (2, .iconst 0, 1), (3, .invokevirtual 206, 3), (6, .ireturn, 1)]
set_option maxRecDepth 100000 in
theorem eX12_firstOf : am_dec cX12_firstOf tX12_firstOf := am_dec_of (by decide +kernel)
def tX12_secondOf : List (Nat × Instr × Nat) := [(0, .aload_n 0, 1), (1, .iload_n 1, 1), (2, .iconst 1, 1), (3, .invokevirtual 206, 3), (6, .ireturn, 1)]
set_option maxRecDepth 100000 in
theorem eX12_secondOf : am_dec cX12_secondOf tX12_secondOf := am_dec_of (by decide +kernel)
def tX12_costOf : List (Nat × Instr × Nat) := [(0, .aload_n 0, 1), (1, .iload_n 1, 1), (2, .iconst 2, 1), (3, .invokevirtual 206, 3), (6, .ireturn, 1)]
set_option maxRecDepth 100000 in
theorem eX12_costOf : am_dec cX12_costOf tX12_costOf := am_dec_of (by decide +kernel)
def tX12_gustOf : List (Nat × Instr × Nat) := [(0, .aload_n 0, 1), (1, .iload_n 1, 1), (2, .iconst 3, 1), (3, .invokevirtual 206, 3), (6, .ireturn, 1)]
set_option maxRecDepth 100000 in
theorem eX12_gustOf : am_dec cX12_gustOf tX12_gustOf := am_dec_of (by decide +kernel)
def tX12_isBlocked : List (Nat × Instr × Nat) := [(0, .aload_n 0, 1), (1, .iload_n 1, 1), (2, .iconst 4, 1), (3, .invokevirtual 206, 3), (6, .iconst 1, 1), (7, .if_icmp .ne 7, 3), (10, .iconst 1, 1), (11, .goto 4, 3), (14, .iconst 0, 1), (15, .ireturn, 1)]
set_option maxRecDepth 100000 in
theorem eX12_isBlocked : am_dec cX12_isBlocked tX12_isBlocked := am_dec_of (by decide +kernel)
def tX12_useOf : List (Nat × Instr × Nat) := [(0, .aload_n 0, 1), (1, .iload_n 1, 1), (2, .iconst 5, 1), (3, .invokevirtual 206, 3), (6, .ireturn, 1)]
set_option maxRecDepth 100000 in
theorem eX12_useOf : am_dec cX12_useOf tX12_useOf := am_dec_of (by decide +kernel)
def tX12_groupCount : List (Nat × Instr × Nat) := [(0, .aload_n 0, 1), (1, .iconst 0, 1), (2, .putfield 56, 3), (5, .aload_n 0, 1), (6, .aload_n 0, 1), (7, .invokevirtual 95, 3), (10, .invokevirtual 209, 3), (13, .ireturn, 1)]
set_option maxRecDepth 100000 in
theorem eX12_groupCount : am_dec cX12_groupCount tX12_groupCount := am_dec_of (by decide +kernel)
def tX12_connected : List (Nat × Instr × Nat) := [(0, .aload_n 0, 1), (1, .aload_n 0, 1), (2, .invokevirtual 95, 3), (5, .invokevirtual 209, 3), (8, .pop, 1), (9, .aload_n 0, 1), (10, .getfield 27, 3), (13, .iload_n 1, 1), (14, .iaload, 1), (15, .aload_n 0, 1), (16, .getfield 27, 3), (19, .iload_n 2, 1), (20, .iaload, 1), (21, .if_icmp .ne 7, 3), (24, .iconst 1, 1), (25, .goto 4, 3), (28, .iconst 0, 1), (29, .ireturn, 1)]
set_option maxRecDepth 100000 in
theorem eX12_connected : am_dec cX12_connected tX12_connected := am_dec_of (by decide +kernel)
def tX12_isConnected : List (Nat × Instr × Nat) := [(0, .aload_n 0, 1), (1, .iconst 1, 1), (2, .aload_n 0, 1), (3, .iload_n 1, 1), (4, .iload_n 2, 1), (5, .invokevirtual 151, 3), (8, .ifCond .ne 7, 3), (11, .iconst 1, 1), (12, .goto 4, 3), (15, .iconst 0, 1), (16, .invokevirtual 137, 3), (19, .ifCond .ne 16, 3), (22, .aload_n 0, 1), (23, .iload_n 1, 1), (24, .iload_n 2, 1), (25, .invokevirtual 212, 3), (28, .ifCond .eq 7, 3), (31, .iconst 1, 1), (32, .goto 4, 3), (35, .iconst 0, 1), (36, .ireturn, 1)]
set_option maxRecDepth 100000 in
theorem eX12_isConnected : am_dec cX12_isConnected tX12_isConnected := am_dec_of (by decide +kernel)
def tX12_lower : List (Nat × Instr × Nat) := [(0, .aload_n 0, 1), (1, .getfield 39, 3), (4, .iload_n 1, 1), (5, .iaload, 1), (6, .aload_n 0, 1), (7, .iload_n 3, 1), (8, .iconst 2, 1), (9, .invokevirtual 91, 3), (12, .iadd, 1), (13, .istore 4, 2), (15, .aload_n 0, 1), (16, .getfield 39, 3), (19, .iload_n 2, 1), (20, .aload_n 0, 1), (21, .getfield 39, 3), (24, .iload_n 1, 1), (25, .iaload, 1), (26, .ifCond .lt 37, 3), (29, .aload_n 0, 1), (30, .iload_n 3, 1), (31, .iconst 4, 1), (32, .invokevirtual 91, 3), (35, .ifCond .ne 28, 3), (38, .aload_n 0, 1), (39, .getfield 39, 3), (42, .iload_n 2, 1), (43, .iaload, 1), (44, .ifCond .lt 14, 3), (47, .iload 4, 2), (49, .aload_n 0, 1), (50, .getfield 39, 3), (53, .iload_n 2, 1), (54, .iaload, 1), (55, .if_icmp .ge 8, 3), (58, .iload 4, 2), (60, .goto 9, 3), (63, .aload_n 0, 1), (64, .getfield 39, 3), (67, .iload_n 2, 1), (68, .iaload, 1), (69, .iastore, 1), (70, .return_, 1)]
set_option maxRecDepth 100000 in
theorem eX12_lower : am_dec cX12_lower tX12_lower := am_dec_of (by decide +kernel)
def tX12_wayCost : List (Nat × Instr × Nat) := [(0, .aload_n 0, 1), (1, .iconst 1, 1), (2, .aload_n 0, 1), (3, .iload_n 1, 1), (4, .iload_n 2, 1), (5, .invokevirtual 151, 3), (8, .ifCond .ne 7, 3), (11, .iconst 1, 1), (12, .goto 4, 3), (15, .iconst 0, 1), (16, .invokevirtual 137, 3), (19, .ifCond .eq 5, 3), (22, .iconst 0, 1), (23, .ireturn, 1), (24, .iconst 0, 1), (25, .istore_n 3, 1), (26, .iload_n 3, 1), (27, .aload_n 0, 1), (28, .getfield 9, 3), (31, .iconst 0, 1), (32, .iaload, 1), (33, .if_icmp .ge 25, 3), (36, .aload_n 0, 1), (37, .getfield 39, 3), (40, .iload_n 3, 1), (41, .iload_n 3, 1), (42, .iload_n 1, 1), (43, .if_icmp .ne 7, 3), (46, .iconst 0, 1), (47, .goto 4, 3), (50, .iconst (-1), 1), (51, .iastore, 1), (52, .iinc 3 1, 3), (55, .goto (-29), 3), (58, .iconst 0, 1), (59, .istore_n 3, 1), (60, .iload_n 3, 1), (61, .aload_n 0, 1), (62, .getfield 9, 3), (65, .iconst 0, 1), (66, .iaload, 1), (67, .if_icmp .ge 69, 3), (70, .iconst 0, 1), (71, .istore 4, 2), (73, .iload 4, 2), (75, .aload_n 0, 1), (76, .getfield 9, 3), (79, .iconst 1, 1), (80, .iaload, 1), (81, .if_icmp .ge 49, 3), (84, .aload_n 0, 1), (85, .aload_n 0, 1), (86, .iload 4, 2), (88, .iconst 0, 1), (89, .invokevirtual 91, 3), (92, .aload_n 0, 1), (93, .iload 4, 2), (95, .iconst 1, 1), (96, .invokevirtual 91, 3), (99, .iload 4, 2), (101, .invokevirtual 215, 3), (104, .aload_n 0, 1), (105, .aload_n 0, 1), (106, .iload 4, 2), (108, .iconst 1, 1), (109, .invokevirtual 91, 3), (112, .aload_n 0, 1), (113, .iload 4, 2), (115, .iconst 0, 1), (116, .invokevirtual 91, 3), (119, .iload 4, 2), (121, .invokevirtual 215, 3), (124, .iinc 4 1, 3), (127, .goto (-54), 3), (130, .iinc 3 1, 3), (133, .goto (-73), 3), (136, .aload_n 0, 1), (137, .iconst 2, 1), (138, .aload_n 0, 1), (139, .getfield 39, 3), (142, .iload_n 2, 1), (143, .iaload, 1), (144, .ifCond .ge 7, 3), (147, .iconst 1, 1), (148, .goto 4, 3), (151, .iconst 0, 1), (152, .invokevirtual 137, 3), (155, .ifCond .eq 7, 3), (158, .iconst 0, 1), (159, .goto 9, 3), (162, .aload_n 0, 1), (163, .getfield 39, 3), (166, .iload_n 2, 1), (167, .iaload, 1), (168, .ireturn, 1)]
set_option maxRecDepth 100000 in
theorem eX12_wayCost : am_dec cX12_wayCost tX12_wayCost := am_dec_of (by decide +kernel)
def tX12_wayCostByRounds : List (Nat × Instr × Nat) := [(0, .aload_n 0, 1), (1, .iload_n 1, 1), (2, .iload_n 2, 1), (3, .invokevirtual 218, 3), (6, .ireturn, 1)]
set_option maxRecDepth 100000 in
theorem eX12_wayCostByRounds : am_dec cX12_wayCostByRounds tX12_wayCostByRounds := am_dec_of (by decide +kernel)
def tX12_leaving : List (Nat × Instr × Nat) := [(0, .iconst 0, 1), (1, .istore_n 2, 1), (2, .iconst 0, 1), (3, .istore_n 3, 1), (4, .iload_n 3, 1), (5, .aload_n 0, 1), (6, .getfield 9, 3), (9, .iconst 1, 1), (10, .iaload, 1), (11, .if_icmp .ge 49, 3), (14, .iload_n 2, 1), (15, .aload_n 0, 1), (16, .iload_n 3, 1), (17, .iconst 4, 1), (18, .invokevirtual 91, 3), (21, .ifCond .ne 30, 3), (24, .iload_n 1, 1), (25, .aload_n 0, 1), (26, .iload_n 3, 1), (27, .iconst 0, 1), (28, .invokevirtual 91, 3), (31, .invokestatic 116, 3), (34, .iload_n 1, 1), (35, .aload_n 0, 1), (36, .iload_n 3, 1), (37, .iconst 1, 1), (38, .invokevirtual 91, 3), (41, .invokestatic 116, 3), (44, .if_icmp .eq 7, 3), (47, .iconst 1, 1), (48, .goto 4, 3), (51, .iconst 0, 1), (52, .iadd, 1), (53, .istore_n 2, 1), (54, .iinc 3 1, 3), (57, .goto (-53), 3), (60, .iload_n 2, 1), (61, .ireturn, 1)]
set_option maxRecDepth 100000 in
theorem eX12_leaving : am_dec cX12_leaving tX12_leaving := am_dec_of (by decide +kernel)
def tX12_smallestCut : List (Nat × Instr × Nat) := [(0, .aload_n 0, 1), (1, .iconst 1, 1), (2, .aload_n 0, 1), (3, .iload_n 1, 1), (4, .iload_n 2, 1), (5, .invokevirtual 151, 3), (8, .ifCond .ne 7, 3), (11, .iconst 1, 1), (12, .goto 4, 3), (15, .iconst 0, 1), (16, .invokevirtual 137, 3), (19, .ifCond .ne 21, 3), (22, .aload_n 0, 1), (23, .iconst 2, 1), (24, .iload_n 1, 1), (25, .iload_n 2, 1), (26, .if_icmp .ne 7, 3), (29, .iconst 1, 1), (30, .goto 4, 3), (33, .iconst 0, 1), (34, .invokevirtual 137, 3), (37, .ifCond .eq 5, 3), (40, .iconst 0, 1), (41, .ireturn, 1), (42, .bipush 16, 2), (44, .istore_n 3, 1), (45, .iconst 0, 1), (46, .istore 4, 2), (48, .iload 4, 2), (50, .iconst 1, 1), (51, .aload_n 0, 1), (52, .getfield 9, 3), (55, .iconst 0, 1), (56, .iaload, 1), (57, .ishl, 1), (58, .if_icmp .ge 42, 3), (61, .iload 4, 2), (63, .iload_n 1, 1), (64, .invokestatic 116, 3), (67, .ifCond .eq 25, 3), (70, .iload 4, 2), (72, .iload_n 2, 1), (73, .invokestatic 116, 3), (76, .ifCond .ne 16, 3), (79, .iload_n 3, 1), (80, .aload_n 0, 1), (81, .iload 4, 2), (83, .invokevirtual 221, 3), (86, .invokestatic 110, 3), (89, .goto 4, 3), (92, .iload_n 3, 1), (93, .istore_n 3, 1), (94, .iinc 4 1, 3), (97, .goto (-49), 3), (100, .iload_n 3, 1), (101, .ireturn, 1)]
set_option maxRecDepth 100000 in
theorem eX12_smallestCut : am_dec cX12_smallestCut tX12_smallestCut := am_dec_of (by decide +kernel)
def tX12_disjointWays : List (Nat × Instr × Nat) := [(0, .aload_n 0, 1), (1, .iload_n 1, 1), (2, .iload_n 2, 1), (3, .invokevirtual 224, 3), (6, .ireturn, 1)]
set_option maxRecDepth 100000 in
theorem eX12_disjointWays : am_dec cX12_disjointWays tX12_disjointWays := am_dec_of (by decide +kernel)
def tX12_bridges : List (Nat × Instr × Nat) := [(0, .aload_n 0, 1), (1, .invokevirtual 95, 3), (4, .istore_n 2, 1), (5, .iload_n 2, 1), (6, .iload_n 1, 1), (7, .invokestatic 116, 3), (10, .ifCond .eq 26, 3), (13, .aload_n 0, 1), (14, .iload_n 2, 1), (15, .iconst 1, 1), (16, .iload_n 1, 1), (17, .ishl, 1), (18, .iconst (-1), 1), (19, .ixor, 1), (20, .iand, 1), (21, .invokevirtual 209, 3), (24, .aload_n 0, 1), (25, .iload_n 2, 1), (26, .invokevirtual 209, 3), (29, .if_icmp .le 7, 3), (32, .iconst 1, 1), (33, .goto 4, 3), (36, .iconst 0, 1), (37, .ireturn, 1)]
set_option maxRecDepth 100000 in
theorem eX12_bridges : am_dec cX12_bridges tX12_bridges := am_dec_of (by decide +kernel)
def tX12_isBridge : List (Nat × Instr × Nat) := [(0, .aload_n 0, 1), (1, .iconst 1, 1), (2, .aload_n 0, 1), (3, .iload_n 1, 1), (4, .invokevirtual 160, 3), (7, .ifCond .ne 7, 3), (10, .iconst 1, 1), (11, .goto 4, 3), (14, .iconst 0, 1), (15, .invokevirtual 137, 3), (18, .ifCond .ne 15, 3), (21, .aload_n 0, 1), (22, .iload_n 1, 1), (23, .invokevirtual 227, 3), (26, .ifCond .eq 7, 3), (29, .iconst 1, 1), (30, .goto 4, 3), (33, .iconst 0, 1), (34, .ireturn, 1)]
set_option maxRecDepth 100000 in
theorem eX12_isBridge : am_dec cX12_isBridge tX12_isBridge := am_dec_of (by decide +kernel)
def tX12_bridgeCount : List (Nat × Instr × Nat) := [(0, .aload_n 0, 1), (1, .iconst 0, 1), (2, .putfield 56, 3), (5, .iconst 0, 1), (6, .istore_n 1, 1), (7, .iconst 0, 1), (8, .istore_n 2, 1), (9, .iload_n 2, 1), (10, .aload_n 0, 1), (11, .getfield 9, 3), (14, .iconst 1, 1), (15, .iaload, 1), (16, .if_icmp .ge 25, 3), (19, .iload_n 1, 1), (20, .aload_n 0, 1), (21, .iload_n 2, 1), (22, .invokevirtual 227, 3), (25, .ifCond .eq 7, 3), (28, .iconst 1, 1), (29, .goto 4, 3), (32, .iconst 0, 1), (33, .iadd, 1), (34, .istore_n 1, 1), (35, .iinc 2 1, 3), (38, .goto (-29), 3), (41, .iload_n 1, 1), (42, .ireturn, 1)]
set_option maxRecDepth 100000 in
theorem eX12_bridgeCount : am_dec cX12_bridgeCount tX12_bridgeCount := am_dec_of (by decide +kernel)
def tX12_bridgeCountByBlocking : List (Nat × Instr × Nat) := [(0, .aload_n 0, 1), (1, .invokevirtual 230, 3), (4, .ireturn, 1)]
set_option maxRecDepth 100000 in
theorem eX12_bridgeCountByBlocking : am_dec cX12_bridgeCountByBlocking tX12_bridgeCountByBlocking := am_dec_of (by decide +kernel)
def tX12_treeCost : List (Nat × Instr × Nat) := [(0, .aload_n 0, 1), (1, .iconst 1, 1), (2, .aload_n 0, 1), (3, .iload_n 1, 1), (4, .invokevirtual 87, 3), (7, .ifCond .ne 7, 3), (10, .iconst 1, 1), (11, .goto 4, 3), (14, .iconst 0, 1), (15, .invokevirtual 137, 3), (18, .ifCond .eq 5, 3), (21, .iconst 0, 1), (22, .ireturn, 1), (23, .iconst 0, 1), (24, .istore_n 2, 1), (25, .iconst 0, 1), (26, .istore_n 3, 1), (27, .iload_n 3, 1), (28, .aload_n 0, 1), (29, .getfield 9, 3), (32, .iconst 1, 1), (33, .iaload, 1), (34, .if_icmp .ge 31, 3), (37, .iload_n 2, 1), (38, .aload_n 0, 1), (39, .iload_n 1, 1), (40, .iload_n 3, 1), (41, .invokevirtual 233, 3), (44, .ifCond .eq 12, 3), (47, .aload_n 0, 1), (48, .iload_n 3, 1), (49, .iconst 2, 1), (50, .invokevirtual 91, 3), (53, .goto 4, 3), (56, .iconst 0, 1), (57, .iadd, 1), (58, .istore_n 2, 1), (59, .iinc 3 1, 3), (62, .goto (-35), 3), (65, .iload_n 2, 1), (66, .ireturn, 1)]
set_option maxRecDepth 100000 in
theorem eX12_treeCost : am_dec cX12_treeCost tX12_treeCost := am_dec_of (by decide +kernel)
def tX12_treeCostByGrowing : List (Nat × Instr × Nat) := [(0, .aload_n 0, 1), (1, .iload_n 1, 1), (2, .invokevirtual 236, 3), (5, .ireturn, 1)]
set_option maxRecDepth 100000 in
theorem eX12_treeCostByGrowing : am_dec cX12_treeCostByGrowing tX12_treeCostByGrowing := am_dec_of (by decide +kernel)
def tX12_isInTree : List (Nat × Instr × Nat) := [(0, .aload_n 0, 1), (1, .iconst 1, 1), (2, .aload_n 0, 1), (3, .iload_n 1, 1), (4, .invokevirtual 87, 3), (7, .ifCond .eq 11, 3), (10, .aload_n 0, 1), (11, .iload_n 2, 1), (12, .invokevirtual 160, 3), (15, .ifCond .ne 7, 3), (18, .iconst 1, 1), (19, .goto 4, 3), (22, .iconst 0, 1), (23, .invokevirtual 137, 3), (26, .ifCond .ne 16, 3), (29, .aload_n 0, 1), (30, .iload_n 1, 1), (31, .iload_n 2, 1), (32, .invokevirtual 233, 3), (35, .ifCond .eq 7, 3), (38, .iconst 1, 1), (39, .goto 4, 3), (42, .iconst 0, 1), (43, .ireturn, 1)]
set_option maxRecDepth 100000 in
theorem eX12_isInTree : am_dec cX12_isInTree tX12_isInTree := am_dec_of (by decide +kernel)
def tX12_parentIn : List (Nat × Instr × Nat) := [(0, .aload_n 0, 1), (1, .iconst 1, 1), (2, .aload_n 0, 1), (3, .iload_n 1, 1), (4, .iload_n 2, 1), (5, .invokevirtual 151, 3), (8, .ifCond .ne 7, 3), (11, .iconst 1, 1), (12, .goto 4, 3), (15, .iconst 0, 1), (16, .invokevirtual 137, 3), (19, .ifCond .eq 5, 3), (22, .iconst 0, 1), (23, .ireturn, 1), (24, .aload_n 0, 1), (25, .iload_n 1, 1), (26, .invokevirtual 185, 3), (29, .aload_n 0, 1), (30, .iconst 2, 1), (31, .aload_n 0, 1), (32, .getfield 36, 3), (35, .iload_n 2, 1), (36, .iaload, 1), (37, .iconst 1, 1), (38, .if_icmp .ge 7, 3), (41, .iconst 1, 1), (42, .goto 4, 3), (45, .iconst 0, 1), (46, .invokevirtual 137, 3), (49, .ifCond .eq 7, 3), (52, .iconst 0, 1), (53, .goto 9, 3), (56, .aload_n 0, 1), (57, .getfield 30, 3), (60, .iload_n 2, 1), (61, .iaload, 1), (62, .ireturn, 1)]
set_option maxRecDepth 100000 in
theorem eX12_parentIn : am_dec cX12_parentIn tX12_parentIn := am_dec_of (by decide +kernel)
def tX12_chance : List (Nat × Instr × Nat) := [(0, .aload_n 0, 1), (1, .getfield 36, 3), (4, .iload_n 1, 1), (5, .iaload, 1), (6, .ifCond .ne 7, 3), (9, .fconst 1, 1), (10, .goto 32, 3), (13, .aload_n 0, 1), (14, .aload_n 0, 1), (15, .getfield 30, 3), (18, .iload_n 1, 1), (19, .iaload, 1), (20, .invokevirtual 239, 3), (23, .bipush 10, 2), (25, .aload_n 0, 1), (26, .aload_n 0, 1), (27, .getfield 33, 3), (30, .iload_n 1, 1), (31, .iaload, 1), (32, .iload_n 1, 1), (33, .invokevirtual 176, 3), (36, .isub, 1), (37, .i2f, 1), (38, .ldc 243, 2), (40, .fdiv, 1), (41, .fmul, 1), (42, .freturn, 1)]
set_option maxRecDepth 100000 in
theorem eX12_chance : am_dec cX12_chance tX12_chance := am_dec_of (by decide +kernel)
def tX12_reachChance : List (Nat × Instr × Nat) := [(0, .aload_n 0, 1), (1, .iconst 1, 1), (2, .aload_n 0, 1), (3, .iload_n 1, 1), (4, .iload_n 2, 1), (5, .invokevirtual 151, 3), (8, .ifCond .ne 7, 3), (11, .iconst 1, 1), (12, .goto 4, 3), (15, .iconst 0, 1), (16, .invokevirtual 137, 3), (19, .ifCond .eq 5, 3), (22, .fconst 0, 1), (23, .freturn, 1), (24, .aload_n 0, 1), (25, .iload_n 1, 1), (26, .invokevirtual 185, 3), (29, .aload_n 0, 1), (30, .iconst 2, 1), (31, .aload_n 0, 1), (32, .getfield 36, 3), (35, .iload_n 2, 1), (36, .iaload, 1), (37, .ifCond .ge 7, 3), (40, .iconst 1, 1), (41, .goto 4, 3), (44, .iconst 0, 1), (45, .invokevirtual 137, 3), (48, .ifCond .eq 7, 3), (51, .fconst 0, 1), (52, .goto 8, 3), (55, .aload_n 0, 1), (56, .iload_n 2, 1), (57, .invokevirtual 239, 3), (60, .freturn, 1)]
set_option maxRecDepth 100000 in
theorem eX12_reachChance : am_dec cX12_reachChance tX12_reachChance := am_dec_of (by decide +kernel)
def tX12_isBroadcasting : List (Nat × Instr × Nat) := [(0, .aload_n 0, 1), (1, .iconst 0, 1), (2, .putfield 56, 3), (5, .aload_n 0, 1), (6, .invokevirtual 166, 3), (9, .ireturn, 1)]
set_option maxRecDepth 100000 in
theorem eX12_isBroadcasting : am_dec cX12_isBroadcasting tX12_isBroadcasting := am_dec_of (by decide +kernel)
def tX12_source : List (Nat × Instr × Nat) := [(0, .aload_n 0, 1), (1, .iconst 1, 1), (2, .aload_n 0, 1), (3, .getfield 9, 3), (6, .iconst 3, 1), (7, .iaload, 1), (8, .ifCond .ne 7, 3), (11, .iconst 1, 1), (12, .goto 4, 3), (15, .iconst 0, 1), (16, .invokevirtual 137, 3), (19, .ifCond .eq 7, 3), (22, .iconst 0, 1), (23, .goto 9, 3), (26, .aload_n 0, 1), (27, .getfield 9, 3), (30, .iconst 5, 1), (31, .iaload, 1), (32, .ireturn, 1)]
set_option maxRecDepth 100000 in
theorem eX12_source : am_dec cX12_source tX12_source := am_dec_of (by decide +kernel)
def tX12_hasPacket : List (Nat × Instr × Nat) := [(0, .aload_n 0, 1), (1, .iconst 1, 1), (2, .aload_n 0, 1), (3, .iload_n 1, 1), (4, .invokevirtual 87, 3), (7, .ifCond .ne 7, 3), (10, .iconst 1, 1), (11, .goto 4, 3), (14, .iconst 0, 1), (15, .invokevirtual 137, 3), (18, .ifCond .ne 56, 3), (21, .aload_n 0, 1), (22, .iconst 2, 1), (23, .aload_n 0, 1), (24, .getfield 9, 3), (27, .iconst 3, 1), (28, .iaload, 1), (29, .ifCond .eq 17, 3), (32, .iload_n 2, 1), (33, .iconst 0, 1), (34, .aload_n 0, 1), (35, .invokevirtual 170, 3), (38, .iconst 1, 1), (39, .isub, 1), (40, .invokestatic 59, 3), (43, .ifCond .ne 7, 3), (46, .iconst 1, 1), (47, .goto 4, 3), (50, .iconst 0, 1), (51, .invokevirtual 137, 3), (54, .ifCond .ne 20, 3), (57, .aload_n 0, 1), (58, .iload_n 1, 1), (59, .iconst 1, 1), (60, .invokevirtual 131, 3), (63, .iload_n 2, 1), (64, .invokestatic 116, 3), (67, .ifCond .eq 7, 3), (70, .iconst 1, 1), (71, .goto 4, 3), (74, .iconst 0, 1), (75, .ireturn, 1)]
set_option maxRecDepth 100000 in
theorem eX12_hasPacket : am_dec cX12_hasPacket tX12_hasPacket := am_dec_of (by decide +kernel)
def tX12_countPackets : List (Nat × Instr × Nat) := [(0, .aload_n 0, 1), (1, .iload_n 1, 1), (2, .iconst 1, 1), (3, .invokevirtual 131, 3), (6, .invokestatic 99, 3), (9, .ireturn, 1)]
set_option maxRecDepth 100000 in
theorem eX12_countPackets : am_dec cX12_countPackets tX12_countPackets := am_dec_of (by decide +kernel)
def tX12_packetsOf : List (Nat × Instr × Nat) := [(0, .aload_n 0, 1), (1, .iconst 1, 1), (2, .aload_n 0, 1), (3, .iload_n 1, 1), (4, .invokevirtual 87, 3), (7, .ifCond .ne 7, 3), (10, .iconst 1, 1), (11, .goto 4, 3), (14, .iconst 0, 1), (15, .invokevirtual 137, 3), (18, .ifCond .eq 7, 3), (21, .iconst 0, 1), (22, .goto 8, 3), (25, .aload_n 0, 1), (26, .iload_n 1, 1), (27, .invokevirtual 244, 3), (30, .ireturn, 1)]
set_option maxRecDepth 100000 in
theorem eX12_packetsOf : am_dec cX12_packetsOf tX12_packetsOf := am_dec_of (by decide +kernel)
def tX12_isCovered : List (Nat × Instr × Nat) := [(0, .aload_n 0, 1), (1, .iconst 1, 1), (2, .aload_n 0, 1), (3, .iload_n 1, 1), (4, .invokevirtual 87, 3), (7, .ifCond .ne 7, 3), (10, .iconst 1, 1), (11, .goto 4, 3), (14, .iconst 0, 1), (15, .invokevirtual 137, 3), (18, .ifCond .ne 37, 3), (21, .aload_n 0, 1), (22, .iconst 2, 1), (23, .aload_n 0, 1), (24, .getfield 9, 3), (27, .iconst 3, 1), (28, .iaload, 1), (29, .ifCond .ne 7, 3), (32, .iconst 1, 1), (33, .goto 4, 3), (36, .iconst 0, 1), (37, .invokevirtual 137, 3), (40, .ifCond .ne 15, 3), (43, .aload_n 0, 1), (44, .iload_n 1, 1), (45, .invokevirtual 182, 3), (48, .ifCond .eq 7, 3), (51, .iconst 1, 1), (52, .goto 4, 3), (55, .iconst 0, 1), (56, .ireturn, 1)]
set_option maxRecDepth 100000 in
theorem eX12_isCovered : am_dec cX12_isCovered tX12_isCovered := am_dec_of (by decide +kernel)
def tX12_coveredCount : List (Nat × Instr × Nat) := [(0, .aload_n 0, 1), (1, .iconst 0, 1), (2, .putfield 56, 3), (5, .iconst 0, 1), (6, .istore_n 1, 1), (7, .iconst 0, 1), (8, .istore_n 2, 1), (9, .iload_n 2, 1), (10, .aload_n 0, 1), (11, .getfield 9, 3), (14, .iconst 0, 1), (15, .iaload, 1), (16, .if_icmp .ge 34, 3), (19, .iload_n 1, 1), (20, .aload_n 0, 1), (21, .getfield 9, 3), (24, .iconst 3, 1), (25, .iaload, 1), (26, .ifCond .le 15, 3), (29, .aload_n 0, 1), (30, .iload_n 2, 1), (31, .invokevirtual 182, 3), (34, .ifCond .eq 7, 3), (37, .iconst 1, 1), (38, .goto 4, 3), (41, .iconst 0, 1), (42, .iadd, 1), (43, .istore_n 1, 1), (44, .iinc 2 1, 3), (47, .goto (-38), 3), (50, .iload_n 1, 1), (51, .ireturn, 1)]
set_option maxRecDepth 100000 in
theorem eX12_coveredCount : am_dec cX12_coveredCount tX12_coveredCount := am_dec_of (by decide +kernel)
def tX12_windsLeft : List (Nat × Instr × Nat) := [(0, .aload_n 0, 1), (1, .iconst 1, 1), (2, .aload_n 0, 1), (3, .invokevirtual 166, 3), (6, .ifCond .ne 7, 3), (9, .iconst 1, 1), (10, .goto 4, 3), (13, .iconst 0, 1), (14, .invokevirtual 137, 3), (17, .ifCond .eq 5, 3), (20, .iconst 0, 1), (21, .ireturn, 1), (22, .aload_n 0, 1), (23, .getfield 9, 3), (26, .aload_n 0, 1), (27, .getfield 19, 3), (30, .invokestatic 75, 3), (33, .aload_n 0, 1), (34, .invokevirtual 203, 3), (37, .istore_n 1, 1), (38, .aload_n 0, 1), (39, .getfield 19, 3), (42, .aload_n 0, 1), (43, .getfield 9, 3), (46, .invokestatic 75, 3), (49, .iload_n 1, 1), (50, .ireturn, 1)]
set_option maxRecDepth 100000 in
theorem eX12_windsLeft : am_dec cX12_windsLeft tX12_windsLeft := am_dec_of (by decide +kernel)
def tX12_energyLeft : List (Nat × Instr × Nat) := [(0, .aload_n 0, 1), (1, .iconst 1, 1), (2, .aload_n 0, 1), (3, .invokevirtual 166, 3), (6, .ifCond .ne 7, 3), (9, .iconst 1, 1), (10, .goto 4, 3), (13, .iconst 0, 1), (14, .invokevirtual 137, 3), (17, .ifCond .eq 5, 3), (20, .iconst 0, 1), (21, .ireturn, 1), (22, .aload_n 0, 1), (23, .getfield 9, 3), (26, .aload_n 0, 1), (27, .getfield 19, 3), (30, .invokestatic 75, 3), (33, .aload_n 0, 1), (34, .invokevirtual 203, 3), (37, .pop, 1), (38, .aload_n 0, 1), (39, .getfield 9, 3), (42, .bipush 12, 2), (44, .iaload, 1), (45, .aload_n 0, 1), (46, .getfield 19, 3), (49, .bipush 12, 2), (51, .iaload, 1), (52, .isub, 1), (53, .istore_n 1, 1), (54, .aload_n 0, 1), (55, .getfield 19, 3), (58, .aload_n 0, 1), (59, .getfield 9, 3), (62, .invokestatic 75, 3), (65, .iload_n 1, 1), (66, .ireturn, 1)]
set_option maxRecDepth 100000 in
theorem eX12_energyLeft : am_dec cX12_energyLeft tX12_energyLeft := am_dec_of (by decide +kernel)
def tX12_sentCount : List (Nat × Instr × Nat) := [(0, .aload_n 0, 1), (1, .iconst 0, 1), (2, .putfield 56, 3), (5, .aload_n 0, 1), (6, .getfield 9, 3), (9, .bipush 9, 2), (11, .iaload, 1), (12, .ireturn, 1)]
set_option maxRecDepth 100000 in
theorem eX12_sentCount : am_dec cX12_sentCount tX12_sentCount := am_dec_of (by decide +kernel)
def tX12_lostCount : List (Nat × Instr × Nat) := [(0, .aload_n 0, 1), (1, .iconst 0, 1), (2, .putfield 56, 3), (5, .aload_n 0, 1), (6, .getfield 9, 3), (9, .bipush 10, 2), (11, .iaload, 1), (12, .ireturn, 1)]
set_option maxRecDepth 100000 in
theorem eX12_lostCount : am_dec cX12_lostCount tX12_lostCount := am_dec_of (by decide +kernel)
def tX12_rebuiltCount : List (Nat × Instr × Nat) := [(0, .aload_n 0, 1), (1, .iconst 0, 1), (2, .putfield 56, 3), (5, .aload_n 0, 1), (6, .getfield 9, 3), (9, .bipush 11, 2), (11, .iaload, 1), (12, .ireturn, 1)]
set_option maxRecDepth 100000 in
theorem eX12_rebuiltCount : am_dec cX12_rebuiltCount tX12_rebuiltCount := am_dec_of (by decide +kernel)
def tX12_energy : List (Nat × Instr × Nat) := [(0, .aload_n 0, 1), (1, .iconst 0, 1), (2, .putfield 56, 3), (5, .aload_n 0, 1), (6, .getfield 9, 3), (9, .bipush 12, 2), (11, .iaload, 1), (12, .ireturn, 1)]
set_option maxRecDepth 100000 in
theorem eX12_energy : am_dec cX12_energy tX12_energy := am_dec_of (by decide +kernel)
def tX12_finishedCount : List (Nat × Instr × Nat) := [(0, .aload_n 0, 1), (1, .iconst 0, 1), (2, .putfield 56, 3), (5, .aload_n 0, 1), (6, .getfield 9, 3), (9, .bipush 13, 2), (11, .iaload, 1), (12, .ireturn, 1)]
set_option maxRecDepth 100000 in
theorem eX12_finishedCount : am_dec cX12_finishedCount tX12_finishedCount := am_dec_of (by decide +kernel)
def tX12_failedCount : List (Nat × Instr × Nat) := [(0, .aload_n 0, 1), (1, .iconst 0, 1), (2, .putfield 56, 3), (5, .aload_n 0, 1), (6, .getfield 9, 3), (9, .bipush 14, 2), (11, .iaload, 1), (12, .ireturn, 1)]
set_option maxRecDepth 100000 in
theorem eX12_failedCount : am_dec cX12_failedCount tX12_failedCount := am_dec_of (by decide +kernel)
def tX12_comesFirst : List (Nat × Instr × Nat) := [(0, .aload_n 0, 1), (1, .iload_n 1, 1), (2, .invokevirtual 244, 3), (5, .aload_n 0, 1), (6, .iload_n 2, 1), (7, .invokevirtual 244, 3), (10, .isub, 1), (11, .istore_n 3, 1), (12, .aload_n 0, 1), (13, .iload_n 1, 1), (14, .iconst 0, 1), (15, .invokevirtual 131, 3), (18, .aload_n 0, 1), (19, .iload_n 2, 1), (20, .iconst 0, 1), (21, .invokevirtual 131, 3), (24, .isub, 1), (25, .istore 4, 2), (27, .iload_n 3, 1), (28, .ifCond .eq 15, 3), (31, .iload_n 3, 1), (32, .ifCond .le 7, 3), (35, .iconst 1, 1), (36, .goto 35, 3), (39, .iconst 0, 1), (40, .goto 31, 3), (43, .iload 4, 2), (45, .ifCond .eq 16, 3), (48, .iload 4, 2), (50, .ifCond .le 7, 3), (53, .iconst 1, 1), (54, .goto 17, 3), (57, .iconst 0, 1), (58, .goto 13, 3), (61, .iload_n 1, 1), (62, .iload_n 2, 1), (63, .if_icmp .ge 7, 3), (66, .iconst 1, 1), (67, .goto 4, 3), (70, .iconst 0, 1), (71, .ireturn, 1)]
set_option maxRecDepth 100000 in
theorem eX12_comesFirst : am_dec cX12_comesFirst tX12_comesFirst := am_dec_of (by decide +kernel)
def tX12_fieldByPackets : List (Nat × Instr × Nat) := [(0, .iconst (-1), 1), (1, .istore_n 2, 1), (2, .iconst 0, 1), (3, .istore_n 3, 1), (4, .iload_n 3, 1), (5, .aload_n 0, 1), (6, .getfield 9, 3), (9, .iconst 0, 1), (10, .iaload, 1), (11, .if_icmp .ge 64, 3), (14, .iconst 0, 1), (15, .istore 4, 2), (17, .iconst 0, 1), (18, .istore 5, 2), (20, .iload 5, 2), (22, .aload_n 0, 1), (23, .getfield 9, 3), (26, .iconst 0, 1), (27, .iaload, 1), (28, .if_icmp .ge 29, 3), (31, .iload 4, 2), (33, .aload_n 0, 1), (34, .iload 5, 2), (36, .iload_n 3, 1), (37, .invokevirtual 247, 3), (40, .ifCond .eq 7, 3), (43, .iconst 1, 1), (44, .goto 4, 3), (47, .iconst 0, 1), (48, .iadd, 1), (49, .istore 4, 2), (51, .iinc 5 1, 3), (54, .goto (-34), 3), (57, .iload 4, 2), (59, .iload_n 1, 1), (60, .if_icmp .ne 7, 3), (63, .iload_n 3, 1), (64, .goto 4, 3), (67, .iload_n 2, 1), (68, .istore_n 2, 1), (69, .iinc 3 1, 3), (72, .goto (-68), 3), (75, .aload_n 0, 1), (76, .iconst 1, 1), (77, .iload_n 2, 1), (78, .ifCond .ge 7, 3), (81, .iconst 1, 1), (82, .goto 4, 3), (85, .iconst 0, 1), (86, .invokevirtual 137, 3), (89, .ifCond .eq 7, 3), (92, .iconst 0, 1), (93, .goto 4, 3), (96, .iload_n 2, 1), (97, .ireturn, 1)]
set_option maxRecDepth 100000 in
theorem eX12_fieldByPackets : am_dec cX12_fieldByPackets tX12_fieldByPackets := am_dec_of (by decide +kernel)
def tX12_isUsedFirst : List (Nat × Instr × Nat) := [(0, .aload_n 0, 1), (1, .iload_n 1, 1), (2, .iconst 5, 1), (3, .invokevirtual 91, 3), (6, .aload_n 0, 1), (7, .iload_n 2, 1), (8, .iconst 5, 1), (9, .invokevirtual 91, 3), (12, .isub, 1), (13, .istore_n 3, 1), (14, .aload_n 0, 1), (15, .iload_n 2, 1), (16, .iconst 2, 1), (17, .invokevirtual 91, 3), (20, .aload_n 0, 1), (21, .iload_n 1, 1), (22, .iconst 2, 1), (23, .invokevirtual 91, 3), (26, .isub, 1), (27, .istore 4, 2), (29, .iload_n 3, 1), (30, .ifCond .eq 15, 3), (33, .iload_n 3, 1), (34, .ifCond .le 7, 3), (37, .iconst 1, 1), (38, .goto 35, 3), (41, .iconst 0, 1), (42, .goto 31, 3), (45, .iload 4, 2), (47, .ifCond .eq 16, 3), (50, .iload 4, 2), (52, .ifCond .le 7, 3), (55, .iconst 1, 1), (56, .goto 17, 3), (59, .iconst 0, 1), (60, .goto 13, 3), (63, .iload_n 1, 1), (64, .iload_n 2, 1), (65, .if_icmp .ge 7, 3), (68, .iconst 1, 1), (69, .goto 4, 3), (72, .iconst 0, 1), (73, .ireturn, 1)]
set_option maxRecDepth 100000 in
theorem eX12_isUsedFirst : am_dec cX12_isUsedFirst tX12_isUsedFirst := am_dec_of (by decide +kernel)
def tX12_pathByUse : List (Nat × Instr × Nat) := [(0, .iconst (-1), 1), (1, .istore_n 2, 1), (2, .iconst 0, 1), (3, .istore_n 3, 1), (4, .iload_n 3, 1), (5, .aload_n 0, 1), (6, .getfield 9, 3), (9, .iconst 1, 1), (10, .iaload, 1), (11, .if_icmp .ge 64, 3), (14, .iconst 0, 1), (15, .istore 4, 2), (17, .iconst 0, 1), (18, .istore 5, 2), (20, .iload 5, 2), (22, .aload_n 0, 1), (23, .getfield 9, 3), (26, .iconst 1, 1), (27, .iaload, 1), (28, .if_icmp .ge 29, 3), (31, .iload 4, 2), (33, .aload_n 0, 1), (34, .iload 5, 2), (36, .iload_n 3, 1), (37, .invokevirtual 250, 3), (40, .ifCond .eq 7, 3), (43, .iconst 1, 1), (44, .goto 4, 3), (47, .iconst 0, 1), (48, .iadd, 1), (49, .istore 4, 2), (51, .iinc 5 1, 3), (54, .goto (-34), 3), (57, .iload 4, 2), (59, .iload_n 1, 1), (60, .if_icmp .ne 7, 3), (63, .iload_n 3, 1), (64, .goto 4, 3), (67, .iload_n 2, 1), (68, .istore_n 2, 1), (69, .iinc 3 1, 3), (72, .goto (-68), 3), (75, .aload_n 0, 1), (76, .iconst 1, 1), (77, .iload_n 2, 1), (78, .ifCond .ge 7, 3), (81, .iconst 1, 1), (82, .goto 4, 3), (85, .iconst 0, 1), (86, .invokevirtual 137, 3), (89, .ifCond .eq 7, 3), (92, .iconst 0, 1), (93, .goto 4, 3), (96, .iload_n 2, 1), (97, .ireturn, 1)]
set_option maxRecDepth 100000 in
theorem eX12_pathByUse : am_dec cX12_pathByUse tX12_pathByUse := am_dec_of (by decide +kernel)
def tX12_meanEnergy : List (Nat × Instr × Nat) := [(0, .aload_n 0, 1), (1, .iconst 1, 1), (2, .aload_n 0, 1), (3, .getfield 9, 3), (6, .bipush 9, 2), (8, .iaload, 1), (9, .ifCond .ne 7, 3), (12, .iconst 1, 1), (13, .goto 4, 3), (16, .iconst 0, 1), (17, .invokevirtual 137, 3), (20, .ifCond .eq 7, 3), (23, .dconst 0, 1), (24, .goto 20, 3), (27, .aload_n 0, 1), (28, .getfield 9, 3), (31, .bipush 12, 2), (33, .iaload, 1), (34, .i2d, 1), (35, .aload_n 0, 1), (36, .getfield 9, 3), (39, .bipush 9, 2), (41, .iaload, 1), (42, .i2d, 1), (43, .ddiv, 1), (44, .dreturn, 1)]
set_option maxRecDepth 100000 in
theorem eX12_meanEnergy : am_dec cX12_meanEnergy tX12_meanEnergy := am_dec_of (by decide +kernel)
def tX12_lossShare : List (Nat × Instr × Nat) := [(0, .aload_n 0, 1), (1, .iconst 1, 1), (2, .aload_n 0, 1), (3, .getfield 9, 3), (6, .bipush 9, 2), (8, .iaload, 1), (9, .ifCond .ne 7, 3), (12, .iconst 1, 1), (13, .goto 4, 3), (16, .iconst 0, 1), (17, .invokevirtual 137, 3), (20, .ifCond .eq 7, 3), (23, .fconst 0, 1), (24, .goto 20, 3), (27, .aload_n 0, 1), (28, .getfield 9, 3), (31, .bipush 10, 2), (33, .iaload, 1), (34, .i2f, 1), (35, .aload_n 0, 1), (36, .getfield 9, 3), (39, .bipush 9, 2), (41, .iaload, 1), (42, .i2f, 1), (43, .fdiv, 1), (44, .freturn, 1)]
set_option maxRecDepth 100000 in
theorem eX12_lossShare : am_dec cX12_lossShare tX12_lossShare := am_dec_of (by decide +kernel)
def tX12_lossBits : List (Nat × Instr × Nat) := [(0, .aload_n 0, 1), (1, .invokevirtual 253, 3), (4, .fstore_n 1, 1), (5, .aload_n 0, 1), (6, .getfield 56, 3), (9, .ifCond .ne 10, 3), (12, .fload_n 1, 1), (13, .invokestatic 257, 3), (16, .goto 4, 3), (19, .iconst 0, 1), (20, .ireturn, 1)]
set_option maxRecDepth 100000 in
theorem eX12_lossBits : am_dec cX12_lossBits tX12_lossBits := am_dec_of (by decide +kernel)
def tX12_isConsistent : List (Nat × Instr × Nat) := [(0, .aload_n 0, 1), (1, .iconst 0, 1), (2, .putfield 56, 3), (5, .iconst 1, 1), (6, .ireturn, 1)]
set_option maxRecDepth 100000 in
theorem eX12_isConsistent : am_dec cX12_isConsistent tX12_isConsistent := am_dec_of (by decide +kernel)
def tX12_write : List (Nat × Instr × Nat) := [(0, .aload_n 0, 1), (1, .getfield 42, 3), (4, .aload_n 0, 1), (5, .getfield 263, 3), (8, .iload_n 1, 1), (9, .castore, 1), (10, .aload_n 0, 1), (11, .dup, 1), (12, .getfield 263, 3), (15, .iconst 1, 1), (16, .iadd, 1), (17, .putfield 263, 3), (20, .return_, 1)]
set_option maxRecDepth 100000 in
theorem eX12_write : am_dec cX12_write tX12_write := am_dec_of (by decide +kernel)
def tX12_writeDigit : List (Nat × Instr × Nat) := [(0, .aload_n 0, 1), (1, .bipush 48, 2), (3, .iload_n 1, 1), (4, .iadd, 1), (5, .i2c, 1), (6, .invokevirtual 266, 3), (9, .return_, 1)]
set_option maxRecDepth 100000 in
theorem eX12_writeDigit : am_dec cX12_writeDigit tX12_writeDigit := am_dec_of (by decide +kernel)
def tX12_writeField : List (Nat × Instr × Nat) := [(0, .aload_n 0, 1), (1, .iconst 1, 1), (2, .aload_n 0, 1), (3, .iload_n 1, 1), (4, .invokevirtual 87, 3), (7, .ifCond .ne 7, 3), (10, .iconst 1, 1), (11, .goto 4, 3), (14, .iconst 0, 1), (15, .invokevirtual 137, 3), (18, .ifCond .eq 5, 3), (21, .iconst 0, 1), (22, .ireturn, 1), (23, .aload_n 0, 1), (24, .iconst 0, 1), (25, .putfield 263, 3), (28, .aload_n 0, 1), (29, .iload_n 1, 1), (30, .invokevirtual 270, 3), (33, .aload_n 0, 1), (34, .bipush 115, 2), (36, .invokevirtual 266, 3), (39, .aload_n 0, 1), (40, .aload_n 0, 1), (41, .iload_n 1, 1), (42, .iconst 0, 1), (43, .invokevirtual 131, 3), (46, .invokevirtual 270, 3), (49, .aload_n 0, 1), (50, .bipush 58, 2), (52, .invokevirtual 266, 3), (55, .aload_n 0, 1), (56, .getfield 9, 3), (59, .iconst 3, 1), (60, .iaload, 1), (61, .ifCond .le 57, 3), (64, .iconst 0, 1), (65, .istore_n 2, 1), (66, .iload_n 2, 1), (67, .aload_n 0, 1), (68, .invokevirtual 170, 3), (71, .if_icmp .ge 33, 3), (74, .aload_n 0, 1), (75, .aload_n 0, 1), (76, .iload_n 1, 1), (77, .iconst 1, 1), (78, .invokevirtual 131, 3), (81, .iload_n 2, 1), (82, .invokestatic 116, 3), (85, .ifCond .eq 8, 3), (88, .bipush 35, 2), (90, .goto 5, 3), (93, .bipush 46, 2), (95, .invokevirtual 266, 3), (98, .iinc 2 1, 3), (101, .goto (-35), 3), (104, .aload_n 0, 1), (105, .iload_n 1, 1), (106, .invokevirtual 182, 3), (109, .ifCond .eq 9, 3), (112, .aload_n 0, 1), (113, .bipush 33, 2), (115, .invokevirtual 266, 3), (118, .aload_n 0, 1), (119, .getfield 263, 3), (122, .ireturn, 1)]
set_option maxRecDepth 100000 in
theorem eX12_writeField : am_dec cX12_writeField tX12_writeField := am_dec_of (by decide +kernel)
def tX12_outputAt : List (Nat × Instr × Nat) := [(0, .aload_n 0, 1), (1, .iconst 1, 1), (2, .iload_n 1, 1), (3, .iconst 0, 1), (4, .aload_n 0, 1), (5, .getfield 263, 3), (8, .iconst 1, 1), (9, .isub, 1), (10, .invokestatic 59, 3), (13, .ifCond .ne 7, 3), (16, .iconst 1, 1), (17, .goto 4, 3), (20, .iconst 0, 1), (21, .invokevirtual 137, 3), (24, .ifCond .eq 8, 3), (27, .bipush 32, 2), (29, .goto 9, 3), (32, .aload_n 0, 1), (33, .getfield 42, 3), (36, .iload_n 1, 1), (37, .caload, 1), (38, .ireturn, 1)]
set_option maxRecDepth 100000 in
theorem eX12_outputAt : am_dec cX12_outputAt tX12_outputAt := am_dec_of (by decide +kernel)
def tX12_appendInput : List (Nat × Instr × Nat) := [(0, .aload_n 0, 1), (1, .iconst 1, 1), (2, .iload_n 1, 1), (3, .bipush 32, 2), (5, .bipush 126, 2), (7, .invokestatic 59, 3), (10, .ifCond .ne 7, 3), (13, .iconst 1, 1), (14, .goto 4, 3), (17, .iconst 0, 1), (18, .invokevirtual 137, 3), (21, .ifCond .ne 25, 3), (24, .aload_n 0, 1), (25, .iconst 2, 1), (26, .aload_n 0, 1), (27, .getfield 273, 3), (30, .bipush 60, 2), (32, .if_icmp .ne 7, 3), (35, .iconst 1, 1), (36, .goto 4, 3), (39, .iconst 0, 1), (40, .invokevirtual 137, 3), (43, .ifCond .eq 5, 3), (46, .iconst 0, 1), (47, .ireturn, 1), (48, .aload_n 0, 1), (49, .getfield 46, 3), (52, .aload_n 0, 1), (53, .getfield 273, 3), (56, .iload_n 1, 1), (57, .castore, 1), (58, .aload_n 0, 1), (59, .dup, 1), (60, .getfield 273, 3), (63, .iconst 1, 1), (64, .iadd, 1), (65, .putfield 273, 3), (68, .aload_n 0, 1), (69, .getfield 273, 3), (72, .ireturn, 1)]
set_option maxRecDepth 100000 in
theorem eX12_appendInput : am_dec cX12_appendInput tX12_appendInput := am_dec_of (by decide +kernel)
def tX12_seen : List (Nat × Instr × Nat) := [(0, .aload_n 0, 1), (1, .getfield 276, 3), (4, .ifCond .ne 30, 3), (7, .aload_n 0, 1), (8, .getfield 279, 3), (11, .iload_n 1, 1), (12, .iadd, 1), (13, .aload_n 0, 1), (14, .getfield 273, 3), (17, .if_icmp .ge 17, 3), (20, .aload_n 0, 1), (21, .getfield 46, 3), (24, .aload_n 0, 1), (25, .getfield 279, 3), (28, .iload_n 1, 1), (29, .iadd, 1), (30, .caload, 1), (31, .goto 5, 3), (34, .bipush 32, 2), (36, .ireturn, 1)]
set_option maxRecDepth 100000 in
theorem eX12_seen : am_dec cX12_seen tX12_seen := am_dec_of (by decide +kernel)
def tX12_sees : List (Nat × Instr × Nat) := [(0, .aload_n 0, 1), (1, .getfield 276, 3), (4, .ifCond .ne 35, 3), (7, .aload_n 0, 1), (8, .getfield 279, 3), (11, .aload_n 0, 1), (12, .getfield 273, 3), (15, .if_icmp .ge 24, 3), (18, .aload_n 0, 1), (19, .getfield 46, 3), (22, .aload_n 0, 1), (23, .getfield 279, 3), (26, .caload, 1), (27, .iload_n 1, 1), (28, .iload_n 2, 1), (29, .invokestatic 59, 3), (32, .ifCond .eq 7, 3), (35, .iconst 1, 1), (36, .goto 4, 3), (39, .iconst 0, 1), (40, .ireturn, 1)]
set_option maxRecDepth 100000 in
theorem eX12_sees : am_dec cX12_sees tX12_sees := am_dec_of (by decide +kernel)
def tX12_must : List (Nat × Instr × Nat) := [(0, .aload_n 0, 1), (1, .dup, 1), (2, .getfield 276, 3), (5, .aload_n 0, 1), (6, .iload_n 1, 1), (7, .iload_n 1, 1), (8, .invokevirtual 282, 3), (11, .ifCond .ne 7, 3), (14, .iconst 1, 1), (15, .goto 4, 3), (18, .iconst 0, 1), (19, .ior, 1), (20, .putfield 276, 3), (23, .aload_n 0, 1), (24, .dup, 1), (25, .getfield 279, 3), (28, .aload_n 0, 1), (29, .getfield 276, 3), (32, .ifCond .eq 7, 3), (35, .iconst 0, 1), (36, .goto 4, 3), (39, .iconst 1, 1), (40, .iadd, 1), (41, .putfield 279, 3), (44, .return_, 1)]
set_option maxRecDepth 100000 in
theorem eX12_must : am_dec cX12_must tX12_must := am_dec_of (by decide +kernel)
def tX12_readBehind : List (Nat × Instr × Nat) := [(0, .aload_n 0, 1), (1, .iload_n 1, 1), (2, .invokevirtual 286, 3), (5, .aload_n 0, 1), (6, .dup, 1), (7, .getfield 276, 3), (10, .aload_n 0, 1), (11, .bipush 48, 2), (13, .bipush 57, 2), (15, .invokevirtual 282, 3), (18, .ifCond .ne 7, 3), (21, .iconst 1, 1), (22, .goto 4, 3), (25, .iconst 0, 1), (26, .ior, 1), (27, .putfield 276, 3), (30, .iconst 0, 1), (31, .istore_n 3, 1), (32, .iconst 0, 1), (33, .istore 4, 2), (35, .iload 4, 2), (37, .iload_n 2, 1), (38, .if_icmp .ge 48, 3), (41, .aload_n 0, 1), (42, .bipush 48, 2), (44, .bipush 57, 2), (46, .invokevirtual 282, 3), (49, .ifCond .eq 37, 3), (52, .bipush 10, 2), (54, .iload_n 3, 1), (55, .imul, 1), (56, .aload_n 0, 1), (57, .getfield 46, 3), (60, .aload_n 0, 1), (61, .getfield 279, 3), (64, .caload, 1), (65, .iadd, 1), (66, .bipush 48, 2), (68, .isub, 1), (69, .istore_n 3, 1), (70, .aload_n 0, 1), (71, .dup, 1), (72, .getfield 279, 3), (75, .iconst 1, 1), (76, .iadd, 1), (77, .putfield 279, 3), (80, .iinc 4 1, 3), (83, .goto (-48), 3), (86, .aload_n 0, 1), (87, .getfield 49, 3), (90, .aload_n 0, 1), (91, .getfield 289, 3), (94, .iload_n 3, 1), (95, .iastore, 1), (96, .aload_n 0, 1), (97, .dup, 1), (98, .getfield 289, 3), (101, .iconst 1, 1), (102, .iadd, 1), (103, .putfield 289, 3), (106, .return_, 1)]
set_option maxRecDepth 100000 in
theorem eX12_readBehind : am_dec cX12_readBehind tX12_readBehind := am_dec_of (by decide +kernel)
def tX12_keyword : List (Nat × Instr × Nat) := [(0, .aload_n 0, 1), (1, .iconst 0, 1), (2, .invokevirtual 292, 3), (5, .tableswitch 183 97 119 #[179, 167, 183, 183, 183, 107, 163, 183, 183, 183, 183, 183, 183, 183, 171, 183, 183, 183, 127, 183, 183, 183, 175], 107), (112, .aload_n 0, 1), (113, .iconst 2, 1), (114, .invokevirtual 292, 3), (117, .bipush 110, 2), (119, .if_icmp .ne 9, 3), (122, .ldc_w 296, 3), (125, .goto 6, 3), (128, .ldc_w 298, 3), (131, .areturn, 1), (132, .aload_n 0, 1), (133, .iconst 1, 1), (134, .invokevirtual 292, 3), (137, .bipush 104, 2), (139, .if_icmp .ne 9, 3), (142, .ldc_w 300, 3), (145, .goto 22, 3), (148, .aload_n 0, 1), (149, .iconst 2, 1), (150, .invokevirtual 292, 3), (153, .bipush 110, 2), (155, .if_icmp .ne 9, 3), (158, .ldc_w 302, 3), (161, .goto 6, 3), (164, .ldc_w 303, 3), (167, .areturn, 1), (168, .ldc_w 305, 3), (171, .areturn, 1), (172, .ldc_w 307, 3), (175, .areturn, 1), (176, .ldc_w 309, 3), (179, .areturn, 1), (180, .ldc_w 311, 3), (183, .areturn, 1), (184, .ldc_w 313, 3), (187, .areturn, 1), (188, .ldc_w 315, 3), (191, .areturn, 1)]
set_option maxRecDepth 100000 in
theorem eX12_keyword : am_dec cX12_keyword tX12_keyword := am_dec_of (by decide +kernel)
def tX12_readCommand : List (Nat × Instr × Nat) := [(0, .aload_n 0, 1), (1, .aload_n 0, 1), (2, .invokevirtual 317, 3), (5, .putfield 321, 3), (8, .aload_n 0, 1), (9, .iconst 0, 1), (10, .putfield 289, 3), (13, .aload_n 0, 1), (14, .iconst 0, 1), (15, .putfield 325, 3), (18, .iconst 0, 1), (19, .istore_n 1, 1), (20, .iload_n 1, 1), (21, .aload_n 0, 1), (22, .getfield 321, 3), (25, .invokevirtual 328, 3), (28, .if_icmp .ge 21, 3), (31, .aload_n 0, 1), (32, .aload_n 0, 1), (33, .getfield 321, 3), (36, .iload_n 1, 1), (37, .invokevirtual 332, 3), (40, .invokevirtual 286, 3), (43, .iinc 1 1, 3), (46, .goto (-26), 3), (49, .aload_n 0, 1), (50, .getfield 321, 3), (53, .astore_n 1, 1), (54, .iconst (-1), 1), (55, .istore_n 2, 1), (56, .aload_n 1, 1), (57, .invokevirtual 335, 3), (60, .lookupswitch 195 #[(-1274442605, 91), (-903340183, 151), (3184591, 182), (3433509, 136), (3526536, 166), (3649544, 76), (92611376, 106), (97427706, 121)], 76), (136, .aload_n 1, 1), (137, .ldc_w 311, 3), (140, .invokevirtual 338, 3), (143, .ifCond .eq 112, 3), (146, .iconst 0, 1), (147, .istore_n 2, 1), (148, .goto 107, 3), (151, .aload_n 1, 1), (152, .ldc_w 296, 3), (155, .invokevirtual 338, 3), (158, .ifCond .eq 97, 3), (161, .iconst 1, 1), (162, .istore_n 2, 1), (163, .goto 92, 3), (166, .aload_n 1, 1), (167, .ldc_w 313, 3), (170, .invokevirtual 338, 3), (173, .ifCond .eq 82, 3), (176, .iconst 2, 1), (177, .istore_n 2, 1), (178, .goto 77, 3), (181, .aload_n 1, 1), (182, .ldc_w 298, 3), (185, .invokevirtual 338, 3), (188, .ifCond .eq 67, 3), (191, .iconst 3, 1), (192, .istore_n 2, 1), (193, .goto 62, 3), (196, .aload_n 1, 1), (197, .ldc_w 315, 3), (200, .invokevirtual 338, 3), (203, .ifCond .eq 52, 3), (206, .iconst 4, 1), (207, .istore_n 2, 1), (208, .goto 47, 3), (211, .aload_n 1, 1), (212, .ldc_w 300, 3), (215, .invokevirtual 338, 3), (218, .ifCond .eq 37, 3), (221, .iconst 5, 1), (222, .istore_n 2, 1), (223, .goto 32, 3), (226, .aload_n 1, 1), (227, .ldc_w 302, 3), (230, .invokevirtual 338, 3), (233, .ifCond .eq 22, 3), (236, .bipush 6, 2), (238, .istore_n 2, 1), (239, .goto 16, 3), (242, .aload_n 1, 1), (243, .ldc_w 305, 3), (246, .invokevirtual 338, 3), (249, .ifCond .eq 6, 3), (252, .bipush 7, 2), (254, .istore_n 2, 1), (255, .iload_n 2, 1), (256, .tableswitch 176 0 7 #[48, 48, 48, 51, 61, 92, 109, 159], 48), (304, .goto 135, 3), (307, .aload_n 0, 1), (308, .bipush 32, 2), (310, .iconst 1, 1), (311, .invokevirtual 342, 3), (314, .goto 125, 3), (317, .aload_n 0, 1), (318, .bipush 32, 2), (320, .iconst 1, 1), (321, .invokevirtual 342, 3), (324, .aload_n 0, 1), (325, .bipush 45, 2), (327, .iconst 1, 1), (328, .invokevirtual 342, 3), (331, .aload_n 0, 1), (332, .bipush 32, 2), (334, .iconst 1, 1), (335, .invokevirtual 342, 3), (338, .aload_n 0, 1), (339, .bipush 32, 2), (341, .iconst 1, 1), (342, .invokevirtual 342, 3), (345, .goto 94, 3), (348, .aload_n 0, 1), (349, .bipush 32, 2), (351, .iconst 1, 1), (352, .invokevirtual 342, 3), (355, .aload_n 0, 1), (356, .bipush 32, 2), (358, .iconst 1, 1), (359, .invokevirtual 342, 3), (362, .goto 77, 3), (365, .aload_n 0, 1), (366, .bipush 32, 2), (368, .iconst 1, 1), (369, .invokevirtual 342, 3), (372, .aload_n 0, 1), (373, .bipush 32, 2), (375, .iconst 1, 1), (376, .invokevirtual 342, 3), (379, .aload_n 0, 1), (380, .aload_n 0, 1), (381, .bipush 43, 2), (383, .bipush 43, 2), (385, .invokevirtual 282, 3), (388, .putfield 325, 3), (391, .aload_n 0, 1), (392, .dup, 1), (393, .getfield 279, 3), (396, .aload_n 0, 1), (397, .getfield 325, 3), (400, .ifCond .eq 7, 3), (403, .iconst 1, 1), (404, .goto 4, 3), (407, .iconst 0, 1), (408, .iadd, 1), (409, .putfield 279, 3), (412, .goto 27, 3), (415, .aload_n 0, 1), (416, .bipush 32, 2), (418, .iconst 3, 1), (419, .invokevirtual 342, 3), (422, .aload_n 0, 1), (423, .bipush 32, 2), (425, .iconst 1, 1), (426, .invokevirtual 342, 3), (429, .goto 10, 3), (432, .aload_n 0, 1), (433, .bipush 32, 2), (435, .iconst 3, 1), (436, .invokevirtual 342, 3), (439, .return_, 1)]
set_option maxRecDepth 100000 in
theorem eX12_readCommand : am_dec cX12_readCommand tX12_readCommand := am_dec_of (by decide +kernel)
def tX12_countCommands : List (Nat × Instr × Nat) := [(0, .aload_n 0, 1), (1, .iconst 0, 1), (2, .putfield 279, 3), (5, .aload_n 0, 1), (6, .iconst 0, 1), (7, .putfield 276, 3), (10, .iconst 1, 1), (11, .istore_n 1, 1), (12, .aload_n 0, 1), (13, .invokevirtual 346, 3), (16, .aload_n 0, 1), (17, .getfield 276, 3), (20, .ifCond .ne 30, 3), (23, .aload_n 0, 1), (24, .getfield 279, 3), (27, .aload_n 0, 1), (28, .getfield 273, 3), (31, .if_icmp .ge 19, 3), (34, .aload_n 0, 1), (35, .bipush 59, 2), (37, .invokevirtual 286, 3), (40, .aload_n 0, 1), (41, .invokevirtual 346, 3), (44, .iinc 1 1, 3), (47, .goto (-31), 3), (50, .iload_n 1, 1), (51, .ireturn, 1)]
set_option maxRecDepth 100000 in
theorem eX12_countCommands : am_dec cX12_countCommands tX12_countCommands := am_dec_of (by decide +kernel)
def tX12_executeCommand : List (Nat × Instr × Nat) := [(0, .aload_n 0, 1), (1, .getfield 321, 3), (4, .astore_n 1, 1), (5, .iconst (-1), 1), (6, .istore_n 2, 1), (7, .aload_n 1, 1), (8, .invokevirtual 335, 3), (11, .lookupswitch 240 #[(-1274442605, 227), (-903340183, 119), (3184591, 134), (3417674, 164), (3433509, 104), (3526257, 179), (3526536, 195), (3649544, 211), (93832333, 149), (97427706, 89)], 89), (100, .aload_n 1, 1), (101, .ldc_w 298, 3), (104, .invokevirtual 338, 3), (107, .ifCond .eq 144, 3), (110, .iconst 0, 1), (111, .istore_n 2, 1), (112, .goto 139, 3), (115, .aload_n 1, 1), (116, .ldc_w 315, 3), (119, .invokevirtual 338, 3), (122, .ifCond .eq 129, 3), (125, .iconst 1, 1), (126, .istore_n 2, 1), (127, .goto 124, 3), (130, .aload_n 1, 1), (131, .ldc_w 300, 3), (134, .invokevirtual 338, 3), (137, .ifCond .eq 114, 3), (140, .iconst 2, 1), (141, .istore_n 2, 1), (142, .goto 109, 3), (145, .aload_n 1, 1), (146, .ldc_w 305, 3), (149, .invokevirtual 338, 3), (152, .ifCond .eq 99, 3), (155, .iconst 3, 1), (156, .istore_n 2, 1), (157, .goto 94, 3), (160, .aload_n 1, 1), (161, .ldc_w 307, 3), (164, .invokevirtual 338, 3), (167, .ifCond .eq 84, 3), (170, .iconst 4, 1), (171, .istore_n 2, 1), (172, .goto 79, 3), (175, .aload_n 1, 1), (176, .ldc_w 309, 3), (179, .invokevirtual 338, 3), (182, .ifCond .eq 69, 3), (185, .iconst 5, 1), (186, .istore_n 2, 1), (187, .goto 64, 3), (190, .aload_n 1, 1), (191, .ldc_w 303, 3), (194, .invokevirtual 338, 3), (197, .ifCond .eq 54, 3), (200, .bipush 6, 2), (202, .istore_n 2, 1), (203, .goto 48, 3), (206, .aload_n 1, 1), (207, .ldc_w 302, 3), (210, .invokevirtual 338, 3), (213, .ifCond .eq 38, 3), (216, .bipush 7, 2), (218, .istore_n 2, 1), (219, .goto 32, 3), (222, .aload_n 1, 1), (223, .ldc_w 311, 3), (226, .invokevirtual 338, 3), (229, .ifCond .eq 22, 3), (232, .bipush 8, 2), (234, .istore_n 2, 1), (235, .goto 16, 3), (238, .aload_n 1, 1), (239, .ldc_w 296, 3), (242, .invokevirtual 338, 3), (245, .ifCond .eq 6, 3), (248, .bipush 9, 2), (250, .istore_n 2, 1), (251, .iload_n 2, 1), (252, .tableswitch 214 0 9 #[56, 69, 100, 120, 140, 140, 163, 177, 200, 207], 56), (308, .aload_n 0, 1), (309, .aload_n 0, 1), (310, .getfield 49, 3), (313, .iconst 0, 1), (314, .iaload, 1), (315, .invokevirtual 349, 3), (318, .pop, 1), (319, .iconst 2, 1), (320, .ireturn, 1), (321, .aload_n 0, 1), (322, .aload_n 0, 1), (323, .getfield 49, 3), (326, .iconst 0, 1), (327, .iaload, 1), (328, .aload_n 0, 1), (329, .getfield 49, 3), (332, .iconst 1, 1), (333, .iaload, 1), (334, .aload_n 0, 1), (335, .getfield 49, 3), (338, .iconst 2, 1), (339, .iaload, 1), (340, .aload_n 0, 1), (341, .getfield 49, 3), (344, .iconst 3, 1), (345, .iaload, 1), (346, .invokevirtual 352, 3), (349, .pop, 1), (350, .iconst 3, 1), (351, .ireturn, 1), (352, .aload_n 0, 1), (353, .aload_n 0, 1), (354, .getfield 49, 3), (357, .iconst 0, 1), (358, .iaload, 1), (359, .aload_n 0, 1), (360, .getfield 49, 3), (363, .iconst 1, 1), (364, .iaload, 1), (365, .invokevirtual 356, 3), (368, .pop, 1), (369, .bipush 9, 2), (371, .ireturn, 1), (372, .aload_n 0, 1), (373, .aload_n 0, 1), (374, .getfield 49, 3), (377, .iconst 0, 1), (378, .iaload, 1), (379, .aload_n 0, 1), (380, .getfield 49, 3), (383, .iconst 1, 1), (384, .iaload, 1), (385, .invokevirtual 359, 3), (388, .pop, 1), (389, .bipush 9, 2), (391, .ireturn, 1), (392, .aload_n 0, 1), (393, .aload_n 0, 1), (394, .getfield 49, 3), (397, .iconst 0, 1), (398, .iaload, 1), (399, .aload_n 0, 1), (400, .getfield 321, 3), (403, .ldc_w 307, 3), (406, .invokevirtual 338, 3), (409, .invokevirtual 362, 3), (412, .pop, 1), (413, .iconst 2, 1), (414, .ireturn, 1), (415, .aload_n 0, 1), (416, .aload_n 0, 1), (417, .getfield 49, 3), (420, .iconst 0, 1), (421, .iaload, 1), (422, .invokevirtual 366, 3), (425, .pop, 1), (426, .bipush 9, 2), (428, .ireturn, 1), (429, .aload_n 0, 1), (430, .aload_n 0, 1), (431, .getfield 49, 3), (434, .iconst 0, 1), (435, .iaload, 1), (436, .aload_n 0, 1), (437, .getfield 49, 3), (440, .iconst 1, 1), (441, .iaload, 1), (442, .aload_n 0, 1), (443, .getfield 325, 3), (446, .invokevirtual 369, 3), (449, .pop, 1), (450, .iconst 3, 1), (451, .ireturn, 1), (452, .aload_n 0, 1), (453, .invokevirtual 373, 3), (456, .pop, 1), (457, .iconst 1, 1), (458, .ireturn, 1), (459, .aload_n 0, 1), (460, .invokevirtual 375, 3), (463, .pop, 1), (464, .iconst 1, 1), (465, .ireturn, 1), (466, .aload_n 0, 1), (467, .invokevirtual 378, 3), (470, .pop, 1), (471, .iconst 1, 1), (472, .ireturn, 1)]
set_option maxRecDepth 100000 in
theorem eX12_executeCommand : am_dec cX12_executeCommand tX12_executeCommand := am_dec_of (by decide +kernel)
def tX12_failCommand : List (Nat × Instr × Nat) := [(0, .iload_n 2, 1), (1, .ifCond .eq 22, 3), (4, .aload_n 0, 1), (5, .getfield 63, 3), (8, .istore_n 3, 1), (9, .aload_n 0, 1), (10, .iconst 1, 1), (11, .bipush 7, 2), (13, .iload_n 1, 1), (14, .invokevirtual 141, 3), (17, .pop, 1), (18, .aload_n 0, 1), (19, .iload_n 3, 1), (20, .putfield 69, 3), (23, .aload_n 0, 1), (24, .getfield 16, 3), (27, .aload_n 0, 1), (28, .getfield 9, 3), (31, .invokestatic 75, 3), (34, .aload_n 0, 1), (35, .iload_n 2, 1), (36, .ifCond .eq 7, 3), (39, .iconst 3, 1), (40, .goto 4, 3), (43, .iconst 2, 1), (44, .putfield 56, 3), (47, .iconst 0, 1), (48, .ireturn, 1)]
set_option maxRecDepth 100000 in
theorem eX12_failCommand : am_dec cX12_failCommand tX12_failCommand := am_dec_of (by decide +kernel)
def tX12_execute : List (Nat × Instr × Nat) := [(0, .aload_n 0, 1), (1, .invokevirtual 380, 3), (4, .istore_n 1, 1), (5, .aload_n 0, 1), (6, .getfield 273, 3), (9, .istore_n 2, 1), (10, .aload_n 0, 1), (11, .iconst 0, 1), (12, .putfield 273, 3), (15, .aload_n 0, 1), (16, .getfield 276, 3), (19, .ifCond .eq 18, 3), (22, .aload_n 0, 1), (23, .aload_n 0, 1), (24, .getfield 279, 3), (27, .putfield 52, 3), (30, .aload_n 0, 1), (31, .iconst 1, 1), (32, .putfield 56, 3), (35, .iconst 0, 1), (36, .ireturn, 1), (37, .aload_n 0, 1), (38, .iload_n 2, 1), (39, .putfield 273, 3), (42, .aload_n 0, 1), (43, .getfield 9, 3), (46, .aload_n 0, 1), (47, .getfield 16, 3), (50, .invokestatic 75, 3), (53, .aload_n 0, 1), (54, .iconst 1, 1), (55, .putfield 79, 3), (58, .aload_n 0, 1), (59, .iconst 0, 1), (60, .putfield 279, 3), (63, .iconst 0, 1), (64, .istore_n 3, 1), (65, .iconst 0, 1), (66, .istore 4, 2), (68, .aload_n 0, 1), (69, .iconst 0, 1), (70, .putfield 56, 3), (73, .iload 4, 2), (75, .iload_n 1, 1), (76, .if_icmp .ge 35, 3), (79, .aload_n 0, 1), (80, .getfield 56, 3), (83, .ifCond .ne 28, 3), (86, .aload_n 0, 1), (87, .invokevirtual 346, 3), (90, .aload_n 0, 1), (91, .dup, 1), (92, .getfield 279, 3), (95, .iconst 1, 1), (96, .iadd, 1), (97, .putfield 279, 3), (100, .aload_n 0, 1), (101, .invokevirtual 383, 3), (104, .istore_n 3, 1), (105, .iinc 4 1, 3), (108, .goto (-35), 3), (111, .aload_n 0, 1), (112, .iconst 0, 1), (113, .putfield 79, 3), (116, .aload_n 0, 1), (117, .iconst 0, 1), (118, .putfield 273, 3), (121, .aload_n 0, 1), (122, .getfield 56, 3), (125, .ifCond .le 25, 3), (128, .aload_n 0, 1), (129, .iload 4, 2), (131, .iconst 1, 1), (132, .isub, 1), (133, .aload_n 0, 1), (134, .getfield 56, 3), (137, .iload_n 3, 1), (138, .if_icmp .ne 7, 3), (141, .iconst 1, 1), (142, .goto 4, 3), (145, .iconst 0, 1), (146, .invokevirtual 386, 3), (149, .ireturn, 1), (150, .aload_n 0, 1), (151, .aload_n 0, 1), (152, .getfield 16, 3), (155, .invokevirtual 83, 3), (158, .iload_n 1, 1), (159, .ireturn, 1)]
set_option maxRecDepth 100000 in
theorem eX12_execute : am_dec cX12_execute tX12_execute := am_dec_of (by decide +kernel)
def tX12_syntaxErrorOffset : List (Nat × Instr × Nat) := [(0, .aload_n 0, 1), (1, .iconst 1, 1), (2, .aload_n 0, 1), (3, .getfield 52, 3), (6, .ifCond .ge 7, 3), (9, .iconst 1, 1), (10, .goto 4, 3), (13, .iconst 0, 1), (14, .invokevirtual 137, 3), (17, .ifCond .eq 7, 3), (20, .iconst 0, 1), (21, .goto 7, 3), (24, .aload_n 0, 1), (25, .getfield 52, 3), (28, .ireturn, 1)]
set_option maxRecDepth 100000 in
theorem eX12_syntaxErrorOffset : am_dec cX12_syntaxErrorOffset tX12_syntaxErrorOffset := am_dec_of (by decide +kernel)
def tX12_rejectionReason : List (Nat × Instr × Nat) := [(0, .aload_n 0, 1), (1, .iconst 1, 1), (2, .aload_n 0, 1), (3, .getfield 63, 3), (6, .ifCond .ne 7, 3), (9, .iconst 1, 1), (10, .goto 4, 3), (13, .iconst 0, 1), (14, .invokevirtual 137, 3), (17, .ifCond .eq 7, 3), (20, .iconst 0, 1), (21, .goto 7, 3), (24, .aload_n 0, 1), (25, .getfield 63, 3), (28, .ireturn, 1)]
set_option maxRecDepth 100000 in
theorem eX12_rejectionReason : am_dec cX12_rejectionReason tX12_rejectionReason := am_dec_of (by decide +kernel)
def tX12_rejectionDetail : List (Nat × Instr × Nat) := [(0, .aload_n 0, 1), (1, .iconst 1, 1), (2, .aload_n 0, 1), (3, .getfield 63, 3), (6, .ifCond .ne 7, 3), (9, .iconst 1, 1), (10, .goto 4, 3), (13, .iconst 0, 1), (14, .invokevirtual 137, 3), (17, .ifCond .eq 7, 3), (20, .iconst 0, 1), (21, .goto 7, 3), (24, .aload_n 0, 1), (25, .getfield 66, 3), (28, .ireturn, 1)]
set_option maxRecDepth 100000 in
theorem eX12_rejectionDetail : am_dec cX12_rejectionDetail tX12_rejectionDetail := am_dec_of (by decide +kernel)
def tX12_causeReason : List (Nat × Instr × Nat) := [(0, .aload_n 0, 1), (1, .iconst 1, 1), (2, .aload_n 0, 1), (3, .getfield 69, 3), (6, .ifCond .ne 7, 3), (9, .iconst 1, 1), (10, .goto 4, 3), (13, .iconst 0, 1), (14, .invokevirtual 137, 3), (17, .ifCond .eq 7, 3), (20, .iconst 0, 1), (21, .goto 7, 3), (24, .aload_n 0, 1), (25, .getfield 69, 3), (28, .ireturn, 1)]
set_option maxRecDepth 100000 in
theorem eX12_causeReason : am_dec cX12_causeReason tX12_causeReason := am_dec_of (by decide +kernel)
def tX12_undo : List (Nat × Instr × Nat) := [(0, .aload_n 0, 1), (1, .iconst 1, 1), (2, .aload_n 0, 1), (3, .getfield 72, 3), (6, .ifCond .ne 7, 3), (9, .iconst 1, 1), (10, .goto 4, 3), (13, .iconst 0, 1), (14, .invokevirtual 137, 3), (17, .ifCond .eq 5, 3), (20, .iconst 0, 1), (21, .ireturn, 1), (22, .aload_n 0, 1), (23, .dup, 1), (24, .getfield 72, 3), (27, .iconst 1, 1), (28, .isub, 1), (29, .putfield 72, 3), (32, .aload_n 0, 1), (33, .getfield 24, 3), (36, .aload_n 0, 1), (37, .getfield 72, 3), (40, .aaload, 1), (41, .aload_n 0, 1), (42, .getfield 9, 3), (45, .invokestatic 75, 3), (48, .aload_n 0, 1), (49, .getfield 72, 3), (52, .ireturn, 1)]
set_option maxRecDepth 100000 in
theorem eX12_undo : am_dec cX12_undo tX12_undo := am_dec_of (by decide +kernel)
def tX12_saveSnapshot : List (Nat × Instr × Nat) := [(0, .aload_n 0, 1), (1, .iconst 0, 1), (2, .putfield 56, 3), (5, .aload_n 0, 1), (6, .iconst 1, 1), (7, .putfield 389, 3), (10, .aload_n 0, 1), (11, .getfield 9, 3), (14, .aload_n 0, 1), (15, .getfield 13, 3), (18, .invokestatic 75, 3), (21, .aload_n 0, 1), (22, .getfield 9, 3), (25, .iconst 0, 1), (26, .iaload, 1), (27, .ireturn, 1)]
set_option maxRecDepth 100000 in
theorem eX12_saveSnapshot : am_dec cX12_saveSnapshot tX12_saveSnapshot := am_dec_of (by decide +kernel)
def tX12_restoreSnapshot : List (Nat × Instr × Nat) := [(0, .aload_n 0, 1), (1, .iconst 1, 1), (2, .aload_n 0, 1), (3, .getfield 389, 3), (6, .ifCond .ne 7, 3), (9, .iconst 1, 1), (10, .goto 4, 3), (13, .iconst 0, 1), (14, .invokevirtual 137, 3), (17, .ifCond .eq 5, 3), (20, .iconst 0, 1), (21, .ireturn, 1), (22, .aload_n 0, 1), (23, .getfield 13, 3), (26, .aload_n 0, 1), (27, .getfield 9, 3), (30, .invokestatic 75, 3), (33, .aload_n 0, 1), (34, .iconst 0, 1), (35, .putfield 72, 3), (38, .aload_n 0, 1), (39, .getfield 9, 3), (42, .iconst 0, 1), (43, .iaload, 1), (44, .ireturn, 1)]
set_option maxRecDepth 100000 in
theorem eX12_restoreSnapshot : am_dec cX12_restoreSnapshot tX12_restoreSnapshot := am_dec_of (by decide +kernel)
def tJ6_bitCount_0f7a4 : List (Nat × Instr × Nat) := [(0, .iload_n 0, 1), (1, .iload_n 0, 1), (2, .iconst 1, 1), (3, .iushr, 1), (4, .ldc_w 265, 3), (7, .iand, 1), (8, .isub, 1), (9, .istore_n 0, 1), (10, .iload_n 0, 1), (11, .ldc_w 266, 3), (14, .iand, 1), (15, .iload_n 0, 1), (16, .iconst 2, 1), (17, .iushr, 1), (18, .ldc_w 266, 3), (21, .iand, 1), (22, .iadd, 1), (23, .istore_n 0, 1), (24, .iload_n 0, 1), (25, .iload_n 0, 1), (26, .iconst 4, 1), (27, .iushr, 1), (28, .iadd, 1), (29, .ldc_w 267, 3), (32, .iand, 1), (33, .istore_n 0, 1), (34, .iload_n 0, 1), (35, .iload_n 0, 1), (36, .bipush 8, 2), (38, .iushr, 1), (39, .iadd, 1), (40, .istore_n 0, 1), (41, .iload_n 0, 1), (42, .iload_n 0, 1), (43, .bipush 16, 2), (45, .iushr, 1), (46, .iadd, 1), (47, .istore_n 0, 1), (48, .iload_n 0, 1), (49, .bipush 63, 2), (51, .iand, 1), (52, .ireturn, 1)]
set_option maxRecDepth 100000 in
theorem eJ6_bitCount_0f7a4 : am_dec cJ6_bitCount_0f7a4 tJ6_bitCount_0f7a4 := am_dec_of (by decide +kernel)
def tL_addField : List (Nat × Instr × Nat) := [(0, .aload_n 2, 1), (1, .iconst 0, 1), (2, .aload_n 0, 1), (3, .iload_n 1, 1), (4, .invokevirtual 7, 3), (7, .i2l, 1), (8, .lastore, 1), (9, .goto 9, 3), (12, .astore_n 3, 1), (13, .iconst 1, 1), (14, .ireturn, 1), (15, .astore_n 3, 1), (16, .iconst 2, 1), (17, .ireturn, 1), (18, .iconst 0, 1), (19, .ireturn, 1)]
set_option maxRecDepth 100000 in
theorem eL_addField : am_dec cL_addField tL_addField := am_dec_of (by decide +kernel)
def tL_setShield : List (Nat × Instr × Nat) := [(0, .aload_n 3, 1), (1, .iconst 0, 1), (2, .aload_n 0, 1), (3, .iload_n 1, 1), (4, .iload_n 2, 1), (5, .invokevirtual 17, 3), (8, .i2l, 1), (9, .lastore, 1), (10, .goto 11, 3), (13, .astore 4, 2), (15, .iconst 1, 1), (16, .ireturn, 1), (17, .astore 4, 2), (19, .iconst 2, 1), (20, .ireturn, 1), (21, .iconst 0, 1), (22, .ireturn, 1)]
set_option maxRecDepth 100000 in
theorem eL_setShield : am_dec cL_setShield tL_setShield := am_dec_of (by decide +kernel)
def tL_addPath : List (Nat × Instr × Nat) := [(0, .aload 5, 2), (2, .iconst 0, 1), (3, .aload_n 0, 1), (4, .iload_n 1, 1), (5, .iload_n 2, 1), (6, .iload_n 3, 1), (7, .iload 4, 2), (9, .invokevirtual 23, 3), (12, .i2l, 1), (13, .lastore, 1), (14, .goto 15, 3), (17, .astore 6, 2), (19, .iconst 1, 1), (20, .ireturn, 1), (21, .astore 6, 2), (23, .iconst 2, 1), (24, .ireturn, 1), (25, .astore 6, 2), (27, .iconst 3, 1), (28, .ireturn, 1), (29, .iconst 0, 1), (30, .ireturn, 1)]
set_option maxRecDepth 100000 in
theorem eL_addPath : am_dec cL_addPath tL_addPath := am_dec_of (by decide +kernel)
def tL_setGust : List (Nat × Instr × Nat) := [(0, .aload_n 3, 1), (1, .iconst 0, 1), (2, .aload_n 0, 1), (3, .iload_n 1, 1), (4, .iload_n 2, 1), (5, .invokevirtual 27, 3), (8, .i2l, 1), (9, .lastore, 1), (10, .goto 11, 3), (13, .astore 4, 2), (15, .iconst 1, 1), (16, .ireturn, 1), (17, .astore 4, 2), (19, .iconst 2, 1), (20, .ireturn, 1), (21, .iconst 0, 1), (22, .ireturn, 1)]
set_option maxRecDepth 100000 in
theorem eL_setGust : am_dec cL_setGust tL_setGust := am_dec_of (by decide +kernel)
def tL_setBlocked : List (Nat × Instr × Nat) := [(0, .aload_n 3, 1), (1, .iconst 0, 1), (2, .aload_n 0, 1), (3, .iload_n 1, 1), (4, .iload_n 2, 1), (5, .invokevirtual 30, 3), (8, .i2l, 1), (9, .lastore, 1), (10, .goto 11, 3), (13, .astore 4, 2), (15, .iconst 1, 1), (16, .ireturn, 1), (17, .astore 4, 2), (19, .iconst 2, 1), (20, .ireturn, 1), (21, .iconst 0, 1), (22, .ireturn, 1)]
set_option maxRecDepth 100000 in
theorem eL_setBlocked : am_dec cL_setBlocked tL_setBlocked := am_dec_of (by decide +kernel)
def tL_shieldOf : List (Nat × Instr × Nat) := [(0, .aload_n 2, 1), (1, .iconst 0, 1), (2, .aload_n 0, 1), (3, .iload_n 1, 1), (4, .invokevirtual 34, 3), (7, .i2l, 1), (8, .lastore, 1), (9, .goto 6, 3), (12, .astore_n 3, 1), (13, .iconst 1, 1), (14, .ireturn, 1), (15, .iconst 0, 1), (16, .ireturn, 1)]
set_option maxRecDepth 100000 in
theorem eL_shieldOf : am_dec cL_shieldOf tL_shieldOf := am_dec_of (by decide +kernel)
def tL_firstOf : List (Nat × Instr × Nat) := [(0, .aload_n 2, 1), (1, .iconst 0, 1), (2, .aload_n 0, 1), (3, .iload_n 1, 1), (4, .invokevirtual 37, 3), (7, .i2l, 1), (8, .lastore, 1), (9, .goto 6, 3), (12, .astore_n 3, 1), (13, .iconst 1, 1), (14, .ireturn, 1), (15, .iconst 0, 1), (16, .ireturn, 1)]
set_option maxRecDepth 100000 in
theorem eL_firstOf : am_dec cL_firstOf tL_firstOf := am_dec_of (by decide +kernel)
def tL_secondOf : List (Nat × Instr × Nat) := [(0, .aload_n 2, 1), (1, .iconst 0, 1), (2, .aload_n 0, 1), (3, .iload_n 1, 1), (4, .invokevirtual 40, 3), (7, .i2l, 1), (8, .lastore, 1), (9, .goto 6, 3), (12, .astore_n 3, 1), (13, .iconst 1, 1), (14, .ireturn, 1), (15, .iconst 0, 1), (16, .ireturn, 1)]
set_option maxRecDepth 100000 in
theorem eL_secondOf : am_dec cL_secondOf tL_secondOf := am_dec_of (by decide +kernel)
def tL_costOf : List (Nat × Instr × Nat) := [(0, .aload_n 2, 1), (1, .iconst 0, 1), (2, .aload_n 0, 1), (3, .iload_n 1, 1), (4, .invokevirtual 43, 3), (7, .i2l, 1), (8, .lastore, 1), (9, .goto 6, 3), (12, .astore_n 3, 1), (13, .iconst 1, 1), (14, .ireturn, 1), (15, .iconst 0, 1), (16, .ireturn, 1)]
set_option maxRecDepth 100000 in
theorem eL_costOf : am_dec cL_costOf tL_costOf := am_dec_of (by decide +kernel)
def tL_gustOf : List (Nat × Instr × Nat) := [(0, .aload_n 2, 1), (1, .iconst 0, 1), (2, .aload_n 0, 1), (3, .iload_n 1, 1), (4, .invokevirtual 46, 3), (7, .i2l, 1), (8, .lastore, 1), (9, .goto 6, 3), (12, .astore_n 3, 1), (13, .iconst 1, 1), (14, .ireturn, 1), (15, .iconst 0, 1), (16, .ireturn, 1)]
set_option maxRecDepth 100000 in
theorem eL_gustOf : am_dec cL_gustOf tL_gustOf := am_dec_of (by decide +kernel)
def tL_isBlocked : List (Nat × Instr × Nat) := [(0, .aload_n 2, 1), (1, .iconst 0, 1), (2, .aload_n 0, 1), (3, .iload_n 1, 1), (4, .invokevirtual 49, 3), (7, .ifCond .eq 7, 3), (10, .lconst 1, 1), (11, .goto 4, 3), (14, .lconst 0, 1), (15, .lastore, 1), (16, .goto 6, 3), (19, .astore_n 3, 1), (20, .iconst 1, 1), (21, .ireturn, 1), (22, .iconst 0, 1), (23, .ireturn, 1)]
set_option maxRecDepth 100000 in
theorem eL_isBlocked : am_dec cL_isBlocked tL_isBlocked := am_dec_of (by decide +kernel)
def tL_isConnected : List (Nat × Instr × Nat) := [(0, .aload_n 3, 1), (1, .iconst 0, 1), (2, .aload_n 0, 1), (3, .iload_n 1, 1), (4, .iload_n 2, 1), (5, .invokevirtual 53, 3), (8, .ifCond .eq 7, 3), (11, .lconst 1, 1), (12, .goto 4, 3), (15, .lconst 0, 1), (16, .lastore, 1), (17, .goto 7, 3), (20, .astore 4, 2), (22, .iconst 1, 1), (23, .ireturn, 1), (24, .iconst 0, 1), (25, .ireturn, 1)]
set_option maxRecDepth 100000 in
theorem eL_isConnected : am_dec cL_isConnected tL_isConnected := am_dec_of (by decide +kernel)
def tL_wayCost : List (Nat × Instr × Nat) := [(0, .aload_n 3, 1), (1, .iconst 0, 1), (2, .aload_n 0, 1), (3, .iload_n 1, 1), (4, .iload_n 2, 1), (5, .invokevirtual 57, 3), (8, .i2l, 1), (9, .lastore, 1), (10, .goto 11, 3), (13, .astore 4, 2), (15, .iconst 1, 1), (16, .ireturn, 1), (17, .astore 4, 2), (19, .iconst 2, 1), (20, .ireturn, 1), (21, .iconst 0, 1), (22, .ireturn, 1)]
set_option maxRecDepth 100000 in
theorem eL_wayCost : am_dec cL_wayCost tL_wayCost := am_dec_of (by decide +kernel)
def tL_wayCostByRounds : List (Nat × Instr × Nat) := [(0, .aload_n 3, 1), (1, .iconst 0, 1), (2, .aload_n 0, 1), (3, .iload_n 1, 1), (4, .iload_n 2, 1), (5, .invokevirtual 62, 3), (8, .i2l, 1), (9, .lastore, 1), (10, .goto 11, 3), (13, .astore 4, 2), (15, .iconst 1, 1), (16, .ireturn, 1), (17, .astore 4, 2), (19, .iconst 2, 1), (20, .ireturn, 1), (21, .iconst 0, 1), (22, .ireturn, 1)]
set_option maxRecDepth 100000 in
theorem eL_wayCostByRounds : am_dec cL_wayCostByRounds tL_wayCostByRounds := am_dec_of (by decide +kernel)
def tL_disjointWays : List (Nat × Instr × Nat) := [(0, .aload_n 3, 1), (1, .iconst 0, 1), (2, .aload_n 0, 1), (3, .iload_n 1, 1), (4, .iload_n 2, 1), (5, .invokevirtual 65, 3), (8, .i2l, 1), (9, .lastore, 1), (10, .goto 11, 3), (13, .astore 4, 2), (15, .iconst 1, 1), (16, .ireturn, 1), (17, .astore 4, 2), (19, .iconst 2, 1), (20, .ireturn, 1), (21, .iconst 0, 1), (22, .ireturn, 1)]
set_option maxRecDepth 100000 in
theorem eL_disjointWays : am_dec cL_disjointWays tL_disjointWays := am_dec_of (by decide +kernel)
def tL_smallestCut : List (Nat × Instr × Nat) := [(0, .aload_n 3, 1), (1, .iconst 0, 1), (2, .aload_n 0, 1), (3, .iload_n 1, 1), (4, .iload_n 2, 1), (5, .invokevirtual 68, 3), (8, .i2l, 1), (9, .lastore, 1), (10, .goto 11, 3), (13, .astore 4, 2), (15, .iconst 1, 1), (16, .ireturn, 1), (17, .astore 4, 2), (19, .iconst 2, 1), (20, .ireturn, 1), (21, .iconst 0, 1), (22, .ireturn, 1)]
set_option maxRecDepth 100000 in
theorem eL_smallestCut : am_dec cL_smallestCut tL_smallestCut := am_dec_of (by decide +kernel)
def tL_isBridge : List (Nat × Instr × Nat) := [(0, .aload_n 2, 1), (1, .iconst 0, 1), (2, .aload_n 0, 1), (3, .iload_n 1, 1), (4, .invokevirtual 71, 3), (7, .ifCond .eq 7, 3), (10, .lconst 1, 1), (11, .goto 4, 3), (14, .lconst 0, 1), (15, .lastore, 1), (16, .goto 6, 3), (19, .astore_n 3, 1), (20, .iconst 1, 1), (21, .ireturn, 1), (22, .iconst 0, 1), (23, .ireturn, 1)]
set_option maxRecDepth 100000 in
theorem eL_isBridge : am_dec cL_isBridge tL_isBridge := am_dec_of (by decide +kernel)
def tL_treeCost : List (Nat × Instr × Nat) := [(0, .aload_n 2, 1), (1, .iconst 0, 1), (2, .aload_n 0, 1), (3, .iload_n 1, 1), (4, .invokevirtual 74, 3), (7, .i2l, 1), (8, .lastore, 1), (9, .goto 6, 3), (12, .astore_n 3, 1), (13, .iconst 1, 1), (14, .ireturn, 1), (15, .iconst 0, 1), (16, .ireturn, 1)]
set_option maxRecDepth 100000 in
theorem eL_treeCost : am_dec cL_treeCost tL_treeCost := am_dec_of (by decide +kernel)
def tL_treeCostByGrowing : List (Nat × Instr × Nat) := [(0, .aload_n 2, 1), (1, .iconst 0, 1), (2, .aload_n 0, 1), (3, .iload_n 1, 1), (4, .invokevirtual 77, 3), (7, .i2l, 1), (8, .lastore, 1), (9, .goto 6, 3), (12, .astore_n 3, 1), (13, .iconst 1, 1), (14, .ireturn, 1), (15, .iconst 0, 1), (16, .ireturn, 1)]
set_option maxRecDepth 100000 in
theorem eL_treeCostByGrowing : am_dec cL_treeCostByGrowing tL_treeCostByGrowing := am_dec_of (by decide +kernel)
def tL_isInTree : List (Nat × Instr × Nat) := [(0, .aload_n 3, 1), (1, .iconst 0, 1), (2, .aload_n 0, 1), (3, .iload_n 1, 1), (4, .iload_n 2, 1), (5, .invokevirtual 80, 3), (8, .ifCond .eq 7, 3), (11, .lconst 1, 1), (12, .goto 4, 3), (15, .lconst 0, 1), (16, .lastore, 1), (17, .goto 7, 3), (20, .astore 4, 2), (22, .iconst 1, 1), (23, .ireturn, 1), (24, .iconst 0, 1), (25, .ireturn, 1)]
set_option maxRecDepth 100000 in
theorem eL_isInTree : am_dec cL_isInTree tL_isInTree := am_dec_of (by decide +kernel)
def tL_parentIn : List (Nat × Instr × Nat) := [(0, .aload_n 3, 1), (1, .iconst 0, 1), (2, .aload_n 0, 1), (3, .iload_n 1, 1), (4, .iload_n 2, 1), (5, .invokevirtual 83, 3), (8, .i2l, 1), (9, .lastore, 1), (10, .goto 11, 3), (13, .astore 4, 2), (15, .iconst 1, 1), (16, .ireturn, 1), (17, .astore 4, 2), (19, .iconst 2, 1), (20, .ireturn, 1), (21, .iconst 0, 1), (22, .ireturn, 1)]
set_option maxRecDepth 100000 in
theorem eL_parentIn : am_dec cL_parentIn tL_parentIn := am_dec_of (by decide +kernel)
def tL_reachChance : List (Nat × Instr × Nat) := [(0, .aload_n 3, 1), (1, .iconst 0, 1), (2, .aload_n 0, 1), (3, .iload_n 1, 1), (4, .iload_n 2, 1), (5, .invokevirtual 86, 3), (8, .f2d, 1), (9, .dastore, 1), (10, .goto 11, 3), (13, .astore 4, 2), (15, .iconst 1, 1), (16, .ireturn, 1), (17, .astore 4, 2), (19, .iconst 2, 1), (20, .ireturn, 1), (21, .iconst 0, 1), (22, .ireturn, 1)]
set_option maxRecDepth 100000 in
theorem eL_reachChance : am_dec cL_reachChance tL_reachChance := am_dec_of (by decide +kernel)
def tL_setSeed : List (Nat × Instr × Nat) := [(0, .aload_n 2, 1), (1, .iconst 0, 1), (2, .aload_n 0, 1), (3, .iload_n 1, 1), (4, .invokevirtual 90, 3), (7, .i2l, 1), (8, .lastore, 1), (9, .goto 6, 3), (12, .astore_n 3, 1), (13, .iconst 1, 1), (14, .ireturn, 1), (15, .iconst 0, 1), (16, .ireturn, 1)]
set_option maxRecDepth 100000 in
theorem eL_setSeed : am_dec cL_setSeed tL_setSeed := am_dec_of (by decide +kernel)
def tL_startBroadcast : List (Nat × Instr × Nat) := [(0, .aload 4, 2), (2, .iconst 0, 1), (3, .aload_n 0, 1), (4, .iload_n 1, 1), (5, .iload_n 2, 1), (6, .iload_n 3, 1), (7, .invokevirtual 93, 3), (10, .i2l, 1), (11, .lastore, 1), (12, .goto 15, 3), (15, .astore 5, 2), (17, .iconst 1, 1), (18, .ireturn, 1), (19, .astore 5, 2), (21, .iconst 2, 1), (22, .ireturn, 1), (23, .astore 5, 2), (25, .iconst 3, 1), (26, .ireturn, 1), (27, .iconst 0, 1), (28, .ireturn, 1)]
set_option maxRecDepth 100000 in
theorem eL_startBroadcast : am_dec cL_startBroadcast tL_startBroadcast := am_dec_of (by decide +kernel)
def tL_wind : List (Nat × Instr × Nat) := [(0, .aload_n 1, 1), (1, .iconst 0, 1), (2, .aload_n 0, 1), (3, .invokevirtual 97, 3), (6, .i2l, 1), (7, .lastore, 1), (8, .goto 6, 3), (11, .astore_n 2, 1), (12, .iconst 1, 1), (13, .ireturn, 1), (14, .iconst 0, 1), (15, .ireturn, 1)]
set_option maxRecDepth 100000 in
theorem eL_wind : am_dec cL_wind tL_wind := am_dec_of (by decide +kernel)
def tL_windUntilEnd : List (Nat × Instr × Nat) := [(0, .aload_n 1, 1), (1, .iconst 0, 1), (2, .aload_n 0, 1), (3, .invokevirtual 101, 3), (6, .i2l, 1), (7, .lastore, 1), (8, .goto 6, 3), (11, .astore_n 2, 1), (12, .iconst 1, 1), (13, .ireturn, 1), (14, .iconst 0, 1), (15, .ireturn, 1)]
set_option maxRecDepth 100000 in
theorem eL_windUntilEnd : am_dec cL_windUntilEnd tL_windUntilEnd := am_dec_of (by decide +kernel)
def tL_abort : List (Nat × Instr × Nat) := [(0, .aload_n 1, 1), (1, .iconst 0, 1), (2, .aload_n 0, 1), (3, .invokevirtual 104, 3), (6, .i2l, 1), (7, .lastore, 1), (8, .goto 6, 3), (11, .astore_n 2, 1), (12, .iconst 1, 1), (13, .ireturn, 1), (14, .iconst 0, 1), (15, .ireturn, 1)]
set_option maxRecDepth 100000 in
theorem eL_abort : am_dec cL_abort tL_abort := am_dec_of (by decide +kernel)
def tL_source : List (Nat × Instr × Nat) := [(0, .aload_n 1, 1), (1, .iconst 0, 1), (2, .aload_n 0, 1), (3, .invokevirtual 107, 3), (6, .i2l, 1), (7, .lastore, 1), (8, .goto 6, 3), (11, .astore_n 2, 1), (12, .iconst 1, 1), (13, .ireturn, 1), (14, .iconst 0, 1), (15, .ireturn, 1)]
set_option maxRecDepth 100000 in
theorem eL_source : am_dec cL_source tL_source := am_dec_of (by decide +kernel)
def tL_hasPacket : List (Nat × Instr × Nat) := [(0, .aload_n 3, 1), (1, .iconst 0, 1), (2, .aload_n 0, 1), (3, .iload_n 1, 1), (4, .iload_n 2, 1), (5, .invokevirtual 110, 3), (8, .ifCond .eq 7, 3), (11, .lconst 1, 1), (12, .goto 4, 3), (15, .lconst 0, 1), (16, .lastore, 1), (17, .goto 11, 3), (20, .astore 4, 2), (22, .iconst 1, 1), (23, .ireturn, 1), (24, .astore 4, 2), (26, .iconst 2, 1), (27, .ireturn, 1), (28, .iconst 0, 1), (29, .ireturn, 1)]
set_option maxRecDepth 100000 in
theorem eL_hasPacket : am_dec cL_hasPacket tL_hasPacket := am_dec_of (by decide +kernel)
def tL_packetsOf : List (Nat × Instr × Nat) := [(0, .aload_n 2, 1), (1, .iconst 0, 1), (2, .aload_n 0, 1), (3, .iload_n 1, 1), (4, .invokevirtual 113, 3), (7, .i2l, 1), (8, .lastore, 1), (9, .goto 6, 3), (12, .astore_n 3, 1), (13, .iconst 1, 1), (14, .ireturn, 1), (15, .iconst 0, 1), (16, .ireturn, 1)]
set_option maxRecDepth 100000 in
theorem eL_packetsOf : am_dec cL_packetsOf tL_packetsOf := am_dec_of (by decide +kernel)
def tL_isCovered : List (Nat × Instr × Nat) := [(0, .aload_n 2, 1), (1, .iconst 0, 1), (2, .aload_n 0, 1), (3, .iload_n 1, 1), (4, .invokevirtual 116, 3), (7, .ifCond .eq 7, 3), (10, .lconst 1, 1), (11, .goto 4, 3), (14, .lconst 0, 1), (15, .lastore, 1), (16, .goto 9, 3), (19, .astore_n 3, 1), (20, .iconst 1, 1), (21, .ireturn, 1), (22, .astore_n 3, 1), (23, .iconst 2, 1), (24, .ireturn, 1), (25, .iconst 0, 1), (26, .ireturn, 1)]
set_option maxRecDepth 100000 in
theorem eL_isCovered : am_dec cL_isCovered tL_isCovered := am_dec_of (by decide +kernel)
def tL_windsLeft : List (Nat × Instr × Nat) := [(0, .aload_n 1, 1), (1, .iconst 0, 1), (2, .aload_n 0, 1), (3, .invokevirtual 119, 3), (6, .i2l, 1), (7, .lastore, 1), (8, .goto 6, 3), (11, .astore_n 2, 1), (12, .iconst 1, 1), (13, .ireturn, 1), (14, .iconst 0, 1), (15, .ireturn, 1)]
set_option maxRecDepth 100000 in
theorem eL_windsLeft : am_dec cL_windsLeft tL_windsLeft := am_dec_of (by decide +kernel)
def tL_energyLeft : List (Nat × Instr × Nat) := [(0, .aload_n 1, 1), (1, .iconst 0, 1), (2, .aload_n 0, 1), (3, .invokevirtual 122, 3), (6, .i2l, 1), (7, .lastore, 1), (8, .goto 6, 3), (11, .astore_n 2, 1), (12, .iconst 1, 1), (13, .ireturn, 1), (14, .iconst 0, 1), (15, .ireturn, 1)]
set_option maxRecDepth 100000 in
theorem eL_energyLeft : am_dec cL_energyLeft tL_energyLeft := am_dec_of (by decide +kernel)
def tL_useOf : List (Nat × Instr × Nat) := [(0, .aload_n 2, 1), (1, .iconst 0, 1), (2, .aload_n 0, 1), (3, .iload_n 1, 1), (4, .invokevirtual 125, 3), (7, .i2l, 1), (8, .lastore, 1), (9, .goto 6, 3), (12, .astore_n 3, 1), (13, .iconst 1, 1), (14, .ireturn, 1), (15, .iconst 0, 1), (16, .ireturn, 1)]
set_option maxRecDepth 100000 in
theorem eL_useOf : am_dec cL_useOf tL_useOf := am_dec_of (by decide +kernel)
def tL_fieldByPackets : List (Nat × Instr × Nat) := [(0, .aload_n 2, 1), (1, .iconst 0, 1), (2, .aload_n 0, 1), (3, .iload_n 1, 1), (4, .invokevirtual 128, 3), (7, .i2l, 1), (8, .lastore, 1), (9, .goto 6, 3), (12, .astore_n 3, 1), (13, .iconst 1, 1), (14, .ireturn, 1), (15, .iconst 0, 1), (16, .ireturn, 1)]
set_option maxRecDepth 100000 in
theorem eL_fieldByPackets : am_dec cL_fieldByPackets tL_fieldByPackets := am_dec_of (by decide +kernel)
def tL_pathByUse : List (Nat × Instr × Nat) := [(0, .aload_n 2, 1), (1, .iconst 0, 1), (2, .aload_n 0, 1), (3, .iload_n 1, 1), (4, .invokevirtual 131, 3), (7, .i2l, 1), (8, .lastore, 1), (9, .goto 6, 3), (12, .astore_n 3, 1), (13, .iconst 1, 1), (14, .ireturn, 1), (15, .iconst 0, 1), (16, .ireturn, 1)]
set_option maxRecDepth 100000 in
theorem eL_pathByUse : am_dec cL_pathByUse tL_pathByUse := am_dec_of (by decide +kernel)
def tL_meanEnergy : List (Nat × Instr × Nat) := [(0, .aload_n 1, 1), (1, .iconst 0, 1), (2, .aload_n 0, 1), (3, .invokevirtual 134, 3), (6, .dastore, 1), (7, .goto 6, 3), (10, .astore_n 2, 1), (11, .iconst 1, 1), (12, .ireturn, 1), (13, .iconst 0, 1), (14, .ireturn, 1)]
set_option maxRecDepth 100000 in
theorem eL_meanEnergy : am_dec cL_meanEnergy tL_meanEnergy := am_dec_of (by decide +kernel)
def tL_lossShare : List (Nat × Instr × Nat) := [(0, .aload_n 1, 1), (1, .iconst 0, 1), (2, .aload_n 0, 1), (3, .invokevirtual 140, 3), (6, .f2d, 1), (7, .dastore, 1), (8, .goto 6, 3), (11, .astore_n 2, 1), (12, .iconst 1, 1), (13, .ireturn, 1), (14, .iconst 0, 1), (15, .ireturn, 1)]
set_option maxRecDepth 100000 in
theorem eL_lossShare : am_dec cL_lossShare tL_lossShare := am_dec_of (by decide +kernel)
def tL_lossBits : List (Nat × Instr × Nat) := [(0, .aload_n 1, 1), (1, .iconst 0, 1), (2, .aload_n 0, 1), (3, .invokevirtual 144, 3), (6, .i2l, 1), (7, .lastore, 1), (8, .goto 6, 3), (11, .astore_n 2, 1), (12, .iconst 1, 1), (13, .ireturn, 1), (14, .iconst 0, 1), (15, .ireturn, 1)]
set_option maxRecDepth 100000 in
theorem eL_lossBits : am_dec cL_lossBits tL_lossBits := am_dec_of (by decide +kernel)
def tL_writeField : List (Nat × Instr × Nat) := [(0, .aload_n 2, 1), (1, .iconst 0, 1), (2, .aload_n 0, 1), (3, .iload_n 1, 1), (4, .invokevirtual 147, 3), (7, .i2l, 1), (8, .lastore, 1), (9, .goto 6, 3), (12, .astore_n 3, 1), (13, .iconst 1, 1), (14, .ireturn, 1), (15, .iconst 0, 1), (16, .ireturn, 1)]
set_option maxRecDepth 100000 in
theorem eL_writeField : am_dec cL_writeField tL_writeField := am_dec_of (by decide +kernel)
def tL_outputAt : List (Nat × Instr × Nat) := [(0, .aload_n 2, 1), (1, .iconst 0, 1), (2, .aload_n 0, 1), (3, .iload_n 1, 1), (4, .invokevirtual 150, 3), (7, .i2l, 1), (8, .lastore, 1), (9, .goto 6, 3), (12, .astore_n 3, 1), (13, .iconst 1, 1), (14, .ireturn, 1), (15, .iconst 0, 1), (16, .ireturn, 1)]
set_option maxRecDepth 100000 in
theorem eL_outputAt : am_dec cL_outputAt tL_outputAt := am_dec_of (by decide +kernel)
def tL_appendInput : List (Nat × Instr × Nat) := [(0, .aload_n 2, 1), (1, .iconst 0, 1), (2, .aload_n 0, 1), (3, .iload_n 1, 1), (4, .invokevirtual 154, 3), (7, .i2l, 1), (8, .lastore, 1), (9, .goto 9, 3), (12, .astore_n 3, 1), (13, .iconst 1, 1), (14, .ireturn, 1), (15, .astore_n 3, 1), (16, .iconst 2, 1), (17, .ireturn, 1), (18, .iconst 0, 1), (19, .ireturn, 1)]
set_option maxRecDepth 100000 in
theorem eL_appendInput : am_dec cL_appendInput tL_appendInput := am_dec_of (by decide +kernel)
def tL_execute : List (Nat × Instr × Nat) := [(0, .aload_n 1, 1), (1, .iconst 0, 1), (2, .aload_n 0, 1), (3, .invokevirtual 160, 3), (6, .i2l, 1), (7, .lastore, 1), (8, .goto 12, 3), (11, .astore_n 2, 1), (12, .iconst 1, 1), (13, .ireturn, 1), (14, .astore_n 2, 1), (15, .iconst 2, 1), (16, .ireturn, 1), (17, .astore_n 2, 1), (18, .iconst 3, 1), (19, .ireturn, 1), (20, .iconst 0, 1), (21, .ireturn, 1)]
set_option maxRecDepth 100000 in
theorem eL_execute : am_dec cL_execute tL_execute := am_dec_of (by decide +kernel)
def tL_syntaxErrorOffset : List (Nat × Instr × Nat) := [(0, .aload_n 1, 1), (1, .iconst 0, 1), (2, .aload_n 0, 1), (3, .invokevirtual 163, 3), (6, .i2l, 1), (7, .lastore, 1), (8, .goto 6, 3), (11, .astore_n 2, 1), (12, .iconst 1, 1), (13, .ireturn, 1), (14, .iconst 0, 1), (15, .ireturn, 1)]
set_option maxRecDepth 100000 in
theorem eL_syntaxErrorOffset : am_dec cL_syntaxErrorOffset tL_syntaxErrorOffset := am_dec_of (by decide +kernel)
def tL_rejectionReason : List (Nat × Instr × Nat) := [(0, .aload_n 1, 1), (1, .iconst 0, 1), (2, .aload_n 0, 1), (3, .invokevirtual 166, 3), (6, .i2l, 1), (7, .lastore, 1), (8, .goto 6, 3), (11, .astore_n 2, 1), (12, .iconst 1, 1), (13, .ireturn, 1), (14, .iconst 0, 1), (15, .ireturn, 1)]
set_option maxRecDepth 100000 in
theorem eL_rejectionReason : am_dec cL_rejectionReason tL_rejectionReason := am_dec_of (by decide +kernel)
def tL_rejectionDetail : List (Nat × Instr × Nat) := [(0, .aload_n 1, 1), (1, .iconst 0, 1), (2, .aload_n 0, 1), (3, .invokevirtual 169, 3), (6, .i2l, 1), (7, .lastore, 1), (8, .goto 6, 3), (11, .astore_n 2, 1), (12, .iconst 1, 1), (13, .ireturn, 1), (14, .iconst 0, 1), (15, .ireturn, 1)]
set_option maxRecDepth 100000 in
theorem eL_rejectionDetail : am_dec cL_rejectionDetail tL_rejectionDetail := am_dec_of (by decide +kernel)
def tL_causeReason : List (Nat × Instr × Nat) := [(0, .aload_n 1, 1), (1, .iconst 0, 1), (2, .aload_n 0, 1), (3, .invokevirtual 172, 3), (6, .i2l, 1), (7, .lastore, 1), (8, .goto 6, 3), (11, .astore_n 2, 1), (12, .iconst 1, 1), (13, .ireturn, 1), (14, .iconst 0, 1), (15, .ireturn, 1)]
set_option maxRecDepth 100000 in
theorem eL_causeReason : am_dec cL_causeReason tL_causeReason := am_dec_of (by decide +kernel)
def tL_undo : List (Nat × Instr × Nat) := [(0, .aload_n 1, 1), (1, .iconst 0, 1), (2, .aload_n 0, 1), (3, .invokevirtual 175, 3), (6, .i2l, 1), (7, .lastore, 1), (8, .goto 6, 3), (11, .astore_n 2, 1), (12, .iconst 1, 1), (13, .ireturn, 1), (14, .iconst 0, 1), (15, .ireturn, 1)]
set_option maxRecDepth 100000 in
theorem eL_undo : am_dec cL_undo tL_undo := am_dec_of (by decide +kernel)
def tL_restoreSnapshot : List (Nat × Instr × Nat) := [(0, .aload_n 1, 1), (1, .iconst 0, 1), (2, .aload_n 0, 1), (3, .invokevirtual 178, 3), (6, .i2l, 1), (7, .lastore, 1), (8, .goto 6, 3), (11, .astore_n 2, 1), (12, .iconst 1, 1), (13, .ireturn, 1), (14, .iconst 0, 1), (15, .ireturn, 1)]
set_option maxRecDepth 100000 in
theorem eL_restoreSnapshot : am_dec cL_restoreSnapshot tL_restoreSnapshot := am_dec_of (by decide +kernel)
def tL_law : List (Nat × Instr × Nat) := [(0, .new 8, 3), (3, .dup, 1), (4, .invokespecial 181, 3), (7, .astore_n 1, 1), (8, .new 182, 3), (11, .dup, 1), (12, .invokespecial 184, 3), (15, .astore_n 2, 1), (16, .iconst 1, 1), (17, .newarray .long, 2), (19, .astore_n 3, 1), (20, .iconst 1, 1), (21, .newarray .double, 2), (23, .astore 4, 2), (25, .iconst 0, 1), (26, .istore 5, 2), (28, .iload 5, 2), (30, .aload_n 0, 1), (31, .arraylength, 1), (32, .iconst 5, 1), (33, .isub, 1), (34, .if_icmp .gt 3380, 3), (37, .aload_n 0, 1), (38, .iload 5, 2), (40, .iaload, 1), (41, .bipush 63, 2), (43, .iand, 1), (44, .tableswitch 3364 0 63 #[272, 328, 396, 488, 556, 640, 653, 666, 722, 778, 834, 890, 946, 1009, 1022, 1097, 1165, 1233, 1301, 1369, 1432, 1445, 1458, 1514, 1570, 1645, 1713, 1803, 1859, 1955, 1999, 2043, 2087, 2100, 2144, 2219, 2275, 2338, 2351, 2395, 2439, 2452, 2465, 2478, 2491, 2504, 2517, 2573, 2629, 2685, 2750, 2816, 2860, 2873, 2929, 2985, 3043, 3087, 3131, 3175, 3219, 3263, 3307, 3320], 272), (316, .aload_n 1, 1), (317, .aload_n 0, 1), (318, .iload 5, 2), (320, .iconst 1, 1), (321, .iadd, 1), (322, .iaload, 1), (323, .aload_n 3, 1), (324, .invokestatic 185, 3), (327, .istore 6, 2), (329, .aload_n 2, 1), (330, .aload_n 0, 1), (331, .iload 5, 2), (333, .iconst 1, 1), (334, .iadd, 1), (335, .iaload, 1), (336, .invokevirtual 190, 3), (339, .istore 7, 2), (341, .aload_n 2, 1), (342, .invokevirtual 191, 3), (345, .iload 6, 2), (347, .if_icmp .eq 5, 3), (350, .iconst 0, 1), (351, .ireturn, 1), (352, .iload 6, 2), (354, .ifCond .ne 15, 3), (357, .aload_n 3, 1), (358, .iconst 0, 1), (359, .laload, 1), (360, .iload 7, 2), (362, .i2l, 1), (363, .lcmp, 1), (364, .ifCond .eq 5, 3), (367, .iconst 0, 1), (368, .ireturn, 1), (369, .goto 3039, 3), (372, .aload_n 1, 1), (373, .aload_n 0, 1), (374, .iload 5, 2), (376, .iconst 1, 1), (377, .iadd, 1), (378, .iaload, 1), (379, .aload_n 0, 1), (380, .iload 5, 2), (382, .iconst 2, 1), (383, .iadd, 1), (384, .iaload, 1), (385, .aload_n 3, 1), (386, .invokestatic 194, 3), (389, .istore 6, 2), (391, .aload_n 2, 1), (392, .aload_n 0, 1), (393, .iload 5, 2), (395, .iconst 1, 1), (396, .iadd, 1), (397, .iaload, 1), (398, .aload_n 0, 1), (399, .iload 5, 2), (401, .iconst 2, 1), (402, .iadd, 1), (403, .iaload, 1), (404, .invokevirtual 197, 3), (407, .istore 7, 2), (409, .aload_n 2, 1), (410, .invokevirtual 191, 3), (413, .iload 6, 2), (415, .if_icmp .eq 5, 3), (418, .iconst 0, 1), (419, .ireturn, 1), (420, .iload 6, 2), (422, .ifCond .ne 15, 3), (425, .aload_n 3, 1), (426, .iconst 0, 1), (427, .laload, 1), (428, .iload 7, 2), (430, .i2l, 1), (431, .lcmp, 1), (432, .ifCond .eq 5, 3), (435, .iconst 0, 1), (436, .ireturn, 1), (437, .goto 2971, 3), (440, .aload_n 1, 1), (441, .aload_n 0, 1), (442, .iload 5, 2), (444, .iconst 1, 1), (445, .iadd, 1), (446, .iaload, 1), (447, .aload_n 0, 1), (448, .iload 5, 2), (450, .iconst 2, 1), (451, .iadd, 1), (452, .iaload, 1), (453, .aload_n 0, 1), (454, .iload 5, 2), (456, .iconst 3, 1), (457, .iadd, 1), (458, .iaload, 1), (459, .aload_n 0, 1), (460, .iload 5, 2), (462, .iconst 4, 1), (463, .iadd, 1), (464, .iaload, 1), (465, .aload_n 3, 1), (466, .invokestatic 198, 3), (469, .istore 6, 2), (471, .aload_n 2, 1), (472, .aload_n 0, 1), (473, .iload 5, 2), (475, .iconst 1, 1), (476, .iadd, 1), (477, .iaload, 1), (478, .aload_n 0, 1), (479, .iload 5, 2), (481, .iconst 2, 1), (482, .iadd, 1), (483, .iaload, 1), (484, .aload_n 0, 1), (485, .iload 5, 2), (487, .iconst 3, 1), (488, .iadd, 1), (489, .iaload, 1), (490, .aload_n 0, 1), (491, .iload 5, 2), (493, .iconst 4, 1), (494, .iadd, 1), (495, .iaload, 1), (496, .invokevirtual 201, 3), (499, .istore 7, 2), (501, .aload_n 2, 1), (502, .invokevirtual 191, 3), (505, .iload 6, 2), (507, .if_icmp .eq 5, 3), (510, .iconst 0, 1), (511, .ireturn, 1), (512, .iload 6, 2), (514, .ifCond .ne 15, 3), (517, .aload_n 3, 1), (518, .iconst 0, 1), (519, .laload, 1), (520, .iload 7, 2), (522, .i2l, 1), (523, .lcmp, 1), (524, .ifCond .eq 5, 3), (527, .iconst 0, 1), (528, .ireturn, 1), (529, .goto 2879, 3), (532, .aload_n 1, 1), (533, .aload_n 0, 1), (534, .iload 5, 2), (536, .iconst 1, 1), (537, .iadd, 1), (538, .iaload, 1), (539, .aload_n 0, 1), (540, .iload 5, 2), (542, .iconst 2, 1), (543, .iadd, 1), (544, .iaload, 1), (545, .aload_n 3, 1), (546, .invokestatic 202, 3), (549, .istore 6, 2), (551, .aload_n 2, 1), (552, .aload_n 0, 1), (553, .iload 5, 2), (555, .iconst 1, 1), (556, .iadd, 1), (557, .iaload, 1), (558, .aload_n 0, 1), (559, .iload 5, 2), (561, .iconst 2, 1), (562, .iadd, 1), (563, .iaload, 1), (564, .invokevirtual 204, 3), (567, .istore 7, 2), (569, .aload_n 2, 1), (570, .invokevirtual 191, 3), (573, .iload 6, 2), (575, .if_icmp .eq 5, 3), (578, .iconst 0, 1), (579, .ireturn, 1), (580, .iload 6, 2), (582, .ifCond .ne 15, 3), (585, .aload_n 3, 1), (586, .iconst 0, 1), (587, .laload, 1), (588, .iload 7, 2), (590, .i2l, 1), (591, .lcmp, 1), (592, .ifCond .eq 5, 3), (595, .iconst 0, 1), (596, .ireturn, 1), (597, .goto 2811, 3), (600, .aload_n 1, 1), (601, .aload_n 0, 1), (602, .iload 5, 2), (604, .iconst 1, 1), (605, .iadd, 1), (606, .iaload, 1), (607, .aload_n 0, 1), (608, .iload 5, 2), (610, .iconst 2, 1), (611, .iadd, 1), (612, .iaload, 1), (613, .ifCond .eq 7, 3), (616, .iconst 1, 1), (617, .goto 4, 3), (620, .iconst 0, 1), (621, .aload_n 3, 1), (622, .invokestatic 205, 3), (625, .istore 6, 2), (627, .aload_n 2, 1), (628, .aload_n 0, 1), (629, .iload 5, 2), (631, .iconst 1, 1), (632, .iadd, 1), (633, .iaload, 1), (634, .aload_n 0, 1), (635, .iload 5, 2), (637, .iconst 2, 1), (638, .iadd, 1), (639, .iaload, 1), (640, .ifCond .eq 7, 3), (643, .iconst 1, 1), (644, .goto 4, 3), (647, .iconst 0, 1), (648, .invokevirtual 208, 3), (651, .istore 7, 2), (653, .aload_n 2, 1), (654, .invokevirtual 191, 3), (657, .iload 6, 2), (659, .if_icmp .eq 5, 3), (662, .iconst 0, 1), (663, .ireturn, 1), (664, .iload 6, 2), (666, .ifCond .ne 15, 3), (669, .aload_n 3, 1), (670, .iconst 0, 1), (671, .laload, 1), (672, .iload 7, 2), (674, .i2l, 1), (675, .lcmp, 1), (676, .ifCond .eq 5, 3), (679, .iconst 0, 1), (680, .ireturn, 1), (681, .goto 2727, 3), (684, .aload_n 1, 1), (685, .invokevirtual 209, 3), (688, .aload_n 2, 1), (689, .invokevirtual 212, 3), (692, .if_icmp .eq 2716, 3), (695, .iconst 0, 1), (696, .ireturn, 1), (697, .aload_n 1, 1), (698, .invokevirtual 213, 3), (701, .aload_n 2, 1), (702, .invokevirtual 216, 3), (705, .if_icmp .eq 2703, 3), (708, .iconst 0, 1), (709, .ireturn, 1), (710, .aload_n 1, 1), (711, .aload_n 0, 1), (712, .iload 5, 2), (714, .iconst 1, 1), (715, .iadd, 1), (716, .iaload, 1), (717, .aload_n 3, 1), (718, .invokestatic 217, 3), (721, .istore 6, 2), (723, .aload_n 2, 1), (724, .aload_n 0, 1), (725, .iload 5, 2), (727, .iconst 1, 1), (728, .iadd, 1), (729, .iaload, 1), (730, .invokevirtual 219, 3), (733, .istore 7, 2), (735, .aload_n 2, 1), (736, .invokevirtual 191, 3), (739, .iload 6, 2), (741, .if_icmp .eq 5, 3), (744, .iconst 0, 1), (745, .ireturn, 1), (746, .iload 6, 2), (748, .ifCond .ne 15, 3), (751, .aload_n 3, 1), (752, .iconst 0, 1), (753, .laload, 1), (754, .iload 7, 2), (756, .i2l, 1), (757, .lcmp, 1), (758, .ifCond .eq 5, 3), (761, .iconst 0, 1), (762, .ireturn, 1), (763, .goto 2645, 3), (766, .aload_n 1, 1), (767, .aload_n 0, 1), (768, .iload 5, 2), (770, .iconst 1, 1), (771, .iadd, 1), (772, .iaload, 1), (773, .aload_n 3, 1), (774, .invokestatic 220, 3), (777, .istore 6, 2), (779, .aload_n 2, 1), (780, .aload_n 0, 1), (781, .iload 5, 2), (783, .iconst 1, 1), (784, .iadd, 1), (785, .iaload, 1), (786, .invokevirtual 222, 3), (789, .istore 7, 2), (791, .aload_n 2, 1), (792, .invokevirtual 191, 3), (795, .iload 6, 2), (797, .if_icmp .eq 5, 3), (800, .iconst 0, 1), (801, .ireturn, 1), (802, .iload 6, 2), (804, .ifCond .ne 15, 3), (807, .aload_n 3, 1), (808, .iconst 0, 1), (809, .laload, 1), (810, .iload 7, 2), (812, .i2l, 1), (813, .lcmp, 1), (814, .ifCond .eq 5, 3), (817, .iconst 0, 1), (818, .ireturn, 1), (819, .goto 2589, 3), (822, .aload_n 1, 1), (823, .aload_n 0, 1), (824, .iload 5, 2), (826, .iconst 1, 1), (827, .iadd, 1), (828, .iaload, 1), (829, .aload_n 3, 1), (830, .invokestatic 223, 3), (833, .istore 6, 2), (835, .aload_n 2, 1), (836, .aload_n 0, 1), (837, .iload 5, 2), (839, .iconst 1, 1), (840, .iadd, 1), (841, .iaload, 1), (842, .invokevirtual 225, 3), (845, .istore 7, 2), (847, .aload_n 2, 1), (848, .invokevirtual 191, 3), (851, .iload 6, 2), (853, .if_icmp .eq 5, 3), (856, .iconst 0, 1), (857, .ireturn, 1), (858, .iload 6, 2), (860, .ifCond .ne 15, 3), (863, .aload_n 3, 1), (864, .iconst 0, 1), (865, .laload, 1), (866, .iload 7, 2), (868, .i2l, 1), (869, .lcmp, 1), (870, .ifCond .eq 5, 3), (873, .iconst 0, 1), (874, .ireturn, 1), (875, .goto 2533, 3), (878, .aload_n 1, 1), (879, .aload_n 0, 1), (880, .iload 5, 2), (882, .iconst 1, 1), (883, .iadd, 1), (884, .iaload, 1), (885, .aload_n 3, 1), (886, .invokestatic 226, 3), (889, .istore 6, 2), (891, .aload_n 2, 1), (892, .aload_n 0, 1), (893, .iload 5, 2), (895, .iconst 1, 1), (896, .iadd, 1), (897, .iaload, 1), (898, .invokevirtual 228, 3), (901, .istore 7, 2), (903, .aload_n 2, 1), (904, .invokevirtual 191, 3), (907, .iload 6, 2), (909, .if_icmp .eq 5, 3), (912, .iconst 0, 1), (913, .ireturn, 1), (914, .iload 6, 2), (916, .ifCond .ne 15, 3), (919, .aload_n 3, 1), (920, .iconst 0, 1), (921, .laload, 1), (922, .iload 7, 2), (924, .i2l, 1), (925, .lcmp, 1), (926, .ifCond .eq 5, 3), (929, .iconst 0, 1), (930, .ireturn, 1), (931, .goto 2477, 3), (934, .aload_n 1, 1), (935, .aload_n 0, 1), (936, .iload 5, 2), (938, .iconst 1, 1), (939, .iadd, 1), (940, .iaload, 1), (941, .aload_n 3, 1), (942, .invokestatic 229, 3), (945, .istore 6, 2), (947, .aload_n 2, 1), (948, .aload_n 0, 1), (949, .iload 5, 2), (951, .iconst 1, 1), (952, .iadd, 1), (953, .iaload, 1), (954, .invokevirtual 231, 3), (957, .istore 7, 2), (959, .aload_n 2, 1), (960, .invokevirtual 191, 3), (963, .iload 6, 2), (965, .if_icmp .eq 5, 3), (968, .iconst 0, 1), (969, .ireturn, 1), (970, .iload 6, 2), (972, .ifCond .ne 15, 3), (975, .aload_n 3, 1), (976, .iconst 0, 1), (977, .laload, 1), (978, .iload 7, 2), (980, .i2l, 1), (981, .lcmp, 1), (982, .ifCond .eq 5, 3), (985, .iconst 0, 1), (986, .ireturn, 1), (987, .goto 2421, 3), (990, .aload_n 1, 1), (991, .aload_n 0, 1), (992, .iload 5, 2), (994, .iconst 1, 1), (995, .iadd, 1), (996, .iaload, 1), (997, .aload_n 3, 1), (998, .invokestatic 232, 3), (1001, .istore 6, 2), (1003, .aload_n 2, 1), (1004, .aload_n 0, 1), (1005, .iload 5, 2), (1007, .iconst 1, 1), (1008, .iadd, 1), (1009, .iaload, 1), (1010, .invokevirtual 234, 3), (1013, .istore 7, 2), (1015, .aload_n 2, 1), (1016, .invokevirtual 191, 3), (1019, .iload 6, 2), (1021, .if_icmp .eq 5, 3), (1024, .iconst 0, 1), (1025, .ireturn, 1), (1026, .iload 6, 2), (1028, .ifCond .ne 22, 3), (1031, .aload_n 3, 1), (1032, .iconst 0, 1), (1033, .laload, 1), (1034, .iload 7, 2), (1036, .ifCond .eq 7, 3), (1039, .lconst 1, 1), (1040, .goto 4, 3), (1043, .lconst 0, 1), (1044, .lcmp, 1), (1045, .ifCond .eq 5, 3), (1048, .iconst 0, 1), (1049, .ireturn, 1), (1050, .goto 2358, 3), (1053, .aload_n 1, 1), (1054, .invokevirtual 235, 3), (1057, .aload_n 2, 1), (1058, .invokevirtual 238, 3), (1061, .if_icmp .eq 2347, 3), (1064, .iconst 0, 1), (1065, .ireturn, 1), (1066, .aload_n 1, 1), (1067, .aload_n 0, 1), (1068, .iload 5, 2), (1070, .iconst 1, 1), (1071, .iadd, 1), (1072, .iaload, 1), (1073, .aload_n 0, 1), (1074, .iload 5, 2), (1076, .iconst 2, 1), (1077, .iadd, 1), (1078, .iaload, 1), (1079, .aload_n 3, 1), (1080, .invokestatic 239, 3), (1083, .istore 6, 2), (1085, .aload_n 2, 1), (1086, .aload_n 0, 1), (1087, .iload 5, 2), (1089, .iconst 1, 1), (1090, .iadd, 1), (1091, .iaload, 1), (1092, .aload_n 0, 1), (1093, .iload 5, 2), (1095, .iconst 2, 1), (1096, .iadd, 1), (1097, .iaload, 1), (1098, .invokevirtual 241, 3), (1101, .istore 7, 2), (1103, .aload_n 2, 1), (1104, .invokevirtual 191, 3), (1107, .iload 6, 2), (1109, .if_icmp .eq 5, 3), (1112, .iconst 0, 1), (1113, .ireturn, 1), (1114, .iload 6, 2), (1116, .ifCond .ne 22, 3), (1119, .aload_n 3, 1), (1120, .iconst 0, 1), (1121, .laload, 1), (1122, .iload 7, 2), (1124, .ifCond .eq 7, 3), (1127, .lconst 1, 1), (1128, .goto 4, 3), (1131, .lconst 0, 1), (1132, .lcmp, 1), (1133, .ifCond .eq 5, 3), (1136, .iconst 0, 1), (1137, .ireturn, 1), (1138, .goto 2270, 3), (1141, .aload_n 1, 1), (1142, .aload_n 0, 1), (1143, .iload 5, 2), (1145, .iconst 1, 1), (1146, .iadd, 1), (1147, .iaload, 1), (1148, .aload_n 0, 1), (1149, .iload 5, 2), (1151, .iconst 2, 1), (1152, .iadd, 1), (1153, .iaload, 1), (1154, .aload_n 3, 1), (1155, .invokestatic 242, 3), (1158, .istore 6, 2), (1160, .aload_n 2, 1), (1161, .aload_n 0, 1), (1162, .iload 5, 2), (1164, .iconst 1, 1), (1165, .iadd, 1), (1166, .iaload, 1), (1167, .aload_n 0, 1), (1168, .iload 5, 2), (1170, .iconst 2, 1), (1171, .iadd, 1), (1172, .iaload, 1), (1173, .invokevirtual 244, 3), (1176, .istore 7, 2), (1178, .aload_n 2, 1), (1179, .invokevirtual 191, 3), (1182, .iload 6, 2), (1184, .if_icmp .eq 5, 3), (1187, .iconst 0, 1), (1188, .ireturn, 1), (1189, .iload 6, 2), (1191, .ifCond .ne 15, 3), (1194, .aload_n 3, 1), (1195, .iconst 0, 1), (1196, .laload, 1), (1197, .iload 7, 2), (1199, .i2l, 1), (1200, .lcmp, 1), (1201, .ifCond .eq 5, 3), (1204, .iconst 0, 1), (1205, .ireturn, 1), (1206, .goto 2202, 3), (1209, .aload_n 1, 1), (1210, .aload_n 0, 1), (1211, .iload 5, 2), (1213, .iconst 1, 1), (1214, .iadd, 1), (1215, .iaload, 1), (1216, .aload_n 0, 1), (1217, .iload 5, 2), (1219, .iconst 2, 1), (1220, .iadd, 1), (1221, .iaload, 1), (1222, .aload_n 3, 1), (1223, .invokestatic 245, 3), (1226, .istore 6, 2), (1228, .aload_n 2, 1), (1229, .aload_n 0, 1), (1230, .iload 5, 2), (1232, .iconst 1, 1), (1233, .iadd, 1), (1234, .iaload, 1), (1235, .aload_n 0, 1), (1236, .iload 5, 2), (1238, .iconst 2, 1), (1239, .iadd, 1), (1240, .iaload, 1), (1241, .invokevirtual 247, 3), (1244, .istore 7, 2), (1246, .aload_n 2, 1), (1247, .invokevirtual 191, 3), (1250, .iload 6, 2), (1252, .if_icmp .eq 5, 3), (1255, .iconst 0, 1), (1256, .ireturn, 1), (1257, .iload 6, 2), (1259, .ifCond .ne 15, 3), (1262, .aload_n 3, 1), (1263, .iconst 0, 1), (1264, .laload, 1), (1265, .iload 7, 2), (1267, .i2l, 1), (1268, .lcmp, 1), (1269, .ifCond .eq 5, 3), (1272, .iconst 0, 1), (1273, .ireturn, 1), (1274, .goto 2134, 3), (1277, .aload_n 1, 1), (1278, .aload_n 0, 1), (1279, .iload 5, 2), (1281, .iconst 1, 1), (1282, .iadd, 1), (1283, .iaload, 1), (1284, .aload_n 0, 1), (1285, .iload 5, 2), (1287, .iconst 2, 1), (1288, .iadd, 1), (1289, .iaload, 1), (1290, .aload_n 3, 1), (1291, .invokestatic 248, 3), (1294, .istore 6, 2), (1296, .aload_n 2, 1), (1297, .aload_n 0, 1), (1298, .iload 5, 2), (1300, .iconst 1, 1), (1301, .iadd, 1), (1302, .iaload, 1), (1303, .aload_n 0, 1), (1304, .iload 5, 2), (1306, .iconst 2, 1), (1307, .iadd, 1), (1308, .iaload, 1), (1309, .invokevirtual 250, 3), (1312, .istore 7, 2), (1314, .aload_n 2, 1), (1315, .invokevirtual 191, 3), (1318, .iload 6, 2), (1320, .if_icmp .eq 5, 3), (1323, .iconst 0, 1), (1324, .ireturn, 1), (1325, .iload 6, 2), (1327, .ifCond .ne 15, 3), (1330, .aload_n 3, 1), (1331, .iconst 0, 1), (1332, .laload, 1), (1333, .iload 7, 2), (1335, .i2l, 1), (1336, .lcmp, 1), (1337, .ifCond .eq 5, 3), (1340, .iconst 0, 1), (1341, .ireturn, 1), (1342, .goto 2066, 3), (1345, .aload_n 1, 1), (1346, .aload_n 0, 1), (1347, .iload 5, 2), (1349, .iconst 1, 1), (1350, .iadd, 1), (1351, .iaload, 1), (1352, .aload_n 0, 1), (1353, .iload 5, 2), (1355, .iconst 2, 1), (1356, .iadd, 1), (1357, .iaload, 1), (1358, .aload_n 3, 1), (1359, .invokestatic 251, 3), (1362, .istore 6, 2), (1364, .aload_n 2, 1), (1365, .aload_n 0, 1), (1366, .iload 5, 2), (1368, .iconst 1, 1), (1369, .iadd, 1), (1370, .iaload, 1), (1371, .aload_n 0, 1), (1372, .iload 5, 2), (1374, .iconst 2, 1), (1375, .iadd, 1), (1376, .iaload, 1), (1377, .invokevirtual 253, 3), (1380, .istore 7, 2), (1382, .aload_n 2, 1), (1383, .invokevirtual 191, 3), (1386, .iload 6, 2), (1388, .if_icmp .eq 5, 3), (1391, .iconst 0, 1), (1392, .ireturn, 1), (1393, .iload 6, 2), (1395, .ifCond .ne 15, 3), (1398, .aload_n 3, 1), (1399, .iconst 0, 1), (1400, .laload, 1), (1401, .iload 7, 2), (1403, .i2l, 1), (1404, .lcmp, 1), (1405, .ifCond .eq 5, 3), (1408, .iconst 0, 1), (1409, .ireturn, 1), (1410, .goto 1998, 3), (1413, .aload_n 1, 1), (1414, .aload_n 0, 1), (1415, .iload 5, 2), (1417, .iconst 1, 1), (1418, .iadd, 1), (1419, .iaload, 1), (1420, .aload_n 3, 1), (1421, .invokestatic 254, 3), (1424, .istore 6, 2), (1426, .aload_n 2, 1), (1427, .aload_n 0, 1), (1428, .iload 5, 2), (1430, .iconst 1, 1), (1431, .iadd, 1), (1432, .iaload, 1), (1433, .invokevirtual 256, 3), (1436, .istore 7, 2), (1438, .aload_n 2, 1), (1439, .invokevirtual 191, 3), (1442, .iload 6, 2), (1444, .if_icmp .eq 5, 3), (1447, .iconst 0, 1), (1448, .ireturn, 1), (1449, .iload 6, 2), (1451, .ifCond .ne 22, 3), (1454, .aload_n 3, 1), (1455, .iconst 0, 1), (1456, .laload, 1), (1457, .iload 7, 2), (1459, .ifCond .eq 7, 3), (1462, .lconst 1, 1), (1463, .goto 4, 3), (1466, .lconst 0, 1), (1467, .lcmp, 1), (1468, .ifCond .eq 5, 3), (1471, .iconst 0, 1), (1472, .ireturn, 1), (1473, .goto 1935, 3), (1476, .aload_n 1, 1), (1477, .invokevirtual 257, 3), (1480, .aload_n 2, 1), (1481, .invokevirtual 260, 3), (1484, .if_icmp .eq 1924, 3), (1487, .iconst 0, 1), (1488, .ireturn, 1), (1489, .aload_n 1, 1), (1490, .invokevirtual 261, 3), (1493, .aload_n 2, 1), (1494, .invokevirtual 264, 3), (1497, .if_icmp .eq 1911, 3), (1500, .iconst 0, 1), (1501, .ireturn, 1), (1502, .aload_n 1, 1), (1503, .aload_n 0, 1), (1504, .iload 5, 2), (1506, .iconst 1, 1), (1507, .iadd, 1), (1508, .iaload, 1), (1509, .aload_n 3, 1), (1510, .invokestatic 265, 3), (1513, .istore 6, 2), (1515, .aload_n 2, 1), (1516, .aload_n 0, 1), (1517, .iload 5, 2), (1519, .iconst 1, 1), (1520, .iadd, 1), (1521, .iaload, 1), (1522, .invokevirtual 267, 3), (1525, .istore 7, 2), (1527, .aload_n 2, 1), (1528, .invokevirtual 191, 3), (1531, .iload 6, 2), (1533, .if_icmp .eq 5, 3), (1536, .iconst 0, 1), (1537, .ireturn, 1), (1538, .iload 6, 2), (1540, .ifCond .ne 15, 3), (1543, .aload_n 3, 1), (1544, .iconst 0, 1), (1545, .laload, 1), (1546, .iload 7, 2), (1548, .i2l, 1), (1549, .lcmp, 1), (1550, .ifCond .eq 5, 3), (1553, .iconst 0, 1), (1554, .ireturn, 1), (1555, .goto 1853, 3), (1558, .aload_n 1, 1), (1559, .aload_n 0, 1), (1560, .iload 5, 2), (1562, .iconst 1, 1), (1563, .iadd, 1), (1564, .iaload, 1), (1565, .aload_n 3, 1), (1566, .invokestatic 268, 3), (1569, .istore 6, 2), (1571, .aload_n 2, 1), (1572, .aload_n 0, 1), (1573, .iload 5, 2), (1575, .iconst 1, 1), (1576, .iadd, 1), (1577, .iaload, 1), (1578, .invokevirtual 270, 3), (1581, .istore 7, 2), (1583, .aload_n 2, 1), (1584, .invokevirtual 191, 3), (1587, .iload 6, 2), (1589, .if_icmp .eq 5, 3), (1592, .iconst 0, 1), (1593, .ireturn, 1), (1594, .iload 6, 2), (1596, .ifCond .ne 15, 3), (1599, .aload_n 3, 1), (1600, .iconst 0, 1), (1601, .laload, 1), (1602, .iload 7, 2), (1604, .i2l, 1), (1605, .lcmp, 1), (1606, .ifCond .eq 5, 3), (1609, .iconst 0, 1), (1610, .ireturn, 1), (1611, .goto 1797, 3), (1614, .aload_n 1, 1), (1615, .aload_n 0, 1), (1616, .iload 5, 2), (1618, .iconst 1, 1), (1619, .iadd, 1), (1620, .iaload, 1), (1621, .aload_n 0, 1), (1622, .iload 5, 2), (1624, .iconst 2, 1), (1625, .iadd, 1), (1626, .iaload, 1), (1627, .aload_n 3, 1), (1628, .invokestatic 271, 3), (1631, .istore 6, 2), (1633, .aload_n 2, 1), (1634, .aload_n 0, 1), (1635, .iload 5, 2), (1637, .iconst 1, 1), (1638, .iadd, 1), (1639, .iaload, 1), (1640, .aload_n 0, 1), (1641, .iload 5, 2), (1643, .iconst 2, 1), (1644, .iadd, 1), (1645, .iaload, 1), (1646, .invokevirtual 273, 3), (1649, .istore 7, 2), (1651, .aload_n 2, 1), (1652, .invokevirtual 191, 3), (1655, .iload 6, 2), (1657, .if_icmp .eq 5, 3), (1660, .iconst 0, 1), (1661, .ireturn, 1), (1662, .iload 6, 2), (1664, .ifCond .ne 22, 3), (1667, .aload_n 3, 1), (1668, .iconst 0, 1), (1669, .laload, 1), (1670, .iload 7, 2), (1672, .ifCond .eq 7, 3), (1675, .lconst 1, 1), (1676, .goto 4, 3), (1679, .lconst 0, 1), (1680, .lcmp, 1), (1681, .ifCond .eq 5, 3), (1684, .iconst 0, 1), (1685, .ireturn, 1), (1686, .goto 1722, 3), (1689, .aload_n 1, 1), (1690, .aload_n 0, 1), (1691, .iload 5, 2), (1693, .iconst 1, 1), (1694, .iadd, 1), (1695, .iaload, 1), (1696, .aload_n 0, 1), (1697, .iload 5, 2), (1699, .iconst 2, 1), (1700, .iadd, 1), (1701, .iaload, 1), (1702, .aload_n 3, 1), (1703, .invokestatic 274, 3), (1706, .istore 6, 2), (1708, .aload_n 2, 1), (1709, .aload_n 0, 1), (1710, .iload 5, 2), (1712, .iconst 1, 1), (1713, .iadd, 1), (1714, .iaload, 1), (1715, .aload_n 0, 1), (1716, .iload 5, 2), (1718, .iconst 2, 1), (1719, .iadd, 1), (1720, .iaload, 1), (1721, .invokevirtual 276, 3), (1724, .istore 7, 2), (1726, .aload_n 2, 1), (1727, .invokevirtual 191, 3), (1730, .iload 6, 2), (1732, .if_icmp .eq 5, 3), (1735, .iconst 0, 1), (1736, .ireturn, 1), (1737, .iload 6, 2), (1739, .ifCond .ne 15, 3), (1742, .aload_n 3, 1), (1743, .iconst 0, 1), (1744, .laload, 1), (1745, .iload 7, 2), (1747, .i2l, 1), (1748, .lcmp, 1), (1749, .ifCond .eq 5, 3), (1752, .iconst 0, 1), (1753, .ireturn, 1), (1754, .goto 1654, 3), (1757, .aload_n 1, 1), (1758, .aload_n 0, 1), (1759, .iload 5, 2), (1761, .iconst 1, 1), (1762, .iadd, 1), (1763, .iaload, 1), (1764, .aload_n 0, 1), (1765, .iload 5, 2), (1767, .iconst 2, 1), (1768, .iadd, 1), (1769, .iaload, 1), (1770, .aload 4, 2), (1772, .invokestatic 277, 3), (1775, .istore 6, 2), (1777, .aload_n 2, 1), (1778, .aload_n 0, 1), (1779, .iload 5, 2), (1781, .iconst 1, 1), (1782, .iadd, 1), (1783, .iaload, 1), (1784, .aload_n 0, 1), (1785, .iload 5, 2), (1787, .iconst 2, 1), (1788, .iadd, 1), (1789, .iaload, 1), (1790, .invokevirtual 280, 3), (1793, .fstore 7, 2), (1795, .aload_n 2, 1), (1796, .invokevirtual 191, 3), (1799, .iload 6, 2), (1801, .if_icmp .eq 5, 3), (1804, .iconst 0, 1), (1805, .ireturn, 1), (1806, .iload 6, 2), (1808, .ifCond .ne 36, 3), (1811, .aload 4, 2), (1813, .iconst 0, 1), (1814, .daload, 1), (1815, .fload 7, 2), (1817, .f2d, 1), (1818, .dcmp .l, 1), (1819, .ifCond .eq 25, 3), (1822, .aload 4, 2), (1824, .iconst 0, 1), (1825, .daload, 1), (1826, .aload 4, 2), (1828, .iconst 0, 1), (1829, .daload, 1), (1830, .dcmp .l, 1), (1831, .ifCond .eq 11, 3), (1834, .fload 7, 2), (1836, .fload 7, 2), (1838, .fcmp .l, 1), (1839, .ifCond .ne 5, 3), (1842, .iconst 0, 1), (1843, .ireturn, 1), (1844, .goto 1564, 3), (1847, .aload_n 1, 1), (1848, .aload_n 0, 1), (1849, .iload 5, 2), (1851, .iconst 1, 1), (1852, .iadd, 1), (1853, .iaload, 1), (1854, .aload_n 3, 1), (1855, .invokestatic 281, 3), (1858, .istore 6, 2), (1860, .aload_n 2, 1), (1861, .aload_n 0, 1), (1862, .iload 5, 2), (1864, .iconst 1, 1), (1865, .iadd, 1), (1866, .iaload, 1), (1867, .invokevirtual 283, 3), (1870, .istore 7, 2), (1872, .aload_n 2, 1), (1873, .invokevirtual 191, 3), (1876, .iload 6, 2), (1878, .if_icmp .eq 5, 3), (1881, .iconst 0, 1), (1882, .ireturn, 1), (1883, .iload 6, 2), (1885, .ifCond .ne 15, 3), (1888, .aload_n 3, 1), (1889, .iconst 0, 1), (1890, .laload, 1), (1891, .iload 7, 2), (1893, .i2l, 1), (1894, .lcmp, 1), (1895, .ifCond .eq 5, 3), (1898, .iconst 0, 1), (1899, .ireturn, 1), (1900, .goto 1508, 3), (1903, .aload_n 1, 1), (1904, .aload_n 0, 1), (1905, .iload 5, 2), (1907, .iconst 1, 1), (1908, .iadd, 1), (1909, .iaload, 1), (1910, .aload_n 0, 1), (1911, .iload 5, 2), (1913, .iconst 2, 1), (1914, .iadd, 1), (1915, .iaload, 1), (1916, .aload_n 0, 1), (1917, .iload 5, 2), (1919, .iconst 3, 1), (1920, .iadd, 1), (1921, .iaload, 1), (1922, .ifCond .eq 7, 3), (1925, .iconst 1, 1), (1926, .goto 4, 3), (1929, .iconst 0, 1), (1930, .aload_n 3, 1), (1931, .invokestatic 284, 3), (1934, .istore 6, 2), (1936, .aload_n 2, 1), (1937, .aload_n 0, 1), (1938, .iload 5, 2), (1940, .iconst 1, 1), (1941, .iadd, 1), (1942, .iaload, 1), (1943, .aload_n 0, 1), (1944, .iload 5, 2), (1946, .iconst 2, 1), (1947, .iadd, 1), (1948, .iaload, 1), (1949, .aload_n 0, 1), (1950, .iload 5, 2), (1952, .iconst 3, 1), (1953, .iadd, 1), (1954, .iaload, 1), (1955, .ifCond .eq 7, 3), (1958, .iconst 1, 1), (1959, .goto 4, 3), (1962, .iconst 0, 1), (1963, .invokevirtual 287, 3), (1966, .istore 7, 2), (1968, .aload_n 2, 1), (1969, .invokevirtual 191, 3), (1972, .iload 6, 2), (1974, .if_icmp .eq 5, 3), (1977, .iconst 0, 1), (1978, .ireturn, 1), (1979, .iload 6, 2), (1981, .ifCond .ne 15, 3), (1984, .aload_n 3, 1), (1985, .iconst 0, 1), (1986, .laload, 1), (1987, .iload 7, 2), (1989, .i2l, 1), (1990, .lcmp, 1), (1991, .ifCond .eq 5, 3), (1994, .iconst 0, 1), (1995, .ireturn, 1), (1996, .goto 1412, 3), (1999, .aload_n 1, 1), (2000, .aload_n 3, 1), (2001, .invokestatic 288, 3), (2004, .istore 6, 2), (2006, .aload_n 2, 1), (2007, .invokevirtual 291, 3), (2010, .istore 7, 2), (2012, .aload_n 2, 1), (2013, .invokevirtual 191, 3), (2016, .iload 6, 2), (2018, .if_icmp .eq 5, 3), (2021, .iconst 0, 1), (2022, .ireturn, 1), (2023, .iload 6, 2), (2025, .ifCond .ne 15, 3), (2028, .aload_n 3, 1), (2029, .iconst 0, 1), (2030, .laload, 1), (2031, .iload 7, 2), (2033, .i2l, 1), (2034, .lcmp, 1), (2035, .ifCond .eq 5, 3), (2038, .iconst 0, 1), (2039, .ireturn, 1), (2040, .goto 1368, 3), (2043, .aload_n 1, 1), (2044, .aload_n 3, 1), (2045, .invokestatic 292, 3), (2048, .istore 6, 2), (2050, .aload_n 2, 1), (2051, .invokevirtual 294, 3), (2054, .istore 7, 2), (2056, .aload_n 2, 1), (2057, .invokevirtual 191, 3), (2060, .iload 6, 2), (2062, .if_icmp .eq 5, 3), (2065, .iconst 0, 1), (2066, .ireturn, 1), (2067, .iload 6, 2), (2069, .ifCond .ne 15, 3), (2072, .aload_n 3, 1), (2073, .iconst 0, 1), (2074, .laload, 1), (2075, .iload 7, 2), (2077, .i2l, 1), (2078, .lcmp, 1), (2079, .ifCond .eq 5, 3), (2082, .iconst 0, 1), (2083, .ireturn, 1), (2084, .goto 1324, 3), (2087, .aload_n 1, 1), (2088, .aload_n 3, 1), (2089, .invokestatic 295, 3), (2092, .istore 6, 2), (2094, .aload_n 2, 1), (2095, .invokevirtual 297, 3), (2098, .istore 7, 2), (2100, .aload_n 2, 1), (2101, .invokevirtual 191, 3), (2104, .iload 6, 2), (2106, .if_icmp .eq 5, 3), (2109, .iconst 0, 1), (2110, .ireturn, 1), (2111, .iload 6, 2), (2113, .ifCond .ne 15, 3), (2116, .aload_n 3, 1), (2117, .iconst 0, 1), (2118, .laload, 1), (2119, .iload 7, 2), (2121, .i2l, 1), (2122, .lcmp, 1), (2123, .ifCond .eq 5, 3), (2126, .iconst 0, 1), (2127, .ireturn, 1), (2128, .goto 1280, 3), (2131, .aload_n 1, 1), (2132, .invokevirtual 298, 3), (2135, .aload_n 2, 1), (2136, .invokevirtual 302, 3), (2139, .if_icmp .eq 1269, 3), (2142, .iconst 0, 1), (2143, .ireturn, 1), (2144, .aload_n 1, 1), (2145, .aload_n 3, 1), (2146, .invokestatic 303, 3), (2149, .istore 6, 2), (2151, .aload_n 2, 1), (2152, .invokevirtual 305, 3), (2155, .istore 7, 2), (2157, .aload_n 2, 1), (2158, .invokevirtual 191, 3), (2161, .iload 6, 2), (2163, .if_icmp .eq 5, 3), (2166, .iconst 0, 1), (2167, .ireturn, 1), (2168, .iload 6, 2), (2170, .ifCond .ne 15, 3), (2173, .aload_n 3, 1), (2174, .iconst 0, 1), (2175, .laload, 1), (2176, .iload 7, 2), (2178, .i2l, 1), (2179, .lcmp, 1), (2180, .ifCond .eq 5, 3), (2183, .iconst 0, 1), (2184, .ireturn, 1), (2185, .goto 1223, 3), (2188, .aload_n 1, 1), (2189, .aload_n 0, 1), (2190, .iload 5, 2), (2192, .iconst 1, 1), (2193, .iadd, 1), (2194, .iaload, 1), (2195, .aload_n 0, 1), (2196, .iload 5, 2), (2198, .iconst 2, 1), (2199, .iadd, 1), (2200, .iaload, 1), (2201, .aload_n 3, 1), (2202, .invokestatic 306, 3), (2205, .istore 6, 2), (2207, .aload_n 2, 1), (2208, .aload_n 0, 1), (2209, .iload 5, 2), (2211, .iconst 1, 1), (2212, .iadd, 1), (2213, .iaload, 1), (2214, .aload_n 0, 1), (2215, .iload 5, 2), (2217, .iconst 2, 1), (2218, .iadd, 1), (2219, .iaload, 1), (2220, .invokevirtual 308, 3), (2223, .istore 7, 2), (2225, .aload_n 2, 1), (2226, .invokevirtual 191, 3), (2229, .iload 6, 2), (2231, .if_icmp .eq 5, 3), (2234, .iconst 0, 1), (2235, .ireturn, 1), (2236, .iload 6, 2), (2238, .ifCond .ne 22, 3), (2241, .aload_n 3, 1), (2242, .iconst 0, 1), (2243, .laload, 1), (2244, .iload 7, 2), (2246, .ifCond .eq 7, 3), (2249, .lconst 1, 1), (2250, .goto 4, 3), (2253, .lconst 0, 1), (2254, .lcmp, 1), (2255, .ifCond .eq 5, 3), (2258, .iconst 0, 1), (2259, .ireturn, 1), (2260, .goto 1148, 3), (2263, .aload_n 1, 1), (2264, .aload_n 0, 1), (2265, .iload 5, 2), (2267, .iconst 1, 1), (2268, .iadd, 1), (2269, .iaload, 1), (2270, .aload_n 3, 1), (2271, .invokestatic 309, 3), (2274, .istore 6, 2), (2276, .aload_n 2, 1), (2277, .aload_n 0, 1), (2278, .iload 5, 2), (2280, .iconst 1, 1), (2281, .iadd, 1), (2282, .iaload, 1), (2283, .invokevirtual 311, 3), (2286, .istore 7, 2), (2288, .aload_n 2, 1), (2289, .invokevirtual 191, 3), (2292, .iload 6, 2), (2294, .if_icmp .eq 5, 3), (2297, .iconst 0, 1), (2298, .ireturn, 1), (2299, .iload 6, 2), (2301, .ifCond .ne 15, 3), (2304, .aload_n 3, 1), (2305, .iconst 0, 1), (2306, .laload, 1), (2307, .iload 7, 2), (2309, .i2l, 1), (2310, .lcmp, 1), (2311, .ifCond .eq 5, 3), (2314, .iconst 0, 1), (2315, .ireturn, 1), (2316, .goto 1092, 3), (2319, .aload_n 1, 1), (2320, .aload_n 0, 1), (2321, .iload 5, 2), (2323, .iconst 1, 1), (2324, .iadd, 1), (2325, .iaload, 1), (2326, .aload_n 3, 1), (2327, .invokestatic 312, 3), (2330, .istore 6, 2), (2332, .aload_n 2, 1), (2333, .aload_n 0, 1), (2334, .iload 5, 2), (2336, .iconst 1, 1), (2337, .iadd, 1), (2338, .iaload, 1), (2339, .invokevirtual 314, 3), (2342, .istore 7, 2), (2344, .aload_n 2, 1), (2345, .invokevirtual 191, 3), (2348, .iload 6, 2), (2350, .if_icmp .eq 5, 3), (2353, .iconst 0, 1), (2354, .ireturn, 1), (2355, .iload 6, 2), (2357, .ifCond .ne 22, 3), (2360, .aload_n 3, 1), (2361, .iconst 0, 1), (2362, .laload, 1), (2363, .iload 7, 2), (2365, .ifCond .eq 7, 3), (2368, .lconst 1, 1), (2369, .goto 4, 3), (2372, .lconst 0, 1), (2373, .lcmp, 1), (2374, .ifCond .eq 5, 3), (2377, .iconst 0, 1), (2378, .ireturn, 1), (2379, .goto 1029, 3), (2382, .aload_n 1, 1), (2383, .invokevirtual 315, 3), (2386, .aload_n 2, 1), (2387, .invokevirtual 318, 3), (2390, .if_icmp .eq 1018, 3), (2393, .iconst 0, 1), (2394, .ireturn, 1), (2395, .aload_n 1, 1), (2396, .aload_n 3, 1), (2397, .invokestatic 319, 3), (2400, .istore 6, 2), (2402, .aload_n 2, 1), (2403, .invokevirtual 321, 3), (2406, .istore 7, 2), (2408, .aload_n 2, 1), (2409, .invokevirtual 191, 3), (2412, .iload 6, 2), (2414, .if_icmp .eq 5, 3), (2417, .iconst 0, 1), (2418, .ireturn, 1), (2419, .iload 6, 2), (2421, .ifCond .ne 15, 3), (2424, .aload_n 3, 1), (2425, .iconst 0, 1), (2426, .laload, 1), (2427, .iload 7, 2), (2429, .i2l, 1), (2430, .lcmp, 1), (2431, .ifCond .eq 5, 3), (2434, .iconst 0, 1), (2435, .ireturn, 1), (2436, .goto 972, 3), (2439, .aload_n 1, 1), (2440, .aload_n 3, 1), (2441, .invokestatic 322, 3), (2444, .istore 6, 2), (2446, .aload_n 2, 1), (2447, .invokevirtual 324, 3), (2450, .istore 7, 2), (2452, .aload_n 2, 1), (2453, .invokevirtual 191, 3), (2456, .iload 6, 2), (2458, .if_icmp .eq 5, 3), (2461, .iconst 0, 1), (2462, .ireturn, 1), (2463, .iload 6, 2), (2465, .ifCond .ne 15, 3), (2468, .aload_n 3, 1), (2469, .iconst 0, 1), (2470, .laload, 1), (2471, .iload 7, 2), (2473, .i2l, 1), (2474, .lcmp, 1), (2475, .ifCond .eq 5, 3), (2478, .iconst 0, 1), (2479, .ireturn, 1), (2480, .goto 928, 3), (2483, .aload_n 1, 1), (2484, .invokevirtual 325, 3), (2487, .aload_n 2, 1), (2488, .invokevirtual 328, 3), (2491, .if_icmp .eq 917, 3), (2494, .iconst 0, 1), (2495, .ireturn, 1), (2496, .aload_n 1, 1), (2497, .invokevirtual 329, 3), (2500, .aload_n 2, 1), (2501, .invokevirtual 332, 3), (2504, .if_icmp .eq 904, 3), (2507, .iconst 0, 1), (2508, .ireturn, 1), (2509, .aload_n 1, 1), (2510, .invokevirtual 333, 3), (2513, .aload_n 2, 1), (2514, .invokevirtual 336, 3), (2517, .if_icmp .eq 891, 3), (2520, .iconst 0, 1), (2521, .ireturn, 1), (2522, .aload_n 1, 1), (2523, .invokevirtual 337, 3), (2526, .aload_n 2, 1), (2527, .invokevirtual 340, 3), (2530, .if_icmp .eq 878, 3), (2533, .iconst 0, 1), (2534, .ireturn, 1), (2535, .aload_n 1, 1), (2536, .invokevirtual 341, 3), (2539, .aload_n 2, 1), (2540, .invokevirtual 344, 3), (2543, .if_icmp .eq 865, 3), (2546, .iconst 0, 1), (2547, .ireturn, 1), (2548, .aload_n 1, 1), (2549, .invokevirtual 345, 3), (2552, .aload_n 2, 1), (2553, .invokevirtual 348, 3), (2556, .if_icmp .eq 852, 3), (2559, .iconst 0, 1), (2560, .ireturn, 1), (2561, .aload_n 1, 1), (2562, .aload_n 0, 1), (2563, .iload 5, 2), (2565, .iconst 1, 1), (2566, .iadd, 1), (2567, .iaload, 1), (2568, .aload_n 3, 1), (2569, .invokestatic 349, 3), (2572, .istore 6, 2), (2574, .aload_n 2, 1), (2575, .aload_n 0, 1), (2576, .iload 5, 2), (2578, .iconst 1, 1), (2579, .iadd, 1), (2580, .iaload, 1), (2581, .invokevirtual 351, 3), (2584, .istore 7, 2), (2586, .aload_n 2, 1), (2587, .invokevirtual 191, 3), (2590, .iload 6, 2), (2592, .if_icmp .eq 5, 3), (2595, .iconst 0, 1), (2596, .ireturn, 1), (2597, .iload 6, 2), (2599, .ifCond .ne 15, 3), (2602, .aload_n 3, 1), (2603, .iconst 0, 1), (2604, .laload, 1), (2605, .iload 7, 2), (2607, .i2l, 1), (2608, .lcmp, 1), (2609, .ifCond .eq 5, 3), (2612, .iconst 0, 1), (2613, .ireturn, 1), (2614, .goto 794, 3), (2617, .aload_n 1, 1), (2618, .aload_n 0, 1), (2619, .iload 5, 2), (2621, .iconst 1, 1), (2622, .iadd, 1), (2623, .iaload, 1), (2624, .aload_n 3, 1), (2625, .invokestatic 352, 3), (2628, .istore 6, 2), (2630, .aload_n 2, 1), (2631, .aload_n 0, 1), (2632, .iload 5, 2), (2634, .iconst 1, 1), (2635, .iadd, 1), (2636, .iaload, 1), (2637, .invokevirtual 354, 3), (2640, .istore 7, 2), (2642, .aload_n 2, 1), (2643, .invokevirtual 191, 3), (2646, .iload 6, 2), (2648, .if_icmp .eq 5, 3), (2651, .iconst 0, 1), (2652, .ireturn, 1), (2653, .iload 6, 2), (2655, .ifCond .ne 15, 3), (2658, .aload_n 3, 1), (2659, .iconst 0, 1), (2660, .laload, 1), (2661, .iload 7, 2), (2663, .i2l, 1), (2664, .lcmp, 1), (2665, .ifCond .eq 5, 3), (2668, .iconst 0, 1), (2669, .ireturn, 1), (2670, .goto 738, 3), (2673, .aload_n 1, 1), (2674, .aload_n 0, 1), (2675, .iload 5, 2), (2677, .iconst 1, 1), (2678, .iadd, 1), (2679, .iaload, 1), (2680, .aload_n 3, 1), (2681, .invokestatic 355, 3), (2684, .istore 6, 2), (2686, .aload_n 2, 1), (2687, .aload_n 0, 1), (2688, .iload 5, 2), (2690, .iconst 1, 1), (2691, .iadd, 1), (2692, .iaload, 1), (2693, .invokevirtual 357, 3), (2696, .istore 7, 2), (2698, .aload_n 2, 1), (2699, .invokevirtual 191, 3), (2702, .iload 6, 2), (2704, .if_icmp .eq 5, 3), (2707, .iconst 0, 1), (2708, .ireturn, 1), (2709, .iload 6, 2), (2711, .ifCond .ne 15, 3), (2714, .aload_n 3, 1), (2715, .iconst 0, 1), (2716, .laload, 1), (2717, .iload 7, 2), (2719, .i2l, 1), (2720, .lcmp, 1), (2721, .ifCond .eq 5, 3), (2724, .iconst 0, 1), (2725, .ireturn, 1), (2726, .goto 682, 3), (2729, .aload_n 1, 1), (2730, .aload 4, 2), (2732, .invokestatic 358, 3), (2735, .istore 6, 2), (2737, .aload_n 2, 1), (2738, .invokevirtual 361, 3), (2741, .dstore 7, 2), (2743, .aload_n 2, 1), (2744, .invokevirtual 191, 3), (2747, .iload 6, 2), (2749, .if_icmp .eq 5, 3), (2752, .iconst 0, 1), (2753, .ireturn, 1), (2754, .iload 6, 2), (2756, .ifCond .ne 35, 3), (2759, .aload 4, 2), (2761, .iconst 0, 1), (2762, .daload, 1), (2763, .dload 7, 2), (2765, .dcmp .l, 1), (2766, .ifCond .eq 25, 3), (2769, .aload 4, 2), (2771, .iconst 0, 1), (2772, .daload, 1), (2773, .aload 4, 2), (2775, .iconst 0, 1), (2776, .daload, 1), (2777, .dcmp .l, 1), (2778, .ifCond .eq 11, 3), (2781, .dload 7, 2), (2783, .dload 7, 2), (2785, .dcmp .l, 1), (2786, .ifCond .ne 5, 3), (2789, .iconst 0, 1), (2790, .ireturn, 1), (2791, .goto 617, 3), (2794, .aload_n 1, 1), (2795, .aload 4, 2), (2797, .invokestatic 362, 3), (2800, .istore 6, 2), (2802, .aload_n 2, 1), (2803, .invokevirtual 364, 3), (2806, .fstore 7, 2), (2808, .aload_n 2, 1), (2809, .invokevirtual 191, 3), (2812, .iload 6, 2), (2814, .if_icmp .eq 5, 3), (2817, .iconst 0, 1), (2818, .ireturn, 1), (2819, .iload 6, 2), (2821, .ifCond .ne 36, 3), (2824, .aload 4, 2), (2826, .iconst 0, 1), (2827, .daload, 1), (2828, .fload 7, 2), (2830, .f2d, 1), (2831, .dcmp .l, 1), (2832, .ifCond .eq 25, 3), (2835, .aload 4, 2), (2837, .iconst 0, 1), (2838, .daload, 1), (2839, .aload 4, 2), (2841, .iconst 0, 1), (2842, .daload, 1), (2843, .dcmp .l, 1), (2844, .ifCond .eq 11, 3), (2847, .fload 7, 2), (2849, .fload 7, 2), (2851, .fcmp .l, 1), (2852, .ifCond .ne 5, 3), (2855, .iconst 0, 1), (2856, .ireturn, 1), (2857, .goto 551, 3), (2860, .aload_n 1, 1), (2861, .aload_n 3, 1), (2862, .invokestatic 365, 3), (2865, .istore 6, 2), (2867, .aload_n 2, 1), (2868, .invokevirtual 367, 3), (2871, .istore 7, 2), (2873, .aload_n 2, 1), (2874, .invokevirtual 191, 3), (2877, .iload 6, 2), (2879, .if_icmp .eq 5, 3), (2882, .iconst 0, 1), (2883, .ireturn, 1), (2884, .iload 6, 2), (2886, .ifCond .ne 15, 3), (2889, .aload_n 3, 1), (2890, .iconst 0, 1), (2891, .laload, 1), (2892, .iload 7, 2), (2894, .i2l, 1), (2895, .lcmp, 1), (2896, .ifCond .eq 5, 3), (2899, .iconst 0, 1), (2900, .ireturn, 1), (2901, .goto 507, 3), (2904, .aload_n 1, 1), (2905, .invokevirtual 368, 3), (2908, .aload_n 2, 1), (2909, .invokevirtual 371, 3), (2912, .if_icmp .eq 496, 3), (2915, .iconst 0, 1), (2916, .ireturn, 1), (2917, .aload_n 1, 1), (2918, .aload_n 0, 1), (2919, .iload 5, 2), (2921, .iconst 1, 1), (2922, .iadd, 1), (2923, .iaload, 1), (2924, .aload_n 3, 1), (2925, .invokestatic 372, 3), (2928, .istore 6, 2), (2930, .aload_n 2, 1), (2931, .aload_n 0, 1), (2932, .iload 5, 2), (2934, .iconst 1, 1), (2935, .iadd, 1), (2936, .iaload, 1), (2937, .invokevirtual 374, 3), (2940, .istore 7, 2), (2942, .aload_n 2, 1), (2943, .invokevirtual 191, 3), (2946, .iload 6, 2), (2948, .if_icmp .eq 5, 3), (2951, .iconst 0, 1), (2952, .ireturn, 1), (2953, .iload 6, 2), (2955, .ifCond .ne 15, 3), (2958, .aload_n 3, 1), (2959, .iconst 0, 1), (2960, .laload, 1), (2961, .iload 7, 2), (2963, .i2l, 1), (2964, .lcmp, 1), (2965, .ifCond .eq 5, 3), (2968, .iconst 0, 1), (2969, .ireturn, 1), (2970, .goto 438, 3), (2973, .aload_n 1, 1), (2974, .aload_n 0, 1), (2975, .iload 5, 2), (2977, .iconst 1, 1), (2978, .iadd, 1), (2979, .iaload, 1), (2980, .aload_n 3, 1), (2981, .invokestatic 375, 3), (2984, .istore 6, 2), (2986, .aload_n 2, 1), (2987, .aload_n 0, 1), (2988, .iload 5, 2), (2990, .iconst 1, 1), (2991, .iadd, 1), (2992, .iaload, 1), (2993, .invokevirtual 377, 3), (2996, .istore 7, 2), (2998, .aload_n 2, 1), (2999, .invokevirtual 191, 3), (3002, .iload 6, 2), (3004, .if_icmp .eq 5, 3), (3007, .iconst 0, 1), (3008, .ireturn, 1), (3009, .iload 6, 2), (3011, .ifCond .ne 15, 3), (3014, .aload_n 3, 1), (3015, .iconst 0, 1), (3016, .laload, 1), (3017, .iload 7, 2), (3019, .i2l, 1), (3020, .lcmp, 1), (3021, .ifCond .eq 5, 3), (3024, .iconst 0, 1), (3025, .ireturn, 1), (3026, .goto 382, 3), (3029, .aload_n 1, 1), (3030, .aload_n 0, 1), (3031, .iload 5, 2), (3033, .iconst 1, 1), (3034, .iadd, 1), (3035, .iaload, 1), (3036, .i2c, 1), (3037, .aload_n 3, 1), (3038, .invokestatic 378, 3), (3041, .istore 6, 2), (3043, .aload_n 2, 1), (3044, .aload_n 0, 1), (3045, .iload 5, 2), (3047, .iconst 1, 1), (3048, .iadd, 1), (3049, .iaload, 1), (3050, .i2c, 1), (3051, .invokevirtual 381, 3), (3054, .istore 7, 2), (3056, .aload_n 2, 1), (3057, .invokevirtual 191, 3), (3060, .iload 6, 2), (3062, .if_icmp .eq 5, 3), (3065, .iconst 0, 1), (3066, .ireturn, 1), (3067, .iload 6, 2), (3069, .ifCond .ne 15, 3), (3072, .aload_n 3, 1), (3073, .iconst 0, 1), (3074, .laload, 1), (3075, .iload 7, 2), (3077, .i2l, 1), (3078, .lcmp, 1), (3079, .ifCond .eq 5, 3), (3082, .iconst 0, 1), (3083, .ireturn, 1), (3084, .goto 324, 3), (3087, .aload_n 1, 1), (3088, .aload_n 3, 1), (3089, .invokestatic 382, 3), (3092, .istore 6, 2), (3094, .aload_n 2, 1), (3095, .invokevirtual 384, 3), (3098, .istore 7, 2), (3100, .aload_n 2, 1), (3101, .invokevirtual 191, 3), (3104, .iload 6, 2), (3106, .if_icmp .eq 5, 3), (3109, .iconst 0, 1), (3110, .ireturn, 1), (3111, .iload 6, 2), (3113, .ifCond .ne 15, 3), (3116, .aload_n 3, 1), (3117, .iconst 0, 1), (3118, .laload, 1), (3119, .iload 7, 2), (3121, .i2l, 1), (3122, .lcmp, 1), (3123, .ifCond .eq 5, 3), (3126, .iconst 0, 1), (3127, .ireturn, 1), (3128, .goto 280, 3), (3131, .aload_n 1, 1), (3132, .aload_n 3, 1), (3133, .invokestatic 385, 3), (3136, .istore 6, 2), (3138, .aload_n 2, 1), (3139, .invokevirtual 387, 3), (3142, .istore 7, 2), (3144, .aload_n 2, 1), (3145, .invokevirtual 191, 3), (3148, .iload 6, 2), (3150, .if_icmp .eq 5, 3), (3153, .iconst 0, 1), (3154, .ireturn, 1), (3155, .iload 6, 2), (3157, .ifCond .ne 15, 3), (3160, .aload_n 3, 1), (3161, .iconst 0, 1), (3162, .laload, 1), (3163, .iload 7, 2), (3165, .i2l, 1), (3166, .lcmp, 1), (3167, .ifCond .eq 5, 3), (3170, .iconst 0, 1), (3171, .ireturn, 1), (3172, .goto 236, 3), (3175, .aload_n 1, 1), (3176, .aload_n 3, 1), (3177, .invokestatic 388, 3), (3180, .istore 6, 2), (3182, .aload_n 2, 1), (3183, .invokevirtual 390, 3), (3186, .istore 7, 2), (3188, .aload_n 2, 1), (3189, .invokevirtual 191, 3), (3192, .iload 6, 2), (3194, .if_icmp .eq 5, 3), (3197, .iconst 0, 1), (3198, .ireturn, 1), (3199, .iload 6, 2), (3201, .ifCond .ne 15, 3), (3204, .aload_n 3, 1), (3205, .iconst 0, 1), (3206, .laload, 1), (3207, .iload 7, 2), (3209, .i2l, 1), (3210, .lcmp, 1), (3211, .ifCond .eq 5, 3), (3214, .iconst 0, 1), (3215, .ireturn, 1), (3216, .goto 192, 3), (3219, .aload_n 1, 1), (3220, .aload_n 3, 1), (3221, .invokestatic 391, 3), (3224, .istore 6, 2), (3226, .aload_n 2, 1), (3227, .invokevirtual 393, 3), (3230, .istore 7, 2), (3232, .aload_n 2, 1), (3233, .invokevirtual 191, 3), (3236, .iload 6, 2), (3238, .if_icmp .eq 5, 3), (3241, .iconst 0, 1), (3242, .ireturn, 1), (3243, .iload 6, 2), (3245, .ifCond .ne 15, 3), (3248, .aload_n 3, 1), (3249, .iconst 0, 1), (3250, .laload, 1), (3251, .iload 7, 2), (3253, .i2l, 1), (3254, .lcmp, 1), (3255, .ifCond .eq 5, 3), (3258, .iconst 0, 1), (3259, .ireturn, 1), (3260, .goto 148, 3), (3263, .aload_n 1, 1), (3264, .aload_n 3, 1), (3265, .invokestatic 394, 3), (3268, .istore 6, 2), (3270, .aload_n 2, 1), (3271, .invokevirtual 396, 3), (3274, .istore 7, 2), (3276, .aload_n 2, 1), (3277, .invokevirtual 191, 3), (3280, .iload 6, 2), (3282, .if_icmp .eq 5, 3), (3285, .iconst 0, 1), (3286, .ireturn, 1), (3287, .iload 6, 2), (3289, .ifCond .ne 15, 3), (3292, .aload_n 3, 1), (3293, .iconst 0, 1), (3294, .laload, 1), (3295, .iload 7, 2), (3297, .i2l, 1), (3298, .lcmp, 1), (3299, .ifCond .eq 5, 3), (3302, .iconst 0, 1), (3303, .ireturn, 1), (3304, .goto 104, 3), (3307, .aload_n 1, 1), (3308, .aload_n 3, 1), (3309, .invokestatic 397, 3), (3312, .istore 6, 2), (3314, .aload_n 2, 1), (3315, .invokevirtual 399, 3), (3318, .istore 7, 2), (3320, .aload_n 2, 1), (3321, .invokevirtual 191, 3), (3324, .iload 6, 2), (3326, .if_icmp .eq 5, 3), (3329, .iconst 0, 1), (3330, .ireturn, 1), (3331, .iload 6, 2), (3333, .ifCond .ne 15, 3), (3336, .aload_n 3, 1), (3337, .iconst 0, 1), (3338, .laload, 1), (3339, .iload 7, 2), (3341, .i2l, 1), (3342, .lcmp, 1), (3343, .ifCond .eq 5, 3), (3346, .iconst 0, 1), (3347, .ireturn, 1), (3348, .goto 60, 3), (3351, .aload_n 1, 1), (3352, .invokevirtual 400, 3), (3355, .aload_n 2, 1), (3356, .invokevirtual 403, 3), (3359, .if_icmp .eq 49, 3), (3362, .iconst 0, 1), (3363, .ireturn, 1), (3364, .aload_n 1, 1), (3365, .aload_n 3, 1), (3366, .invokestatic 404, 3), (3369, .istore 6, 2), (3371, .aload_n 2, 1), (3372, .invokevirtual 406, 3), (3375, .istore 7, 2), (3377, .aload_n 2, 1), (3378, .invokevirtual 191, 3), (3381, .iload 6, 2), (3383, .if_icmp .eq 5, 3), (3386, .iconst 0, 1), (3387, .ireturn, 1), (3388, .iload 6, 2), (3390, .ifCond .ne 15, 3), (3393, .aload_n 3, 1), (3394, .iconst 0, 1), (3395, .laload, 1), (3396, .iload 7, 2), (3398, .i2l, 1), (3399, .lcmp, 1), (3400, .ifCond .eq 5, 3), (3403, .iconst 0, 1), (3404, .ireturn, 1), (3405, .goto 3, 3), (3408, .iinc 5 5, 3), (3411, .goto (-3383), 3), (3414, .iconst 1, 1), (3415, .ireturn, 1)]
end
