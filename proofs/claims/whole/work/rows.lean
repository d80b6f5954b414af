section
/-! ===== BEGIN words of one list among another's, by their places ===== -/
theorem goodIn_r {big : List Cond} (ws : List Cond) (ps : List Nat) (hp : ws = ps.filterMap (fun i => big[i]?)) (h : ws.all goodWord = true) : GoodIn big ws := by
  intro w hw
  have h1 := List.all_eq_true.mp h w hw
  rw [hp] at hw
  obtain ⟨i, -, hi⟩ := List.mem_filterMap.mp hw
  have hm : w ∈ big := by first | exact List.mem_of_getElem? hi | exact List.getElem?_mem hi
  exact ⟨hm, good_of_word h1⟩
theorem goodIn_app {big a b : List Cond} (ha : GoodIn big a) (hb : GoodIn big b) : GoodIn big (a ++ b) := fun w h => (List.mem_append.mp h).elim (ha w) (hb w)
theorem goodIn_ca {big a b : List Cond} {c : Cond} (ha : GoodIn big (c :: a)) (hb : GoodIn big b) : GoodIn big (c :: (a ++ b)) := fun w h => (List.mem_cons.mp h).elim (fun e => ha w (List.mem_cons.mpr (Or.inl e))) (fun h => (List.mem_append.mp h).elim (fun h => ha w (List.mem_cons.mpr (Or.inr h))) (hb w))
theorem goodIn_sub {big ws : List Cond} (hm : ∀ w ∈ ws, w ∈ big) (h : ws.all goodWord = true) : GoodIn big ws := fun w hw => ⟨hm w hw, good_of_word (List.all_eq_true.mp h w hw)⟩
/-! ===== END ===== -/

/-! ===== BEGIN exceptions that leave a method, and their catching by the caller (launches without stack traces) ===== -/
section VXA
/-! The laws vx_back, vx_callV, vx_callS, vx_callSW, vx_throw0, vx_throwS follow proofs of the library, with one case more: JvmDerived/Free/Laws.lean (Back.of_free), Shelf42/LK1.lean (callV, callS), Shelf/KitTraced.lean (throwNew0V, throwNewS). -/
/-- where a method has thrown q: the class by its name, the cell, what was written, the world -/
def vx_T (XC : String → State → State → Prop) (st : State) (q : Addr) (t : State) (mc ms : Nat) (free : Addr → Prop) : Prop :=
  ∃ (E : String) (ce : Cell) (L : List Loc), XC E st t ∧ t.heap[q]? = some ce ∧ ce.vm = .none ∧ st.vm.findClass E = some ce.cls ∧ st.WarmedH t.vm ∧ st.sameButNew ({ t with vm := st.vm } : State) L mc ms ∧ ∀ z ∈ L, free z.base
def vx_Q (Qc : Array Value → State → Outcome → State → Prop) (XC : String → State → State → Prop) (mc ms : Nat) (free : Addr → Prop) : Array Value → State → Outcome → State → Prop := fun a st o t =>
  (Qc a st o t ∧ ∃ L, FrameEnd st o t L mc ms ∧ ∀ q ∈ L, free q.base) ∨ ∃ q, o = .threw q ∧ vx_T XC st q t mc ms free
/-- a callee that returns or throws -/
def vx_Met (l : Launch) (y : MethodName) (ws : List Cond) (rm : Room) (Pc : Array Value → State → Prop) (Qc : Array Value → State → Outcome → State → Prop) (XC : String → State → State → Prop) (mc ms : Nat) (free : Addr → Prop) : Prop :=
  MetFree l y (headSpec ws rm) Pc (fun _ _ _ _ _ => True) (vx_Q Qc XC mc ms free)
def vx_Post (XC : String → State → State → Prop) (mc ms : Nat) (free : Addr → Prop) : Pt → Array Value → Addr → Pt → Prop := fun A a q B =>
  ∃ (g : JFrame) (mk : MethodId) (t : State) (L : List Loc) (E : String) (ce : Cell), B.U.heap = t.heap ∧ B.U.vm = t.vm ∧ XC E (A.U.calling g mk a) t ∧ t.heap[q]? = some ce ∧ ce.vm = .none ∧ A.U.vm.findClass E = some ce.cls ∧ B.locs = A.locs ++ L ∧ (∀ z ∈ L, free z.base) ∧ B.cells = A.cells + mc ∧ B.slots = A.slots + ms
def vx_Back (l : Launch) (R : Room) (p : Program) (e : Env) (below : List Frame) (s : State) (sargs : Array Value) (y : MethodName) (len W9 : Nat)
    (Pre : Pt → Array Value → Prop) (Post : Pt → Array Value → Option Value → Pt → Prop) (PostX : Pt → Array Value → Addr → Pt → Prop) : Prop :=
  ∀ (m : MethodId) (meth : Method) (c : Code) (A : Pt) (g : JFrame) (ig : Instr) (mk : MethodId) (a : Array Value),
    Stand p l e R s m sargs below meth c A.U A.locs A.cells A.slots → g.method = m → g.locals.size = c.maxLocals → decode c.code g.pc = .ok (ig, len) →
    2 * g.monitorRoom + (g.stack.map fun v => v.category).sum ≤ W9 → A.U.methodNamed? y = some mk → Pre A a →
    (∃ (v : Option Value) (B : Pt), Stand p l e R s m sargs below meth c B.U B.locs B.cells B.slots ∧ Post A a v B ∧
      Steps p.tables e below (doInvoke e (A.U.setTop g) [] mk a).1 (B.U.setTop { g with pc := g.pc + len, stack := v.toList ++ g.stack })) ∨
    (∃ (q : Addr) (B : Pt), Stand p l e R s m sargs below meth c B.U B.locs B.cells B.slots ∧ PostX A a q B ∧
      Steps p.tables e below (doInvoke e (A.U.setTop g) [] mk a).1 ((B.U.setTop g).pushFrame (.throwing q)))
section Payer
variable {l : Launch} {R : Room} {p : Program} {e : Env} {below : List Frame} {s : State} {sargs : Array Value} {y : MethodName} {len W9 : Nat}
theorem vx_back {ws : List Cond} {rm : Room} {Pc : Array Value → State → Prop} {Qc : Array Value → State → Outcome → State → Prop} {XC : String → State → State → Prop} {mc ms : Nat} {free : Addr → Prop} {bytes : ByteArray} {maxL : Nat} {ret : Option FieldType}
    (hM : vx_Met l y ws rm Pc Qc XC mc ms free) (hblind : FrameBlind Pc) (hrc : rm.cells = mc) (hrs : rm.slots = ms)
    (hframes : rm.frames + 1 ≤ R.frames) (hlocals : W9 + (maxL + 11) + rm.locals ≤ R.locals)
    (hws : ∀ w ∈ ws, ∀ a' U, s.WarmedH U.vm → w.before a' U = true) (hcode : Cond.code y bytes maxL ret ∈ ws) (hinit : ∀ a' U, s.WarmedH U.vm → (Cond.initialized y.cls).before a' U = true) :
    vx_Back l R p e below s sargs y len W9 (PreOf R mc ms Pc) (PostOf Qc mc ms free) (vx_Post XC mc ms free) := by
  intro m meth c A g ig mk a X hg hsize hdg hW hn hp
  have h1 : (headSpec ws rm).pre.before a A.U = true := atoms_intro fun w hw => hws w hw _ _ X.warmed
  have h2 : (Cond.code y bytes maxL ret).before a A.U = true := hws _ hcode _ _ X.warmed
  have h3 : (Cond.initialized y.cls).before a A.U = true := hinit _ _ X.warmed
  have h4 : A.cells + (headSpec ws rm).room.cells ≤ R.cells := by rw [show (headSpec ws rm).room.cells = mc from hrc]; exact hp.1
  have h5 : A.slots + (headSpec ws rm).room.slots ≤ R.slots := by rw [show (headSpec ws rm).room.slots = ms from hrs]; exact hp.2.1
  have hPc : Pc a (A.U.calling g mk a) := hblind _ _ _ _ hp.2.2
  obtain ⟨U, Ls, c0, s0⟩ := A
  dsimp only [Pt.U, Pt.locs, Pt.cells, Pt.slots] at h1 h2 h3 h4 h5 X hn hPc ⊢
  obtain ⟨methY, cY, hmY, hcY, -, hlY, -, -, -, -⟩ := Cond.code_spec hn h2
  obtain ⟨kY, hkY, -⟩ := className_of_methodNamed hn
  have hinitY : kY.init = .initialized := Cond.initialized_spec (findClass_of_methodNamed hn) hkY h3
  have h : At U g.method c below := by rw [hg]; exact X.here
  have hlocals9 : W9 + (maxL + 11) + (headSpec ws rm).room.locals ≤ R.locals := hlocals
  have happ : (headSpec ws rm).appliesLoose y e.platform (U.calling g mk a) = true :=
    Spec.appliesLoose_calling (g := g) h hdg hn hkY hinitY
      (X.room_calling (g := g) (R' := (headSpec ws rm).room) hsize hmY hcY hframes (by rw [hlY]; omega) h4 h5) h1
  obtain ⟨mid, hmid⟩ := h.above
  have hfr : (U.setTop g).frames = (.java g :: mid) ++ below := by rw [State.frames_setTop' g h.top, hmid]; rfl
  obtain ⟨o, s₂, hsteps, -, hend, hq⟩ := Steps.callFree hM p X.admits X.cas X.clock (acts := []) hfr happ hPc trivial
  have hq' : vx_Q Qc XC mc ms free a (U.calling g mk a) o s₂ := hq
  rw [State.frames_setTop' g h.top] at hend
  obtain ⟨g₀, hg0⟩ := Option.isSome_iff_exists.mp h.top
  obtain ⟨r, hr⟩ := State.topJava?_eq_some.mp hg0
  have hr' : (({ U with heap := s₂.heap, slotsUsed := s₂.slotsUsed } : State).setVm s₂.vm).frames = .java g₀ :: r := hr
  rcases hq' with ⟨hqc, L, hfe, hL⟩ | ⟨q, rfl, E, ce, L, hx, hce, hcv, hcl, hW₂, hsm, hL⟩
  · obtain ⟨⟨v, rfl⟩, hW₂, e2, q2, q3, q4, q5, q6⟩ := id hfe
    have e3 : s₂ = ({ (U.calling g mk a).setFrames s₂.frames with heap := s₂.heap, slotsUsed := s₂.slotsUsed } : State).setVm s₂.vm := by
      have : s₂ = ({ s₂ with vm := (U.calling g mk a).vm } : State).setVm s₂.vm := rfl
      rw [e2] at this
      exact this
    obtain ⟨c₂, i₂, len₂, hc₂, hd₂, hf₂⟩ := hend
    have hW' : U.WarmedH s₂.vm := hW₂
    have hcc : c₂ = c := by
      have h1 : s₂.code? g.method = U.code? g.method := by
        rw [State.code?_eq, State.code?_eq, hW'.alike.method?]
      exact Option.some.inj (hc₂.symm.trans (h1.trans h.code))
    subst hcc
    have hlen : len₂ = len := by rw [hdg] at hd₂; cases hd₂; rfl
    subst hlen
    have hs₂ : s₂ = (({ U with heap := s₂.heap, slotsUsed := s₂.slotsUsed } : State).setVm s₂.vm).setTop { g with pc := g.pc + len₂, stack := v.toList ++ g.stack } := by
      refine e3.trans ?_
      rw [hf₂, State.calling_eq h.top, State.setFrames_setFrames, State.setTop_of_frames _ hr', hr]
      rfl
    have hsame : U.sameButNew ({ U with heap := s₂.heap, slotsUsed := s₂.slotsUsed } : State) L mc ms := by
      refine ⟨?_, q2, q3, q4, q5, q6⟩
      obtain ⟨t, ht, -⟩ := State.frames_cons hr
      show ({ U with heap := s₂.heap, slotsUsed := s₂.slotsUsed } : State) = { U.setFrames U.frames with heap := s₂.heap, slotsUsed := s₂.slotsUsed }
      rw [State.setFrames_self ht]
    subst hg
    refine Or.inl ⟨v, ⟨(({ U with heap := s₂.heap, slotsUsed := s₂.slotsUsed } : State).setVm s₂.vm), Ls ++ L, c0 + mc, s0 + ms⟩,
      ⟨X.admits, X.cas, X.clock, X.frames, X.room, X.hears, X.method, X.code, (X.here.setHeapUsed s₂.heap s₂.slotsUsed).setVm hW'.alike, X.tail, State.WarmedH.trans X.warmed hW', X.limits, X.bytes, X.same.trans (hsame.setVm s.vm)⟩,
      ⟨g, mk, s₂, L, rfl, rfl, hqc, rfl, hL, rfl, rfl⟩, ?_⟩
    show Steps p.tables e below _ ((({ U with heap := s₂.heap, slotsUsed := s₂.slotsUsed } : State).setVm s₂.vm).setTop { g with pc := g.pc + len₂, stack := v.toList ++ g.stack })
    rw [← hs₂]
    exact hsteps
  · obtain ⟨e2, q2, q3, q4, q5, q6⟩ := id hsm
    have e3 : s₂ = ({ (U.calling g mk a).setFrames s₂.frames with heap := s₂.heap, slotsUsed := s₂.slotsUsed } : State).setVm s₂.vm := by
      have : s₂ = ({ s₂ with vm := (U.calling g mk a).vm } : State).setVm s₂.vm := rfl
      rw [e2] at this
      exact this
    have hf₂ : s₂.frames = .throwing q :: .java g :: U.frames.tail := hend
    have hW' : U.WarmedH s₂.vm := hW₂
    have hs₂ : s₂ = ((({ U with heap := s₂.heap, slotsUsed := s₂.slotsUsed } : State).setVm s₂.vm).setTop g).pushFrame (.throwing q) := by
      refine e3.trans ?_
      rw [hf₂, State.calling_eq h.top, State.setFrames_setFrames, State.pushFrame, State.frames_setTop _ hr', State.setTop_of_frames _ hr', State.setFrames_setFrames, hr]
      rfl
    have hsame : U.sameButNew ({ U with heap := s₂.heap, slotsUsed := s₂.slotsUsed } : State) L mc ms := by
      refine ⟨?_, q2, q3, q4, q5, q6⟩
      obtain ⟨t, ht, -⟩ := State.frames_cons hr
      show ({ U with heap := s₂.heap, slotsUsed := s₂.slotsUsed } : State) = { U.setFrames U.frames with heap := s₂.heap, slotsUsed := s₂.slotsUsed }
      rw [State.setFrames_self ht]
    subst hg
    refine Or.inr ⟨q, ⟨(({ U with heap := s₂.heap, slotsUsed := s₂.slotsUsed } : State).setVm s₂.vm), Ls ++ L, c0 + mc, s0 + ms⟩,
      ⟨X.admits, X.cas, X.clock, X.frames, X.room, X.hears, X.method, X.code, (X.here.setHeapUsed s₂.heap s₂.slotsUsed).setVm hW'.alike, X.tail, State.WarmedH.trans X.warmed hW', X.limits, X.bytes, X.same.trans (hsame.setVm s.vm)⟩,
      ⟨g, mk, s₂, L, E, ce, rfl, rfl, hx, hce, hcv, hcl, rfl, hL, rfl, rfl⟩, ?_⟩
    show Steps p.tables e below _ (((({ U with heap := s₂.heap, slotsUsed := s₂.slotsUsed } : State).setVm s₂.vm).setTop g).pushFrame (.throwing q))
    rw [← hs₂]
    exact hsteps
end Payer
section Calls
variable {p : Program} {l : Launch} {e : Env} {R : Room} {s : State} {m : MethodId} {args : Array Value} {below : List Frame} {meth : Method} {c : Code} {T : State} {locs : List Loc} {cells slots : Nat}
theorem vx_callV (X : Stand p l e R s m args below meth c T locs cells slots) (hexec : p.tables.exec = Jvm.exec) {own C : String} {index : Nat} {y : MethodName} {bytes : ByteArray} {maxL : Nat} {ret : Option FieldType}
    (hown : s.vm.findClass own = some m.cls) (hlink : (Cond.methodLink own index y).before args s = true) (hinst : (Cond.instanceMethod y).before args s = true) (hsel : (Cond.selects C y y).before args s = true)
    (hcode : (Cond.code y bytes maxL ret).before args s = true) (hy : y.cls ≠ "java/lang/invoke/MethodHandle" ∧ y.cls ≠ "java/lang/invoke/VarHandle")
    {W9 : Nat} {Pre : Pt → Array Value → Prop} {Post : Pt → Array Value → Option Value → Pt → Prop} {PostX : Pt → Array Value → Addr → Pt → Prop} (hK : vx_Back l R p e below s args y 3 W9 Pre Post PostX)
    {b : Addr} {cellB : Cell} (hcell : T.heap[b]? = some cellB) (hobj : cellB.vm.isStatics = false) (hcls : s.vm.findClass C = some cellB.cls)
    {g : JFrame} (hg : g.method = m) (hsize : g.locals.size = c.maxLocals) {argsL rest : List Value} (hlen : ∀ sig, parseMethodDescriptor y.desc = some sig → argsL.length = sig.parameters.length)
    (hstack : g.stack = argsL.reverse ++ .ref b :: rest) (hW : 2 * g.monitorRoom + (rest.map fun v => v.category).sum ≤ W9) (hdg : decode c.code g.pc = .ok (.invokevirtual index, 3))
    (hpre : ∀ vm₁, s.WarmedH vm₁ → Pre ⟨T.setVm vm₁, locs, cells, slots⟩ (Value.ref b :: argsL).toArray) :
    (∃ (v : Option Value) (vm₁ : Vm) (B : Pt), s.WarmedH vm₁ ∧ Stand p l e R s m args below meth c B.U B.locs B.cells B.slots ∧ Post ⟨T.setVm vm₁, locs, cells, slots⟩ (Value.ref b :: argsL).toArray v B ∧
      ∀ target, Steps p.tables e below (B.U.setTop { g with pc := g.pc + 3, stack := v.toList ++ rest }) target → Steps p.tables e below (T.setTop g) target) ∨
    (∃ (q : Addr) (vm₁ : Vm) (B : Pt), s.WarmedH vm₁ ∧ Stand p l e R s m args below meth c B.U B.locs B.cells B.slots ∧ PostX ⟨T.setVm vm₁, locs, cells, slots⟩ (Value.ref b :: argsL).toArray q B ∧
      Steps p.tables e below (T.setTop g) ((B.U.setTop { g with stack := rest }).pushFrame (.throwing q))) := by
  obtain ⟨mk, methM, hnamed, hmethM, hstM, habM⟩ := Cond.instanceMethod_spec hinst
  obtain ⟨methM', cM, hmethM', -, -, -, -, -, -, hsigM⟩ := Cond.code_spec hnamed hcode
  cases hmethM.symm.trans hmethM'
  obtain ⟨c2, r2, m2, q1, q2, q3, q4, kP, hkP, hkPi⟩ := Cond.selects_spec hsel
  cases hcls.symm.trans q1
  cases (State.methodFound?_of_named hnamed hy).symm.trans q2
  cases hnamed.symm.trans q3
  have hselP : selectMethod e.platform s.vm cellB.cls mk = .method mk := by rw [Launch.admits_selectMethod X.admits]; exact q4
  obtain ⟨vm₁, X₁, hstep₁⟩ := X.invokevirtual hexec hown hlink hnamed hmethM hstM hkP hkPi hy (a := b) (cell := cellB) hcell
    (fun z h => by rw [h] at hobj; cases hobj) hselP hmethM habM hkP hkPi (g := g) hg (argsL := argsL) (rest := rest) (hlen _ hsigM) hstack hdg
  rcases hK m meth c ⟨T.setVm vm₁, locs, cells, slots⟩ { g with stack := rest } (.invokevirtual index) mk (Value.ref b :: argsL).toArray X₁ hg hsize hdg hW (X₁.named hnamed) (hpre vm₁ X₁.warmed) with ⟨v, B, X', hpost, hsteps⟩ | ⟨q, B, X', hpost, hsteps⟩
  · exact Or.inl ⟨v, vm₁, B, X₁.warmed, X', hpost, fun target h => hstep₁ _ fun acts => by rw [doInvoke_state]; exact hsteps.trans h⟩
  · exact Or.inr ⟨q, vm₁, B, X₁.warmed, X', hpost, hstep₁ _ fun acts => by rw [doInvoke_state]; exact hsteps⟩
theorem vx_callS (X : Stand p l e R s m args below meth c T locs cells slots) (hexec : p.tables.exec = Jvm.exec) {own : String} {index : Nat} {y : MethodName} {bytes : ByteArray} {maxL : Nat} {ret : Option FieldType}
    (hown : s.vm.findClass own = some m.cls) (hlink : (Cond.methodLink own index y).before args s = true) (hstat : (Cond.static y).before args s = true) (hinit : (Cond.initialized y.cls).before args s = true)
    (hcode : (Cond.code y bytes maxL ret).before args s = true) (hy : y.cls ≠ "java/lang/invoke/MethodHandle" ∧ y.cls ≠ "java/lang/invoke/VarHandle")
    {W9 : Nat} {Pre : Pt → Array Value → Prop} {Post : Pt → Array Value → Option Value → Pt → Prop} {PostX : Pt → Array Value → Addr → Pt → Prop} (hK : vx_Back l R p e below s args y 3 W9 Pre Post PostX)
    {g : JFrame} (hg : g.method = m) (hsize : g.locals.size = c.maxLocals) {argsL rest : List Value} (hlen : ∀ sig, parseMethodDescriptor y.desc = some sig → argsL.length = sig.parameters.length)
    (hstack : g.stack = argsL.reverse ++ rest) (hW : 2 * g.monitorRoom + (rest.map fun v => v.category).sum ≤ W9) (hdg : decode c.code g.pc = .ok (.invokestatic index, 3))
    (hpre : ∀ vm₁, s.WarmedH vm₁ → Pre ⟨T.setVm vm₁, locs, cells, slots⟩ argsL.toArray) :
    (∃ (v : Option Value) (vm₁ : Vm) (B : Pt), s.WarmedH vm₁ ∧ Stand p l e R s m args below meth c B.U B.locs B.cells B.slots ∧ Post ⟨T.setVm vm₁, locs, cells, slots⟩ argsL.toArray v B ∧
      ∀ target, Steps p.tables e below (B.U.setTop { g with pc := g.pc + 3, stack := v.toList ++ rest }) target → Steps p.tables e below (T.setTop g) target) ∨
    (∃ (q : Addr) (vm₁ : Vm) (B : Pt), s.WarmedH vm₁ ∧ Stand p l e R s m args below meth c B.U B.locs B.cells B.slots ∧ PostX ⟨T.setVm vm₁, locs, cells, slots⟩ argsL.toArray q B ∧
      Steps p.tables e below (T.setTop g) ((B.U.setTop { g with stack := rest }).pushFrame (.throwing q))) := by
  obtain ⟨mk, hnamed⟩ := Cond.code_named hcode
  obtain ⟨methM, cM, hmethM, -, -, -, -, -, -, hsigM⟩ := Cond.code_spec hnamed hcode
  have hstatic : methM.isStatic = true := Cond.static_spec hnamed hmethM hstat
  obtain ⟨kP, hkP, -⟩ := className_of_methodNamed hnamed
  have hinitP : kP.init = .initialized := Cond.initialized_spec (findClass_of_methodNamed hnamed) hkP hinit
  obtain ⟨vm₁, X₁, hstep₁⟩ := X.invokestatic hexec hown hlink hnamed hmethM hstatic hkP hinitP hy (g := g) hg (argsL := argsL) (rest := rest) (hlen _ hsigM) hstack hdg
  rcases hK m meth c ⟨T.setVm vm₁, locs, cells, slots⟩ { g with stack := rest } (.invokestatic index) mk argsL.toArray X₁ hg hsize hdg hW (X₁.named hnamed) (hpre vm₁ X₁.warmed) with ⟨v, B, X', hpost, hsteps⟩ | ⟨q, B, X', hpost, hsteps⟩
  · exact Or.inl ⟨v, vm₁, B, X₁.warmed, X', hpost, fun target h => hstep₁ _ fun acts => by rw [doInvoke_state]; exact hsteps.trans h⟩
  · exact Or.inr ⟨q, vm₁, B, X₁.warmed, X', hpost, hstep₁ _ fun acts => by rw [doInvoke_state]; exact hsteps⟩
end Calls
theorem vx_cls {s : State} {T : State} {vm₁ : Vm} {E : String} {k : ClassId} (hW : s.WarmedH vm₁) (h : (T.setVm vm₁).vm.findClass E = some k) : s.vm.findClass E = some k := by
  have h1 : vm₁.findClass E = some k := h
  rw [hW.alike.findClass] at h1
  exact h1
/-- the method's frame g, with q thrown over it -/
def vx_W (p : Program) (l : Launch) (e : Env) (R : Room) (s : State) (m : MethodId) (args : Array Value) (below : List Frame) (meth : Method) (c : Code) (H : Heap) (locs : List Loc) (cells slots : Nat) (Q : State → Prop) (g : JFrame) (q : Addr) : Prop :=
  ∀ T : State, T.heap = H → Stand p l e R s m args below meth c T locs cells slots → ∃ t, Steps p.tables e below ((T.setTop g).pushFrame (.throwing q)) t ∧ Q t
def vx_Run (p : Program) (l : Launch) (e : Env) (R : Room) (s : State) (m : MethodId) (args : Array Value) (below : List Frame) (meth : Method) (c : Code) (H : Heap) (locs : List Loc) (cells slots mc ms : Nat) (g : JFrame) (rest : List Value) (Qa : State → Outcome → State → Prop) (XC : String → State → State → Prop) (free : Addr → Prop) : Prop :=
  ∀ T : State, T.heap = H → Stand p l e R s m args below meth c T locs cells slots →
    (∃ (v : Option Value) (st₀ t T' : State) (L : List Loc), st₀.heap = H ∧ Stand p l e R s m args below meth c T' (locs ++ L) (cells + mc) (slots + ms) ∧ (∀ q ∈ L, free q.base) ∧ T'.heap = t.heap ∧ T'.vm = t.vm ∧ Qa st₀ (.returned v) t ∧
      Goes p e below T g T' { g with pc := g.pc + 3, stack := v.toList ++ rest }) ∨
    (∃ (q : Addr) (st₀ t T' : State) (L : List Loc) (E : String) (ce : Cell), st₀.heap = H ∧ Stand p l e R s m args below meth c T' (locs ++ L) (cells + mc) (slots + ms) ∧ (∀ z ∈ L, free z.base) ∧ T'.heap = t.heap ∧ T'.vm = t.vm ∧ XC E st₀ t ∧ t.heap[q]? = some ce ∧ ce.vm = .none ∧ s.vm.findClass E = some ce.cls ∧
      Steps p.tables e below (T.setTop g) ((T'.setTop { g with stack := rest }).pushFrame (.throwing q)))
def vx_X {S : Type} (px : S → Prop) (B : String → S → State → Prop) (A : Nat → Prop) : String → State → State → Prop := fun E st t => ∃ u : S, px u ∧ B E u t ∧ va_F A st t
section Runs
variable {p : Program} {l : Launch} {e : Env} {R : Room} {s : State} {m : MethodId} {args : Array Value} {below : List Frame} {meth : Method} {c : Code} {H : Heap} {locs : List Loc} {cells slots : Nat}
variable {y : MethodName} {bytes cc : ByteArray} {maxL nL mc ms n index : Nat} {ret : Option FieldType} {ws : List Cond} {rm : Room} {Pc : Array Value → State → Prop} {Qc : Array Value → State → Outcome → State → Prop} {XC : String → State → State → Prop} {free : Addr → Prop} {Ts : List Cond} {own C : String} {b : Addr} {As rest : List Value} {g : JFrame}
theorem vx_callBack (cb : CallB R s args own index y bytes maxL ret ws rm mc ms n) (hM : vx_Met l y ws rm Pc Qc XC mc ms free) (hbl : FrameBlind Pc) : vx_Back l R p e below s args y 3 8 (PreOf R mc ms Pc) (PostOf Qc mc ms free) (vx_Post XC mc ms free) := by
  obtain ⟨hrc, hrs, hfr, hlo, hws, hcw, -, hini, -⟩ := cb
  exact vx_back (bytes := bytes) (maxL := maxL) (ret := ret) hM hbl hrc hrs hfr hlo hws hcw (fun a' U hW => word_at hW (Or.inl (by first | rfl | simp [Cond.onTables, Cond.keeps, Cond.steady])) hini)
theorem vx_runV (S : CallFix p m c cc nL s args Ts own) (hM : vx_Met l y ws rm Pc Qc XC mc ms free) (cw : CallW R s args own C index y bytes maxL ret ws rm mc ms n) (hp : PreV s H C b Pc As)
    (hg : g.method = m) (hn : As.length = n) (hsize : g.locals.size = nL) (hstack : g.stack = As.reverse ++ .ref b :: rest) (hW : 2 * g.monitorRoom + (rest.map fun v => v.category).sum ≤ 8) (hdg : decode cc g.pc = .ok (.invokevirtual index, 3)) (hf : cells + mc ≤ R.cells ∧ slots + ms ≤ R.slots) :
    vx_Run p l e R s m args below meth c H locs cells slots mc ms g rest (Qc (Value.ref b :: As).toArray) XC free := by
  have hK : vx_Back l R p e below s args y 3 8 (PreOf R mc ms Pc) (PostOf Qc mc ms free) (vx_Post XC mc ms free) := vx_callBack cw.1 hM hp.1
  obtain ⟨⟨-, -, -, -, -, -, hcode, -, hy, hlen, hl⟩, hin, hse⟩ := cw
  obtain ⟨hx, hb, hml, ho, -⟩ := S
  obtain ⟨-, ⟨cellB, hcB, hoB, hclB⟩, hPc⟩ := hp
  intro T hT X
  rcases vx_callV X hx (C := C) (bytes := bytes) (maxL := maxL) (ret := ret) ho hl hin hse hcode hy hK (by rw [hT]; exact hcB) hoB hclB hg (hsize.trans hml.symm) (argsL := As) (rest := rest) (fun sig h => hn.trans (hlen sig h)) hstack hW (by rw [hb]; exact hdg)
    (fun vm₁ hW₁ => ⟨hf.1, hf.2, hPc (T.setVm vm₁) hT hW₁⟩) with ⟨v, vm₁, ⟨U', l2, c2, s2⟩, hW₁, X', ⟨g', mk, t, L, e1, e2, hq, h1, hL, h2, h3⟩, st⟩ | ⟨q, vm₁, ⟨U', l2, c2, s2⟩, hW₁, X', ⟨g', mk, t, L, E, ce, e1, e2, hq, hce, hcv, hcl, h1, hL, h2, h3⟩, st⟩
  · dsimp only [Pt.U, Pt.locs, Pt.cells, Pt.slots] at X' e1 e2 h1 h2 h3 st
    subst h1; subst h2; subst h3
    exact Or.inl ⟨v, (T.setVm vm₁).calling g' mk (Value.ref b :: As).toArray, t, U', L, hT, X', hL, e1, e2, hq, st⟩
  · dsimp only [Pt.U, Pt.locs, Pt.cells, Pt.slots] at X' e1 e2 h1 h2 h3 st hcl
    subst h1; subst h2; subst h3
    exact Or.inr ⟨q, (T.setVm vm₁).calling g' mk (Value.ref b :: As).toArray, t, U', L, E, ce, hT, X', hL, e1, e2, hq, hce, hcv, vx_cls hW₁ hcl, st⟩
theorem vx_runS (S : CallFix p m c cc nL s args Ts own) (hM : vx_Met l y ws rm Pc Qc XC mc ms free) (cw : CallB R s args own index y bytes maxL ret ws rm mc ms n ∧ (Cond.static y).before args s = true) (hp : PreS s H Pc As)
    (hg : g.method = m) (hn : As.length = n) (hsize : g.locals.size = nL) (hstack : g.stack = As.reverse ++ rest) (hW : 2 * g.monitorRoom + (rest.map fun v => v.category).sum ≤ 8) (hdg : decode cc g.pc = .ok (.invokestatic index, 3)) (hf : cells + mc ≤ R.cells ∧ slots + ms ≤ R.slots) :
    vx_Run p l e R s m args below meth c H locs cells slots mc ms g rest (Qc As.toArray) XC free := by
  have hK : vx_Back l R p e below s args y 3 8 (PreOf R mc ms Pc) (PostOf Qc mc ms free) (vx_Post XC mc ms free) := vx_callBack cw.1 hM hp.1
  obtain ⟨⟨-, -, -, -, -, -, hcode, hini, hy, hlen, hl⟩, hstt⟩ := cw
  obtain ⟨hx, hb, hml, ho, -⟩ := S
  intro T hT X
  rcases vx_callS X hx (bytes := bytes) (maxL := maxL) (ret := ret) ho hl hstt hini hcode hy hK hg (hsize.trans hml.symm) (argsL := As) (rest := rest) (fun sig h => hn.trans (hlen sig h)) hstack hW (by rw [hb]; exact hdg)
    (fun vm₁ hW₁ => ⟨hf.1, hf.2, hp.2 (T.setVm vm₁) hT hW₁⟩) with ⟨v, vm₁, ⟨U', l2, c2, s2⟩, hW₁, X', ⟨g', mk, t, L, e1, e2, hq, h1, hL, h2, h3⟩, st⟩ | ⟨q, vm₁, ⟨U', l2, c2, s2⟩, hW₁, X', ⟨g', mk, t, L, E, ce, e1, e2, hq, hce, hcv, hcl, h1, hL, h2, h3⟩, st⟩
  · dsimp only [Pt.U, Pt.locs, Pt.cells, Pt.slots] at X' e1 e2 h1 h2 h3 st
    subst h1; subst h2; subst h3
    exact Or.inl ⟨v, (T.setVm vm₁).calling g' mk As.toArray, t, U', L, hT, X', hL, e1, e2, hq, st⟩
  · dsimp only [Pt.U, Pt.locs, Pt.cells, Pt.slots] at X' e1 e2 h1 h2 h3 st hcl
    subst h1; subst h2; subst h3
    exact Or.inr ⟨q, (T.setVm vm₁).calling g' mk As.toArray, t, U', L, E, ce, hT, X', hL, e1, e2, hq, hce, hcv, vx_cls hW₁ hcl, st⟩
end Runs
section Rows
variable {p : Program} {l : Launch} {e : Env} {R : Room} {s : State} {m : MethodId} {args : Array Value} {below : List Frame} {meth : Method} {c : Code} {H : Heap} {locs : List Loc} {cells slots : Nat} {Q : State → Prop}
variable {mc ms : Nat} {free : Addr → Prop} {A0 A1 : Nat → Prop} {H0 : Heap} {a : Array Value} {pc : Nat} {ls : Array Slot} {st0 rest : List Value}
theorem vx_keep {st₀ t T' : State} {L : List Loc} (h0 : st₀.heap = H) (e1 : T'.heap = t.heap) (hS : va_S A0 H0 H locs) (hA : ∀ q, q < H.size → A1 q → A0 q) (hf : ∀ q, free q → A0 q) (hL : ∀ q ∈ L, free q.base) (hF : va_F A1 st₀ t) :
    H.size ≤ T'.heap.size ∧ (∀ q : Nat, q < H.size → ¬ A1 q → T'.heap[q]? = H[q]?) ∧ va_S A0 H0 T'.heap (locs ++ L) := by
  obtain ⟨hz, hk⟩ := hF
  rw [h0] at hz hk
  exact ⟨by rw [e1]; exact hz, fun q h1 h2 => by rw [e1]; exact hk q h1 h2,
    ⟨Nat.le_trans hS.1 (by rw [e1]; exact hz), fun q h1 h2 => by rw [e1, hk q (Nat.lt_of_lt_of_le h1 hS.1) (fun z => h2 (hA q (Nat.lt_of_lt_of_le h1 hS.1) z))]; exact hS.2.1 q h1 h2, fun q hq => by
      rcases List.mem_append.mp hq with h | h
      · exact hS.2.2 q h
      · exact hf _ (hL q h)⟩⟩
theorem vx_calli {S SX : Type} {post : Int32 → S → Prop} {px : SX → Prop} {B : S → State → Prop} {BX : String → SX → State → Prop} {AX : Nat → Prop} (hr : vx_Run p l e R s m args below meth c H locs cells slots mc ms (F0 m pc ls st0) rest (va_Qi post B A1 a) (vx_X px BX AX) free) (hS : va_S A0 H0 H locs) (hA : ∀ q, q < H.size → A1 q → A0 q) (hf : ∀ q, free q → A0 q) (hAX : ∀ q, q < H.size → AX q → A0 q)
    (kx : ∀ (E : String) (ce : Cell) (q9 : Addr) (u : SX) (t : State) (H1 : Heap) (locs1 : List Loc), t.heap = H1 → s.vm.Alike t.vm → px u → BX E u t → H.size ≤ H1.size → (∀ q : Nat, q < H.size → ¬ AX q → H1[q]? = H[q]?) → va_S A0 H0 H1 locs1 → H1[q9]? = some ce → ce.vm = .none → s.vm.findClass E = some ce.cls → vx_W p l e R s m args below meth c H1 locs1 (cells + mc) (slots + ms) Q (F0 m pc ls rest) q9)
    (kk : ∀ (r : Int32) (u : S) (t : State) (H1 : Heap) (locs1 : List Loc), t.heap = H1 → s.vm.Alike t.vm → post r u → B u t → H.size ≤ H1.size → (∀ q : Nat, q < H.size → ¬ A1 q → H1[q]? = H[q]?) → va_S A0 H0 H1 locs1 → W p l e R s m args below meth c H1 locs1 (cells + mc) (slots + ms) Q (F0 m (pc + 3) ls (.int r :: rest))) : W p l e R s m args below meth c H locs cells slots Q (F0 m pc ls st0) := by
  intro T hT X
  rcases hr T hT X with ⟨v, st₀, t, T', L, h0, X', hL, e1, e2, ⟨⟨r, u, hv, hp, hb⟩, hF⟩, st⟩ | ⟨q, st₀, t, T', L, E, ce, h0, X', hL, e1, e2, ⟨u, hp, hb, hF⟩, hce, hcv, hcl, st⟩
  · cases hv
    obtain ⟨k1, k2, k3⟩ := vx_keep h0 e1 hS hA hf hL hF
    obtain ⟨t2, a1, b1⟩ := kk r u t T'.heap (locs ++ L) e1.symm (by rw [← e2]; exact X'.warmed.alike) hp hb k1 k2 k3 T' rfl X'
    exact ⟨t2, st t2 a1, b1⟩
  · obtain ⟨k1, k2, k3⟩ := vx_keep h0 e1 hS hAX hf hL hF
    obtain ⟨t2, a1, b1⟩ := kx E ce q u t T'.heap (locs ++ L) e1.symm (by rw [← e2]; exact X'.warmed.alike) hp hb k1 k2 k3 (by rw [e1]; exact hce) hcv hcl T' rfl X'
    exact ⟨t2, st.trans a1, b1⟩
theorem vx_calll {S SX : Type} {post : Int64 → S → Prop} {px : SX → Prop} {B : S → State → Prop} {BX : String → SX → State → Prop} {AX : Nat → Prop} (hr : vx_Run p l e R s m args below meth c H locs cells slots mc ms (F0 m pc ls st0) rest (va_Ql post B A1 a) (vx_X px BX AX) free) (hS : va_S A0 H0 H locs) (hA : ∀ q, q < H.size → A1 q → A0 q) (hf : ∀ q, free q → A0 q) (hAX : ∀ q, q < H.size → AX q → A0 q)
    (kx : ∀ (E : String) (ce : Cell) (q9 : Addr) (u : SX) (t : State) (H1 : Heap) (locs1 : List Loc), t.heap = H1 → s.vm.Alike t.vm → px u → BX E u t → H.size ≤ H1.size → (∀ q : Nat, q < H.size → ¬ AX q → H1[q]? = H[q]?) → va_S A0 H0 H1 locs1 → H1[q9]? = some ce → ce.vm = .none → s.vm.findClass E = some ce.cls → vx_W p l e R s m args below meth c H1 locs1 (cells + mc) (slots + ms) Q (F0 m pc ls rest) q9)
    (kk : ∀ (r : Int64) (u : S) (t : State) (H1 : Heap) (locs1 : List Loc), t.heap = H1 → s.vm.Alike t.vm → post r u → B u t → H.size ≤ H1.size → (∀ q : Nat, q < H.size → ¬ A1 q → H1[q]? = H[q]?) → va_S A0 H0 H1 locs1 → W p l e R s m args below meth c H1 locs1 (cells + mc) (slots + ms) Q (F0 m (pc + 3) ls (.long r :: rest))) : W p l e R s m args below meth c H locs cells slots Q (F0 m pc ls st0) := by
  intro T hT X
  rcases hr T hT X with ⟨v, st₀, t, T', L, h0, X', hL, e1, e2, ⟨⟨r, u, hv, hp, hb⟩, hF⟩, st⟩ | ⟨q, st₀, t, T', L, E, ce, h0, X', hL, e1, e2, ⟨u, hp, hb, hF⟩, hce, hcv, hcl, st⟩
  · cases hv
    obtain ⟨k1, k2, k3⟩ := vx_keep h0 e1 hS hA hf hL hF
    obtain ⟨t2, a1, b1⟩ := kk r u t T'.heap (locs ++ L) e1.symm (by rw [← e2]; exact X'.warmed.alike) hp hb k1 k2 k3 T' rfl X'
    exact ⟨t2, st t2 a1, b1⟩
  · obtain ⟨k1, k2, k3⟩ := vx_keep h0 e1 hS hAX hf hL hF
    obtain ⟨t2, a1, b1⟩ := kx E ce q u t T'.heap (locs ++ L) e1.symm (by rw [← e2]; exact X'.warmed.alike) hp hb k1 k2 k3 (by rw [e1]; exact hce) hcv hcl T' rfl X'
    exact ⟨t2, st.trans a1, b1⟩
theorem vx_callf {S SX : Type} {post : UInt32 → S → Prop} {px : SX → Prop} {B : S → State → Prop} {BX : String → SX → State → Prop} {AX : Nat → Prop} (hr : vx_Run p l e R s m args below meth c H locs cells slots mc ms (F0 m pc ls st0) rest (va_Qf post B A1 a) (vx_X px BX AX) free) (hS : va_S A0 H0 H locs) (hA : ∀ q, q < H.size → A1 q → A0 q) (hf : ∀ q, free q → A0 q) (hAX : ∀ q, q < H.size → AX q → A0 q)
    (kx : ∀ (E : String) (ce : Cell) (q9 : Addr) (u : SX) (t : State) (H1 : Heap) (locs1 : List Loc), t.heap = H1 → s.vm.Alike t.vm → px u → BX E u t → H.size ≤ H1.size → (∀ q : Nat, q < H.size → ¬ AX q → H1[q]? = H[q]?) → va_S A0 H0 H1 locs1 → H1[q9]? = some ce → ce.vm = .none → s.vm.findClass E = some ce.cls → vx_W p l e R s m args below meth c H1 locs1 (cells + mc) (slots + ms) Q (F0 m pc ls rest) q9)
    (kk : ∀ (r : UInt32) (u : S) (t : State) (H1 : Heap) (locs1 : List Loc), t.heap = H1 → s.vm.Alike t.vm → post r u → B u t → H.size ≤ H1.size → (∀ q : Nat, q < H.size → ¬ A1 q → H1[q]? = H[q]?) → va_S A0 H0 H1 locs1 → W p l e R s m args below meth c H1 locs1 (cells + mc) (slots + ms) Q (F0 m (pc + 3) ls (.float r :: rest))) : W p l e R s m args below meth c H locs cells slots Q (F0 m pc ls st0) := by
  intro T hT X
  rcases hr T hT X with ⟨v, st₀, t, T', L, h0, X', hL, e1, e2, ⟨⟨r, u, hv, hp, hb⟩, hF⟩, st⟩ | ⟨q, st₀, t, T', L, E, ce, h0, X', hL, e1, e2, ⟨u, hp, hb, hF⟩, hce, hcv, hcl, st⟩
  · cases hv
    obtain ⟨k1, k2, k3⟩ := vx_keep h0 e1 hS hA hf hL hF
    obtain ⟨t2, a1, b1⟩ := kk r u t T'.heap (locs ++ L) e1.symm (by rw [← e2]; exact X'.warmed.alike) hp hb k1 k2 k3 T' rfl X'
    exact ⟨t2, st t2 a1, b1⟩
  · obtain ⟨k1, k2, k3⟩ := vx_keep h0 e1 hS hAX hf hL hF
    obtain ⟨t2, a1, b1⟩ := kx E ce q u t T'.heap (locs ++ L) e1.symm (by rw [← e2]; exact X'.warmed.alike) hp hb k1 k2 k3 (by rw [e1]; exact hce) hcv hcl T' rfl X'
    exact ⟨t2, st.trans a1, b1⟩
theorem vx_calld {S SX : Type} {post : UInt64 → S → Prop} {px : SX → Prop} {B : S → State → Prop} {BX : String → SX → State → Prop} {AX : Nat → Prop} (hr : vx_Run p l e R s m args below meth c H locs cells slots mc ms (F0 m pc ls st0) rest (va_Qd post B A1 a) (vx_X px BX AX) free) (hS : va_S A0 H0 H locs) (hA : ∀ q, q < H.size → A1 q → A0 q) (hf : ∀ q, free q → A0 q) (hAX : ∀ q, q < H.size → AX q → A0 q)
    (kx : ∀ (E : String) (ce : Cell) (q9 : Addr) (u : SX) (t : State) (H1 : Heap) (locs1 : List Loc), t.heap = H1 → s.vm.Alike t.vm → px u → BX E u t → H.size ≤ H1.size → (∀ q : Nat, q < H.size → ¬ AX q → H1[q]? = H[q]?) → va_S A0 H0 H1 locs1 → H1[q9]? = some ce → ce.vm = .none → s.vm.findClass E = some ce.cls → vx_W p l e R s m args below meth c H1 locs1 (cells + mc) (slots + ms) Q (F0 m pc ls rest) q9)
    (kk : ∀ (r : UInt64) (u : S) (t : State) (H1 : Heap) (locs1 : List Loc), t.heap = H1 → s.vm.Alike t.vm → post r u → B u t → H.size ≤ H1.size → (∀ q : Nat, q < H.size → ¬ A1 q → H1[q]? = H[q]?) → va_S A0 H0 H1 locs1 → W p l e R s m args below meth c H1 locs1 (cells + mc) (slots + ms) Q (F0 m (pc + 3) ls (.double r :: rest))) : W p l e R s m args below meth c H locs cells slots Q (F0 m pc ls st0) := by
  intro T hT X
  rcases hr T hT X with ⟨v, st₀, t, T', L, h0, X', hL, e1, e2, ⟨⟨r, u, hv, hp, hb⟩, hF⟩, st⟩ | ⟨q, st₀, t, T', L, E, ce, h0, X', hL, e1, e2, ⟨u, hp, hb, hF⟩, hce, hcv, hcl, st⟩
  · cases hv
    obtain ⟨k1, k2, k3⟩ := vx_keep h0 e1 hS hA hf hL hF
    obtain ⟨t2, a1, b1⟩ := kk r u t T'.heap (locs ++ L) e1.symm (by rw [← e2]; exact X'.warmed.alike) hp hb k1 k2 k3 T' rfl X'
    exact ⟨t2, st t2 a1, b1⟩
  · obtain ⟨k1, k2, k3⟩ := vx_keep h0 e1 hS hAX hf hL hF
    obtain ⟨t2, a1, b1⟩ := kx E ce q u t T'.heap (locs ++ L) e1.symm (by rw [← e2]; exact X'.warmed.alike) hp hb k1 k2 k3 (by rw [e1]; exact hce) hcv hcl T' rfl X'
    exact ⟨t2, st.trans a1, b1⟩
theorem vx_callv {S SX : Type} {post : S → Prop} {px : SX → Prop} {B : S → State → Prop} {BX : String → SX → State → Prop} {AX : Nat → Prop} (hr : vx_Run p l e R s m args below meth c H locs cells slots mc ms (F0 m pc ls st0) rest (va_Qv post B A1 a) (vx_X px BX AX) free) (hS : va_S A0 H0 H locs) (hA : ∀ q, q < H.size → A1 q → A0 q) (hf : ∀ q, free q → A0 q) (hAX : ∀ q, q < H.size → AX q → A0 q)
    (kx : ∀ (E : String) (ce : Cell) (q9 : Addr) (u : SX) (t : State) (H1 : Heap) (locs1 : List Loc), t.heap = H1 → s.vm.Alike t.vm → px u → BX E u t → H.size ≤ H1.size → (∀ q : Nat, q < H.size → ¬ AX q → H1[q]? = H[q]?) → va_S A0 H0 H1 locs1 → H1[q9]? = some ce → ce.vm = .none → s.vm.findClass E = some ce.cls → vx_W p l e R s m args below meth c H1 locs1 (cells + mc) (slots + ms) Q (F0 m pc ls rest) q9)
    (kk : ∀ (u : S) (t : State) (H1 : Heap) (locs1 : List Loc), t.heap = H1 → s.vm.Alike t.vm → post u → B u t → H.size ≤ H1.size → (∀ q : Nat, q < H.size → ¬ A1 q → H1[q]? = H[q]?) → va_S A0 H0 H1 locs1 → W p l e R s m args below meth c H1 locs1 (cells + mc) (slots + ms) Q (F0 m (pc + 3) ls (rest))) : W p l e R s m args below meth c H locs cells slots Q (F0 m pc ls st0) := by
  intro T hT X
  rcases hr T hT X with ⟨v, st₀, t, T', L, h0, X', hL, e1, e2, ⟨⟨u, hv, hp, hb⟩, hF⟩, st⟩ | ⟨q, st₀, t, T', L, E, ce, h0, X', hL, e1, e2, ⟨u, hp, hb, hF⟩, hce, hcv, hcl, st⟩
  · cases hv
    obtain ⟨k1, k2, k3⟩ := vx_keep h0 e1 hS hA hf hL hF
    obtain ⟨t2, a1, b1⟩ := kk u t T'.heap (locs ++ L) e1.symm (by rw [← e2]; exact X'.warmed.alike) hp hb k1 k2 k3 T' rfl X'
    exact ⟨t2, st t2 a1, b1⟩
  · obtain ⟨k1, k2, k3⟩ := vx_keep h0 e1 hS hAX hf hL hF
    obtain ⟨t2, a1, b1⟩ := kx E ce q u t T'.heap (locs ++ L) e1.symm (by rw [← e2]; exact X'.warmed.alike) hp hb k1 k2 k3 (by rw [e1]; exact hce) hcv hcl T' rfl X'
    exact ⟨t2, st.trans a1, b1⟩
/-- caught by the row x of this method's table; the rows ahead don't take it -/
theorem vx_catch {own name : String} {E : String} {ce : Cell} {q : Addr} (hown : s.vm.findClass own = some m.cls) (pre : List ExceptionTableEntry) (x : ExceptionTableEntry) (suf : List ExceptionTableEntry) (hsplit : c.exceptionTable.toList = pre ++ x :: suf)
    (hpass : ∀ z ∈ pre, covers z pc = false ∨ (z.catchType ≠ 0 ∧ ∃ nm : String, (Cond.classLink own z.catchType nm).before args s = true ∧ va_Nc E nm s)) (hx : covers x pc = true) (h0 : x.catchType ≠ 0)
    (hlink : (Cond.classLink own x.catchType name).before args s = true) (hcast : (Cond.castable E name).before args s = true) (hcell : H[q]? = some ce) (hv : ce.vm = .none) (hcl : s.vm.findClass E = some ce.cls)
    (kk : W p l e R s m args below meth c H locs cells slots Q (F0 m x.handlerPc ls [.ref q])) : vx_W p l e R s m args below meth c H locs cells slots Q (F0 m pc ls rest) q := by
  intro T hT X
  have hpl : e.platform.magicAccessors = ({} : Platform).magicAccessors := by rw [X.admits.platform]
  obtain ⟨c3, c4, hc3, hc4, hasg⟩ := Cond.castable_spec hcast
  cases Option.some.inj (hc3.symm.trans hcl)
  obtain ⟨c5, hc5, hcl5⟩ := Cond.classLink_spec hown hlink e.platform hpl
  cases Option.some.inj (hc4.symm.trans hc5)
  obtain ⟨vm', X', st⟩ := X.thenCaughtThrough q (g := F0 m pc ls rest) rfl (Steps.refl _) (by rw [hT]; exact hcell) (by rw [hv]; rfl) (by obtain ⟨k9, h9, -⟩ := Vm.findClass_spec hcl; exact ⟨k9, h9⟩) pre x suf hsplit
    (fun z hz => by
      rcases hpass z hz with h | ⟨hz0, nm, hl1, hn1⟩
      · exact Or.inl h
      · obtain ⟨c6, hc6, hcl6⟩ := Cond.classLink_spec hown hl1 e.platform hpl
        obtain ⟨a8, b8, h1, h2, h3⟩ := hn1
        cases Option.some.inj (h1.symm.trans hcl)
        cases Option.some.inj (h2.symm.trans hc6)
        exact Or.inr ⟨hz0, _, hcl6, h3⟩) hx (Or.inr ⟨h0, c4, hcl5, hasg⟩)
  obtain ⟨t, a1, b1⟩ := kk (T.setVm vm') hT X'
  exact ⟨t, st.trans a1, b1⟩
end Rows
section Ends
variable {p : Program} {l : Launch} {e : Env} {R : Room} {s : State} {m : MethodId} {args : Array Value} {below : List Frame} {meth : Method} {c : Code} {H : Heap} {locs : List Loc} {cells slots : Nat} {Q : State → Prop}
variable {mc ms : Nat} {free : Addr → Prop} {A0 A1 : Nat → Prop} {H0 : Heap} {a : Array Value} {ls : Array Slot} {st0 rest : List Value}
variable {Qc : Array Value → State → Outcome → State → Prop} {XC : String → State → State → Prop}
/-- what a body that may throw owes at its end -/
def vx_MQ (below : List Frame) (Qc : Array Value → State → Outcome → State → Prop) (XC : String → State → State → Prop) (a : Array Value) (s : State) (mc ms : Nat) (free : Addr → Prop) : State → Prop := fun t =>
  ∃ o, t.status = .running ∧ Ended t below o ∧ vx_Q Qc XC mc ms free a s o t
theorem vx_ret {g : JFrame} {mc ms : Nat} (k : W p l e R s m args below meth c H locs cells slots (MQ below Qc args s mc ms free) g) : W p l e R s m args below meth c H locs cells slots (vx_MQ below Qc XC args s mc ms free) g := by
  intro T hT X
  obtain ⟨t, a1, o, b1, b2, b3, b4⟩ := k T hT X
  exact ⟨t, a1, o, b1, b2, Or.inl ⟨b3, b4⟩⟩
/-- not caught here: it goes on to the caller -/
theorem vx_widen {g : JFrame} {q : Addr} {k n : Nat} (h1 : cells ≤ k) (h2 : slots ≤ n) (kk : vx_W p l e R s m args below meth c H locs k n Q g q) : vx_W p l e R s m args below meth c H locs cells slots Q g q := fun T hT X => kk T hT (stand_widen X h1 h2)
theorem vx_out {pc : Nat} {E : String} {ce : Cell} {q : Addr} {mc ms : Nat} (hout : ∀ x ∈ c.exceptionTable.toList, covers x pc = false) (hlocks : meth.locks = false) (hcell : H[q]? = some ce) (hv : ce.vm = .none) (hcl : s.vm.findClass E = some ce.cls)
    (hx : ∀ t : State, t.heap = H → s.vm.Alike t.vm → XC E s t) (hf : ∀ z ∈ locs, free z.base) (hc : cells ≤ mc) (hs : slots ≤ ms) :
    vx_W p l e R s m args below meth c H locs cells slots (vx_MQ below Qc XC args s mc ms free) (F0 m pc ls rest) q := by
  intro T hT X
  obtain ⟨st1, hrun, hend, hW, hsm⟩ := X.leaveThrown q (g := F0 m pc ls rest) rfl rfl rfl hout hlocks
  have hcell9 : (T.setFrames (.throwing q :: below)).heap[q]? = some ce := by
    show T.heap[q]? = some ce
    rw [hT]; exact hcell
  exact ⟨_, st1, .threw q, hrun, hend, Or.inr ⟨q, rfl, E, ce, locs, hx _ hT hW.alike, hcell9, hv, hcl, hW, hsm.mono hc hs, hf⟩⟩
theorem vx_frame {U : State} {k n : Nat} (h : s.sameButNew ({ U with vm := s.vm } : State) locs k n) : s.heap.size ≤ U.heap.size ∧ ∀ q : Nat, q < s.heap.size → (∀ z ∈ locs, z.base ≠ q) → U.heap[q]? = s.heap[q]? := by
  obtain ⟨-, h2, -, -, -, h6⟩ := h
  refine ⟨h2, fun q hq hz => ?_⟩
  obtain ⟨c9, e1, e2, e3, e4⟩ := h6 q _ (Array.getElem?_eq_getElem hq)
  have hs : c9.slots = (s.heap[q]).slots := Array.ext_getElem? fun i => e4 i fun hm => hz _ hm rfl
  have h9 : c9 = s.heap[q] := by
    rw [hs] at e2
    exact e2
  have e5 : U.heap[q]? = some c9 := e1
  rw [e5, h9, Array.getElem?_eq_getElem hq]
/-- the words of a throw but the four that speak of the heap -/
def vx_no (w : Cond) : Bool := decide (w ≠ .isRef (.static Bundle.tN "UNASSIGNED_STACK" Bundle.steD)) && decide (w ≠ .isRef (.static Bundle.tN "SUPPRESSED_SENTINEL" Bundle.listD)) && decide (w ≠ .laysStatic Bundle.tN "UNASSIGNED_STACK" Bundle.steD) && decide (w ≠ .laysStatic Bundle.tN "SUPPRESSED_SENTINEL" Bundle.listD)
def vx_at0 (own : String) (ic : Nat) (X : String) (names : List String) : List Cond := (Bundle.ownAtoms0 own ic X names).filter vx_no
def vx_atS (own : String) (ic : Nat) (X : String) (names : List String) : List Cond := (Bundle.ownAtoms own ic X names).filter vx_no
/-- a word that the tables alone decide, or a good one -/
def vx_ot (w : Cond) : Bool := w.onTables || goodWord w
theorem vx_ot_at {args a' : Array Value} {s U : State} {w : Cond} (hW : s.WarmedH U.vm) (hvm : s.vm = U.vm) (hg : vx_ot w = true) (h : w.before args s = true) : w.before a' U = true := by
  simp only [vx_ot, Bool.or_eq_true] at hg
  rcases hg with hg | hg
  · exact va_tabs hg hvm h
  · exact word_at hW (good_of_word hg) h
/-- a list's words: the good ones out of the method's own list, the others by premises of their own -/
theorem vx_hat {args : Array Value} {s : State} {L B : List Cond} (h1 : ∀ w ∈ L.filter goodWord, w.before args s = true) (h2 : ∀ w ∈ L.filter (fun w => !goodWord w), w ∈ B) (h3 : ∀ w ∈ B, w.before args s = true) : ∀ w ∈ L, w.before args s = true := by
  intro w hw
  by_cases g : goodWord w = true
  · exact h1 w (List.mem_filter.mpr ⟨hw, g⟩)
  · refine h3 w (h2 w (List.mem_filter.mpr ⟨hw, ?_⟩))
    show (!goodWord w) = true
    cases hgw : goodWord w
    · rfl
    · exact absurd hgw g
theorem vx_c {args : Array Value} {s : State} {w : Cond} {B : List Cond} (h : w.before args s = true) (t : ∀ w ∈ B, w.before args s = true) : ∀ w' ∈ w :: B, w'.before args s = true := fun w' h' => (List.mem_cons.mp h').elim (fun e => by rw [e]; exact h) (t w')
theorem vx_n {args : Array Value} {s : State} : ∀ w ∈ ([] : List Cond), w.before args s = true := fun _ h => nomatch h
theorem vx_own {args : Array Value} {s : State} {L : List Cond} (h1 : ∀ w ∈ L.filter vx_no, w.before args s = true)
    (hU : (Cond.isRef (.static Bundle.tN "UNASSIGNED_STACK" Bundle.steD)).before args s = true) (hN : (Cond.isRef (.static Bundle.tN "SUPPRESSED_SENTINEL" Bundle.listD)).before args s = true)
    (lU : (Cond.laysStatic Bundle.tN "UNASSIGNED_STACK" Bundle.steD).before args s = true) (lN : (Cond.laysStatic Bundle.tN "SUPPRESSED_SENTINEL" Bundle.listD).before args s = true) : ∀ w ∈ L, w.before args s = true := by
  intro w hw
  by_cases e1 : w = .isRef (.static Bundle.tN "UNASSIGNED_STACK" Bundle.steD)
  · rw [e1]; exact hU
  · by_cases e2 : w = .isRef (.static Bundle.tN "SUPPRESSED_SENTINEL" Bundle.listD)
    · rw [e2]; exact hN
    · by_cases e3 : w = .laysStatic Bundle.tN "UNASSIGNED_STACK" Bundle.steD
      · rw [e3]; exact lU
      · by_cases e4 : w = .laysStatic Bundle.tN "SUPPRESSED_SENTINEL" Bundle.listD
        · rw [e4]; exact lN
        · exact h1 w (List.mem_filter.mpr ⟨hw, by unfold vx_no; rw [decide_eq_true e1, decide_eq_true e2, decide_eq_true e3, decide_eq_true e4]; rfl⟩)
/-- where a static field lies, its class's statics cell in H -/
def vx_L (C n d : String) (A : Nat → Prop) (U : State) (H : Heap) : Prop := ∃ (c : ClassId) (k : Class) (i : Nat) (f : Field) (a : Nat) (cell : Cell), U.vm.findClass C = some c ∧ U.fieldFound? C n d = some (c, k, i, f) ∧ f.isStatic = true ∧ k.statics = some a ∧ H[a]? = some cell ∧ cell.vm.isStatics = true ∧ cell.cls = c ∧ f.slot < cell.slots.size ∧ k.staticTypes[f.slot]? = some f.type ∧ ¬ A a
theorem vx_L.moved {C n d : String} {A : Nat → Prop} {u U : State} {H : Heap} (hvm : u.vm.Alike U.vm) (h : vx_L C n d A u H) : vx_L C n d A U H := by
  obtain ⟨c, k, i, f, a, cell, h1, h2, h3, h4, h5, h6, h7, h8, h9, h10⟩ := h
  obtain ⟨k', hi', he⟩ := State.fieldFound?_setVm hvm h2
  exact ⟨c, k', i, f, a, cell, by rw [hvm.findClass]; exact h1, hi', h3, by rw [he]; exact h4, h5, h6, h7, h8, by rw [he]; exact h9, h10⟩
theorem vx_L.kept {C n d : String} {A : Nat → Prop} {U : State} {H H1 : Heap} (h : vx_L C n d A U H) (hq : ∀ a : Nat, a < H.size → ¬ A a → H1[a]? = H[a]?) : vx_L C n d A U H1 := by
  obtain ⟨c, k, i, f, a, cell, h1, h2, h3, h4, h5, h6, h7, h8, h9, h10⟩ := h
  exact ⟨c, k, i, f, a, cell, h1, h2, h3, h4, by rw [hq a (Array.getElem?_eq_some_iff.mp h5).1 h10]; exact h5, h6, h7, h8, h9, h10⟩
theorem vx_L.narrow {C n d : String} {A B : Nat → Prop} {U : State} {H : Heap} (h : vx_L C n d A U H) (hAB : ∀ q, B q → A q) : vx_L C n d B U H := by
  obtain ⟨c, k, i, f, a, cell, h1, h2, h3, h4, h5, h6, h7, h8, h9, h10⟩ := h
  exact ⟨c, k, i, f, a, cell, h1, h2, h3, h4, h5, h6, h7, h8, h9, fun z => h10 (hAB _ z)⟩
theorem vx_L.word {C n d : String} {A : Nat → Prop} {s : State} {args : Array Value} (h : vx_L C n d A s s.heap) : (Cond.laysStatic C n d).before args s = true := by
  obtain ⟨c, k, i, f, a, cell, h1, h2, h3, h4, h5, h6, h7, h8, h9, -⟩ := h
  show (Cond.laysStatic C n d).holds args s none s [] = true
  exact Cond.laysStatic_of h1 h2 h3 h4 h5 h6 h7 h8 h9
/-- .. and what it holds: null or some reference -/
def vx_Zq (C n d : String) (A : Nat → Prop) (U : State) (H : Heap) : Prop := va_Zq C n d A U H ∧ vx_L C n d A U H
theorem vx_Zq.moved {C n d : String} {A : Nat → Prop} {u U : State} {H : Heap} (hvm : u.vm.Alike U.vm) (h : vx_Zq C n d A u H) : vx_Zq C n d A U H := ⟨va_Zq.moved hvm h.1, vx_L.moved hvm h.2⟩
theorem vx_Zq.kept {C n d : String} {A : Nat → Prop} {U : State} {H H1 : Heap} (h : vx_Zq C n d A U H) (hq : ∀ a : Nat, a < H.size → ¬ A a → H1[a]? = H[a]?) : vx_Zq C n d A U H1 := ⟨va_Zq.kept h.1 hq, vx_L.kept h.2 hq⟩
theorem vx_Zq.narrow {C n d : String} {A B : Nat → Prop} {U : State} {H : Heap} (h : vx_Zq C n d A U H) (hAB : ∀ q, B q → A q) : vx_Zq C n d B U H := ⟨va_Zq.narrow h.1 hAB, vx_L.narrow h.2 hAB⟩
theorem vx_Zqof {args : Array Value} {s : State} {C n d : String} {A : Nat → Prop} (hl : (Cond.laysStatic C n d).before args s = true) (hini : (Cond.initialized C).before args s = true) (h : (Cond.isRef (.static C n d)).before args s = true) (hA : ∀ a : Nat, a < s.heap.size → ¬ A a) : vx_Zq C n d A s s.heap := by
  refine ⟨va_Zqof hl hini h hA, ?_⟩
  obtain ⟨c, k, i, f, a, cell, h1, h2, h3, h4, h5, h6, h7, h8, h9⟩ := Cond.laysStatic_spec hl
  exact ⟨c, k, i, f, a, cell, h1, h2, h3, h4, h5, h6, h7, h8, h9, hA a (Array.getElem?_eq_some_iff.mp h5).1⟩
theorem vx_isRef {C n d : String} {v : Value} {A : Nat → Prop} {s : State} {args : Array Value} (h : va_Z C n d v A s s.heap) (hv : v.isRef = true) : (Cond.isRef (.static C n d)).before args s = true := by
  obtain ⟨cf, kf, fi, f, a, cell, h1, h2, h3, h4, h5, h6, h7, -⟩ := h
  have he : (Term.static C n d).eval args s none [] s = some v := by
    simp [Term.eval, State.fieldNamed?, h1, h2, h4, h5, h6, h7]
  simp only [Cond.before, Cond.holds, Cond.value, he]
  cases v <;> simp_all [Value.isRef]
theorem vx_isRefq {C n d : String} {A : Nat → Prop} {s : State} {args : Array Value} (h : va_Zq C n d A s s.heap) : (Cond.isRef (.static C n d)).before args s = true := by
  rcases h with h | ⟨t, h⟩
  · exact vx_isRef h rfl
  · exact vx_isRef h rfl
/-- the same frame, seen from here: as if the method were called anew in this heap -/
theorem vx_rebase {T : State} (X : Stand p l e R s m args below meth c T locs cells slots) {R' : Room} (hf : R'.frames ≤ R.frames) (hl : R'.locals ≤ R.locals) (hc : cells + R'.cells ≤ R.cells) (hs : slots + R'.slots ≤ R.slots) :
    Stand p l e R' ((T.setVm s.vm).setFrames (.invoking m args :: below)) m args below meth c T [] 0 0 := by
  have htop : (T.setVm s.vm).topJava?.isSome := X.here.top
  have hF : ((T.setVm s.vm).setFrames (.invoking m args :: below)).frames = .invoking m args :: below := State.frames_setFrames _ (State.cur_lt_of_top htop)
  obtain ⟨g₀, hg0⟩ := Option.isSome_iff_exists.mp htop
  obtain ⟨r, hr⟩ := State.topJava?_eq_some.mp hg0
  have hl9 : e.platform.stackLimits (T.setVm s.vm).me = e.platform.stackLimits s.me := X.limits
  have hb9 : (T.setVm s.vm).me.stackBytes = s.me.stackBytes := X.bytes
  refine ⟨X.admits, X.cas, X.clock, hF, ?_, X.hears, X.method, X.code, X.here, X.tail, X.warmed, ?_, ?_, ?_⟩
  · have h := X.room
    have hU : ((T.setVm s.vm).setFrames (.invoking m args :: below)).localsInUse = s.localsInUse := by
      rw [State.localsInUse_invoking hF (meth := meth) (c := c) X.method X.code, State.localsInUse_invoking X.frames X.method X.code]
    simp only [State.hasRoom, Bool.and_eq_true, decide_eq_true_eq] at h ⊢
    obtain ⟨⟨⟨⟨h1, h2, h3, h4, h5, h6⟩, h7⟩, h8⟩, h9⟩ := h
    rw [X.frames, List.length_cons] at h2 h3
    have q1 := X.heapSize
    have q2 := X.used
    simp only [hF, hU, List.length_cons, State.stackLimits_setFrames, State.stackBytes_setFrames, hl9, hb9]
    refine ⟨⟨⟨⟨by omega, by omega, by omega, by omega, by omega, h6⟩, ?_⟩, ?_⟩, X.book⟩
    · show T.heap.size + R'.cells ≤ e.platform.maxCells
      omega
    · show T.slotsUsed + R'.slots ≤ e.platform.maxSlots
      omega
  · rw [State.stackLimits_setFrames]; rfl
  · rw [State.stackBytes_setFrames]; rfl
  · refine ⟨?_, Nat.le_refl _, Nat.le_refl _, ?_, ?_, fun a c9 h9 => ⟨c9, h9, rfl, rfl, fun _ _ => rfl⟩⟩
    · obtain ⟨t, ht, -⟩ := State.frames_cons hr
      show T.setVm s.vm = { ((T.setVm s.vm).setFrames (.invoking m args :: below)).setFrames (T.setVm s.vm).frames with heap := T.heap, slotsUsed := T.slotsUsed }
      rw [State.setFrames_setFrames, State.setFrames_self ht]
      rfl
    · show T.slotsUsed = T.slotsUsed + ((T.heap.toList.drop T.heap.size).map (·.slots.size)).sum
      rw [List.drop_eq_nil_of_le (Nat.le_of_eq Array.length_toList)]
      rfl
    · show ((T.heap.toList.drop T.heap.size).map (·.slots.size)).sum ≤ 0
      rw [List.drop_eq_nil_of_le (Nat.le_of_eq Array.length_toList)]
      exact Nat.le_refl _
/-- 'throw new E()': new; dup; invokespecial; athrow -/
theorem vx_throw0 {cc : ByteArray} {pc : Nat} (hexec : p.tables.exec = Jvm.exec) (hb : c.code = cc) (hl : l.stackTraces = false) {own cls : String} {names : List String} {ik ic mc ms : Nat} {A : Nat → Prop}
    (hown : s.vm.findClass own = some m.cls) (hcls : Bundle.fit cls = true) (hnames : ∀ n ∈ names, Bundle.fit n = true)
    (hk : (Cond.classLink own ik cls).before args s = true) (hini : (Cond.initialized cls).before args s = true) (hat : ∀ w ∈ vx_at0 own ic cls names, w.before args s = true)
    (hgood : ∀ w ∈ Cond.classLink own ik cls :: Cond.initialized cls :: vx_at0 own ic cls names, vx_ot w = true)
    (hU : vx_Zq Bundle.tN "UNASSIGNED_STACK" Bundle.steD A s s.heap) (hN : vx_Zq Bundle.tN "SUPPRESSED_SENTINEL" Bundle.listD A s s.heap) (hS : va_S A s.heap H locs) (hsize : ls.size = c.maxLocals)
    (d0 : decode cc pc = .ok (.new ik, 3)) (d3 : decode cc (pc + 3) = .ok (.dup, 1)) (d4 : decode cc (pc + 4) = .ok (.invokespecial ic, 3)) (d7 : decode cc (pc + 7) = .ok (.athrow, 1))
    (hout : ∀ x ∈ c.exceptionTable.toList, covers x (pc + 7) = false)
    (hRframes : names.length + 3 < R.frames) (hRlocals : (rest.map fun v => v.category).sum + (13 * (names.length + 1) + 42) ≤ R.locals) (hRcells : cells + 1 ≤ R.cells) (hRslots : slots + 6 ≤ R.slots) (hlocks : meth.locks = false)
    (hx : ∀ t : State, s.vm.Alike t.vm → H.size ≤ t.heap.size → (∀ q : Nat, q < H.size → t.heap[q]? = H[q]?) → XC cls s t)
    (hf : ∀ z ∈ locs, free z.base) (hc : cells + 1 ≤ mc) (hs : slots + 6 ≤ ms) :
    W p l e R s m args below meth c H locs cells slots (vx_MQ below Qc XC args s mc ms free) (F0 m pc ls rest) := by
  intro T hT X
  have htr : e.platform.stackTraces = false := (show e.platform.stackTraces = l.stackTraces by rw [X.admits.platform]).trans hl
  have Y := vx_rebase X (R' := { frames := R.frames, locals := R.locals, cells := 1, slots := 6 }) (Nat.le_refl _) (Nat.le_refl _) hRcells hRslots
  obtain ⟨s', hA⟩ : ∃ z, z = (T.setVm s.vm).setFrames (.invoking m args :: below) := ⟨_, rfl⟩
  rw [← hA] at Y
  have hvm : s'.vm = s.vm := by rw [hA]; rfl
  have hhp : s'.heap = H := by rw [hA]; exact hT
  have hW0 : s.WarmedH s'.vm := by rw [hvm]; exact State.WarmedH.refl s
  have hat' : ∀ w ∈ vx_at0 own ic cls names, w.before args s' = true := fun w hw => vx_ot_at hW0 hvm.symm (hgood w (List.mem_cons_of_mem _ (List.mem_cons_of_mem _ hw))) (hat w hw)
  have hk' : (Cond.classLink own ik cls).before args s' = true := vx_ot_at hW0 hvm.symm (hgood _ List.mem_cons_self) hk
  have hini' : (Cond.initialized cls).before args s' = true := vx_ot_at hW0 hvm.symm (hgood _ (List.mem_cons_of_mem _ List.mem_cons_self)) hini
  have hU' : vx_Zq Bundle.tN "UNASSIGNED_STACK" Bundle.steD A s' s'.heap := by rw [hhp]; exact vx_Zq.moved hW0.alike (hU.kept hS.2.1)
  have hN' : vx_Zq Bundle.tN "SUPPRESSED_SENTINEL" Bundle.listD A s' s'.heap := by rw [hhp]; exact vx_Zq.moved hW0.alike (hN.kept hS.2.1)
  have h : ∀ w ∈ Bundle.ownAtoms0 own ic cls names, w.before args s' = true := vx_own hat' (vx_isRefq hU'.1) (vx_isRefq hN'.1) hU'.2.word hN'.2.word
  have hown' : s'.vm.findClass own = some m.cls := by rw [hvm]; exact hown
  have hins : (Cond.instantiable cls 6).before args s' = true := h _ (by simp [Bundle.ownAtoms0])
  obtain ⟨vm₁, cX, kX, hfX, hkX, -, -, X₁, st1⟩ := Y.newCold hexec (own := own) (C := cls) (index := ik) (n := 6) hown' hk' hins hini'
    (g := F0 m pc ls rest) rfl (by rw [hb]; exact d0) (Nat.le_refl _) (Nat.le_refl _)
  generalize hT1 : (T.setVm vm₁).pushCell { cls := cX, slots := kX.instanceTypes.map defaultValue, vm := .none } = T1 at X₁ st1
  have hcat : (Value.ref T.heap.size).category = 1 := rfl
  have hcellA : T1.heap[T.heap.size]? = some (freshCell cX kX) := by rw [← hT1]; exact State.heap_pushCell_size _ _
  have d3' : decode c.code (pc + 3) = .ok (.dup, 1) := by rw [hb]; exact d3
  obtain ⟨U, hsteps, hrun, hend, hW, hsame, ce, hce, hO⟩ := X₁.ctorThrow0 hexec htr (own := own) (cls := cls) (names := names) (ic := ic) hown' hcls hnames h (fun x hx => nomatch hx) hfX hkX hcellA (by rw [hhp, hT]; exact Nat.le_refl _)
    (g := { method := m, pc := pc + 4, locals := ls, stack := .ref T.heap.size :: .ref T.heap.size :: rest, locked := none }) rfl hsize rfl rfl (rest := rest) rfl
    (by rw [hb]; exact d4) (by rw [hb]; exact d7) hout hRframes (by simp only [List.map_cons, List.sum_cons, hcat]; omega) hlocks
  obtain ⟨f1, f2⟩ := vx_frame hsame
  rw [hhp] at f1 f2
  have hWs : s.WarmedH U.vm := State.WarmedH.trans hW0 hW
  have hcl : s.vm.findClass cls = some ce.cls := by
    have h9 := hO.cls
    rw [hvm] at h9
    exact h9
  have hall : s.sameButNew ({ U with vm := s.vm } : State) locs mc ms := by
    subst hA
    obtain ⟨e1, e2⟩ := hsame
    rw [State.setFrames_setFrames] at e1
    have h2 : (T.setVm s.vm).sameButNew ({ U with vm := s.vm } : State) [] (0 + 1) (0 + 6) := ⟨e1, e2⟩
    have h3 := X.same.trans h2
    rw [List.append_nil] at h3
    exact h3.mono hc hs
  refine ⟨U, ?_, .threw T.heap.size, hrun, hend, Or.inr ⟨T.heap.size, rfl, cls, ce, locs, hx U hWs.alike f1 (fun q hq => f2 q hq (fun z hz => nomatch hz)), hce, hO.vm, hcl, hWs, hall, hf⟩⟩
  refine st1 _ ?_
  show Steps p.tables e below (T1.setTop { method := m, pc := pc + 3, locals := ls, stack := .ref T.heap.size :: rest, locked := none }) _
  jvm_step X₁.here [X₁.here.top, hexec, d3', Value.category]
  exact hsteps
/-- 'throw new E("text")': new; dup; ldc; invokespecial; athrow -/
theorem vx_throwS {cc : ByteArray} {pc : Nat} (hexec : p.tables.exec = Jvm.exec) (hb : c.code = cc) (hl : l.stackTraces = false) {own cls text : String} {names : List String} {ik is ic mc ms sa : Nat} {A : Nat → Prop}
    (hown : s.vm.findClass own = some m.cls) (hcls : Bundle.fit cls = true) (hnames : ∀ n ∈ names, Bundle.fit n = true)
    (hk : (Cond.classLink own ik cls).before args s = true) (hini : (Cond.initialized cls).before args s = true) (hstr : vk_R own is text sa s) (hat : ∀ w ∈ vx_atS own ic cls names, w.before args s = true)
    (hgood : ∀ w ∈ Cond.classLink own ik cls :: Cond.initialized cls :: vx_atS own ic cls names, vx_ot w = true)
    (hU : vx_Zq Bundle.tN "UNASSIGNED_STACK" Bundle.steD A s s.heap) (hN : vx_Zq Bundle.tN "SUPPRESSED_SENTINEL" Bundle.listD A s s.heap) (hS : va_S A s.heap H locs) (hsize : ls.size = c.maxLocals)
    (d0 : decode cc pc = .ok (.new ik, 3)) (d3 : decode cc (pc + 3) = .ok (.dup, 1)) (d4 : decode cc (pc + 4) = .ok (.ldc is, 2)) (d6 : decode cc (pc + 6) = .ok (.invokespecial ic, 3)) (d9 : decode cc (pc + 9) = .ok (.athrow, 1))
    (hout : ∀ x ∈ c.exceptionTable.toList, covers x (pc + 9) = false)
    (hRframes : names.length + 3 < R.frames) (hRlocals : (rest.map fun v => v.category).sum + (13 * (names.length + 1) + 43) ≤ R.locals) (hRcells : cells + 1 ≤ R.cells) (hRslots : slots + 6 ≤ R.slots) (hlocks : meth.locks = false)
    (hx : ∀ t : State, s.vm.Alike t.vm → H.size ≤ t.heap.size → (∀ q : Nat, q < H.size → t.heap[q]? = H[q]?) → XC cls s t)
    (hf : ∀ z ∈ locs, free z.base) (hc : cells + 1 ≤ mc) (hs : slots + 6 ≤ ms) :
    W p l e R s m args below meth c H locs cells slots (vx_MQ below Qc XC args s mc ms free) (F0 m pc ls rest) := by
  intro T hT X
  have htr : e.platform.stackTraces = false := (show e.platform.stackTraces = l.stackTraces by rw [X.admits.platform]).trans hl
  have Y := vx_rebase X (R' := { frames := R.frames, locals := R.locals, cells := 1, slots := 6 }) (Nat.le_refl _) (Nat.le_refl _) hRcells hRslots
  obtain ⟨s', hA⟩ : ∃ z, z = (T.setVm s.vm).setFrames (.invoking m args :: below) := ⟨_, rfl⟩
  rw [← hA] at Y
  have hvm : s'.vm = s.vm := by rw [hA]; rfl
  have hhp : s'.heap = H := by rw [hA]; exact hT
  have hW0 : s.WarmedH s'.vm := by rw [hvm]; exact State.WarmedH.refl s
  have hat' : ∀ w ∈ vx_atS own ic cls names, w.before args s' = true := fun w hw => vx_ot_at hW0 hvm.symm (hgood w (List.mem_cons_of_mem _ (List.mem_cons_of_mem _ hw))) (hat w hw)
  have hk' : (Cond.classLink own ik cls).before args s' = true := vx_ot_at hW0 hvm.symm (hgood _ List.mem_cons_self) hk
  have hini' : (Cond.initialized cls).before args s' = true := vx_ot_at hW0 hvm.symm (hgood _ (List.mem_cons_of_mem _ List.mem_cons_self)) hini
  have hU' : vx_Zq Bundle.tN "UNASSIGNED_STACK" Bundle.steD A s' s'.heap := by rw [hhp]; exact vx_Zq.moved hW0.alike (hU.kept hS.2.1)
  have hN' : vx_Zq Bundle.tN "SUPPRESSED_SENTINEL" Bundle.listD A s' s'.heap := by rw [hhp]; exact vx_Zq.moved hW0.alike (hN.kept hS.2.1)
  have h : ∀ w ∈ Bundle.ownAtoms own ic cls names, w.before args s' = true := vx_own hat' (vx_isRefq hU'.1) (vx_isRefq hN'.1) hU'.2.word hN'.2.word
  have hown' : s'.vm.findClass own = some m.cls := by rw [hvm]; exact hown
  have hins : (Cond.instantiable cls 6).before args s' = true := h _ (by simp [Bundle.ownAtoms])
  obtain ⟨vm₁, cX, kX, hfX, hkX, -, -, X₁, st1⟩ := Y.newCold hexec (own := own) (C := cls) (index := ik) (n := 6) hown' hk' hins hini'
    (g := F0 m pc ls rest) rfl (by rw [hb]; exact d0) (Nat.le_refl _) (Nat.le_refl _)
  generalize hT1 : (T.setVm vm₁).pushCell { cls := cX, slots := kX.instanceTypes.map defaultValue, vm := .none } = T1 at X₁ st1
  have hcat : (Value.ref T.heap.size).category = 1 := rfl
  have hcellA : T1.heap[T.heap.size]? = some (freshCell cX kX) := by rw [← hT1]; exact State.heap_pushCell_size _ _
  have d3' : decode c.code (pc + 3) = .ok (.dup, 1) := by rw [hb]; exact d3
  have d4' : decode c.code (pc + 4) = .ok (.ldc is, 2) := by rw [hb]; exact d4
  have hstr' : vk_R own is text sa s' := vk_R.warm hW0 hstr
  obtain ⟨U, hsteps, hrun, hend, hW, hsame, ce, hce, hO⟩ := X₁.ctorThrowS hexec htr (own := own) (cls := cls) (names := names) (ic := ic) hown' hcls hnames h (fun x hx => nomatch hx) hfX hkX hcellA (by rw [hhp, hT]; exact Nat.le_refl _) (msg := .ref sa) rfl
    (g := { method := m, pc := pc + 6, locals := ls, stack := .ref sa :: .ref T.heap.size :: .ref T.heap.size :: rest, locked := none }) rfl hsize rfl rfl (rest := rest) rfl
    (by rw [hb]; exact d6) (by rw [hb]; exact d9) hout hRframes (by simp only [List.map_cons, List.sum_cons, hcat]; omega) hlocks
  obtain ⟨f1, f2⟩ := vx_frame hsame
  rw [hhp] at f1 f2
  have hWs : s.WarmedH U.vm := State.WarmedH.trans hW0 hW
  have hcl : s.vm.findClass cls = some ce.cls := by
    have h9 := hO.cls
    rw [hvm] at h9
    exact h9
  have hall : s.sameButNew ({ U with vm := s.vm } : State) locs mc ms := by
    subst hA
    obtain ⟨e1, e2⟩ := hsame
    rw [State.setFrames_setFrames] at e1
    have h2 : (T.setVm s.vm).sameButNew ({ U with vm := s.vm } : State) [] (0 + 1) (0 + 6) := ⟨e1, e2⟩
    have h3 := X.same.trans h2
    rw [List.append_nil] at h3
    exact h3.mono hc hs
  refine ⟨U, ?_, .threw T.heap.size, hrun, hend, Or.inr ⟨T.heap.size, rfl, cls, ce, locs, hx U hWs.alike f1 (fun q hq => f2 q hq (fun z hz => nomatch hz)), hce, hO.vm, hcl, hWs, hall, hf⟩⟩
  refine st1 _ ?_
  show Steps p.tables e below (T1.setTop { method := m, pc := pc + 3, locals := ls, stack := .ref T.heap.size :: rest, locked := none }) _
  jvm_step X₁.here [X₁.here.top, hexec, d3', Value.category]
  exact X₁.ldcString hexec (own := own) (text := text) (index := is) (a := sa) hown' hstr'.1 hstr'.2
    (g := { method := m, pc := pc + 4, locals := ls, stack := .ref T.heap.size :: .ref T.heap.size :: rest, locked := none }) rfl d4' _ hsteps
/-- 'throw new E("text")', the text by a wide index -/
theorem vx_throwSW {cc : ByteArray} {pc : Nat} (hexec : p.tables.exec = Jvm.exec) (hb : c.code = cc) (hl : l.stackTraces = false) {own cls text : String} {names : List String} {ik is ic mc ms sa : Nat} {A : Nat → Prop}
    (hown : s.vm.findClass own = some m.cls) (hcls : Bundle.fit cls = true) (hnames : ∀ n ∈ names, Bundle.fit n = true)
    (hk : (Cond.classLink own ik cls).before args s = true) (hini : (Cond.initialized cls).before args s = true) (hstr : vk_R own is text sa s) (hat : ∀ w ∈ vx_atS own ic cls names, w.before args s = true)
    (hgood : ∀ w ∈ Cond.classLink own ik cls :: Cond.initialized cls :: vx_atS own ic cls names, vx_ot w = true)
    (hU : vx_Zq Bundle.tN "UNASSIGNED_STACK" Bundle.steD A s s.heap) (hN : vx_Zq Bundle.tN "SUPPRESSED_SENTINEL" Bundle.listD A s s.heap) (hS : va_S A s.heap H locs) (hsize : ls.size = c.maxLocals)
    (d0 : decode cc pc = .ok (.new ik, 3)) (d3 : decode cc (pc + 3) = .ok (.dup, 1)) (d4 : decode cc (pc + 4) = .ok (.ldc_w is, 3)) (d7 : decode cc (pc + 7) = .ok (.invokespecial ic, 3)) (d10 : decode cc (pc + 10) = .ok (.athrow, 1))
    (hout : ∀ x ∈ c.exceptionTable.toList, covers x (pc + 10) = false)
    (hRframes : names.length + 3 < R.frames) (hRlocals : (rest.map fun v => v.category).sum + (13 * (names.length + 1) + 43) ≤ R.locals) (hRcells : cells + 1 ≤ R.cells) (hRslots : slots + 6 ≤ R.slots) (hlocks : meth.locks = false)
    (hx : ∀ t : State, s.vm.Alike t.vm → H.size ≤ t.heap.size → (∀ q : Nat, q < H.size → t.heap[q]? = H[q]?) → XC cls s t)
    (hf : ∀ z ∈ locs, free z.base) (hc : cells + 1 ≤ mc) (hs : slots + 6 ≤ ms) :
    W p l e R s m args below meth c H locs cells slots (vx_MQ below Qc XC args s mc ms free) (F0 m pc ls rest) := by
  intro T hT X
  have htr : e.platform.stackTraces = false := (show e.platform.stackTraces = l.stackTraces by rw [X.admits.platform]).trans hl
  have Y := vx_rebase X (R' := { frames := R.frames, locals := R.locals, cells := 1, slots := 6 }) (Nat.le_refl _) (Nat.le_refl _) hRcells hRslots
  obtain ⟨s', hA⟩ : ∃ z, z = (T.setVm s.vm).setFrames (.invoking m args :: below) := ⟨_, rfl⟩
  rw [← hA] at Y
  have hvm : s'.vm = s.vm := by rw [hA]; rfl
  have hhp : s'.heap = H := by rw [hA]; exact hT
  have hW0 : s.WarmedH s'.vm := by rw [hvm]; exact State.WarmedH.refl s
  have hat' : ∀ w ∈ vx_atS own ic cls names, w.before args s' = true := fun w hw => vx_ot_at hW0 hvm.symm (hgood w (List.mem_cons_of_mem _ (List.mem_cons_of_mem _ hw))) (hat w hw)
  have hk' : (Cond.classLink own ik cls).before args s' = true := vx_ot_at hW0 hvm.symm (hgood _ List.mem_cons_self) hk
  have hini' : (Cond.initialized cls).before args s' = true := vx_ot_at hW0 hvm.symm (hgood _ (List.mem_cons_of_mem _ List.mem_cons_self)) hini
  have hU' : vx_Zq Bundle.tN "UNASSIGNED_STACK" Bundle.steD A s' s'.heap := by rw [hhp]; exact vx_Zq.moved hW0.alike (hU.kept hS.2.1)
  have hN' : vx_Zq Bundle.tN "SUPPRESSED_SENTINEL" Bundle.listD A s' s'.heap := by rw [hhp]; exact vx_Zq.moved hW0.alike (hN.kept hS.2.1)
  have h : ∀ w ∈ Bundle.ownAtoms own ic cls names, w.before args s' = true := vx_own hat' (vx_isRefq hU'.1) (vx_isRefq hN'.1) hU'.2.word hN'.2.word
  have hown' : s'.vm.findClass own = some m.cls := by rw [hvm]; exact hown
  have hins : (Cond.instantiable cls 6).before args s' = true := h _ (by simp [Bundle.ownAtoms])
  obtain ⟨vm₁, cX, kX, hfX, hkX, -, -, X₁, st1⟩ := Y.newCold hexec (own := own) (C := cls) (index := ik) (n := 6) hown' hk' hins hini'
    (g := F0 m pc ls rest) rfl (by rw [hb]; exact d0) (Nat.le_refl _) (Nat.le_refl _)
  generalize hT1 : (T.setVm vm₁).pushCell { cls := cX, slots := kX.instanceTypes.map defaultValue, vm := .none } = T1 at X₁ st1
  have hcat : (Value.ref T.heap.size).category = 1 := rfl
  have hcellA : T1.heap[T.heap.size]? = some (freshCell cX kX) := by rw [← hT1]; exact State.heap_pushCell_size _ _
  have d3' : decode c.code (pc + 3) = .ok (.dup, 1) := by rw [hb]; exact d3
  have d4' : decode c.code (pc + 4) = .ok (.ldc_w is, 3) := by rw [hb]; exact d4
  have hstr' : vk_R own is text sa s' := vk_R.warm hW0 hstr
  obtain ⟨U, hsteps, hrun, hend, hW, hsame, ce, hce, hO⟩ := X₁.ctorThrowS hexec htr (own := own) (cls := cls) (names := names) (ic := ic) hown' hcls hnames h (fun x hx => nomatch hx) hfX hkX hcellA (by rw [hhp, hT]; exact Nat.le_refl _) (msg := .ref sa) rfl
    (g := { method := m, pc := pc + 7, locals := ls, stack := .ref sa :: .ref T.heap.size :: .ref T.heap.size :: rest, locked := none }) rfl hsize rfl rfl (rest := rest) rfl
    (by rw [hb]; exact d7) (by rw [hb]; exact d10) hout hRframes (by simp only [List.map_cons, List.sum_cons, hcat]; omega) hlocks
  obtain ⟨f1, f2⟩ := vx_frame hsame
  rw [hhp] at f1 f2
  have hWs : s.WarmedH U.vm := State.WarmedH.trans hW0 hW
  have hcl : s.vm.findClass cls = some ce.cls := by
    have h9 := hO.cls
    rw [hvm] at h9
    exact h9
  have hall : s.sameButNew ({ U with vm := s.vm } : State) locs mc ms := by
    subst hA
    obtain ⟨e1, e2⟩ := hsame
    rw [State.setFrames_setFrames] at e1
    have h2 : (T.setVm s.vm).sameButNew ({ U with vm := s.vm } : State) [] (0 + 1) (0 + 6) := ⟨e1, e2⟩
    have h3 := X.same.trans h2
    rw [List.append_nil] at h3
    exact h3.mono hc hs
  refine ⟨U, ?_, .threw T.heap.size, hrun, hend, Or.inr ⟨T.heap.size, rfl, cls, ce, locs, hx U hWs.alike f1 (fun q hq => f2 q hq (fun z hz => nomatch hz)), hce, hO.vm, hcl, hWs, hall, hf⟩⟩
  refine st1 _ ?_
  show Steps p.tables e below (T1.setTop { method := m, pc := pc + 3, locals := ls, stack := .ref T.heap.size :: rest, locked := none }) _
  jvm_step X₁.here [X₁.here.top, hexec, d3', Value.category]
  exact X₁.ldcStringW hexec (own := own) (text := text) (index := is) (a := sa) hown' hstr'.1 hstr'.2
    (g := { method := m, pc := pc + 4, locals := ls, stack := .ref T.heap.size :: .ref T.heap.size :: rest, locked := none }) rfl d4' _ hsteps
end Ends
section Bodies
variable {l : Launch}
theorem vx_ofW {y : MethodName} {ws ws' : List Cond} {rm : Room} {Pc : Array Value → State → Prop} {Qc : Array Value → State → Outcome → State → Prop} {XC : String → State → State → Prop} {mc ms : Nat} {free : Addr → Prop} {cc : ByteArray} {maxL : Nat} {ret : Option FieldType}
    (hy : plainName y.cls = true) (hw : ws = Cond.code y cc maxL ret :: ws')
    (body : ∀ p e s m args below meth c s₁, BodyLoose p l y (headSpec ws rm) cc maxL ret e s m args below meth c s₁ → c.maxLocals = maxL → (∀ x ∈ c.exceptionTable.toList, False) → Pc args s →
      W p l e (headSpec ws rm).room s m args below meth c s.heap [] 0 0 (vx_MQ below Qc XC args s mc ms free) (entryFrame m args maxL)) : vx_Met l y ws rm Pc Qc XC mc ms free := by
  refine MetFree.of_bodyS (code := cc) (maxLocals := maxL) (ret := ret) hy ?_ ?_
  · intro args s m h hn
    obtain ⟨meth, c, h1, h2, h3, h4, h5, h6, -, -⟩ := Cond.code_spec hn (atoms_spec (ws := ws) h _ (by rw [hw]; exact List.mem_cons_self))
    exact ⟨meth, c, h1, h2, h3, h4, h5, h6⟩
  · intro p e s m args below meth c s₁ B hml hP _
    have hh0 : s₁.heap = s.heap := by rw [B.state]; rfl
    have ht : ∀ x ∈ c.exceptionTable.toList, False := by
      obtain ⟨meth9, c9, h1, h2, -, -, -, -, h7, -⟩ := Cond.code_spec B.named (atoms_spec (ws := ws) B.pre _ (by rw [hw]; exact List.mem_cons_self))
      cases Option.some.inj (h1.symm.trans B.method)
      cases Option.some.inj (h2.symm.trans (Stand.of_body B).code)
      intro x hx
      rw [Array.isEmpty_iff.mp h7] at hx
      cases hx
    obtain ⟨t, a1, o, b1, b2, b3⟩ := body p e s m args below meth c s₁ B hml ht hP s₁ hh0 (Stand.of_body B)
    exact ⟨t, o, a1, b1, b2, b3⟩
/-- the table of a body with handlers -/
theorem vx_table {p : Program} {x y : MethodName} {S : Spec} {cc bytes : ByteArray} {maxL maxL' : Nat} {ret ret' : Option FieldType} {e : Env} {s s₁ : State} {m : MethodId} {args : Array Value} {below : List Frame} {meth : Method} {c : Code} {hh : List (Nat × Nat × Nat × Nat)}
    (B : BodyLoose p l y S cc maxL ret e s m args below meth c s₁) (h : (Cond.codeWith y bytes maxL' ret' hh).before args s = true) : c.exceptionTable.toList = tableOf hh := by
  obtain ⟨m9, meth9, c9, hn9, h1, h2, -, -, h6, -⟩ := Cond.codeWith_spec h
  cases Option.some.inj (hn9.symm.trans B.named)
  cases Option.some.inj (h1.symm.trans B.method)
  cases Option.some.inj (h2.symm.trans (Stand.of_body B).code)
  rw [← h6, table_eq]
end Bodies
end VXA
/-! ===== END ===== -/
/-! ===== BEGIN a static call of a method with an exception table ===== -/
section VXS
variable {p : Program} {l : Launch} {e : Env} {R : Room} {s : State} {m : MethodId} {args : Array Value} {below : List Frame} {meth : Method} {c : Code} {T : State} {H : Heap} {locs : List Loc} {cells slots : Nat}
abbrev vx_CSW (R : Room) (s : State) (args : Array Value) (own : String) (index : Nat) (y : MethodName) (bytes : ByteArray) (maxL : Nat) (ret : Option FieldType) (hh : List (Nat × Nat × Nat × Nat)) (ws : List Cond) (rm : Room) (mc ms n : Nat) : Prop :=
  (rm.cells = mc ∧ rm.slots = ms ∧ rm.frames + 1 ≤ R.frames ∧ 8 + (maxL + 11) + rm.locals ≤ R.locals ∧ (∀ w ∈ ws, ∀ (a' : Array Value) (U : State), s.WarmedH U.vm → w.before a' U = true) ∧ Cond.codeWith y bytes maxL ret hh ∈ ws) ∧
  (Cond.codeWith y bytes maxL ret hh).before args s = true ∧ (Cond.initialized y.cls).before args s = true ∧ (y.cls ≠ "java/lang/invoke/MethodHandle" ∧ y.cls ≠ "java/lang/invoke/VarHandle") ∧
  (∀ sig, parseMethodDescriptor y.desc = some sig → n = sig.parameters.length) ∧ (Cond.methodLink own index y).before args s = true ∧ (Cond.static y).before args s = true
theorem vx_cwSW {own : String} {index maxL mc ms : Nat} {y : MethodName} {bytes : ByteArray} {ret : Option FieldType} {hh : List (Nat × Nat × Nat × Nat)} {Ts ws ws' : List Cond} {rm : Room} (n : Nat) (ht : ∀ w ∈ Ts, w.before args s = true) (hT : GoodIn Ts (va_wsS own index y ws)) (hw : ws = Cond.codeWith y bytes maxL ret hh :: ws') (hrc : rm.cells = mc) (hrs : rm.slots = ms)
    (hd : y.cls ≠ "java/lang/invoke/MethodHandle" ∧ y.cls ≠ "java/lang/invoke/VarHandle" ∧ (parseMethodDescriptor y.desc).map (fun d => d.parameters.length) = some n) (hR : rm.frames + 1 ≤ R.frames ∧ 8 + (maxL + 11) + rm.locals ≤ R.locals) :
    vx_CSW R s args own index y bytes maxL ret hh ws rm mc ms n := by
  have ok : ∀ w ∈ va_wsS own index y ws, w.before args s = true := fun w h => ht w (hT w h).1
  have hG : GoodIn Ts ws := fun w h => hT w (by unfold va_wsS; exact List.mem_append_right _ h)
  have hc : Cond.codeWith y bytes maxL ret hh ∈ ws := by rw [hw]; exact List.mem_cons_self
  refine ⟨⟨hrc, hrs, hR.1, hR.2, pay_in ht hG, hc⟩, ht _ (hG _ hc).1, ok _ (by simp [va_wsS]), ⟨hd.1, hd.2.1⟩, fun sig h => ?_, ok _ (by simp [va_wsS]), ok _ (by simp [va_wsS])⟩
  have h2 := hd.2.2
  rw [h] at h2
  exact (Option.some.inj h2).symm
theorem vx_callSW (X : Stand p l e R s m args below meth c T locs cells slots) (hexec : p.tables.exec = Jvm.exec) {own : String} {index : Nat} {y : MethodName} {bytes : ByteArray} {maxL : Nat} {ret : Option FieldType} {hh : List (Nat × Nat × Nat × Nat)}
    (hown : s.vm.findClass own = some m.cls) (hlink : (Cond.methodLink own index y).before args s = true) (hstat : (Cond.static y).before args s = true) (hinit : (Cond.initialized y.cls).before args s = true)
    (hcode : (Cond.codeWith y bytes maxL ret hh).before args s = true) (hy : y.cls ≠ "java/lang/invoke/MethodHandle" ∧ y.cls ≠ "java/lang/invoke/VarHandle")
    {W9 : Nat} {Pre : Pt → Array Value → Prop} {Post : Pt → Array Value → Option Value → Pt → Prop} (hK : Back l R p e below s args y 3 W9 Pre Post)
    {g : JFrame} (hg : g.method = m) (hsize : g.locals.size = c.maxLocals) {argsL rest : List Value} (hlen : ∀ sig, parseMethodDescriptor y.desc = some sig → argsL.length = sig.parameters.length)
    (hstack : g.stack = argsL.reverse ++ rest) (hW : 2 * g.monitorRoom + (rest.map fun v => v.category).sum ≤ W9) (hdg : decode c.code g.pc = .ok (.invokestatic index, 3))
    (hpre : ∀ vm₁, s.WarmedH vm₁ → Pre ⟨T.setVm vm₁, locs, cells, slots⟩ argsL.toArray) :
    ∃ (v : Option Value) (vm₁ : Vm) (B : Pt), s.WarmedH vm₁ ∧ Stand p l e R s m args below meth c B.U B.locs B.cells B.slots ∧ Post ⟨T.setVm vm₁, locs, cells, slots⟩ argsL.toArray v B ∧
      ∀ target, Steps p.tables e below (B.U.setTop { g with pc := g.pc + 3, stack := v.toList ++ rest }) target → Steps p.tables e below (T.setTop g) target := by
  obtain ⟨mk, methM, cM, hnamed, hmethM, -, -, -, -, -, -, hsigM⟩ := Cond.codeWith_spec hcode
  have hstatic : methM.isStatic = true := Cond.static_spec hnamed hmethM hstat
  obtain ⟨kP, hkP, -⟩ := className_of_methodNamed hnamed
  have hinitP : kP.init = .initialized := Cond.initialized_spec (findClass_of_methodNamed hnamed) hkP hinit
  obtain ⟨vm₁, X₁, hstep₁⟩ := X.invokestatic hexec hown hlink hnamed hmethM hstatic hkP hinitP hy (g := g) hg (argsL := argsL) (rest := rest) (hlen _ hsigM) hstack hdg
  obtain ⟨v, B, X', hpost, hsteps⟩ := hK m meth c ⟨T.setVm vm₁, locs, cells, slots⟩ { g with stack := rest } (.invokestatic index) mk argsL.toArray X₁ hg hsize hdg hW (X₁.named hnamed) (hpre vm₁ X₁.warmed)
  exact ⟨v, vm₁, B, X₁.warmed, X', hpost, fun target h => hstep₁ _ fun acts => by rw [doInvoke_state]; exact hsteps.trans h⟩
theorem vx_runSW {y : MethodName} {bytes cc : ByteArray} {maxL nL mc ms n index : Nat} {ret : Option FieldType} {hh : List (Nat × Nat × Nat × Nat)} {ws : List Cond} {rm : Room} {Pc : Array Value → State → Prop} {Qc : Array Value → State → Outcome → State → Prop} {free : Addr → Prop} {Ts : List Cond} {own : String} {As rest : List Value} {g : JFrame}
    (S : CallFix p m c cc nL s args Ts own) (hM : Met l y ws rm Pc Qc mc ms free) (cw : vx_CSW R s args own index y bytes maxL ret hh ws rm mc ms n) (hp : PreS s H Pc As)
    (hg : g.method = m) (hn : As.length = n) (hsize : g.locals.size = nL) (hstack : g.stack = As.reverse ++ rest) (hW : 2 * g.monitorRoom + (rest.map fun v => v.category).sum ≤ 8) (hdg : decode cc g.pc = .ok (.invokestatic index, 3)) (hf : cells + mc ≤ R.cells ∧ slots + ms ≤ R.slots) :
    va_Run p l e R s m args below meth c H locs cells slots mc ms g rest (Qc As.toArray) (free) := by
  obtain ⟨⟨hrc, hrs, hfr, hlo, hws, hcw⟩, hcode, hini, hy, hlen, hl, hstt⟩ := cw
  have hK : Back l R p e below s args y 3 8 (PreOf R mc ms Pc) (PostOf Qc mc ms free) := va_backW (hh := hh) (bytes := bytes) (maxL := maxL) (ret := ret) hM hp.1 hrc hrs hfr hlo hws hcw (fun a' U hW => word_at hW (Or.inl (by first | rfl | simp [Cond.onTables, Cond.keeps, Cond.steady])) hini)
  obtain ⟨hx, hb, hml, ho, -⟩ := S
  intro T hT X
  obtain ⟨v, vm₁, ⟨U', l2, c2, s2⟩, hW₁, X', ⟨g', mk, t, L, e1, e2, hq, h1, hL, h2, h3⟩, st⟩ := vx_callSW X hx (hh := hh) (bytes := bytes) (maxL := maxL) (ret := ret) ho hl hstt hini hcode hy hK hg (hsize.trans hml.symm) (argsL := As) (rest := rest) (fun sig h => hn.trans (hlen sig h)) hstack hW (by rw [hb]; exact hdg)
    (fun vm₁ hW₁ => ⟨hf.1, hf.2, hp.2 (T.setVm vm₁) hT hW₁⟩)
  dsimp only [Pt.U, Pt.locs, Pt.cells, Pt.slots] at X' e1 e2 h1 h2 h3 st
  subst h1; subst h2; subst h3
  exact ⟨v, (T.setVm vm₁).calling g' mk As.toArray, t, U', L, hT, X', hL, e1, e2, hq, st⟩
/-- not caught here, past rows that name other classes: it goes on to the caller -/
theorem vx_outP {p : Program} {l : Launch} {e : Env} {R : Room} {s : State} {m : MethodId} {args : Array Value} {below : List Frame} {meth : Method} {c : Code} {H : Heap} {locs : List Loc} {cells slots : Nat} {free : Addr → Prop} {ls : Array Slot} {rest : List Value} {Qc : Array Value → State → Outcome → State → Prop} {XC : String → State → State → Prop}
    {pc : Nat} {own E : String} {ce : Cell} {q : Addr} {mc ms : Nat} (hown : s.vm.findClass own = some m.cls) (hlocks : meth.locks = false)
    (hpass : ∀ z ∈ c.exceptionTable.toList, covers z pc = false ∨ (z.catchType ≠ 0 ∧ ∃ nm : String, (Cond.classLink own z.catchType nm).before args s = true ∧ va_Nc E nm s)) (hcell : H[q]? = some ce) (hv : ce.vm = .none) (hcl : s.vm.findClass E = some ce.cls)
    (hx : ∀ t : State, t.heap = H → s.vm.Alike t.vm → XC E s t) (hf : ∀ z ∈ locs, free z.base) (hc : cells ≤ mc) (hs : slots ≤ ms) :
    vx_W p l e R s m args below meth c H locs cells slots (vx_MQ below Qc XC args s mc ms free) (F0 m pc ls rest) q := by
  intro T hT X
  have hpl : e.platform.magicAccessors = ({} : Platform).magicAccessors := by rw [X.admits.platform]
  obtain ⟨vm', hW', X', st⟩ := X.outThrough hlocks q (g := F0 m pc ls rest) rfl rfl rfl (cell := ce) (by rw [hT]; exact hcell) (by rw [hv]; rfl)
    (by obtain ⟨k9, h9, -⟩ := Vm.findClass_spec hcl; exact ⟨k9, h9⟩) (fun z hz => by
      rcases hpass z hz with h | ⟨hz0, nm, hl1, hn1⟩
      · exact Or.inl h
      · obtain ⟨c6, hc6, hcl6⟩ := Cond.classLink_spec hown hl1 e.platform hpl
        obtain ⟨a8, b8, h1, h2, h3⟩ := hn1
        cases Option.some.inj (h1.symm.trans hcl)
        cases Option.some.inj (h2.symm.trans hc6)
        exact Or.inr ⟨hz0, _, hcl6, h3⟩)
  obtain ⟨g₀, hfr⟩ := X'.frames_eq
  have hcell9 : ((T.setVm vm').setFrames (.throwing q :: below)).heap[q]? = some ce := by
    show T.heap[q]? = some ce
    rw [hT]; exact hcell
  have hend : Ended ((T.setVm vm').setFrames (.throwing q :: below)) below (.threw q) := State.frames_setFrames _ (State.cur_lt_of_frames hfr)
  refine ⟨(T.setVm vm').setFrames (.throwing q :: below), ?_, .threw q, X'.here.running, hend, Or.inr ⟨q, rfl, E, ce, locs, hx _ hT (X'.ends _).1.alike, hcell9, hv, hcl, (X'.ends _).1, (X'.ends _).2.mono hc hs, hf⟩⟩
  rw [X.pushThrowing_eq]
  exact st
/-- a thing of a world lies in the heap -/
theorem vx_lt {D : va_G} {cl : List vw_C} {ws : va_W} {H1 : Heap} (h : va_P D cl ws H1) {k : Nat} {q : Nat × va_E} (hk : ws[k]? = some q) : q.1 < H1.size := (h k q hk).lt
end VXS
/-! ===== END ===== -/
/-! ===== BEGIN methods with a table of their own: called by a name, returning or throwing ===== -/
section VXH
/-! vx_backW, vx_callVX, vx_callSX, vx_callVW, vx_runVW, vx_runVX, vx_runSX, vx_ofWH follow the same proofs as their sisters above (Free/Laws.lean, Shelf42/LK1.lean); vx_outP calls Shelf42/NT130.lean (outThrough). -/
section
variable {l : Launch} {R : Room} {p : Program} {e : Env} {below : List Frame} {s : State} {sargs : Array Value} {y : MethodName} {len W9 : Nat}
theorem vx_backW {ws : List Cond} {rm : Room} {Pc : Array Value → State → Prop} {Qc : Array Value → State → Outcome → State → Prop} {XC : String → State → State → Prop} {mc ms : Nat} {free : Addr → Prop} {bytes : ByteArray} {maxL : Nat} {ret : Option FieldType} {hh : List (Nat × Nat × Nat × Nat)}
    (hM : vx_Met l y ws rm Pc Qc XC mc ms free) (hblind : FrameBlind Pc) (hrc : rm.cells = mc) (hrs : rm.slots = ms)
    (hframes : rm.frames + 1 ≤ R.frames) (hlocals : W9 + (maxL + 11) + rm.locals ≤ R.locals)
    (hws : ∀ w ∈ ws, ∀ a' U, s.WarmedH U.vm → w.before a' U = true) (hcode : Cond.codeWith y bytes maxL ret hh ∈ ws) (hinit : ∀ a' U, s.WarmedH U.vm → (Cond.initialized y.cls).before a' U = true) :
    vx_Back l R p e below s sargs y len W9 (PreOf R mc ms Pc) (PostOf Qc mc ms free) (vx_Post XC mc ms free) := by
  intro m meth c A g ig mk a X hg hsize hdg hW hn hp
  have h1 : (headSpec ws rm).pre.before a A.U = true := atoms_intro fun w hw => hws w hw _ _ X.warmed
  have h2 : (Cond.codeWith y bytes maxL ret hh).before a A.U = true := hws _ hcode _ _ X.warmed
  have h3 : (Cond.initialized y.cls).before a A.U = true := hinit _ _ X.warmed
  have h4 : A.cells + (headSpec ws rm).room.cells ≤ R.cells := by rw [show (headSpec ws rm).room.cells = mc from hrc]; exact hp.1
  have h5 : A.slots + (headSpec ws rm).room.slots ≤ R.slots := by rw [show (headSpec ws rm).room.slots = ms from hrs]; exact hp.2.1
  have hPc : Pc a (A.U.calling g mk a) := hblind _ _ _ _ hp.2.2
  obtain ⟨U, Ls, c0, s0⟩ := A
  dsimp only [Pt.U, Pt.locs, Pt.cells, Pt.slots] at h1 h2 h3 h4 h5 X hn hPc ⊢
  obtain ⟨m9, methY, cY, hn9, hmY, hcY, -, hlY, -⟩ := Cond.codeWith_spec h2
  cases Option.some.inj (hn9.symm.trans hn)
  obtain ⟨kY, hkY, -⟩ := className_of_methodNamed hn
  have hinitY : kY.init = .initialized := Cond.initialized_spec (findClass_of_methodNamed hn) hkY h3
  have h : At U g.method c below := by rw [hg]; exact X.here
  have hlocals9 : W9 + (maxL + 11) + (headSpec ws rm).room.locals ≤ R.locals := hlocals
  have happ : (headSpec ws rm).appliesLoose y e.platform (U.calling g mk a) = true :=
    Spec.appliesLoose_calling (g := g) h hdg hn hkY hinitY
      (X.room_calling (g := g) (R' := (headSpec ws rm).room) hsize hmY hcY hframes (by rw [hlY]; omega) h4 h5) h1
  obtain ⟨mid, hmid⟩ := h.above
  have hfr : (U.setTop g).frames = (.java g :: mid) ++ below := by rw [State.frames_setTop' g h.top, hmid]; rfl
  obtain ⟨o, s₂, hsteps, -, hend, hq⟩ := Steps.callFree hM p X.admits X.cas X.clock (acts := []) hfr happ hPc trivial
  have hq' : vx_Q Qc XC mc ms free a (U.calling g mk a) o s₂ := hq
  rw [State.frames_setTop' g h.top] at hend
  obtain ⟨g₀, hg0⟩ := Option.isSome_iff_exists.mp h.top
  obtain ⟨r, hr⟩ := State.topJava?_eq_some.mp hg0
  have hr' : (({ U with heap := s₂.heap, slotsUsed := s₂.slotsUsed } : State).setVm s₂.vm).frames = .java g₀ :: r := hr
  rcases hq' with ⟨hqc, L, hfe, hL⟩ | ⟨q, rfl, E, ce, L, hx, hce, hcv, hcl, hW₂, hsm, hL⟩
  · obtain ⟨⟨v, rfl⟩, hW₂, e2, q2, q3, q4, q5, q6⟩ := id hfe
    have e3 : s₂ = ({ (U.calling g mk a).setFrames s₂.frames with heap := s₂.heap, slotsUsed := s₂.slotsUsed } : State).setVm s₂.vm := by
      have : s₂ = ({ s₂ with vm := (U.calling g mk a).vm } : State).setVm s₂.vm := rfl
      rw [e2] at this
      exact this
    obtain ⟨c₂, i₂, len₂, hc₂, hd₂, hf₂⟩ := hend
    have hW' : U.WarmedH s₂.vm := hW₂
    have hcc : c₂ = c := by
      have h1 : s₂.code? g.method = U.code? g.method := by
        rw [State.code?_eq, State.code?_eq, hW'.alike.method?]
      exact Option.some.inj (hc₂.symm.trans (h1.trans h.code))
    subst hcc
    have hlen : len₂ = len := by rw [hdg] at hd₂; cases hd₂; rfl
    subst hlen
    have hs₂ : s₂ = (({ U with heap := s₂.heap, slotsUsed := s₂.slotsUsed } : State).setVm s₂.vm).setTop { g with pc := g.pc + len₂, stack := v.toList ++ g.stack } := by
      refine e3.trans ?_
      rw [hf₂, State.calling_eq h.top, State.setFrames_setFrames, State.setTop_of_frames _ hr', hr]
      rfl
    have hsame : U.sameButNew ({ U with heap := s₂.heap, slotsUsed := s₂.slotsUsed } : State) L mc ms := by
      refine ⟨?_, q2, q3, q4, q5, q6⟩
      obtain ⟨t, ht, -⟩ := State.frames_cons hr
      show ({ U with heap := s₂.heap, slotsUsed := s₂.slotsUsed } : State) = { U.setFrames U.frames with heap := s₂.heap, slotsUsed := s₂.slotsUsed }
      rw [State.setFrames_self ht]
    subst hg
    refine Or.inl ⟨v, ⟨(({ U with heap := s₂.heap, slotsUsed := s₂.slotsUsed } : State).setVm s₂.vm), Ls ++ L, c0 + mc, s0 + ms⟩,
      ⟨X.admits, X.cas, X.clock, X.frames, X.room, X.hears, X.method, X.code, (X.here.setHeapUsed s₂.heap s₂.slotsUsed).setVm hW'.alike, X.tail, State.WarmedH.trans X.warmed hW', X.limits, X.bytes, X.same.trans (hsame.setVm s.vm)⟩,
      ⟨g, mk, s₂, L, rfl, rfl, hqc, rfl, hL, rfl, rfl⟩, ?_⟩
    show Steps p.tables e below _ ((({ U with heap := s₂.heap, slotsUsed := s₂.slotsUsed } : State).setVm s₂.vm).setTop { g with pc := g.pc + len₂, stack := v.toList ++ g.stack })
    rw [← hs₂]
    exact hsteps
  · obtain ⟨e2, q2, q3, q4, q5, q6⟩ := id hsm
    have e3 : s₂ = ({ (U.calling g mk a).setFrames s₂.frames with heap := s₂.heap, slotsUsed := s₂.slotsUsed } : State).setVm s₂.vm := by
      have : s₂ = ({ s₂ with vm := (U.calling g mk a).vm } : State).setVm s₂.vm := rfl
      rw [e2] at this
      exact this
    have hf₂ : s₂.frames = .throwing q :: .java g :: U.frames.tail := hend
    have hW' : U.WarmedH s₂.vm := hW₂
    have hs₂ : s₂ = ((({ U with heap := s₂.heap, slotsUsed := s₂.slotsUsed } : State).setVm s₂.vm).setTop g).pushFrame (.throwing q) := by
      refine e3.trans ?_
      rw [hf₂, State.calling_eq h.top, State.setFrames_setFrames, State.pushFrame, State.frames_setTop _ hr', State.setTop_of_frames _ hr', State.setFrames_setFrames, hr]
      rfl
    have hsame : U.sameButNew ({ U with heap := s₂.heap, slotsUsed := s₂.slotsUsed } : State) L mc ms := by
      refine ⟨?_, q2, q3, q4, q5, q6⟩
      obtain ⟨t, ht, -⟩ := State.frames_cons hr
      show ({ U with heap := s₂.heap, slotsUsed := s₂.slotsUsed } : State) = { U.setFrames U.frames with heap := s₂.heap, slotsUsed := s₂.slotsUsed }
      rw [State.setFrames_self ht]
    subst hg
    refine Or.inr ⟨q, ⟨(({ U with heap := s₂.heap, slotsUsed := s₂.slotsUsed } : State).setVm s₂.vm), Ls ++ L, c0 + mc, s0 + ms⟩,
      ⟨X.admits, X.cas, X.clock, X.frames, X.room, X.hears, X.method, X.code, (X.here.setHeapUsed s₂.heap s₂.slotsUsed).setVm hW'.alike, X.tail, State.WarmedH.trans X.warmed hW', X.limits, X.bytes, X.same.trans (hsame.setVm s.vm)⟩,
      ⟨g, mk, s₂, L, E, ce, rfl, rfl, hx, hce, hcv, hcl, rfl, hL, rfl, rfl⟩, ?_⟩
    show Steps p.tables e below _ (((({ U with heap := s₂.heap, slotsUsed := s₂.slotsUsed } : State).setVm s₂.vm).setTop g).pushFrame (.throwing q))
    rw [← hs₂]
    exact hsteps
end
variable {p : Program} {l : Launch} {e : Env} {R : Room} {s : State} {m : MethodId} {args : Array Value} {below : List Frame} {meth : Method} {c : Code} {T : State} {H : Heap} {locs : List Loc} {cells slots : Nat}
theorem vx_callVX (X : Stand p l e R s m args below meth c T locs cells slots) (hexec : p.tables.exec = Jvm.exec) {own C : String} {index : Nat} {y : MethodName} {bytes : ByteArray} {maxL : Nat} {ret : Option FieldType} {hh : List (Nat × Nat × Nat × Nat)}
    (hown : s.vm.findClass own = some m.cls) (hlink : (Cond.methodLink own index y).before args s = true) (hinst : (Cond.instanceMethod y).before args s = true) (hsel : (Cond.selects C y y).before args s = true)
    (hcode : (Cond.codeWith y bytes maxL ret hh).before args s = true) (hy : y.cls ≠ "java/lang/invoke/MethodHandle" ∧ y.cls ≠ "java/lang/invoke/VarHandle")
    {W9 : Nat} {Pre : Pt → Array Value → Prop} {Post : Pt → Array Value → Option Value → Pt → Prop} {PostX : Pt → Array Value → Addr → Pt → Prop} (hK : vx_Back l R p e below s args y 3 W9 Pre Post PostX)
    {b : Addr} {cellB : Cell} (hcell : T.heap[b]? = some cellB) (hobj : cellB.vm.isStatics = false) (hcls : s.vm.findClass C = some cellB.cls)
    {g : JFrame} (hg : g.method = m) (hsize : g.locals.size = c.maxLocals) {argsL rest : List Value} (hlen : ∀ sig, parseMethodDescriptor y.desc = some sig → argsL.length = sig.parameters.length)
    (hstack : g.stack = argsL.reverse ++ .ref b :: rest) (hW : 2 * g.monitorRoom + (rest.map fun v => v.category).sum ≤ W9) (hdg : decode c.code g.pc = .ok (.invokevirtual index, 3))
    (hpre : ∀ vm₁, s.WarmedH vm₁ → Pre ⟨T.setVm vm₁, locs, cells, slots⟩ (Value.ref b :: argsL).toArray) :
    (∃ (v : Option Value) (vm₁ : Vm) (B : Pt), s.WarmedH vm₁ ∧ Stand p l e R s m args below meth c B.U B.locs B.cells B.slots ∧ Post ⟨T.setVm vm₁, locs, cells, slots⟩ (Value.ref b :: argsL).toArray v B ∧
      ∀ target, Steps p.tables e below (B.U.setTop { g with pc := g.pc + 3, stack := v.toList ++ rest }) target → Steps p.tables e below (T.setTop g) target) ∨
    (∃ (q : Addr) (vm₁ : Vm) (B : Pt), s.WarmedH vm₁ ∧ Stand p l e R s m args below meth c B.U B.locs B.cells B.slots ∧ PostX ⟨T.setVm vm₁, locs, cells, slots⟩ (Value.ref b :: argsL).toArray q B ∧
      Steps p.tables e below (T.setTop g) ((B.U.setTop { g with stack := rest }).pushFrame (.throwing q))) := by
  obtain ⟨mk, methM, hnamed, hmethM, hstM, habM⟩ := Cond.instanceMethod_spec hinst
  obtain ⟨m8, methM', cM, hn8, hmethM', -, -, -, -, -, -, hsigM⟩ := Cond.codeWith_spec hcode
  cases Option.some.inj (hn8.symm.trans hnamed)
  cases hmethM.symm.trans hmethM'
  obtain ⟨c2, r2, m2, q1, q2, q3, q4, kP, hkP, hkPi⟩ := Cond.selects_spec hsel
  cases hcls.symm.trans q1
  cases (State.methodFound?_of_named hnamed hy).symm.trans q2
  cases hnamed.symm.trans q3
  have hselP : selectMethod e.platform s.vm cellB.cls mk = .method mk := by rw [Launch.admits_selectMethod X.admits]; exact q4
  obtain ⟨vm₁, X₁, hstep₁⟩ := X.invokevirtual hexec hown hlink hnamed hmethM hstM hkP hkPi hy (a := b) (cell := cellB) hcell
    (fun z h => by rw [h] at hobj; cases hobj) hselP hmethM habM hkP hkPi (g := g) hg (argsL := argsL) (rest := rest) (hlen _ hsigM) hstack hdg
  rcases hK m meth c ⟨T.setVm vm₁, locs, cells, slots⟩ { g with stack := rest } (.invokevirtual index) mk (Value.ref b :: argsL).toArray X₁ hg hsize hdg hW (X₁.named hnamed) (hpre vm₁ X₁.warmed) with ⟨v, B, X', hpost, hsteps⟩ | ⟨q, B, X', hpost, hsteps⟩
  · exact Or.inl ⟨v, vm₁, B, X₁.warmed, X', hpost, fun target h => hstep₁ _ fun acts => by rw [doInvoke_state]; exact hsteps.trans h⟩
  · exact Or.inr ⟨q, vm₁, B, X₁.warmed, X', hpost, hstep₁ _ fun acts => by rw [doInvoke_state]; exact hsteps⟩
theorem vx_callSX (X : Stand p l e R s m args below meth c T locs cells slots) (hexec : p.tables.exec = Jvm.exec) {own : String} {index : Nat} {y : MethodName} {bytes : ByteArray} {maxL : Nat} {ret : Option FieldType} {hh : List (Nat × Nat × Nat × Nat)}
    (hown : s.vm.findClass own = some m.cls) (hlink : (Cond.methodLink own index y).before args s = true) (hstat : (Cond.static y).before args s = true) (hinit : (Cond.initialized y.cls).before args s = true)
    (hcode : (Cond.codeWith y bytes maxL ret hh).before args s = true) (hy : y.cls ≠ "java/lang/invoke/MethodHandle" ∧ y.cls ≠ "java/lang/invoke/VarHandle")
    {W9 : Nat} {Pre : Pt → Array Value → Prop} {Post : Pt → Array Value → Option Value → Pt → Prop} {PostX : Pt → Array Value → Addr → Pt → Prop} (hK : vx_Back l R p e below s args y 3 W9 Pre Post PostX)
    {g : JFrame} (hg : g.method = m) (hsize : g.locals.size = c.maxLocals) {argsL rest : List Value} (hlen : ∀ sig, parseMethodDescriptor y.desc = some sig → argsL.length = sig.parameters.length)
    (hstack : g.stack = argsL.reverse ++ rest) (hW : 2 * g.monitorRoom + (rest.map fun v => v.category).sum ≤ W9) (hdg : decode c.code g.pc = .ok (.invokestatic index, 3))
    (hpre : ∀ vm₁, s.WarmedH vm₁ → Pre ⟨T.setVm vm₁, locs, cells, slots⟩ argsL.toArray) :
    (∃ (v : Option Value) (vm₁ : Vm) (B : Pt), s.WarmedH vm₁ ∧ Stand p l e R s m args below meth c B.U B.locs B.cells B.slots ∧ Post ⟨T.setVm vm₁, locs, cells, slots⟩ argsL.toArray v B ∧
      ∀ target, Steps p.tables e below (B.U.setTop { g with pc := g.pc + 3, stack := v.toList ++ rest }) target → Steps p.tables e below (T.setTop g) target) ∨
    (∃ (q : Addr) (vm₁ : Vm) (B : Pt), s.WarmedH vm₁ ∧ Stand p l e R s m args below meth c B.U B.locs B.cells B.slots ∧ PostX ⟨T.setVm vm₁, locs, cells, slots⟩ argsL.toArray q B ∧
      Steps p.tables e below (T.setTop g) ((B.U.setTop { g with stack := rest }).pushFrame (.throwing q))) := by
  obtain ⟨mk, methM, cM, hnamed, hmethM, -, -, -, -, -, -, hsigM⟩ := Cond.codeWith_spec hcode
  have hstatic : methM.isStatic = true := Cond.static_spec hnamed hmethM hstat
  obtain ⟨kP, hkP, -⟩ := className_of_methodNamed hnamed
  have hinitP : kP.init = .initialized := Cond.initialized_spec (findClass_of_methodNamed hnamed) hkP hinit
  obtain ⟨vm₁, X₁, hstep₁⟩ := X.invokestatic hexec hown hlink hnamed hmethM hstatic hkP hinitP hy (g := g) hg (argsL := argsL) (rest := rest) (hlen _ hsigM) hstack hdg
  rcases hK m meth c ⟨T.setVm vm₁, locs, cells, slots⟩ { g with stack := rest } (.invokestatic index) mk argsL.toArray X₁ hg hsize hdg hW (X₁.named hnamed) (hpre vm₁ X₁.warmed) with ⟨v, B, X', hpost, hsteps⟩ | ⟨q, B, X', hpost, hsteps⟩
  · exact Or.inl ⟨v, vm₁, B, X₁.warmed, X', hpost, fun target h => hstep₁ _ fun acts => by rw [doInvoke_state]; exact hsteps.trans h⟩
  · exact Or.inr ⟨q, vm₁, B, X₁.warmed, X', hpost, hstep₁ _ fun acts => by rw [doInvoke_state]; exact hsteps⟩
theorem vx_callVW (X : Stand p l e R s m args below meth c T locs cells slots) (hexec : p.tables.exec = Jvm.exec) {own C : String} {index : Nat} {y : MethodName} {bytes : ByteArray} {maxL : Nat} {ret : Option FieldType} {hh : List (Nat × Nat × Nat × Nat)}
    (hown : s.vm.findClass own = some m.cls) (hlink : (Cond.methodLink own index y).before args s = true) (hinst : (Cond.instanceMethod y).before args s = true) (hsel : (Cond.selects C y y).before args s = true)
    (hcode : (Cond.codeWith y bytes maxL ret hh).before args s = true) (hy : y.cls ≠ "java/lang/invoke/MethodHandle" ∧ y.cls ≠ "java/lang/invoke/VarHandle")
    {W9 : Nat} {Pre : Pt → Array Value → Prop} {Post : Pt → Array Value → Option Value → Pt → Prop} (hK : Back l R p e below s args y 3 W9 Pre Post)
    {b : Addr} {cellB : Cell} (hcell : T.heap[b]? = some cellB) (hobj : cellB.vm.isStatics = false) (hcls : s.vm.findClass C = some cellB.cls)
    {g : JFrame} (hg : g.method = m) (hsize : g.locals.size = c.maxLocals) {argsL rest : List Value} (hlen : ∀ sig, parseMethodDescriptor y.desc = some sig → argsL.length = sig.parameters.length)
    (hstack : g.stack = argsL.reverse ++ .ref b :: rest) (hW : 2 * g.monitorRoom + (rest.map fun v => v.category).sum ≤ W9) (hdg : decode c.code g.pc = .ok (.invokevirtual index, 3))
    (hpre : ∀ vm₁, s.WarmedH vm₁ → Pre ⟨T.setVm vm₁, locs, cells, slots⟩ (Value.ref b :: argsL).toArray) :
    ∃ (v : Option Value) (vm₁ : Vm) (B : Pt), s.WarmedH vm₁ ∧ Stand p l e R s m args below meth c B.U B.locs B.cells B.slots ∧ Post ⟨T.setVm vm₁, locs, cells, slots⟩ (Value.ref b :: argsL).toArray v B ∧
      ∀ target, Steps p.tables e below (B.U.setTop { g with pc := g.pc + 3, stack := v.toList ++ rest }) target → Steps p.tables e below (T.setTop g) target := by
  obtain ⟨mk, methM, hnamed, hmethM, hstM, habM⟩ := Cond.instanceMethod_spec hinst
  obtain ⟨m8, methM', cM, hn8, hmethM', -, -, -, -, -, -, hsigM⟩ := Cond.codeWith_spec hcode
  cases Option.some.inj (hn8.symm.trans hnamed)
  cases hmethM.symm.trans hmethM'
  obtain ⟨c2, r2, m2, q1, q2, q3, q4, kP, hkP, hkPi⟩ := Cond.selects_spec hsel
  cases hcls.symm.trans q1
  cases (State.methodFound?_of_named hnamed hy).symm.trans q2
  cases hnamed.symm.trans q3
  have hselP : selectMethod e.platform s.vm cellB.cls mk = .method mk := by rw [Launch.admits_selectMethod X.admits]; exact q4
  obtain ⟨vm₁, X₁, hstep₁⟩ := X.invokevirtual hexec hown hlink hnamed hmethM hstM hkP hkPi hy (a := b) (cell := cellB) hcell
    (fun z h => by rw [h] at hobj; cases hobj) hselP hmethM habM hkP hkPi (g := g) hg (argsL := argsL) (rest := rest) (hlen _ hsigM) hstack hdg
  obtain ⟨v, B, X', hpost, hsteps⟩ := hK m meth c ⟨T.setVm vm₁, locs, cells, slots⟩ { g with stack := rest } (.invokevirtual index) mk (Value.ref b :: argsL).toArray X₁ hg hsize hdg hW (X₁.named hnamed) (hpre vm₁ X₁.warmed)
  exact ⟨v, vm₁, B, X₁.warmed, X', hpost, fun target h => hstep₁ _ fun acts => by rw [doInvoke_state]; exact hsteps.trans h⟩
abbrev vx_CVW (R : Room) (s : State) (args : Array Value) (own C : String) (index : Nat) (y : MethodName) (bytes : ByteArray) (maxL : Nat) (ret : Option FieldType) (hh : List (Nat × Nat × Nat × Nat)) (ws : List Cond) (rm : Room) (mc ms n : Nat) : Prop :=
  (rm.cells = mc ∧ rm.slots = ms ∧ rm.frames + 1 ≤ R.frames ∧ 8 + (maxL + 11) + rm.locals ≤ R.locals ∧ (∀ w ∈ ws, ∀ (a' : Array Value) (U : State), s.WarmedH U.vm → w.before a' U = true) ∧ Cond.codeWith y bytes maxL ret hh ∈ ws) ∧
  (Cond.codeWith y bytes maxL ret hh).before args s = true ∧ (Cond.initialized y.cls).before args s = true ∧ (y.cls ≠ "java/lang/invoke/MethodHandle" ∧ y.cls ≠ "java/lang/invoke/VarHandle") ∧
  (∀ sig, parseMethodDescriptor y.desc = some sig → n = sig.parameters.length) ∧ (Cond.methodLink own index y).before args s = true ∧ (Cond.instanceMethod y).before args s = true ∧ (Cond.selects C y y).before args s = true
theorem vx_cwVW {own C : String} {index maxL mc ms : Nat} {y : MethodName} {bytes : ByteArray} {ret : Option FieldType} {hh : List (Nat × Nat × Nat × Nat)} {Ts ws ws' : List Cond} {rm : Room} (n : Nat) (ht : ∀ w ∈ Ts, w.before args s = true) (hT : GoodIn Ts (wsV own index C y ws)) (hw : ws = Cond.codeWith y bytes maxL ret hh :: ws') (hrc : rm.cells = mc) (hrs : rm.slots = ms)
    (hd : y.cls = C ∧ y.cls ≠ "java/lang/invoke/MethodHandle" ∧ y.cls ≠ "java/lang/invoke/VarHandle" ∧ (parseMethodDescriptor y.desc).map (fun d => d.parameters.length) = some n) (hR : rm.frames + 1 ≤ R.frames ∧ 8 + (maxL + 11) + rm.locals ≤ R.locals) :
    vx_CVW R s args own C index y bytes maxL ret hh ws rm mc ms n := by
  obtain ⟨hC, hd⟩ := hd
  subst hC
  have ok : ∀ w ∈ wsV own index y.cls y ws, w.before args s = true := fun w h => ht w (hT w h).1
  have hG : GoodIn Ts ws := fun w h => hT w (by unfold wsV; exact List.mem_append_right _ h)
  have hc : Cond.codeWith y bytes maxL ret hh ∈ ws := by rw [hw]; exact List.mem_cons_self
  refine ⟨⟨hrc, hrs, hR.1, hR.2, pay_in ht hG, hc⟩, ht _ (hG _ hc).1, ok _ (by simp [wsV]), ⟨hd.1, hd.2.1⟩, fun sig h => ?_, ok _ (by simp [wsV]), ok _ (by simp [wsV]), ok _ (by simp [wsV])⟩
  have h2 := hd.2.2
  rw [h] at h2
  exact (Option.some.inj h2).symm
theorem vx_runVW {y : MethodName} {bytes cc : ByteArray} {maxL nL mc ms n index : Nat} {ret : Option FieldType} {hh : List (Nat × Nat × Nat × Nat)} {ws : List Cond} {rm : Room} {Pc : Array Value → State → Prop} {Qc : Array Value → State → Outcome → State → Prop} {free : Addr → Prop} {Ts : List Cond} {own C : String} {b : Addr} {As rest : List Value} {g : JFrame}
    (S : CallFix p m c cc nL s args Ts own) (hM : Met l y ws rm Pc Qc mc ms free) (cw : vx_CVW R s args own C index y bytes maxL ret hh ws rm mc ms n) (hp : PreV s H C b Pc As)
    (hg : g.method = m) (hn : As.length = n) (hsize : g.locals.size = nL) (hstack : g.stack = As.reverse ++ .ref b :: rest) (hW : 2 * g.monitorRoom + (rest.map fun v => v.category).sum ≤ 8) (hdg : decode cc g.pc = .ok (.invokevirtual index, 3)) (hf : cells + mc ≤ R.cells ∧ slots + ms ≤ R.slots) :
    va_Run p l e R s m args below meth c H locs cells slots mc ms g rest (Qc (Value.ref b :: As).toArray) free := by
  obtain ⟨⟨hrc, hrs, hfr, hlo, hws, hcw⟩, hcode, hini, hy, hlen, hl, hin, hse⟩ := cw
  have hK : Back l R p e below s args y 3 8 (PreOf R mc ms Pc) (PostOf Qc mc ms free) := va_backW (hh := hh) (bytes := bytes) (maxL := maxL) (ret := ret) hM hp.1 hrc hrs hfr hlo hws hcw (fun a' U hW => word_at hW (Or.inl (by first | rfl | simp [Cond.onTables, Cond.keeps, Cond.steady])) hini)
  obtain ⟨hx, hb, hml, ho, -⟩ := S
  obtain ⟨-, ⟨cellB, hcB, hoB, hclB⟩, hPc⟩ := hp
  intro T hT X
  obtain ⟨v, vm₁, ⟨U', l2, c2, s2⟩, hW₁, X', ⟨g', mk, t, L, e1, e2, hq, h1, hL, h2, h3⟩, st⟩ := vx_callVW X hx (C := C) (hh := hh) (bytes := bytes) (maxL := maxL) (ret := ret) ho hl hin hse hcode hy hK (by rw [hT]; exact hcB) hoB hclB hg (hsize.trans hml.symm) (argsL := As) (rest := rest) (fun sig h => hn.trans (hlen sig h)) hstack hW (by rw [hb]; exact hdg)
    (fun vm₁ hW₁ => ⟨hf.1, hf.2, hPc (T.setVm vm₁) hT hW₁⟩)
  dsimp only [Pt.U, Pt.locs, Pt.cells, Pt.slots] at X' e1 e2 h1 h2 h3 st
  subst h1; subst h2; subst h3
  exact ⟨v, (T.setVm vm₁).calling g' mk (Value.ref b :: As).toArray, t, U', L, hT, X', hL, e1, e2, hq, st⟩
section
variable {y : MethodName} {bytes cc : ByteArray} {maxL nL mc ms n index : Nat} {ret : Option FieldType} {ws : List Cond} {rm : Room} {Pc : Array Value → State → Prop} {Qc : Array Value → State → Outcome → State → Prop} {XC : String → State → State → Prop} {free : Addr → Prop} {Ts : List Cond} {own C : String} {b : Addr} {As rest : List Value} {g : JFrame}
theorem vx_runVX {hh : List (Nat × Nat × Nat × Nat)} (S : CallFix p m c cc nL s args Ts own) (hM : vx_Met l y ws rm Pc Qc XC mc ms free) (cw : vx_CVW R s args own C index y bytes maxL ret hh ws rm mc ms n) (hp : PreV s H C b Pc As)
    (hg : g.method = m) (hn : As.length = n) (hsize : g.locals.size = nL) (hstack : g.stack = As.reverse ++ .ref b :: rest) (hW : 2 * g.monitorRoom + (rest.map fun v => v.category).sum ≤ 8) (hdg : decode cc g.pc = .ok (.invokevirtual index, 3)) (hf : cells + mc ≤ R.cells ∧ slots + ms ≤ R.slots) :
    vx_Run p l e R s m args below meth c H locs cells slots mc ms g rest (Qc (Value.ref b :: As).toArray) XC free := by
  obtain ⟨⟨hrc, hrs, hfr, hlo, hws, hcw⟩, hcode, hini, hy, hlen, hl, hin, hse⟩ := cw
  have hK : vx_Back l R p e below s args y 3 8 (PreOf R mc ms Pc) (PostOf Qc mc ms free) (vx_Post XC mc ms free) := vx_backW (hh := hh) (bytes := bytes) (maxL := maxL) (ret := ret) hM hp.1 hrc hrs hfr hlo hws hcw (fun a' U hW => word_at hW (Or.inl (by first | rfl | simp [Cond.onTables, Cond.keeps, Cond.steady])) hini)
  obtain ⟨hx, hb, hml, ho, -⟩ := S
  obtain ⟨-, ⟨cellB, hcB, hoB, hclB⟩, hPc⟩ := hp
  intro T hT X
  rcases vx_callVX X hx (C := C) (hh := hh) (bytes := bytes) (maxL := maxL) (ret := ret) ho hl hin hse hcode hy hK (by rw [hT]; exact hcB) hoB hclB hg (hsize.trans hml.symm) (argsL := As) (rest := rest) (fun sig h => hn.trans (hlen sig h)) hstack hW (by rw [hb]; exact hdg)
    (fun vm₁ hW₁ => ⟨hf.1, hf.2, hPc (T.setVm vm₁) hT hW₁⟩) with ⟨v, vm₁, ⟨U', l2, c2, s2⟩, hW₁, X', ⟨g', mk, t, L, e1, e2, hq, h1, hL, h2, h3⟩, st⟩ | ⟨q, vm₁, ⟨U', l2, c2, s2⟩, hW₁, X', ⟨g', mk, t, L, E, ce, e1, e2, hq, hce, hcv, hcl, h1, hL, h2, h3⟩, st⟩
  · dsimp only [Pt.U, Pt.locs, Pt.cells, Pt.slots] at X' e1 e2 h1 h2 h3 st
    subst h1; subst h2; subst h3
    exact Or.inl ⟨v, (T.setVm vm₁).calling g' mk (Value.ref b :: As).toArray, t, U', L, hT, X', hL, e1, e2, hq, st⟩
  · dsimp only [Pt.U, Pt.locs, Pt.cells, Pt.slots] at X' e1 e2 h1 h2 h3 st hcl
    subst h1; subst h2; subst h3
    exact Or.inr ⟨q, (T.setVm vm₁).calling g' mk (Value.ref b :: As).toArray, t, U', L, E, ce, hT, X', hL, e1, e2, hq, hce, hcv, vx_cls hW₁ hcl, st⟩
theorem vx_runSX {hh : List (Nat × Nat × Nat × Nat)} (S : CallFix p m c cc nL s args Ts own) (hM : vx_Met l y ws rm Pc Qc XC mc ms free) (cw : vx_CSW R s args own index y bytes maxL ret hh ws rm mc ms n) (hp : PreS s H Pc As)
    (hg : g.method = m) (hn : As.length = n) (hsize : g.locals.size = nL) (hstack : g.stack = As.reverse ++ rest) (hW : 2 * g.monitorRoom + (rest.map fun v => v.category).sum ≤ 8) (hdg : decode cc g.pc = .ok (.invokestatic index, 3)) (hf : cells + mc ≤ R.cells ∧ slots + ms ≤ R.slots) :
    vx_Run p l e R s m args below meth c H locs cells slots mc ms g rest (Qc As.toArray) XC free := by
  obtain ⟨⟨hrc, hrs, hfr, hlo, hws, hcw⟩, hcode, hini, hy, hlen, hl, hstt⟩ := cw
  have hK : vx_Back l R p e below s args y 3 8 (PreOf R mc ms Pc) (PostOf Qc mc ms free) (vx_Post XC mc ms free) := vx_backW (hh := hh) (bytes := bytes) (maxL := maxL) (ret := ret) hM hp.1 hrc hrs hfr hlo hws hcw (fun a' U hW => word_at hW (Or.inl (by first | rfl | simp [Cond.onTables, Cond.keeps, Cond.steady])) hini)
  obtain ⟨hx, hb, hml, ho, -⟩ := S
  intro T hT X
  rcases vx_callSX X hx (hh := hh) (bytes := bytes) (maxL := maxL) (ret := ret) ho hl hstt hini hcode hy hK hg (hsize.trans hml.symm) (argsL := As) (rest := rest) (fun sig h => hn.trans (hlen sig h)) hstack hW (by rw [hb]; exact hdg)
    (fun vm₁ hW₁ => ⟨hf.1, hf.2, hp.2 (T.setVm vm₁) hT hW₁⟩) with ⟨v, vm₁, ⟨U', l2, c2, s2⟩, hW₁, X', ⟨g', mk, t, L, e1, e2, hq, h1, hL, h2, h3⟩, st⟩ | ⟨q, vm₁, ⟨U', l2, c2, s2⟩, hW₁, X', ⟨g', mk, t, L, E, ce, e1, e2, hq, hce, hcv, hcl, h1, hL, h2, h3⟩, st⟩
  · dsimp only [Pt.U, Pt.locs, Pt.cells, Pt.slots] at X' e1 e2 h1 h2 h3 st
    subst h1; subst h2; subst h3
    exact Or.inl ⟨v, (T.setVm vm₁).calling g' mk As.toArray, t, U', L, hT, X', hL, e1, e2, hq, st⟩
  · dsimp only [Pt.U, Pt.locs, Pt.cells, Pt.slots] at X' e1 e2 h1 h2 h3 st hcl
    subst h1; subst h2; subst h3
    exact Or.inr ⟨q, (T.setVm vm₁).calling g' mk As.toArray, t, U', L, E, ce, hT, X', hL, e1, e2, hq, hce, hcv, vx_cls hW₁ hcl, st⟩
end
end VXH
theorem vx_ofWH {l : Launch} {y : MethodName} {ws ws' : List Cond} {rm : Room} {Pc : Array Value → State → Prop} {Qc : Array Value → State → Outcome → State → Prop} {XC : String → State → State → Prop} {mc ms : Nat} {free : Addr → Prop} {cc : ByteArray} {maxL : Nat} {ret : Option FieldType} {hh : List (Nat × Nat × Nat × Nat)}
    (hy : plainName y.cls = true) (hw : ws = Cond.codeWith y cc maxL ret hh :: ws')
    (body : ∀ p e s m args below meth c s₁, BodyLoose p l y (headSpec ws rm) cc maxL ret e s m args below meth c s₁ → c.maxLocals = maxL → Pc args s →
      W p l e (headSpec ws rm).room s m args below meth c s.heap [] 0 0 (vx_MQ below Qc XC args s mc ms free) (entryFrame m args maxL)) : vx_Met l y ws rm Pc Qc XC mc ms free := by
  refine MetFree.of_bodyS (code := cc) (maxLocals := maxL) (ret := ret) hy ?_ ?_
  · intro args s m h hn
    obtain ⟨m9, meth, c, hn9, h1, h2, h3, h4, -, h5, h6, -⟩ := Cond.codeWith_spec (atoms_spec (ws := ws) h _ (by rw [hw]; exact List.mem_cons_self))
    cases hn.symm.trans hn9
    exact ⟨meth, c, h1, h2, h3, h4, h5, h6⟩
  · intro p e s m args below meth c s₁ B hml hP _
    have hh0 : s₁.heap = s.heap := by rw [B.state]; rfl
    obtain ⟨t, a1, o, b1, b2, b3⟩ := body p e s m args below meth c s₁ B hml hP s₁ hh0 (Stand.of_body B)
    exact ⟨t, o, a1, b1, b2, b3⟩
/-! ===== END ===== -/

/-! ===== BEGIN what the machine throws by itself, no traces kept ===== -/
section VXM
set_option maxHeartbeats 1000000 in
/-- the machine throws cls with the message text, no traces kept: from its note over the frame g to 'throwing' over the same frame (follows the proofs of Stand.vmThrowsMessage, Shelf/KitTracedVmS.lean, and Stand.throwsMessageColdBareV, StandMessageColdV.lean, without the step out of the frame) -/
theorem vx_vmAt {p : Program} {l : Launch} {e : Env} {R : Room} {s : State} {m₀ : MethodId} {args : Array Value} {below : List Frame} {meth : Method} {c : Code} {W : State} {locs : List Loc} {cells slots : Nat}
    (X : Stand p l e R s m₀ args below meth c W locs cells slots) (hexec : p.tables.exec = Jvm.exec) (htr : e.platform.stackTraces = false) {cls : String} {names : List String} {text : String}
    (hcls : Bundle.fit cls = true) (hnames : ∀ n ∈ names, Bundle.fit n = true) (hsoe : (cls == "java/lang/StackOverflowError") = false) (hoom : (cls == "java/lang/OutOfMemoryError") = false)
    (h : ∀ a ∈ Bundle.messageArmAtoms cls names, a.before args s = true)
    (hlocs : ∀ x ∈ locs, ∀ cell, s.heap[x.base]? = some cell → cell.vm.isStatics = false)
    (htext : (text == notModelled) = false) (hlimit : ¬ (stringBytes (stringToUtf16 text)).size > e.platform.arrayLengthLimit) (hheap : ¬ (stringBytes (stringToUtf16 text)).size * componentBytes .byte > e.platform.maxHeapBytes)
    {g : JFrame} (hg : g.method = m₀) (hsize : g.locals.size = c.maxLocals)
    (hRframes : names.length + 4 < R.frames) (hRlocals : 2 * g.monitorRoom + (g.stack.map fun v => v.category).sum + 10240 ≤ R.locals) (hshort : 13 * names.length + 55 ≤ 10240)
    (hRcells : cells + 3 ≤ R.cells) (hRslots : slots + ((stringBytes (stringToUtf16 text)).size + 4 + 6) ≤ R.slots) (hlocks : meth.locks = false) :
    ∃ (S : State) (q : Addr) (ce : Cell), (∀ target, Steps p.tables e below ((S.setTop g).pushFrame (.throwing q)) target → Steps p.tables e below ((W.setTop g).pushFrame (.throwNew cls (some text) none)) target) ∧
      Stand p l e R s m₀ args below meth c S locs (cells + 3) (slots + ((stringBytes (stringToUtf16 text)).size + 4 + 6)) ∧ S.heap[q]? = some ce ∧ s.vm.findClass cls = some ce.cls ∧ ce.vm = .none := by
  have howns : e.platform.frameOwnsMonitors = true := by rw [X.admits.platform]
  have hfin : e.platform.finalization = false := by rw [X.admits.platform]
  have hpl : e.platform.magicAccessors = ({} : Platform).magicAccessors := by rw [X.admits.platform]
  have a : ∀ x, x ∈ Bundle.messageArmAtoms cls names → x.holds args s none s [] = true := fun x hx => h x hx
  obtain ⟨T, Z0, L, -, Y⟩ := ThrowableC.of_atoms (args := args) howns hfin hpl (fun x hx => h x (by simp [Bundle.messageArmAtoms, hx]))
  obtain ⟨Z, M, LZ, LM, hnZ⟩ := Init0T.ofS_atoms (args := args) hpl L Y (fun x hx => h x (by simp [Bundle.messageArmAtoms, hx]))
  obtain ⟨P1, Ps, hlen, L1, hL, hP1m, hlink1, hlink⟩ := Bundle.chainS (args := args) hpl hnZ names cls hcls hnames (fun x hx => h x (by simp [Bundle.messageArmAtoms, hx]))
  obtain ⟨Zs, LZs, hn4, hfitv, hfitc⟩ := StringT.of_atoms (args := args) (fun x hx => h x (by simp [Bundle.messageArmAtoms, hx]))
  have hfound : s.vm.findClass cls = some P1.m.cls := findClass_of_methodNamed hP1m
  obtain ⟨c1, kX, hc1, hk, hord, -, -, hn6⟩ := Cond.instantiable_spec (a (.instantiable cls 6) (by simp [Bundle.messageArmAtoms]))
  cases Option.some.inj (hc1.symm.trans hfound)
  have hinit := Cond.initialized_spec hfound hk (a (.initialized cls) (by simp [Bundle.messageArmAtoms]))
  have hctor : kX.findMethod "<init>" "(Ljava/lang/String;)V" = some P1.m.idx := findMethod_of_methodNamed hP1m hk
  have hsel0 : selectMethod e.platform s.vm P1.m.cls T.fill0 = .method T.fill0 := by
    obtain ⟨c2, r2, m2, q1, q2, q3, q4, -⟩ := Cond.selects_spec (a (.selects cls Bundle.tFill0 Bundle.tFill0) (by simp [Bundle.messageArmAtoms]))
    cases Option.some.inj (q1.symm.trans hfound)
    cases Option.some.inj (q2.symm.trans (State.methodFound?_of_named Y.fill0 (by decide)))
    cases Option.some.inj (q3.symm.trans Y.fill0)
    rw [Launch.admits_selectMethod X.admits]; exact q4
  have hselF : selectMethod e.platform s.vm P1.m.cls T.fill = .method T.fill := by
    obtain ⟨c2, r2, m2, q1, q2, q3, q4, -⟩ := Cond.selects_spec (a (.selects cls Bundle.tFill Bundle.tFill) (by simp [Bundle.messageArmAtoms]))
    cases Option.some.inj (q1.symm.trans hfound)
    cases Option.some.inj (q2.symm.trans (State.methodFound?_of_named Y.fill (by decide)))
    cases Option.some.inj (q3.symm.trans Y.fill)
    rw [Launch.admits_selectMethod X.admits]; exact q4
  obtain ⟨cellS0, hcS0, hiss⟩ := Y.statics
  obtain ⟨u0, hu0⟩ := Cond.staticRefV Y.unassigned L.unassignedStatic L.statics hcS0 hiss (a (.isRef (.static Bundle.tN "UNASSIGNED_STACK" Bundle.steD)) (by simp [Bundle.messageArmAtoms]))
  obtain ⟨sen, hsen⟩ := Cond.staticRefV Y.sentinel L.sentinelStatic L.statics hcS0 hiss (a (.isRef (.static Bundle.tN "SUPPRESSED_SENTINEL" Bundle.listD)) (by simp [Bundle.messageArmAtoms]))
  obtain ⟨ci198, i198, fB, hk198, hg198, ha198, hsB, -, hnB, htB, hffB⟩ := Cond.ownField (t := .object "java/lang/Object") Y.found L.cls (by decide +kernel) (a (.fieldLink Bundle.tN 198 Bundle.tN "backtrace" "Ljava/lang/Object;") (by simp [Bundle.messageArmAtoms])) (a (.lays Bundle.tN Bundle.tN "backtrace" "Ljava/lang/Object;") (by simp [Bundle.messageArmAtoms])) e.platform hpl
  obtain ⟨cellS, hcS', heS, -, hkeep⟩ := X.same.2.2.2.2.2 T.aS cellS0 hcS0
  have hcellS : W.heap[T.aS]? = some cellS := hcS'
  have hout' : ∀ i, (⟨T.aS, i⟩ : Loc) ∉ locs := fun i hmem => by
    have := hlocs _ hmem cellS0 hcS0
    rw [hiss] at this; cases this
  have hknownS : cellS.vm ≠ .unknown := by
    rw [heS]; intro hu
    rw [show cellS0.vm = .unknown from hu] at hiss
    cases hiss
  have hvU : cellS.slots[T.fUnassigned.slot]? = some u0.v := by rw [hkeep _ (hout' _)]; exact hu0
  have hvSen : cellS.slots[T.fSentinel.slot]? = some sen.v := by rw [hkeep _ (hout' _)]; exact hsen
  obtain ⟨iM, hffM⟩ := Y.msg
  obtain ⟨tyC, dC, hdC, hdnC⟩ := Cond.laysAt hfound hk Y.cause (a (.lays cls Bundle.tN "cause" "Ljava/lang/Throwable;") (by simp [Bundle.messageArmAtoms]))
  obtain ⟨tyS, dS, hdS, hdnS⟩ := Cond.laysAt hfound hk Y.stack (a (.lays cls Bundle.tN "stackTrace" Bundle.steD) (by simp [Bundle.messageArmAtoms]))
  obtain ⟨tyP, dP, hdP, hdnP⟩ := Cond.laysAt hfound hk Y.supp (a (.lays cls Bundle.tN "suppressedExceptions" Bundle.listD) (by simp [Bundle.messageArmAtoms]))
  obtain ⟨tyM, dM, hdM, hdnM⟩ := Cond.laysAt hfound hk hffM (a (.lays cls Bundle.tN "detailMessage" "Ljava/lang/String;") (by simp [Bundle.messageArmAtoms]))
  obtain ⟨tyB, dB, hdB, hdnB⟩ := Cond.laysAt hfound hk hffB (a (.lays cls Bundle.tN "backtrace" "Ljava/lang/Object;") (by simp [Bundle.messageArmAtoms]))
  have bC := Cond.laysApart hdB hdC hdnB hdnC (by rw [hnB, Y.causeName]; decide)
  have bS := Cond.laysApart hdB hdS hdnB hdnS (by rw [hnB, Y.stackName]; decide)
  have bP := Cond.laysApart hdB hdP hdnB hdnP (by rw [hnB, Y.suppName]; decide)
  have hbk : ((preparedCellV T.toThrowableT (freshCell P1.m.cls kX) (W.heap.size + 2) u0 sen).withEntry W.cur).slots[fB.slot]? = some .null := by
    have := fresh_default (c := P1.m.cls) tyB
    rw [htB] at this
    simpa [preparedCellV, Cell.setSlot, Cell.withEntry, Array.getElem?_setIfInBounds, bC, bS, bP, bC.symm, bS.symm, bP.symm, defaultValue] using this
  have tkC := Takes.of_laid (v := .ref (W.heap.size + 2)) hk hord tyC (by rw [Y.causeType]; rfl)
  have tkS := Takes.of_laid (v := u0.v) hk hord tyS (by rw [Y.stackType]; exact fits_refV_array _ u0)
  have tkP := Takes.of_laid (v := sen.v) hk hord tyP (by rw [Y.suppType]; exact fits_refV_object _ sen)
  have tkM := Takes.of_laid (v := .ref (W.heap.size + 1)) hk hord tyM (by rw [Y.msgType]; rfl)
  have hskip : SkipFacts T e.platform s (fun u => u) u0 ((preparedCellV T.toThrowableT (freshCell P1.m.cls kX) (W.heap.size + 2) u0 sen).withEntry W.cur) := ⟨{ ci198 := ci198, i198 := i198, fBack := fB }, ⟨hk198, hg198, ha198, hsB⟩, hbk, fun _ _ => rfl⟩
  have h0 : At W g.method c below := by rw [hg]; exact X.here
  obtain ⟨hbeyond, hfreeW⟩ := X.vmMayThrow hsize (.throwNew cls (some text) none) (fun f hf => by cases hf) rfl hRlocals
  have hfr' : W.frames.length + Ps.length + 4 < (e.platform.stackLimits W.me).1 := by have := X.framesAbove hRframes; omega
  have hwd' : (stackUse (.java g :: W.frames.tail)).2 + 13 * Ps.length + 55 ≤ (e.platform.stackLimits W.me).2 := by have := X.stackAbove hsize (K := 13 * Ps.length + 55) (by omega); omega
  have hslots : W.slotsUsed + (stringBytes (stringToUtf16 text)).size + Zs.kS.instanceTypes.size + kX.instanceTypes.size ≤ e.platform.maxSlots := by
    have := X.slotsAbove hRslots
    rw [hn4, hn6]
    omega
  obtain ⟨vm', hW', st⟩ := Steps.vmThrowsMessageColdByV p (s₀ := s) (S := W) (g := g) h0 hexec T L Z LZ M LM X.warmed (t := W.cur) rfl Zs LZs P1 L1 Ps hL hlink1 hlink hsoe hoom hfound hk hinit hord hctor
    (Launch.admits_hotImplicitExceptions X.admits) hbeyond hfreeW htext hlimit hheap (X.cellsAbove hRcells) hslots (hfitv _) (hfitc _)
    (Nn := fun u => u) heapOnly_id (fun _ _ => rfl) (fun _ => rfl) (fun u x y => setCell_twice _ _ _ _) (fun _ => Nat.le_refl _) (cN := ((preparedCellV T.toThrowableT (freshCell P1.m.cls kX) (W.heap.size + 2) u0 sen).withEntry W.cur))
    hsel0 hcellS hknownS hvU tkS (fun _ hu => hu) (fun _ hu => hu) rfl rfl rfl (by simp [preparedCellV, Cell.setSlot, Cell.withEntry]) hskip (fun _ _ hA hW _ hroom _ hrest => L.nativeOff p htr hA hW hroom hrest) hselF hvSen tkC tkP tkM Y.objLocals rfl hfr' hwd'
  rw [plainBareV_eq T.toThrowableT (W.heap.size + 2) u0 sen (.ref (W.heap.size + 1)) W.cur rfl rfl] at st
  obtain ⟨-, -, w3, w4, -, -, -⟩ := withThrown_facts e.platform W Zs text P1.m.cls kX
  have X3 := ((X.pushed (bytesOf Zs.cB (stringToUtf16 text))).pushed (stringAt Zs.cS Zs.kS Zs.fv Zs.fc (stringToUtf16 text) W.heap.size)).pushed (freshCell P1.m.cls kX)
  rw [← withString_eq] at X3
  have X4 := X3.noted hW'
  have ha : (W.heap.size + 2) < ((withThrown W Zs text P1.m.cls kX).setVm vm').heap.size := by show _ < (withThrown W Zs text P1.m.cls kX).heap.size; rw [w3]; omega
  have hcell : ((withThrown W Zs text P1.m.cls kX).setVm vm').heap[(W.heap.size + 2)]? = some (freshCell P1.m.cls kX) := w4
  have X5 := ((((X4.stored hcell T.fCause.slot (.ref (W.heap.size + 2))).storedAgain ha T.fStack.slot u0.v).storedAgain ha T.fSupp.slot sen.v).storedAgain ha T.fStack.slot u0.v).storedAgain ha T.fMsg.slot (.ref (W.heap.size + 1))
  obtain ⟨g₁, hfrM⟩ := X5.frames_eq
  have hU : ((((withThrown W Zs text P1.m.cls kX).setVm vm').setCell (W.heap.size + 2) (plainBareV T.toThrowableT (freshCell P1.m.cls kX) (W.heap.size + 2) u0 sen (.ref (W.heap.size + 1)))).setTop g).pushFrame (.throwing (W.heap.size + 2)) = (((withThrown W Zs text P1.m.cls kX).setVm vm').setCell (W.heap.size + 2) (plainBareV T.toThrowableT (freshCell P1.m.cls kX) (W.heap.size + 2) u0 sen (.ref (W.heap.size + 1)))).setFrames (.throwing (W.heap.size + 2) :: .java g :: below) := by
    rw [State.pushFrame, State.frames_setTop _ hfrM, State.setTop_of_frames _ hfrM, State.setFrames_setFrames]
  have b1 : (bytesOf Zs.cB (stringToUtf16 text)).slots.size = (stringBytes (stringToUtf16 text)).size := by
    rw [(Cell.writeAll_facts _ _).2.2]; simp [bytes0]
  have b2 : (stringAt Zs.cS Zs.kS Zs.fv Zs.fc (stringToUtf16 text) W.heap.size).slots.size = 4 := by simp [string0, Cell.setSlot, hn4]
  have b3 : (freshCell P1.m.cls kX).slots.size = 6 := by simp [hn6]
  rw [b1, b2, b3] at X5
  have e9 : slots + (stringBytes (stringToUtf16 text)).size + 4 + 6 = slots + ((stringBytes (stringToUtf16 text)).size + 4 + 6) := by omega
  rw [e9] at X5
  simp only [List.append_assoc, List.cons_append, List.nil_append] at X5
  refine ⟨((withThrown W Zs text P1.m.cls kX).setVm vm').setCell (W.heap.size + 2) (plainBareV T.toThrowableT (freshCell P1.m.cls kX) (W.heap.size + 2) u0 sen (.ref (W.heap.size + 1))), W.heap.size + 2, _, fun target ht => st _ (by rw [X.tail, ← hU]; exact ht),
    X5.forget (fun y hy => ?_), heapAt_setCell_self _ ha, hfound, rfl⟩
  simp only [List.mem_cons, List.not_mem_nil, or_false] at hy
  have hge : s.heap.size ≤ W.heap.size := X.same.2.1
  rcases hy with rfl | rfl | rfl | rfl | rfl <;> exact Nat.le_trans hge (Nat.le_add_right _ 2)
set_option maxHeartbeats 1000000 in
/-- the machine throws NullPointerException, no traces kept: from its note over the frame g to 'throwing' over the same frame (follows the proof of Stand.vmThrowsNpe, Shelf42/KT2.lean; throwsNpeColdBareVAt, Shelf42/NT91.lean, called) -/
theorem vx_npeAt {p : Program} {l : Launch} {e : Env} {R : Room} {s : State} {m₀ : MethodId} {args : Array Value} {below : List Frame} {meth : Method} {c : Code} {W : State} {locs : List Loc} {cells slots : Nat}
    (X : Stand p l e R s m₀ args below meth c W locs cells slots) (hexec : p.tables.exec = Jvm.exec) (htr : e.platform.stackTraces = false) {n : Nat}
    (h : ∀ a ∈ Bundle.npeArmAtoms n, a.before args s = true)
    (hlocs : ∀ x ∈ locs, ∀ cell, s.heap[x.base]? = some cell → cell.vm.isStatics = false)
    {g : JFrame} (hg : g.method = m₀) (hsize : g.locals.size = c.maxLocals)
    (hRframes : 7 < R.frames) (hRlocals : 2 * g.monitorRoom + (g.stack.map fun v => v.category).sum + 10240 ≤ R.locals)
    (hRcells : cells + 1 ≤ R.cells) (hRslots : slots + n ≤ R.slots) (hlocks : meth.locks = false) :
    ∃ (S : State) (q : Addr) (ce : Cell), (∀ target, Steps p.tables e below ((S.setTop g).pushFrame (.throwing q)) target → Steps p.tables e below ((W.setTop g).pushFrame (.throwNew "java/lang/NullPointerException" none none)) target) ∧
      Stand p l e R s m₀ args below meth c S locs (cells + 1) (slots + n) ∧ S.heap[q]? = some ce ∧ s.vm.findClass "java/lang/NullPointerException" = some ce.cls ∧ ce.vm = .none := by
  have howns : e.platform.frameOwnsMonitors = true := by rw [X.admits.platform]
  have hfin : e.platform.finalization = false := by rw [X.admits.platform]
  have hpl : e.platform.magicAccessors = ({} : Platform).magicAccessors := by rw [X.admits.platform]
  have hpl2 : e.platform.arrayCloneIsPublic = true := by rw [X.admits.platform]
  have a' : ∀ x, x ∈ Bundle.npeArmAtoms n → x.holds args s none s [] = true := fun x hx => h x hx
  obtain ⟨T, Z, L, LZ, Y⟩ := ThrowableC.of_atoms (args := args) howns hfin hpl (fun x hx => h x (by simp [Bundle.npeArmAtoms, hx]))
  obtain ⟨N, LN, hcN, hnNF, hordN, hffS⟩ := NpeC.of_atoms (args := args) hpl hpl2 L Y (fun x hx => h x (by simp [Bundle.npeArmAtoms, hx]))
  obtain ⟨P1, L1, hP1m, hP1s⟩ := PassC.of_atoms (args := args) (s := s) hpl (X := Bundle.nN) (Y := Bundle.rN) (by decide) (by decide) LibCode.NullPointerException.Init0.at_0 LibCode.NullPointerException.Init0.at_1 LibCode.NullPointerException.Init0.at_4 (fun x hx => h x (by simp [Bundle.npeArmAtoms, hx]))
  obtain ⟨PR, LR, hPRm, hPRs⟩ := PassC.of_atoms (args := args) (s := s) hpl (X := Bundle.rN) (Y := Bundle.eN) (by decide) (by decide) LibCode.RuntimeException.Init0.at_0 LibCode.RuntimeException.Init0.at_1 LibCode.RuntimeException.Init0.at_4 (fun x hx => h x (by simp [Bundle.npeArmAtoms, hx]))
  obtain ⟨PE, LEx, hPEm, hPEs⟩ := PassC.of_atoms (args := args) (s := s) hpl (X := Bundle.eN) (Y := Bundle.tN) (by decide) (by decide) LibCode.Exception.Init0.at_0 LibCode.Exception.Init0.at_1 LibCode.Exception.Init0.at_4 (fun x hx => h x (by simp [Bundle.npeArmAtoms, hx]))
  have hfound : s.vm.findClass Bundle.nN = some P1.m.cls := findClass_of_methodNamed hP1m
  have ecls : N.cN = P1.m.cls := Option.some.inj (hcN.symm.trans hfound)
  have hk : s.vm.classes[P1.m.cls]? = some N.kN := by rw [← ecls]; exact LN.cls
  have hinit := Cond.initialized_spec hfound hk (a' (.initialized Bundle.nN) (by simp [Bundle.npeArmAtoms]))
  have hctor : N.kN.findMethod "<init>" "()V" = some P1.m.idx := findMethod_of_methodNamed hP1m hk
  obtain ⟨c1, k1, hc1, hk1, -, -, -, hn⟩ := Cond.instantiable_spec (a' (.instantiable Bundle.nN n) (by simp [Bundle.npeArmAtoms]))
  cases Option.some.inj (hc1.symm.trans hfound)
  cases Option.some.inj (hk1.symm.trans hk)
  have hfsz : (freshCell P1.m.cls N.kN).slots.size = n := by simp [hn]
  have hlink1 : P1.sup = PR.m := Option.some.inj (hP1s.symm.trans hPRm)
  have hlinkR : PR.sup = PE.m := Option.some.inj (hPRs.symm.trans hPEm)
  have hlinkE : PE.sup = Z.m T.toThrowableT := Option.some.inj (hPEs.symm.trans Y.init0)
  have hLs : ∀ P, P ∈ [PR, PE] → P.Links0 e.platform s := fun P hP => by
    simp only [List.mem_cons, List.not_mem_nil, or_false] at hP
    rcases hP with rfl | rfl
    · exact LR
    · exact LEx
  have hsel0 : selectMethod e.platform s.vm P1.m.cls T.fill0 = .method T.fill0 := by
    obtain ⟨c2, r2, m2, q1, q2, q3, q4, -⟩ := Cond.selects_spec (a' (.selects Bundle.nN Bundle.tFill0 Bundle.tFill0) (by simp [Bundle.npeArmAtoms]))
    cases Option.some.inj (q1.symm.trans hfound)
    cases Option.some.inj (q2.symm.trans (State.methodFound?_of_named Y.fill0 (by decide)))
    cases Option.some.inj (q3.symm.trans Y.fill0)
    rw [Launch.admits_selectMethod X.admits]; exact q4
  have hselF : selectMethod e.platform s.vm P1.m.cls T.fill = .method N.fill := by
    obtain ⟨c2, r2, m2, q1, q2, q3, q4, -⟩ := Cond.selects_spec (a' (.selects Bundle.nN Bundle.tFill Bundle.nFill) (by simp [Bundle.npeArmAtoms]))
    cases Option.some.inj (q1.symm.trans hfound)
    cases Option.some.inj (q2.symm.trans (State.methodFound?_of_named Y.fill (by decide)))
    cases Option.some.inj (q3.symm.trans hnNF)
    rw [Launch.admits_selectMethod X.admits]; exact q4
  obtain ⟨cellS0, hcS0, hiss⟩ := Y.statics
  obtain ⟨u0, hu0⟩ := Cond.staticRefV Y.unassigned L.unassignedStatic L.statics hcS0 hiss (a' (.isRef (.static Bundle.tN "UNASSIGNED_STACK" Bundle.steD)) (by simp [Bundle.npeArmAtoms]))
  obtain ⟨sen, hsen⟩ := Cond.staticRefV Y.sentinel L.sentinelStatic L.statics hcS0 hiss (a' (.isRef (.static Bundle.tN "SUPPRESSED_SENTINEL" Bundle.listD)) (by simp [Bundle.npeArmAtoms]))
  obtain ⟨ci198, i198, fB, hk198, hg198, ha198, hsB, -, hnB, htB, hffB⟩ := Cond.ownField (t := .object "java/lang/Object") Y.found L.cls (by decide +kernel) (a' (.fieldLink Bundle.tN 198 Bundle.tN "backtrace" Bundle.objD) (by simp [Bundle.npeArmAtoms])) (a' (.lays Bundle.tN Bundle.tN "backtrace" Bundle.objD) (by simp [Bundle.npeArmAtoms])) e.platform hpl
  obtain ⟨cellS, hcS', heS, -, hkeep⟩ := X.same.2.2.2.2.2 T.aS cellS0 hcS0
  have hcellS : W.heap[T.aS]? = some cellS := hcS'
  have hout' : ∀ i, (⟨T.aS, i⟩ : Loc) ∉ locs := fun i hmem => by
    have := hlocs _ hmem cellS0 hcS0
    rw [hiss] at this; cases this
  have hknownS : cellS.vm ≠ .unknown := by
    rw [heS]; intro hu
    rw [show cellS0.vm = .unknown from hu] at hiss
    cases hiss
  have hvU : cellS.slots[T.fUnassigned.slot]? = some u0.v := by rw [hkeep _ (hout' _)]; exact hu0
  have hvSen : cellS.slots[T.fSentinel.slot]? = some sen.v := by rw [hkeep _ (hout' _)]; exact hsen
  obtain ⟨tyC, dC, hdC, hdnC⟩ := Cond.laysAt hfound hk Y.cause (a' (.lays Bundle.nN Bundle.tN "cause" "Ljava/lang/Throwable;") (by simp [Bundle.npeArmAtoms]))
  obtain ⟨tyS, dS, hdS, hdnS⟩ := Cond.laysAt hfound hk Y.stack (a' (.lays Bundle.nN Bundle.tN "stackTrace" Bundle.steD) (by simp [Bundle.npeArmAtoms]))
  obtain ⟨tyP, dP, hdP, hdnP⟩ := Cond.laysAt hfound hk Y.supp (a' (.lays Bundle.nN Bundle.tN "suppressedExceptions" Bundle.listD) (by simp [Bundle.npeArmAtoms]))
  obtain ⟨tyX, dX, hdX, hdnX⟩ := Cond.laysAt hfound hk hffS (a' (.lays Bundle.nN Bundle.nN "extendedMessageState" "I") (by simp [Bundle.npeArmAtoms, Bundle.npeAtoms]))
  obtain ⟨hnX, htX⟩ := State.fieldFound?_type hffS (t := .int) (by decide +kernel)
  have xC := Cond.laysApart hdC hdX hdnC hdnX (by rw [hnX, Y.causeName]; decide)
  have xS := Cond.laysApart hdS hdX hdnS hdnX (by rw [hnX, Y.stackName]; decide)
  have xP := Cond.laysApart hdP hdX hdnP hdnX (by rw [hnX, Y.suppName]; decide)
  have hv0 : (freshCell P1.m.cls N.kN).slots[N.fState.slot]? = some (.int 0) := by
    have := fresh_default (c := P1.m.cls) tyX
    rw [htX] at this; exact this
  obtain ⟨tyB, dB, hdB, hdnB⟩ := Cond.laysAt hfound hk hffB (a' (.lays Bundle.nN Bundle.tN "backtrace" Bundle.objD) (by simp [Bundle.npeArmAtoms]))
  have bC := Cond.laysApart hdB hdC hdnB hdnC (by rw [hnB, Y.causeName]; decide)
  have bS := Cond.laysApart hdB hdS hdnB hdnS (by rw [hnB, Y.stackName]; decide)
  have bP := Cond.laysApart hdB hdP hdnB hdnP (by rw [hnB, Y.suppName]; decide)
  have bX := Cond.laysApart hdB hdX hdnB hdnX (by rw [hnB, hnX]; decide)
  have hbk : ((npeCell N.toNpeT (preparedCellV T.toThrowableT (freshCell P1.m.cls N.kN) W.heap.size u0 sen) W.cur).withEntry W.cur).slots[fB.slot]? = some .null := by
    have := fresh_default (c := P1.m.cls) tyB
    rw [htB] at this
    simpa [npeCell, preparedCellV, Cell.setSlot, Cell.withEntry, Array.getElem?_setIfInBounds, bC, bS, bP, bX, bC.symm, bS.symm, bP.symm, bX.symm, defaultValue] using this
  have tkC := Takes.of_laid (v := .ref W.heap.size) hk hordN tyC (by rw [Y.causeType]; rfl)
  have tkS := Takes.of_laid (v := u0.v) hk hordN tyS (by rw [Y.stackType]; exact fits_refV_array _ u0)
  have tkP := Takes.of_laid (v := sen.v) hk hordN tyP (by rw [Y.suppType]; exact fits_refV_object _ sen)
  have tkX := Takes.of_laid (v := .int 1) hk hordN tyX (by rw [htX]; rfl)
  have hskip : SkipFacts T e.platform s (fun u => u) u0 ((npeCell N.toNpeT (preparedCellV T.toThrowableT (freshCell P1.m.cls N.kN) W.heap.size u0 sen) W.cur).withEntry W.cur) := ⟨{ ci198 := ci198, i198 := i198, fBack := fB }, ⟨hk198, hg198, ha198, hsB⟩, hbk, fun _ _ => rfl⟩
  obtain ⟨vm', X3, st, -⟩ := X.throwsNpeColdBareVAt hexec hg hsize T L Z LZ N LN P1 L1 [PR, PE] hLs hlink1 ⟨hlinkR, hlinkE, trivial⟩ hfound hk hinit hordN hctor hsel0 hselF hcellS hknownS hvU hvSen
    hv0 xC xS xP tkC tkS tkP tkX Y.objLocals hskip (fun _ _ hA hW _ hroom _ hrest => L.nativeOff p htr hA hW hroom hrest) (by simpa using hRframes) hRlocals (by simp) hRcells (by rw [hn]; exact hRslots)
  have hlt : W.heap.size < ((W.pushCell (freshCell P1.m.cls N.kN)).setVm vm').heap.size := by
    show W.heap.size < (W.pushCell (freshCell P1.m.cls N.kN)).heap.size
    rw [State.heap_size_pushCell]; omega
  rw [hfsz] at X3
  obtain ⟨g₁, hfrM⟩ := X3.frames_eq
  have hU : ((((W.pushCell (freshCell P1.m.cls N.kN)).setVm vm').setCell W.heap.size (npeBareV T.toThrowableT N.toNpeT (freshCell P1.m.cls N.kN) W.heap.size u0 sen)).setTop g).pushFrame (.throwing W.heap.size) = (((W.pushCell (freshCell P1.m.cls N.kN)).setVm vm').setCell W.heap.size (npeBareV T.toThrowableT N.toNpeT (freshCell P1.m.cls N.kN) W.heap.size u0 sen)).setFrames (.throwing W.heap.size :: .java g :: below) := by
    rw [State.pushFrame, State.frames_setTop _ hfrM, State.setTop_of_frames _ hfrM, State.setFrames_setFrames]
  refine ⟨_, W.heap.size, _, fun target ht => st.trans (by rw [← hU]; exact ht), X3.forget (fun y hy => ?_), heapAt_setCell_self _ hlt, hfound, rfl⟩
  simp only [List.mem_cons, List.not_mem_nil, or_false] at hy
  have hge : s.heap.size ≤ W.heap.size := X.same.2.1
  rcases hy with rfl | rfl | rfl | rfl | rfl <;> exact hge
/-- the words of a machine's NullPointerException, but the four that speak of the heap -/
def vx_atN (n : Nat) : List Cond := (Bundle.npeArmAtoms n).filter vx_no
/-- the words of a machine's throw with a message, but the four that speak of the heap -/
def vx_atM (X : String) (names : List String) : List Cond := (Bundle.messageArmAtoms X names).filter vx_no
section
variable {p : Program} {l : Launch} {e : Env} {R : Room} {s : State} {m : MethodId} {args : Array Value} {below : List Frame} {meth : Method} {c : Code} {H : Heap} {locs : List Loc} {cells slots : Nat}
/-- a frame seen from a rebased start, seen from the first start again -/
theorem vx_back9 {T S : State} {R' : Room} {k n : Nat} (X : Stand p l e R s m args below meth c T locs cells slots) (Y : Stand p l e R' ((T.setVm s.vm).setFrames (.invoking m args :: below)) m args below meth c T [] 0 0) (Z : Stand p l e R' ((T.setVm s.vm).setFrames (.invoking m args :: below)) m args below meth c S [] k n) :
    Stand p l e R s m args below meth c S locs (cells + k) (slots + n) := by
  have hW0 : s.WarmedH ((T.setVm s.vm).setFrames (.invoking m args :: below)).vm := State.WarmedH.refl s
  refine { admits := X.admits, cas := X.cas, clock := X.clock, frames := X.frames, room := X.room, hears := X.hears, method := X.method, code := X.code, here := Z.here, tail := Z.tail, warmed := State.WarmedH.trans hW0 Z.warmed, limits := Z.limits.trans (Y.limits.symm.trans X.limits), bytes := Z.bytes.trans (Y.bytes.symm.trans X.bytes), same := ?_ }
  obtain ⟨e1, e2⟩ := Z.same
  rw [State.setFrames_setFrames] at e1
  have h2 : (T.setVm s.vm).sameButNew (S.setVm s.vm) [] k n := ⟨e1, e2⟩
  have h3 := X.same.trans h2
  rw [List.append_nil] at h3
  exact h3
/-- from the machine's note that E is thrown here with this text -/
def vx_Note (p : Program) (l : Launch) (e : Env) (R : Room) (s : State) (m : MethodId) (args : Array Value) (below : List Frame) (meth : Method) (c : Code) (H : Heap) (locs : List Loc) (cells slots : Nat) (Q : State → Prop) (g : JFrame) (E text : String) : Prop :=
  ∀ T : State, T.heap = H → Stand p l e R s m args below meth c T locs cells slots → ∃ t, Steps p.tables e below ((T.setTop g).pushFrame (.throwNew E (some text) none)) t ∧ Q t
theorem vx_vm {pc : Nat} {ls : Array Slot} {rest : List Value} {Q : State → Prop} (hexec : p.tables.exec = Jvm.exec) (hl : l.stackTraces = false) {cls text : String} {names : List String} {nb : Nat} {A : Nat → Prop}
    (hcls : Bundle.fit cls = true) (hnames : ∀ n ∈ names, Bundle.fit n = true) (hsoe : (cls == "java/lang/StackOverflowError") = false) (hoom : (cls == "java/lang/OutOfMemoryError") = false)
    (hat : ∀ w ∈ vx_atM cls names, w.before args s = true) (hgood : ∀ w ∈ vx_atM cls names, vx_ot w = true)
    (hU : vx_Zq Bundle.tN "UNASSIGNED_STACK" Bundle.steD A s s.heap) (hN : vx_Zq Bundle.tN "SUPPRESSED_SENTINEL" Bundle.listD A s s.heap) (hS : va_S A s.heap H locs) (hsize : ls.size = c.maxLocals)
    (htext : (text == notModelled) = false) (hnb : (stringBytes (stringToUtf16 text)).size ≤ nb) (hnb1 : nb ≤ 1000)
    (hRframes : names.length + 4 < R.frames) (hRlocals : (rest.map fun v => v.category).sum + 10240 ≤ R.locals) (hshort : 13 * names.length + 55 ≤ 10240) (hRcells : cells + 3 ≤ R.cells) (hRslots : slots + (nb + 10) ≤ R.slots) (hlocks : meth.locks = false)
    (k : ∀ (H1 : Heap) (q9 : Addr) (ce : Cell), H.size ≤ H1.size → (∀ q : Nat, q < H.size → H1[q]? = H[q]?) → va_S A s.heap H1 locs → H1[q9]? = some ce → ce.vm = .none → s.vm.findClass cls = some ce.cls → vx_W p l e R s m args below meth c H1 locs (cells + 3) (slots + (nb + 10)) Q (F0 m pc ls rest) q9) :
    vx_Note p l e R s m args below meth c H locs cells slots Q (F0 m pc ls rest) cls text := by
  intro T hT X
  have htr : e.platform.stackTraces = false := (show e.platform.stackTraces = l.stackTraces by rw [X.admits.platform]).trans hl
  have Y := vx_rebase X (R' := { frames := R.frames, locals := R.locals, cells := 3, slots := nb + 10 }) (Nat.le_refl _) (Nat.le_refl _) hRcells hRslots
  have hhp : ((T.setVm s.vm).setFrames (.invoking m args :: below)).heap = H := hT
  have hW0 : s.WarmedH ((T.setVm s.vm).setFrames (.invoking m args :: below)).vm := State.WarmedH.refl s
  have hat' : ∀ w ∈ vx_atM cls names, w.before args ((T.setVm s.vm).setFrames (.invoking m args :: below)) = true := fun w hw => vx_ot_at hW0 rfl (hgood w hw) (hat w hw)
  have hU' : vx_Zq Bundle.tN "UNASSIGNED_STACK" Bundle.steD A ((T.setVm s.vm).setFrames (.invoking m args :: below)) ((T.setVm s.vm).setFrames (.invoking m args :: below)).heap := by rw [hhp]; exact vx_Zq.moved hW0.alike (hU.kept hS.2.1)
  have hN' : vx_Zq Bundle.tN "SUPPRESSED_SENTINEL" Bundle.listD A ((T.setVm s.vm).setFrames (.invoking m args :: below)) ((T.setVm s.vm).setFrames (.invoking m args :: below)).heap := by rw [hhp]; exact vx_Zq.moved hW0.alike (hN.kept hS.2.1)
  obtain ⟨S, q, ce, st, Z, hce, hcl', hv⟩ := vx_vmAt Y hexec htr (cls := cls) (names := names) (text := text) hcls hnames hsoe hoom (vx_own hat' (vx_isRefq hU'.1) (vx_isRefq hN'.1) hU'.2.word hN'.2.word) (fun x hx => nomatch hx) htext
    (by rw [Launch.admits_arrayLengthLimit X.admits]; omega) (by rw [Launch.admits_maxHeapBytes X.admits]; simp only [componentBytes]; omega)
    (g := F0 m pc ls rest) rfl hsize hRframes (by show 2 * 0 + (rest.map fun v => v.category).sum + 10240 ≤ R.locals; omega) hshort (by show 0 + 3 ≤ 3; omega) (by show 0 + (_ + 4 + 6) ≤ nb + 10; omega) hlocks
  obtain ⟨f1, f2⟩ := vx_frame Z.same
  have f1' : H.size ≤ S.heap.size := by rw [← hT]; exact f1
  have f2' : ∀ q : Nat, q < H.size → S.heap[q]? = H[q]? := fun q hq => by
    rw [← hT]
    exact f2 q (by rw [← hT] at hq; exact hq) (fun z hz => nomatch hz)
  have X5 := vx_back9 X Y Z
  have X6 : Stand p l e R s m args below meth c S locs (cells + 3) (slots + (nb + 10)) := { X5 with same := X5.same.mono (by omega) (by omega) }
  obtain ⟨t, a1, b1⟩ := k S.heap q ce f1' f2' ⟨Nat.le_trans hS.1 f1', fun q h1 h2 => (f2' q (Nat.lt_of_lt_of_le h1 hS.1)).trans (hS.2.1 q h1 h2), hS.2.2⟩ hce hv hcl' S rfl X6
  exact ⟨t, st t a1, b1⟩
/-- from the machine's note that NullPointerException is thrown here -/
def vx_NoteN (p : Program) (l : Launch) (e : Env) (R : Room) (s : State) (m : MethodId) (args : Array Value) (below : List Frame) (meth : Method) (c : Code) (H : Heap) (locs : List Loc) (cells slots : Nat) (Q : State → Prop) (g : JFrame) : Prop :=
  ∀ T : State, T.heap = H → Stand p l e R s m args below meth c T locs cells slots → ∃ t, Steps p.tables e below ((T.setTop g).pushFrame (.throwNew "java/lang/NullPointerException" none none)) t ∧ Q t
theorem vx_npe {pc : Nat} {ls : Array Slot} {rest : List Value} {Q : State → Prop} (hexec : p.tables.exec = Jvm.exec) (hl : l.stackTraces = false) {nb : Nat} {A : Nat → Prop}
    (hat : ∀ w ∈ vx_atN nb, w.before args s = true) (hgood : ∀ w ∈ vx_atN nb, vx_ot w = true)
    (hU : vx_Zq Bundle.tN "UNASSIGNED_STACK" Bundle.steD A s s.heap) (hN : vx_Zq Bundle.tN "SUPPRESSED_SENTINEL" Bundle.listD A s s.heap) (hS : va_S A s.heap H locs) (hsize : ls.size = c.maxLocals)
    (hRframes : 7 < R.frames) (hRlocals : (rest.map fun v => v.category).sum + 10240 ≤ R.locals) (hRcells : cells + 1 ≤ R.cells) (hRslots : slots + nb ≤ R.slots) (hlocks : meth.locks = false)
    (k : ∀ (H1 : Heap) (q9 : Addr) (ce : Cell), H.size ≤ H1.size → (∀ q : Nat, q < H.size → H1[q]? = H[q]?) → va_S A s.heap H1 locs → H1[q9]? = some ce → ce.vm = .none → s.vm.findClass "java/lang/NullPointerException" = some ce.cls → vx_W p l e R s m args below meth c H1 locs (cells + 1) (slots + nb) Q (F0 m pc ls rest) q9) :
    vx_NoteN p l e R s m args below meth c H locs cells slots Q (F0 m pc ls rest) := by
  intro T hT X
  have htr : e.platform.stackTraces = false := (show e.platform.stackTraces = l.stackTraces by rw [X.admits.platform]).trans hl
  have Y := vx_rebase X (R' := { frames := R.frames, locals := R.locals, cells := 1, slots := nb }) (Nat.le_refl _) (Nat.le_refl _) hRcells hRslots
  have hhp : ((T.setVm s.vm).setFrames (.invoking m args :: below)).heap = H := hT
  have hW0 : s.WarmedH ((T.setVm s.vm).setFrames (.invoking m args :: below)).vm := State.WarmedH.refl s
  have hat' : ∀ w ∈ vx_atN nb, w.before args ((T.setVm s.vm).setFrames (.invoking m args :: below)) = true := fun w hw => vx_ot_at hW0 rfl (hgood w hw) (hat w hw)
  have hU' : vx_Zq Bundle.tN "UNASSIGNED_STACK" Bundle.steD A ((T.setVm s.vm).setFrames (.invoking m args :: below)) ((T.setVm s.vm).setFrames (.invoking m args :: below)).heap := by rw [hhp]; exact vx_Zq.moved hW0.alike (hU.kept hS.2.1)
  have hN' : vx_Zq Bundle.tN "SUPPRESSED_SENTINEL" Bundle.listD A ((T.setVm s.vm).setFrames (.invoking m args :: below)) ((T.setVm s.vm).setFrames (.invoking m args :: below)).heap := by rw [hhp]; exact vx_Zq.moved hW0.alike (hN.kept hS.2.1)
  obtain ⟨S, q, ce, st, Z, hce, hcl', hv⟩ := vx_npeAt Y hexec htr (n := nb) (vx_own hat' (vx_isRefq hU'.1) (vx_isRefq hN'.1) hU'.2.word hN'.2.word) (fun x hx => nomatch hx)
    (g := F0 m pc ls rest) rfl hsize hRframes (by show 2 * 0 + (rest.map fun v => v.category).sum + 10240 ≤ R.locals; omega) (by show 0 + 1 ≤ 1; omega) (by show 0 + nb ≤ nb; omega) hlocks
  obtain ⟨f1, f2⟩ := vx_frame Z.same
  have f1' : H.size ≤ S.heap.size := by rw [← hT]; exact f1
  have f2' : ∀ q : Nat, q < H.size → S.heap[q]? = H[q]? := fun q hq => by
    rw [← hT]
    exact f2 q (by rw [← hT] at hq; exact hq) (fun z hz => nomatch hz)
  have X5 := vx_back9 X Y Z
  have X6 : Stand p l e R s m args below meth c S locs (cells + 1) (slots + nb) := { X5 with same := X5.same.mono (by omega) (by omega) }
  obtain ⟨t, a1, b1⟩ := k S.heap q ce f1' f2' ⟨Nat.le_trans hS.1 f1', fun q h1 h2 => (f2' q (Nat.lt_of_lt_of_le h1 hS.1)).trans (hS.2.1 q h1 h2), hS.2.2⟩ hce hv hcl' S rfl X6
  exact ⟨t, st t a1, b1⟩
variable {Q : State → Prop} {cc : ByteArray} {pc : Nat} {ls : Array Slot} {rest : List Value}
theorem vx_idivZ (hexec : p.tables.exec = Jvm.exec) (hb : c.code = cc) {a b : Int32} (h0 : b = 0) (d : decode cc pc = .ok (.idiv, 1)) (k : vx_Note p l e R s m args below meth c H locs cells slots Q (F0 m pc ls rest) "java/lang/ArithmeticException" "/ by zero") :
    W p l e R s m args below meth c H locs cells slots Q (F0 m pc ls (.int b :: .int a :: rest)) := by
  intro T hT X
  obtain ⟨t, st, q⟩ := k T hT X
  exact ⟨t, X.idivZero hexec (g := F0 m pc ls (.int b :: .int a :: rest)) rfl (a := a) (rest := rest) (by rw [h0]) (by rw [hb]; exact d) t st, q⟩
theorem vx_iremZ (hexec : p.tables.exec = Jvm.exec) (hb : c.code = cc) {a b : Int32} (h0 : b = 0) (d : decode cc pc = .ok (.irem, 1)) (k : vx_Note p l e R s m args below meth c H locs cells slots Q (F0 m pc ls rest) "java/lang/ArithmeticException" "/ by zero") :
    W p l e R s m args below meth c H locs cells slots Q (F0 m pc ls (.int b :: .int a :: rest)) := by
  intro T hT X
  obtain ⟨t, st, q⟩ := k T hT X
  exact ⟨t, X.iremZero hexec (g := F0 m pc ls (.int b :: .int a :: rest)) rfl (a := a) (rest := rest) (by rw [h0]) (by rw [hb]; exact d) t st, q⟩
theorem vx_ldivZ (hexec : p.tables.exec = Jvm.exec) (hb : c.code = cc) {a b : Int64} (h0 : b = 0) (d : decode cc pc = .ok (.ldiv, 1)) (k : vx_Note p l e R s m args below meth c H locs cells slots Q (F0 m pc ls rest) "java/lang/ArithmeticException" "/ by zero") :
    W p l e R s m args below meth c H locs cells slots Q (F0 m pc ls (.long b :: .long a :: rest)) := by
  intro T hT X
  obtain ⟨t, st, q⟩ := k T hT X
  exact ⟨t, X.ldivZero hexec (g := F0 m pc ls (.long b :: .long a :: rest)) rfl (a := a) (rest := rest) (by rw [h0]) (by rw [hb]; exact d) t st, q⟩
theorem vx_lremZ (hexec : p.tables.exec = Jvm.exec) (hb : c.code = cc) {a b : Int64} (h0 : b = 0) (d : decode cc pc = .ok (.lrem, 1)) (k : vx_Note p l e R s m args below meth c H locs cells slots Q (F0 m pc ls rest) "java/lang/ArithmeticException" "/ by zero") :
    W p l e R s m args below meth c H locs cells slots Q (F0 m pc ls (.long b :: .long a :: rest)) := by
  intro T hT X
  obtain ⟨t, st, q⟩ := k T hT X
  exact ⟨t, X.lremZero hexec (g := F0 m pc ls (.long b :: .long a :: rest)) rfl (a := a) (rest := rest) (by rw [h0]) (by rw [hb]; exact d) t st, q⟩
theorem vx_ialdZ {D : va_G} {cl : List vw_C} {ws : va_W} {tys : List (ClassId × FieldType)} {a : Nat} (hexec : p.tables.exec = Jvm.exec) (hb : c.code = cc) (hK : va_K D cl tys s) (hP : va_P D cl ws H) (q0 t0 : Nat) {cA : ClassId} {n : Nat} {f : Nat → Int32} (ha : ws[q0]? = some (a, .inl (cA, n, .inl f))) (ht : tys[t0]? = some (cA, .int)) {i : Int32} (hout : ¬ vp_in i n) (hdg : decode cc pc = .ok (.iaload, 1))
    (k : ∀ tx : String, tx = (toString "Index " ++ toString i ++ toString " out of bounds for length " ++ toString n : String) → vx_Note p l e R s m args below meth c H locs cells slots Q (F0 m pc ls rest) "java/lang/ArrayIndexOutOfBoundsException" tx) : W p l e R s m args below meth c H locs cells slots Q (F0 m pc ls (.int i :: .ref a :: rest)) := by
  intro T hT X
  obtain ⟨t, st, q⟩ := k _ rfl T hT X
  refine ⟨t, ?_, q⟩
  have h1 := X.ialoadOut hexec (by rw [hT]; exact hP q0 _ ha) ((hK.2 t0 _ ht).1 n (fun j => .int (f j))) (j := i) (by show (i < 0 ∨ (arrV _ _ _).slots.size ≤ _); rw [arrV_size]; exact Classical.byContradiction hout) (g := F0 m pc ls (.int i :: .ref a :: rest)) rfl (rest := rest) rfl (by rw [hb]; exact hdg) t
  simp only [arrV_size] at h1
  exact h1 st
theorem vx_iastZ {D : va_G} {cl : List vw_C} {ws : va_W} {tys : List (ClassId × FieldType)} {a : Nat} (hexec : p.tables.exec = Jvm.exec) (hb : c.code = cc) (hK : va_K D cl tys s) (hP : va_P D cl ws H) (q0 t0 : Nat) {cA : ClassId} {n : Nat} {f : Nat → Int32} (ha : ws[q0]? = some (a, .inl (cA, n, .inl f))) (ht : tys[t0]? = some (cA, .int)) {i : Int32} {x : Int32} (hout : ¬ vp_in i n) (hdg : decode cc pc = .ok (.iastore, 1))
    (k : ∀ tx : String, tx = (toString "Index " ++ toString i ++ toString " out of bounds for length " ++ toString n : String) → vx_Note p l e R s m args below meth c H locs cells slots Q (F0 m pc ls rest) "java/lang/ArrayIndexOutOfBoundsException" tx) : W p l e R s m args below meth c H locs cells slots Q (F0 m pc ls (.int x :: .int i :: .ref a :: rest)) := by
  intro T hT X
  obtain ⟨t, st, q⟩ := k _ rfl T hT X
  refine ⟨t, ?_, q⟩
  have h1 := X.iastoreOut hexec (by rw [hT]; exact hP q0 _ ha) ((hK.2 t0 _ ht).1 n (fun j => .int (f j))) (j := i) (by show (i < 0 ∨ (arrV _ _ _).slots.size ≤ _); rw [arrV_size]; exact Classical.byContradiction hout) (g := F0 m pc ls (.int x :: .int i :: .ref a :: rest)) rfl (rest := rest) rfl (by rw [hb]; exact hdg) t
  simp only [arrV_size] at h1
  exact h1 st
theorem vx_baldZ {D : va_G} {cl : List vw_C} {ws : va_W} {tys : List (ClassId × FieldType)} {a : Nat} (hexec : p.tables.exec = Jvm.exec) (hb : c.code = cc) (hK : va_K D cl tys s) (hP : va_P D cl ws H) (q0 t0 : Nat) {cA : ClassId} {n : Nat} {f : Nat → Int32} (ha : ws[q0]? = some (a, .inl (cA, n, .inl f))) (ht : tys[t0]? = some (cA, .byte)) {i : Int32} (hout : ¬ vp_in i n) (hdg : decode cc pc = .ok (.baload, 1))
    (k : ∀ tx : String, tx = (toString "Index " ++ toString i ++ toString " out of bounds for length " ++ toString n : String) → vx_Note p l e R s m args below meth c H locs cells slots Q (F0 m pc ls rest) "java/lang/ArrayIndexOutOfBoundsException" tx) : W p l e R s m args below meth c H locs cells slots Q (F0 m pc ls (.int i :: .ref a :: rest)) := by
  intro T hT X
  obtain ⟨t, st, q⟩ := k _ rfl T hT X
  refine ⟨t, ?_, q⟩
  have h1 := X.baloadOut hexec (by rw [hT]; exact hP q0 _ ha) ((hK.2 t0 _ ht).1 n (fun j => .int (f j))) (j := i) (by show (i < 0 ∨ (arrV _ _ _).slots.size ≤ _); rw [arrV_size]; exact Classical.byContradiction hout) (g := F0 m pc ls (.int i :: .ref a :: rest)) rfl (rest := rest) rfl (by rw [hb]; exact hdg) t
  simp only [arrV_size] at h1
  exact h1 st
theorem vx_bastZ {D : va_G} {cl : List vw_C} {ws : va_W} {tys : List (ClassId × FieldType)} {a : Nat} (hexec : p.tables.exec = Jvm.exec) (hb : c.code = cc) (hK : va_K D cl tys s) (hP : va_P D cl ws H) (q0 t0 : Nat) {cA : ClassId} {n : Nat} {f : Nat → Int32} (ha : ws[q0]? = some (a, .inl (cA, n, .inl f))) (ht : tys[t0]? = some (cA, .byte)) {i : Int32} {x : Int32} (hout : ¬ vp_in i n) (hdg : decode cc pc = .ok (.bastore, 1))
    (k : ∀ tx : String, tx = (toString "Index " ++ toString i ++ toString " out of bounds for length " ++ toString n : String) → vx_Note p l e R s m args below meth c H locs cells slots Q (F0 m pc ls rest) "java/lang/ArrayIndexOutOfBoundsException" tx) : W p l e R s m args below meth c H locs cells slots Q (F0 m pc ls (.int x :: .int i :: .ref a :: rest)) := by
  intro T hT X
  obtain ⟨t, st, q⟩ := k _ rfl T hT X
  refine ⟨t, ?_, q⟩
  have h1 := X.bastoreOut hexec (by rw [hT]; exact hP q0 _ ha) ((hK.2 t0 _ ht).1 n (fun j => .int (f j))) (j := i) (by show (i < 0 ∨ (arrV _ _ _).slots.size ≤ _); rw [arrV_size]; exact Classical.byContradiction hout) (g := F0 m pc ls (.int x :: .int i :: .ref a :: rest)) rfl (rest := rest) rfl (by rw [hb]; exact hdg) t
  simp only [arrV_size] at h1
  exact h1 st
theorem vx_zaldZ {D : va_G} {cl : List vw_C} {ws : va_W} {tys : List (ClassId × FieldType)} {a : Nat} (hexec : p.tables.exec = Jvm.exec) (hb : c.code = cc) (hK : va_K D cl tys s) (hP : va_P D cl ws H) (q0 t0 : Nat) {cA : ClassId} {n : Nat} {f : Nat → Int32} (ha : ws[q0]? = some (a, .inl (cA, n, .inl f))) (ht : tys[t0]? = some (cA, .boolean)) {i : Int32} (hout : ¬ vp_in i n) (hdg : decode cc pc = .ok (.baload, 1))
    (k : ∀ tx : String, tx = (toString "Index " ++ toString i ++ toString " out of bounds for length " ++ toString n : String) → vx_Note p l e R s m args below meth c H locs cells slots Q (F0 m pc ls rest) "java/lang/ArrayIndexOutOfBoundsException" tx) : W p l e R s m args below meth c H locs cells slots Q (F0 m pc ls (.int i :: .ref a :: rest)) := by
  intro T hT X
  obtain ⟨t, st, q⟩ := k _ rfl T hT X
  refine ⟨t, ?_, q⟩
  have h1 := X.baloadOut hexec (by rw [hT]; exact hP q0 _ ha) ((hK.2 t0 _ ht).1 n (fun j => .int (f j))) (j := i) (by show (i < 0 ∨ (arrV _ _ _).slots.size ≤ _); rw [arrV_size]; exact Classical.byContradiction hout) (g := F0 m pc ls (.int i :: .ref a :: rest)) rfl (rest := rest) rfl (by rw [hb]; exact hdg) t
  simp only [arrV_size] at h1
  exact h1 st
theorem vx_zastZ {D : va_G} {cl : List vw_C} {ws : va_W} {tys : List (ClassId × FieldType)} {a : Nat} (hexec : p.tables.exec = Jvm.exec) (hb : c.code = cc) (hK : va_K D cl tys s) (hP : va_P D cl ws H) (q0 t0 : Nat) {cA : ClassId} {n : Nat} {f : Nat → Int32} (ha : ws[q0]? = some (a, .inl (cA, n, .inl f))) (ht : tys[t0]? = some (cA, .boolean)) {i : Int32} {x : Int32} (hout : ¬ vp_in i n) (hdg : decode cc pc = .ok (.bastore, 1))
    (k : ∀ tx : String, tx = (toString "Index " ++ toString i ++ toString " out of bounds for length " ++ toString n : String) → vx_Note p l e R s m args below meth c H locs cells slots Q (F0 m pc ls rest) "java/lang/ArrayIndexOutOfBoundsException" tx) : W p l e R s m args below meth c H locs cells slots Q (F0 m pc ls (.int x :: .int i :: .ref a :: rest)) := by
  intro T hT X
  obtain ⟨t, st, q⟩ := k _ rfl T hT X
  refine ⟨t, ?_, q⟩
  have h1 := X.bastoreOut hexec (by rw [hT]; exact hP q0 _ ha) ((hK.2 t0 _ ht).1 n (fun j => .int (f j))) (j := i) (by show (i < 0 ∨ (arrV _ _ _).slots.size ≤ _); rw [arrV_size]; exact Classical.byContradiction hout) (g := F0 m pc ls (.int x :: .int i :: .ref a :: rest)) rfl (rest := rest) rfl (by rw [hb]; exact hdg) t
  simp only [arrV_size] at h1
  exact h1 st
theorem vx_caldZ {D : va_G} {cl : List vw_C} {ws : va_W} {tys : List (ClassId × FieldType)} {a : Nat} (hexec : p.tables.exec = Jvm.exec) (hb : c.code = cc) (hK : va_K D cl tys s) (hP : va_P D cl ws H) (q0 t0 : Nat) {cA : ClassId} {n : Nat} {f : Nat → Int32} (ha : ws[q0]? = some (a, .inl (cA, n, .inl f))) (ht : tys[t0]? = some (cA, .char)) {i : Int32} (hout : ¬ vp_in i n) (hdg : decode cc pc = .ok (.caload, 1))
    (k : ∀ tx : String, tx = (toString "Index " ++ toString i ++ toString " out of bounds for length " ++ toString n : String) → vx_Note p l e R s m args below meth c H locs cells slots Q (F0 m pc ls rest) "java/lang/ArrayIndexOutOfBoundsException" tx) : W p l e R s m args below meth c H locs cells slots Q (F0 m pc ls (.int i :: .ref a :: rest)) := by
  intro T hT X
  obtain ⟨t, st, q⟩ := k _ rfl T hT X
  refine ⟨t, ?_, q⟩
  have h1 := X.caloadOut hexec (by rw [hT]; exact hP q0 _ ha) ((hK.2 t0 _ ht).1 n (fun j => .int (f j))) (j := i) (by show (i < 0 ∨ (arrV _ _ _).slots.size ≤ _); rw [arrV_size]; exact Classical.byContradiction hout) (g := F0 m pc ls (.int i :: .ref a :: rest)) rfl (rest := rest) rfl (by rw [hb]; exact hdg) t
  simp only [arrV_size] at h1
  exact h1 st
theorem vx_castZ {D : va_G} {cl : List vw_C} {ws : va_W} {tys : List (ClassId × FieldType)} {a : Nat} (hexec : p.tables.exec = Jvm.exec) (hb : c.code = cc) (hK : va_K D cl tys s) (hP : va_P D cl ws H) (q0 t0 : Nat) {cA : ClassId} {n : Nat} {f : Nat → Int32} (ha : ws[q0]? = some (a, .inl (cA, n, .inl f))) (ht : tys[t0]? = some (cA, .char)) {i : Int32} {x : Int32} (hout : ¬ vp_in i n) (hdg : decode cc pc = .ok (.castore, 1))
    (k : ∀ tx : String, tx = (toString "Index " ++ toString i ++ toString " out of bounds for length " ++ toString n : String) → vx_Note p l e R s m args below meth c H locs cells slots Q (F0 m pc ls rest) "java/lang/ArrayIndexOutOfBoundsException" tx) : W p l e R s m args below meth c H locs cells slots Q (F0 m pc ls (.int x :: .int i :: .ref a :: rest)) := by
  intro T hT X
  obtain ⟨t, st, q⟩ := k _ rfl T hT X
  refine ⟨t, ?_, q⟩
  have h1 := X.castoreOut hexec (by rw [hT]; exact hP q0 _ ha) ((hK.2 t0 _ ht).1 n (fun j => .int (f j))) (j := i) (by show (i < 0 ∨ (arrV _ _ _).slots.size ≤ _); rw [arrV_size]; exact Classical.byContradiction hout) (g := F0 m pc ls (.int x :: .int i :: .ref a :: rest)) rfl (rest := rest) rfl (by rw [hb]; exact hdg) t
  simp only [arrV_size] at h1
  exact h1 st
theorem vx_saldZ {D : va_G} {cl : List vw_C} {ws : va_W} {tys : List (ClassId × FieldType)} {a : Nat} (hexec : p.tables.exec = Jvm.exec) (hb : c.code = cc) (hK : va_K D cl tys s) (hP : va_P D cl ws H) (q0 t0 : Nat) {cA : ClassId} {n : Nat} {f : Nat → Int32} (ha : ws[q0]? = some (a, .inl (cA, n, .inl f))) (ht : tys[t0]? = some (cA, .short)) {i : Int32} (hout : ¬ vp_in i n) (hdg : decode cc pc = .ok (.saload, 1))
    (k : ∀ tx : String, tx = (toString "Index " ++ toString i ++ toString " out of bounds for length " ++ toString n : String) → vx_Note p l e R s m args below meth c H locs cells slots Q (F0 m pc ls rest) "java/lang/ArrayIndexOutOfBoundsException" tx) : W p l e R s m args below meth c H locs cells slots Q (F0 m pc ls (.int i :: .ref a :: rest)) := by
  intro T hT X
  obtain ⟨t, st, q⟩ := k _ rfl T hT X
  refine ⟨t, ?_, q⟩
  have h1 := X.saloadOut hexec (by rw [hT]; exact hP q0 _ ha) ((hK.2 t0 _ ht).1 n (fun j => .int (f j))) (j := i) (by show (i < 0 ∨ (arrV _ _ _).slots.size ≤ _); rw [arrV_size]; exact Classical.byContradiction hout) (g := F0 m pc ls (.int i :: .ref a :: rest)) rfl (rest := rest) rfl (by rw [hb]; exact hdg) t
  simp only [arrV_size] at h1
  exact h1 st
theorem vx_sastZ {D : va_G} {cl : List vw_C} {ws : va_W} {tys : List (ClassId × FieldType)} {a : Nat} (hexec : p.tables.exec = Jvm.exec) (hb : c.code = cc) (hK : va_K D cl tys s) (hP : va_P D cl ws H) (q0 t0 : Nat) {cA : ClassId} {n : Nat} {f : Nat → Int32} (ha : ws[q0]? = some (a, .inl (cA, n, .inl f))) (ht : tys[t0]? = some (cA, .short)) {i : Int32} {x : Int32} (hout : ¬ vp_in i n) (hdg : decode cc pc = .ok (.sastore, 1))
    (k : ∀ tx : String, tx = (toString "Index " ++ toString i ++ toString " out of bounds for length " ++ toString n : String) → vx_Note p l e R s m args below meth c H locs cells slots Q (F0 m pc ls rest) "java/lang/ArrayIndexOutOfBoundsException" tx) : W p l e R s m args below meth c H locs cells slots Q (F0 m pc ls (.int x :: .int i :: .ref a :: rest)) := by
  intro T hT X
  obtain ⟨t, st, q⟩ := k _ rfl T hT X
  refine ⟨t, ?_, q⟩
  have h1 := X.sastoreOut hexec (by rw [hT]; exact hP q0 _ ha) ((hK.2 t0 _ ht).1 n (fun j => .int (f j))) (j := i) (by show (i < 0 ∨ (arrV _ _ _).slots.size ≤ _); rw [arrV_size]; exact Classical.byContradiction hout) (g := F0 m pc ls (.int x :: .int i :: .ref a :: rest)) rfl (rest := rest) rfl (by rw [hb]; exact hdg) t
  simp only [arrV_size] at h1
  exact h1 st
theorem vx_laldZ {D : va_G} {cl : List vw_C} {ws : va_W} {tys : List (ClassId × FieldType)} {a : Nat} (hexec : p.tables.exec = Jvm.exec) (hb : c.code = cc) (hK : va_K D cl tys s) (hP : va_P D cl ws H) (q0 t0 : Nat) {cA : ClassId} {n : Nat} {f : Nat → Int64} (ha : ws[q0]? = some (a, .inl (cA, n, .inr (.inl f)))) (ht : tys[t0]? = some (cA, .long)) {i : Int32} (hout : ¬ vp_in i n) (hdg : decode cc pc = .ok (.laload, 1))
    (k : ∀ tx : String, tx = (toString "Index " ++ toString i ++ toString " out of bounds for length " ++ toString n : String) → vx_Note p l e R s m args below meth c H locs cells slots Q (F0 m pc ls rest) "java/lang/ArrayIndexOutOfBoundsException" tx) : W p l e R s m args below meth c H locs cells slots Q (F0 m pc ls (.int i :: .ref a :: rest)) := by
  intro T hT X
  obtain ⟨t, st, q⟩ := k _ rfl T hT X
  refine ⟨t, ?_, q⟩
  have h1 := X.laloadOut hexec (by rw [hT]; exact hP q0 _ ha) ((hK.2 t0 _ ht).1 n (fun j => .long (f j))) (j := i) (by show (i < 0 ∨ (arrV _ _ _).slots.size ≤ _); rw [arrV_size]; exact Classical.byContradiction hout) (g := F0 m pc ls (.int i :: .ref a :: rest)) rfl (rest := rest) rfl (by rw [hb]; exact hdg) t
  simp only [arrV_size] at h1
  exact h1 st
theorem vx_lastZ {D : va_G} {cl : List vw_C} {ws : va_W} {tys : List (ClassId × FieldType)} {a : Nat} (hexec : p.tables.exec = Jvm.exec) (hb : c.code = cc) (hK : va_K D cl tys s) (hP : va_P D cl ws H) (q0 t0 : Nat) {cA : ClassId} {n : Nat} {f : Nat → Int64} (ha : ws[q0]? = some (a, .inl (cA, n, .inr (.inl f)))) (ht : tys[t0]? = some (cA, .long)) {i : Int32} {x : Int64} (hout : ¬ vp_in i n) (hdg : decode cc pc = .ok (.lastore, 1))
    (k : ∀ tx : String, tx = (toString "Index " ++ toString i ++ toString " out of bounds for length " ++ toString n : String) → vx_Note p l e R s m args below meth c H locs cells slots Q (F0 m pc ls rest) "java/lang/ArrayIndexOutOfBoundsException" tx) : W p l e R s m args below meth c H locs cells slots Q (F0 m pc ls (.long x :: .int i :: .ref a :: rest)) := by
  intro T hT X
  obtain ⟨t, st, q⟩ := k _ rfl T hT X
  refine ⟨t, ?_, q⟩
  have h1 := X.lastoreOut hexec (by rw [hT]; exact hP q0 _ ha) ((hK.2 t0 _ ht).1 n (fun j => .long (f j))) (j := i) (by show (i < 0 ∨ (arrV _ _ _).slots.size ≤ _); rw [arrV_size]; exact Classical.byContradiction hout) (g := F0 m pc ls (.long x :: .int i :: .ref a :: rest)) rfl (rest := rest) rfl (by rw [hb]; exact hdg) t
  simp only [arrV_size] at h1
  exact h1 st
theorem vx_faldZ {D : va_G} {cl : List vw_C} {ws : va_W} {tys : List (ClassId × FieldType)} {a : Nat} (hexec : p.tables.exec = Jvm.exec) (hb : c.code = cc) (hK : va_K D cl tys s) (hP : va_P D cl ws H) (q0 t0 : Nat) {cA : ClassId} {n : Nat} {f : Nat → UInt32} (ha : ws[q0]? = some (a, .inl (cA, n, .inr (.inr (.inl f))))) (ht : tys[t0]? = some (cA, .float)) {i : Int32} (hout : ¬ vp_in i n) (hdg : decode cc pc = .ok (.faload, 1))
    (k : ∀ tx : String, tx = (toString "Index " ++ toString i ++ toString " out of bounds for length " ++ toString n : String) → vx_Note p l e R s m args below meth c H locs cells slots Q (F0 m pc ls rest) "java/lang/ArrayIndexOutOfBoundsException" tx) : W p l e R s m args below meth c H locs cells slots Q (F0 m pc ls (.int i :: .ref a :: rest)) := by
  intro T hT X
  obtain ⟨t, st, q⟩ := k _ rfl T hT X
  refine ⟨t, ?_, q⟩
  have h1 := X.faloadOut hexec (by rw [hT]; exact hP q0 _ ha) ((hK.2 t0 _ ht).1 n (fun j => .float (f j))) (j := i) (by show (i < 0 ∨ (arrV _ _ _).slots.size ≤ _); rw [arrV_size]; exact Classical.byContradiction hout) (g := F0 m pc ls (.int i :: .ref a :: rest)) rfl (rest := rest) rfl (by rw [hb]; exact hdg) t
  simp only [arrV_size] at h1
  exact h1 st
theorem vx_fastZ {D : va_G} {cl : List vw_C} {ws : va_W} {tys : List (ClassId × FieldType)} {a : Nat} (hexec : p.tables.exec = Jvm.exec) (hb : c.code = cc) (hK : va_K D cl tys s) (hP : va_P D cl ws H) (q0 t0 : Nat) {cA : ClassId} {n : Nat} {f : Nat → UInt32} (ha : ws[q0]? = some (a, .inl (cA, n, .inr (.inr (.inl f))))) (ht : tys[t0]? = some (cA, .float)) {i : Int32} {x : UInt32} (hout : ¬ vp_in i n) (hdg : decode cc pc = .ok (.fastore, 1))
    (k : ∀ tx : String, tx = (toString "Index " ++ toString i ++ toString " out of bounds for length " ++ toString n : String) → vx_Note p l e R s m args below meth c H locs cells slots Q (F0 m pc ls rest) "java/lang/ArrayIndexOutOfBoundsException" tx) : W p l e R s m args below meth c H locs cells slots Q (F0 m pc ls (.float x :: .int i :: .ref a :: rest)) := by
  intro T hT X
  obtain ⟨t, st, q⟩ := k _ rfl T hT X
  refine ⟨t, ?_, q⟩
  have h1 := X.fastoreOut hexec (by rw [hT]; exact hP q0 _ ha) ((hK.2 t0 _ ht).1 n (fun j => .float (f j))) (j := i) (by show (i < 0 ∨ (arrV _ _ _).slots.size ≤ _); rw [arrV_size]; exact Classical.byContradiction hout) (g := F0 m pc ls (.float x :: .int i :: .ref a :: rest)) rfl (rest := rest) rfl (by rw [hb]; exact hdg) t
  simp only [arrV_size] at h1
  exact h1 st
theorem vx_daldZ {D : va_G} {cl : List vw_C} {ws : va_W} {tys : List (ClassId × FieldType)} {a : Nat} (hexec : p.tables.exec = Jvm.exec) (hb : c.code = cc) (hK : va_K D cl tys s) (hP : va_P D cl ws H) (q0 t0 : Nat) {cA : ClassId} {n : Nat} {f : Nat → UInt64} (ha : ws[q0]? = some (a, .inl (cA, n, .inr (.inr (.inr (.inl f)))))) (ht : tys[t0]? = some (cA, .double)) {i : Int32} (hout : ¬ vp_in i n) (hdg : decode cc pc = .ok (.daload, 1))
    (k : ∀ tx : String, tx = (toString "Index " ++ toString i ++ toString " out of bounds for length " ++ toString n : String) → vx_Note p l e R s m args below meth c H locs cells slots Q (F0 m pc ls rest) "java/lang/ArrayIndexOutOfBoundsException" tx) : W p l e R s m args below meth c H locs cells slots Q (F0 m pc ls (.int i :: .ref a :: rest)) := by
  intro T hT X
  obtain ⟨t, st, q⟩ := k _ rfl T hT X
  refine ⟨t, ?_, q⟩
  have h1 := X.daloadOut hexec (by rw [hT]; exact hP q0 _ ha) ((hK.2 t0 _ ht).1 n (fun j => .double (f j))) (j := i) (by show (i < 0 ∨ (arrV _ _ _).slots.size ≤ _); rw [arrV_size]; exact Classical.byContradiction hout) (g := F0 m pc ls (.int i :: .ref a :: rest)) rfl (rest := rest) rfl (by rw [hb]; exact hdg) t
  simp only [arrV_size] at h1
  exact h1 st
theorem vx_dastZ {D : va_G} {cl : List vw_C} {ws : va_W} {tys : List (ClassId × FieldType)} {a : Nat} (hexec : p.tables.exec = Jvm.exec) (hb : c.code = cc) (hK : va_K D cl tys s) (hP : va_P D cl ws H) (q0 t0 : Nat) {cA : ClassId} {n : Nat} {f : Nat → UInt64} (ha : ws[q0]? = some (a, .inl (cA, n, .inr (.inr (.inr (.inl f)))))) (ht : tys[t0]? = some (cA, .double)) {i : Int32} {x : UInt64} (hout : ¬ vp_in i n) (hdg : decode cc pc = .ok (.dastore, 1))
    (k : ∀ tx : String, tx = (toString "Index " ++ toString i ++ toString " out of bounds for length " ++ toString n : String) → vx_Note p l e R s m args below meth c H locs cells slots Q (F0 m pc ls rest) "java/lang/ArrayIndexOutOfBoundsException" tx) : W p l e R s m args below meth c H locs cells slots Q (F0 m pc ls (.double x :: .int i :: .ref a :: rest)) := by
  intro T hT X
  obtain ⟨t, st, q⟩ := k _ rfl T hT X
  refine ⟨t, ?_, q⟩
  have h1 := X.dastoreOut hexec (by rw [hT]; exact hP q0 _ ha) ((hK.2 t0 _ ht).1 n (fun j => .double (f j))) (j := i) (by show (i < 0 ∨ (arrV _ _ _).slots.size ≤ _); rw [arrV_size]; exact Classical.byContradiction hout) (g := F0 m pc ls (.double x :: .int i :: .ref a :: rest)) rfl (rest := rest) rfl (by rw [hb]; exact hdg) t
  simp only [arrV_size] at h1
  exact h1 st
theorem vx_arraylengthN (hexec : p.tables.exec = Jvm.exec) (hb : c.code = cc) (hdg : decode cc pc = .ok (.arraylength, 1)) (k : vx_NoteN p l e R s m args below meth c H locs cells slots Q (F0 m pc ls rest)) : W p l e R s m args below meth c H locs cells slots Q (F0 m pc ls (.null :: rest)) := by
  intro T hT X
  obtain ⟨t, st, q⟩ := k T hT X
  exact ⟨t, X.arraylengthNull hexec (g := F0 m pc ls (.null :: rest)) rfl (rest := rest) rfl (by rw [hb]; exact hdg) t st, q⟩
theorem vx_ialoadN (hexec : p.tables.exec = Jvm.exec) (hb : c.code = cc) {i : Int32} (hdg : decode cc pc = .ok (.iaload, 1)) (k : vx_NoteN p l e R s m args below meth c H locs cells slots Q (F0 m pc ls rest)) : W p l e R s m args below meth c H locs cells slots Q (F0 m pc ls (.int i :: .null :: rest)) := by
  intro T hT X
  obtain ⟨t, st, q⟩ := k T hT X
  exact ⟨t, X.ialoadNull hexec (g := F0 m pc ls (.int i :: .null :: rest)) rfl (rest := rest) rfl (by rw [hb]; exact hdg) t st, q⟩
theorem vx_laloadN (hexec : p.tables.exec = Jvm.exec) (hb : c.code = cc) {i : Int32} (hdg : decode cc pc = .ok (.laload, 1)) (k : vx_NoteN p l e R s m args below meth c H locs cells slots Q (F0 m pc ls rest)) : W p l e R s m args below meth c H locs cells slots Q (F0 m pc ls (.int i :: .null :: rest)) := by
  intro T hT X
  obtain ⟨t, st, q⟩ := k T hT X
  exact ⟨t, X.laloadNull hexec (g := F0 m pc ls (.int i :: .null :: rest)) rfl (rest := rest) rfl (by rw [hb]; exact hdg) t st, q⟩
theorem vx_faloadN (hexec : p.tables.exec = Jvm.exec) (hb : c.code = cc) {i : Int32} (hdg : decode cc pc = .ok (.faload, 1)) (k : vx_NoteN p l e R s m args below meth c H locs cells slots Q (F0 m pc ls rest)) : W p l e R s m args below meth c H locs cells slots Q (F0 m pc ls (.int i :: .null :: rest)) := by
  intro T hT X
  obtain ⟨t, st, q⟩ := k T hT X
  exact ⟨t, X.faloadNull hexec (g := F0 m pc ls (.int i :: .null :: rest)) rfl (rest := rest) rfl (by rw [hb]; exact hdg) t st, q⟩
theorem vx_daloadN (hexec : p.tables.exec = Jvm.exec) (hb : c.code = cc) {i : Int32} (hdg : decode cc pc = .ok (.daload, 1)) (k : vx_NoteN p l e R s m args below meth c H locs cells slots Q (F0 m pc ls rest)) : W p l e R s m args below meth c H locs cells slots Q (F0 m pc ls (.int i :: .null :: rest)) := by
  intro T hT X
  obtain ⟨t, st, q⟩ := k T hT X
  exact ⟨t, X.daloadNull hexec (g := F0 m pc ls (.int i :: .null :: rest)) rfl (rest := rest) rfl (by rw [hb]; exact hdg) t st, q⟩
theorem vx_aaloadN (hexec : p.tables.exec = Jvm.exec) (hb : c.code = cc) {i : Int32} (hdg : decode cc pc = .ok (.aaload, 1)) (k : vx_NoteN p l e R s m args below meth c H locs cells slots Q (F0 m pc ls rest)) : W p l e R s m args below meth c H locs cells slots Q (F0 m pc ls (.int i :: .null :: rest)) := by
  intro T hT X
  obtain ⟨t, st, q⟩ := k T hT X
  exact ⟨t, X.aaloadNull hexec (g := F0 m pc ls (.int i :: .null :: rest)) rfl (rest := rest) rfl (by rw [hb]; exact hdg) t st, q⟩
theorem vx_baloadN (hexec : p.tables.exec = Jvm.exec) (hb : c.code = cc) {i : Int32} (hdg : decode cc pc = .ok (.baload, 1)) (k : vx_NoteN p l e R s m args below meth c H locs cells slots Q (F0 m pc ls rest)) : W p l e R s m args below meth c H locs cells slots Q (F0 m pc ls (.int i :: .null :: rest)) := by
  intro T hT X
  obtain ⟨t, st, q⟩ := k T hT X
  exact ⟨t, X.baloadNull hexec (g := F0 m pc ls (.int i :: .null :: rest)) rfl (rest := rest) rfl (by rw [hb]; exact hdg) t st, q⟩
theorem vx_caloadN (hexec : p.tables.exec = Jvm.exec) (hb : c.code = cc) {i : Int32} (hdg : decode cc pc = .ok (.caload, 1)) (k : vx_NoteN p l e R s m args below meth c H locs cells slots Q (F0 m pc ls rest)) : W p l e R s m args below meth c H locs cells slots Q (F0 m pc ls (.int i :: .null :: rest)) := by
  intro T hT X
  obtain ⟨t, st, q⟩ := k T hT X
  exact ⟨t, X.caloadNull hexec (g := F0 m pc ls (.int i :: .null :: rest)) rfl (rest := rest) rfl (by rw [hb]; exact hdg) t st, q⟩
theorem vx_saloadN (hexec : p.tables.exec = Jvm.exec) (hb : c.code = cc) {i : Int32} (hdg : decode cc pc = .ok (.saload, 1)) (k : vx_NoteN p l e R s m args below meth c H locs cells slots Q (F0 m pc ls rest)) : W p l e R s m args below meth c H locs cells slots Q (F0 m pc ls (.int i :: .null :: rest)) := by
  intro T hT X
  obtain ⟨t, st, q⟩ := k T hT X
  exact ⟨t, X.saloadNull hexec (g := F0 m pc ls (.int i :: .null :: rest)) rfl (rest := rest) rfl (by rw [hb]; exact hdg) t st, q⟩
theorem vx_iastoreN (hexec : p.tables.exec = Jvm.exec) (hb : c.code = cc) {x : Int32} {i : Int32} (hdg : decode cc pc = .ok (.iastore, 1)) (k : vx_NoteN p l e R s m args below meth c H locs cells slots Q (F0 m pc ls rest)) : W p l e R s m args below meth c H locs cells slots Q (F0 m pc ls (.int x :: .int i :: .null :: rest)) := by
  intro T hT X
  obtain ⟨t, st, q⟩ := k T hT X
  exact ⟨t, X.iastoreNull hexec (g := F0 m pc ls (.int x :: .int i :: .null :: rest)) rfl (rest := rest) rfl (by rw [hb]; exact hdg) t st, q⟩
theorem vx_lastoreN (hexec : p.tables.exec = Jvm.exec) (hb : c.code = cc) {x : Int64} {i : Int32} (hdg : decode cc pc = .ok (.lastore, 1)) (k : vx_NoteN p l e R s m args below meth c H locs cells slots Q (F0 m pc ls rest)) : W p l e R s m args below meth c H locs cells slots Q (F0 m pc ls (.long x :: .int i :: .null :: rest)) := by
  intro T hT X
  obtain ⟨t, st, q⟩ := k T hT X
  exact ⟨t, X.lastoreNull hexec (g := F0 m pc ls (.long x :: .int i :: .null :: rest)) rfl (rest := rest) rfl (by rw [hb]; exact hdg) t st, q⟩
theorem vx_fastoreN (hexec : p.tables.exec = Jvm.exec) (hb : c.code = cc) {x : UInt32} {i : Int32} (hdg : decode cc pc = .ok (.fastore, 1)) (k : vx_NoteN p l e R s m args below meth c H locs cells slots Q (F0 m pc ls rest)) : W p l e R s m args below meth c H locs cells slots Q (F0 m pc ls (.float x :: .int i :: .null :: rest)) := by
  intro T hT X
  obtain ⟨t, st, q⟩ := k T hT X
  exact ⟨t, X.fastoreNull hexec (g := F0 m pc ls (.float x :: .int i :: .null :: rest)) rfl (rest := rest) rfl (by rw [hb]; exact hdg) t st, q⟩
theorem vx_dastoreN (hexec : p.tables.exec = Jvm.exec) (hb : c.code = cc) {x : UInt64} {i : Int32} (hdg : decode cc pc = .ok (.dastore, 1)) (k : vx_NoteN p l e R s m args below meth c H locs cells slots Q (F0 m pc ls rest)) : W p l e R s m args below meth c H locs cells slots Q (F0 m pc ls (.double x :: .int i :: .null :: rest)) := by
  intro T hT X
  obtain ⟨t, st, q⟩ := k T hT X
  exact ⟨t, X.dastoreNull hexec (g := F0 m pc ls (.double x :: .int i :: .null :: rest)) rfl (rest := rest) rfl (by rw [hb]; exact hdg) t st, q⟩
theorem vx_bastoreN (hexec : p.tables.exec = Jvm.exec) (hb : c.code = cc) {x : Int32} {i : Int32} (hdg : decode cc pc = .ok (.bastore, 1)) (k : vx_NoteN p l e R s m args below meth c H locs cells slots Q (F0 m pc ls rest)) : W p l e R s m args below meth c H locs cells slots Q (F0 m pc ls (.int x :: .int i :: .null :: rest)) := by
  intro T hT X
  obtain ⟨t, st, q⟩ := k T hT X
  exact ⟨t, X.bastoreNull hexec (g := F0 m pc ls (.int x :: .int i :: .null :: rest)) rfl (rest := rest) rfl (by rw [hb]; exact hdg) t st, q⟩
theorem vx_castoreN (hexec : p.tables.exec = Jvm.exec) (hb : c.code = cc) {x : Int32} {i : Int32} (hdg : decode cc pc = .ok (.castore, 1)) (k : vx_NoteN p l e R s m args below meth c H locs cells slots Q (F0 m pc ls rest)) : W p l e R s m args below meth c H locs cells slots Q (F0 m pc ls (.int x :: .int i :: .null :: rest)) := by
  intro T hT X
  obtain ⟨t, st, q⟩ := k T hT X
  exact ⟨t, X.castoreNull hexec (g := F0 m pc ls (.int x :: .int i :: .null :: rest)) rfl (rest := rest) rfl (by rw [hb]; exact hdg) t st, q⟩
theorem vx_sastoreN (hexec : p.tables.exec = Jvm.exec) (hb : c.code = cc) {x : Int32} {i : Int32} (hdg : decode cc pc = .ok (.sastore, 1)) (k : vx_NoteN p l e R s m args below meth c H locs cells slots Q (F0 m pc ls rest)) : W p l e R s m args below meth c H locs cells slots Q (F0 m pc ls (.int x :: .int i :: .null :: rest)) := by
  intro T hT X
  obtain ⟨t, st, q⟩ := k T hT X
  exact ⟨t, X.sastoreNull hexec (g := F0 m pc ls (.int x :: .int i :: .null :: rest)) rfl (rest := rest) rfl (by rw [hb]; exact hdg) t st, q⟩
theorem vx_invokeN {own C : String} {index maxL : Nat} {y : MethodName} {bytes : ByteArray} {ret : Option FieldType} (hexec : p.tables.exec = Jvm.exec) (hb : c.code = cc) (hown : s.vm.findClass own = some m.cls) (hlink : (Cond.methodLink own index y).before args s = true) (hinst : (Cond.instanceMethod y).before args s = true) (hcode : (Cond.code y bytes maxL ret).before args s = true) (hsel : (Cond.selects C y y).before args s = true)
    (hx : y.cls ≠ "java/lang/invoke/MethodHandle" ∧ y.cls ≠ "java/lang/invoke/VarHandle") {As : List Value} (hlen : (parseMethodDescriptor y.desc).map (fun d => d.parameters.length) = some As.length) (hdg : decode cc pc = .ok (.invokevirtual index, 3))
    (k : vx_NoteN p l e R s m args below meth c H locs cells slots Q (F0 m pc ls rest)) {st0 : List Value} (hst : st0 = As.reverse ++ .null :: rest) : W p l e R s m args below meth c H locs cells slots Q (F0 m pc ls st0) := by
  intro T hT X
  obtain ⟨r0, r, hn, hrm, hstR, hsigR⟩ := va_Decl.of hinst hcode
  obtain ⟨c2, r2, m2, q1, q2, q3, q4, kP, hkP, hkPi⟩ := Cond.selects_spec hsel
  cases hn.symm.trans q3
  have hl9 : As.length = r.sig.parameters.length := by
    rw [hsigR] at hlen
    exact (Option.some.inj hlen).symm
  obtain ⟨vm', X1, st1⟩ := X.invokevirtualNull hexec hown hlink hn hrm hstR hkP hkPi hx (g := F0 m pc ls st0) rfl (argsL := As) (rest := rest) hl9 hst (by rw [hb]; exact hdg)
  obtain ⟨t, st, q⟩ := k (T.setVm vm') hT X1
  exact ⟨t, st1 t st, q⟩
theorem vx_newarrayZ {atype : ArrayType} (hexec : p.tables.exec = Jvm.exec) (hb : c.code = cc) {n : Int32} (h0 : n < 0) (hdg : decode cc pc = .ok (.newarray atype, 2)) (k : ∀ tx : String, tx = toString n → vx_Note p l e R s m args below meth c H locs cells slots Q (F0 m pc ls rest) "java/lang/NegativeArraySizeException" tx) : W p l e R s m args below meth c H locs cells slots Q (F0 m pc ls (.int n :: rest)) := by
  intro T hT X
  obtain ⟨t, st, q⟩ := k _ rfl T hT X
  exact ⟨t, X.newarrayNegative hexec (g := F0 m pc ls (.int n :: rest)) rfl h0 (rest := rest) rfl (by rw [hb]; exact hdg) t st, q⟩
end
end VXM
/-! ===== END ===== -/
/-! ===== BEGIN a private method of a nest mate that may throw (follows va_callVN, va_callSN, va_runVN, va_runSN) ===== -/
section
variable {p : Program} {l : Launch} {e : Env} {R : Room} {s : State} {m : MethodId} {args : Array Value} {below : List Frame} {meth : Method} {c : Code} {H : Heap} {locs : List Loc} {cells slots : Nat}
variable {T : State}
theorem vx_callVN (X : Stand p l e R s m args below meth c T locs cells slots) (hexec : p.tables.exec = Jvm.exec) {own C : String} {index : Nat} {host : String} {y : MethodName} {bytes : ByteArray} {maxL : Nat} {ret : Option FieldType}
    (hown : s.vm.findClass own = some m.cls) (hlink : (Cond.methodLinkNest own index y host).before args s = true) (hinst : (Cond.instanceMethod y).before args s = true) (hsel : (Cond.selects C y y).before args s = true)
    (hcode : (Cond.code y bytes maxL ret).before args s = true) (hy : y.cls ≠ "java/lang/invoke/MethodHandle" ∧ y.cls ≠ "java/lang/invoke/VarHandle")
    {W : Nat} {Pre : Pt → Array Value → Prop} {Post : Pt → Array Value → Option Value → Pt → Prop} {PostX : Pt → Array Value → Addr → Pt → Prop} (hK : vx_Back l R p e below s args y 3 W Pre Post PostX)
    {b : Addr} {cellB : Cell} (hcell : T.heap[b]? = some cellB) (hobj : cellB.vm.isStatics = false) (hcls : s.vm.findClass C = some cellB.cls)
    {g : JFrame} (hg : g.method = m) (hsize : g.locals.size = c.maxLocals) {argsL rest : List Value} (hlen : ∀ sig, parseMethodDescriptor y.desc = some sig → argsL.length = sig.parameters.length)
    (hstack : g.stack = argsL.reverse ++ .ref b :: rest) (hW : 2 * g.monitorRoom + (rest.map fun v => v.category).sum ≤ W) (hdg : decode c.code g.pc = .ok (.invokevirtual index, 3))
    (hpre : ∀ vm₁, s.WarmedH vm₁ → Pre ⟨T.setVm vm₁, locs, cells, slots⟩ (Value.ref b :: argsL).toArray) :
    (∃ (v : Option Value) (vm₁ : Vm) (B : Pt), s.WarmedH vm₁ ∧ Stand p l e R s m args below meth c B.U B.locs B.cells B.slots ∧ Post ⟨T.setVm vm₁, locs, cells, slots⟩ (Value.ref b :: argsL).toArray v B ∧
      ∀ target, Steps p.tables e below (B.U.setTop { g with pc := g.pc + 3, stack := v.toList ++ rest }) target → Steps p.tables e below (T.setTop g) target) ∨
    (∃ (q : Addr) (vm₁ : Vm) (B : Pt), s.WarmedH vm₁ ∧ Stand p l e R s m args below meth c B.U B.locs B.cells B.slots ∧ PostX ⟨T.setVm vm₁, locs, cells, slots⟩ (Value.ref b :: argsL).toArray q B ∧
      Steps p.tables e below (T.setTop g) ((B.U.setTop { g with stack := rest }).pushFrame (.throwing q))) := by
  obtain ⟨mk, methM, hnamed, hmethM, hstM, habM⟩ := Cond.instanceMethod_spec hinst
  obtain ⟨methM', cM, hmethM', -, -, -, -, -, -, hsigM⟩ := Cond.code_spec hnamed hcode
  cases hmethM.symm.trans hmethM'
  obtain ⟨c2, r2, m2, q1, q2, q3, q4, kP, hkP, hkPi⟩ := Cond.selects_spec hsel
  cases hcls.symm.trans q1
  cases (State.methodFound?_of_named hnamed hy).symm.trans q2
  cases hnamed.symm.trans q3
  have hselP : selectMethod e.platform s.vm cellB.cls mk = .method mk := by rw [Launch.admits_selectMethod X.admits]; exact q4
  obtain ⟨vm₁, X₁, hstep₁⟩ := X.invokevirtualNest hexec hown hlink hnamed hmethM hstM hkP hkPi hy (a := b) (cell := cellB) hcell
    (fun z h => by rw [h] at hobj; cases hobj) hselP hmethM habM hkP hkPi (g := g) hg (argsL := argsL) (rest := rest) (hlen _ hsigM) hstack hdg
  rcases hK m meth c ⟨T.setVm vm₁, locs, cells, slots⟩ { g with stack := rest } (.invokevirtual index) mk (Value.ref b :: argsL).toArray X₁ hg hsize hdg hW (X₁.named hnamed) (hpre vm₁ X₁.warmed) with ⟨v, B, X', hpost, hsteps⟩ | ⟨q, B, X', hpost, hsteps⟩
  · exact Or.inl ⟨v, vm₁, B, X₁.warmed, X', hpost, fun target h => hstep₁ _ fun acts => by rw [doInvoke_state]; exact hsteps.trans h⟩
  · exact Or.inr ⟨q, vm₁, B, X₁.warmed, X', hpost, hstep₁ _ fun acts => by rw [doInvoke_state]; exact hsteps⟩
theorem vx_callSN (X : Stand p l e R s m args below meth c T locs cells slots) (hexec : p.tables.exec = Jvm.exec) {own : String} {index : Nat} {host : String} {y : MethodName} {bytes : ByteArray} {maxL : Nat} {ret : Option FieldType}
    (hown : s.vm.findClass own = some m.cls) (hlink : (Cond.methodLinkNest own index y host).before args s = true) (hstat : (Cond.static y).before args s = true) (hinit : (Cond.initialized y.cls).before args s = true)
    (hcode : (Cond.code y bytes maxL ret).before args s = true) (hy : y.cls ≠ "java/lang/invoke/MethodHandle" ∧ y.cls ≠ "java/lang/invoke/VarHandle")
    {W : Nat} {Pre : Pt → Array Value → Prop} {Post : Pt → Array Value → Option Value → Pt → Prop} {PostX : Pt → Array Value → Addr → Pt → Prop} (hK : vx_Back l R p e below s args y 3 W Pre Post PostX)
    {g : JFrame} (hg : g.method = m) (hsize : g.locals.size = c.maxLocals) {argsL rest : List Value} (hlen : ∀ sig, parseMethodDescriptor y.desc = some sig → argsL.length = sig.parameters.length)
    (hstack : g.stack = argsL.reverse ++ rest) (hW : 2 * g.monitorRoom + (rest.map fun v => v.category).sum ≤ W) (hdg : decode c.code g.pc = .ok (.invokestatic index, 3))
    (hpre : ∀ vm₁, s.WarmedH vm₁ → Pre ⟨T.setVm vm₁, locs, cells, slots⟩ argsL.toArray) :
    (∃ (v : Option Value) (vm₁ : Vm) (B : Pt), s.WarmedH vm₁ ∧ Stand p l e R s m args below meth c B.U B.locs B.cells B.slots ∧ Post ⟨T.setVm vm₁, locs, cells, slots⟩ argsL.toArray v B ∧
      ∀ target, Steps p.tables e below (B.U.setTop { g with pc := g.pc + 3, stack := v.toList ++ rest }) target → Steps p.tables e below (T.setTop g) target) ∨
    (∃ (q : Addr) (vm₁ : Vm) (B : Pt), s.WarmedH vm₁ ∧ Stand p l e R s m args below meth c B.U B.locs B.cells B.slots ∧ PostX ⟨T.setVm vm₁, locs, cells, slots⟩ argsL.toArray q B ∧
      Steps p.tables e below (T.setTop g) ((B.U.setTop { g with stack := rest }).pushFrame (.throwing q))) := by
  obtain ⟨mk, hnamed⟩ := Cond.code_named hcode
  obtain ⟨methM, cM, hmethM, -, -, -, -, -, -, hsigM⟩ := Cond.code_spec hnamed hcode
  have hstatic : methM.isStatic = true := Cond.static_spec hnamed hmethM hstat
  obtain ⟨kP, hkP, -⟩ := className_of_methodNamed hnamed
  have hinitP : kP.init = .initialized := Cond.initialized_spec (findClass_of_methodNamed hnamed) hkP hinit
  obtain ⟨vm₁, X₁, hstep₁⟩ := X.invokestaticNest hexec hown hlink hnamed hmethM hstatic hkP hinitP hy (g := g) hg (argsL := argsL) (rest := rest) (hlen _ hsigM) hstack hdg
  rcases hK m meth c ⟨T.setVm vm₁, locs, cells, slots⟩ { g with stack := rest } (.invokestatic index) mk argsL.toArray X₁ hg hsize hdg hW (X₁.named hnamed) (hpre vm₁ X₁.warmed) with ⟨v, B, X', hpost, hsteps⟩ | ⟨q, B, X', hpost, hsteps⟩
  · exact Or.inl ⟨v, vm₁, B, X₁.warmed, X', hpost, fun target h => hstep₁ _ fun acts => by rw [doInvoke_state]; exact hsteps.trans h⟩
  · exact Or.inr ⟨q, vm₁, B, X₁.warmed, X', hpost, hstep₁ _ fun acts => by rw [doInvoke_state]; exact hsteps⟩
theorem vx_runVN {y : MethodName} {bytes cc : ByteArray} {maxL nL mc ms n index : Nat} {ret : Option FieldType} {ws : List Cond} {rm : Room} {Pc : Array Value → State → Prop} {Qc : Array Value → State → Outcome → State → Prop} {XC : String → State → State → Prop} {free : Addr → Prop} {Ts : List Cond} {own C host : String} {b : Addr} {As rest : List Value} {g : JFrame}
    (S : CallFix p m c cc nL s args Ts own) (hM : vx_Met l y ws rm Pc Qc XC mc ms free) (cw : va_CN R s args own index y host bytes maxL ret ws rm mc ms n ∧ (Cond.instanceMethod y).before args s = true ∧ (Cond.selects C y y).before args s = true) (hp : PreV s H C b Pc As)
    (hg : g.method = m) (hn : As.length = n) (hsize : g.locals.size = nL) (hstack : g.stack = As.reverse ++ .ref b :: rest) (hW : 2 * g.monitorRoom + (rest.map fun v => v.category).sum ≤ 8) (hdg : decode cc g.pc = .ok (.invokevirtual index, 3)) (hf : cells + mc ≤ R.cells ∧ slots + ms ≤ R.slots) :
    vx_Run p l e R s m args below meth c H locs cells slots mc ms g rest (Qc (Value.ref b :: As).toArray) XC free := by
  obtain ⟨⟨⟨hrc, hrs, hfr, hlo, hws, hcw⟩, hcode, hini, hy, hlen, hl⟩, hx1, hx2⟩ := cw
  have hK : vx_Back l R p e below s args y 3 8 (PreOf R mc ms Pc) (PostOf Qc mc ms free) (vx_Post XC mc ms free) := vx_back (bytes := bytes) (maxL := maxL) (ret := ret) hM hp.1 hrc hrs hfr hlo hws hcw (fun a' U hW => word_at hW (Or.inl (by first | rfl | simp [Cond.onTables, Cond.keeps, Cond.steady])) hini)
  obtain ⟨hx, hb, hml, ho, -⟩ := S
  obtain ⟨-, ⟨cellB, hcB, hoB, hclB⟩, hPc⟩ := hp
  intro T hT X
  rcases vx_callVN X hx (C := C) (bytes := bytes) (maxL := maxL) (ret := ret) ho hl hx1 hx2 hcode hy hK (by rw [hT]; exact hcB) hoB hclB hg (hsize.trans hml.symm) (argsL := As) (rest := rest) (fun sig h => hn.trans (hlen sig h)) hstack hW (by rw [hb]; exact hdg)
    (fun vm₁ hW₁ => ⟨hf.1, hf.2, hPc (T.setVm vm₁) hT hW₁⟩) with ⟨v, vm₁, ⟨U', l2, c2, s2⟩, hW₁, X', ⟨g', mk, t, L, e1, e2, hq, h1, hL, h2, h3⟩, st⟩ | ⟨q, vm₁, ⟨U', l2, c2, s2⟩, hW₁, X', ⟨g', mk, t, L, E, ce, e1, e2, hq, hce, hcv, hcl, h1, hL, h2, h3⟩, st⟩
  · dsimp only [Pt.U, Pt.locs, Pt.cells, Pt.slots] at X' e1 e2 h1 h2 h3 st
    subst h1; subst h2; subst h3
    exact Or.inl ⟨v, (T.setVm vm₁).calling g' mk (Value.ref b :: As).toArray, t, U', L, hT, X', hL, e1, e2, hq, st⟩
  · dsimp only [Pt.U, Pt.locs, Pt.cells, Pt.slots] at X' e1 e2 h1 h2 h3 st hcl
    subst h1; subst h2; subst h3
    exact Or.inr ⟨q, (T.setVm vm₁).calling g' mk (Value.ref b :: As).toArray, t, U', L, E, ce, hT, X', hL, e1, e2, hq, hce, hcv, vx_cls hW₁ hcl, st⟩
theorem vx_runSN {y : MethodName} {bytes cc : ByteArray} {maxL nL mc ms n index : Nat} {ret : Option FieldType} {ws : List Cond} {rm : Room} {Pc : Array Value → State → Prop} {Qc : Array Value → State → Outcome → State → Prop} {XC : String → State → State → Prop} {free : Addr → Prop} {Ts : List Cond} {own host : String} {As rest : List Value} {g : JFrame}
    (S : CallFix p m c cc nL s args Ts own) (hM : vx_Met l y ws rm Pc Qc XC mc ms free) (cw : va_CN R s args own index y host bytes maxL ret ws rm mc ms n ∧ (Cond.static y).before args s = true ∧ True) (hp : PreS s H Pc As)
    (hg : g.method = m) (hn : As.length = n) (hsize : g.locals.size = nL) (hstack : g.stack = As.reverse ++ rest) (hW : 2 * g.monitorRoom + (rest.map fun v => v.category).sum ≤ 8) (hdg : decode cc g.pc = .ok (.invokestatic index, 3)) (hf : cells + mc ≤ R.cells ∧ slots + ms ≤ R.slots) :
    vx_Run p l e R s m args below meth c H locs cells slots mc ms g rest (Qc As.toArray) XC free := by
  obtain ⟨⟨⟨hrc, hrs, hfr, hlo, hws, hcw⟩, hcode, hini, hy, hlen, hl⟩, hx1, hx2⟩ := cw
  have hK : vx_Back l R p e below s args y 3 8 (PreOf R mc ms Pc) (PostOf Qc mc ms free) (vx_Post XC mc ms free) := vx_back (bytes := bytes) (maxL := maxL) (ret := ret) hM hp.1 hrc hrs hfr hlo hws hcw (fun a' U hW => word_at hW (Or.inl (by first | rfl | simp [Cond.onTables, Cond.keeps, Cond.steady])) hini)
  obtain ⟨hx, hb, hml, ho, -⟩ := S
  have hPc := hp.2
  intro T hT X
  rcases vx_callSN X hx (bytes := bytes) (maxL := maxL) (ret := ret) ho hl hx1 hini hcode hy hK hg (hsize.trans hml.symm) (argsL := As) (rest := rest) (fun sig h => hn.trans (hlen sig h)) hstack hW (by rw [hb]; exact hdg)
    (fun vm₁ hW₁ => ⟨hf.1, hf.2, hPc (T.setVm vm₁) hT hW₁⟩) with ⟨v, vm₁, ⟨U', l2, c2, s2⟩, hW₁, X', ⟨g', mk, t, L, e1, e2, hq, h1, hL, h2, h3⟩, st⟩ | ⟨q, vm₁, ⟨U', l2, c2, s2⟩, hW₁, X', ⟨g', mk, t, L, E, ce, e1, e2, hq, hce, hcv, hcl, h1, hL, h2, h3⟩, st⟩
  · dsimp only [Pt.U, Pt.locs, Pt.cells, Pt.slots] at X' e1 e2 h1 h2 h3 st
    subst h1; subst h2; subst h3
    exact Or.inl ⟨v, (T.setVm vm₁).calling g' mk As.toArray, t, U', L, hT, X', hL, e1, e2, hq, st⟩
  · dsimp only [Pt.U, Pt.locs, Pt.cells, Pt.slots] at X' e1 e2 h1 h2 h3 st hcl
    subst h1; subst h2; subst h3
    exact Or.inr ⟨q, (T.setVm vm₁).calling g' mk As.toArray, t, U', L, E, ce, hT, X', hL, e1, e2, hq, hce, hcv, vx_cls hW₁ hcl, st⟩
end
/-! ===== END ===== -/
end
section
/-! ===== AM1: straight stretches of bytecode as one function of program counter, locals and stack ===== -/
/-- references are numbers of cells; ad gives their addresses -/
def am_v (ad : Nat → Nat) : Value → Value
  | .ref c => .ref (ad c)
  | v => v
def am_get (L : List (Option Value)) (i : Nat) : Option Value := match L[i]? with
  | some o => o
  | none => none
/-- the locals that are known -/
def am_l (ad : Nat → Nat) (nL : Nat) (L : List (Option Value)) (ls : Array Slot) : Prop := ls.size = nL ∧ lv_wf ls ∧ ∀ (i : Nat) (v : Value), am_get L i = some v → ls[i]? = some (.val (am_v ad v))
theorem am_v_cat (ad : Nat → Nat) (v : Value) : (am_v ad v).category = v.category := by cases v <;> rfl
theorem am_get_set (L : List (Option Value)) (i j : Nat) (o : Option Value) (v : Value) (h : am_get (L.set i o) j = some v) : (j = i ∧ o = some v) ∨ (j ≠ i ∧ am_get L j = some v) := by
  unfold am_get at h ⊢
  rw [List.getElem?_set] at h
  by_cases e : i = j
  · subst e
    rw [if_pos rfl] at h
    refine Or.inl ⟨rfl, ?_⟩
    by_cases hl : i < L.length
    · rw [if_pos hl] at h
      exact h
    · rw [if_neg hl] at h
      cases h
  · rw [if_neg e] at h
    exact Or.inr ⟨fun q => e q.symm, h⟩
/-- the local ahead of i holds no long and no double -/
def am_ok1 (L : List (Option Value)) (i : Nat) : Bool := match i with
  | 0 => true
  | j + 1 => match am_get L j with
    | some v => v.category == 1
    | none => true
theorem am_store1 {ad : Nat → Nat} {nL : Nat} {L : List (Option Value)} {ls : Array Slot} {i : Nat} {v : Value} (h : am_l ad nL L ls) (hi : i < nL) (hc : v.category = 1) (hok : am_ok1 L i = true) :
    ∃ ls', storeLocals ls i (am_v ad v) = some ls' ∧ am_l ad nL (L.set i (some v)) ls' := by
  obtain ⟨h1, h2, h3⟩ := h
  have hc' : (am_v ad v).category = 1 := by rw [am_v_cat]; exact hc
  obtain ⟨ls', e, h4⟩ := lv_store1 (l := []) (v := am_v ad v) ⟨h1, h2, fun q hq => by cases hq⟩ hi hc'
  refine ⟨ls', e, h4.1, h4.2.1, fun j w hw => ?_⟩
  rcases am_get_set L i j _ w hw with ⟨rfl, hv⟩ | ⟨hj, hg⟩
  · cases hv
    exact h4.2.2 _ List.mem_cons_self
  · obtain ⟨ls2, e2, h5⟩ := lv_store1 (l := [(j, am_v ad w)]) (v := am_v ad v) ⟨h1, h2, fun q hq => by
      rw [List.mem_singleton.mp hq]
      exact h3 j w hg⟩ hi hc'
    cases e.symm.trans e2
    refine h5.2.2 (j, am_v ad w) (List.mem_cons_of_mem _ (List.mem_filter.mpr ⟨List.mem_singleton.mpr rfl, ?_⟩))
    have hne : (j == i) = false := by simpa using hj
    have h6 : (j + 1 == i && (am_v ad w).category == 2) = false := by
      by_cases e1 : j + 1 = i
      · subst e1
        have h7 : w.category = 1 := by
          have h8 : (match am_get L j with | some v => v.category == 1 | none => true) = true := hok
          rw [hg] at h8
          exact eq_of_beq h8
        simp [am_v_cat, h7]
      · simp [e1]
    simp [hne, h6]
theorem am_store2 {ad : Nat → Nat} {nL : Nat} {L : List (Option Value)} {ls : Array Slot} {i : Nat} {v : Value} (h : am_l ad nL L ls) (hi : i + 1 < nL) (hc : v.category = 2) (hok : am_ok1 L i = true) :
    ∃ ls', storeLocals ls i (am_v ad v) = some ls' ∧ am_l ad nL ((L.set (i + 1) none).set i (some v)) ls' := by
  obtain ⟨h1, h2, h3⟩ := h
  have hc' : (am_v ad v).category = 2 := by rw [am_v_cat]; exact hc
  obtain ⟨ls', e, h4⟩ := lv_store2 (l := []) (v := am_v ad v) ⟨h1, h2, fun q hq => by cases hq⟩ hi hc'
  refine ⟨ls', e, h4.1, h4.2.1, fun j w hw => ?_⟩
  rcases am_get_set _ i j _ w hw with ⟨rfl, hv⟩ | ⟨hj, hg⟩
  · cases hv
    exact h4.2.2 _ List.mem_cons_self
  · rcases am_get_set L (i + 1) j _ w hg with ⟨_, hv⟩ | ⟨hj2, hg2⟩
    · cases hv
    clear hg
    rename am_get L j = some w => hg
    obtain ⟨ls2, e2, h5⟩ := lv_store2 (l := [(j, am_v ad w)]) (v := am_v ad v) ⟨h1, h2, fun q hq => by
      rw [List.mem_singleton.mp hq]
      exact h3 j w hg⟩ hi hc'
    cases e.symm.trans e2
    refine h5.2.2 (j, am_v ad w) (List.mem_cons_of_mem _ (List.mem_filter.mpr ⟨List.mem_singleton.mpr rfl, ?_⟩))
    have hne : (j == i) = false := by simpa using hj
    have hne2 : (j == i + 1) = false := by simpa using hj2
    have h6 : (j + 1 == i && (am_v ad w).category == 2) = false := by
      by_cases e1 : j + 1 = i
      · subst e1
        have h7 : w.category = 1 := by
          have h8 : (match am_get L j with | some v => v.category == 1 | none => true) = true := hok
          rw [hg] at h8
          exact eq_of_beq h8
        simp [am_v_cat, h7]
      · simp [e1]
    simp [hne, hne2, h6]
def am_len : Instr → Nat
  | .iload _ => 2
  | .fload _ => 2
  | .lload _ => 2
  | .dload _ => 2
  | .aload _ => 2
  | .istore _ => 2
  | .fstore _ => 2
  | .lstore _ => 2
  | .dstore _ => 2
  | .astore _ => 2
  | .bipush _ => 2
  | .sipush _ => 3
  | .iinc _ _ => 3
  | .goto _ => 3
  | _ => 1
def am_ld (L : List (Option Value)) (st : List Value) (pc n i : Nat) (p : Value → Bool) : Option (Nat × List (Option Value) × List Value) := match am_get L i with
  | some v => if p v then some (pc + n, L, v :: st) else none
  | none => none
def am_isI : Value → Bool
  | .int _ => true
  | _ => false
def am_isL : Value → Bool
  | .long _ => true
  | _ => false
def am_isF : Value → Bool
  | .float _ => true
  | _ => false
def am_isD : Value → Bool
  | .double _ => true
  | _ => false
def am_isA : Value → Bool
  | .ref _ => true
  | _ => false
def am_s1 (nL : Nat) (L : List (Option Value)) (st : List Value) (pc n i : Nat) (p : Value → Bool) : Option (Nat × List (Option Value) × List Value) := match st with
  | v :: r => if p v && decide (i < nL) && am_ok1 L i then some (pc + n, L.set i (some v), r) else none
  | [] => none
def am_s2 (nL : Nat) (L : List (Option Value)) (st : List Value) (pc n i : Nat) (p : Value → Bool) : Option (Nat × List (Option Value) × List Value) := match st with
  | v :: r => if p v && decide (i + 1 < nL) && am_ok1 L i then some (pc + n, (L.set (i + 1) none).set i (some v), r) else none
  | [] => none
def am_b (L : List (Option Value)) (st : List Value) (pc : Nat) (f : Int32 → Int32 → Int32) : Option (Nat × List (Option Value) × List Value) := match st with
  | .int y :: .int x :: r => some (pc + 1, L, .int (f x y) :: r)
  | _ => none
def am_bl (L : List (Option Value)) (st : List Value) (pc : Nat) (f : Int64 → Int64 → Int64) : Option (Nat × List (Option Value) × List Value) := match st with
  | .long y :: .long x :: r => some (pc + 1, L, .long (f x y) :: r)
  | _ => none
def am_u (L : List (Option Value)) (st : List Value) (pc : Nat) (f : Int32 → Value) : Option (Nat × List (Option Value) × List Value) := match st with
  | .int x :: r => some (pc + 1, L, f x :: r)
  | _ => none
/-- one straight instruction -/
def am_i (nL : Nat) (i : Instr) (pc : Nat) (L : List (Option Value)) (st : List Value) : Option (Nat × List (Option Value) × List Value) := match i with
  | .iload_n k => am_ld L st pc 1 k.val am_isI
  | .iload k => am_ld L st pc 2 k am_isI
  | .fload_n k => am_ld L st pc 1 k.val am_isF
  | .fload k => am_ld L st pc 2 k am_isF
  | .lload_n k => am_ld L st pc 1 k.val am_isL
  | .lload k => am_ld L st pc 2 k am_isL
  | .dload_n k => am_ld L st pc 1 k.val am_isD
  | .dload k => am_ld L st pc 2 k am_isD
  | .aload_n k => am_ld L st pc 1 k.val am_isA
  | .aload k => am_ld L st pc 2 k am_isA
  | .istore_n k => am_s1 nL L st pc 1 k.val am_isI
  | .istore k => am_s1 nL L st pc 2 k am_isI
  | .fstore_n k => am_s1 nL L st pc 1 k.val am_isF
  | .fstore k => am_s1 nL L st pc 2 k am_isF
  | .astore_n k => am_s1 nL L st pc 1 k.val am_isA
  | .astore k => am_s1 nL L st pc 2 k am_isA
  | .lstore_n k => am_s2 nL L st pc 1 k.val am_isL
  | .lstore k => am_s2 nL L st pc 2 k am_isL
  | .dstore_n k => am_s2 nL L st pc 1 k.val am_isD
  | .dstore k => am_s2 nL L st pc 2 k am_isD
  | .iconst n => some (pc + 1, L, .int (Int32.ofInt n) :: st)
  | .bipush n => some (pc + 2, L, .int (Int8.ofInt n).toInt32 :: st)
  | .sipush n => some (pc + 3, L, .int (Int16.ofInt n).toInt32 :: st)
  | .lconst n => some (pc + 1, L, .long (Int64.ofNat (n : Nat)) :: st)
  | .iadd => am_b L st pc (fun x y => x + y)
  | .isub => am_b L st pc (fun x y => x - y)
  | .imul => am_b L st pc (fun x y => x * y)
  | .iand => am_b L st pc (fun x y => x &&& y)
  | .ior => am_b L st pc (fun x y => x ||| y)
  | .ixor => am_b L st pc (fun x y => x ^^^ y)
  | .ishl => am_b L st pc (fun x y => x <<< (y &&& 31))
  | .ishr => am_b L st pc (fun x y => x >>> (y &&& 31))
  | .iushr => am_b L st pc (fun x y => (x.toUInt32 >>> (y.toUInt32 &&& Int32.toUInt32 31)).toInt32)
  | .ladd => am_bl L st pc (fun x y => x + y)
  | .lmul => am_bl L st pc (fun x y => x * y)
  | .i2l => am_u L st pc (fun x => .long x.toInt64)
  | .i2c => am_u L st pc (fun x => .int (x.toUInt32 % 65536).toInt32)
  | .i2f => am_u L st pc (fun x => .float (FP.i2f x))
  | .i2d => am_u L st pc (fun x => .double (FP.i2d x))
  | .lcmp => match st with
    | .long y :: .long x :: r => some (pc + 1, L, .int (lg_cmp x y) :: r)
    | _ => none
  | .fcmp op => match st with
    | .float y :: .float x :: r => some (pc + 1, L, .int (Op.cmpValue (FP.fcmp x y) op) :: r)
    | _ => none
  | .dcmp op => match st with
    | .double y :: .double x :: r => some (pc + 1, L, .int (Op.cmpValue (FP.dcmp x y) op) :: r)
    | _ => none
  | .dup => match st with
    | v :: r => if v.category == 1 then some (pc + 1, L, v :: v :: r) else none
    | _ => none
  | .dup2 => match st with
    | v :: w :: r => if v.category == 1 && w.category == 1 then some (pc + 1, L, v :: w :: v :: w :: r) else none
    | _ => none
  | .pop => match st with
    | v :: r => if v.category == 1 then some (pc + 1, L, r) else none
    | _ => none
  | .goto off => if 0 ≤ (pc : Int) + off then some (((pc : Int) + off).toNat, L, st) else none
  | .iinc k n => match am_get L k with
    | some (.int x) => if decide (k < nL) && am_ok1 L k then some (pc + 3, L.set k (some (.int (x + Int32.ofInt n))), st) else none
    | _ => none
  | _ => none
theorem am_ld_ok {L st pc n i p pc' L' st'} (h : am_ld L st pc n i p = some (pc', L', st')) : ∃ v, am_get L i = some v ∧ p v = true ∧ pc' = pc + n ∧ L' = L ∧ st' = v :: st := by
  unfold am_ld at h
  cases hg : am_get L i with
  | none => rw [hg] at h; cases h
  | some v =>
    rw [hg] at h
    by_cases hp : p v = true
    · simp only [hp, if_true, Option.some.injEq, Prod.mk.injEq] at h
      exact ⟨v, rfl, hp, h.1.symm, h.2.1.symm, h.2.2.symm⟩
    · simp [hp] at h
theorem am_s1_ok {nL L st pc n i p pc' L' st'} (h : am_s1 nL L st pc n i p = some (pc', L', st')) : ∃ v, st = v :: st' ∧ p v = true ∧ i < nL ∧ am_ok1 L i = true ∧ pc' = pc + n ∧ L' = L.set i (some v) := by
  cases st with
  | nil => cases h
  | cons v r =>
    simp only [am_s1] at h
    by_cases hc : (p v && decide (i < nL) && am_ok1 L i) = true
    · rw [if_pos hc] at h
      simp only [Bool.and_eq_true, decide_eq_true_eq] at hc
      cases h
      exact ⟨v, rfl, hc.1.1, hc.1.2, hc.2, rfl, rfl⟩
    · rw [if_neg hc] at h
      cases h
theorem am_s2_ok {nL L st pc n i p pc' L' st'} (h : am_s2 nL L st pc n i p = some (pc', L', st')) : ∃ v, st = v :: st' ∧ p v = true ∧ i + 1 < nL ∧ am_ok1 L i = true ∧ pc' = pc + n ∧ L' = (L.set (i + 1) none).set i (some v) := by
  cases st with
  | nil => cases h
  | cons v r =>
    simp only [am_s2] at h
    by_cases hc : (p v && decide (i + 1 < nL) && am_ok1 L i) = true
    · rw [if_pos hc] at h
      simp only [Bool.and_eq_true, decide_eq_true_eq] at hc
      cases h
      exact ⟨v, rfl, hc.1.1, hc.1.2, hc.2, rfl, rfl⟩
    · rw [if_neg hc] at h
      cases h
theorem am_b_ok {L st pc f pc' L' st'} (h : am_b L st pc f = some (pc', L', st')) : ∃ x y r, st = .int y :: .int x :: r ∧ pc' = pc + 1 ∧ L' = L ∧ st' = .int (f x y) :: r := by
  unfold am_b at h
  split at h
  · cases h
    exact ⟨_, _, _, rfl, rfl, rfl, rfl⟩
  · cases h
theorem am_bl_ok {L st pc f pc' L' st'} (h : am_bl L st pc f = some (pc', L', st')) : ∃ x y r, st = .long y :: .long x :: r ∧ pc' = pc + 1 ∧ L' = L ∧ st' = .long (f x y) :: r := by
  unfold am_bl at h
  split at h
  · cases h
    exact ⟨_, _, _, rfl, rfl, rfl, rfl⟩
  · cases h
theorem am_u_ok {L st pc f pc' L' st'} (h : am_u L st pc f = some (pc', L', st')) : ∃ x r, st = .int x :: r ∧ pc' = pc + 1 ∧ L' = L ∧ st' = f x :: r := by
  unfold am_u at h
  split at h
  · cases h
    exact ⟨_, _, rfl, rfl, rfl, rfl⟩
  · cases h
theorem am_isI_ok {v : Value} (h : am_isI v = true) : ∃ x, v = .int x := by cases v <;> first | exact ⟨_, rfl⟩ | cases h
theorem am_isL_ok {v : Value} (h : am_isL v = true) : ∃ x, v = .long x := by cases v <;> first | exact ⟨_, rfl⟩ | cases h
theorem am_isF_ok {v : Value} (h : am_isF v = true) : ∃ x, v = .float x := by cases v <;> first | exact ⟨_, rfl⟩ | cases h
theorem am_isD_ok {v : Value} (h : am_isD v = true) : ∃ x, v = .double x := by cases v <;> first | exact ⟨_, rfl⟩ | cases h
theorem am_isA_ok {v : Value} (h : am_isA v = true) : ∃ x, v = .ref x := by cases v <;> first | exact ⟨_, rfl⟩ | cases h
end
section
section AMS
variable {p : Program} {l : Launch} {e : Env} {R : Room} {s : State} {m : MethodId} {args : Array Value} {below : List Frame} {meth : Method} {c : Code} {H : Heap} {locs : List Loc} {cells slots : Nat} {Q : State → Prop}
variable {cc : ByteArray} {ad : Nat → Nat} {nL pc pc' : Nat} {L L' : List (Option Value)} {st st' : List Value} {ls : Array Slot}
set_option maxHeartbeats 4000000 in
set_option maxRecDepth 100000 in
theorem am_i_ok {i : Instr} (hx : p.tables.exec = Jvm.exec) (hb : c.code = cc) (hdg : decode cc pc = .ok (i, am_len i)) (h : am_i nL i pc L st = some (pc', L', st')) (hl : am_l ad nL L ls)
    (k : ∀ ls' : Array Slot, am_l ad nL L' ls' → W p l e R s m args below meth c H locs cells slots Q (F0 m pc' ls' (st'.map (am_v ad)))) : W p l e R s m args below meth c H locs cells slots Q (F0 m pc ls (st.map (am_v ad))) := by
  cases i
  case iload_n n =>
    obtain ⟨v, hg, hp, rfl, rfl, rfl⟩ := am_ld_ok h
    obtain ⟨x, rfl⟩ := am_isI_ok hp
    exact lv_iload_n hx hb hdg rfl (hl.2.2 _ _ hg) (k ls hl)
  case iload n =>
    obtain ⟨v, hg, hp, rfl, rfl, rfl⟩ := am_ld_ok h
    obtain ⟨x, rfl⟩ := am_isI_ok hp
    exact lv_iload hx hb hdg (hl.2.2 _ _ hg) (k ls hl)
  case fload_n n =>
    obtain ⟨v, hg, hp, rfl, rfl, rfl⟩ := am_ld_ok h
    obtain ⟨x, rfl⟩ := am_isF_ok hp
    exact lv_fload_n hx hb hdg rfl (hl.2.2 _ _ hg) (k ls hl)
  case fload n =>
    obtain ⟨v, hg, hp, rfl, rfl, rfl⟩ := am_ld_ok h
    obtain ⟨x, rfl⟩ := am_isF_ok hp
    exact lv_fload hx hb hdg (hl.2.2 _ _ hg) (k ls hl)
  case lload_n n =>
    obtain ⟨v, hg, hp, rfl, rfl, rfl⟩ := am_ld_ok h
    obtain ⟨x, rfl⟩ := am_isL_ok hp
    exact lv_lload_n hx hb hdg rfl (hl.2.2 _ _ hg) (k ls hl)
  case lload n =>
    obtain ⟨v, hg, hp, rfl, rfl, rfl⟩ := am_ld_ok h
    obtain ⟨x, rfl⟩ := am_isL_ok hp
    exact lv_lload hx hb hdg (hl.2.2 _ _ hg) (k ls hl)
  case dload_n n =>
    obtain ⟨v, hg, hp, rfl, rfl, rfl⟩ := am_ld_ok h
    obtain ⟨x, rfl⟩ := am_isD_ok hp
    exact lv_dload_n hx hb hdg rfl (hl.2.2 _ _ hg) (k ls hl)
  case dload n =>
    obtain ⟨v, hg, hp, rfl, rfl, rfl⟩ := am_ld_ok h
    obtain ⟨x, rfl⟩ := am_isD_ok hp
    exact lv_dload hx hb hdg (hl.2.2 _ _ hg) (k ls hl)
  case aload_n n =>
    obtain ⟨v, hg, hp, rfl, rfl, rfl⟩ := am_ld_ok h
    obtain ⟨x, rfl⟩ := am_isA_ok hp
    exact lv_aload_n hx hb hdg rfl (hl.2.2 _ _ hg) (k ls hl)
  case aload n =>
    obtain ⟨v, hg, hp, rfl, rfl, rfl⟩ := am_ld_ok h
    obtain ⟨x, rfl⟩ := am_isA_ok hp
    exact lv_aload hx hb hdg (hl.2.2 _ _ hg) (k ls hl)
  case istore_n n =>
    obtain ⟨v, rfl, hp, hi, hok, rfl, rfl⟩ := am_s1_ok h
    obtain ⟨x, rfl⟩ := am_isI_ok hp
    obtain ⟨ls', e', h'⟩ := am_store1 (v := .int x) hl hi rfl hok
    have e' : storeLocals ls n.val (.int x) = some ls' := e'
    intro T hT X
    obtain ⟨t, a, b⟩ := k ls' h' T hT X
    refine ⟨t, ?_, b⟩
    show Steps p.tables e below (T.setTop (F0 m pc ls (.int x :: st'.map (am_v ad)))) t
    jvm_step X.here [X.here.top, ↓top_set X.here.top, hx, hb, hdg, e']
    exact a
  case istore n =>
    obtain ⟨v, rfl, hp, hi, hok, rfl, rfl⟩ := am_s1_ok h
    obtain ⟨x, rfl⟩ := am_isI_ok hp
    obtain ⟨ls', e', h'⟩ := am_store1 (v := .int x) hl hi rfl hok
    have e' : storeLocals ls n (.int x) = some ls' := e'
    intro T hT X
    obtain ⟨t, a, b⟩ := k ls' h' T hT X
    refine ⟨t, ?_, b⟩
    show Steps p.tables e below (T.setTop (F0 m pc ls (.int x :: st'.map (am_v ad)))) t
    jvm_step X.here [X.here.top, ↓top_set X.here.top, hx, hb, hdg, e']
    exact a
  case fstore_n n =>
    obtain ⟨v, rfl, hp, hi, hok, rfl, rfl⟩ := am_s1_ok h
    obtain ⟨x, rfl⟩ := am_isF_ok hp
    obtain ⟨ls', e', h'⟩ := am_store1 (v := .float x) hl hi rfl hok
    have e' : storeLocals ls n.val (.float x) = some ls' := e'
    intro T hT X
    obtain ⟨t, a, b⟩ := k ls' h' T hT X
    refine ⟨t, ?_, b⟩
    show Steps p.tables e below (T.setTop (F0 m pc ls (.float x :: st'.map (am_v ad)))) t
    jvm_step X.here [X.here.top, ↓top_set X.here.top, hx, hb, hdg, e', Op.fstore_n.sem]
    exact a
  case fstore n =>
    obtain ⟨v, rfl, hp, hi, hok, rfl, rfl⟩ := am_s1_ok h
    obtain ⟨x, rfl⟩ := am_isF_ok hp
    obtain ⟨ls', e', h'⟩ := am_store1 (v := .float x) hl hi rfl hok
    have e' : storeLocals ls n (.float x) = some ls' := e'
    intro T hT X
    obtain ⟨t, a, b⟩ := k ls' h' T hT X
    refine ⟨t, ?_, b⟩
    show Steps p.tables e below (T.setTop (F0 m pc ls (.float x :: st'.map (am_v ad)))) t
    jvm_step X.here [X.here.top, ↓top_set X.here.top, hx, hb, hdg, e', Op.fstore.sem]
    exact a
  case lstore_n n =>
    obtain ⟨v, rfl, hp, hi, hok, rfl, rfl⟩ := am_s2_ok h
    obtain ⟨x, rfl⟩ := am_isL_ok hp
    obtain ⟨ls', e', h'⟩ := am_store2 (v := .long x) hl hi rfl hok
    have e' : storeLocals ls n.val (.long x) = some ls' := e'
    intro T hT X
    obtain ⟨t, a, b⟩ := k ls' h' T hT X
    refine ⟨t, ?_, b⟩
    show Steps p.tables e below (T.setTop (F0 m pc ls (.long x :: st'.map (am_v ad)))) t
    jvm_step X.here [X.here.top, ↓top_set X.here.top, hx, hb, hdg, e']
    exact a
  case lstore n =>
    obtain ⟨v, rfl, hp, hi, hok, rfl, rfl⟩ := am_s2_ok h
    obtain ⟨x, rfl⟩ := am_isL_ok hp
    obtain ⟨ls', e', h'⟩ := am_store2 (v := .long x) hl hi rfl hok
    have e' : storeLocals ls n (.long x) = some ls' := e'
    intro T hT X
    obtain ⟨t, a, b⟩ := k ls' h' T hT X
    refine ⟨t, ?_, b⟩
    show Steps p.tables e below (T.setTop (F0 m pc ls (.long x :: st'.map (am_v ad)))) t
    jvm_step X.here [X.here.top, ↓top_set X.here.top, hx, hb, hdg, e']
    exact a
  case dstore_n n =>
    obtain ⟨v, rfl, hp, hi, hok, rfl, rfl⟩ := am_s2_ok h
    obtain ⟨x, rfl⟩ := am_isD_ok hp
    obtain ⟨ls', e', h'⟩ := am_store2 (v := .double x) hl hi rfl hok
    have e' : storeLocals ls n.val (.double x) = some ls' := e'
    intro T hT X
    obtain ⟨t, a, b⟩ := k ls' h' T hT X
    refine ⟨t, ?_, b⟩
    show Steps p.tables e below (T.setTop (F0 m pc ls (.double x :: st'.map (am_v ad)))) t
    jvm_step X.here [X.here.top, ↓top_set X.here.top, hx, hb, hdg, e', Op.dstore_n.sem]
    exact a
  case dstore n =>
    obtain ⟨v, rfl, hp, hi, hok, rfl, rfl⟩ := am_s2_ok h
    obtain ⟨x, rfl⟩ := am_isD_ok hp
    obtain ⟨ls', e', h'⟩ := am_store2 (v := .double x) hl hi rfl hok
    have e' : storeLocals ls n (.double x) = some ls' := e'
    intro T hT X
    obtain ⟨t, a, b⟩ := k ls' h' T hT X
    refine ⟨t, ?_, b⟩
    show Steps p.tables e below (T.setTop (F0 m pc ls (.double x :: st'.map (am_v ad)))) t
    jvm_step X.here [X.here.top, ↓top_set X.here.top, hx, hb, hdg, e', Op.dstore.sem]
    exact a
  case astore_n n =>
    obtain ⟨v, rfl, hp, hi, hok, rfl, rfl⟩ := am_s1_ok h
    obtain ⟨x, rfl⟩ := am_isA_ok hp
    obtain ⟨ls', e', h'⟩ := am_store1 (v := .ref x) hl hi rfl hok
    have e' : storeLocals ls n.val (.ref (ad x)) = some ls' := e'
    intro T hT X
    obtain ⟨t, a, b⟩ := k ls' h' T hT X
    refine ⟨t, ?_, b⟩
    show Steps p.tables e below (T.setTop (F0 m pc ls (.ref (ad x) :: st'.map (am_v ad)))) t
    jvm_step X.here [X.here.top, ↓top_set X.here.top, hx, hb, hdg, e', Value.isRef]
    exact a
  case astore n =>
    obtain ⟨v, rfl, hp, hi, hok, rfl, rfl⟩ := am_s1_ok h
    obtain ⟨x, rfl⟩ := am_isA_ok hp
    obtain ⟨ls', e', h'⟩ := am_store1 (v := .ref x) hl hi rfl hok
    have e' : storeLocals ls n (.ref (ad x)) = some ls' := e'
    intro T hT X
    obtain ⟨t, a, b⟩ := k ls' h' T hT X
    refine ⟨t, ?_, b⟩
    show Steps p.tables e below (T.setTop (F0 m pc ls (.ref (ad x) :: st'.map (am_v ad)))) t
    jvm_step X.here [X.here.top, ↓top_set X.here.top, hx, hb, hdg, e', Value.isRef]
    exact a
  case iconst n =>
    cases h
    exact lv_iconst hx hb hdg rfl (k ls hl)
  case bipush n =>
    cases h
    exact lv_bipush hx hb hdg rfl (k ls hl)
  case sipush n =>
    cases h
    exact lv_sipush hx hb hdg rfl (k ls hl)
  case lconst n =>
    cases h
    exact lv_lconst hx hb hdg rfl (k ls hl)
  case iadd =>
    obtain ⟨x, y, r, rfl, rfl, rfl, rfl⟩ := am_b_ok h
    exact lv_iadd hx hb hdg (k ls hl)
  case isub =>
    obtain ⟨x, y, r, rfl, rfl, rfl, rfl⟩ := am_b_ok h
    exact lv_isub hx hb hdg (k ls hl)
  case imul =>
    obtain ⟨x, y, r, rfl, rfl, rfl, rfl⟩ := am_b_ok h
    exact lv_imul hx hb hdg (k ls hl)
  case iand =>
    obtain ⟨x, y, r, rfl, rfl, rfl, rfl⟩ := am_b_ok h
    exact lv_iand hx hb hdg (k ls hl)
  case ior =>
    obtain ⟨x, y, r, rfl, rfl, rfl, rfl⟩ := am_b_ok h
    exact lv_ior hx hb hdg (k ls hl)
  case ixor =>
    obtain ⟨x, y, r, rfl, rfl, rfl, rfl⟩ := am_b_ok h
    exact lv_ixor hx hb hdg (k ls hl)
  case ishl =>
    obtain ⟨x, y, r, rfl, rfl, rfl, rfl⟩ := am_b_ok h
    exact lv_ishl hx hb hdg (k ls hl)
  case ishr =>
    obtain ⟨x, y, r, rfl, rfl, rfl, rfl⟩ := am_b_ok h
    exact lv_ishr hx hb hdg (k ls hl)
  case iushr =>
    obtain ⟨x, y, r, rfl, rfl, rfl, rfl⟩ := am_b_ok h
    exact lv_iushr hx hb hdg rfl (k ls hl)
  case ladd =>
    obtain ⟨x, y, r, rfl, rfl, rfl, rfl⟩ := am_bl_ok h
    exact lv_ladd hx hb hdg (k ls hl)
  case lmul =>
    obtain ⟨x, y, r, rfl, rfl, rfl, rfl⟩ := am_bl_ok h
    exact lv_lmul hx hb hdg (k ls hl)
  case i2l =>
    obtain ⟨x, r, rfl, rfl, rfl, rfl⟩ := am_u_ok h
    exact lv_i2l hx hb hdg rfl (k ls hl)
  case i2c =>
    obtain ⟨x, r, rfl, rfl, rfl, rfl⟩ := am_u_ok h
    exact lv_i2c hx hb hdg rfl (k ls hl)
  case i2f =>
    obtain ⟨x, r, rfl, rfl, rfl, rfl⟩ := am_u_ok h
    exact lv_i2f hx hb hdg (k ls hl)
  case i2d =>
    obtain ⟨x, r, rfl, rfl, rfl, rfl⟩ := am_u_ok h
    exact lv_i2d hx hb hdg (k ls hl)
  case lcmp =>
    simp only [am_i] at h
    split at h
    · cases h
      exact W.lcmp hx hb hdg (k ls hl)
    · cases h
  case fcmp op =>
    simp only [am_i] at h
    split at h
    · cases h
      exact lv_fcmp hx hb hdg (k ls hl)
    · cases h
  case dcmp op =>
    simp only [am_i] at h
    split at h
    · cases h
      exact lv_dcmp hx hb hdg (k ls hl)
    · cases h
  case dup =>
    simp only [am_i] at h
    split at h
    · rename_i v r
      by_cases hc : (v.category == 1) = true
      · rw [if_pos hc] at h
        cases h
        exact lv_dup hx hb hdg ((am_v_cat ad v).trans (eq_of_beq hc)) (k ls hl)
      · rw [if_neg hc] at h
        cases h
    · cases h
  case dup2 =>
    simp only [am_i] at h
    split at h
    · rename_i v w r
      by_cases hc : (v.category == 1 && w.category == 1) = true
      · rw [if_pos hc] at h
        simp only [Bool.and_eq_true] at hc
        cases h
        exact lv_dup2_11 hx hb hdg ((am_v_cat ad v).trans (eq_of_beq hc.1)) ((am_v_cat ad w).trans (eq_of_beq hc.2)) (k ls hl)
      · rw [if_neg hc] at h
        cases h
    · cases h
  case pop =>
    simp only [am_i] at h
    split at h
    · rename_i v r
      by_cases hc : (v.category == 1) = true
      · rw [if_pos hc] at h
        cases h
        exact lv_pop hx hb hdg ((am_v_cat ad v).trans (eq_of_beq hc)) (k ls hl)
      · rw [if_neg hc] at h
        cases h
    · cases h
  case goto off =>
    simp only [am_i] at h
    by_cases hc : 0 ≤ (pc : Int) + off
    · rw [if_pos hc] at h
      cases h
      exact lv_goto hx hb hdg (Int.toNat_of_nonneg hc).symm (k ls hl)
    · rw [if_neg hc] at h
      cases h
  case iinc q n =>
    simp only [am_i] at h
    split at h
    · rename_i x hg
      by_cases hc : (decide (q < nL) && am_ok1 L q) = true
      · rw [if_pos hc] at h
        simp only [Bool.and_eq_true, decide_eq_true_eq] at hc
        cases h
        obtain ⟨ls', e', h'⟩ := am_store1 (v := .int (x + Int32.ofInt n)) hl hc.1 rfl hc.2
        have e' : storeLocals ls q (.int (x + Int32.ofInt n)) = some ls' := e'
        have hg' : ls[q]? = some (.val (.int x)) := hl.2.2 q _ hg
        intro T hT X
        obtain ⟨t, a, b⟩ := k ls' h' T hT X
        refine ⟨t, ?_, b⟩
        jvm_step X.here [X.here.top, ↓top_set X.here.top, hx, hb, hdg, hg', e']
        exact a
      · rw [if_neg hc] at h
        cases h
    · cases h
  all_goals exact absurd (show (none : Option (Nat × List (Option Value) × List Value)) = some (pc', L', st') from h) (by intro q; cases q)
end AMS
end
section
/-! ===== AM2: the world as a table of numbers. V c k: what field k of the object c, or place k of the array c, holds; shapes and references are fixed ===== -/
/-- a cell's shape: an object (class number, for each field none: a number, some d: the object d), or an array (number of its class, length; numbers, floats (true), or references told by place and number) -/
abbrev am_Sh : Type := (Nat × List (Option Nat)) ⊕ (Nat × Nat × (Bool ⊕ (Nat → Int32 → Option Nat)))
def am_fv (ad : Nat → Nat) (x : Int32) : Option Nat → Value
  | none => .int x
  | some c => .ref (ad c)
/-- the same with cells' numbers for addresses -/
def am_fw (x : Int32) : Option Nat → Value
  | none => .int x
  | some c => .ref c
theorem am_fw_v (ad : Nat → Nat) (x : Int32) (o : Option Nat) : am_v ad (am_fw x o) = am_fv ad x o := by cases o <;> rfl
def am_fs (ad : Nat → Nat) (f : Nat → Int32) : Nat → List (Option Nat) → List Value
  | _, [] => []
  | j, o :: r => am_fv ad (f j) o :: am_fs ad f (j + 1) r
theorem am_fs_get (ad : Nat → Nat) (f : Nat → Int32) : ∀ (os : List (Option Nat)) (j k : Nat), (am_fs ad f j os)[k]? = (os[k]?).map (am_fv ad (f (j + k)))
  | [], _, _ => by simp [am_fs]
  | o :: r, j, 0 => by simp [am_fs]
  | o :: r, j, k + 1 => by
    simp only [am_fs, List.getElem?_cons_succ]
    rw [am_fs_get ad f r (j + 1) k, show j + 1 + k = j + (k + 1) by omega]
theorem am_fs_len (ad : Nat → Nat) (f : Nat → Int32) : ∀ (os : List (Option Nat)) (j : Nat), (am_fs ad f j os).length = os.length
  | [], _ => rfl
  | o :: r, j => by simp [am_fs, am_fs_len ad f r (j + 1)]
theorem am_fs_set {ad : Nat → Nat} {f : Nat → Int32} {os : List (Option Nat)} {k : Nat} (h : os[k]? = some none) (x : Int32) : (am_fs ad f 0 os).set k (.int x) = am_fs ad (upd f k x) 0 os := by
  apply List.ext_getElem?
  intro i
  rw [am_fs_get, List.getElem?_set, am_fs_len, am_fs_get]
  by_cases e : k = i
  · subst e
    have hl : k < os.length := (List.getElem?_eq_some_iff.mp h).1
    rw [if_pos rfl, if_pos hl, h]
    simp [am_fv, upd]
  · rw [if_neg e, Nat.zero_add]
    have : upd f k x i = f i := by simp [upd, Ne.symm e]
    rw [this]
def am_e (dA : Nat → ClassId) (ad : Nat → Nat) (f : Nat → Int32) : am_Sh → va_E
  | .inl (ci, os) => .inr (ci, am_fs ad f 0 os)
  | .inr (t, n, .inl false) => .inl (dA t, n, .inl f)
  | .inr (t, n, .inl true) => .inl (dA t, n, .inr (.inr (.inl (fun j => (f j).toUInt32))))
  | .inr (t, n, .inr g) => .inl (dA t, n, .inr (.inr (.inr (.inr (fun j => (g j (f j)).map ad)))))
abbrev am_V : Type := Nat → Nat → Int32
def am_set (V : am_V) (c k : Nat) (x : Int32) : am_V := fun d => if d = c then upd (V c) k x else V d
theorem am_set_at (V : am_V) (c k : Nat) (x : Int32) : am_set V c k x c = upd (V c) k x := if_pos rfl
theorem am_set_ne (V : am_V) {c d : Nat} (k : Nat) (x : Int32) (h : d ≠ c) : am_set V c k x d = V d := if_neg h
theorem am_set_get (V : am_V) (c k : Nat) (x : Int32) (d j : Nat) : am_set V c k x d j = if d = c ∧ j = k then x else V d j := by
  by_cases h : d = c
  · subst h
    rw [am_set_at]
    by_cases h2 : j = k <;> simp [upd, h2]
  · rw [am_set_ne _ _ _ h]
    simp [h]
/-- what is fixed for a claim: the classes, the words, the shapes, which cells may be written, the arrays' types -/
abbrev am_X : Type := List vw_C × List Cond × List Cond × (Nat → Option am_Sh) × (Nat → Bool) × (Nat → FieldType) × List (String × Nat × String) × List (String × String) × List (String × String × String × Value)
def am_cl (X : am_X) : List vw_C := X.1
def am_WS (X : am_X) : List Cond := X.2.1
def am_NS (X : am_X) : List Cond := X.2.2.1
def am_sh (X : am_X) : Nat → Option am_Sh := X.2.2.2.1
def am_wr (X : am_X) : Nat → Bool := X.2.2.2.2.1
def am_tA (X : am_X) : Nat → FieldType := X.2.2.2.2.2.1
def am_TS (X : am_X) : List (String × Nat × String) := X.2.2.2.2.2.2.1
def am_NC (X : am_X) : List (String × String) := X.2.2.2.2.2.2.2.1
def am_SF (X : am_X) : List (String × String × String × Value) := X.2.2.2.2.2.2.2.2
/-- the words that hold at every call: good ones, and links to nest mates -/
def am_words (X : am_X) : Prop := (∀ w ∈ am_WS X, (w.onTables && w.keeps) = true ∨ ∃ ty, w = .arrayClass ty) ∧ ∀ w ∈ am_NS X, (∃ (a : String) (i : Nat) (y : MethodName) (h : String), w = .methodLinkNest a i y h) ∨ (∃ (a : String) (i : Nat) (b n d h : String), w = .fieldLinkNest a i b n d h) ∨ (∃ a b : String, w = .castable a b) ∨ ∃ y : MethodName, w = .declares y
/-- what a run finds: the classes' numbers, the array classes', the addresses, the state at the law's start -/
abbrev am_U : Type := va_G × (Nat → ClassId) × (Nat → Nat) × State
def am_D (U : am_U) : va_G := U.1
def am_dA (U : am_U) : Nat → ClassId := U.2.1
def am_ad (U : am_U) : Nat → Nat := U.2.2.1
def am_s0 (U : am_U) : State := U.2.2.2
/-- a method's walk -/
abbrev am_G : Type := Launch × Program × Env × Room × State × MethodId × Array Value × List Frame × Method × Code
def am_gl (G : am_G) : Launch := G.1
def am_gp (G : am_G) : Program := G.2.1
def am_ge (G : am_G) : Env := G.2.2.1
def am_gR (G : am_G) : Room := G.2.2.2.1
def am_gs (G : am_G) : State := G.2.2.2.2.1
def am_gm (G : am_G) : MethodId := G.2.2.2.2.2.1
def am_ga (G : am_G) : Array Value := G.2.2.2.2.2.2.1
def am_gb (G : am_G) : List Frame := G.2.2.2.2.2.2.2.1
def am_gt (G : am_G) : Method := G.2.2.2.2.2.2.2.2.1
def am_gc (G : am_G) : Code := G.2.2.2.2.2.2.2.2.2
def am_H (X : am_X) (U : am_U) (V : am_V) (H : Heap) : Prop :=
  (∀ (c : Nat) (x : am_Sh), am_sh X c = some x → va_at (am_D U) (am_cl X) (am_ad U c, am_e (am_dA U) (am_ad U) (V c) x) H) ∧
  (am_s0 U).heap.size ≤ H.size ∧ ∀ q : Nat, q < (am_s0 U).heap.size → H[q]? = (am_s0 U).heap[q]?
def am_base (X : am_X) (U : am_U) : Prop :=
  (am_words X ∧ (∀ w ∈ am_NS X, va_Nw w (am_s0 U)) ∧ (∀ x ∈ am_TS X, ∃ a : Nat, vk_R x.1 x.2.1 x.2.2 a (am_s0 U)) ∧ (∀ x ∈ am_NC X, va_Nc x.1 x.2 (am_s0 U)) ∧
    vx_Zq Bundle.tN "UNASSIGNED_STACK" Bundle.steD (fun q => (am_s0 U).heap.size ≤ q) (am_s0 U) (am_s0 U).heap ∧ vx_Zq Bundle.tN "SUPPRESSED_SENTINEL" Bundle.listD (fun q => (am_s0 U).heap.size ≤ q) (am_s0 U) (am_s0 U).heap ∧
    ∀ x ∈ am_SF X, va_Z x.1 x.2.1 x.2.2.1 (am_v (am_ad U) x.2.2.2) (fun q => (am_s0 U).heap.size ≤ q) (am_s0 U) (am_s0 U).heap) ∧ va_K (am_D U) (am_cl X) [] (am_s0 U) ∧ (∀ t : Nat, t < 8 → ArrOfT (am_s0 U) (am_dA U t) (am_tA X t) ∧ va_RA (am_s0 U) (am_dA U t) (am_tA X t)) ∧
  (∀ (c d : Nat) (x y : am_Sh), am_sh X c = some x → am_sh X d = some y → am_wr X d = true → am_ad U c = am_ad U d → c = d) ∧
  (∀ (c : Nat) (x : am_Sh), am_sh X c = some x → am_wr X c = true → (am_s0 U).heap.size ≤ am_ad U c)
def am_ok (X : am_X) (U : am_U) (G : am_G) (own : String) (cc : ByteArray) (nL : Nat) : Prop :=
  (am_gp G).tables.exec = Jvm.exec ∧ (am_gc G).code = cc ∧ (am_gc G).maxLocals = nL ∧ (am_gs G).vm.findClass own = some (am_gm G).cls ∧ (∀ w ∈ am_WS X, w.before (am_ga G) (am_gs G) = true) ∧
  (am_s0 U).WarmedH (am_gs G).vm ∧ am_base X U ∧ (am_gt G).locks = false ∧ (am_gl G).stackTraces = false
def am_W (G : am_G) (H : Heap) (locs : List Loc) (kc ks : Nat) (Q : State → Prop) (g : JFrame) : Prop :=
  W (am_gp G) (am_gl G) (am_ge G) (am_gR G) (am_gs G) (am_gm G) (am_ga G) (am_gb G) (am_gt G) (am_gc G) H locs kc ks Q g
/-- the goal: from here, with these locals, this stack and this table, the machine comes to a state with Q -/
def AW (X : am_X) (U : am_U) (G : am_G) (nL kc ks : Nat) (V : am_V) (Q : State → Prop) (pc : Nat) (L : List (Option Value)) (st : List Value) : Prop :=
  ∀ (H : Heap) (locs : List Loc) (ls : Array Slot), am_H X U V H → (am_gs G).heap.size ≤ H.size → (∀ q ∈ locs, (am_s0 U).heap.size ≤ q.base) → am_l (am_ad U) nL L ls →
    am_W G H locs kc ks Q (F0 (am_gm G) pc ls (st.map (am_v (am_ad U))))
def am_dec (cc : ByteArray) (t : List (Nat × Instr × Nat)) : Prop := ∀ x ∈ t, decode cc x.1 = .ok (x.2.1, x.2.2)
def am_run (nL : Nat) : List (Nat × Instr × Nat) → Nat → List (Option Value) → List Value → Option (Nat × List (Option Value) × List Value)
  | [], pc, L, st => some (pc, L, st)
  | (q, i, n) :: r, pc, L, st => if (q == pc && n == am_len i) = true then (am_i nL i pc L st).bind (fun x => am_run nL r x.1 x.2.1 x.2.2) else none
section AMR
variable {X : am_X} {U : am_U} {G : am_G} {own : String} {cc : ByteArray} {nL kc ks pc pc' : Nat} {V : am_V} {Q : State → Prop} {L L' : List (Option Value)} {st st' : List Value}
theorem AW.step {i : Instr} {n : Nat} (ok : am_ok X U G own cc nL) (hdg : decode cc pc = .ok (i, n)) (hn : n = am_len i) (h : am_i nL i pc L st = some (pc', L', st')) (k : AW X U G nL kc ks V Q pc' L' st') : AW X U G nL kc ks V Q pc L st := by
  subst hn
  intro H locs ls hH hz hlo hl
  exact am_i_ok ok.1 ok.2.1 hdg h hl (fun ls' hl' => k H locs ls' hH hz hlo hl')
theorem AW.runs (ok : am_ok X U G own cc nL) : ∀ (t : List (Nat × Instr × Nat)), am_dec cc t → ∀ (pc : Nat) (L : List (Option Value)) (st : List Value), am_run nL t pc L st = some (pc', L', st') → AW X U G nL kc ks V Q pc' L' st' → AW X U G nL kc ks V Q pc L st
  | [], _, pc, L, st, h, k => by
    cases h
    exact k
  | (q, i, n) :: r, hd, pc, L, st, h, k => by
    simp only [am_run] at h
    by_cases hc : (q == pc && n == am_len i) = true
    · rw [if_pos hc] at h
      simp only [Bool.and_eq_true, beq_iff_eq] at hc
      cases hi : am_i nL i pc L st with
      | none => rw [hi] at h; cases h
      | some x =>
        obtain ⟨p1, L1, s1⟩ := x
        rw [hi] at h
        have hdg := hd (q, i, n) List.mem_cons_self
        rw [hc.1] at hdg
        exact AW.step ok hdg hc.2 hi (AW.runs ok r (fun x hx => hd x (List.mem_cons_of_mem _ hx)) p1 L1 s1 h k)
    · rw [if_neg hc] at h
      cases h
/-- a stretch of a method's table: n rows from the a-th on -/
theorem AW.run {t : List (Nat × Instr × Nat)} (ok : am_ok X U G own cc nL) (hd : am_dec cc t) (a n : Nat) (h : am_run nL ((t.drop a).take n) pc L st = some (pc', L', st')) (k : AW X U G nL kc ks V Q pc' L' st') : AW X U G nL kc ks V Q pc L st :=
  AW.runs ok _ (fun x hx => hd x (List.mem_of_mem_drop (List.mem_of_mem_take hx))) pc L st h k
/-- a row of the table -/
theorem am_at {t : List (Nat × Instr × Nat)} (hd : am_dec cc t) (a : Nat) {i : Instr} {n : Nat} (h : t[a]? = some (pc, i, n)) : decode cc pc = .ok (i, n) := hd (pc, i, n) (List.mem_of_getElem? h)
def am_cnd : Jvm.ClassFile.Cond → Int32 → Int32 → Prop
  | .eq, x, y => x = y
  | .ne, x, y => ¬ x = y
  | .lt, x, y => x < y
  | .ge, x, y => y ≤ x
  | .gt, x, y => y < x
  | .le, x, y => x ≤ y
theorem AW.icmp {cond : Jvm.ClassFile.Cond} {off : Int} {x y : Int32} (ok : am_ok X U G own cc nL) (tgt : Nat) (hdg : decode cc pc = .ok (.if_icmp cond off, 3)) (ht : (pc : Int) + off = (tgt : Int)) (kt : am_cnd cond x y → AW X U G nL kc ks V Q tgt L st) (kf : ¬ am_cnd cond x y → AW X U G nL kc ks V Q (pc + 3) L st) :
    AW X U G nL kc ks V Q pc L (.int y :: .int x :: st) := by
  intro H locs ls hH hz hlo hl
  have a1 := fun h => kt h H locs ls hH hz hlo hl
  have a2 := fun h => kf h H locs ls hH hz hlo hl
  cases cond
  · exact lv_icmp_eq ok.1 ok.2.1 hdg ht a1 a2
  · exact lv_icmp_ne ok.1 ok.2.1 hdg ht a1 (fun h => a2 (fun q => q h))
  · exact lv_icmp_lt ok.1 ok.2.1 hdg ht a1 a2
  · exact lv_icmp_ge ok.1 ok.2.1 hdg ht a1 a2
  · exact lv_icmp_gt ok.1 ok.2.1 hdg ht a1 a2
  · exact lv_icmp_le ok.1 ok.2.1 hdg ht a1 a2
theorem AW.ifc {cond : Jvm.ClassFile.Cond} {off : Int} {x : Int32} (ok : am_ok X U G own cc nL) (tgt : Nat) (hdg : decode cc pc = .ok (.ifCond cond off, 3)) (ht : (pc : Int) + off = (tgt : Int)) (kt : am_cnd cond x 0 → AW X U G nL kc ks V Q tgt L st) (kf : ¬ am_cnd cond x 0 → AW X U G nL kc ks V Q (pc + 3) L st) :
    AW X U G nL kc ks V Q pc L (.int x :: st) := by
  intro H locs ls hH hz hlo hl
  have a1 := fun h => kt h H locs ls hH hz hlo hl
  have a2 := fun h => kf h H locs ls hH hz hlo hl
  cases cond
  · exact lv_if_eq ok.1 ok.2.1 hdg ht a1 a2
  · exact lv_if_ne ok.1 ok.2.1 hdg ht a1 (fun h => a2 (fun q => q h))
  · exact lv_if_lt ok.1 ok.2.1 hdg ht a1 a2
  · exact lv_if_ge ok.1 ok.2.1 hdg ht a1 a2
  · exact lv_if_gt ok.1 ok.2.1 hdg ht a1 a2
  · exact lv_if_le ok.1 ok.2.1 hdg ht a1 a2
end AMR
end
section
/-! ===== AM3: fields and arrays ===== -/
theorem am_one {D : va_G} {cl : List vw_C} {q : Nat × va_E} {H : Heap} (h : va_at D cl q H) : va_P D cl [q] H := by
  intro k x hx
  have hl : k < 1 := (List.getElem?_eq_some_iff.mp hx).1
  rw [show k = 0 by omega] at hx
  cases hx
  exact h
/-- a read of a field, by the pool's entry: class ci, field k -/
def am_gf (X : am_X) (own : String) (index ci k : Nat) : Prop := ∃ (C : String) (T : u_T) (N : Nat), (am_cl X)[ci]? = some (C, T, N) ∧ (∀ w ∈ u_ws C T N, w ∈ am_WS X) ∧ k < N ∧ Cond.fieldLink own index (T k).1 (T k).2.1 (T k).2.2.1 ∈ am_WS X
/-- .. and a write of a number, of type ty, the field not final -/
def am_pf (X : am_X) (own : String) (index ci k : Nat) (ty : FieldType) : Prop := ∃ (C : String) (T : u_T) (N : Nat) (ty0 : Nat → FieldType), (am_cl X)[ci]? = some (C, T, N) ∧ (∀ w ∈ u_ws C T N, w ∈ am_WS X) ∧ k < N ∧ Cond.fieldLink own index (T k).1 (T k).2.1 (T k).2.2.1 ∈ am_WS X ∧
  (∀ k, k < N → parseFieldDescriptor (T k).2.2.1 = some (ty0 k)) ∧ (∀ a, a < N → ∀ b, b < N → a ≠ b → (T a).2.1 ≠ (T b).2.1) ∧ (T k).2.2.2 = false ∧ parseFieldDescriptor (T k).2.2.1 = some ty
section AMH
variable {X : am_X} {U : am_U} {G : am_G} {own : String} {cc : ByteArray} {nL kc ks pc pc' : Nat} {V : am_V} {Q : State → Prop} {L L' : List (Option Value)} {st st' : List Value}
theorem am_ok.K (ok : am_ok X U G own cc nL) : va_K (am_D U) (am_cl X) [] (am_gs G) := va_K.moved ok.2.2.2.2.2.1.alike ok.2.2.2.2.2.2.1.2.1
theorem am_ok.A (ok : am_ok X U G own cc nL) {t : Nat} (ht : t < 8) : ArrOfT (am_gs G) (am_dA U t) (am_tA X t) := arrOfT_moved ok.2.2.2.2.2.1.alike (ok.2.2.2.2.2.2.1.2.2.1 t ht).1
theorem am_ok.RA (ok : am_ok X U G own cc nL) {t : Nat} (ht : t < 8) : va_RA (am_gs G) (am_dA U t) (am_tA X t) := (ok.2.2.2.2.2.2.1.2.2.1 t ht).2.moved ok.2.2.2.2.2.1.alike
theorem AW.getf {c ci k index : Nat} {os : List (Option Nat)} {o : Option Nat} (ok : am_ok X U G own cc nL) (hf : am_gf X own index ci k) (hsh : am_sh X c = some (.inl (ci, os))) (ho : os[k]? = some o) (hdg : decode cc pc = .ok (.getfield index, 3))
    (kk : AW X U G nL kc ks V Q (pc + 3) L (am_fw (V c k) o :: st)) : AW X U G nL kc ks V Q pc L (.ref c :: st) := by
  intro H locs ls hH hz hlo hl
  obtain ⟨C, T, N, hc, hin, hk, hlink⟩ := hf
  have hP := am_one (hH.1 c _ hsh)
  have hv : (am_fs (am_ad U) (V c) 0 os)[k]? = some (am_fv (am_ad U) (V c k) o) := by rw [am_fs_get, ho, Nat.zero_add]; rfl
  have k2 := kk H locs ls hH hz hlo hl
  rw [List.map_cons, am_fw_v] at k2
  exact va_get (D := am_D U) (ci := ci) (C := C) (T := T) (N := N) (ws := [(am_ad U c, am_e (am_dA U) (am_ad U) (V c) (.inl (ci, os)))]) ok.1 ok.2.1 ok.2.2.2.2.1 hin ok.2.2.2.1 (am_ok.K ok) hP 0 rfl hc k hk (ok.2.2.2.2.1 _ hlink) (fun _ h9 => h9) hv hdg k2
theorem am_H.put {H H1 : Heap} {c : Nat} {x : am_Sh} {f : Nat → Int32} {V1 : am_V} (hb : am_base X U) (hH : am_H X U V H) (hx : am_sh X c = some x) (hw : am_wr X c = true) (hV : V1 c = f) (hV2 : ∀ d, d ≠ c → V1 d = V d)
    (he : va_at (am_D U) (am_cl X) (am_ad U c, am_e (am_dA U) (am_ad U) f x) H1) (hz : H1.size = H.size) (oq : ∀ q, q ≠ am_ad U c → H1[q]? = H[q]?) : am_H X U V1 H1 := by
  refine ⟨fun d y hy => ?_, by rw [hz]; exact hH.2.1, fun q hq => ?_⟩
  · by_cases e : d = c
    · subst e
      cases hx.symm.trans hy
      rw [hV]
      exact he
    · rw [hV2 d e]
      exact (hH.1 d y hy).kept (oq _ (fun q => e (hb.2.2.2.1 d c y x hy hx hw q)))
  · have h1 := hb.2.2.2.2 c x hx hw
    rw [oq q (by omega)]
    exact hH.2.2 q hq
theorem am_locs {locs : List Loc} {a i N0 : Nat} (h : ∀ q ∈ locs, N0 ≤ q.base) (ha : N0 ≤ a) : ∀ q ∈ locs ++ [(⟨a, i⟩ : Loc)], N0 ≤ q.base := by
  intro q hq
  rcases List.mem_append.mp hq with h1 | h1
  · exact h q h1
  · rw [List.mem_singleton.mp h1]
    exact ha
theorem AW.putf {c ci k index : Nat} {os : List (Option Nat)} {ty : FieldType} {x : Int32} (ok : am_ok X U G own cc nL) (hf : am_pf X own index ci k ty) (hsh : am_sh X c = some (.inl (ci, os))) (hw : am_wr X c = true) (ho : os[k]? = some none) (hn : narrow ty (.int x) = .int x) (hfit : fits ty (.int x) = true) (hdg : decode cc pc = .ok (.putfield index, 3))
    (kk : AW X U G nL kc ks (am_set V c k x) Q (pc + 3) L st) : AW X U G nL kc ks V Q pc L (.int x :: .ref c :: st) := by
  intro H locs ls hH hz hlo hl
  obtain ⟨C, T, N, ty0, hc, hin, hk, hlink, hty, hnm, hfin, hd⟩ := hf
  have hts := ok.2.2.2.2.1
  have hown := ok.2.2.2.1
  have hK := am_ok.K ok
  have hap := va_apart (own := own) hts hin ty0 hty hnm hK hc
  obtain ⟨r, h1, cell, q1, q2, q3, q4⟩ := hH.1 c _ hsh
  have hr : r = (C, T, N) := Option.some.inj (h1.symm.trans hc)
  subst hr
  obtain ⟨hS, hfc, kC, hkC, hkind⟩ := hK.1 ci _ hc
  obtain ⟨cf, kf, fi, f, hi, hsl⟩ := hS k hk
  have hlay := hts _ (hin _ (u_in_lay hk))
  unfold u_lay at hlay
  rw [if_neg (by rw [hfin]; decide)] at hlay
  have hst := (u_facts hfc hkC (u_lays hts hin hk) hi).1
  have h6 := u_store hfc hkC hkind hlay hi hd hn hfit
  have hle : k < (am_fs (am_ad U) (V c) 0 os).length := by rw [am_fs_len]; exact (List.getElem?_eq_some_iff.mp ho).1
  refine W.putK ok.1 ok.2.1 (f := f) ⟨hown, hts _ hlink, ⟨_, _, _, hi⟩, hst⟩ (by rw [q2]; exact h6) q1 q3 (by rw [hsl]; exact k2_hasslot (q4 k hk)) rfl rfl hdg fun H' e1 e2 e3 => ?_
  rw [hsl] at e1 ⊢
  have hat : va_at (am_D U) (am_cl X) (am_ad U c, am_e (am_dA U) (am_ad U) (upd (V c) k x) (.inl (ci, os))) H' := by
    refine ⟨_, hc, ?_⟩
    show t_OB (am_ad U c) _ _ _ H' (vp_V (am_fs (am_ad U) (upd (V c) k x) 0 os))
    rw [← am_fs_set ho x]
    exact t_OB.to (V := updV (vp_V (am_fs (am_ad U) (V c) 0 os)) k (.int x)) ⟨_, e1, q2, q3, t_set q4 hap hk (.int x)⟩ (fun j _ => vp_updV_set hle (.int x) j)
  exact kk H' _ ls (am_H.put ok.2.2.2.2.2.2.1 hH hsh hw (am_set_at V c k x) (fun d hd => am_set_ne V k x hd) hat e2 e3) (by rw [e2]; exact hz) (am_locs hlo (ok.2.2.2.2.2.2.1.2.2.2.2 c _ hsh hw)) hl
theorem AW.iald {c t n : Nat} {i : Int32} (ok : am_ok X U G own cc nL) (hsh : am_sh X c = some (.inr (t, n, .inl false))) (ht : t < 8) (hty : am_tA X t = .int) (hin : vp_in i n) (hdg : decode cc pc = .ok (.iaload, 1))
    (kk : AW X U G nL kc ks V Q (pc + 1) L (.int (V c i.toNatClampNeg) :: st)) : AW X U G nL kc ks V Q pc L (.int i :: .ref c :: st) := by
  intro H locs ls hH hz hlo hl
  have hA := am_ok.A ok ht
  rw [hty] at hA
  have hlt : i.toNatClampNeg < n := Nat.not_le.mp fun q => hin (Or.inr q)
  exact W.iald (v := .int (V c i.toNatClampNeg)) ok.1 ok.2.1 (hH.1 c _ hsh) (hA n (fun j => .int (V c j))) (fun q => by cases q) (by show ¬ (i < 0 ∨ (arrV _ _ _).slots.size ≤ _); rw [arrV_size]; exact hin) (by show (arrV _ _ _).slots[_]? = _; rw [arrV_read _ _ hlt]) rfl rfl hdg (kk H locs ls hH hz hlo hl)
theorem AW.cald {c t n : Nat} {i : Int32} (ok : am_ok X U G own cc nL) (hsh : am_sh X c = some (.inr (t, n, .inl false))) (ht : t < 8) (hty : am_tA X t = .char) (hin : vp_in i n) (hdg : decode cc pc = .ok (.caload, 1))
    (kk : AW X U G nL kc ks V Q (pc + 1) L (.int (V c i.toNatClampNeg) :: st)) : AW X U G nL kc ks V Q pc L (.int i :: .ref c :: st) := by
  intro H locs ls hH hz hlo hl
  have hA := am_ok.A ok ht
  rw [hty] at hA
  have hlt : i.toNatClampNeg < n := Nat.not_le.mp fun q => hin (Or.inr q)
  exact W.cald (v := .int (V c i.toNatClampNeg)) ok.1 ok.2.1 (hH.1 c _ hsh) (hA n (fun j => .int (V c j))) (fun q => by cases q) (by show ¬ (i < 0 ∨ (arrV _ _ _).slots.size ≤ _); rw [arrV_size]; exact hin) (by show (arrV _ _ _).slots[_]? = _; rw [arrV_read _ _ hlt]) rfl rfl hdg (kk H locs ls hH hz hlo hl)
theorem AW.fald {c t n : Nat} {i : Int32} (ok : am_ok X U G own cc nL) (hsh : am_sh X c = some (.inr (t, n, .inl true))) (ht : t < 8) (hty : am_tA X t = .float) (hin : vp_in i n) (hdg : decode cc pc = .ok (.faload, 1))
    (kk : AW X U G nL kc ks V Q (pc + 1) L (.float (V c i.toNatClampNeg).toUInt32 :: st)) : AW X U G nL kc ks V Q pc L (.int i :: .ref c :: st) := by
  intro H locs ls hH hz hlo hl
  have hA := am_ok.A ok ht
  rw [hty] at hA
  have hlt : i.toNatClampNeg < n := Nat.not_le.mp fun q => hin (Or.inr q)
  exact W.fald (v := .float (V c i.toNatClampNeg).toUInt32) ok.1 ok.2.1 (hH.1 c _ hsh) (hA n (fun j => .float (V c j).toUInt32)) (fun q => by cases q) (by show ¬ (i < 0 ∨ (arrV _ _ _).slots.size ≤ _); rw [arrV_size]; exact hin) (by show (arrV _ _ _).slots[_]? = _; rw [arrV_read _ _ hlt]) rfl rfl hdg (kk H locs ls hH hz hlo hl)
/-- a reference out of an array of references, not null -/
theorem AW.aald {c t n d : Nat} {i : Int32} {g : Nat → Int32 → Option Nat} {C : FieldType} (ok : am_ok X U G own cc nL) (hsh : am_sh X c = some (.inr (t, n, .inr g))) (ht : t < 8) (hty : am_tA X t = C) (hC : C.isReference = true) (hin : vp_in i n) (hg : g i.toNatClampNeg (V c i.toNatClampNeg) = some d) (hdg : decode cc pc = .ok (.aaload, 1))
    (kk : AW X U G nL kc ks V Q (pc + 1) L (.ref d :: st)) : AW X U G nL kc ks V Q pc L (.int i :: .ref c :: st) := by
  intro H locs ls hH hz hlo hl
  have hA := am_ok.A ok ht
  rw [hty] at hA
  have hlt : i.toNatClampNeg < n := Nat.not_le.mp fun q => hin (Or.inr q)
  exact W.aald (v := .ref (am_ad U d)) (ty := C) ok.1 ok.2.1 (hH.1 c _ hsh) (hA n (fun j => va_rf ((g j (V c j)).map (am_ad U)))) hC (fun q => by cases q) (by show ¬ (i < 0 ∨ (arrV _ _ _).slots.size ≤ _); rw [arrV_size]; exact hin) (by show (arrV _ _ _).slots[_]? = _; rw [arrV_read _ _ hlt]; show some (va_rf ((g i.toNatClampNeg (V c i.toNatClampNeg)).map (am_ad U))) = _; rw [hg]; rfl) rfl rfl hdg (kk H locs ls hH hz hlo hl)
theorem AW.iast {c t n : Nat} {i x : Int32} (ok : am_ok X U G own cc nL) (hsh : am_sh X c = some (.inr (t, n, .inl false))) (hw : am_wr X c = true) (ht : t < 8) (hty : am_tA X t = .int) (hin : vp_in i n) (hdg : decode cc pc = .ok (.iastore, 1))
    (kk : AW X U G nL kc ks (am_set V c i.toNatClampNeg x) Q (pc + 1) L st) : AW X U G nL kc ks V Q pc L (.int x :: .int i :: .ref c :: st) := by
  intro H locs ls hH hz hlo hl
  have hA := am_ok.A ok ht
  rw [hty] at hA
  refine W.iast ok.1 ok.2.1 (hH.1 c _ hsh) (hA n (fun j => .int (V c j))) (fun q => by cases q) (by show ¬ (i < 0 ∨ (arrV _ _ _).slots.size ≤ _); rw [arrV_size]; exact hin) rfl rfl hdg fun H1 e z oq => ?_
  have hat : va_at (am_D U) (am_cl X) (am_ad U c, am_e (am_dA U) (am_ad U) (upd (V c) i.toNatClampNeg x) (.inr (t, n, .inl false))) H1 := by
    show H1[am_ad U c]? = some (vp_cell (am_dA U t) (n, .inl (upd (V c) i.toNatClampNeg x)))
    have e : H1[am_ad U c]? = some ((vp_cell (am_dA U t) (n, .inl (V c))).setSlot i.toNatClampNeg (.int x)) := e
    rw [e, vp_cell_i, vp_cell_i, arrV_store]
    congr 2
    funext q
    by_cases hq : q = i.toNatClampNeg
    · subst hq
      simp [updV, upd]
    · simp [updV, upd, hq]
  exact kk H1 _ ls (am_H.put ok.2.2.2.2.2.2.1 hH hsh hw (am_set_at V c _ x) (fun d hd => am_set_ne V _ x hd) hat z oq) (by rw [z]; exact hz) (am_locs hlo (ok.2.2.2.2.2.2.1.2.2.2.2 c _ hsh hw)) hl
theorem AW.cast {c t n : Nat} {i x : Int32} (ok : am_ok X U G own cc nL) (hsh : am_sh X c = some (.inr (t, n, .inl false))) (hw : am_wr X c = true) (ht : t < 8) (hty : am_tA X t = .char) (hin : vp_in i n) (hx : narrow .char (.int x) = .int x) (hdg : decode cc pc = .ok (.castore, 1))
    (kk : AW X U G nL kc ks (am_set V c i.toNatClampNeg x) Q (pc + 1) L st) : AW X U G nL kc ks V Q pc L (.int x :: .int i :: .ref c :: st) := by
  intro H locs ls hH hz hlo hl
  have hA := am_ok.A ok ht
  rw [hty] at hA
  refine W.cast ok.1 ok.2.1 (hH.1 c _ hsh) (hA n (fun j => .int (V c j))) (fun q => by cases q) (by show ¬ (i < 0 ∨ (arrV _ _ _).slots.size ≤ _); rw [arrV_size]; exact hin) rfl rfl hdg fun H1 e z oq => ?_
  rw [hx] at e
  have hat : va_at (am_D U) (am_cl X) (am_ad U c, am_e (am_dA U) (am_ad U) (upd (V c) i.toNatClampNeg x) (.inr (t, n, .inl false))) H1 := by
    show H1[am_ad U c]? = some (vp_cell (am_dA U t) (n, .inl (upd (V c) i.toNatClampNeg x)))
    have e : H1[am_ad U c]? = some ((vp_cell (am_dA U t) (n, .inl (V c))).setSlot i.toNatClampNeg (.int x)) := e
    rw [e, vp_cell_i, vp_cell_i, arrV_store]
    congr 2
    funext q
    by_cases hq : q = i.toNatClampNeg
    · subst hq
      simp [updV, upd]
    · simp [updV, upd, hq]
  exact kk H1 _ ls (am_H.put ok.2.2.2.2.2.2.1 hH hsh hw (am_set_at V c _ x) (fun d hd => am_set_ne V _ x hd) hat z oq) (by rw [z]; exact hz) (am_locs hlo (ok.2.2.2.2.2.2.1.2.2.2.2 c _ hsh hw)) hl
theorem AW.fast {c t n : Nat} {i : Int32} {x : UInt32} (ok : am_ok X U G own cc nL) (hsh : am_sh X c = some (.inr (t, n, .inl true))) (hw : am_wr X c = true) (ht : t < 8) (hty : am_tA X t = .float) (hin : vp_in i n) (hdg : decode cc pc = .ok (.fastore, 1))
    (kk : AW X U G nL kc ks (am_set V c i.toNatClampNeg x.toInt32) Q (pc + 1) L st) : AW X U G nL kc ks V Q pc L (.float x :: .int i :: .ref c :: st) := by
  intro H locs ls hH hz hlo hl
  have hA := am_ok.A ok ht
  rw [hty] at hA
  refine W.fast ok.1 ok.2.1 (hH.1 c _ hsh) (hA n (fun j => .float (V c j).toUInt32)) (fun q => by cases q) (by show ¬ (i < 0 ∨ (arrV _ _ _).slots.size ≤ _); rw [arrV_size]; exact hin) rfl rfl hdg fun H1 e z oq => ?_
  have hat : va_at (am_D U) (am_cl X) (am_ad U c, am_e (am_dA U) (am_ad U) (upd (V c) i.toNatClampNeg x.toInt32) (.inr (t, n, .inl true))) H1 := by
    show H1[am_ad U c]? = some (vp_cell (am_dA U t) (n, .inr (.inr (.inl (fun j => (upd (V c) i.toNatClampNeg x.toInt32 j).toUInt32)))))
    have e : H1[am_ad U c]? = some ((vp_cell (am_dA U t) (n, .inr (.inr (.inl (fun j => (V c j).toUInt32))))).setSlot i.toNatClampNeg (.float x)) := e
    rw [e, vp_cell_f, vp_cell_f, arrV_store]
    congr 2
    funext q
    by_cases hq : q = i.toNatClampNeg
    · subst hq
      simp [updV, upd]
    · simp [updV, upd, hq]
  exact kk H1 _ ls (am_H.put ok.2.2.2.2.2.2.1 hH hsh hw (am_set_at V c _ _) (fun d hd => am_set_ne V _ _ hd) hat z oq) (by rw [z]; exact hz) (am_locs hlo (ok.2.2.2.2.2.2.1.2.2.2.2 c _ hsh hw)) hl
end AMH
end
section
/-! ===== AM4: contracts, calls, ends ===== -/
def am_St (X : am_X) (U : am_U) (V : am_V) (S : State) : Prop := am_H X U V S.heap ∧ (am_s0 U).WarmedH S.vm
/-- what a method's end owes: an answer, or the class of an exception, and the table behind it -/
abbrev am_P : Type := (Option Value ⊕ String) → am_V → Prop
def am_is (res : Option Value ⊕ String) (V : am_V) : am_P := fun x W => x = res ∧ W = V
def am_Qc (X : am_X) (U : am_U) (P : am_P) : Array Value → State → Outcome → State → Prop := fun _ st o t => ∃ (r : Option Value) (V : am_V), P (.inl r) V ∧ o = .returned (r.map (am_v (am_ad U))) ∧ am_H X U V t.heap ∧ st.heap.size ≤ t.heap.size
def am_XC (X : am_X) (U : am_U) (P : am_P) : String → State → State → Prop := fun E st t => ∃ V : am_V, P (.inr E) V ∧ am_H X U V t.heap ∧ st.heap.size ≤ t.heap.size
def am_fr (U : am_U) : Addr → Prop := fun q => (am_s0 U).heap.size ≤ q
/-- the contract of a method at these arguments and this table: it comes to an end with P -/
def am_Ct (X : am_X) (U : am_U) (l : Launch) (y : MethodName) (b : ByteArray) (nL : Nat) (ret : Option FieldType) (rm : Room) (As : List Value) (V : am_V) (P : am_P) : Prop :=
  vx_Met l y (Cond.code y b nL ret :: am_WS X) rm (fun v S => v = (As.map (am_v (am_ad U))).toArray ∧ am_St X U V S) (am_Qc X U P) (am_XC X U P) rm.cells rm.slots (am_fr U)
def am_End (X : am_X) (U : am_U) (G : am_G) (rm : Room) (P : am_P) : State → Prop :=
  vx_MQ (am_gb G) (am_Qc X U P) (am_XC X U P) (am_ga G) (am_gs G) rm.cells rm.slots (am_fr U)
/-- the heap at the walk's start holds the world too: what stood before the law stands -/
def am_st0 (U : am_U) (G : am_G) : Prop := (am_s0 U).heap.size ≤ (am_gs G).heap.size ∧ ∀ q : Nat, q < (am_s0 U).heap.size → (am_gs G).heap[q]? = (am_s0 U).heap[q]?
def am_L0 : Nat → List Value → List (Option Value)
  | n, [] => List.replicate n none
  | n, v :: r => if (v.category == 2) = true then some v :: none :: am_L0 (n - 2) r else some v :: am_L0 (n - 1) r
theorem am_rep (n i : Nat) (v : Value) (h : am_get (List.replicate n none) i = some v) : False := by
  unfold am_get at h
  rw [List.getElem?_replicate] at h
  by_cases e : i < n
  · rw [if_pos e] at h
    cases h
  · rw [if_neg e] at h
    cases h
theorem am_args (ad : Nat → Nat) : ∀ (As : List Value) (n j i : Nat) (v : Value), am_get (am_L0 n As) i = some v → (j + i, am_v ad v) ∈ lv_args j (As.map (am_v ad))
  | [], n, j, i, v, h => (am_rep n i v h).elim
  | w :: r, n, j, i, v, h => by
    simp only [am_L0] at h
    simp only [List.map_cons, lv_args, am_v_cat]
    by_cases hc : w.category = 2
    · rw [if_pos (by simp [hc])] at h
      rw [if_pos hc]
      match i, h with
      | 0, h =>
        cases h
        exact List.mem_cons_self
      | 1, h => cases h
      | i + 2, h =>
        have := am_args ad r (n - 2) (j + 2) i v h
        rw [show j + 2 + i = j + (i + 2) by omega] at this
        exact List.mem_cons_of_mem _ this
    · rw [if_neg (by simp [hc])] at h
      rw [if_neg hc]
      match i, h with
      | 0, h =>
        cases h
        exact List.mem_cons_self
      | i + 1, h =>
        have := am_args ad r (n - 1) (j + 1) i v h
        rw [show j + 1 + i = j + (i + 1) by omega] at this
        exact List.mem_cons_of_mem _ this
theorem am_sl (ad : Nat → Nat) : ∀ As : List Value, (lg_sl (As.map (am_v ad))).length = (As.map Value.category).sum
  | [] => rfl
  | v :: r => by
    have h := am_sl ad r
    unfold lg_sl at h ⊢
    rw [List.map_cons, List.flatMap_cons, List.length_append, h, am_v_cat, List.map_cons, List.sum_cons]
    rcases lv_cat v with e | e <;> simp [e]
theorem am_NS_moved {X : am_X} {U : am_U} {S : State} (hb : am_base X U) (hW : (am_s0 U).WarmedH S.vm) {w : Cond} (hw : w ∈ am_NS X) : va_Nw w S := by
  rcases hb.1.1.2 w hw with ⟨a, i, y, h, rfl⟩ | ⟨a, i, b, n, d, h, rfl⟩ | ⟨a, b, rfl⟩ | ⟨y, rfl⟩
  · exact va_Nw.warmM hW (hb.1.2.1 _ hw)
  · exact va_Nw.warmF hW (hb.1.2.1 _ hw)
  · exact va_Nw.warmC hW (hb.1.2.1 _ hw)
  · exact va_Nw.warmD hW (hb.1.2.1 _ hw)
theorem am_NS_on {X : am_X} {U : am_U} (hb : am_base X U) {w : Cond} (hw : w ∈ am_NS X) : w.onTables = true := by
  rcases hb.1.1.2 w hw with ⟨a, i, y, h, rfl⟩ | ⟨a, i, b, n, d, h, rfl⟩ | ⟨a, b, rfl⟩ | ⟨y, rfl⟩ <;> rfl
set_option maxHeartbeats 4000000 in
/-- a contract by a walk of the body -/
theorem am_Ct.of {X : am_X} {U : am_U} {l : Launch} {y : MethodName} {b : ByteArray} {nL : Nat} {ret : Option FieldType} {rm : Room} {As : List Value} {V : am_V} {P : am_P} (hb : am_base X U) (hfl : l.stackTraces = false) (hy : plainName y.cls = true) (hlen : (As.map Value.category).sum ≤ nL)
    (body : ∀ G : am_G, am_gl G = l → am_gR G = rm → (am_gt G).sig.returnType = ret → am_ok X U G y.cls b nL → am_st0 U G → (∀ x ∈ (am_gc G).exceptionTable.toList, False) → AW X U G nL 0 0 V (am_End X U G rm P) 0 (am_L0 nL As) []) : am_Ct X U l y b nL ret rm As V P := by
  refine vx_ofW (cc := b) (maxL := nL) (ret := ret) hy rfl ?_
  intro p e s m args below meth c s₁ B hml hex hv
  obtain ⟨rfl, hH, hW⟩ := hv
  have hts := atoms_spec (ws := Cond.code y b nL ret :: am_WS X) B.pre
  have hown : s.vm.findClass y.cls = some m.cls := findClass_of_methodNamed B.named
  have ok : am_ok X U (l, p, e, rm, s, m, (As.map (am_v (am_ad U))).toArray, below, meth, c) y.cls b nL := ⟨B.exec, B.bytes, hml, hown, fun w hw => hts w (List.mem_cons_of_mem _ hw), hW, hb, B.notSynchronized, hfl⟩
  have h1 := body (l, p, e, rm, s, m, (As.map (am_v (am_ad U))).toArray, below, meth, c) rfl rfl B.returns ok hH.2 hex
  rw [lg_entry_eq]
  have he := lv_entry (As.map (am_v (am_ad U))) (n := nL) (by rw [am_sl]; exact hlen)
  exact h1 s.heap [] _ hH (Nat.le_refl _) (fun q hq => by cases hq) ⟨he.1, he.2.1, fun i v hi => by
    have h2 := am_args (am_ad U) As nL 0 i v hi
    rw [Nat.zero_add] at h2
    exact he.2.2 _ h2⟩
section AMC
variable {X : am_X} {U : am_U} {G : am_G} {own : String} {cc : ByteArray} {nL kc ks pc pc' : Nat} {V : am_V} {Q : State → Prop} {L L' : List (Option Value)} {st st' : List Value}
/-- an exception of class E has come over the frame at pc -/
def AX (X : am_X) (U : am_U) (G : am_G) (nL kc ks : Nat) (V : am_V) (Q : State → Prop) (E : String) (pc : Nat) (L : List (Option Value)) : Prop :=
  ∀ (H : Heap) (locs : List Loc) (ls : Array Slot) (rest : List Value) (q : Addr) (ce : Cell), am_H X U V H → (am_gs G).heap.size ≤ H.size → (∀ q ∈ locs, (am_s0 U).heap.size ≤ q.base) → am_l (am_ad U) nL L ls →
    H[q]? = some ce → ce.vm = .none → (am_gs G).vm.findClass E = some ce.cls →
    vx_W (am_gp G) (am_gl G) (am_ge G) (am_gR G) (am_gs G) (am_gm G) (am_ga G) (am_gb G) (am_gt G) (am_gc G) H locs kc ks Q (F0 (am_gm G) pc ls rest) q
theorem am_wordsok {X : am_X} {U : am_U} {G : am_G} {own : String} {cc : ByteArray} {nL : Nat} (ok : am_ok X U G own cc nL) : am_words X := ok.2.2.2.2.2.2.1.1.1
/-- the words of a virtual call -/
def am_cv (X : am_X) (own : String) (index : Nat) (y : MethodName) (b : ByteArray) (nL : Nat) (ret : Option FieldType) (n : Nat) : Prop :=
  Cond.methodLink own index y ∈ am_WS X ∧ Cond.instanceMethod y ∈ am_WS X ∧ Cond.selects y.cls y y ∈ am_WS X ∧ Cond.initialized y.cls ∈ am_WS X ∧ Cond.code y b nL ret ∈ am_WS X ∧
  (y.cls ≠ "java/lang/invoke/MethodHandle" ∧ y.cls ≠ "java/lang/invoke/VarHandle" ∧ (parseMethodDescriptor y.desc).map (fun d => d.parameters.length) = some n)
def am_cs (X : am_X) (own : String) (index : Nat) (y : MethodName) (b : ByteArray) (nL : Nat) (ret : Option FieldType) (n : Nat) : Prop :=
  Cond.methodLink own index y ∈ am_WS X ∧ Cond.static y ∈ am_WS X ∧ Cond.initialized y.cls ∈ am_WS X ∧ Cond.code y b nL ret ∈ am_WS X ∧
  (y.cls ≠ "java/lang/invoke/MethodHandle" ∧ y.cls ≠ "java/lang/invoke/VarHandle" ∧ (parseMethodDescriptor y.desc).map (fun d => d.parameters.length) = some n)
def am_cn (X : am_X) (own : String) (index : Nat) (y : MethodName) (host : String) (b : ByteArray) (nL : Nat) (ret : Option FieldType) (n : Nat) : Prop :=
  Cond.methodLinkNest own index y host ∈ am_NS X ∧ Cond.static y ∈ am_WS X ∧ Cond.initialized y.cls ∈ am_WS X ∧ Cond.code y b nL ret ∈ am_WS X ∧
  (y.cls ≠ "java/lang/invoke/MethodHandle" ∧ y.cls ≠ "java/lang/invoke/VarHandle" ∧ (parseMethodDescriptor y.desc).map (fun d => d.parameters.length) = some n)
theorem am_good (hw : am_words X) {ws : List Cond} (h : ∀ w ∈ ws, w ∈ am_WS X) : GoodIn (am_WS X) ws := fun w hm => ⟨h w hm, hw.1 w (h w hm)⟩
theorem am_blind (As : List Value) : FrameBlind (fun v S => v = (As.map (am_v (am_ad U))).toArray ∧ am_St X U V S) := fun _ _ _ _ q => q
end AMC
end
section
/-! ===== AM5: calls ===== -/
section AMD
variable {X : am_X} {U : am_U} {G : am_G} {own : String} {cc : ByteArray} {nL kc ks pc pc' : Nat} {V V1 : am_V} {Q : State → Prop} {L L' : List (Option Value)} {st st' : List Value} {P : am_P} {H : Heap} {locs : List Loc} {ls : Array Slot}
theorem am_after {mc ms : Nat} {st0 : List Value} {a : Array Value} (hr : vx_Run (am_gp G) (am_gl G) (am_ge G) (am_gR G) (am_gs G) (am_gm G) (am_ga G) (am_gb G) (am_gt G) (am_gc G) H locs kc ks mc ms (F0 (am_gm G) pc ls st0) (st.map (am_v (am_ad U))) (am_Qc X U P a) (am_XC X U P) (am_fr U))
    (hz : (am_gs G).heap.size ≤ H.size) (hlo : ∀ q ∈ locs, (am_s0 U).heap.size ≤ q.base) (hl : am_l (am_ad U) nL L ls)
    (kx : ∀ (E : String) (V1 : am_V), P (.inr E) V1 → AX X U G nL (kc + mc) (ks + ms) V1 Q E pc L) (kk : ∀ (r : Option Value) (V1 : am_V), P (.inl r) V1 → AW X U G nL (kc + mc) (ks + ms) V1 Q (pc + 3) L (r.toList ++ st)) : am_W G H locs kc ks Q (F0 (am_gm G) pc ls st0) := by
  intro T hT XX
  rcases hr T hT XX with ⟨v, st₀, t, T', L9, h0, X', hL, e1, e2, ⟨r, V9, hr1, hv, hH1, hsz⟩, stp⟩ | ⟨q, st₀, t, T', L9, E, ce, h0, X', hL, e1, e2, ⟨V9, hr1, hH1, hsz⟩, hce, hcv, hcl, stp⟩
  · cases hv
    have hlo2 : ∀ q ∈ locs ++ L9, (am_s0 U).heap.size ≤ q.base := fun q hq => (List.mem_append.mp hq).elim (hlo q) (hL q)
    have k2 := kk r V9 hr1 T'.heap (locs ++ L9) ls (by rw [e1]; exact hH1) (by rw [e1]; exact Nat.le_trans (by rw [← h0] at hz; exact hz) hsz) hlo2 hl
    have e3 : ((r.toList ++ st).map (am_v (am_ad U))) = (r.map (am_v (am_ad U))).toList ++ st.map (am_v (am_ad U)) := by cases r <;> simp
    rw [e3] at k2
    obtain ⟨t2, a1, b1⟩ := k2 T' rfl X'
    exact ⟨t2, stp t2 a1, b1⟩
  · have hlo2 : ∀ q ∈ locs ++ L9, (am_s0 U).heap.size ≤ q.base := fun q hq => (List.mem_append.mp hq).elim (hlo q) (hL q)
    have k2 := kx E V9 hr1 T'.heap (locs ++ L9) ls (st.map (am_v (am_ad U))) q ce (by rw [e1]; exact hH1) (by rw [e1]; exact Nat.le_trans (by rw [← h0] at hz; exact hz) hsz) hlo2 hl (by rw [e1]; exact hce) hcv hcl
    obtain ⟨t2, a1, b1⟩ := k2 T' rfl X'
    exact ⟨t2, stp.trans a1, b1⟩
theorem am_map_rev (As st : List Value) (c : Nat) (ad : Nat → Nat) : ((As.reverse ++ .ref c :: st).map (am_v ad)) = (As.map (am_v ad)).reverse ++ .ref (ad c) :: st.map (am_v ad) := by
  rw [List.map_append, List.map_reverse]
  rfl
theorem am_cat (ad : Nat → Nat) : ∀ st : List Value, ((st.map (am_v ad)).map fun v => v.category) = st.map fun v => v.category
  | [] => rfl
  | v :: r => by simp only [List.map_cons, am_v_cat, am_cat ad r]
set_option maxHeartbeats 4000000 in
/-- a virtual call of a method of the receiver's own class (private ones too) -/
theorem AW.callV {y : MethodName} {b : ByteArray} {nL' n index ci c : Nat} {ret : Option FieldType} {rm : Room} {As : List Value} {os : List (Option Nat)} {T : u_T} {N : Nat}
    (ok : am_ok X U G own cc nL) (hC : am_Ct X U (am_gl G) y b nL' ret rm (.ref c :: As) V P) (hcv : am_cv X own index y b nL' ret n) (hsh : am_sh X c = some (.inl (ci, os))) (hcl : (am_cl X)[ci]? = some (y.cls, T, N)) (hn : As.length = n)
    (hst : (st.map fun v => v.category).sum ≤ 8) (hR : rm.frames + 1 ≤ (am_gR G).frames ∧ 8 + (nL' + 11) + rm.locals ≤ (am_gR G).locals) (hf : kc + rm.cells ≤ (am_gR G).cells ∧ ks + rm.slots ≤ (am_gR G).slots) (hdg : decode cc pc = .ok (.invokevirtual index, 3))
    (kx : ∀ (E : String) (V1 : am_V), P (.inr E) V1 → AX X U G nL (kc + rm.cells) (ks + rm.slots) V1 Q E pc L) (kk : ∀ (r : Option Value) (V1 : am_V), P (.inl r) V1 → AW X U G nL (kc + rm.cells) (ks + rm.slots) V1 Q (pc + 3) L (r.toList ++ st)) :
    AW X U G nL kc ks V Q pc L (As.reverse ++ .ref c :: st) := by
  intro H locs ls hH hz hlo hl
  obtain ⟨w1, w2, w3, w4, w5, hd⟩ := hcv
  have hts := ok.2.2.2.2.1
  have hw := am_wordsok ok
  have hT : GoodIn (am_WS X) (wsV own index y.cls y (Cond.code y b nL' ret :: am_WS X)) := am_good hw (by
    intro w hm
    simp only [wsV, List.mem_append, List.mem_cons, List.not_mem_nil, or_false] at hm
    rcases hm with (rfl | rfl | rfl | rfl) | rfl | hm
    · exact w1
    · exact w2
    · exact w3
    · exact w4
    · exact w5
    · exact hm)
  have cw := cwV (R := am_gR G) (s := am_gs G) (args := am_ga G) (own := own) (C := y.cls) (index := index) (y := y) (bytes := b) (maxL := nL') (ret := ret) (ws := Cond.code y b nL' ret :: am_WS X) (rm := rm) (mc := rm.cells) (ms := rm.slots) n hts hT rfl rfl rfl ⟨rfl, hd⟩ hR
  rw [am_map_rev]
  obtain ⟨r0, hr0, hob⟩ := hH.1 c _ hsh
  have hrec := va_recv (D := am_D U) (q0 := 0) (am_ok.K ok) (am_one (hH.1 c _ hsh)) hcl rfl
  refine am_after (a := (Value.ref (am_ad U c) :: As.map (am_v (am_ad U))).toArray) (vx_runV (Ts := am_WS X) (nL := nL) (own := own) (As := As.map (am_v (am_ad U))) (rest := st.map (am_v (am_ad U))) ⟨ok.1, ok.2.1, ok.2.2.1, ok.2.2.2.1, hts⟩ hC cw ⟨am_blind (.ref c :: As), hrec, fun S hS hWS => ⟨rfl, ?_, State.WarmedH.trans ok.2.2.2.2.2.1 hWS⟩⟩ rfl (by rw [List.length_map]; exact hn) hl.1 rfl ?_ hdg hf) hz hlo hl kx kk
  · rw [hS]; exact hH
  · show 2 * 0 + _ ≤ 8
    rw [am_cat]
    omega
theorem am_map_rev2 (As st : List Value) (ad : Nat → Nat) : ((As.reverse ++ st).map (am_v ad)) = (As.map (am_v ad)).reverse ++ st.map (am_v ad) := by
  rw [List.map_append, List.map_reverse]
set_option maxHeartbeats 4000000 in
theorem AW.callS {y : MethodName} {b : ByteArray} {nL' n index : Nat} {ret : Option FieldType} {rm : Room} {As : List Value}
    (ok : am_ok X U G own cc nL) (hC : am_Ct X U (am_gl G) y b nL' ret rm As V P) (hcv : am_cs X own index y b nL' ret n) (hn : As.length = n)
    (hst : (st.map fun v => v.category).sum ≤ 8) (hR : rm.frames + 1 ≤ (am_gR G).frames ∧ 8 + (nL' + 11) + rm.locals ≤ (am_gR G).locals) (hf : kc + rm.cells ≤ (am_gR G).cells ∧ ks + rm.slots ≤ (am_gR G).slots) (hdg : decode cc pc = .ok (.invokestatic index, 3))
    (kx : ∀ (E : String) (V1 : am_V), P (.inr E) V1 → AX X U G nL (kc + rm.cells) (ks + rm.slots) V1 Q E pc L) (kk : ∀ (r : Option Value) (V1 : am_V), P (.inl r) V1 → AW X U G nL (kc + rm.cells) (ks + rm.slots) V1 Q (pc + 3) L (r.toList ++ st)) :
    AW X U G nL kc ks V Q pc L (As.reverse ++ st) := by
  intro H locs ls hH hz hlo hl
  obtain ⟨w1, w2, w4, w5, hd⟩ := hcv
  have hts := ok.2.2.2.2.1
  have hw := am_wordsok ok
  have hT : GoodIn (am_WS X) (va_wsS own index y (Cond.code y b nL' ret :: am_WS X)) := am_good hw (by
    intro w hm
    simp only [va_wsS, List.mem_append, List.mem_cons, List.not_mem_nil, or_false] at hm
    rcases hm with (rfl | rfl | rfl) | rfl | hm
    · exact w1
    · exact w2
    · exact w4
    · exact w5
    · exact hm)
  have cw := va_cwS (R := am_gR G) (s := am_gs G) (args := am_ga G) (own := own) (index := index) (y := y) (bytes := b) (maxL := nL') (ret := ret) (ws := Cond.code y b nL' ret :: am_WS X) (rm := rm) (mc := rm.cells) (ms := rm.slots) n hts hT rfl rfl rfl hd hR
  rw [am_map_rev2]
  refine am_after (a := (As.map (am_v (am_ad U))).toArray) (vx_runS (Ts := am_WS X) (nL := nL) (own := own) (As := As.map (am_v (am_ad U))) (rest := st.map (am_v (am_ad U))) ⟨ok.1, ok.2.1, ok.2.2.1, ok.2.2.2.1, hts⟩ hC cw ⟨am_blind As, fun S hS hWS => ⟨rfl, ?_, State.WarmedH.trans ok.2.2.2.2.2.1 hWS⟩⟩ rfl (by rw [List.length_map]; exact hn) hl.1 rfl ?_ hdg hf) hz hlo hl kx kk
  · rw [hS]; exact hH
  · show 2 * 0 + _ ≤ 8
    rw [am_cat]
    omega
set_option maxHeartbeats 4000000 in
/-- a static call of a nest mate's private method -/
theorem AW.callSN {y : MethodName} {b : ByteArray} {nL' n index : Nat} {ret : Option FieldType} {rm : Room} {As : List Value} {host : String}
    (ok : am_ok X U G own cc nL) (hC : am_Ct X U (am_gl G) y b nL' ret rm As V P) (hcv : am_cn X own index y host b nL' ret n) (hn : As.length = n)
    (hst : (st.map fun v => v.category).sum ≤ 8) (hR : rm.frames + 1 ≤ (am_gR G).frames ∧ 8 + (nL' + 11) + rm.locals ≤ (am_gR G).locals) (hf : kc + rm.cells ≤ (am_gR G).cells ∧ ks + rm.slots ≤ (am_gR G).slots) (hdg : decode cc pc = .ok (.invokestatic index, 3))
    (kx : ∀ (E : String) (V1 : am_V), P (.inr E) V1 → AX X U G nL (kc + rm.cells) (ks + rm.slots) V1 Q E pc L) (kk : ∀ (r : Option Value) (V1 : am_V), P (.inl r) V1 → AW X U G nL (kc + rm.cells) (ks + rm.slots) V1 Q (pc + 3) L (r.toList ++ st)) :
    AW X U G nL kc ks V Q pc L (As.reverse ++ st) := by
  intro H locs ls hH hz hlo hl
  obtain ⟨w1, w2, w4, w5, hd⟩ := hcv
  have hts := ok.2.2.2.2.1
  have hw := am_wordsok ok
  have hT : GoodIn (am_WS X) (Cond.code y b nL' ret :: am_WS X) := am_good hw (by
    intro w hm
    rcases List.mem_cons.mp hm with rfl | hm
    · exact w5
    · exact hm)
  have cw := va_cnB (R := am_gR G) (s := am_gs G) (args := am_ga G) (own := own) (host := host) (index := index) (y := y) (bytes := b) (maxL := nL') (ret := ret) (ws := Cond.code y b nL' ret :: am_WS X) (rm := rm) (mc := rm.cells) (ms := rm.slots) n hts hT rfl rfl rfl (am_NS_moved ok.2.2.2.2.2.2.1 ok.2.2.2.2.2.1 w1) (hts _ w4) hd hR
  rw [am_map_rev2]
  refine am_after (a := (As.map (am_v (am_ad U))).toArray) (vx_runSN (Ts := am_WS X) (nL := nL) (own := own) (As := As.map (am_v (am_ad U))) (rest := st.map (am_v (am_ad U))) ⟨ok.1, ok.2.1, ok.2.2.1, ok.2.2.2.1, hts⟩ hC ⟨cw, hts _ w2, trivial⟩ ⟨am_blind As, fun S hS hWS => ⟨rfl, ?_, State.WarmedH.trans ok.2.2.2.2.2.1 hWS⟩⟩ rfl (by rw [List.length_map]; exact hn) hl.1 rfl ?_ hdg hf) hz hlo hl kx kk
  · rw [hS]; exact hH
  · show 2 * 0 + _ ≤ 8
    rw [am_cat]
    omega
/-! ends -/
theorem am_end {G : am_G} {rm : Room} {V' : am_V} {v : Option Value} (ok : am_ok X U G own cc nL) (hp : P (.inl v) V') (hH : am_H X U V' H) (hz : (am_gs G).heap.size ≤ H.size) : ∀ t : State, t.heap = H → (am_gs G).WarmedH t.vm → am_Qc X U P (am_ga G) (am_gs G) (.returned (v.map (am_v (am_ad U)))) t :=
  fun t ht _ => ⟨v, V', hp, rfl, by rw [ht]; exact hH, by rw [ht]; exact hz⟩
theorem AW.iret {rm : Room} {x : Int32} {ty : FieldType} (ok : am_ok X U G own cc nL) (hp : P (.inl (some (.int x))) V) (hr : (am_gt G).sig.returnType = some ty) (hn : narrow ty (.int x) = .int x) (hc : kc ≤ rm.cells) (hs : ks ≤ rm.slots) (hdg : decode cc pc = .ok (.ireturn, 1)) :
    AW X U G nL kc ks V (am_End X U G rm P) pc L [.int x] := by
  intro H locs ls hH hz hlo hl
  exact W.widen hc hs (vx_ret (W.zret (v := x) ok.1 ok.2.1 hr hn (am_end (rm := rm) (v := some (.int x)) ok hp hH hz) hlo hdg ok.2.2.2.2.2.2.2.1))
theorem AW.lret {rm : Room} {x : Int64} (ok : am_ok X U G own cc nL) (hp : P (.inl (some (.long x))) V) (hr : (am_gt G).sig.returnType = some .long) (hc : kc ≤ rm.cells) (hs : ks ≤ rm.slots) (hdg : decode cc pc = .ok (.lreturn, 1)) :
    AW X U G nL kc ks V (am_End X U G rm P) pc L [.long x] := by
  intro H locs ls hH hz hlo hl
  exact W.widen hc hs (vx_ret (W.lret (v := x) ok.1 ok.2.1 hr (am_end (rm := rm) (v := some (.long x)) ok hp hH hz) hlo hdg ok.2.2.2.2.2.2.2.1))
theorem AW.fret {rm : Room} {x : UInt32} (ok : am_ok X U G own cc nL) (hp : P (.inl (some (.float x))) V) (hr : (am_gt G).sig.returnType = some .float) (hc : kc ≤ rm.cells) (hs : ks ≤ rm.slots) (hdg : decode cc pc = .ok (.freturn, 1)) :
    AW X U G nL kc ks V (am_End X U G rm P) pc L [.float x] := by
  intro H locs ls hH hz hlo hl
  exact W.widen hc hs (vx_ret (W.fret (v := x) ok.1 ok.2.1 hr (am_end (rm := rm) (v := some (.float x)) ok hp hH hz) hlo hdg ok.2.2.2.2.2.2.2.1))
theorem AW.dret {rm : Room} {x : UInt64} (ok : am_ok X U G own cc nL) (hp : P (.inl (some (.double x))) V) (hr : (am_gt G).sig.returnType = some .double) (hc : kc ≤ rm.cells) (hs : ks ≤ rm.slots) (hdg : decode cc pc = .ok (.dreturn, 1)) :
    AW X U G nL kc ks V (am_End X U G rm P) pc L [.double x] := by
  intro H locs ls hH hz hlo hl
  exact W.widen hc hs (vx_ret (W.dret (v := x) ok.1 ok.2.1 hr (am_end (rm := rm) (v := some (.double x)) ok hp hH hz) hlo hdg ok.2.2.2.2.2.2.2.1))
theorem AW.vret {rm : Room} (ok : am_ok X U G own cc nL) (hp : P (.inl none) V) (hr : (am_gt G).sig.returnType = none) (hc : kc ≤ rm.cells) (hs : ks ≤ rm.slots) (hdg : decode cc pc = .ok (.return_, 1)) :
    AW X U G nL kc ks V (am_End X U G rm P) pc L [] := by
  intro H locs ls hH hz hlo hl
  exact W.widen hc hs (vx_ret (W.vret ok.1 ok.2.1 hr (am_end (rm := rm) (v := none) ok hp hH hz) hlo hdg ok.2.2.2.2.2.2.2.1))
theorem AW.aret {rm : Room} {c : Nat} {rt : FieldType} (ok : am_ok X U G own cc nL) (hp : P (.inl (some (.ref c))) V) (hr : (am_gt G).sig.returnType = some rt) (hrt : (∃ n, rt = .object n) ∨ ∃ t, rt = .array t) (hc : kc ≤ rm.cells) (hs : ks ≤ rm.slots) (hdg : decode cc pc = .ok (.areturn, 1)) :
    AW X U G nL kc ks V (am_End X U G rm P) pc L [.ref c] := by
  intro H locs ls hH hz hlo hl
  exact W.widen hc hs (vx_ret (W.aret (v := .ref (am_ad U c)) ok.1 ok.2.1 hr hrt (Or.inr ⟨_, rfl⟩) (am_end (rm := rm) (v := some (.ref c)) ok hp hH hz) hlo hdg ok.2.2.2.2.2.2.2.1))
/-- an exception that this method's table doesn't cover goes on to the caller -/
theorem AX.out {rm : Room} {E : String} (ok : am_ok X U G own cc nL) (hex : ∀ x ∈ (am_gc G).exceptionTable.toList, False) (hc : kc ≤ rm.cells) (hs : ks ≤ rm.slots) (hp : P (.inr E) V) : AX X U G nL kc ks V (am_End X U G rm P) E pc L := by
  intro H locs ls rest q ce hH hz hlo hl hq hv hcl
  exact vx_out (fun x hx => (hex x hx).elim) ok.2.2.2.2.2.2.2.1 hq hv hcl (fun t ht _ => ⟨V, hp, by rw [ht]; exact hH, by rw [ht]; exact hz⟩) hlo hc hs
end AMD
end
section
/-! ===== AM6: exceptions ===== -/
theorem am_H.grow {X : am_X} {U : am_U} {V : am_V} {H H1 : Heap} (h : am_H X U V H) (hz : H.size ≤ H1.size) (hq : ∀ q : Nat, q < H.size → H1[q]? = H[q]?) : am_H X U V H1 :=
  ⟨fun c x hx => (h.1 c x hx).kept (hq _ (h.1 c x hx).lt), Nat.le_trans h.2.1 hz, fun q hl => (hq q (Nat.lt_of_lt_of_le hl h.2.1)).trans (h.2.2 q hl)⟩
/-- the words of 'throw new cls("text")' at the pool's entries ik, is, ic of own -/
def am_th (X : am_X) (own : String) (ik is ic : Nat) (cls text : String) (names : List String) : Prop :=
  Cond.classLink own ik cls ∈ am_WS X ∧ Cond.initialized cls ∈ am_WS X ∧ (∀ w ∈ vx_atS own ic cls names, w ∈ am_WS X ∨ w ∈ am_NS X) ∧ (∀ w ∈ Cond.classLink own ik cls :: Cond.initialized cls :: vx_atS own ic cls names, vx_ot w = true) ∧
  Bundle.fit cls = true ∧ (∀ n ∈ names, Bundle.fit n = true) ∧ (own, is, text) ∈ am_TS X
section AME
variable {X : am_X} {U : am_U} {G : am_G} {own : String} {cc : ByteArray} {nL kc ks pc pc' : Nat} {V V1 : am_V} {Q : State → Prop} {L L' : List (Option Value)} {st st' : List Value} {H : Heap} {locs : List Loc} {ls : Array Slot} {P : am_P}
theorem am_ok.NS (ok : am_ok X U G own cc nL) {w : Cond} (hw : w ∈ am_NS X) : w.before (am_ga G) (am_gs G) = true :=
  va_Nw.use (am_NS_on ok.2.2.2.2.2.2.1 hw) (am_NS_moved ok.2.2.2.2.2.2.1 ok.2.2.2.2.2.1 hw)
theorem am_ok.NC (ok : am_ok X U G own cc nL) {x : String × String} (hw : x ∈ am_NC X) : va_Nc x.1 x.2 (am_gs G) := va_Nc.moved ok.2.2.2.2.2.1.alike (ok.2.2.2.2.2.2.1.1.2.2.2.1 x hw)
theorem am_ok.str (ok : am_ok X U G own cc nL) {x : String × Nat × String} (hx : x ∈ am_TS X) : ∃ a : Nat, vk_R x.1 x.2.1 x.2.2 a (am_gs G) := by
  obtain ⟨a, ha⟩ := ok.2.2.2.2.2.2.1.1.2.2.1 x hx
  exact ⟨a, vk_R.warm ok.2.2.2.2.2.1 ha⟩
theorem am_Zq (ok : am_ok X U G own cc nL) (h0 : am_st0 U G) {C n d : String} (h : vx_Zq C n d (fun q => (am_s0 U).heap.size ≤ q) (am_s0 U) (am_s0 U).heap) : vx_Zq C n d (fun q => (am_s0 U).heap.size ≤ q) (am_gs G) (am_gs G).heap :=
  vx_Zq.moved ok.2.2.2.2.2.1.alike (h.kept (fun a ha _ => h0.2 a ha))
theorem am_vaS (h0 : am_st0 U G) (hH : am_H X U V H) (hz : (am_gs G).heap.size ≤ H.size) (hlo : ∀ q ∈ locs, (am_s0 U).heap.size ≤ q.base) (A : Nat → Prop) (hA : A = fun q => (am_s0 U).heap.size ≤ q) : va_S A (am_gs G).heap H locs := by
  subst hA
  refine ⟨hz, fun q hq hn => ?_, hlo⟩
  have hlt : q < (am_s0 U).heap.size := Nat.lt_of_not_le hn
  rw [hH.2.2 q hlt, h0.2 q hlt]
set_option maxHeartbeats 4000000 in
theorem AW.throwS {rm : Room} {ik is ic : Nat} {cls text : String} {names : List String} (ok : am_ok X U G own cc nL) (h0 : am_st0 U G) (hex : ∀ x ∈ (am_gc G).exceptionTable.toList, False) (hth : am_th X own ik is ic cls text names)
    (d0 : decode cc pc = .ok (.new ik, 3)) (d3 : decode cc (pc + 3) = .ok (.dup, 1)) (d4 : decode cc (pc + 4) = .ok (.ldc is, 2)) (d6 : decode cc (pc + 6) = .ok (.invokespecial ic, 3)) (d9 : decode cc (pc + 9) = .ok (.athrow, 1))
    (hRf : names.length + 3 < (am_gR G).frames) (hRl : (st.map fun v => v.category).sum + (13 * (names.length + 1) + 43) ≤ (am_gR G).locals) (hRc : kc + 1 ≤ (am_gR G).cells) (hRs : ks + 6 ≤ (am_gR G).slots) (hc : kc + 1 ≤ rm.cells) (hs : ks + 6 ≤ rm.slots) (hp : P (.inr cls) V) :
    AW X U G nL kc ks V (am_End X U G rm P) pc L st := by
  intro H locs ls hH hz hlo hl
  obtain ⟨t1, t2, t3, t4, t5, t6, t7⟩ := hth
  have hts := ok.2.2.2.2.1
  obtain ⟨sa, hsa⟩ := am_ok.str ok t7
  exact vx_throwS (A := fun q => (am_s0 U).heap.size ≤ q) ok.1 ok.2.1 ok.2.2.2.2.2.2.2.2 ok.2.2.2.1 t5 t6 (hts _ t1) (hts _ t2) hsa (fun w hw => (t3 w hw).elim (hts w) (am_ok.NS ok)) t4 (am_Zq ok h0 ok.2.2.2.2.2.2.1.1.2.2.2.2.1) (am_Zq ok h0 ok.2.2.2.2.2.2.1.1.2.2.2.2.2.1) (am_vaS h0 hH hz hlo _ rfl) (hl.1.trans ok.2.2.1.symm)
    d0 d3 d4 d6 d9 (fun x hx => (hex x hx).elim) hRf (by rw [am_cat]; exact hRl) hRc hRs ok.2.2.2.2.2.2.2.1 (fun t _ hsz hq => ⟨V, hp, hH.grow hsz hq, Nat.le_trans hz hsz⟩) hlo hc hs
set_option maxHeartbeats 4000000 in
theorem AW.throwSW {rm : Room} {ik is ic : Nat} {cls text : String} {names : List String} (ok : am_ok X U G own cc nL) (h0 : am_st0 U G) (hex : ∀ x ∈ (am_gc G).exceptionTable.toList, False) (hth : am_th X own ik is ic cls text names)
    (d0 : decode cc pc = .ok (.new ik, 3)) (d3 : decode cc (pc + 3) = .ok (.dup, 1)) (d4 : decode cc (pc + 4) = .ok (.ldc_w is, 3)) (d7 : decode cc (pc + 7) = .ok (.invokespecial ic, 3)) (d10 : decode cc (pc + 10) = .ok (.athrow, 1))
    (hRf : names.length + 3 < (am_gR G).frames) (hRl : (st.map fun v => v.category).sum + (13 * (names.length + 1) + 43) ≤ (am_gR G).locals) (hRc : kc + 1 ≤ (am_gR G).cells) (hRs : ks + 6 ≤ (am_gR G).slots) (hc : kc + 1 ≤ rm.cells) (hs : ks + 6 ≤ rm.slots) (hp : P (.inr cls) V) :
    AW X U G nL kc ks V (am_End X U G rm P) pc L st := by
  intro H locs ls hH hz hlo hl
  obtain ⟨t1, t2, t3, t4, t5, t6, t7⟩ := hth
  have hts := ok.2.2.2.2.1
  obtain ⟨sa, hsa⟩ := am_ok.str ok t7
  exact vx_throwSW (A := fun q => (am_s0 U).heap.size ≤ q) ok.1 ok.2.1 ok.2.2.2.2.2.2.2.2 ok.2.2.2.1 t5 t6 (hts _ t1) (hts _ t2) hsa (fun w hw => (t3 w hw).elim (hts w) (am_ok.NS ok)) t4 (am_Zq ok h0 ok.2.2.2.2.2.2.1.1.2.2.2.2.1) (am_Zq ok h0 ok.2.2.2.2.2.2.1.1.2.2.2.2.2.1) (am_vaS h0 hH hz hlo _ rfl) (hl.1.trans ok.2.2.1.symm)
    d0 d3 d4 d7 d10 (fun x hx => (hex x hx).elim) hRf (by rw [am_cat]; exact hRl) hRc hRs ok.2.2.2.2.2.2.2.1 (fun t _ hsz hq => ⟨V, hp, hH.grow hsz hq, Nat.le_trans hz hsz⟩) hlo hc hs
end AME
end
section
/-! ===== AM7: constants, switches, floats, statics, Math, arraycopy, handlers ===== -/
section AMF
variable {X : am_X} {U : am_U} {G : am_G} {own : String} {cc : ByteArray} {nL kc ks pc pc' : Nat} {V V1 : am_V} {Q : State → Prop} {L L' : List (Option Value)} {st st' : List Value} {H : Heap} {locs : List Loc} {ls : Array Slot}
theorem AW.ldcI {index : Nat} {v : Int32} (ok : am_ok X U G own cc nL) (hw : Jvm.Cond.constant own index v ∈ am_WS X) (hdg : decode cc pc = .ok (.ldc index, 2)) (kk : AW X U G nL kc ks V Q (pc + 2) L (.int v :: st)) : AW X U G nL kc ks V Q pc L st :=
  fun H locs ls hH hz hlo hl => lv_ldc ok.1 ok.2.1 ok.2.2.2.1 (ok.2.2.2.2.1 _ hw) hdg (kk H locs ls hH hz hlo hl)
theorem AW.ldcwI {index : Nat} {v : Int32} (ok : am_ok X U G own cc nL) (hw : Jvm.Cond.constant own index v ∈ am_WS X) (hdg : decode cc pc = .ok (.ldc_w index, 3)) (kk : AW X U G nL kc ks V Q (pc + 3) L (.int v :: st)) : AW X U G nL kc ks V Q pc L st :=
  fun H locs ls hH hz hlo hl => lv_ldcw ok.1 ok.2.1 ok.2.2.2.1 (ok.2.2.2.2.1 _ hw) hdg (kk H locs ls hH hz hlo hl)
theorem AW.ldcF {index : Nat} {v : UInt32} (ok : am_ok X U G own cc nL) (hw : Jvm.Cond.constantFloat own index v ∈ am_WS X) (hdg : decode cc pc = .ok (.ldc index, 2)) (kk : AW X U G nL kc ks V Q (pc + 2) L (.float v :: st)) : AW X U G nL kc ks V Q pc L st :=
  fun H locs ls hH hz hlo hl => lv_ldcf ok.1 ok.2.1 ok.2.2.2.1 (ok.2.2.2.2.1 _ hw) hdg (kk H locs ls hH hz hlo hl)
theorem AW.ldcL {index : Nat} {v : Int64} (ok : am_ok X U G own cc nL) (hw : Jvm.Cond.constantLong own index v ∈ am_WS X) (hdg : decode cc pc = .ok (.ldc2_w index, 3)) (kk : AW X U G nL kc ks V Q (pc + 3) L (.long v :: st)) : AW X U G nL kc ks V Q pc L st :=
  fun H locs ls hH hz hlo hl => lv_ldc2 ok.1 ok.2.1 ok.2.2.2.1 (ok.2.2.2.2.1 _ hw) hdg (kk H locs ls hH hz hlo hl)
theorem AW.ldcD {index : Nat} {v : UInt64} (ok : am_ok X U G own cc nL) (hw : Jvm.Cond.constantDouble own index v ∈ am_WS X) (hdg : decode cc pc = .ok (.ldc2_w index, 3)) (kk : AW X U G nL kc ks V Q (pc + 3) L (.double v :: st)) : AW X U G nL kc ks V Q pc L st :=
  fun H locs ls hH hz hlo hl => lv_ldc2d ok.1 ok.2.1 ok.2.2.2.1 (ok.2.2.2.2.1 _ hw) hdg (kk H locs ls hH hz hlo hl)
theorem AW.fc0 (ok : am_ok X U G own cc nL) (hdg : decode cc pc = .ok (.fconst 0, 1)) (kk : AW X U G nL kc ks V Q (pc + 1) L (.float FP.fconst0 :: st)) : AW X U G nL kc ks V Q pc L st :=
  fun H locs ls hH hz hlo hl => lv_fconst0 ok.1 ok.2.1 hdg (kk H locs ls hH hz hlo hl)
theorem AW.fc1 (ok : am_ok X U G own cc nL) (hdg : decode cc pc = .ok (.fconst 1, 1)) (kk : AW X U G nL kc ks V Q (pc + 1) L (.float FP.fconst1 :: st)) : AW X U G nL kc ks V Q pc L st :=
  fun H locs ls hH hz hlo hl => lv_fconst1 ok.1 ok.2.1 hdg (kk H locs ls hH hz hlo hl)
theorem AW.fc2 (ok : am_ok X U G own cc nL) (hdg : decode cc pc = .ok (.fconst 2, 1)) (kk : AW X U G nL kc ks V Q (pc + 1) L (.float FP.fconst2 :: st)) : AW X U G nL kc ks V Q pc L st :=
  fun H locs ls hH hz hlo hl => lv_fconst2 ok.1 ok.2.1 hdg (kk H locs ls hH hz hlo hl)
theorem AW.fmul {x y : UInt32} (ok : am_ok X U G own cc nL) (hne : vf_n32 (FP.fmul x y)) (hdg : decode cc pc = .ok (.fmul, 1)) (kk : AW X U G nL kc ks V Q (pc + 1) L (.float (FP.fmul x y) :: st)) : AW X U G nL kc ks V Q pc L (.float y :: .float x :: st) :=
  fun H locs ls hH hz hlo hl => lv_fmul ok.1 ok.2.1 hdg hne (kk H locs ls hH hz hlo hl)
theorem AW.fdiv {x y : UInt32} (ok : am_ok X U G own cc nL) (hne : vf_n32 (FP.fdiv x y)) (hdg : decode cc pc = .ok (.fdiv, 1)) (kk : AW X U G nL kc ks V Q (pc + 1) L (.float (FP.fdiv x y) :: st)) : AW X U G nL kc ks V Q pc L (.float y :: .float x :: st) :=
  fun H locs ls hH hz hlo hl => lv_fdiv ok.1 ok.2.1 hdg hne (kk H locs ls hH hz hlo hl)
theorem AW.fsub {x y : UInt32} (ok : am_ok X U G own cc nL) (hne : vf_n32 (FP.fsub x y)) (hdg : decode cc pc = .ok (.fsub, 1)) (kk : AW X U G nL kc ks V Q (pc + 1) L (.float (FP.fsub x y) :: st)) : AW X U G nL kc ks V Q pc L (.float y :: .float x :: st) :=
  fun H locs ls hH hz hlo hl => lv_fsub ok.1 ok.2.1 hdg hne (kk H locs ls hH hz hlo hl)
theorem AW.ddiv {x y : UInt64} (ok : am_ok X U G own cc nL) (hne : vf_n64 (FP.ddiv x y)) (hdg : decode cc pc = .ok (.ddiv, 1)) (kk : AW X U G nL kc ks V Q (pc + 1) L (.double (FP.ddiv x y) :: st)) : AW X U G nL kc ks V Q pc L (.double y :: .double x :: st) :=
  fun H locs ls hH hz hlo hl => lv_ddiv ok.1 ok.2.1 hdg hne (kk H locs ls hH hz hlo hl)
theorem AW.f2i {x : UInt32} (ok : am_ok X U G own cc nL) (hdg : decode cc pc = .ok (.f2i, 1)) (kk : AW X U G nL kc ks V Q (pc + 1) L (.int (FP.f2i x) :: st)) : AW X U G nL kc ks V Q pc L (.float x :: st) :=
  fun H locs ls hH hz hlo hl => lv_f2i ok.1 ok.2.1 hdg (kk H locs ls hH hz hlo hl)
theorem AW.irem {x y : Int32} (ok : am_ok X U G own cc nL) (hne : ¬ y = 0) (hdg : decode cc pc = .ok (.irem, 1)) (kk : AW X U G nL kc ks V Q (pc + 1) L (.int (x - x / y * y) :: st)) : AW X U G nL kc ks V Q pc L (.int y :: .int x :: st) :=
  fun H locs ls hH hz hlo hl => t_irem ok.1 ok.2.1 hdg hne rfl (kk H locs ls hH hz hlo hl)
theorem AW.ifnonnull {off : Int} {c : Nat} (ok : am_ok X U G own cc nL) (tgt : Nat) (hdg : decode cc pc = .ok (.ifnonnull off, 3)) (ht : (pc : Int) + off = (tgt : Int)) (kk : AW X U G nL kc ks V Q tgt L st) : AW X U G nL kc ks V Q pc L (.ref c :: st) :=
  fun H locs ls hH hz hlo hl => lv_ifnonnull ok.1 ok.2.1 hdg ht (kk H locs ls hH hz hlo hl)
theorem AW.ifnull {off : Int} {c : Nat} (ok : am_ok X U G own cc nL) (hdg : decode cc pc = .ok (.ifnull off, 3)) (kk : AW X U G nL kc ks V Q (pc + 3) L st) : AW X U G nL kc ks V Q pc L (.ref c :: st) :=
  fun H locs ls hH hz hlo hl => lv_ifnull ok.1 ok.2.1 hdg (kk H locs ls hH hz hlo hl)
theorem AW.tswIn {dflt lo hi off : Int} {offs : Array Int} {len : Nat} {x : Int32} (ok : am_ok X U G own cc nL) (tgt : Nat) (hdg : decode cc pc = .ok (.tableswitch dflt lo hi offs, len)) (h1 : ¬ x.toInt < lo) (h2 : ¬ hi < x.toInt) (ho : offs[(x.toInt - lo).toNat]? = some off) (ht : (pc : Int) + off = (tgt : Int)) (kk : AW X U G nL kc ks V Q tgt L st) : AW X U G nL kc ks V Q pc L (.int x :: st) :=
  fun H locs ls hH hz hlo hl => lv_tableIn ok.1 ok.2.1 hdg h1 h2 ho ht (kk H locs ls hH hz hlo hl)
theorem AW.tswOut {dflt lo hi : Int} {offs : Array Int} {len : Nat} {x : Int32} (ok : am_ok X U G own cc nL) (tgt : Nat) (hdg : decode cc pc = .ok (.tableswitch dflt lo hi offs, len)) (h : x.toInt < lo ∨ hi < x.toInt) (ht : (pc : Int) + dflt = (tgt : Int)) (kk : AW X U G nL kc ks V Q tgt L st) : AW X U G nL kc ks V Q pc L (.int x :: st) :=
  fun H locs ls hH hz hlo hl => lv_tableOut ok.1 ok.2.1 hdg h ht (kk H locs ls hH hz hlo hl)
theorem AW.alen {c t n : Nat} {b : Bool ⊕ (Nat → Int32 → Option Nat)} (ok : am_ok X U G own cc nL) (hsh : am_sh X c = some (.inr (t, n, b))) (ht : t < 8) (hdg : decode cc pc = .ok (.arraylength, 1)) (kk : AW X U G nL kc ks V Q (pc + 1) L (.int (Int32.ofNat n) :: st)) : AW X U G nL kc ks V Q pc L (.ref c :: st) := by
  intro H locs ls hH hz hlo hl
  have hA := am_ok.A ok ht
  have hP := am_one (hH.1 c _ hsh)
  have hK2 : va_K (am_D U) (am_cl X) [(am_dA U t, am_tA X t)] (am_gs G) := ⟨(am_ok.K ok).1, fun k q hk => by
    have hz : k < 1 := (List.getElem?_eq_some_iff.mp hk).1
    rw [show k = 0 by omega] at hk
    cases hk
    exact ⟨hA, am_ok.RA ok ht⟩⟩
  rcases b with (_ | _) | g
  · exact va_alen (v := Int32.ofNat n) ok.1 ok.2.1 hK2 hP 0 0 rfl rfl rfl hdg (kk H locs ls hH hz hlo hl)
  · exact va_alen (v := Int32.ofNat n) ok.1 ok.2.1 hK2 hP 0 0 rfl rfl rfl hdg (kk H locs ls hH hz hlo hl)
  · exact va_alen (v := Int32.ofNat n) ok.1 ok.2.1 hK2 hP 0 0 rfl rfl rfl hdg (kk H locs ls hH hz hlo hl)
theorem AW.bald {c t n : Nat} {i : Int32} (ok : am_ok X U G own cc nL) (hsh : am_sh X c = some (.inr (t, n, .inl false))) (ht : t < 8) (hty : am_tA X t = .byte) (hin : vp_in i n) (hdg : decode cc pc = .ok (.baload, 1))
    (kk : AW X U G nL kc ks V Q (pc + 1) L (.int (V c i.toNatClampNeg) :: st)) : AW X U G nL kc ks V Q pc L (.int i :: .ref c :: st) := by
  intro H locs ls hH hz hlo hl
  have hA := am_ok.A ok ht
  rw [hty] at hA
  have hlt : i.toNatClampNeg < n := Nat.not_le.mp fun q => hin (Or.inr q)
  exact W.bald (v := .int (V c i.toNatClampNeg)) ok.1 ok.2.1 (hH.1 c _ hsh) (hA n (fun j => .int (V c j))) (fun q => by cases q) (by show ¬ (i < 0 ∨ (arrV _ _ _).slots.size ≤ _); rw [arrV_size]; exact hin) (by show (arrV _ _ _).slots[_]? = _; rw [arrV_read _ _ hlt]) rfl rfl hdg (kk H locs ls hH hz hlo hl)
/-- a static field that nobody writes -/
theorem AW.gets {C n d : String} {v : Value} {index : Nat} (ok : am_ok X U G own cc nL) (h0 : am_st0 U G) (hx : (C, n, d, v) ∈ am_SF X) (hw : Cond.fieldLink own index C n d ∈ am_WS X) (hdg : decode cc pc = .ok (.getstatic index, 3)) (kk : AW X U G nL kc ks V Q (pc + 3) L (v :: st)) : AW X U G nL kc ks V Q pc L st := by
  intro H locs ls hH hz hlo hl
  have hZ : va_Z C n d (am_v (am_ad U) v) (fun q => (am_s0 U).heap.size ≤ q) (am_gs G) (am_gs G).heap := va_Z.moved ok.2.2.2.2.2.1.alike ((ok.2.2.2.2.2.2.1.1.2.2.2.2.2.2 _ hx).kept (fun a ha _ => h0.2 a ha))
  exact va_gets ok.1 ok.2.1 hZ (am_vaS h0 hH hz hlo _ rfl) ok.2.2.2.1 (ok.2.2.2.2.1 _ hw) (fun _ h9 => h9) hdg (kk H locs ls hH hz hlo hl)
theorem AW.getsN {C n d host : String} {v : Value} {index : Nat} (ok : am_ok X U G own cc nL) (h0 : am_st0 U G) (hx : (C, n, d, v) ∈ am_SF X) (hw : Cond.fieldLinkNest own index C n d host ∈ am_NS X) (hdg : decode cc pc = .ok (.getstatic index, 3)) (kk : AW X U G nL kc ks V Q (pc + 3) L (v :: st)) : AW X U G nL kc ks V Q pc L st := by
  intro H locs ls hH hz hlo hl
  have hZ : va_Z C n d (am_v (am_ad U) v) (fun q => (am_s0 U).heap.size ≤ q) (am_gs G) (am_gs G).heap := va_Z.moved ok.2.2.2.2.2.1.alike ((ok.2.2.2.2.2.2.1.1.2.2.2.2.2.2 _ hx).kept (fun a ha _ => h0.2 a ha))
  exact va_getsN ok.1 ok.2.1 hZ (am_vaS h0 hH hz hlo _ rfl) ok.2.2.2.1 (am_ok.NS ok hw) (fun _ h9 => h9) hdg (kk H locs ls hH hz hlo hl)
/-- Math.min, Math.max -/
def am_mm (X : am_X) (own : String) (index : Nat) (y : MethodName) (b : ByteArray) : Prop := Cond.methodLink own index y ∈ am_WS X ∧ Cond.static y ∈ am_WS X ∧ Cond.initialized "java/lang/Math" ∈ am_WS X ∧ Cond.code y b 2 (some .int) ∈ am_WS X
theorem AW.mmin {index : Nat} {x y : Int32} (ok : am_ok X U G own cc nL) (hw : am_mm X own index Lib.Math.min.name Lib.Math.min.code) (hf : 1 ≤ (am_gR G).frames) (hlo9 : (st.map fun v => v.category).sum + 13 ≤ (am_gR G).locals) (hc : kc ≤ (am_gR G).cells) (hs : ks ≤ (am_gR G).slots) (hdg : decode cc pc = .ok (.invokestatic index, 3))
    (kk : AW X U G nL kc ks V Q (pc + 3) L (.int (if y < x then y else x) :: st)) : AW X U G nL kc ks V Q pc L (.int y :: .int x :: st) := by
  intro H locs ls hH hz hlo hl
  have hts := ok.2.2.2.2.1
  exact va_mmin ok.1 ok.2.1 (ok.2.2.1.trans hl.1.symm) ok.2.2.2.1 (hts _ hw.1) (hts _ hw.2.1) (hts _ hw.2.2.1) (hts _ hw.2.2.2) hf (by rw [am_cat]; exact hlo9) hc hs hdg (kk H locs ls hH hz hlo hl)
theorem AW.mmax {index : Nat} {x y : Int32} (ok : am_ok X U G own cc nL) (hw : am_mm X own index Lib.Math.max.name Lib.Math.max.code) (hf : 1 ≤ (am_gR G).frames) (hlo9 : (st.map fun v => v.category).sum + 13 ≤ (am_gR G).locals) (hc : kc ≤ (am_gR G).cells) (hs : ks ≤ (am_gR G).slots) (hdg : decode cc pc = .ok (.invokestatic index, 3))
    (kk : AW X U G nL kc ks V Q (pc + 3) L (.int (if x < y then y else x) :: st)) : AW X U G nL kc ks V Q pc L (.int y :: .int x :: st) := by
  intro H locs ls hH hz hlo hl
  have hts := ok.2.2.2.2.1
  exact va_mmax ok.1 ok.2.1 (ok.2.2.1.trans hl.1.symm) ok.2.2.2.1 (hts _ hw.1) (hts _ hw.2.1) (hts _ hw.2.2.1) (hts _ hw.2.2.2) hf (by rw [am_cat]; exact hlo9) hc hs hdg (kk H locs ls hH hz hlo hl)
end AMF
end
section
/-! ===== AM8: arraycopy of numbers; handlers ===== -/
def am_row (V : am_V) (c : Nat) (f : Nat → Int32) : am_V := fun d => if d = c then f else V d
theorem am_row_at (V : am_V) (c : Nat) (f : Nat → Int32) : am_row V c f c = f := if_pos rfl
theorem am_row_ne (V : am_V) {c d : Nat} (f : Nat → Int32) (h : d ≠ c) : am_row V c f d = V d := if_neg h
def am_ac (X : am_X) (own : String) (index : Nat) : Prop := Cond.methodLink own index arraycopyName ∈ am_WS X ∧ Cond.native arraycopyName ∈ am_WS X ∧ Cond.static arraycopyName ∈ am_WS X ∧ Cond.initialized "java/lang/System" ∈ am_WS X
section AMI
variable {X : am_X} {U : am_U} {G : am_G} {own : String} {cc : ByteArray} {nL kc ks pc pc' : Nat} {V V1 : am_V} {Q : State → Prop} {L L' : List (Option Value)} {st st' : List Value} {H : Heap} {locs : List Loc} {ls : Array Slot}
theorem am_locsL {N0 : Nat} {locs L9 : List Loc} (h : ∀ q ∈ locs, N0 ≤ q.base) (h2 : ∀ q ∈ L9, N0 ≤ q.base) : ∀ q ∈ locs ++ L9, N0 ≤ q.base := fun q hq => (List.mem_append.mp hq).elim (h q) (h2 q)
set_option maxHeartbeats 4000000 in
theorem AW.copy {index c0 c1 t n0 n1 : Nat} {sp dp n : Int32} (ok : am_ok X U G own cc nL) (hw : am_ac X own index) (hs0 : am_sh X c0 = some (.inr (t, n0, .inl false))) (hs1 : am_sh X c1 = some (.inr (t, n1, .inl false))) (hw1 : am_wr X c1 = true) (ht : t < 8) (hty : am_tA X t = .int)
    (h1 : ¬ sp < 0) (h2 : ¬ dp < 0) (h3 : ¬ n < 0) (h4 : sp.toNatClampNeg + n.toNatClampNeg ≤ n0) (h5 : dp.toNatClampNeg + n.toNatClampNeg ≤ n1) (hframes : 1 ≤ (am_gR G).frames) (hlocals : (st.map fun v => v.category).sum + (nativeFrameWords "java/lang/System" "arraycopy" 5 + 11) ≤ (am_gR G).locals) (hdg : decode cc pc = .ok (.invokestatic index, 3))
    (kk : AW X U G nL kc ks (am_row V c1 (va_cpy (V c0) (V c1) sp.toNatClampNeg dp.toNatClampNeg n.toNatClampNeg)) Q (pc + 3) L st) : AW X U G nL kc ks V Q pc L (.int n :: .int dp :: .ref c1 :: .int sp :: .ref c0 :: st) := by
  intro H locs ls hH hz hlo hl
  have nn : ∀ z : Int32, ¬ z < 0 → z.toInt = (z.toNatClampNeg : Int) := by
    intro z hz
    have hz0 : (0 : Int) ≤ z.toInt := by
      have := Int32.not_lt.mp hz
      simpa using Int32.le_iff_toInt_le.mp this
    show z.toInt = ((z.toInt.toNat : Nat) : Int)
    omega
  have hA := am_ok.A ok ht
  rw [hty] at hA
  have hts := ok.2.2.2.2.1
  intro T hT XX
  have hc0 : H[am_ad U c0]? = some (vp_cell (am_dA U t) (n0, .inl (V c0))) := hH.1 c0 _ hs0
  have hc1 : H[am_ad U c1]? = some (vp_cell (am_dA U t) (n1, .inl (V c1))) := hH.1 c1 _ hs1
  obtain ⟨-, k0, hk0, cm0, hkk0⟩ := hA n0 (fun j => .int (V c0 j))
  obtain ⟨-, k1, hk1, cm1, hkk1⟩ := hA n1 (fun j => .int (V c1 j))
  obtain ⟨vm', X', step⟩ := XX.arraycopy ok.1 ok.2.2.2.1 (hts _ hw.1) (hts _ hw.2.1) (hts _ hw.2.2.1) (hts _ hw.2.2.2) (src := am_ad U c0) (dst := am_ad U c1) (cs := vp_cell (am_dA U t) (n0, .inl (V c0))) (cd := vp_cell (am_dA U t) (n1, .inl (V c1))) (srcPos := sp) (destPos := dp) (n := n) (by rw [hT]; exact hc0) (by rw [hT]; exact hc1)
    (fun _ h => by cases h) (fun _ h => by cases h) (fun h => by cases h) (fun h => by cases h) hk0 hk1 hkk0 hkk1 (by simp [refKind]) h1 h2 h3
    (by rw [nn sp h1, nn n h3]; show ¬ _ > ((arrV (am_dA U t) n0 (fun j => .int (V c0 j))).slots.size : Int); rw [arrV_size]; omega)
    (by rw [nn dp h2, nn n h3]; show ¬ _ > ((arrV (am_dA U t) n1 (fun j => .int (V c1 j))).slots.size : Int); rw [arrV_size]; omega)
    (fun vm₁ _ i hi => by
      have e : (vp_cell (am_dA U t) (n0, .inl (V c0))).slots.getD (sp.toNatClampNeg + i) .null = .int (V c0 (sp.toNatClampNeg + i)) := by
        show (arrV (am_dA U t) n0 (fun j => .int (V c0 j))).slots.getD _ _ = _
        rw [Array.getD_eq_getD_getElem?, arrV_read _ _ (by omega)]
        rfl
      refine ⟨?_, ?_⟩
      · rw [e]
        rfl
      · rw [e]
        exact trivial)
    (g := F0 (am_gm G) pc ls (.int n :: .int dp :: .ref (am_ad U c1) :: .int sp :: .ref (am_ad U c0) :: st.map (am_v (am_ad U)))) rfl (by rw [ok.2.2.1]; exact hl.1) (rest := st.map (am_v (am_ad U))) rfl (by rw [ok.2.1]; exact hdg) hframes (by rw [← am_cat (am_ad U)] at hlocals; show 2 * 0 + _ + _ ≤ _; omega)
  have e1 : copied (vp_cell (am_dA U t) (n0, .inl (V c0))) (vp_cell (am_dA U t) (n1, .inl (V c1))) sp dp n = vp_cell (am_dA U t) (n1, .inl (va_cpy (V c0) (V c1) sp.toNatClampNeg dp.toNatClampNeg n.toNatClampNeg)) := va_copied (fun z => .int z) _ _ _ _ h4
  rw [e1] at X' step
  have hl9 : am_ad U c1 < H.size := (Array.getElem?_eq_some_iff.mp hc1).1
  generalize hF : va_cpy (V c0) (V c1) sp.toNatClampNeg dp.toNatClampNeg n.toNatClampNeg = F at X' step kk
  have hheap : ((T.setVm vm').setCell (am_ad U c1) (vp_cell (am_dA U t) (n1, .inl F))).heap = H.setIfInBounds (am_ad U c1) (vp_cell (am_dA U t) (n1, .inl F)) := by rw [← hT]; rfl
  have oq : ∀ q : Nat, q ≠ am_ad U c1 → (H.setIfInBounds (am_ad U c1) (vp_cell (am_dA U t) (n1, .inl F)))[q]? = H[q]? := fun q hq => by simp [Array.getElem?_setIfInBounds, Ne.symm hq]
  have hat : va_at (am_D U) (am_cl X) (am_ad U c1, am_e (am_dA U) (am_ad U) F (.inr (t, n1, .inl false))) (H.setIfInBounds (am_ad U c1) (vp_cell (am_dA U t) (n1, .inl F))) := by
    show (H.setIfInBounds (am_ad U c1) _)[am_ad U c1]? = some _
    simp [Array.getElem?_setIfInBounds, hl9]
  have hHn := am_H.put (V1 := am_row V c1 F) ok.2.2.2.2.2.2.1 hH hs1 hw1 (am_row_at V c1 F) (fun d hd => am_row_ne V F hd) hat (by simp) oq
  obtain ⟨t9, a1, b1⟩ := kk _ _ ls hHn (by simp; exact hz) (am_locsL hlo (fun q hq => by
      obtain ⟨z, -, hz2⟩ := List.mem_map.mp hq
      rw [← hz2]
      exact ok.2.2.2.2.2.2.1.2.2.2.2 c1 _ hs1 hw1)) hl _ hheap X'
  exact ⟨t9, step t9 a1, b1⟩
/-! handlers: the frame that catches, its first row an astore -/
theorem am_store0 {ad : Nat → Nat} {nL : Nat} {L : List (Option Value)} {ls : Array Slot} {i : Nat} {w : Value} (h : am_l ad nL L ls) (hi : i < nL) (hc : w.category = 1) (hok : am_ok1 L i = true) :
    ∃ ls', storeLocals ls i w = some ls' ∧ am_l ad nL (L.set i none) ls' := by
  obtain ⟨h1, h2, h3⟩ := h
  obtain ⟨ls', e, h4⟩ := lv_store1 (l := []) (v := w) ⟨h1, h2, fun q hq => by cases hq⟩ hi hc
  refine ⟨ls', e, h4.1, h4.2.1, fun j v hw => ?_⟩
  rcases am_get_set L i j _ v hw with ⟨rfl, hv⟩ | ⟨hj, hg⟩
  · cases hv
  · obtain ⟨ls2, e2, h5⟩ := lv_store1 (l := [(j, am_v ad v)]) (v := w) ⟨h1, h2, fun q hq => by
      rw [List.mem_singleton.mp hq]
      exact h3 j v hg⟩ hi hc
    cases e.symm.trans e2
    refine h5.2.2 (j, am_v ad v) (List.mem_cons_of_mem _ (List.mem_filter.mpr ⟨List.mem_singleton.mpr rfl, ?_⟩))
    have hne : (j == i) = false := by simpa using hj
    have h6 : (j + 1 == i && (am_v ad v).category == 2) = false := by
      by_cases e1 : j + 1 = i
      · subst e1
        have h8 : (match am_get L j with | some v => v.category == 1 | none => true) = true := hok
        rw [hg] at h8
        simp [am_v_cat, eq_of_beq h8]
      · simp [e1]
    simp [hne, h6]
/-- a row of a method's table of handlers passes an exception of class E by: it doesn't cover the place, or names a class that E isn't -/
def am_hp (X : am_X) (own E : String) (pc : Nat) (z : ExceptionTableEntry) : Prop := covers z pc = false ∨ (z.catchType ≠ 0 ∧ ∃ nm : String, Cond.classLink own z.catchType nm ∈ am_WS X ∧ (E, nm) ∈ am_NC X)
theorem AX.catch {E name : String} {k : Nat} {n : Nat} (ok : am_ok X U G own cc nL) (pre : List ExceptionTableEntry) (x : ExceptionTableEntry) (suf : List ExceptionTableEntry) (hsplit : (am_gc G).exceptionTable.toList = pre ++ x :: suf) (hpass : ∀ z ∈ pre, am_hp X own E pc z) (hx : covers x pc = true) (h0 : x.catchType ≠ 0)
    (hlink : Cond.classLink own x.catchType name ∈ am_WS X) (hcast : Cond.castable E name ∈ am_NS X) (hk : k < nL) (hok : am_ok1 L k = true) (hd : (∃ q : Fin 4, q.val = k ∧ n = 1 ∧ decode cc x.handlerPc = .ok (.astore_n q, 1)) ∨ (n = 2 ∧ decode cc x.handlerPc = .ok (.astore k, 2)))
    (kk : AW X U G nL kc ks V Q (x.handlerPc + n) (L.set k none) []) : AX X U G nL kc ks V Q E pc L := by
  intro H locs ls rest q ce hH hz hlo hl hq hv hcl
  refine vx_catch ok.2.2.2.1 pre x suf hsplit (fun z hz => ?_) hx h0 (ok.2.2.2.2.1 _ hlink) (am_ok.NS ok hcast) hq hv hcl ?_
  · rcases hpass z hz with h | ⟨h1, nm, h2, h3⟩
    · exact Or.inl h
    · exact Or.inr ⟨h1, nm, ok.2.2.2.2.1 _ h2, am_ok.NC ok h3⟩
  · obtain ⟨ls', e', h'⟩ := am_store0 (w := .ref q) hl hk rfl hok
    have k2 := kk H locs ls' hH hz hlo h'
    rcases hd with ⟨q9, rfl, rfl, hdg⟩ | ⟨rfl, hdg⟩
    · intro T hT XX
      obtain ⟨t, a, b⟩ := k2 T hT XX
      refine ⟨t, ?_, b⟩
      have hx1 := ok.1
      have hb1 := ok.2.1
      jvm_step XX.here [XX.here.top, ↓top_set XX.here.top, hx1, hb1, hdg, e', Value.isRef]
      exact a
    · intro T hT XX
      obtain ⟨t, a, b⟩ := k2 T hT XX
      refine ⟨t, ?_, b⟩
      have hx1 := ok.1
      have hb1 := ok.2.1
      jvm_step XX.here [XX.here.top, ↓top_set XX.here.top, hx1, hb1, hdg, e', Value.isRef]
      exact a
end AMI
/-- the contract of a method with handlers -/
def am_CtW (X : am_X) (U : am_U) (l : Launch) (y : MethodName) (b : ByteArray) (nL : Nat) (ret : Option FieldType) (hh : List (Nat × Nat × Nat × Nat)) (rm : Room) (As : List Value) (V : am_V) (P : am_P) : Prop :=
  vx_Met l y (Cond.codeWith y b nL ret hh :: am_WS X) rm (fun v S => v = (As.map (am_v (am_ad U))).toArray ∧ am_St X U V S) (am_Qc X U P) (am_XC X U P) rm.cells rm.slots (am_fr U)
set_option maxHeartbeats 4000000 in
theorem am_CtW.of {X : am_X} {U : am_U} {l : Launch} {y : MethodName} {b : ByteArray} {nL : Nat} {ret : Option FieldType} {hh : List (Nat × Nat × Nat × Nat)} {rm : Room} {As : List Value} {V : am_V} {P : am_P} (hb : am_base X U) (hfl : l.stackTraces = false) (hy : plainName y.cls = true) (hlen : (As.map Value.category).sum ≤ nL)
    (body : ∀ G : am_G, am_gl G = l → am_gR G = rm → (am_gt G).sig.returnType = ret → am_ok X U G y.cls b nL → am_st0 U G → (am_gc G).exceptionTable.toList = tableOf hh → AW X U G nL 0 0 V (am_End X U G rm P) 0 (am_L0 nL As) []) : am_CtW X U l y b nL ret hh rm As V P := by
  refine vx_ofWH (cc := b) (maxL := nL) (ret := ret) (hh := hh) hy rfl ?_
  intro p e s m args below meth c s₁ B hml hv
  obtain ⟨rfl, hH, hW⟩ := hv
  have hts := atoms_spec (ws := Cond.codeWith y b nL ret hh :: am_WS X) B.pre
  have hown : s.vm.findClass y.cls = some m.cls := findClass_of_methodNamed B.named
  have hex := vx_table (x := y) B (hts _ List.mem_cons_self)
  have ok : am_ok X U (l, p, e, rm, s, m, (As.map (am_v (am_ad U))).toArray, below, meth, c) y.cls b nL := ⟨B.exec, B.bytes, hml, hown, fun w hw => hts w (List.mem_cons_of_mem _ hw), hW, hb, B.notSynchronized, hfl⟩
  have h1 := body (l, p, e, rm, s, m, (As.map (am_v (am_ad U))).toArray, below, meth, c) rfl rfl B.returns ok hH.2 hex
  rw [lg_entry_eq]
  have he := lv_entry (As.map (am_v (am_ad U))) (n := nL) (by rw [am_sl]; exact hlen)
  exact h1 s.heap [] _ hH (Nat.le_refl _) (fun q hq => by cases hq) ⟨he.1, he.2.1, fun i v hi => by
    have h2 := am_args (am_ad U) As nL 0 i v hi
    rw [Nat.zero_add] at h2
    exact he.2.2 _ h2⟩
end
section
-- ===== PART A: goes FIRST, ahead of the names: the tables' words, and 'selects' of the private methods out of them =====
/-- a private method of a class that the tables say can be made, by its rows of tables_1 -/
def lw_okq (q : MethodName × Nat) : Prop := (q.1.cls ≠ "java/lang/invoke/MethodHandle" ∧ q.1.cls ≠ "java/lang/invoke/VarHandle") ∧ Cond.instantiable q.1.cls q.2 ∈ tables_1 ∧ Cond.privateMethod q.1 ∈ tables_1 ∧ Cond.instanceMethod q.1 ∈ tables_1
theorem lw_p0 : lw_okq (⟨"DandelionBroadcast$Ways", "countBridgesFrom", "(LDandelionBroadcast$Net;I)I"⟩, 7) := ⟨⟨by decide +kernel, by decide +kernel⟩, List.mem_of_getElem? (i := 235) (by decide +kernel), List.mem_of_getElem? (i := 441) (by decide +kernel), List.mem_of_getElem? (i := 442) (by decide +kernel)⟩
theorem lw_p1 : lw_okq (⟨"DandelionBroadcast$Ways", "enter", "(II)V"⟩, 7) := ⟨⟨by decide +kernel, by decide +kernel⟩, List.mem_of_getElem? (i := 235) (by decide +kernel), List.mem_of_getElem? (i := 445) (by decide +kernel), List.mem_of_getElem? (i := 446) (by decide +kernel)⟩
theorem lw_p2 : lw_okq (⟨"DandelionBroadcast$Ways", "takePath", "(LDandelionBroadcast$Net;I)I"⟩, 7) := ⟨⟨by decide +kernel, by decide +kernel⟩, List.mem_of_getElem? (i := 235) (by decide +kernel), List.mem_of_getElem? (i := 449) (by decide +kernel), List.mem_of_getElem? (i := 450) (by decide +kernel)⟩
theorem lw_p3 : lw_okq (⟨"DandelionBroadcast", "treeCostsAgree", "()Z"⟩, 16) := ⟨⟨by decide +kernel, by decide +kernel⟩, List.mem_of_getElem? (i := 39) (by decide +kernel), List.mem_of_getElem? (i := 517) (by decide +kernel), List.mem_of_getElem? (i := 518) (by decide +kernel)⟩
theorem lw_p4 : lw_okq (⟨"DandelionBroadcast$SpreadTree", "joinLabels", "(LDandelionBroadcast$Net;I)Z"⟩, 5) := ⟨⟨by decide +kernel, by decide +kernel⟩, List.mem_of_getElem? (i := 263) (by decide +kernel), List.mem_of_getElem? (i := 530) (by decide +kernel), List.mem_of_getElem? (i := 531) (by decide +kernel)⟩
theorem lw_p5 : lw_okq (⟨"DandelionBroadcast$SpreadTree", "onlyAround", "(LDandelionBroadcast$Net;II)I"⟩, 5) := ⟨⟨by decide +kernel, by decide +kernel⟩, List.mem_of_getElem? (i := 263) (by decide +kernel), List.mem_of_getElem? (i := 534) (by decide +kernel), List.mem_of_getElem? (i := 535) (by decide +kernel)⟩
theorem lw_p6 : lw_okq (⟨"DandelionBroadcast$SpreadTree", "firstPathOut", "(LDandelionBroadcast$Net;)I"⟩, 5) := ⟨⟨by decide +kernel, by decide +kernel⟩, List.mem_of_getElem? (i := 263) (by decide +kernel), List.mem_of_getElem? (i := 547) (by decide +kernel), List.mem_of_getElem? (i := 548) (by decide +kernel)⟩
theorem lw_p7 : lw_okq (⟨"DandelionBroadcast$SpreadTree", "attach", "(LDandelionBroadcast$Net;I)V"⟩, 5) := ⟨⟨by decide +kernel, by decide +kernel⟩, List.mem_of_getElem? (i := 263) (by decide +kernel), List.mem_of_getElem? (i := 551) (by decide +kernel), List.mem_of_getElem? (i := 552) (by decide +kernel)⟩
theorem lw_p8 : lw_okq (⟨"DandelionBroadcast", "waysAgreeWithCuts", "()Z"⟩, 16) := ⟨⟨by decide +kernel, by decide +kernel⟩, List.mem_of_getElem? (i := 39) (by decide +kernel), List.mem_of_getElem? (i := 560) (by decide +kernel), List.mem_of_getElem? (i := 561) (by decide +kernel)⟩
theorem lw_p9 : lw_okq (⟨"DandelionBroadcast$Ways", "addWay", "(LDandelionBroadcast$Net;II)Z"⟩, 7) := ⟨⟨by decide +kernel, by decide +kernel⟩, List.mem_of_getElem? (i := 235) (by decide +kernel), List.mem_of_getElem? (i := 568) (by decide +kernel), List.mem_of_getElem? (i := 569) (by decide +kernel)⟩
theorem lw_p10 : lw_okq (⟨"DandelionBroadcast$Ways", "reachByFlows", "(LDandelionBroadcast$Net;I)I"⟩, 7) := ⟨⟨by decide +kernel, by decide +kernel⟩, List.mem_of_getElem? (i := 235) (by decide +kernel), List.mem_of_getElem? (i := 572) (by decide +kernel), List.mem_of_getElem? (i := 573) (by decide +kernel)⟩
theorem lw_p11 : lw_okq (⟨"DandelionBroadcast$Changer", "reject", "(II)I"⟩, 2) := ⟨⟨by decide +kernel, by decide +kernel⟩, List.mem_of_getElem? (i := 304) (by decide +kernel), List.mem_of_getElem? (i := 629) (by decide +kernel), List.mem_of_getElem? (i := 630) (by decide +kernel)⟩
theorem lw_p12 : lw_okq (⟨"DandelionBroadcast", "settle", "(I)I"⟩, 16) := ⟨⟨by decide +kernel, by decide +kernel⟩, List.mem_of_getElem? (i := 39) (by decide +kernel), List.mem_of_getElem? (i := 633) (by decide +kernel), List.mem_of_getElem? (i := 634) (by decide +kernel)⟩
theorem lw_p13 : lw_okq (⟨"java/lang/Throwable", "fillInStackTrace", "(I)Ljava/lang/Throwable;"⟩, 6) := ⟨⟨by decide +kernel, by decide +kernel⟩, List.mem_of_getElem? (i := 679) (by decide +kernel), List.mem_of_getElem? (i := 677) (by decide +kernel), List.mem_of_getElem? (i := 678) (by decide +kernel)⟩
theorem lw_p14 : lw_okq (⟨"DandelionBroadcast", "noteRejection", "(III)V"⟩, 16) := ⟨⟨by decide +kernel, by decide +kernel⟩, List.mem_of_getElem? (i := 39) (by decide +kernel), List.mem_of_getElem? (i := 725) (by decide +kernel), List.mem_of_getElem? (i := 726) (by decide +kernel)⟩
theorem lw_p15 : lw_okq (⟨"DandelionBroadcast", "requireField", "(I)V"⟩, 16) := ⟨⟨by decide +kernel, by decide +kernel⟩, List.mem_of_getElem? (i := 39) (by decide +kernel), List.mem_of_getElem? (i := 843) (by decide +kernel), List.mem_of_getElem? (i := 844) (by decide +kernel)⟩
def lw_privs_1 : List (MethodName × Nat) := [(⟨"DandelionBroadcast$Ways", "countBridgesFrom", "(LDandelionBroadcast$Net;I)I"⟩, 7), (⟨"DandelionBroadcast$Ways", "enter", "(II)V"⟩, 7), (⟨"DandelionBroadcast$Ways", "takePath", "(LDandelionBroadcast$Net;I)I"⟩, 7), (⟨"DandelionBroadcast", "treeCostsAgree", "()Z"⟩, 16), (⟨"DandelionBroadcast$SpreadTree", "joinLabels", "(LDandelionBroadcast$Net;I)Z"⟩, 5), (⟨"DandelionBroadcast$SpreadTree", "onlyAround", "(LDandelionBroadcast$Net;II)I"⟩, 5), (⟨"DandelionBroadcast$SpreadTree", "firstPathOut", "(LDandelionBroadcast$Net;)I"⟩, 5), (⟨"DandelionBroadcast$SpreadTree", "attach", "(LDandelionBroadcast$Net;I)V"⟩, 5), (⟨"DandelionBroadcast", "waysAgreeWithCuts", "()Z"⟩, 16), (⟨"DandelionBroadcast$Ways", "addWay", "(LDandelionBroadcast$Net;II)Z"⟩, 7), (⟨"DandelionBroadcast$Ways", "reachByFlows", "(LDandelionBroadcast$Net;I)I"⟩, 7), (⟨"DandelionBroadcast$Changer", "reject", "(II)I"⟩, 2), (⟨"DandelionBroadcast", "settle", "(I)I"⟩, 16), (⟨"java/lang/Throwable", "fillInStackTrace", "(I)Ljava/lang/Throwable;"⟩, 6), (⟨"DandelionBroadcast", "noteRejection", "(III)V"⟩, 16), (⟨"DandelionBroadcast", "requireField", "(I)V"⟩, 16)]
theorem lw_r1 : ∀ q ∈ lw_privs_1, lw_okq q := List.forall_mem_cons.mpr ⟨lw_p0, List.forall_mem_cons.mpr ⟨lw_p1, List.forall_mem_cons.mpr ⟨lw_p2, List.forall_mem_cons.mpr ⟨lw_p3, List.forall_mem_cons.mpr ⟨lw_p4, List.forall_mem_cons.mpr ⟨lw_p5, List.forall_mem_cons.mpr ⟨lw_p6, List.forall_mem_cons.mpr ⟨lw_p7, List.forall_mem_cons.mpr ⟨lw_p8, List.forall_mem_cons.mpr ⟨lw_p9, List.forall_mem_cons.mpr ⟨lw_p10, List.forall_mem_cons.mpr ⟨lw_p11, List.forall_mem_cons.mpr ⟨lw_p12, List.forall_mem_cons.mpr ⟨lw_p13, List.forall_mem_cons.mpr ⟨lw_p14, List.forall_mem_cons.mpr ⟨lw_p15, fun _ h => absurd h List.not_mem_nil⟩⟩⟩⟩⟩⟩⟩⟩⟩⟩⟩⟩⟩⟩⟩⟩
theorem lw_p16 : lw_okq (⟨"DandelionBroadcast", "requirePath", "(I)V"⟩, 16) := ⟨⟨by decide +kernel, by decide +kernel⟩, List.mem_of_getElem? (i := 39) (by decide +kernel), List.mem_of_getElem? (i := 856) (by decide +kernel), List.mem_of_getElem? (i := 857) (by decide +kernel)⟩
theorem lw_p17 : lw_okq (⟨"DandelionBroadcast$Ways", "startCosts", "(I)V"⟩, 7) := ⟨⟨by decide +kernel, by decide +kernel⟩, List.mem_of_getElem? (i := 235) (by decide +kernel), List.mem_of_getElem? (i := 912) (by decide +kernel), List.mem_of_getElem? (i := 913) (by decide +kernel)⟩
theorem lw_p18 : lw_okq (⟨"DandelionBroadcast$Ways", "nearestOutside", "(LDandelionBroadcast$Net;I)I"⟩, 7) := ⟨⟨by decide +kernel, by decide +kernel⟩, List.mem_of_getElem? (i := 235) (by decide +kernel), List.mem_of_getElem? (i := 916) (by decide +kernel), List.mem_of_getElem? (i := 917) (by decide +kernel)⟩
theorem lw_p19 : lw_okq (⟨"DandelionBroadcast$Ways", "lowerAround", "(LDandelionBroadcast$Net;I)V"⟩, 7) := ⟨⟨by decide +kernel, by decide +kernel⟩, List.mem_of_getElem? (i := 235) (by decide +kernel), List.mem_of_getElem? (i := 920) (by decide +kernel), List.mem_of_getElem? (i := 921) (by decide +kernel)⟩
theorem lw_p20 : lw_okq (⟨"DandelionBroadcast", "requireTwoFields", "(II)V"⟩, 16) := ⟨⟨by decide +kernel, by decide +kernel⟩, List.mem_of_getElem? (i := 39) (by decide +kernel), List.mem_of_getElem? (i := 961) (by decide +kernel), List.mem_of_getElem? (i := 962) (by decide +kernel)⟩
theorem lw_p21 : lw_okq (⟨"DandelionBroadcast$Winds", "sendDown", "(LDandelionBroadcast$State;I)I"⟩, 1) := ⟨⟨by decide +kernel, by decide +kernel⟩, List.mem_of_getElem? (i := 292) (by decide +kernel), List.mem_of_getElem? (i := 1066) (by decide +kernel), List.mem_of_getElem? (i := 1067) (by decide +kernel)⟩
theorem lw_p22 : lw_okq (⟨"DandelionBroadcast$Winds", "arrives", "(LDandelionBroadcast$State;I)Z"⟩, 1) := ⟨⟨by decide +kernel, by decide +kernel⟩, List.mem_of_getElem? (i := 292) (by decide +kernel), List.mem_of_getElem? (i := 1071) (by decide +kernel), List.mem_of_getElem? (i := 1072) (by decide +kernel)⟩
theorem lw_p23 : lw_okq (⟨"DandelionBroadcast$Winds", "rebuildMissing", "(LDandelionBroadcast$State;)V"⟩, 1) := ⟨⟨by decide +kernel, by decide +kernel⟩, List.mem_of_getElem? (i := 292) (by decide +kernel), List.mem_of_getElem? (i := 1076) (by decide +kernel), List.mem_of_getElem? (i := 1077) (by decide +kernel)⟩
theorem lw_p24 : lw_okq (⟨"DandelionBroadcast$Winds", "endIfDue", "(LDandelionBroadcast$State;)V"⟩, 1) := ⟨⟨by decide +kernel, by decide +kernel⟩, List.mem_of_getElem? (i := 292) (by decide +kernel), List.mem_of_getElem? (i := 1082) (by decide +kernel), List.mem_of_getElem? (i := 1083) (by decide +kernel)⟩
theorem lw_p25 : lw_okq (⟨"DandelionBroadcast$Winds", "coversTree", "(LDandelionBroadcast$State;)Z"⟩, 1) := ⟨⟨by decide +kernel, by decide +kernel⟩, List.mem_of_getElem? (i := 292) (by decide +kernel), List.mem_of_getElem? (i := 1086) (by decide +kernel), List.mem_of_getElem? (i := 1087) (by decide +kernel)⟩
theorem lw_p26 : lw_okq (⟨"DandelionBroadcast", "requireStarted", "()V"⟩, 16) := ⟨⟨by decide +kernel, by decide +kernel⟩, List.mem_of_getElem? (i := 39) (by decide +kernel), List.mem_of_getElem? (i := 1120) (by decide +kernel), List.mem_of_getElem? (i := 1121) (by decide +kernel)⟩
theorem lw_p27 : lw_okq (⟨"DandelionBroadcast", "requireRunning", "()V"⟩, 16) := ⟨⟨by decide +kernel, by decide +kernel⟩, List.mem_of_getElem? (i := 39) (by decide +kernel), List.mem_of_getElem? (i := 1156) (by decide +kernel), List.mem_of_getElem? (i := 1157) (by decide +kernel)⟩
theorem lw_p28 : lw_okq (⟨"DandelionBroadcast$State", "fieldIsAhead", "(II)Z"⟩, 9) := ⟨⟨by decide +kernel, by decide +kernel⟩, List.mem_of_getElem? (i := 47) (by decide +kernel), List.mem_of_getElem? (i := 1186) (by decide +kernel), List.mem_of_getElem? (i := 1187) (by decide +kernel)⟩
theorem lw_p29 : lw_okq (⟨"DandelionBroadcast$State", "pathIsAhead", "(II)Z"⟩, 9) := ⟨⟨by decide +kernel, by decide +kernel⟩, List.mem_of_getElem? (i := 47) (by decide +kernel), List.mem_of_getElem? (i := 1203) (by decide +kernel), List.mem_of_getElem? (i := 1204) (by decide +kernel)⟩
theorem lw_p30 : lw_okq (⟨"DandelionBroadcast", "requireSent", "()V"⟩, 16) := ⟨⟨by decide +kernel, by decide +kernel⟩, List.mem_of_getElem? (i := 39) (by decide +kernel), List.mem_of_getElem? (i := 1228) (by decide +kernel), List.mem_of_getElem? (i := 1229) (by decide +kernel)⟩
theorem lw_p31 : lw_okq (⟨"DandelionBroadcast", "put", "(C)V"⟩, 16) := ⟨⟨by decide +kernel, by decide +kernel⟩, List.mem_of_getElem? (i := 39) (by decide +kernel), List.mem_of_getElem? (i := 1260) (by decide +kernel), List.mem_of_getElem? (i := 1261) (by decide +kernel)⟩
def lw_privs_2 : List (MethodName × Nat) := [(⟨"DandelionBroadcast", "requirePath", "(I)V"⟩, 16), (⟨"DandelionBroadcast$Ways", "startCosts", "(I)V"⟩, 7), (⟨"DandelionBroadcast$Ways", "nearestOutside", "(LDandelionBroadcast$Net;I)I"⟩, 7), (⟨"DandelionBroadcast$Ways", "lowerAround", "(LDandelionBroadcast$Net;I)V"⟩, 7), (⟨"DandelionBroadcast", "requireTwoFields", "(II)V"⟩, 16), (⟨"DandelionBroadcast$Winds", "sendDown", "(LDandelionBroadcast$State;I)I"⟩, 1), (⟨"DandelionBroadcast$Winds", "arrives", "(LDandelionBroadcast$State;I)Z"⟩, 1), (⟨"DandelionBroadcast$Winds", "rebuildMissing", "(LDandelionBroadcast$State;)V"⟩, 1), (⟨"DandelionBroadcast$Winds", "endIfDue", "(LDandelionBroadcast$State;)V"⟩, 1), (⟨"DandelionBroadcast$Winds", "coversTree", "(LDandelionBroadcast$State;)Z"⟩, 1), (⟨"DandelionBroadcast", "requireStarted", "()V"⟩, 16), (⟨"DandelionBroadcast", "requireRunning", "()V"⟩, 16), (⟨"DandelionBroadcast$State", "fieldIsAhead", "(II)Z"⟩, 9), (⟨"DandelionBroadcast$State", "pathIsAhead", "(II)Z"⟩, 9), (⟨"DandelionBroadcast", "requireSent", "()V"⟩, 16), (⟨"DandelionBroadcast", "put", "(C)V"⟩, 16)]
theorem lw_r2 : ∀ q ∈ lw_privs_2, lw_okq q := List.forall_mem_cons.mpr ⟨lw_p16, List.forall_mem_cons.mpr ⟨lw_p17, List.forall_mem_cons.mpr ⟨lw_p18, List.forall_mem_cons.mpr ⟨lw_p19, List.forall_mem_cons.mpr ⟨lw_p20, List.forall_mem_cons.mpr ⟨lw_p21, List.forall_mem_cons.mpr ⟨lw_p22, List.forall_mem_cons.mpr ⟨lw_p23, List.forall_mem_cons.mpr ⟨lw_p24, List.forall_mem_cons.mpr ⟨lw_p25, List.forall_mem_cons.mpr ⟨lw_p26, List.forall_mem_cons.mpr ⟨lw_p27, List.forall_mem_cons.mpr ⟨lw_p28, List.forall_mem_cons.mpr ⟨lw_p29, List.forall_mem_cons.mpr ⟨lw_p30, List.forall_mem_cons.mpr ⟨lw_p31, fun _ h => absurd h List.not_mem_nil⟩⟩⟩⟩⟩⟩⟩⟩⟩⟩⟩⟩⟩⟩⟩⟩
theorem lw_p32 : lw_okq (⟨"DandelionBroadcast$Commands", "readAll", "()I"⟩, 6) := ⟨⟨by decide +kernel, by decide +kernel⟩, List.mem_of_getElem? (i := 319) (by decide +kernel), List.mem_of_getElem? (i := 1312) (by decide +kernel), List.mem_of_getElem? (i := 1313) (by decide +kernel)⟩
theorem lw_p33 : lw_okq (⟨"DandelionBroadcast$Commands", "readCommand", "(I)Z"⟩, 6) := ⟨⟨by decide +kernel, by decide +kernel⟩, List.mem_of_getElem? (i := 319) (by decide +kernel), List.mem_of_getElem? (i := 1316) (by decide +kernel), List.mem_of_getElem? (i := 1317) (by decide +kernel)⟩
theorem lw_p34 : lw_okq (⟨"DandelionBroadcast$Commands", "takeShape", "(Ljava/lang/String;[I)Z"⟩, 6) := ⟨⟨by decide +kernel, by decide +kernel⟩, List.mem_of_getElem? (i := 319) (by decide +kernel), List.mem_of_getElem? (i := 1322) (by decide +kernel), List.mem_of_getElem? (i := 1323) (by decide +kernel)⟩
theorem lw_p35 : lw_okq (⟨"DandelionBroadcast$Commands", "takeValue", "(C)I"⟩, 6) := ⟨⟨by decide +kernel, by decide +kernel⟩, List.mem_of_getElem? (i := 319) (by decide +kernel), List.mem_of_getElem? (i := 1374) (by decide +kernel), List.mem_of_getElem? (i := 1375) (by decide +kernel)⟩
theorem lw_p36 : lw_okq (⟨"DandelionBroadcast$Commands", "takeSign", "(C)Z"⟩, 6) := ⟨⟨by decide +kernel, by decide +kernel⟩, List.mem_of_getElem? (i := 319) (by decide +kernel), List.mem_of_getElem? (i := 1378) (by decide +kernel), List.mem_of_getElem? (i := 1379) (by decide +kernel)⟩
theorem lw_p37 : lw_okq (⟨"DandelionBroadcast$Commands", "takeDigits", "(I)I"⟩, 6) := ⟨⟨by decide +kernel, by decide +kernel⟩, List.mem_of_getElem? (i := 319) (by decide +kernel), List.mem_of_getElem? (i := 1382) (by decide +kernel), List.mem_of_getElem? (i := 1383) (by decide +kernel)⟩
theorem lw_p38 : lw_okq (⟨"DandelionBroadcast", "perform", "(LDandelionBroadcast$Kind;[I)I"⟩, 16) := ⟨⟨by decide +kernel, by decide +kernel⟩, List.mem_of_getElem? (i := 39) (by decide +kernel), List.mem_of_getElem? (i := 1390) (by decide +kernel), List.mem_of_getElem? (i := 1391) (by decide +kernel)⟩
theorem lw_p39 : lw_okq (⟨"DandelionBroadcast", "requireRejection", "()V"⟩, 16) := ⟨⟨by decide +kernel, by decide +kernel⟩, List.mem_of_getElem? (i := 39) (by decide +kernel), List.mem_of_getElem? (i := 1423) (by decide +kernel), List.mem_of_getElem? (i := 1424) (by decide +kernel)⟩
theorem lw_p40 : lw_okq (⟨"DandelionBroadcastModel", "fails", "(IZ)Z"⟩, 28) := ⟨⟨by decide +kernel, by decide +kernel⟩, List.mem_of_getElem? (i := 1467) (by decide +kernel), List.mem_of_getElem? (i := 1573) (by decide +kernel), List.mem_of_getElem? (i := 1574) (by decide +kernel)⟩
theorem lw_p41 : lw_okq (⟨"DandelionBroadcastModel", "rejects", "(ZII)Z"⟩, 28) := ⟨⟨by decide +kernel, by decide +kernel⟩, List.mem_of_getElem? (i := 1467) (by decide +kernel), List.mem_of_getElem? (i := 1577) (by decide +kernel), List.mem_of_getElem? (i := 1578) (by decide +kernel)⟩
theorem lw_p42 : lw_okq (⟨"DandelionBroadcastModel", "change", "()V"⟩, 28) := ⟨⟨by decide +kernel, by decide +kernel⟩, List.mem_of_getElem? (i := 1467) (by decide +kernel), List.mem_of_getElem? (i := 1581) (by decide +kernel), List.mem_of_getElem? (i := 1582) (by decide +kernel)⟩
theorem lw_p43 : lw_okq (⟨"DandelionBroadcastModel", "remember", "([I)V"⟩, 28) := ⟨⟨by decide +kernel, by decide +kernel⟩, List.mem_of_getElem? (i := 1467) (by decide +kernel), List.mem_of_getElem? (i := 1585) (by decide +kernel), List.mem_of_getElem? (i := 1586) (by decide +kernel)⟩
theorem lw_p44 : lw_okq (⟨"DandelionBroadcastModel", "putField", "(III)V"⟩, 28) := ⟨⟨by decide +kernel, by decide +kernel⟩, List.mem_of_getElem? (i := 1467) (by decide +kernel), List.mem_of_getElem? (i := 1592) (by decide +kernel), List.mem_of_getElem? (i := 1593) (by decide +kernel)⟩
theorem lw_p45 : lw_okq (⟨"DandelionBroadcastModel", "isField", "(I)Z"⟩, 28) := ⟨⟨by decide +kernel, by decide +kernel⟩, List.mem_of_getElem? (i := 1467) (by decide +kernel), List.mem_of_getElem? (i := 1600) (by decide +kernel), List.mem_of_getElem? (i := 1601) (by decide +kernel)⟩
theorem lw_p46 : lw_okq (⟨"DandelionBroadcastModel", "ofField", "(II)I"⟩, 28) := ⟨⟨by decide +kernel, by decide +kernel⟩, List.mem_of_getElem? (i := 1467) (by decide +kernel), List.mem_of_getElem? (i := 1604) (by decide +kernel), List.mem_of_getElem? (i := 1605) (by decide +kernel)⟩
theorem lw_p47 : lw_okq (⟨"DandelionBroadcastModel", "areFields", "(II)Z"⟩, 28) := ⟨⟨by decide +kernel, by decide +kernel⟩, List.mem_of_getElem? (i := 1467) (by decide +kernel), List.mem_of_getElem? (i := 1612) (by decide +kernel), List.mem_of_getElem? (i := 1613) (by decide +kernel)⟩
def lw_privs_3 : List (MethodName × Nat) := [(⟨"DandelionBroadcast$Commands", "readAll", "()I"⟩, 6), (⟨"DandelionBroadcast$Commands", "readCommand", "(I)Z"⟩, 6), (⟨"DandelionBroadcast$Commands", "takeShape", "(Ljava/lang/String;[I)Z"⟩, 6), (⟨"DandelionBroadcast$Commands", "takeValue", "(C)I"⟩, 6), (⟨"DandelionBroadcast$Commands", "takeSign", "(C)Z"⟩, 6), (⟨"DandelionBroadcast$Commands", "takeDigits", "(I)I"⟩, 6), (⟨"DandelionBroadcast", "perform", "(LDandelionBroadcast$Kind;[I)I"⟩, 16), (⟨"DandelionBroadcast", "requireRejection", "()V"⟩, 16), (⟨"DandelionBroadcastModel", "fails", "(IZ)Z"⟩, 28), (⟨"DandelionBroadcastModel", "rejects", "(ZII)Z"⟩, 28), (⟨"DandelionBroadcastModel", "change", "()V"⟩, 28), (⟨"DandelionBroadcastModel", "remember", "([I)V"⟩, 28), (⟨"DandelionBroadcastModel", "putField", "(III)V"⟩, 28), (⟨"DandelionBroadcastModel", "isField", "(I)Z"⟩, 28), (⟨"DandelionBroadcastModel", "ofField", "(II)I"⟩, 28), (⟨"DandelionBroadcastModel", "areFields", "(II)Z"⟩, 28)]
theorem lw_r3 : ∀ q ∈ lw_privs_3, lw_okq q := List.forall_mem_cons.mpr ⟨lw_p32, List.forall_mem_cons.mpr ⟨lw_p33, List.forall_mem_cons.mpr ⟨lw_p34, List.forall_mem_cons.mpr ⟨lw_p35, List.forall_mem_cons.mpr ⟨lw_p36, List.forall_mem_cons.mpr ⟨lw_p37, List.forall_mem_cons.mpr ⟨lw_p38, List.forall_mem_cons.mpr ⟨lw_p39, List.forall_mem_cons.mpr ⟨lw_p40, List.forall_mem_cons.mpr ⟨lw_p41, List.forall_mem_cons.mpr ⟨lw_p42, List.forall_mem_cons.mpr ⟨lw_p43, List.forall_mem_cons.mpr ⟨lw_p44, List.forall_mem_cons.mpr ⟨lw_p45, List.forall_mem_cons.mpr ⟨lw_p46, List.forall_mem_cons.mpr ⟨lw_p47, fun _ h => absurd h List.not_mem_nil⟩⟩⟩⟩⟩⟩⟩⟩⟩⟩⟩⟩⟩⟩⟩⟩
theorem lw_p48 : lw_okq (⟨"DandelionBroadcastModel", "between", "(II)I"⟩, 28) := ⟨⟨by decide +kernel, by decide +kernel⟩, List.mem_of_getElem? (i := 1467) (by decide +kernel), List.mem_of_getElem? (i := 1616) (by decide +kernel), List.mem_of_getElem? (i := 1617) (by decide +kernel)⟩
theorem lw_p49 : lw_okq (⟨"DandelionBroadcastModel", "of", "(II)I"⟩, 28) := ⟨⟨by decide +kernel, by decide +kernel⟩, List.mem_of_getElem? (i := 1467) (by decide +kernel), List.mem_of_getElem? (i := 1620) (by decide +kernel), List.mem_of_getElem? (i := 1621) (by decide +kernel)⟩
theorem lw_p50 : lw_okq (⟨"DandelionBroadcastModel", "openPaths", "()I"⟩, 28) := ⟨⟨by decide +kernel, by decide +kernel⟩, List.mem_of_getElem? (i := 1467) (by decide +kernel), List.mem_of_getElem? (i := 1624) (by decide +kernel), List.mem_of_getElem? (i := 1625) (by decide +kernel)⟩
theorem lw_p51 : lw_okq (⟨"DandelionBroadcastModel", "put", "(III)V"⟩, 28) := ⟨⟨by decide +kernel, by decide +kernel⟩, List.mem_of_getElem? (i := 1467) (by decide +kernel), List.mem_of_getElem? (i := 1629) (by decide +kernel), List.mem_of_getElem? (i := 1630) (by decide +kernel)⟩
theorem lw_p52 : lw_okq (⟨"DandelionBroadcastModel", "isPath", "(I)Z"⟩, 28) := ⟨⟨by decide +kernel, by decide +kernel⟩, List.mem_of_getElem? (i := 1467) (by decide +kernel), List.mem_of_getElem? (i := 1637) (by decide +kernel), List.mem_of_getElem? (i := 1638) (by decide +kernel)⟩
theorem lw_p53 : lw_okq (⟨"DandelionBroadcastModel", "countBlocked", "()I"⟩, 28) := ⟨⟨by decide +kernel, by decide +kernel⟩, List.mem_of_getElem? (i := 1467) (by decide +kernel), List.mem_of_getElem? (i := 1645) (by decide +kernel), List.mem_of_getElem? (i := 1646) (by decide +kernel)⟩
theorem lw_p54 : lw_okq (⟨"DandelionBroadcastModel", "runs", "()Z"⟩, 28) := ⟨⟨by decide +kernel, by decide +kernel⟩, List.mem_of_getElem? (i := 1467) (by decide +kernel), List.mem_of_getElem? (i := 1657) (by decide +kernel), List.mem_of_getElem? (i := 1658) (by decide +kernel)⟩
theorem lw_p55 : lw_okq (⟨"DandelionBroadcastModel", "allPackets", "()I"⟩, 28) := ⟨⟨by decide +kernel, by decide +kernel⟩, List.mem_of_getElem? (i := 1467) (by decide +kernel), List.mem_of_getElem? (i := 1661) (by decide +kernel), List.mem_of_getElem? (i := 1662) (by decide +kernel)⟩
theorem lw_p56 : lw_okq (⟨"DandelionBroadcastModel", "packets", "()I"⟩, 28) := ⟨⟨by decide +kernel, by decide +kernel⟩, List.mem_of_getElem? (i := 1467) (by decide +kernel), List.mem_of_getElem? (i := 1665) (by decide +kernel), List.mem_of_getElem? (i := 1666) (by decide +kernel)⟩
theorem lw_p57 : lw_okq (⟨"DandelionBroadcastModel", "isIdle", "()Z"⟩, 28) := ⟨⟨by decide +kernel, by decide +kernel⟩, List.mem_of_getElem? (i := 1467) (by decide +kernel), List.mem_of_getElem? (i := 1673) (by decide +kernel), List.mem_of_getElem? (i := 1674) (by decide +kernel)⟩
theorem lw_p58 : lw_okq (⟨"DandelionBroadcastModel", "blow", "()I"⟩, 28) := ⟨⟨by decide +kernel, by decide +kernel⟩, List.mem_of_getElem? (i := 1467) (by decide +kernel), List.mem_of_getElem? (i := 1677) (by decide +kernel), List.mem_of_getElem? (i := 1678) (by decide +kernel)⟩
theorem lw_p59 : lw_okq (⟨"DandelionBroadcastModel", "growTree", "(I)V"⟩, 28) := ⟨⟨by decide +kernel, by decide +kernel⟩, List.mem_of_getElem? (i := 1467) (by decide +kernel), List.mem_of_getElem? (i := 1681) (by decide +kernel), List.mem_of_getElem? (i := 1682) (by decide +kernel)⟩
theorem lw_p60 : lw_okq (⟨"DandelionBroadcastModel", "forest", "()I"⟩, 28) := ⟨⟨by decide +kernel, by decide +kernel⟩, List.mem_of_getElem? (i := 1467) (by decide +kernel), List.mem_of_getElem? (i := 1685) (by decide +kernel), List.mem_of_getElem? (i := 1686) (by decide +kernel)⟩
theorem lw_p61 : lw_okq (⟨"DandelionBroadcastModel", "separate", "()V"⟩, 28) := ⟨⟨by decide +kernel, by decide +kernel⟩, List.mem_of_getElem? (i := 1467) (by decide +kernel), List.mem_of_getElem? (i := 1689) (by decide +kernel), List.mem_of_getElem? (i := 1690) (by decide +kernel)⟩
theorem lw_p62 : lw_okq (⟨"DandelionBroadcastModel", "join", "(I)V"⟩, 28) := ⟨⟨by decide +kernel, by decide +kernel⟩, List.mem_of_getElem? (i := 1467) (by decide +kernel), List.mem_of_getElem? (i := 1696) (by decide +kernel), List.mem_of_getElem? (i := 1697) (by decide +kernel)⟩
theorem lw_p63 : lw_okq (⟨"DandelionBroadcastModel", "reach", "(III)V"⟩, 28) := ⟨⟨by decide +kernel, by decide +kernel⟩, List.mem_of_getElem? (i := 1467) (by decide +kernel), List.mem_of_getElem? (i := 1702) (by decide +kernel), List.mem_of_getElem? (i := 1703) (by decide +kernel)⟩
def lw_privs_4 : List (MethodName × Nat) := [(⟨"DandelionBroadcastModel", "between", "(II)I"⟩, 28), (⟨"DandelionBroadcastModel", "of", "(II)I"⟩, 28), (⟨"DandelionBroadcastModel", "openPaths", "()I"⟩, 28), (⟨"DandelionBroadcastModel", "put", "(III)V"⟩, 28), (⟨"DandelionBroadcastModel", "isPath", "(I)Z"⟩, 28), (⟨"DandelionBroadcastModel", "countBlocked", "()I"⟩, 28), (⟨"DandelionBroadcastModel", "runs", "()Z"⟩, 28), (⟨"DandelionBroadcastModel", "allPackets", "()I"⟩, 28), (⟨"DandelionBroadcastModel", "packets", "()I"⟩, 28), (⟨"DandelionBroadcastModel", "isIdle", "()Z"⟩, 28), (⟨"DandelionBroadcastModel", "blow", "()I"⟩, 28), (⟨"DandelionBroadcastModel", "growTree", "(I)V"⟩, 28), (⟨"DandelionBroadcastModel", "forest", "()I"⟩, 28), (⟨"DandelionBroadcastModel", "separate", "()V"⟩, 28), (⟨"DandelionBroadcastModel", "join", "(I)V"⟩, 28), (⟨"DandelionBroadcastModel", "reach", "(III)V"⟩, 28)]
theorem lw_r4 : ∀ q ∈ lw_privs_4, lw_okq q := List.forall_mem_cons.mpr ⟨lw_p48, List.forall_mem_cons.mpr ⟨lw_p49, List.forall_mem_cons.mpr ⟨lw_p50, List.forall_mem_cons.mpr ⟨lw_p51, List.forall_mem_cons.mpr ⟨lw_p52, List.forall_mem_cons.mpr ⟨lw_p53, List.forall_mem_cons.mpr ⟨lw_p54, List.forall_mem_cons.mpr ⟨lw_p55, List.forall_mem_cons.mpr ⟨lw_p56, List.forall_mem_cons.mpr ⟨lw_p57, List.forall_mem_cons.mpr ⟨lw_p58, List.forall_mem_cons.mpr ⟨lw_p59, List.forall_mem_cons.mpr ⟨lw_p60, List.forall_mem_cons.mpr ⟨lw_p61, List.forall_mem_cons.mpr ⟨lw_p62, List.forall_mem_cons.mpr ⟨lw_p63, fun _ h => absurd h List.not_mem_nil⟩⟩⟩⟩⟩⟩⟩⟩⟩⟩⟩⟩⟩⟩⟩⟩
theorem lw_p64 : lw_okq (⟨"DandelionBroadcastModel", "visit", "(I)I"⟩, 28) := ⟨⟨by decide +kernel, by decide +kernel⟩, List.mem_of_getElem? (i := 1467) (by decide +kernel), List.mem_of_getElem? (i := 1706) (by decide +kernel), List.mem_of_getElem? (i := 1707) (by decide +kernel)⟩
theorem lw_p65 : lw_okq (⟨"DandelionBroadcastModel", "send", "(II)I"⟩, 28) := ⟨⟨by decide +kernel, by decide +kernel⟩, List.mem_of_getElem? (i := 1467) (by decide +kernel), List.mem_of_getElem? (i := 1710) (by decide +kernel), List.mem_of_getElem? (i := 1711) (by decide +kernel)⟩
theorem lw_p66 : lw_okq (⟨"DandelionBroadcastModel", "danger", "(II)I"⟩, 28) := ⟨⟨by decide +kernel, by decide +kernel⟩, List.mem_of_getElem? (i := 1467) (by decide +kernel), List.mem_of_getElem? (i := 1714) (by decide +kernel), List.mem_of_getElem? (i := 1715) (by decide +kernel)⟩
theorem lw_p67 : lw_okq (⟨"DandelionBroadcastModel", "rebuild", "()V"⟩, 28) := ⟨⟨by decide +kernel, by decide +kernel⟩, List.mem_of_getElem? (i := 1467) (by decide +kernel), List.mem_of_getElem? (i := 1718) (by decide +kernel), List.mem_of_getElem? (i := 1719) (by decide +kernel)⟩
theorem lw_p68 : lw_okq (⟨"DandelionBroadcastModel", "judgeEnd", "()V"⟩, 28) := ⟨⟨by decide +kernel, by decide +kernel⟩, List.mem_of_getElem? (i := 1467) (by decide +kernel), List.mem_of_getElem? (i := 1722) (by decide +kernel), List.mem_of_getElem? (i := 1723) (by decide +kernel)⟩
theorem lw_p69 : lw_okq (⟨"DandelionBroadcastModel", "covered", "(I)Z"⟩, 28) := ⟨⟨by decide +kernel, by decide +kernel⟩, List.mem_of_getElem? (i := 1467) (by decide +kernel), List.mem_of_getElem? (i := 1726) (by decide +kernel), List.mem_of_getElem? (i := 1727) (by decide +kernel)⟩
theorem lw_p70 : lw_okq (⟨"DandelionBroadcastModel", "blowAll", "()I"⟩, 28) := ⟨⟨by decide +kernel, by decide +kernel⟩, List.mem_of_getElem? (i := 1467) (by decide +kernel), List.mem_of_getElem? (i := 1734) (by decide +kernel), List.mem_of_getElem? (i := 1735) (by decide +kernel)⟩
theorem lw_p71 : lw_okq (⟨"DandelionBroadcastModel", "number", "(II)I"⟩, 28) := ⟨⟨by decide +kernel, by decide +kernel⟩, List.mem_of_getElem? (i := 1467) (by decide +kernel), List.mem_of_getElem? (i := 1758) (by decide +kernel), List.mem_of_getElem? (i := 1759) (by decide +kernel)⟩
theorem lw_p72 : lw_okq (⟨"DandelionBroadcastModel", "label", "(I)I"⟩, 28) := ⟨⟨by decide +kernel, by decide +kernel⟩, List.mem_of_getElem? (i := 1467) (by decide +kernel), List.mem_of_getElem? (i := 1786) (by decide +kernel), List.mem_of_getElem? (i := 1787) (by decide +kernel)⟩
theorem lw_p73 : lw_okq (⟨"DandelionBroadcastModel", "connected", "(II)Z"⟩, 28) := ⟨⟨by decide +kernel, by decide +kernel⟩, List.mem_of_getElem? (i := 1467) (by decide +kernel), List.mem_of_getElem? (i := 1794) (by decide +kernel), List.mem_of_getElem? (i := 1795) (by decide +kernel)⟩
theorem lw_p74 : lw_okq (⟨"DandelionBroadcastModel", "lower", "(III)V"⟩, 28) := ⟨⟨by decide +kernel, by decide +kernel⟩, List.mem_of_getElem? (i := 1467) (by decide +kernel), List.mem_of_getElem? (i := 1802) (by decide +kernel), List.mem_of_getElem? (i := 1803) (by decide +kernel)⟩
theorem lw_p75 : lw_okq (⟨"DandelionBroadcastModel", "leaving", "(I)I"⟩, 28) := ⟨⟨by decide +kernel, by decide +kernel⟩, List.mem_of_getElem? (i := 1467) (by decide +kernel), List.mem_of_getElem? (i := 1815) (by decide +kernel), List.mem_of_getElem? (i := 1816) (by decide +kernel)⟩
theorem lw_p76 : lw_okq (⟨"DandelionBroadcastModel", "bridges", "(I)Z"⟩, 28) := ⟨⟨by decide +kernel, by decide +kernel⟩, List.mem_of_getElem? (i := 1467) (by decide +kernel), List.mem_of_getElem? (i := 1828) (by decide +kernel), List.mem_of_getElem? (i := 1829) (by decide +kernel)⟩
theorem lw_p77 : lw_okq (⟨"DandelionBroadcastModel", "isInTreeOf", "(II)Z"⟩, 28) := ⟨⟨by decide +kernel, by decide +kernel⟩, List.mem_of_getElem? (i := 1467) (by decide +kernel), List.mem_of_getElem? (i := 1845) (by decide +kernel), List.mem_of_getElem? (i := 1846) (by decide +kernel)⟩
theorem lw_p78 : lw_okq (⟨"DandelionBroadcastModel", "chance", "(I)F"⟩, 28) := ⟨⟨by decide +kernel, by decide +kernel⟩, List.mem_of_getElem? (i := 1467) (by decide +kernel), List.mem_of_getElem? (i := 1866) (by decide +kernel), List.mem_of_getElem? (i := 1867) (by decide +kernel)⟩
theorem lw_p79 : lw_okq (⟨"DandelionBroadcastModel", "countPackets", "(I)I"⟩, 28) := ⟨⟨by decide +kernel, by decide +kernel⟩, List.mem_of_getElem? (i := 1467) (by decide +kernel), List.mem_of_getElem? (i := 1887) (by decide +kernel), List.mem_of_getElem? (i := 1888) (by decide +kernel)⟩
def lw_privs_5 : List (MethodName × Nat) := [(⟨"DandelionBroadcastModel", "visit", "(I)I"⟩, 28), (⟨"DandelionBroadcastModel", "send", "(II)I"⟩, 28), (⟨"DandelionBroadcastModel", "danger", "(II)I"⟩, 28), (⟨"DandelionBroadcastModel", "rebuild", "()V"⟩, 28), (⟨"DandelionBroadcastModel", "judgeEnd", "()V"⟩, 28), (⟨"DandelionBroadcastModel", "covered", "(I)Z"⟩, 28), (⟨"DandelionBroadcastModel", "blowAll", "()I"⟩, 28), (⟨"DandelionBroadcastModel", "number", "(II)I"⟩, 28), (⟨"DandelionBroadcastModel", "label", "(I)I"⟩, 28), (⟨"DandelionBroadcastModel", "connected", "(II)Z"⟩, 28), (⟨"DandelionBroadcastModel", "lower", "(III)V"⟩, 28), (⟨"DandelionBroadcastModel", "leaving", "(I)I"⟩, 28), (⟨"DandelionBroadcastModel", "bridges", "(I)Z"⟩, 28), (⟨"DandelionBroadcastModel", "isInTreeOf", "(II)Z"⟩, 28), (⟨"DandelionBroadcastModel", "chance", "(I)F"⟩, 28), (⟨"DandelionBroadcastModel", "countPackets", "(I)I"⟩, 28)]
theorem lw_r5 : ∀ q ∈ lw_privs_5, lw_okq q := List.forall_mem_cons.mpr ⟨lw_p64, List.forall_mem_cons.mpr ⟨lw_p65, List.forall_mem_cons.mpr ⟨lw_p66, List.forall_mem_cons.mpr ⟨lw_p67, List.forall_mem_cons.mpr ⟨lw_p68, List.forall_mem_cons.mpr ⟨lw_p69, List.forall_mem_cons.mpr ⟨lw_p70, List.forall_mem_cons.mpr ⟨lw_p71, List.forall_mem_cons.mpr ⟨lw_p72, List.forall_mem_cons.mpr ⟨lw_p73, List.forall_mem_cons.mpr ⟨lw_p74, List.forall_mem_cons.mpr ⟨lw_p75, List.forall_mem_cons.mpr ⟨lw_p76, List.forall_mem_cons.mpr ⟨lw_p77, List.forall_mem_cons.mpr ⟨lw_p78, List.forall_mem_cons.mpr ⟨lw_p79, fun _ h => absurd h List.not_mem_nil⟩⟩⟩⟩⟩⟩⟩⟩⟩⟩⟩⟩⟩⟩⟩⟩
theorem lw_p80 : lw_okq (⟨"DandelionBroadcastModel", "comesFirst", "(II)Z"⟩, 28) := ⟨⟨by decide +kernel, by decide +kernel⟩, List.mem_of_getElem? (i := 1467) (by decide +kernel), List.mem_of_getElem? (i := 1935) (by decide +kernel), List.mem_of_getElem? (i := 1936) (by decide +kernel)⟩
theorem lw_p81 : lw_okq (⟨"DandelionBroadcastModel", "isUsedFirst", "(II)Z"⟩, 28) := ⟨⟨by decide +kernel, by decide +kernel⟩, List.mem_of_getElem? (i := 1467) (by decide +kernel), List.mem_of_getElem? (i := 1943) (by decide +kernel), List.mem_of_getElem? (i := 1944) (by decide +kernel)⟩
theorem lw_p82 : lw_okq (⟨"DandelionBroadcastModel", "writeDigit", "(I)V"⟩, 28) := ⟨⟨by decide +kernel, by decide +kernel⟩, List.mem_of_getElem? (i := 1467) (by decide +kernel), List.mem_of_getElem? (i := 1978) (by decide +kernel), List.mem_of_getElem? (i := 1979) (by decide +kernel)⟩
theorem lw_p83 : lw_okq (⟨"DandelionBroadcastModel", "write", "(C)V"⟩, 28) := ⟨⟨by decide +kernel, by decide +kernel⟩, List.mem_of_getElem? (i := 1467) (by decide +kernel), List.mem_of_getElem? (i := 1982) (by decide +kernel), List.mem_of_getElem? (i := 1983) (by decide +kernel)⟩
theorem lw_p84 : lw_okq (⟨"DandelionBroadcastModel", "countCommands", "()I"⟩, 28) := ⟨⟨by decide +kernel, by decide +kernel⟩, List.mem_of_getElem? (i := 1467) (by decide +kernel), List.mem_of_getElem? (i := 1998) (by decide +kernel), List.mem_of_getElem? (i := 1999) (by decide +kernel)⟩
theorem lw_p85 : lw_okq (⟨"DandelionBroadcastModel", "readCommand", "()V"⟩, 28) := ⟨⟨by decide +kernel, by decide +kernel⟩, List.mem_of_getElem? (i := 1467) (by decide +kernel), List.mem_of_getElem? (i := 2002) (by decide +kernel), List.mem_of_getElem? (i := 2003) (by decide +kernel)⟩
theorem lw_p86 : lw_okq (⟨"DandelionBroadcastModel", "keyword", "()Ljava/lang/String;"⟩, 28) := ⟨⟨by decide +kernel, by decide +kernel⟩, List.mem_of_getElem? (i := 1467) (by decide +kernel), List.mem_of_getElem? (i := 2006) (by decide +kernel), List.mem_of_getElem? (i := 2007) (by decide +kernel)⟩
theorem lw_p87 : lw_okq (⟨"DandelionBroadcastModel", "seen", "(I)C"⟩, 28) := ⟨⟨by decide +kernel, by decide +kernel⟩, List.mem_of_getElem? (i := 1467) (by decide +kernel), List.mem_of_getElem? (i := 2010) (by decide +kernel), List.mem_of_getElem? (i := 2011) (by decide +kernel)⟩
theorem lw_p88 : lw_okq (⟨"DandelionBroadcastModel", "must", "(C)V"⟩, 28) := ⟨⟨by decide +kernel, by decide +kernel⟩, List.mem_of_getElem? (i := 1467) (by decide +kernel), List.mem_of_getElem? (i := 2027) (by decide +kernel), List.mem_of_getElem? (i := 2028) (by decide +kernel)⟩
theorem lw_p89 : lw_okq (⟨"DandelionBroadcastModel", "sees", "(CC)Z"⟩, 28) := ⟨⟨by decide +kernel, by decide +kernel⟩, List.mem_of_getElem? (i := 1467) (by decide +kernel), List.mem_of_getElem? (i := 2031) (by decide +kernel), List.mem_of_getElem? (i := 2032) (by decide +kernel)⟩
theorem lw_p90 : lw_okq (⟨"DandelionBroadcastModel", "readBehind", "(CI)V"⟩, 28) := ⟨⟨by decide +kernel, by decide +kernel⟩, List.mem_of_getElem? (i := 1467) (by decide +kernel), List.mem_of_getElem? (i := 2307) (by decide +kernel), List.mem_of_getElem? (i := 2308) (by decide +kernel)⟩
theorem lw_p91 : lw_okq (⟨"DandelionBroadcastModel", "executeCommand", "()I"⟩, 28) := ⟨⟨by decide +kernel, by decide +kernel⟩, List.mem_of_getElem? (i := 1467) (by decide +kernel), List.mem_of_getElem? (i := 2311) (by decide +kernel), List.mem_of_getElem? (i := 2312) (by decide +kernel)⟩
theorem lw_p92 : lw_okq (⟨"DandelionBroadcastModel", "failCommand", "(IZ)I"⟩, 28) := ⟨⟨by decide +kernel, by decide +kernel⟩, List.mem_of_getElem? (i := 1467) (by decide +kernel), List.mem_of_getElem? (i := 2325) (by decide +kernel), List.mem_of_getElem? (i := 2326) (by decide +kernel)⟩
def lw_privs_6 : List (MethodName × Nat) := [(⟨"DandelionBroadcastModel", "comesFirst", "(II)Z"⟩, 28), (⟨"DandelionBroadcastModel", "isUsedFirst", "(II)Z"⟩, 28), (⟨"DandelionBroadcastModel", "writeDigit", "(I)V"⟩, 28), (⟨"DandelionBroadcastModel", "write", "(C)V"⟩, 28), (⟨"DandelionBroadcastModel", "countCommands", "()I"⟩, 28), (⟨"DandelionBroadcastModel", "readCommand", "()V"⟩, 28), (⟨"DandelionBroadcastModel", "keyword", "()Ljava/lang/String;"⟩, 28), (⟨"DandelionBroadcastModel", "seen", "(I)C"⟩, 28), (⟨"DandelionBroadcastModel", "must", "(C)V"⟩, 28), (⟨"DandelionBroadcastModel", "sees", "(CC)Z"⟩, 28), (⟨"DandelionBroadcastModel", "readBehind", "(CI)V"⟩, 28), (⟨"DandelionBroadcastModel", "executeCommand", "()I"⟩, 28), (⟨"DandelionBroadcastModel", "failCommand", "(IZ)I"⟩, 28)]
theorem lw_r6 : ∀ q ∈ lw_privs_6, lw_okq q := List.forall_mem_cons.mpr ⟨lw_p80, List.forall_mem_cons.mpr ⟨lw_p81, List.forall_mem_cons.mpr ⟨lw_p82, List.forall_mem_cons.mpr ⟨lw_p83, List.forall_mem_cons.mpr ⟨lw_p84, List.forall_mem_cons.mpr ⟨lw_p85, List.forall_mem_cons.mpr ⟨lw_p86, List.forall_mem_cons.mpr ⟨lw_p87, List.forall_mem_cons.mpr ⟨lw_p88, List.forall_mem_cons.mpr ⟨lw_p89, List.forall_mem_cons.mpr ⟨lw_p90, List.forall_mem_cons.mpr ⟨lw_p91, List.forall_mem_cons.mpr ⟨lw_p92, fun _ h => absurd h List.not_mem_nil⟩⟩⟩⟩⟩⟩⟩⟩⟩⟩⟩⟩⟩
def lw_privs : List (MethodName × Nat) := lw_privs_1 ++ (lw_privs_2 ++ (lw_privs_3 ++ (lw_privs_4 ++ (lw_privs_5 ++ (lw_privs_6)))))
def lw_tbl : List Cond := k2_sels lw_privs ++ tables_1
theorem lw_privs_ok : ∀ q ∈ lw_privs, lw_okq q := by
  show ∀ q ∈ lw_privs_1 ++ (lw_privs_2 ++ (lw_privs_3 ++ (lw_privs_4 ++ (lw_privs_5 ++ (lw_privs_6))))), lw_okq q
  exact List.forall_mem_append.mpr ⟨lw_r1, List.forall_mem_append.mpr ⟨lw_r2, List.forall_mem_append.mpr ⟨lw_r3, List.forall_mem_append.mpr ⟨lw_r4, List.forall_mem_append.mpr ⟨lw_r5, lw_r6⟩⟩⟩⟩⟩
/-- the streams that the claim lets the run draw from -/
abbrev lw_cs : List Choice := [Jvm.Choice.named "NaN.bits"]
theorem lw_bits : nanBits ∈ lw_cs := by first | decide | exact List.mem_cons_self | simp [lw_cs, nanBits]
end
section
/-! names, fields: rows of claim/NAMES.whole.lean.txt, as it prints them -/
def RX0 : String := "DandelionBroadcast$1"
def TX0 : u_T := fun k => match k with
  | _ => ("", "", "", false)
def tyX0 : Nat → FieldType := fun k => match k with
  | _ => .int
abbrev wsX00 : List Cond := u_ws RX0 TX0 0
theorem nmX0 : ∀ a, a < 0 → ∀ b, b < 0 → a ≠ b → (TX0 a).2.1 ≠ (TX0 b).2.1 := by decide +kernel
theorem tyX0_ok : ∀ k, k < 0 → parseFieldDescriptor (TX0 k).2.2.1 = some (tyX0 k) := by decide +kernel
def RX1 : String := "DandelionBroadcast$Cast"
def TX1 : u_T := fun k => match k with
  | 0 => ("DandelionBroadcast$Cast", "held", "[I", true)
  | 1 => ("DandelionBroadcast$Cast", "started", "I", false)
  | 2 => ("DandelionBroadcast$Cast", "running", "Z", false)
  | 3 => ("DandelionBroadcast$Cast", "origin", "I", false)
  | 4 => ("DandelionBroadcast$Cast", "data", "I", false)
  | 5 => ("DandelionBroadcast$Cast", "parity", "Z", false)
  | 6 => ("DandelionBroadcast$Cast", "blown", "I", false)
  | _ => ("DandelionBroadcast$Cast", "seed", "I", false)
def tyX1 : Nat → FieldType := fun k => match k with
  | 0 => .array .int
  | 1 => .int
  | 2 => .boolean
  | 3 => .int
  | 4 => .int
  | 5 => .boolean
  | 6 => .int
  | _ => .int
abbrev wsX10 : List Cond := u_ws RX1 TX1 8
theorem nmX1 : ∀ a, a < 8 → ∀ b, b < 8 → a ≠ b → (TX1 a).2.1 ≠ (TX1 b).2.1 := by decide +kernel
theorem tyX1_ok : ∀ k, k < 8 → parseFieldDescriptor (TX1 k).2.2.1 = some (tyX1 k) := by decide +kernel
abbrev cX1_init : ByteArray := prog_3_method_1_code
def yX1_init : MethodName := ⟨RX1, "<init>", "()V"⟩
abbrev cX1_packetTotal : ByteArray := prog_3_method_2_code
def yX1_packetTotal : MethodName := ⟨RX1, "packetTotal", "()I"⟩
abbrev cX1_allPackets : ByteArray := prog_3_method_3_code
def yX1_allPackets : MethodName := ⟨RX1, "allPackets", "()I"⟩
abbrev cX1_covers : ByteArray := prog_3_method_4_code
def yX1_covers : MethodName := ⟨RX1, "covers", "(I)Z"⟩
abbrev cX1_copyFrom : ByteArray := prog_3_method_5_code
def yX1_copyFrom : MethodName := ⟨RX1, "copyFrom", "(LDandelionBroadcast$Cast;)V"⟩
def RX2 : String := "DandelionBroadcast$Changer"
def TX2 : u_T := fun k => match k with
  | 0 => ("DandelionBroadcast$Changer", "reason", "I", false)
  | _ => ("DandelionBroadcast$Changer", "detail", "I", false)
def tyX2 : Nat → FieldType := fun k => match k with
  | 0 => .int
  | _ => .int
abbrev wsX20 : List Cond := u_ws RX2 TX2 2
theorem nmX2 : ∀ a, a < 2 → ∀ b, b < 2 → a ≠ b → (TX2 a).2.1 ≠ (TX2 b).2.1 := by decide +kernel
theorem tyX2_ok : ∀ k, k < 2 → parseFieldDescriptor (TX2 k).2.2.1 = some (tyX2 k) := by decide +kernel
abbrev cX2_init : ByteArray := prog_4_method_1_code
def yX2_init : MethodName := ⟨RX2, "<init>", "()V"⟩
abbrev cX2_reject : ByteArray := prog_4_method_2_code
def yX2_reject : MethodName := ⟨RX2, "reject", "(II)I"⟩
abbrev cX2_isDigit : ByteArray := prog_4_method_3_code
def yX2_isDigit : MethodName := ⟨RX2, "isDigit", "(I)Z"⟩
abbrev cX2_appendField : ByteArray := prog_4_method_4_code
def yX2_appendField : MethodName := ⟨RX2, "appendField", "(LDandelionBroadcast$State;I)I"⟩
abbrev cX2_replaceShield : ByteArray := prog_4_method_5_code
def yX2_replaceShield : MethodName := ⟨RX2, "replaceShield", "(LDandelionBroadcast$State;II)I"⟩
abbrev cX2_appendPath : ByteArray := prog_4_method_6_code
def yX2_appendPath : MethodName := ⟨RX2, "appendPath", "(LDandelionBroadcast$State;IIII)I"⟩
abbrev cX2_replaceGust : ByteArray := prog_4_method_7_code
def yX2_replaceGust : MethodName := ⟨RX2, "replaceGust", "(LDandelionBroadcast$State;II)I"⟩
abbrev cX2_replaceBlocked : ByteArray := prog_4_method_8_code
def yX2_replaceBlocked : MethodName := ⟨RX2, "replaceBlocked", "(LDandelionBroadcast$State;IZ)I"⟩
abbrev cX2_replaceSeed : ByteArray := prog_4_method_9_code
def yX2_replaceSeed : MethodName := ⟨RX2, "replaceSeed", "(LDandelionBroadcast$State;I)I"⟩
abbrev cX2_beginBroadcast : ByteArray := prog_4_method_10_code
def yX2_beginBroadcast : MethodName := ⟨RX2, "beginBroadcast", "(LDandelionBroadcast$State;IIZ)I"⟩
abbrev cX2_letBlowOnce : ByteArray := prog_4_method_11_code
def yX2_letBlowOnce : MethodName := ⟨RX2, "letBlowOnce", "(LDandelionBroadcast$State;LDandelionBroadcast$Winds;)I"⟩
abbrev cX2_letBlowToEnd : ByteArray := prog_4_method_12_code
def yX2_letBlowToEnd : MethodName := ⟨RX2, "letBlowToEnd", "(LDandelionBroadcast$State;LDandelionBroadcast$Winds;)I"⟩
abbrev cX2_stopBroadcast : ByteArray := prog_4_method_13_code
def yX2_stopBroadcast : MethodName := ⟨RX2, "stopBroadcast", "(LDandelionBroadcast$State;)I"⟩
def RX3 : String := "DandelionBroadcast$Commands"
def TX3 : u_T := fun k => match k with
  | 0 => ("DandelionBroadcast$Commands", "kinds", "[LDandelionBroadcast$Kind;", true)
  | 1 => ("DandelionBroadcast$Commands", "values", "[[I", true)
  | 2 => ("DandelionBroadcast$Commands", "total", "I", false)
  | 3 => ("DandelionBroadcast$Commands", "length", "I", false)
  | 4 => ("DandelionBroadcast$Commands", "text", "[C", true)
  | _ => ("DandelionBroadcast$Commands", "at", "I", false)
def tyX3 : Nat → FieldType := fun k => match k with
  | 0 => .array (.object "DandelionBroadcast$Kind")
  | 1 => .array (.array .int)
  | 2 => .int
  | 3 => .int
  | 4 => .array .char
  | _ => .int
abbrev wsX30 : List Cond := u_ws RX3 TX3 6
theorem nmX3 : ∀ a, a < 6 → ∀ b, b < 6 → a ≠ b → (TX3 a).2.1 ≠ (TX3 b).2.1 := by decide +kernel
theorem tyX3_ok : ∀ k, k < 6 → parseFieldDescriptor (TX3 k).2.2.1 = some (tyX3 k) := by decide +kernel
abbrev cX3_init : ByteArray := prog_5_method_1_code
def yX3_init : MethodName := ⟨RX3, "<init>", "()V"⟩
abbrev cX3_append : ByteArray := prog_5_method_2_code
def yX3_append : MethodName := ⟨RX3, "append", "(C)V"⟩
abbrev cX3_read : ByteArray := prog_5_method_3_code
def yX3_read : MethodName := ⟨RX3, "read", "()I"⟩
abbrev cX3_readAll : ByteArray := prog_5_method_4_code
def yX3_readAll : MethodName := ⟨RX3, "readAll", "()I"⟩
abbrev cX3_readCommand : ByteArray := prog_5_method_5_code
def yX3_readCommand : MethodName := ⟨RX3, "readCommand", "(I)Z"⟩
abbrev cX3_takeShape : ByteArray := prog_5_method_6_code
def yX3_takeShape : MethodName := ⟨RX3, "takeShape", "(Ljava/lang/String;[I)Z"⟩
abbrev cX3_takeValue : ByteArray := prog_5_method_7_code
def yX3_takeValue : MethodName := ⟨RX3, "takeValue", "(C)I"⟩
abbrev cX3_takeSign : ByteArray := prog_5_method_8_code
def yX3_takeSign : MethodName := ⟨RX3, "takeSign", "(C)Z"⟩
abbrev cX3_takeDigits : ByteArray := prog_5_method_9_code
def yX3_takeDigits : MethodName := ⟨RX3, "takeDigits", "(I)I"⟩
def RX4 : String := "DandelionBroadcast$History"
def TX4 : u_T := fun k => match k with
  | 0 => ("DandelionBroadcast$History", "slots", "[LDandelionBroadcast$State;", true)
  | 1 => ("DandelionBroadcast$History", "next", "I", false)
  | _ => ("DandelionBroadcast$History", "kept", "I", false)
def tyX4 : Nat → FieldType := fun k => match k with
  | 0 => .array (.object "DandelionBroadcast$State")
  | 1 => .int
  | _ => .int
abbrev wsX40 : List Cond := u_ws RX4 TX4 3
theorem nmX4 : ∀ a, a < 3 → ∀ b, b < 3 → a ≠ b → (TX4 a).2.1 ≠ (TX4 b).2.1 := by decide +kernel
theorem tyX4_ok : ∀ k, k < 3 → parseFieldDescriptor (TX4 k).2.2.1 = some (tyX4 k) := by decide +kernel
abbrev cX4_init : ByteArray := prog_6_method_1_code
def yX4_init : MethodName := ⟨RX4, "<init>", "()V"⟩
abbrev cX4_note : ByteArray := prog_6_method_2_code
def yX4_note : MethodName := ⟨RX4, "note", "(LDandelionBroadcast$State;)V"⟩
abbrev cX4_noted : ByteArray := prog_6_method_3_code
def yX4_noted : MethodName := ⟨RX4, "noted", "()LDandelionBroadcast$State;"⟩
abbrev cX4_keep : ByteArray := prog_6_method_4_code
def yX4_keep : MethodName := ⟨RX4, "keep", "()V"⟩
abbrev cX4_stepBack : ByteArray := prog_6_method_5_code
def yX4_stepBack : MethodName := ⟨RX4, "stepBack", "(LDandelionBroadcast$State;)V"⟩
abbrev cX4_forget : ByteArray := prog_6_method_6_code
def yX4_forget : MethodName := ⟨RX4, "forget", "()V"⟩
def RX5 : String := "DandelionBroadcast$Kind"
def TX5 : u_T := fun k => match k with
  | _ => ("", "", "", false)
def tyX5 : Nat → FieldType := fun k => match k with
  | _ => .int
abbrev wsX50 : List Cond := u_ws RX5 TX5 0
theorem nmX5 : ∀ a, a < 0 → ∀ b, b < 0 → a ≠ b → (TX5 a).2.1 ≠ (TX5 b).2.1 := by decide +kernel
theorem tyX5_ok : ∀ k, k < 0 → parseFieldDescriptor (TX5 k).2.2.1 = some (tyX5 k) := by decide +kernel
def RX6 : String := "DandelionBroadcast$Net"
def TX6 : u_T := fun k => match k with
  | 0 => ("DandelionBroadcast$Net", "shields", "[I", true)
  | 1 => ("DandelionBroadcast$Net", "firsts", "[I", true)
  | 2 => ("DandelionBroadcast$Net", "seconds", "[I", true)
  | 3 => ("DandelionBroadcast$Net", "costs", "[I", true)
  | 4 => ("DandelionBroadcast$Net", "gusts", "[I", true)
  | 5 => ("DandelionBroadcast$Net", "closed", "I", false)
  | 6 => ("DandelionBroadcast$Net", "fieldTotal", "I", false)
  | _ => ("DandelionBroadcast$Net", "pathTotal", "I", false)
def tyX6 : Nat → FieldType := fun k => match k with
  | 0 => .array .int
  | 1 => .array .int
  | 2 => .array .int
  | 3 => .array .int
  | 4 => .array .int
  | 5 => .int
  | 6 => .int
  | _ => .int
abbrev wsX60 : List Cond := u_ws RX6 TX6 8
theorem nmX6 : ∀ a, a < 8 → ∀ b, b < 8 → a ≠ b → (TX6 a).2.1 ≠ (TX6 b).2.1 := by decide +kernel
theorem tyX6_ok : ∀ k, k < 8 → parseFieldDescriptor (TX6 k).2.2.1 = some (tyX6 k) := by decide +kernel
abbrev cX6_init : ByteArray := prog_8_method_1_code
def yX6_init : MethodName := ⟨RX6, "<init>", "()V"⟩
abbrev cX6_hasField : ByteArray := prog_8_method_2_code
def yX6_hasField : MethodName := ⟨RX6, "hasField", "(I)Z"⟩
abbrev cX6_hasPath : ByteArray := prog_8_method_3_code
def yX6_hasPath : MethodName := ⟨RX6, "hasPath", "(I)Z"⟩
abbrev cX6_isOpen : ByteArray := prog_8_method_4_code
def yX6_isOpen : MethodName := ⟨RX6, "isOpen", "(I)Z"⟩
abbrev cX6_closedTotal : ByteArray := prog_8_method_5_code
def yX6_closedTotal : MethodName := ⟨RX6, "closedTotal", "()I"⟩
abbrev cX6_endsOf : ByteArray := prog_8_method_6_code
def yX6_endsOf : MethodName := ⟨RX6, "endsOf", "(I)I"⟩
abbrev cX6_farEnd : ByteArray := prog_8_method_7_code
def yX6_farEnd : MethodName := ⟨RX6, "farEnd", "(II)I"⟩
abbrev cX6_pathBetween : ByteArray := prog_8_method_8_code
def yX6_pathBetween : MethodName := ⟨RX6, "pathBetween", "(II)I"⟩
abbrev cX6_dangerOf : ByteArray := prog_8_method_9_code
def yX6_dangerOf : MethodName := ⟨RX6, "dangerOf", "(II)I"⟩
abbrev cX6_copyFrom : ByteArray := prog_8_method_10_code
def yX6_copyFrom : MethodName := ⟨RX6, "copyFrom", "(LDandelionBroadcast$Net;)V"⟩
def RX7 : String := "DandelionBroadcast$SpreadTree"
def TX7 : u_T := fun k => match k with
  | 0 => ("DandelionBroadcast$SpreadTree", "parents", "[I", true)
  | 1 => ("DandelionBroadcast$SpreadTree", "pathsUp", "[I", true)
  | 2 => ("DandelionBroadcast$SpreadTree", "depths", "[I", true)
  | 3 => ("DandelionBroadcast$SpreadTree", "chances", "[F", true)
  | _ => ("DandelionBroadcast$SpreadTree", "labels", "[I", true)
def tyX7 : Nat → FieldType := fun k => match k with
  | 0 => .array .int
  | 1 => .array .int
  | 2 => .array .int
  | 3 => .array .float
  | _ => .array .int
abbrev wsX70 : List Cond := u_ws RX7 TX7 5
theorem nmX7 : ∀ a, a < 5 → ∀ b, b < 5 → a ≠ b → (TX7 a).2.1 ≠ (TX7 b).2.1 := by decide +kernel
theorem tyX7_ok : ∀ k, k < 5 → parseFieldDescriptor (TX7 k).2.2.1 = some (tyX7 k) := by decide +kernel
abbrev cX7_init : ByteArray := prog_9_method_1_code
def yX7_init : MethodName := ⟨RX7, "<init>", "()V"⟩
abbrev cX7_grow : ByteArray := prog_9_method_2_code
def yX7_grow : MethodName := ⟨RX7, "grow", "(LDandelionBroadcast$Net;I)V"⟩
abbrev cX7_firstPathOut : ByteArray := prog_9_method_3_code
def yX7_firstPathOut : MethodName := ⟨RX7, "firstPathOut", "(LDandelionBroadcast$Net;)I"⟩
abbrev cX7_attach : ByteArray := prog_9_method_4_code
def yX7_attach : MethodName := ⟨RX7, "attach", "(LDandelionBroadcast$Net;I)V"⟩
abbrev cX7_costGrown : ByteArray := prog_9_method_5_code
def yX7_costGrown : MethodName := ⟨RX7, "costGrown", "(LDandelionBroadcast$Net;I)I"⟩
abbrev cX7_chooseInOrder : ByteArray := prog_9_method_6_code
def yX7_chooseInOrder : MethodName := ⟨RX7, "chooseInOrder", "(LDandelionBroadcast$Net;I)I"⟩
abbrev cX7_joinLabels : ByteArray := prog_9_method_7_code
def yX7_joinLabels : MethodName := ⟨RX7, "joinLabels", "(LDandelionBroadcast$Net;I)Z"⟩
abbrev cX7_onlyAround : ByteArray := prog_9_method_8_code
def yX7_onlyAround : MethodName := ⟨RX7, "onlyAround", "(LDandelionBroadcast$Net;II)I"⟩
abbrev cX7_costInOrder : ByteArray := prog_9_method_9_code
def yX7_costInOrder : MethodName := ⟨RX7, "costInOrder", "(LDandelionBroadcast$Net;I)I"⟩
def RX8 : String := "DandelionBroadcast$State"
def TX8 : u_T := fun k => match k with
  | 0 => ("DandelionBroadcast$State", "net", "LDandelionBroadcast$Net;", true)
  | 1 => ("DandelionBroadcast$State", "cast", "LDandelionBroadcast$Cast;", true)
  | 2 => ("DandelionBroadcast$State", "uses", "[I", true)
  | 3 => ("DandelionBroadcast$State", "sent", "I", false)
  | 4 => ("DandelionBroadcast$State", "lost", "I", false)
  | 5 => ("DandelionBroadcast$State", "rebuilt", "I", false)
  | 6 => ("DandelionBroadcast$State", "spent", "I", false)
  | 7 => ("DandelionBroadcast$State", "finished", "I", false)
  | _ => ("DandelionBroadcast$State", "failed", "I", false)
def tyX8 : Nat → FieldType := fun k => match k with
  | 0 => .object "DandelionBroadcast$Net"
  | 1 => .object "DandelionBroadcast$Cast"
  | 2 => .array .int
  | 3 => .int
  | 4 => .int
  | 5 => .int
  | 6 => .int
  | 7 => .int
  | _ => .int
abbrev wsX80 : List Cond := u_ws RX8 TX8 9
theorem nmX8 : ∀ a, a < 9 → ∀ b, b < 9 → a ≠ b → (TX8 a).2.1 ≠ (TX8 b).2.1 := by decide +kernel
theorem tyX8_ok : ∀ k, k < 9 → parseFieldDescriptor (TX8 k).2.2.1 = some (tyX8 k) := by decide +kernel
abbrev cX8_init : ByteArray := prog_10_method_1_code
def yX8_init : MethodName := ⟨RX8, "<init>", "()V"⟩
abbrev cX8_fieldsAheadOf : ByteArray := prog_10_method_2_code
def yX8_fieldsAheadOf : MethodName := ⟨RX8, "fieldsAheadOf", "(I)I"⟩
abbrev cX8_fieldIsAhead : ByteArray := prog_10_method_3_code
def yX8_fieldIsAhead : MethodName := ⟨RX8, "fieldIsAhead", "(II)Z"⟩
abbrev cX8_pathsAheadOf : ByteArray := prog_10_method_4_code
def yX8_pathsAheadOf : MethodName := ⟨RX8, "pathsAheadOf", "(I)I"⟩
abbrev cX8_pathIsAhead : ByteArray := prog_10_method_5_code
def yX8_pathIsAhead : MethodName := ⟨RX8, "pathIsAhead", "(II)Z"⟩
abbrev cX8_totalsAgree : ByteArray := prog_10_method_6_code
def yX8_totalsAgree : MethodName := ⟨RX8, "totalsAgree", "()Z"⟩
abbrev cX8_copyFrom : ByteArray := prog_10_method_7_code
def yX8_copyFrom : MethodName := ⟨RX8, "copyFrom", "(LDandelionBroadcast$State;)V"⟩
def RX9 : String := "DandelionBroadcast$Ways"
def TX9 : u_T := fun k => match k with
  | 0 => ("DandelionBroadcast$Ways", "costs", "[I", true)
  | 1 => ("DandelionBroadcast$Ways", "flows", "[I", true)
  | 2 => ("DandelionBroadcast$Ways", "arrivals", "[I", true)
  | 3 => ("DandelionBroadcast$Ways", "numbers", "[I", true)
  | 4 => ("DandelionBroadcast$Ways", "earliest", "[I", true)
  | 5 => ("DandelionBroadcast$Ways", "nextPaths", "[I", true)
  | _ => ("DandelionBroadcast$Ways", "numbered", "I", false)
def tyX9 : Nat → FieldType := fun k => match k with
  | 0 => .array .int
  | 1 => .array .int
  | 2 => .array .int
  | 3 => .array .int
  | 4 => .array .int
  | 5 => .array .int
  | _ => .int
abbrev wsX90 : List Cond := u_ws RX9 TX9 7
theorem nmX9 : ∀ a, a < 7 → ∀ b, b < 7 → a ≠ b → (TX9 a).2.1 ≠ (TX9 b).2.1 := by decide +kernel
theorem tyX9_ok : ∀ k, k < 7 → parseFieldDescriptor (TX9 k).2.2.1 = some (tyX9 k) := by decide +kernel
abbrev cX9_init : ByteArray := prog_11_method_1_code
def yX9_init : MethodName := ⟨RX9, "<init>", "()V"⟩
abbrev cX9_groupAround : ByteArray := prog_11_method_2_code
def yX9_groupAround : MethodName := ⟨RX9, "groupAround", "(LDandelionBroadcast$Net;II)I"⟩
abbrev cX9_countGroups : ByteArray := prog_11_method_3_code
def yX9_countGroups : MethodName := ⟨RX9, "countGroups", "(LDandelionBroadcast$Net;I)I"⟩
abbrev cX9_cheapestByVisiting : ByteArray := prog_11_method_4_code
def yX9_cheapestByVisiting : MethodName := ⟨RX9, "cheapestByVisiting", "(LDandelionBroadcast$Net;II)I"⟩
abbrev cX9_startCosts : ByteArray := prog_11_method_5_code
def yX9_startCosts : MethodName := ⟨RX9, "startCosts", "(I)V"⟩
abbrev cX9_nearestOutside : ByteArray := prog_11_method_6_code
def yX9_nearestOutside : MethodName := ⟨RX9, "nearestOutside", "(LDandelionBroadcast$Net;I)I"⟩
abbrev cX9_lowerAround : ByteArray := prog_11_method_7_code
def yX9_lowerAround : MethodName := ⟨RX9, "lowerAround", "(LDandelionBroadcast$Net;I)V"⟩
abbrev cX9_cheapestByLowering : ByteArray := prog_11_method_8_code
def yX9_cheapestByLowering : MethodName := ⟨RX9, "cheapestByLowering", "(LDandelionBroadcast$Net;II)I"⟩
abbrev cX9_mostDisjoint : ByteArray := prog_11_method_9_code
def yX9_mostDisjoint : MethodName := ⟨RX9, "mostDisjoint", "(LDandelionBroadcast$Net;II)I"⟩
abbrev cX9_addWay : ByteArray := prog_11_method_10_code
def yX9_addWay : MethodName := ⟨RX9, "addWay", "(LDandelionBroadcast$Net;II)Z"⟩
abbrev cX9_reachByFlows : ByteArray := prog_11_method_11_code
def yX9_reachByFlows : MethodName := ⟨RX9, "reachByFlows", "(LDandelionBroadcast$Net;I)I"⟩
abbrev cX9_fewestLeaving : ByteArray := prog_11_method_12_code
def yX9_fewestLeaving : MethodName := ⟨RX9, "fewestLeaving", "(LDandelionBroadcast$Net;II)I"⟩
abbrev cX9_countLeaving : ByteArray := prog_11_method_13_code
def yX9_countLeaving : MethodName := ⟨RX9, "countLeaving", "(LDandelionBroadcast$Net;I)I"⟩
abbrev cX9_partsGroups : ByteArray := prog_11_method_14_code
def yX9_partsGroups : MethodName := ⟨RX9, "partsGroups", "(LDandelionBroadcast$Net;I)Z"⟩
abbrev cX9_countBridgesByGroups : ByteArray := prog_11_method_15_code
def yX9_countBridgesByGroups : MethodName := ⟨RX9, "countBridgesByGroups", "(LDandelionBroadcast$Net;)I"⟩
abbrev cX9_countBridgesByWalk : ByteArray := prog_11_method_16_code
def yX9_countBridgesByWalk : MethodName := ⟨RX9, "countBridgesByWalk", "(LDandelionBroadcast$Net;)I"⟩
abbrev cX9_countBridgesFrom : ByteArray := prog_11_method_17_code
def yX9_countBridgesFrom : MethodName := ⟨RX9, "countBridgesFrom", "(LDandelionBroadcast$Net;I)I"⟩
abbrev cX9_enter : ByteArray := prog_11_method_18_code
def yX9_enter : MethodName := ⟨RX9, "enter", "(II)V"⟩
abbrev cX9_takePath : ByteArray := prog_11_method_19_code
def yX9_takePath : MethodName := ⟨RX9, "takePath", "(LDandelionBroadcast$Net;I)I"⟩
def RX10 : String := "DandelionBroadcast$Winds"
def TX10 : u_T := fun k => match k with
  | _ => ("DandelionBroadcast$Winds", "tree", "LDandelionBroadcast$SpreadTree;", true)
def tyX10 : Nat → FieldType := fun k => match k with
  | _ => .object "DandelionBroadcast$SpreadTree"
abbrev wsX100 : List Cond := u_ws RX10 TX10 1
theorem nmX10 : ∀ a, a < 1 → ∀ b, b < 1 → a ≠ b → (TX10 a).2.1 ≠ (TX10 b).2.1 := by decide +kernel
theorem tyX10_ok : ∀ k, k < 1 → parseFieldDescriptor (TX10 k).2.2.1 = some (tyX10 k) := by decide +kernel
abbrev cX10_init : ByteArray := prog_12_method_1_code
def yX10_init : MethodName := ⟨RX10, "<init>", "()V"⟩
abbrev cX10_blowOnce : ByteArray := prog_12_method_2_code
def yX10_blowOnce : MethodName := ⟨RX10, "blowOnce", "(LDandelionBroadcast$State;)I"⟩
abbrev cX10_sendDown : ByteArray := prog_12_method_3_code
def yX10_sendDown : MethodName := ⟨RX10, "sendDown", "(LDandelionBroadcast$State;I)I"⟩
abbrev cX10_arrives : ByteArray := prog_12_method_4_code
def yX10_arrives : MethodName := ⟨RX10, "arrives", "(LDandelionBroadcast$State;I)Z"⟩
abbrev cX10_rebuildMissing : ByteArray := prog_12_method_5_code
def yX10_rebuildMissing : MethodName := ⟨RX10, "rebuildMissing", "(LDandelionBroadcast$State;)V"⟩
abbrev cX10_endIfDue : ByteArray := prog_12_method_6_code
def yX10_endIfDue : MethodName := ⟨RX10, "endIfDue", "(LDandelionBroadcast$State;)V"⟩
abbrev cX10_coversTree : ByteArray := prog_12_method_7_code
def yX10_coversTree : MethodName := ⟨RX10, "coversTree", "(LDandelionBroadcast$State;)Z"⟩
def RX11 : String := "DandelionBroadcast"
def TX11 : u_T := fun k => match k with
  | 0 => ("DandelionBroadcast", "now", "LDandelionBroadcast$State;", true)
  | 1 => ("DandelionBroadcast", "foreseen", "LDandelionBroadcast$State;", true)
  | 2 => ("DandelionBroadcast", "snapshot", "LDandelionBroadcast$State;", true)
  | 3 => ("DandelionBroadcast", "history", "LDandelionBroadcast$History;", true)
  | 4 => ("DandelionBroadcast", "ways", "LDandelionBroadcast$Ways;", true)
  | 5 => ("DandelionBroadcast", "tree", "LDandelionBroadcast$SpreadTree;", true)
  | 6 => ("DandelionBroadcast", "winds", "LDandelionBroadcast$Winds;", true)
  | 7 => ("DandelionBroadcast", "changer", "LDandelionBroadcast$Changer;", true)
  | 8 => ("DandelionBroadcast", "commands", "LDandelionBroadcast$Commands;", true)
  | 9 => ("DandelionBroadcast", "output", "[C", true)
  | 10 => ("DandelionBroadcast", "outputLength", "I", false)
  | 11 => ("DandelionBroadcast", "snapshotSaved", "Z", false)
  | 12 => ("DandelionBroadcast", "latestReason", "I", false)
  | 13 => ("DandelionBroadcast", "latestDetail", "I", false)
  | 14 => ("DandelionBroadcast", "latestCause", "I", false)
  | _ => ("DandelionBroadcast", "latestSyntaxError", "I", false)
def tyX11 : Nat → FieldType := fun k => match k with
  | 0 => .object "DandelionBroadcast$State"
  | 1 => .object "DandelionBroadcast$State"
  | 2 => .object "DandelionBroadcast$State"
  | 3 => .object "DandelionBroadcast$History"
  | 4 => .object "DandelionBroadcast$Ways"
  | 5 => .object "DandelionBroadcast$SpreadTree"
  | 6 => .object "DandelionBroadcast$Winds"
  | 7 => .object "DandelionBroadcast$Changer"
  | 8 => .object "DandelionBroadcast$Commands"
  | 9 => .array .char
  | 10 => .int
  | 11 => .boolean
  | 12 => .int
  | 13 => .int
  | 14 => .int
  | _ => .int
abbrev wsX110 : List Cond := u_ws RX11 TX11 16
theorem nmX11 : ∀ a, a < 16 → ∀ b, b < 16 → a ≠ b → (TX11 a).2.1 ≠ (TX11 b).2.1 := by decide +kernel
theorem tyX11_ok : ∀ k, k < 16 → parseFieldDescriptor (TX11 k).2.2.1 = some (tyX11 k) := by decide +kernel
abbrev cX11_init : ByteArray := prog_1_method_1_code
def yX11_init : MethodName := ⟨RX11, "<init>", "()V"⟩
abbrev cX11_addField : ByteArray := prog_1_method_2_code
def yX11_addField : MethodName := ⟨RX11, "addField", "(I)I"⟩
abbrev cX11_setShield : ByteArray := prog_1_method_3_code
def yX11_setShield : MethodName := ⟨RX11, "setShield", "(II)I"⟩
abbrev cX11_addPath : ByteArray := prog_1_method_4_code
def yX11_addPath : MethodName := ⟨RX11, "addPath", "(IIII)I"⟩
abbrev cX11_setGust : ByteArray := prog_1_method_5_code
def yX11_setGust : MethodName := ⟨RX11, "setGust", "(II)I"⟩
abbrev cX11_setBlocked : ByteArray := prog_1_method_6_code
def yX11_setBlocked : MethodName := ⟨RX11, "setBlocked", "(IZ)I"⟩
abbrev cX11_fieldCount : ByteArray := prog_1_method_7_code
def yX11_fieldCount : MethodName := ⟨RX11, "fieldCount", "()I"⟩
abbrev cX11_pathCount : ByteArray := prog_1_method_8_code
def yX11_pathCount : MethodName := ⟨RX11, "pathCount", "()I"⟩
abbrev cX11_shieldOf : ByteArray := prog_1_method_9_code
def yX11_shieldOf : MethodName := ⟨RX11, "shieldOf", "(I)I"⟩
abbrev cX11_firstOf : ByteArray := prog_1_method_10_code
def yX11_firstOf : MethodName := ⟨RX11, "firstOf", "(I)I"⟩
abbrev cX11_secondOf : ByteArray := prog_1_method_11_code
def yX11_secondOf : MethodName := ⟨RX11, "secondOf", "(I)I"⟩
abbrev cX11_costOf : ByteArray := prog_1_method_12_code
def yX11_costOf : MethodName := ⟨RX11, "costOf", "(I)I"⟩
abbrev cX11_gustOf : ByteArray := prog_1_method_13_code
def yX11_gustOf : MethodName := ⟨RX11, "gustOf", "(I)I"⟩
abbrev cX11_isBlocked : ByteArray := prog_1_method_14_code
def yX11_isBlocked : MethodName := ⟨RX11, "isBlocked", "(I)Z"⟩
abbrev cX11_groupCount : ByteArray := prog_1_method_15_code
def yX11_groupCount : MethodName := ⟨RX11, "groupCount", "()I"⟩
abbrev cX11_isConnected : ByteArray := prog_1_method_16_code
def yX11_isConnected : MethodName := ⟨RX11, "isConnected", "(II)Z"⟩
abbrev cX11_wayCost : ByteArray := prog_1_method_17_code
def yX11_wayCost : MethodName := ⟨RX11, "wayCost", "(II)I"⟩
abbrev cX11_wayCostByRounds : ByteArray := prog_1_method_18_code
def yX11_wayCostByRounds : MethodName := ⟨RX11, "wayCostByRounds", "(II)I"⟩
abbrev cX11_disjointWays : ByteArray := prog_1_method_19_code
def yX11_disjointWays : MethodName := ⟨RX11, "disjointWays", "(II)I"⟩
abbrev cX11_smallestCut : ByteArray := prog_1_method_20_code
def yX11_smallestCut : MethodName := ⟨RX11, "smallestCut", "(II)I"⟩
abbrev cX11_isBridge : ByteArray := prog_1_method_21_code
def yX11_isBridge : MethodName := ⟨RX11, "isBridge", "(I)Z"⟩
abbrev cX11_bridgeCount : ByteArray := prog_1_method_22_code
def yX11_bridgeCount : MethodName := ⟨RX11, "bridgeCount", "()I"⟩
abbrev cX11_bridgeCountByBlocking : ByteArray := prog_1_method_23_code
def yX11_bridgeCountByBlocking : MethodName := ⟨RX11, "bridgeCountByBlocking", "()I"⟩
abbrev cX11_treeCost : ByteArray := prog_1_method_24_code
def yX11_treeCost : MethodName := ⟨RX11, "treeCost", "(I)I"⟩
abbrev cX11_treeCostByGrowing : ByteArray := prog_1_method_25_code
def yX11_treeCostByGrowing : MethodName := ⟨RX11, "treeCostByGrowing", "(I)I"⟩
abbrev cX11_isInTree : ByteArray := prog_1_method_26_code
def yX11_isInTree : MethodName := ⟨RX11, "isInTree", "(II)Z"⟩
abbrev cX11_parentIn : ByteArray := prog_1_method_27_code
def yX11_parentIn : MethodName := ⟨RX11, "parentIn", "(II)I"⟩
abbrev cX11_reachChance : ByteArray := prog_1_method_28_code
def yX11_reachChance : MethodName := ⟨RX11, "reachChance", "(II)F"⟩
abbrev cX11_setSeed : ByteArray := prog_1_method_29_code
def yX11_setSeed : MethodName := ⟨RX11, "setSeed", "(I)I"⟩
abbrev cX11_startBroadcast : ByteArray := prog_1_method_30_code
def yX11_startBroadcast : MethodName := ⟨RX11, "startBroadcast", "(IIZ)I"⟩
abbrev cX11_wind : ByteArray := prog_1_method_31_code
def yX11_wind : MethodName := ⟨RX11, "wind", "()I"⟩
abbrev cX11_windUntilEnd : ByteArray := prog_1_method_32_code
def yX11_windUntilEnd : MethodName := ⟨RX11, "windUntilEnd", "()I"⟩
abbrev cX11_abort : ByteArray := prog_1_method_33_code
def yX11_abort : MethodName := ⟨RX11, "abort", "()I"⟩
abbrev cX11_isBroadcasting : ByteArray := prog_1_method_34_code
def yX11_isBroadcasting : MethodName := ⟨RX11, "isBroadcasting", "()Z"⟩
abbrev cX11_source : ByteArray := prog_1_method_35_code
def yX11_source : MethodName := ⟨RX11, "source", "()I"⟩
abbrev cX11_hasPacket : ByteArray := prog_1_method_36_code
def yX11_hasPacket : MethodName := ⟨RX11, "hasPacket", "(II)Z"⟩
abbrev cX11_packetsOf : ByteArray := prog_1_method_37_code
def yX11_packetsOf : MethodName := ⟨RX11, "packetsOf", "(I)I"⟩
abbrev cX11_isCovered : ByteArray := prog_1_method_38_code
def yX11_isCovered : MethodName := ⟨RX11, "isCovered", "(I)Z"⟩
abbrev cX11_coveredCount : ByteArray := prog_1_method_39_code
def yX11_coveredCount : MethodName := ⟨RX11, "coveredCount", "()I"⟩
abbrev cX11_windsLeft : ByteArray := prog_1_method_40_code
def yX11_windsLeft : MethodName := ⟨RX11, "windsLeft", "()I"⟩
abbrev cX11_energyLeft : ByteArray := prog_1_method_41_code
def yX11_energyLeft : MethodName := ⟨RX11, "energyLeft", "()I"⟩
abbrev cX11_sentCount : ByteArray := prog_1_method_42_code
def yX11_sentCount : MethodName := ⟨RX11, "sentCount", "()I"⟩
abbrev cX11_lostCount : ByteArray := prog_1_method_43_code
def yX11_lostCount : MethodName := ⟨RX11, "lostCount", "()I"⟩
abbrev cX11_rebuiltCount : ByteArray := prog_1_method_44_code
def yX11_rebuiltCount : MethodName := ⟨RX11, "rebuiltCount", "()I"⟩
abbrev cX11_energy : ByteArray := prog_1_method_45_code
def yX11_energy : MethodName := ⟨RX11, "energy", "()I"⟩
abbrev cX11_finishedCount : ByteArray := prog_1_method_46_code
def yX11_finishedCount : MethodName := ⟨RX11, "finishedCount", "()I"⟩
abbrev cX11_failedCount : ByteArray := prog_1_method_47_code
def yX11_failedCount : MethodName := ⟨RX11, "failedCount", "()I"⟩
abbrev cX11_useOf : ByteArray := prog_1_method_48_code
def yX11_useOf : MethodName := ⟨RX11, "useOf", "(I)I"⟩
abbrev cX11_fieldByPackets : ByteArray := prog_1_method_49_code
def yX11_fieldByPackets : MethodName := ⟨RX11, "fieldByPackets", "(I)I"⟩
abbrev cX11_pathByUse : ByteArray := prog_1_method_50_code
def yX11_pathByUse : MethodName := ⟨RX11, "pathByUse", "(I)I"⟩
abbrev cX11_meanEnergy : ByteArray := prog_1_method_51_code
def yX11_meanEnergy : MethodName := ⟨RX11, "meanEnergy", "()D"⟩
abbrev cX11_lossShare : ByteArray := prog_1_method_52_code
def yX11_lossShare : MethodName := ⟨RX11, "lossShare", "()F"⟩
abbrev cX11_lossBits : ByteArray := prog_1_method_53_code
def yX11_lossBits : MethodName := ⟨RX11, "lossBits", "()I"⟩
abbrev cX11_isConsistent : ByteArray := prog_1_method_54_code
def yX11_isConsistent : MethodName := ⟨RX11, "isConsistent", "()Z"⟩
abbrev cX11_writeField : ByteArray := prog_1_method_55_code
def yX11_writeField : MethodName := ⟨RX11, "writeField", "(I)I"⟩
abbrev cX11_outputAt : ByteArray := prog_1_method_56_code
def yX11_outputAt : MethodName := ⟨RX11, "outputAt", "(I)C"⟩
abbrev cX11_appendInput : ByteArray := prog_1_method_57_code
def yX11_appendInput : MethodName := ⟨RX11, "appendInput", "(C)I"⟩
abbrev cX11_execute : ByteArray := prog_1_method_58_code
def yX11_execute : MethodName := ⟨RX11, "execute", "()I"⟩
abbrev cX11_syntaxErrorOffset : ByteArray := prog_1_method_59_code
def yX11_syntaxErrorOffset : MethodName := ⟨RX11, "syntaxErrorOffset", "()I"⟩
abbrev cX11_rejectionReason : ByteArray := prog_1_method_60_code
def yX11_rejectionReason : MethodName := ⟨RX11, "rejectionReason", "()I"⟩
abbrev cX11_rejectionDetail : ByteArray := prog_1_method_61_code
def yX11_rejectionDetail : MethodName := ⟨RX11, "rejectionDetail", "()I"⟩
abbrev cX11_causeReason : ByteArray := prog_1_method_62_code
def yX11_causeReason : MethodName := ⟨RX11, "causeReason", "()I"⟩
abbrev cX11_undo : ByteArray := prog_1_method_63_code
def yX11_undo : MethodName := ⟨RX11, "undo", "()I"⟩
abbrev cX11_saveSnapshot : ByteArray := prog_1_method_64_code
def yX11_saveSnapshot : MethodName := ⟨RX11, "saveSnapshot", "()I"⟩
abbrev cX11_restoreSnapshot : ByteArray := prog_1_method_65_code
def yX11_restoreSnapshot : MethodName := ⟨RX11, "restoreSnapshot", "()I"⟩
abbrev cX11_requireField : ByteArray := prog_1_method_66_code
def yX11_requireField : MethodName := ⟨RX11, "requireField", "(I)V"⟩
abbrev cX11_requirePath : ByteArray := prog_1_method_67_code
def yX11_requirePath : MethodName := ⟨RX11, "requirePath", "(I)V"⟩
abbrev cX11_requireTwoFields : ByteArray := prog_1_method_68_code
def yX11_requireTwoFields : MethodName := ⟨RX11, "requireTwoFields", "(II)V"⟩
abbrev cX11_requireStarted : ByteArray := prog_1_method_69_code
def yX11_requireStarted : MethodName := ⟨RX11, "requireStarted", "()V"⟩
abbrev cX11_requireRunning : ByteArray := prog_1_method_70_code
def yX11_requireRunning : MethodName := ⟨RX11, "requireRunning", "()V"⟩
abbrev cX11_requireSent : ByteArray := prog_1_method_71_code
def yX11_requireSent : MethodName := ⟨RX11, "requireSent", "()V"⟩
abbrev cX11_requireRejection : ByteArray := prog_1_method_72_code
def yX11_requireRejection : MethodName := ⟨RX11, "requireRejection", "()V"⟩
abbrev cX11_requireWay : ByteArray := prog_1_method_73_code
def yX11_requireWay : MethodName := ⟨RX11, "requireWay", "(I)I"⟩
abbrev cX11_settle : ByteArray := prog_1_method_74_code
def yX11_settle : MethodName := ⟨RX11, "settle", "(I)I"⟩
abbrev cX11_noteRejection : ByteArray := prog_1_method_75_code
def yX11_noteRejection : MethodName := ⟨RX11, "noteRejection", "(III)V"⟩
abbrev cX11_perform : ByteArray := prog_1_method_76_code
def yX11_perform : MethodName := ⟨RX11, "perform", "(LDandelionBroadcast$Kind;[I)I"⟩
abbrev cX11_put : ByteArray := prog_1_method_77_code
def yX11_put : MethodName := ⟨RX11, "put", "(C)V"⟩
abbrev cX11_treeCostsAgree : ByteArray := prog_1_method_78_code
def yX11_treeCostsAgree : MethodName := ⟨RX11, "treeCostsAgree", "()Z"⟩
abbrev cX11_waysAgreeWithCuts : ByteArray := prog_1_method_79_code
def yX11_waysAgreeWithCuts : MethodName := ⟨RX11, "waysAgreeWithCuts", "()Z"⟩
abbrev cX11_hasBit : ByteArray := prog_1_method_80_code
def yX11_hasBit : MethodName := ⟨RX11, "hasBit", "(II)Z"⟩
abbrev cX11_bitsOfShare : ByteArray := prog_1_method_81_code
def yX11_bitsOfShare : MethodName := ⟨RX11, "bitsOfShare", "(F)I"⟩
def RX12 : String := "DandelionBroadcastModel"
def TX12 : u_T := fun k => match k with
  | 0 => ("DandelionBroadcastModel", "thrown", "I", false)
  | 1 => ("DandelionBroadcastModel", "now", "[I", true)
  | 2 => ("DandelionBroadcastModel", "saved", "[I", true)
  | 3 => ("DandelionBroadcastModel", "before", "[I", true)
  | 4 => ("DandelionBroadcastModel", "tried", "[I", true)
  | 5 => ("DandelionBroadcastModel", "history", "[[I", true)
  | 6 => ("DandelionBroadcastModel", "labels", "[I", true)
  | 7 => ("DandelionBroadcastModel", "parents", "[I", true)
  | 8 => ("DandelionBroadcastModel", "ways", "[I", true)
  | 9 => ("DandelionBroadcastModel", "depths", "[I", true)
  | 10 => ("DandelionBroadcastModel", "costs", "[I", true)
  | 11 => ("DandelionBroadcastModel", "kept", "I", false)
  | 12 => ("DandelionBroadcastModel", "reason", "I", false)
  | 13 => ("DandelionBroadcastModel", "reasonDetail", "I", false)
  | 14 => ("DandelionBroadcastModel", "cause", "I", false)
  | 15 => ("DandelionBroadcastModel", "isSaved", "Z", false)
  | 16 => ("DandelionBroadcastModel", "isInCommands", "Z", false)
  | 17 => ("DandelionBroadcastModel", "output", "[C", true)
  | 18 => ("DandelionBroadcastModel", "written", "I", false)
  | 19 => ("DandelionBroadcastModel", "input", "[C", true)
  | 20 => ("DandelionBroadcastModel", "numbers", "[I", true)
  | 21 => ("DandelionBroadcastModel", "length", "I", false)
  | 22 => ("DandelionBroadcastModel", "at", "I", false)
  | 23 => ("DandelionBroadcastModel", "count", "I", false)
  | 24 => ("DandelionBroadcastModel", "error", "I", false)
  | 25 => ("DandelionBroadcastModel", "isWrong", "Z", false)
  | 26 => ("DandelionBroadcastModel", "isPlus", "Z", false)
  | _ => ("DandelionBroadcastModel", "command", "Ljava/lang/String;", false)
def tyX12 : Nat → FieldType := fun k => match k with
  | 0 => .int
  | 1 => .array .int
  | 2 => .array .int
  | 3 => .array .int
  | 4 => .array .int
  | 5 => .array (.array .int)
  | 6 => .array .int
  | 7 => .array .int
  | 8 => .array .int
  | 9 => .array .int
  | 10 => .array .int
  | 11 => .int
  | 12 => .int
  | 13 => .int
  | 14 => .int
  | 15 => .boolean
  | 16 => .boolean
  | 17 => .array .char
  | 18 => .int
  | 19 => .array .char
  | 20 => .array .int
  | 21 => .int
  | 22 => .int
  | 23 => .int
  | 24 => .int
  | 25 => .boolean
  | 26 => .boolean
  | _ => .object "java/lang/String"
abbrev wsX120 : List Cond := u_ws RX12 TX12 28
theorem nmX12 : ∀ a, a < 28 → ∀ b, b < 28 → a ≠ b → (TX12 a).2.1 ≠ (TX12 b).2.1 := by decide +kernel
theorem tyX12_ok : ∀ k, k < 28 → parseFieldDescriptor (TX12 k).2.2.1 = some (tyX12 k) := by decide +kernel
abbrev cX12_init : ByteArray := prog_14_method_1_code
def yX12_init : MethodName := ⟨RX12, "<init>", "()V"⟩
abbrev cX12_thrown : ByteArray := prog_14_method_2_code
def yX12_thrown : MethodName := ⟨RX12, "thrown", "()I"⟩
abbrev cX12_isBetween : ByteArray := prog_14_method_3_code
def yX12_isBetween : MethodName := ⟨RX12, "isBetween", "(III)Z"⟩
abbrev cX12_isDigit : ByteArray := prog_14_method_4_code
def yX12_isDigit : MethodName := ⟨RX12, "isDigit", "(I)Z"⟩
abbrev cX12_copyRow : ByteArray := prog_14_method_5_code
def yX12_copyRow : MethodName := ⟨RX12, "copyRow", "([I[I)V"⟩
abbrev cX12_fails : ByteArray := prog_14_method_6_code
def yX12_fails : MethodName := ⟨RX12, "fails", "(IZ)Z"⟩
abbrev cX12_rejects : ByteArray := prog_14_method_7_code
def yX12_rejects : MethodName := ⟨RX12, "rejects", "(ZII)Z"⟩
abbrev cX12_remember : ByteArray := prog_14_method_8_code
def yX12_remember : MethodName := ⟨RX12, "remember", "([I)V"⟩
abbrev cX12_change : ByteArray := prog_14_method_9_code
def yX12_change : MethodName := ⟨RX12, "change", "()V"⟩
abbrev cX12_isField : ByteArray := prog_14_method_10_code
def yX12_isField : MethodName := ⟨RX12, "isField", "(I)Z"⟩
abbrev cX12_areFields : ByteArray := prog_14_method_11_code
def yX12_areFields : MethodName := ⟨RX12, "areFields", "(II)Z"⟩
abbrev cX12_ofField : ByteArray := prog_14_method_12_code
def yX12_ofField : MethodName := ⟨RX12, "ofField", "(II)I"⟩
abbrev cX12_putField : ByteArray := prog_14_method_13_code
def yX12_putField : MethodName := ⟨RX12, "putField", "(III)V"⟩
abbrev cX12_isPath : ByteArray := prog_14_method_14_code
def yX12_isPath : MethodName := ⟨RX12, "isPath", "(I)Z"⟩
abbrev cX12_of : ByteArray := prog_14_method_15_code
def yX12_of : MethodName := ⟨RX12, "of", "(II)I"⟩
abbrev cX12_put : ByteArray := prog_14_method_16_code
def yX12_put : MethodName := ⟨RX12, "put", "(III)V"⟩
abbrev cX12_has : ByteArray := prog_14_method_17_code
def yX12_has : MethodName := ⟨RX12, "has", "(II)Z"⟩
abbrev cX12_openPaths : ByteArray := prog_14_method_18_code
def yX12_openPaths : MethodName := ⟨RX12, "openPaths", "()I"⟩
abbrev cX12_countBlocked : ByteArray := prog_14_method_19_code
def yX12_countBlocked : MethodName := ⟨RX12, "countBlocked", "()I"⟩
abbrev cX12_between : ByteArray := prog_14_method_20_code
def yX12_between : MethodName := ⟨RX12, "between", "(II)I"⟩
abbrev cX12_join : ByteArray := prog_14_method_21_code
def yX12_join : MethodName := ⟨RX12, "join", "(I)V"⟩
abbrev cX12_separate : ByteArray := prog_14_method_22_code
def yX12_separate : MethodName := ⟨RX12, "separate", "()V"⟩
abbrev cX12_label : ByteArray := prog_14_method_23_code
def yX12_label : MethodName := ⟨RX12, "label", "(I)I"⟩
abbrev cX12_forest : ByteArray := prog_14_method_24_code
def yX12_forest : MethodName := ⟨RX12, "forest", "()I"⟩
abbrev cX12_isInTreeOf : ByteArray := prog_14_method_25_code
def yX12_isInTreeOf : MethodName := ⟨RX12, "isInTreeOf", "(II)Z"⟩
abbrev cX12_reach : ByteArray := prog_14_method_26_code
def yX12_reach : MethodName := ⟨RX12, "reach", "(III)V"⟩
abbrev cX12_growTree : ByteArray := prog_14_method_27_code
def yX12_growTree : MethodName := ⟨RX12, "growTree", "(I)V"⟩
abbrev cX12_danger : ByteArray := prog_14_method_28_code
def yX12_danger : MethodName := ⟨RX12, "danger", "(II)I"⟩
abbrev cX12_addField : ByteArray := prog_14_method_29_code
def yX12_addField : MethodName := ⟨RX12, "addField", "(I)I"⟩
abbrev cX12_setShield : ByteArray := prog_14_method_30_code
def yX12_setShield : MethodName := ⟨RX12, "setShield", "(II)I"⟩
abbrev cX12_addPath : ByteArray := prog_14_method_31_code
def yX12_addPath : MethodName := ⟨RX12, "addPath", "(IIII)I"⟩
abbrev cX12_setGust : ByteArray := prog_14_method_32_code
def yX12_setGust : MethodName := ⟨RX12, "setGust", "(II)I"⟩
abbrev cX12_setBlocked : ByteArray := prog_14_method_33_code
def yX12_setBlocked : MethodName := ⟨RX12, "setBlocked", "(IZ)I"⟩
abbrev cX12_setSeed : ByteArray := prog_14_method_34_code
def yX12_setSeed : MethodName := ⟨RX12, "setSeed", "(I)I"⟩
abbrev cX12_runs : ByteArray := prog_14_method_35_code
def yX12_runs : MethodName := ⟨RX12, "runs", "()Z"⟩
abbrev cX12_isIdle : ByteArray := prog_14_method_36_code
def yX12_isIdle : MethodName := ⟨RX12, "isIdle", "()Z"⟩
abbrev cX12_packets : ByteArray := prog_14_method_37_code
def yX12_packets : MethodName := ⟨RX12, "packets", "()I"⟩
abbrev cX12_allPackets : ByteArray := prog_14_method_38_code
def yX12_allPackets : MethodName := ⟨RX12, "allPackets", "()I"⟩
abbrev cX12_covered : ByteArray := prog_14_method_39_code
def yX12_covered : MethodName := ⟨RX12, "covered", "(I)Z"⟩
abbrev cX12_startBroadcast : ByteArray := prog_14_method_40_code
def yX12_startBroadcast : MethodName := ⟨RX12, "startBroadcast", "(IIZ)I"⟩
abbrev cX12_send : ByteArray := prog_14_method_41_code
def yX12_send : MethodName := ⟨RX12, "send", "(II)I"⟩
abbrev cX12_visit : ByteArray := prog_14_method_42_code
def yX12_visit : MethodName := ⟨RX12, "visit", "(I)I"⟩
abbrev cX12_rebuild : ByteArray := prog_14_method_43_code
def yX12_rebuild : MethodName := ⟨RX12, "rebuild", "()V"⟩
abbrev cX12_judgeEnd : ByteArray := prog_14_method_44_code
def yX12_judgeEnd : MethodName := ⟨RX12, "judgeEnd", "()V"⟩
abbrev cX12_blow : ByteArray := prog_14_method_45_code
def yX12_blow : MethodName := ⟨RX12, "blow", "()I"⟩
abbrev cX12_blowAll : ByteArray := prog_14_method_46_code
def yX12_blowAll : MethodName := ⟨RX12, "blowAll", "()I"⟩
abbrev cX12_wind : ByteArray := prog_14_method_47_code
def yX12_wind : MethodName := ⟨RX12, "wind", "()I"⟩
abbrev cX12_windUntilEnd : ByteArray := prog_14_method_48_code
def yX12_windUntilEnd : MethodName := ⟨RX12, "windUntilEnd", "()I"⟩
abbrev cX12_abort : ByteArray := prog_14_method_49_code
def yX12_abort : MethodName := ⟨RX12, "abort", "()I"⟩
abbrev cX12_fieldCount : ByteArray := prog_14_method_50_code
def yX12_fieldCount : MethodName := ⟨RX12, "fieldCount", "()I"⟩
abbrev cX12_pathCount : ByteArray := prog_14_method_51_code
def yX12_pathCount : MethodName := ⟨RX12, "pathCount", "()I"⟩
abbrev cX12_shieldOf : ByteArray := prog_14_method_52_code
def yX12_shieldOf : MethodName := ⟨RX12, "shieldOf", "(I)I"⟩
abbrev cX12_number : ByteArray := prog_14_method_53_code
def yX12_number : MethodName := ⟨RX12, "number", "(II)I"⟩
abbrev cX12_firstOf : ByteArray := prog_14_method_54_code
def yX12_firstOf : MethodName := ⟨RX12, "firstOf", "(I)I"⟩
abbrev cX12_secondOf : ByteArray := prog_14_method_55_code
def yX12_secondOf : MethodName := ⟨RX12, "secondOf", "(I)I"⟩
abbrev cX12_costOf : ByteArray := prog_14_method_56_code
def yX12_costOf : MethodName := ⟨RX12, "costOf", "(I)I"⟩
abbrev cX12_gustOf : ByteArray := prog_14_method_57_code
def yX12_gustOf : MethodName := ⟨RX12, "gustOf", "(I)I"⟩
abbrev cX12_isBlocked : ByteArray := prog_14_method_58_code
def yX12_isBlocked : MethodName := ⟨RX12, "isBlocked", "(I)Z"⟩
abbrev cX12_useOf : ByteArray := prog_14_method_59_code
def yX12_useOf : MethodName := ⟨RX12, "useOf", "(I)I"⟩
abbrev cX12_groupCount : ByteArray := prog_14_method_60_code
def yX12_groupCount : MethodName := ⟨RX12, "groupCount", "()I"⟩
abbrev cX12_connected : ByteArray := prog_14_method_61_code
def yX12_connected : MethodName := ⟨RX12, "connected", "(II)Z"⟩
abbrev cX12_isConnected : ByteArray := prog_14_method_62_code
def yX12_isConnected : MethodName := ⟨RX12, "isConnected", "(II)Z"⟩
abbrev cX12_lower : ByteArray := prog_14_method_63_code
def yX12_lower : MethodName := ⟨RX12, "lower", "(III)V"⟩
abbrev cX12_wayCost : ByteArray := prog_14_method_64_code
def yX12_wayCost : MethodName := ⟨RX12, "wayCost", "(II)I"⟩
abbrev cX12_wayCostByRounds : ByteArray := prog_14_method_65_code
def yX12_wayCostByRounds : MethodName := ⟨RX12, "wayCostByRounds", "(II)I"⟩
abbrev cX12_leaving : ByteArray := prog_14_method_66_code
def yX12_leaving : MethodName := ⟨RX12, "leaving", "(I)I"⟩
abbrev cX12_smallestCut : ByteArray := prog_14_method_67_code
def yX12_smallestCut : MethodName := ⟨RX12, "smallestCut", "(II)I"⟩
abbrev cX12_disjointWays : ByteArray := prog_14_method_68_code
def yX12_disjointWays : MethodName := ⟨RX12, "disjointWays", "(II)I"⟩
abbrev cX12_bridges : ByteArray := prog_14_method_69_code
def yX12_bridges : MethodName := ⟨RX12, "bridges", "(I)Z"⟩
abbrev cX12_isBridge : ByteArray := prog_14_method_70_code
def yX12_isBridge : MethodName := ⟨RX12, "isBridge", "(I)Z"⟩
abbrev cX12_bridgeCount : ByteArray := prog_14_method_71_code
def yX12_bridgeCount : MethodName := ⟨RX12, "bridgeCount", "()I"⟩
abbrev cX12_bridgeCountByBlocking : ByteArray := prog_14_method_72_code
def yX12_bridgeCountByBlocking : MethodName := ⟨RX12, "bridgeCountByBlocking", "()I"⟩
abbrev cX12_treeCost : ByteArray := prog_14_method_73_code
def yX12_treeCost : MethodName := ⟨RX12, "treeCost", "(I)I"⟩
abbrev cX12_treeCostByGrowing : ByteArray := prog_14_method_74_code
def yX12_treeCostByGrowing : MethodName := ⟨RX12, "treeCostByGrowing", "(I)I"⟩
abbrev cX12_isInTree : ByteArray := prog_14_method_75_code
def yX12_isInTree : MethodName := ⟨RX12, "isInTree", "(II)Z"⟩
abbrev cX12_parentIn : ByteArray := prog_14_method_76_code
def yX12_parentIn : MethodName := ⟨RX12, "parentIn", "(II)I"⟩
abbrev cX12_chance : ByteArray := prog_14_method_77_code
def yX12_chance : MethodName := ⟨RX12, "chance", "(I)F"⟩
abbrev cX12_reachChance : ByteArray := prog_14_method_78_code
def yX12_reachChance : MethodName := ⟨RX12, "reachChance", "(II)F"⟩
abbrev cX12_isBroadcasting : ByteArray := prog_14_method_79_code
def yX12_isBroadcasting : MethodName := ⟨RX12, "isBroadcasting", "()Z"⟩
abbrev cX12_source : ByteArray := prog_14_method_80_code
def yX12_source : MethodName := ⟨RX12, "source", "()I"⟩
abbrev cX12_hasPacket : ByteArray := prog_14_method_81_code
def yX12_hasPacket : MethodName := ⟨RX12, "hasPacket", "(II)Z"⟩
abbrev cX12_countPackets : ByteArray := prog_14_method_82_code
def yX12_countPackets : MethodName := ⟨RX12, "countPackets", "(I)I"⟩
abbrev cX12_packetsOf : ByteArray := prog_14_method_83_code
def yX12_packetsOf : MethodName := ⟨RX12, "packetsOf", "(I)I"⟩
abbrev cX12_isCovered : ByteArray := prog_14_method_84_code
def yX12_isCovered : MethodName := ⟨RX12, "isCovered", "(I)Z"⟩
abbrev cX12_coveredCount : ByteArray := prog_14_method_85_code
def yX12_coveredCount : MethodName := ⟨RX12, "coveredCount", "()I"⟩
abbrev cX12_windsLeft : ByteArray := prog_14_method_86_code
def yX12_windsLeft : MethodName := ⟨RX12, "windsLeft", "()I"⟩
abbrev cX12_energyLeft : ByteArray := prog_14_method_87_code
def yX12_energyLeft : MethodName := ⟨RX12, "energyLeft", "()I"⟩
abbrev cX12_sentCount : ByteArray := prog_14_method_88_code
def yX12_sentCount : MethodName := ⟨RX12, "sentCount", "()I"⟩
abbrev cX12_lostCount : ByteArray := prog_14_method_89_code
def yX12_lostCount : MethodName := ⟨RX12, "lostCount", "()I"⟩
abbrev cX12_rebuiltCount : ByteArray := prog_14_method_90_code
def yX12_rebuiltCount : MethodName := ⟨RX12, "rebuiltCount", "()I"⟩
abbrev cX12_energy : ByteArray := prog_14_method_91_code
def yX12_energy : MethodName := ⟨RX12, "energy", "()I"⟩
abbrev cX12_finishedCount : ByteArray := prog_14_method_92_code
def yX12_finishedCount : MethodName := ⟨RX12, "finishedCount", "()I"⟩
abbrev cX12_failedCount : ByteArray := prog_14_method_93_code
def yX12_failedCount : MethodName := ⟨RX12, "failedCount", "()I"⟩
abbrev cX12_comesFirst : ByteArray := prog_14_method_94_code
def yX12_comesFirst : MethodName := ⟨RX12, "comesFirst", "(II)Z"⟩
abbrev cX12_fieldByPackets : ByteArray := prog_14_method_95_code
def yX12_fieldByPackets : MethodName := ⟨RX12, "fieldByPackets", "(I)I"⟩
abbrev cX12_isUsedFirst : ByteArray := prog_14_method_96_code
def yX12_isUsedFirst : MethodName := ⟨RX12, "isUsedFirst", "(II)Z"⟩
abbrev cX12_pathByUse : ByteArray := prog_14_method_97_code
def yX12_pathByUse : MethodName := ⟨RX12, "pathByUse", "(I)I"⟩
abbrev cX12_meanEnergy : ByteArray := prog_14_method_98_code
def yX12_meanEnergy : MethodName := ⟨RX12, "meanEnergy", "()D"⟩
abbrev cX12_lossShare : ByteArray := prog_14_method_99_code
def yX12_lossShare : MethodName := ⟨RX12, "lossShare", "()F"⟩
abbrev cX12_lossBits : ByteArray := prog_14_method_100_code
def yX12_lossBits : MethodName := ⟨RX12, "lossBits", "()I"⟩
abbrev cX12_isConsistent : ByteArray := prog_14_method_101_code
def yX12_isConsistent : MethodName := ⟨RX12, "isConsistent", "()Z"⟩
abbrev cX12_write : ByteArray := prog_14_method_102_code
def yX12_write : MethodName := ⟨RX12, "write", "(C)V"⟩
abbrev cX12_writeDigit : ByteArray := prog_14_method_103_code
def yX12_writeDigit : MethodName := ⟨RX12, "writeDigit", "(I)V"⟩
abbrev cX12_writeField : ByteArray := prog_14_method_104_code
def yX12_writeField : MethodName := ⟨RX12, "writeField", "(I)I"⟩
abbrev cX12_outputAt : ByteArray := prog_14_method_105_code
def yX12_outputAt : MethodName := ⟨RX12, "outputAt", "(I)C"⟩
abbrev cX12_appendInput : ByteArray := prog_14_method_106_code
def yX12_appendInput : MethodName := ⟨RX12, "appendInput", "(C)I"⟩
abbrev cX12_seen : ByteArray := prog_14_method_107_code
def yX12_seen : MethodName := ⟨RX12, "seen", "(I)C"⟩
abbrev cX12_sees : ByteArray := prog_14_method_108_code
def yX12_sees : MethodName := ⟨RX12, "sees", "(CC)Z"⟩
abbrev cX12_must : ByteArray := prog_14_method_109_code
def yX12_must : MethodName := ⟨RX12, "must", "(C)V"⟩
abbrev cX12_readBehind : ByteArray := prog_14_method_110_code
def yX12_readBehind : MethodName := ⟨RX12, "readBehind", "(CI)V"⟩
abbrev cX12_keyword : ByteArray := prog_14_method_111_code
def yX12_keyword : MethodName := ⟨RX12, "keyword", "()Ljava/lang/String;"⟩
abbrev cX12_readCommand : ByteArray := prog_14_method_112_code
def yX12_readCommand : MethodName := ⟨RX12, "readCommand", "()V"⟩
abbrev cX12_countCommands : ByteArray := prog_14_method_113_code
def yX12_countCommands : MethodName := ⟨RX12, "countCommands", "()I"⟩
abbrev cX12_executeCommand : ByteArray := prog_14_method_114_code
def yX12_executeCommand : MethodName := ⟨RX12, "executeCommand", "()I"⟩
abbrev cX12_failCommand : ByteArray := prog_14_method_115_code
def yX12_failCommand : MethodName := ⟨RX12, "failCommand", "(IZ)I"⟩
abbrev cX12_execute : ByteArray := prog_14_method_116_code
def yX12_execute : MethodName := ⟨RX12, "execute", "()I"⟩
abbrev cX12_syntaxErrorOffset : ByteArray := prog_14_method_117_code
def yX12_syntaxErrorOffset : MethodName := ⟨RX12, "syntaxErrorOffset", "()I"⟩
abbrev cX12_rejectionReason : ByteArray := prog_14_method_118_code
def yX12_rejectionReason : MethodName := ⟨RX12, "rejectionReason", "()I"⟩
abbrev cX12_rejectionDetail : ByteArray := prog_14_method_119_code
def yX12_rejectionDetail : MethodName := ⟨RX12, "rejectionDetail", "()I"⟩
abbrev cX12_causeReason : ByteArray := prog_14_method_120_code
def yX12_causeReason : MethodName := ⟨RX12, "causeReason", "()I"⟩
abbrev cX12_undo : ByteArray := prog_14_method_121_code
def yX12_undo : MethodName := ⟨RX12, "undo", "()I"⟩
abbrev cX12_saveSnapshot : ByteArray := prog_14_method_122_code
def yX12_saveSnapshot : MethodName := ⟨RX12, "saveSnapshot", "()I"⟩
abbrev cX12_restoreSnapshot : ByteArray := prog_14_method_123_code
def yX12_restoreSnapshot : MethodName := ⟨RX12, "restoreSnapshot", "()I"⟩
def RJx145de : String := "java/io/Serializable"
def TJx145de : u_T := fun k => match k with
  | _ => ("", "", "", false)
def tyJx145de : Nat → FieldType := fun k => match k with
  | _ => .int
abbrev wsJx145de0 : List Cond := u_ws RJx145de TJx145de 0
theorem nmJx145de : ∀ a, a < 0 → ∀ b, b < 0 → a ≠ b → (TJx145de a).2.1 ≠ (TJx145de b).2.1 := by decide +kernel
theorem tyJx145de_ok : ∀ k, k < 0 → parseFieldDescriptor (TJx145de k).2.2.1 = some (tyJx145de k) := by decide +kernel
def RJ5 : String := "java/lang/AbstractStringBuilder"
def TJ5 : u_T := fun k => match k with
  | _ => ("", "", "", false)
def tyJ5 : Nat → FieldType := fun k => match k with
  | _ => .int
abbrev wsJ50 : List Cond := u_ws RJ5 TJ5 0
theorem nmJ5 : ∀ a, a < 0 → ∀ b, b < 0 → a ≠ b → (TJ5 a).2.1 ≠ (TJ5 b).2.1 := by decide +kernel
theorem tyJ5_ok : ∀ k, k < 0 → parseFieldDescriptor (TJ5 k).2.2.1 = some (tyJ5 k) := by decide +kernel
abbrev cJ5_init_d00df : ByteArray := prog_16_method_2_code
def yJ5_init_d00df : MethodName := ⟨RJ5, "<init>", "(I)V"⟩
abbrev cJ5_length_8abf5 : ByteArray := prog_16_method_6_code
def yJ5_length_8abf5 : MethodName := ⟨RJ5, "length", "()I"⟩
abbrev cJ5_ensureCapacityInternal_d00df : ByteArray := prog_16_method_9_code
def yJ5_ensureCapacityInternal_d00df : MethodName := ⟨RJ5, "ensureCapacityInternal", "(I)V"⟩
abbrev cJ5_newCapacity_0f7a4 : ByteArray := prog_16_method_10_code
def yJ5_newCapacity_0f7a4 : MethodName := ⟨RJ5, "newCapacity", "(I)I"⟩
abbrev cJ5_inflate_da8c8 : ByteArray := prog_16_method_11_code
def yJ5_inflate_da8c8 : MethodName := ⟨RJ5, "inflate", "()V"⟩
abbrev cJ5_append_cf1ce : ByteArray := prog_16_method_22_code
def yJ5_append_cf1ce : MethodName := ⟨RJ5, "append", "(Ljava/lang/String;)Ljava/lang/AbstractStringBuilder;"⟩
abbrev cJ5_appendNull_278bc : ByteArray := prog_16_method_26_code
def yJ5_appendNull_278bc : MethodName := ⟨RJ5, "appendNull", "()Ljava/lang/AbstractStringBuilder;"⟩
abbrev cJ5_append_c97b9 : ByteArray := prog_16_method_32_code
def yJ5_append_c97b9 : MethodName := ⟨RJ5, "append", "(I)Ljava/lang/AbstractStringBuilder;"⟩
abbrev cJ5_getValue_6d5f1 : ByteArray := prog_16_method_64_code
def yJ5_getValue_6d5f1 : MethodName := ⟨RJ5, "getValue", "()[B"⟩
abbrev cJ5_isLatin1_aae02 : ByteArray := prog_16_method_68_code
def yJ5_isLatin1_aae02 : MethodName := ⟨RJ5, "isLatin1", "()Z"⟩
abbrev cJ5_inflateIfNeededFor_a7421 : ByteArray := prog_16_method_71_code
def yJ5_inflateIfNeededFor_a7421 : MethodName := ⟨RJ5, "inflateIfNeededFor", "(Ljava/lang/String;)V"⟩
abbrev cJ5_putStringAt_47b60 : ByteArray := prog_16_method_73_code
def yJ5_putStringAt_47b60 : MethodName := ⟨RJ5, "putStringAt", "(ILjava/lang/String;)V"⟩
def RJx2cfe8 : String := "java/lang/Appendable"
def TJx2cfe8 : u_T := fun k => match k with
  | _ => ("", "", "", false)
def tyJx2cfe8 : Nat → FieldType := fun k => match k with
  | _ => .int
abbrev wsJx2cfe80 : List Cond := u_ws RJx2cfe8 TJx2cfe8 0
theorem nmJx2cfe8 : ∀ a, a < 0 → ∀ b, b < 0 → a ≠ b → (TJx2cfe8 a).2.1 ≠ (TJx2cfe8 b).2.1 := by decide +kernel
theorem tyJx2cfe8_ok : ∀ k, k < 0 → parseFieldDescriptor (TJx2cfe8 k).2.2.1 = some (tyJx2cfe8 k) := by decide +kernel
def RJx00060 : String := "java/lang/ArrayIndexOutOfBoundsException"
def TJx00060 : u_T := fun k => match k with
  | 0 => ("java/lang/Throwable", "backtrace", "Ljava/lang/Object;", false)
  | 1 => ("java/lang/Throwable", "detailMessage", "Ljava/lang/String;", false)
  | 2 => ("java/lang/Throwable", "cause", "Ljava/lang/Throwable;", false)
  | 3 => ("java/lang/Throwable", "stackTrace", "[Ljava/lang/StackTraceElement;", false)
  | 4 => ("java/lang/Throwable", "depth", "I", false)
  | _ => ("java/lang/Throwable", "suppressedExceptions", "Ljava/util/List;", false)
def tyJx00060 : Nat → FieldType := fun k => match k with
  | 0 => .object "java/lang/Object"
  | 1 => .object "java/lang/String"
  | 2 => .object "java/lang/Throwable"
  | 3 => .array (.object "java/lang/StackTraceElement")
  | 4 => .int
  | _ => .object "java/util/List"
abbrev wsJx000600 : List Cond := u_ws RJx00060 TJx00060 6
theorem nmJx00060 : ∀ a, a < 6 → ∀ b, b < 6 → a ≠ b → (TJx00060 a).2.1 ≠ (TJx00060 b).2.1 := by decide +kernel
theorem tyJx00060_ok : ∀ k, k < 6 → parseFieldDescriptor (TJx00060 k).2.2.1 = some (tyJx00060 k) := by decide +kernel
abbrev cJx00060_init_a7421 : ByteArray := prog_19_method_2_code
def yJx00060_init_a7421 : MethodName := ⟨RJx00060, "<init>", "(Ljava/lang/String;)V"⟩
def RJx9f9b0 : String := "java/lang/CharSequence"
def TJx9f9b0 : u_T := fun k => match k with
  | _ => ("", "", "", false)
def tyJx9f9b0 : Nat → FieldType := fun k => match k with
  | _ => .int
abbrev wsJx9f9b00 : List Cond := u_ws RJx9f9b0 TJx9f9b0 0
theorem nmJx9f9b0 : ∀ a, a < 0 → ∀ b, b < 0 → a ≠ b → (TJx9f9b0 a).2.1 ≠ (TJx9f9b0 b).2.1 := by decide +kernel
theorem tyJx9f9b0_ok : ∀ k, k < 0 → parseFieldDescriptor (TJx9f9b0 k).2.2.1 = some (tyJx9f9b0 k) := by decide +kernel
def RJx8e188 : String := "java/lang/Cloneable"
def TJx8e188 : u_T := fun k => match k with
  | _ => ("", "", "", false)
def tyJx8e188 : Nat → FieldType := fun k => match k with
  | _ => .int
abbrev wsJx8e1880 : List Cond := u_ws RJx8e188 TJx8e188 0
theorem nmJx8e188 : ∀ a, a < 0 → ∀ b, b < 0 → a ≠ b → (TJx8e188 a).2.1 ≠ (TJx8e188 b).2.1 := by decide +kernel
theorem tyJx8e188_ok : ∀ k, k < 0 → parseFieldDescriptor (TJx8e188 k).2.2.1 = some (tyJx8e188 k) := by decide +kernel
def RJxb160c : String := "java/lang/Comparable"
def TJxb160c : u_T := fun k => match k with
  | _ => ("", "", "", false)
def tyJxb160c : Nat → FieldType := fun k => match k with
  | _ => .int
abbrev wsJxb160c0 : List Cond := u_ws RJxb160c TJxb160c 0
theorem nmJxb160c : ∀ a, a < 0 → ∀ b, b < 0 → a ≠ b → (TJxb160c a).2.1 ≠ (TJxb160c b).2.1 := by decide +kernel
theorem tyJxb160c_ok : ∀ k, k < 0 → parseFieldDescriptor (TJxb160c k).2.2.1 = some (tyJxb160c k) := by decide +kernel
def RJx29ce0 : String := "java/lang/Enum"
def TJx29ce0 : u_T := fun k => match k with
  | _ => ("", "", "", false)
def tyJx29ce0 : Nat → FieldType := fun k => match k with
  | _ => .int
abbrev wsJx29ce00 : List Cond := u_ws RJx29ce0 TJx29ce0 0
theorem nmJx29ce0 : ∀ a, a < 0 → ∀ b, b < 0 → a ≠ b → (TJx29ce0 a).2.1 ≠ (TJx29ce0 b).2.1 := by decide +kernel
theorem tyJx29ce0_ok : ∀ k, k < 0 → parseFieldDescriptor (TJx29ce0 k).2.2.1 = some (tyJx29ce0 k) := by decide +kernel
abbrev cJx29ce0_ordinal_8abf5 : ByteArray := prog_23_method_2_code
def yJx29ce0_ordinal_8abf5 : MethodName := ⟨RJx29ce0, "ordinal", "()I"⟩
def RJxf58ca : String := "java/lang/Float"
def TJxf58ca : u_T := fun k => match k with
  | _ => ("", "", "", false)
def tyJxf58ca : Nat → FieldType := fun k => match k with
  | _ => .int
abbrev wsJxf58ca0 : List Cond := u_ws RJxf58ca TJxf58ca 0
theorem nmJxf58ca : ∀ a, a < 0 → ∀ b, b < 0 → a ≠ b → (TJxf58ca a).2.1 ≠ (TJxf58ca b).2.1 := by decide +kernel
theorem tyJxf58ca_ok : ∀ k, k < 0 → parseFieldDescriptor (TJxf58ca k).2.2.1 = some (tyJxf58ca k) := by decide +kernel
abbrev cJxf58ca_isNaN_12338 : ByteArray := prog_25_method_6_code
def yJxf58ca_isNaN_12338 : MethodName := ⟨RJxf58ca, "isNaN", "(F)Z"⟩
abbrev cJxf58ca_floatToIntBits_5c35a : ByteArray := prog_25_method_24_code
def yJxf58ca_floatToIntBits_5c35a : MethodName := ⟨RJxf58ca, "floatToIntBits", "(F)I"⟩
def RJ6 : String := "java/lang/Integer"
def TJ6 : u_T := fun k => match k with
  | _ => ("", "", "", false)
def tyJ6 : Nat → FieldType := fun k => match k with
  | _ => .int
abbrev wsJ60 : List Cond := u_ws RJ6 TJ6 0
theorem nmJ6 : ∀ a, a < 0 → ∀ b, b < 0 → a ≠ b → (TJ6 a).2.1 ≠ (TJ6 b).2.1 := by decide +kernel
theorem tyJ6_ok : ∀ k, k < 0 → parseFieldDescriptor (TJ6 k).2.2.1 = some (tyJ6 k) := by decide +kernel
abbrev cJ6_getChars_ba4f3 : ByteArray := prog_29_method_12_code
def yJ6_getChars_ba4f3 : MethodName := ⟨RJ6, "getChars", "(II[B)I"⟩
abbrev cJ6_stringSize_0f7a4 : ByteArray := prog_29_method_13_code
def yJ6_stringSize_0f7a4 : MethodName := ⟨RJ6, "stringSize", "(I)I"⟩
abbrev cJ6_bitCount_0f7a4 : ByteArray := prog_29_method_49_code
def yJ6_bitCount_0f7a4 : MethodName := ⟨RJ6, "bitCount", "(I)I"⟩
def RJ9 : String := "java/lang/Math"
def TJ9 : u_T := fun k => match k with
  | _ => ("", "", "", false)
def tyJ9 : Nat → FieldType := fun k => match k with
  | _ => .int
abbrev wsJ90 : List Cond := u_ws RJ9 TJ9 0
theorem nmJ9 : ∀ a, a < 0 → ∀ b, b < 0 → a ≠ b → (TJ9 a).2.1 ≠ (TJ9 b).2.1 := by decide +kernel
theorem tyJ9_ok : ∀ k, k < 0 → parseFieldDescriptor (TJ9 k).2.2.1 = some (tyJ9 k) := by decide +kernel
abbrev cJ9_max_7cf53 : ByteArray := prog_30_method_65_code
def yJ9_max_7cf53 : MethodName := ⟨RJ9, "max", "(II)I"⟩
abbrev cJ9_min_7cf53 : ByteArray := prog_30_method_69_code
def yJ9_min_7cf53 : MethodName := ⟨RJ9, "min", "(II)I"⟩
def RJxd2413 : String := "java/lang/Number"
def TJxd2413 : u_T := fun k => match k with
  | _ => ("", "", "", false)
def tyJxd2413 : Nat → FieldType := fun k => match k with
  | _ => .int
abbrev wsJxd24130 : List Cond := u_ws RJxd2413 TJxd2413 0
theorem nmJxd2413 : ∀ a, a < 0 → ∀ b, b < 0 → a ≠ b → (TJxd2413 a).2.1 ≠ (TJxd2413 b).2.1 := by decide +kernel
theorem tyJxd2413_ok : ∀ k, k < 0 → parseFieldDescriptor (TJxd2413 k).2.2.1 = some (tyJxd2413 k) := by decide +kernel
def RJ0 : String := "java/lang/String"
def TJ0 : u_T := fun k => match k with
  | 0 => ("java/lang/String", "value", "[B", true)
  | 1 => ("java/lang/String", "coder", "B", true)
  | 2 => ("java/lang/String", "hash", "I", false)
  | _ => ("java/lang/String", "hashIsZero", "Z", false)
def tyJ0 : Nat → FieldType := fun k => match k with
  | 0 => .array .byte
  | 1 => .byte
  | 2 => .int
  | _ => .boolean
abbrev wsJ00 : List Cond := u_ws RJ0 TJ0 4
theorem nmJ0 : ∀ a, a < 4 → ∀ b, b < 4 → a ≠ b → (TJ0 a).2.1 ≠ (TJ0 b).2.1 := by decide +kernel
theorem tyJ0_ok : ∀ k, k < 4 → parseFieldDescriptor (TJ0 k).2.2.1 = some (tyJ0 k) := by decide +kernel
abbrev cJ0_init_81219 : ByteArray := prog_33_method_53_code
def yJ0_init_81219 : MethodName := ⟨RJ0, "<init>", "(Ljava/lang/StringBuilder;)V"⟩
abbrev cJ0_length_8abf5 : ByteArray := prog_33_method_54_code
def yJ0_length_8abf5 : MethodName := ⟨RJ0, "length", "()I"⟩
abbrev cJ0_charAt_5068e : ByteArray := prog_33_method_56_code
def yJ0_charAt_5068e : MethodName := ⟨RJ0, "charAt", "(I)C"⟩
abbrev cJ0_equals_9ea2d : ByteArray := prog_33_method_66_code
def yJ0_equals_9ea2d : MethodName := ⟨RJ0, "equals", "(Ljava/lang/Object;)Z"⟩
abbrev cJ0_hashCode_8abf5 : ByteArray := prog_33_method_78_code
def yJ0_hashCode_8abf5 : MethodName := ⟨RJ0, "hashCode", "()I"⟩
abbrev cJ0_getBytes_840e7 : ByteArray := prog_33_method_147_code
def yJ0_getBytes_840e7 : MethodName := ⟨RJ0, "getBytes", "([BIB)V"⟩
abbrev cJ0_init_db425 : ByteArray := prog_33_method_150_code
def yJ0_init_db425 : MethodName := ⟨RJ0, "<init>", "(Ljava/lang/AbstractStringBuilder;Ljava/lang/Void;)V"⟩
abbrev cJ0_coder_7d493 : ByteArray := prog_33_method_152_code
def yJ0_coder_7d493 : MethodName := ⟨RJ0, "coder", "()B"⟩
abbrev cJ0_isLatin1_aae02 : ByteArray := prog_33_method_154_code
def yJ0_isLatin1_aae02 : MethodName := ⟨RJ0, "isLatin1", "()Z"⟩
abbrev cJ0_checkIndex_df160 : ByteArray := prog_33_method_155_code
def yJ0_checkIndex_df160 : MethodName := ⟨RJ0, "checkIndex", "(II)V"⟩
abbrev cJ0_checkBoundsOffCount_cabcc : ByteArray := prog_33_method_157_code
def yJ0_checkBoundsOffCount_cabcc : MethodName := ⟨RJ0, "checkBoundsOffCount", "(III)I"⟩
abbrev cJ0_checkBoundsBeginEnd_23922 : ByteArray := prog_33_method_158_code
def yJ0_checkBoundsBeginEnd_23922 : MethodName := ⟨RJ0, "checkBoundsBeginEnd", "(III)V"⟩
def RJ4 : String := "java/lang/StringBuilder"
def TJ4 : u_T := fun k => match k with
  | 0 => ("java/lang/AbstractStringBuilder", "value", "[B", false)
  | 1 => ("java/lang/AbstractStringBuilder", "coder", "B", false)
  | 2 => ("java/lang/AbstractStringBuilder", "maybeLatin1", "Z", false)
  | _ => ("java/lang/AbstractStringBuilder", "count", "I", false)
def tyJ4 : Nat → FieldType := fun k => match k with
  | 0 => .array .byte
  | 1 => .byte
  | 2 => .boolean
  | _ => .int
abbrev wsJ40 : List Cond := u_ws RJ4 TJ4 4
theorem nmJ4 : ∀ a, a < 4 → ∀ b, b < 4 → a ≠ b → (TJ4 a).2.1 ≠ (TJ4 b).2.1 := by decide +kernel
theorem tyJ4_ok : ∀ k, k < 4 → parseFieldDescriptor (TJ4 k).2.2.1 = some (tyJ4 k) := by decide +kernel
abbrev cJ4_init_da8c8 : ByteArray := prog_34_method_1_code
def yJ4_init_da8c8 : MethodName := ⟨RJ4, "<init>", "()V"⟩
abbrev cJ4_append_15ec4 : ByteArray := prog_34_method_7_code
def yJ4_append_15ec4 : MethodName := ⟨RJ4, "append", "(Ljava/lang/String;)Ljava/lang/StringBuilder;"⟩
abbrev cJ4_append_bf812 : ByteArray := prog_34_method_15_code
def yJ4_append_bf812 : MethodName := ⟨RJ4, "append", "(I)Ljava/lang/StringBuilder;"⟩
abbrev cJ4_toString_0e30d : ByteArray := prog_34_method_42_code
def yJ4_toString_0e30d : MethodName := ⟨RJ4, "toString", "()Ljava/lang/String;"⟩
abbrev cJ4_length_8abf5 : ByteArray := prog_34_method_93_code
def yJ4_length_8abf5 : MethodName := ⟨RJ4, "length", "()I"⟩
def RJ1 : String := "java/lang/StringLatin1"
def TJ1 : u_T := fun k => match k with
  | _ => ("", "", "", false)
def tyJ1 : Nat → FieldType := fun k => match k with
  | _ => .int
abbrev wsJ10 : List Cond := u_ws RJ1 TJ1 0
theorem nmJ1 : ∀ a, a < 0 → ∀ b, b < 0 → a ≠ b → (TJ1 a).2.1 ≠ (TJ1 b).2.1 := by decide +kernel
theorem tyJ1_ok : ∀ k, k < 0 → parseFieldDescriptor (TJ1 k).2.2.1 = some (tyJ1 k) := by decide +kernel
abbrev cJ1_charAt_3b067 : ByteArray := prog_35_method_2_code
def yJ1_charAt_3b067 : MethodName := ⟨RJ1, "charAt", "([BI)C"⟩
abbrev cJ1_equals_b5fdf : ByteArray := prog_35_method_13_code
def yJ1_equals_b5fdf : MethodName := ⟨RJ1, "equals", "([B[B)Z"⟩
abbrev cJ1_hashCode_9d52b : ByteArray := prog_35_method_21_code
def yJ1_hashCode_9d52b : MethodName := ⟨RJ1, "hashCode", "([B)I"⟩
abbrev cJ1_inflate_0e8fd : ByteArray := prog_35_method_50_code
def yJ1_inflate_0e8fd : MethodName := ⟨RJ1, "inflate", "([BI[BII)V"⟩
def RJ2 : String := "java/lang/StringUTF16"
def TJ2 : u_T := fun k => match k with
  | _ => ("", "", "", false)
def tyJ2 : Nat → FieldType := fun k => match k with
  | _ => .int
abbrev wsJ20 : List Cond := u_ws RJ2 TJ2 0
theorem nmJ2 : ∀ a, a < 0 → ∀ b, b < 0 → a ≠ b → (TJ2 a).2.1 ≠ (TJ2 b).2.1 := by decide +kernel
theorem tyJ2_ok : ∀ k, k < 0 → parseFieldDescriptor (TJ2 k).2.2.1 = some (tyJ2 k) := by decide +kernel
abbrev cJ2_newBytesFor_77867 : ByteArray := prog_36_method_2_code
def yJ2_newBytesFor_77867 : MethodName := ⟨RJ2, "newBytesFor", "(I)[B"⟩
abbrev cJ2_newBytesLength_0f7a4 : ByteArray := prog_36_method_3_code
def yJ2_newBytesLength_0f7a4 : MethodName := ⟨RJ2, "newBytesLength", "(I)I"⟩
abbrev cJ2_putChar_b72d1 : ByteArray := prog_36_method_4_code
def yJ2_putChar_b72d1 : MethodName := ⟨RJ2, "putChar", "([BII)V"⟩
abbrev cJ2_getChar_3b067 : ByteArray := prog_36_method_5_code
def yJ2_getChar_3b067 : MethodName := ⟨RJ2, "getChar", "([BI)C"⟩
abbrev cJ2_length_9d52b : ByteArray := prog_36_method_6_code
def yJ2_length_9d52b : MethodName := ⟨RJ2, "length", "([B)I"⟩
abbrev cJ2_coderFromArrayLen_85cad : ByteArray := prog_36_method_15_code
def yJ2_coderFromArrayLen_85cad : MethodName := ⟨RJ2, "coderFromArrayLen", "([BI)B"⟩
abbrev cJ2_compress_39247 : ByteArray := prog_36_method_17_code
def yJ2_compress_39247 : MethodName := ⟨RJ2, "compress", "([BII)[B"⟩
abbrev cJ2_compress_5af95 : ByteArray := prog_36_method_22_code
def yJ2_compress_5af95 : MethodName := ⟨RJ2, "compress", "([BI[BII)I"⟩
abbrev cJ2_hashCode_9d52b : ByteArray := prog_36_method_39_code
def yJ2_hashCode_9d52b : MethodName := ⟨RJ2, "hashCode", "([B)I"⟩
abbrev cJ2_getChars_46870 : ByteArray := prog_36_method_77_code
def yJ2_getChars_46870 : MethodName := ⟨RJ2, "getChars", "(III[B)I"⟩
abbrev cJ2_putCharsAt_cd4e5 : ByteArray := prog_36_method_81_code
def yJ2_putCharsAt_cd4e5 : MethodName := ⟨RJ2, "putCharsAt", "([BICCCC)I"⟩
abbrev cJ2_charAt_3b067 : ByteArray := prog_36_method_83_code
def yJ2_charAt_3b067 : MethodName := ⟨RJ2, "charAt", "([BI)C"⟩
abbrev cJ2_inflate_0e8fd : ByteArray := prog_36_method_86_code
def yJ2_inflate_0e8fd : MethodName := ⟨RJ2, "inflate", "([BI[BII)V"⟩
abbrev cJ2_getChars_ba4f3 : ByteArray := prog_36_method_89_code
def yJ2_getChars_ba4f3 : MethodName := ⟨RJ2, "getChars", "(II[B)I"⟩
abbrev cJ2_checkIndex_2214a : ByteArray := prog_36_method_91_code
def yJ2_checkIndex_2214a : MethodName := ⟨RJ2, "checkIndex", "(I[B)V"⟩
abbrev cJ2_checkBoundsBeginEnd_d044e : ByteArray := prog_36_method_93_code
def yJ2_checkBoundsBeginEnd_d044e : MethodName := ⟨RJ2, "checkBoundsBeginEnd", "(II[B)V"⟩
abbrev cJ2_checkBoundsOffCount_d044e : ByteArray := prog_36_method_94_code
def yJ2_checkBoundsOffCount_d044e : MethodName := ⟨RJ2, "checkBoundsOffCount", "(II[B)V"⟩
def RJx0b718 : String := "java/lang/System$2"
def TJx0b718 : u_T := fun k => match k with
  | _ => ("", "", "", false)
def tyJx0b718 : Nat → FieldType := fun k => match k with
  | _ => .int
abbrev wsJx0b7180 : List Cond := u_ws RJx0b718 TJx0b718 0
theorem nmJx0b718 : ∀ a, a < 0 → ∀ b, b < 0 → a ≠ b → (TJx0b718 a).2.1 ≠ (TJx0b718 b).2.1 := by decide +kernel
theorem tyJx0b718_ok : ∀ k, k < 0 → parseFieldDescriptor (TJx0b718 k).2.2.1 = some (tyJx0b718 k) := by decide +kernel
abbrev cJx0b718_getUTF16Char_3b067 : ByteArray := prog_38_method_45_code
def yJx0b718_getUTF16Char_3b067 : MethodName := ⟨RJx0b718, "getUTF16Char", "([BI)C"⟩
def RJ10 : String := "java/lang/System"
def TJ10 : u_T := fun k => match k with
  | _ => ("", "", "", false)
def tyJ10 : Nat → FieldType := fun k => match k with
  | _ => .int
abbrev wsJ100 : List Cond := u_ws RJ10 TJ10 0
theorem nmJ10 : ∀ a, a < 0 → ∀ b, b < 0 → a ≠ b → (TJ10 a).2.1 ≠ (TJ10 b).2.1 := by decide +kernel
theorem tyJ10_ok : ∀ k, k < 0 → parseFieldDescriptor (TJ10 k).2.2.1 = some (tyJ10 k) := by decide +kernel
def RJxfd54e : String := "java/lang/constant/Constable"
def TJxfd54e : u_T := fun k => match k with
  | _ => ("", "", "", false)
def tyJxfd54e : Nat → FieldType := fun k => match k with
  | _ => .int
abbrev wsJxfd54e0 : List Cond := u_ws RJxfd54e TJxfd54e 0
theorem nmJxfd54e : ∀ a, a < 0 → ∀ b, b < 0 → a ≠ b → (TJxfd54e a).2.1 ≠ (TJxfd54e b).2.1 := by decide +kernel
theorem tyJxfd54e_ok : ∀ k, k < 0 → parseFieldDescriptor (TJxfd54e k).2.2.1 = some (tyJxfd54e k) := by decide +kernel
def RJx3cf43 : String := "java/lang/constant/ConstantDesc"
def TJx3cf43 : u_T := fun k => match k with
  | _ => ("", "", "", false)
def tyJx3cf43 : Nat → FieldType := fun k => match k with
  | _ => .int
abbrev wsJx3cf430 : List Cond := u_ws RJx3cf43 TJx3cf43 0
theorem nmJx3cf43 : ∀ a, a < 0 → ∀ b, b < 0 → a ≠ b → (TJx3cf43 a).2.1 ≠ (TJx3cf43 b).2.1 := by decide +kernel
theorem tyJx3cf43_ok : ∀ k, k < 0 → parseFieldDescriptor (TJx3cf43 k).2.2.1 = some (tyJx3cf43 k) := by decide +kernel
def RJ7 : String := "java/util/Arrays"
def TJ7 : u_T := fun k => match k with
  | _ => ("", "", "", false)
def tyJ7 : Nat → FieldType := fun k => match k with
  | _ => .int
abbrev wsJ70 : List Cond := u_ws RJ7 TJ7 0
theorem nmJ7 : ∀ a, a < 0 → ∀ b, b < 0 → a ≠ b → (TJ7 a).2.1 ≠ (TJ7 b).2.1 := by decide +kernel
theorem tyJ7_ok : ∀ k, k < 0 → parseFieldDescriptor (TJ7 k).2.2.1 = some (tyJ7 k) := by decide +kernel
abbrev cJ7_copyOf_9075b : ByteArray := prog_43_method_121_code
def yJ7_copyOf_9075b : MethodName := ⟨RJ7, "copyOf", "([BI)[B"⟩
abbrev cJ7_checkLength_df160 : ByteArray := prog_43_method_131_code
def yJ7_checkLength_df160 : MethodName := ⟨RJ7, "checkLength", "(II)V"⟩
abbrev cJ7_copyOfRange_39247 : ByteArray := prog_43_method_132_code
def yJ7_copyOfRange_39247 : MethodName := ⟨RJ7, "copyOfRange", "([BII)[B"⟩
abbrev cJ7_copyOfRangeByte_39247 : ByteArray := prog_43_method_133_code
def yJ7_copyOfRangeByte_39247 : MethodName := ⟨RJ7, "copyOfRangeByte", "([BII)[B"⟩
def RJxbb4bb : String := "jdk/internal/access/JavaLangAccess"
def TJxbb4bb : u_T := fun k => match k with
  | _ => ("", "", "", false)
def tyJxbb4bb : Nat → FieldType := fun k => match k with
  | _ => .int
abbrev wsJxbb4bb0 : List Cond := u_ws RJxbb4bb TJxbb4bb 0
theorem nmJxbb4bb : ∀ a, a < 0 → ∀ b, b < 0 → a ≠ b → (TJxbb4bb a).2.1 ≠ (TJxbb4bb b).2.1 := by decide +kernel
theorem tyJxbb4bb_ok : ∀ k, k < 0 → parseFieldDescriptor (TJxbb4bb k).2.2.1 = some (tyJxbb4bb k) := by decide +kernel
def RJ8 : String := "jdk/internal/util/ArraysSupport"
def TJ8 : u_T := fun k => match k with
  | _ => ("", "", "", false)
def tyJ8 : Nat → FieldType := fun k => match k with
  | _ => .int
abbrev wsJ80 : List Cond := u_ws RJ8 TJ8 0
theorem nmJ8 : ∀ a, a < 0 → ∀ b, b < 0 → a ≠ b → (TJ8 a).2.1 ≠ (TJ8 b).2.1 := by decide +kernel
theorem tyJ8_ok : ∀ k, k < 0 → parseFieldDescriptor (TJ8 k).2.2.1 = some (tyJ8 k) := by decide +kernel
abbrev cJ8_vectorizedHashCode_7ce64 : ByteArray := prog_46_method_4_code
def yJ8_vectorizedHashCode_7ce64 : MethodName := ⟨RJ8, "vectorizedHashCode", "(Ljava/lang/Object;IIII)I"⟩
abbrev cJ8_signedHashCode_aed26 : ByteArray := prog_46_method_5_code
def yJ8_signedHashCode_aed26 : MethodName := ⟨RJ8, "signedHashCode", "(I[BII)I"⟩
abbrev cJ8_hashCode_aed26 : ByteArray := prog_46_method_6_code
def yJ8_hashCode_aed26 : MethodName := ⟨RJ8, "hashCode", "(I[BII)I"⟩
abbrev cJ8_hashCode_c0dc3 : ByteArray := prog_46_method_7_code
def yJ8_hashCode_c0dc3 : MethodName := ⟨RJ8, "hashCode", "(I[CII)I"⟩
abbrev cJ8_hashCode_c23d2 : ByteArray := prog_46_method_8_code
def yJ8_hashCode_c23d2 : MethodName := ⟨RJ8, "hashCode", "(I[SII)I"⟩
abbrev cJ8_hashCode_e4c2a : ByteArray := prog_46_method_9_code
def yJ8_hashCode_e4c2a : MethodName := ⟨RJ8, "hashCode", "(I[III)I"⟩
abbrev cJ8_utf16hashCode_aed26 : ByteArray := prog_46_method_10_code
def yJ8_utf16hashCode_aed26 : MethodName := ⟨RJ8, "utf16hashCode", "(I[BII)I"⟩
abbrev cJ8_newLength_cabcc : ByteArray := prog_46_method_27_code
def yJ8_newLength_cabcc : MethodName := ⟨RJ8, "newLength", "(III)I"⟩
abbrev cJ8_hugeLength_7cf53 : ByteArray := prog_46_method_28_code
def yJ8_hugeLength_7cf53 : MethodName := ⟨RJ8, "hugeLength", "(II)I"⟩
def RJ3 : String := "jdk/internal/util/Preconditions"
def TJ3 : u_T := fun k => match k with
  | _ => ("", "", "", false)
def tyJ3 : Nat → FieldType := fun k => match k with
  | _ => .int
abbrev wsJ30 : List Cond := u_ws RJ3 TJ3 0
theorem nmJ3 : ∀ a, a < 0 → ∀ b, b < 0 → a ≠ b → (TJ3 a).2.1 ≠ (TJ3 b).2.1 := by decide +kernel
theorem tyJ3_ok : ∀ k, k < 0 → parseFieldDescriptor (TJ3 k).2.2.1 = some (tyJ3 k) := by decide +kernel
abbrev cJ3_checkIndex_8e157 : ByteArray := prog_47_method_11_code
def yJ3_checkIndex_8e157 : MethodName := ⟨RJ3, "checkIndex", "(IILjava/util/function/BiFunction;)I"⟩
abbrev cJ3_checkFromToIndex_8c36e : ByteArray := prog_47_method_12_code
def yJ3_checkFromToIndex_8c36e : MethodName := ⟨RJ3, "checkFromToIndex", "(IIILjava/util/function/BiFunction;)I"⟩
abbrev cJ3_checkFromIndexSize_8c36e : ByteArray := prog_47_method_13_code
def yJ3_checkFromIndexSize_8c36e : MethodName := ⟨RJ3, "checkFromIndexSize", "(IIILjava/util/function/BiFunction;)I"⟩
def RL : String := "DandelionBroadcastLaw"
abbrev cL_addField : ByteArray := method_3_code
def yL_addField : MethodName := ⟨RL, "addField", "(LDandelionBroadcast;I[J)I"⟩
abbrev cL_setShield : ByteArray := method_4_code
def yL_setShield : MethodName := ⟨RL, "setShield", "(LDandelionBroadcast;II[J)I"⟩
abbrev cL_addPath : ByteArray := method_5_code
def yL_addPath : MethodName := ⟨RL, "addPath", "(LDandelionBroadcast;IIII[J)I"⟩
abbrev cL_setGust : ByteArray := method_6_code
def yL_setGust : MethodName := ⟨RL, "setGust", "(LDandelionBroadcast;II[J)I"⟩
abbrev cL_setBlocked : ByteArray := method_7_code
def yL_setBlocked : MethodName := ⟨RL, "setBlocked", "(LDandelionBroadcast;IZ[J)I"⟩
abbrev cL_shieldOf : ByteArray := method_8_code
def yL_shieldOf : MethodName := ⟨RL, "shieldOf", "(LDandelionBroadcast;I[J)I"⟩
abbrev cL_firstOf : ByteArray := method_9_code
def yL_firstOf : MethodName := ⟨RL, "firstOf", "(LDandelionBroadcast;I[J)I"⟩
abbrev cL_secondOf : ByteArray := method_10_code
def yL_secondOf : MethodName := ⟨RL, "secondOf", "(LDandelionBroadcast;I[J)I"⟩
abbrev cL_costOf : ByteArray := method_11_code
def yL_costOf : MethodName := ⟨RL, "costOf", "(LDandelionBroadcast;I[J)I"⟩
abbrev cL_gustOf : ByteArray := method_12_code
def yL_gustOf : MethodName := ⟨RL, "gustOf", "(LDandelionBroadcast;I[J)I"⟩
abbrev cL_isBlocked : ByteArray := method_13_code
def yL_isBlocked : MethodName := ⟨RL, "isBlocked", "(LDandelionBroadcast;I[J)I"⟩
abbrev cL_isConnected : ByteArray := method_14_code
def yL_isConnected : MethodName := ⟨RL, "isConnected", "(LDandelionBroadcast;II[J)I"⟩
abbrev cL_wayCost : ByteArray := method_15_code
def yL_wayCost : MethodName := ⟨RL, "wayCost", "(LDandelionBroadcast;II[J)I"⟩
abbrev cL_wayCostByRounds : ByteArray := method_16_code
def yL_wayCostByRounds : MethodName := ⟨RL, "wayCostByRounds", "(LDandelionBroadcast;II[J)I"⟩
abbrev cL_disjointWays : ByteArray := method_17_code
def yL_disjointWays : MethodName := ⟨RL, "disjointWays", "(LDandelionBroadcast;II[J)I"⟩
abbrev cL_smallestCut : ByteArray := method_18_code
def yL_smallestCut : MethodName := ⟨RL, "smallestCut", "(LDandelionBroadcast;II[J)I"⟩
abbrev cL_isBridge : ByteArray := method_19_code
def yL_isBridge : MethodName := ⟨RL, "isBridge", "(LDandelionBroadcast;I[J)I"⟩
abbrev cL_treeCost : ByteArray := method_20_code
def yL_treeCost : MethodName := ⟨RL, "treeCost", "(LDandelionBroadcast;I[J)I"⟩
abbrev cL_treeCostByGrowing : ByteArray := method_21_code
def yL_treeCostByGrowing : MethodName := ⟨RL, "treeCostByGrowing", "(LDandelionBroadcast;I[J)I"⟩
abbrev cL_isInTree : ByteArray := method_22_code
def yL_isInTree : MethodName := ⟨RL, "isInTree", "(LDandelionBroadcast;II[J)I"⟩
abbrev cL_parentIn : ByteArray := method_23_code
def yL_parentIn : MethodName := ⟨RL, "parentIn", "(LDandelionBroadcast;II[J)I"⟩
abbrev cL_reachChance : ByteArray := method_24_code
def yL_reachChance : MethodName := ⟨RL, "reachChance", "(LDandelionBroadcast;II[D)I"⟩
abbrev cL_setSeed : ByteArray := method_25_code
def yL_setSeed : MethodName := ⟨RL, "setSeed", "(LDandelionBroadcast;I[J)I"⟩
abbrev cL_startBroadcast : ByteArray := method_26_code
def yL_startBroadcast : MethodName := ⟨RL, "startBroadcast", "(LDandelionBroadcast;IIZ[J)I"⟩
abbrev cL_wind : ByteArray := method_27_code
def yL_wind : MethodName := ⟨RL, "wind", "(LDandelionBroadcast;[J)I"⟩
abbrev cL_windUntilEnd : ByteArray := method_28_code
def yL_windUntilEnd : MethodName := ⟨RL, "windUntilEnd", "(LDandelionBroadcast;[J)I"⟩
abbrev cL_abort : ByteArray := method_29_code
def yL_abort : MethodName := ⟨RL, "abort", "(LDandelionBroadcast;[J)I"⟩
abbrev cL_source : ByteArray := method_30_code
def yL_source : MethodName := ⟨RL, "source", "(LDandelionBroadcast;[J)I"⟩
abbrev cL_hasPacket : ByteArray := method_31_code
def yL_hasPacket : MethodName := ⟨RL, "hasPacket", "(LDandelionBroadcast;II[J)I"⟩
abbrev cL_packetsOf : ByteArray := method_32_code
def yL_packetsOf : MethodName := ⟨RL, "packetsOf", "(LDandelionBroadcast;I[J)I"⟩
abbrev cL_isCovered : ByteArray := method_33_code
def yL_isCovered : MethodName := ⟨RL, "isCovered", "(LDandelionBroadcast;I[J)I"⟩
abbrev cL_windsLeft : ByteArray := method_34_code
def yL_windsLeft : MethodName := ⟨RL, "windsLeft", "(LDandelionBroadcast;[J)I"⟩
abbrev cL_energyLeft : ByteArray := method_35_code
def yL_energyLeft : MethodName := ⟨RL, "energyLeft", "(LDandelionBroadcast;[J)I"⟩
abbrev cL_useOf : ByteArray := method_36_code
def yL_useOf : MethodName := ⟨RL, "useOf", "(LDandelionBroadcast;I[J)I"⟩
abbrev cL_fieldByPackets : ByteArray := method_37_code
def yL_fieldByPackets : MethodName := ⟨RL, "fieldByPackets", "(LDandelionBroadcast;I[J)I"⟩
abbrev cL_pathByUse : ByteArray := method_38_code
def yL_pathByUse : MethodName := ⟨RL, "pathByUse", "(LDandelionBroadcast;I[J)I"⟩
abbrev cL_meanEnergy : ByteArray := method_39_code
def yL_meanEnergy : MethodName := ⟨RL, "meanEnergy", "(LDandelionBroadcast;[D)I"⟩
abbrev cL_lossShare : ByteArray := method_40_code
def yL_lossShare : MethodName := ⟨RL, "lossShare", "(LDandelionBroadcast;[D)I"⟩
abbrev cL_lossBits : ByteArray := method_41_code
def yL_lossBits : MethodName := ⟨RL, "lossBits", "(LDandelionBroadcast;[J)I"⟩
abbrev cL_writeField : ByteArray := method_42_code
def yL_writeField : MethodName := ⟨RL, "writeField", "(LDandelionBroadcast;I[J)I"⟩
abbrev cL_outputAt : ByteArray := method_43_code
def yL_outputAt : MethodName := ⟨RL, "outputAt", "(LDandelionBroadcast;I[J)I"⟩
abbrev cL_appendInput : ByteArray := method_44_code
def yL_appendInput : MethodName := ⟨RL, "appendInput", "(LDandelionBroadcast;C[J)I"⟩
abbrev cL_execute : ByteArray := method_45_code
def yL_execute : MethodName := ⟨RL, "execute", "(LDandelionBroadcast;[J)I"⟩
abbrev cL_syntaxErrorOffset : ByteArray := method_46_code
def yL_syntaxErrorOffset : MethodName := ⟨RL, "syntaxErrorOffset", "(LDandelionBroadcast;[J)I"⟩
abbrev cL_rejectionReason : ByteArray := method_47_code
def yL_rejectionReason : MethodName := ⟨RL, "rejectionReason", "(LDandelionBroadcast;[J)I"⟩
abbrev cL_rejectionDetail : ByteArray := method_48_code
def yL_rejectionDetail : MethodName := ⟨RL, "rejectionDetail", "(LDandelionBroadcast;[J)I"⟩
abbrev cL_causeReason : ByteArray := method_49_code
def yL_causeReason : MethodName := ⟨RL, "causeReason", "(LDandelionBroadcast;[J)I"⟩
abbrev cL_undo : ByteArray := method_50_code
def yL_undo : MethodName := ⟨RL, "undo", "(LDandelionBroadcast;[J)I"⟩
abbrev cL_restoreSnapshot : ByteArray := method_51_code
def yL_restoreSnapshot : MethodName := ⟨RL, "restoreSnapshot", "(LDandelionBroadcast;[J)I"⟩
abbrev cL_law : ByteArray := code
def yL_law : MethodName := ⟨RL, "law", "([I)Z"⟩
abbrev vwCl : List vw_C := [(RJ0, TJ0, 4), (RJ4, TJ4, 4), (RJx00060, TJx00060, 6), (RX1, TX1, 8), (RX2, TX2, 2), (RX3, TX3, 6), (RX4, TX4, 3), (RX6, TX6, 8), (RX7, TX7, 5), (RX8, TX8, 9), (RX9, TX9, 7), (RX10, TX10, 1), (RX11, TX11, 16), (RX12, TX12, 28)]
end
section
theorem am_dec_of {cc : ByteArray} {t : List (Nat × Instr × Nat)} (h : (t.all fun x => decide (decode cc x.1 = .ok (x.2.1, x.2.2))) = true) : am_dec cc t := fun x hx => of_decide_eq_true (List.all_eq_true.mp h x hx)
def tX1_init : List (Nat × Instr × Nat) := [(0, .aload_n 0, 1), (1, .invokespecial 3, 3), (4, .aload_n 0, 1), (5, .bipush 9, 2), (7, .newarray .int, 2), (9, .putfield 9, 3), (12, .aload_n 0, 1), (13, .iconst 0, 1), (14, .putfield 15, 3), (17, .aload_n 0, 1), (18, .iconst 0, 1), (19, .putfield 19, 3), (22, .aload_n 0, 1), (23, .iconst (-1), 1), (24, .putfield 23, 3), (27, .aload_n 0, 1), (28, .iconst 0, 1), (29, .putfield 26, 3), (32, .aload_n 0, 1), (33, .iconst 0, 1), (34, .putfield 29, 3), (37, .aload_n 0, 1), (38, .iconst 0, 1), (39, .putfield 32, 3), (42, .aload_n 0, 1), (43, .iconst 0, 1), (44, .putfield 35, 3), (47, .return_, 1)]
set_option maxRecDepth 100000 in
theorem eX1_init : am_dec cX1_init tX1_init := am_dec_of (by decide +kernel)
def tX1_packetTotal : List (Nat × Instr × Nat) := [(0, .aload_n 0, 1), (1, .getfield 29, 3), (4, .ifCond .eq 12, 3), (7, .aload_n 0, 1), (8, .getfield 26, 3), (11, .iconst 1, 1), (12, .iadd, 1), (13, .goto 7, 3), (16, .aload_n 0, 1), (17, .getfield 26, 3), (20, .ireturn, 1)]
set_option maxRecDepth 100000 in
theorem eX1_packetTotal : am_dec cX1_packetTotal tX1_packetTotal := am_dec_of (by decide +kernel)
def tX1_allPackets : List (Nat × Instr × Nat) := [(0, .iconst 1, 1), (1, .aload_n 0, 1), (2, .invokevirtual 38, 3), (5, .ishl, 1), (6, .iconst 1, 1), (7, .isub, 1), (8, .ireturn, 1)]
set_option maxRecDepth 100000 in
theorem eX1_allPackets : am_dec cX1_allPackets tX1_allPackets := am_dec_of (by decide +kernel)
def tX1_covers : List (Nat × Instr × Nat) := [(0, .iconst 1, 1), (1, .aload_n 0, 1), (2, .getfield 26, 3), (5, .ishl, 1), (6, .iconst 1, 1), (7, .isub, 1), (8, .istore_n 2, 1), (9, .aload_n 0, 1), (10, .getfield 15, 3), (13, .ifCond .le 19, 3), (16, .aload_n 0, 1), (17, .getfield 9, 3), (20, .iload_n 1, 1), (21, .iaload, 1), (22, .iload_n 2, 1), (23, .iand, 1), (24, .iload_n 2, 1), (25, .if_icmp .ne 7, 3), (28, .iconst 1, 1), (29, .goto 4, 3), (32, .iconst 0, 1), (33, .ireturn, 1)]
set_option maxRecDepth 100000 in
theorem eX1_covers : am_dec cX1_covers tX1_covers := am_dec_of (by decide +kernel)
def tX1_copyFrom : List (Nat × Instr × Nat) := [(0, .aload_n 1, 1), (1, .getfield 9, 3), (4, .iconst 0, 1), (5, .aload_n 0, 1), (6, .getfield 9, 3), (9, .iconst 0, 1), (10, .bipush 9, 2), (12, .invokestatic 42, 3), (15, .aload_n 0, 1), (16, .aload_n 1, 1), (17, .getfield 15, 3), (20, .putfield 15, 3), (23, .aload_n 0, 1), (24, .aload_n 1, 1), (25, .getfield 19, 3), (28, .putfield 19, 3), (31, .aload_n 0, 1), (32, .aload_n 1, 1), (33, .getfield 23, 3), (36, .putfield 23, 3), (39, .aload_n 0, 1), (40, .aload_n 1, 1), (41, .getfield 26, 3), (44, .putfield 26, 3), (47, .aload_n 0, 1), (48, .aload_n 1, 1), (49, .getfield 29, 3), (52, .putfield 29, 3), (55, .aload_n 0, 1), (56, .aload_n 1, 1), (57, .getfield 32, 3), (60, .putfield 32, 3), (63, .aload_n 0, 1), (64, .aload_n 1, 1), (65, .getfield 35, 3), (68, .putfield 35, 3), (71, .return_, 1)]
set_option maxRecDepth 100000 in
theorem eX1_copyFrom : am_dec cX1_copyFrom tX1_copyFrom := am_dec_of (by decide +kernel)
def tX2_init : List (Nat × Instr × Nat) := [(0, .aload_n 0, 1), (1, .invokespecial 3, 3), (4, .aload_n 0, 1), (5, .iconst (-1), 1), (6, .putfield 9, 3), (9, .aload_n 0, 1), (10, .iconst 0, 1), (11, .putfield 15, 3), (14, .return_, 1)]
set_option maxRecDepth 100000 in
theorem eX2_init : am_dec cX2_init tX2_init := am_dec_of (by decide +kernel)
def tX2_reject : List (Nat × Instr × Nat) := [(0, .aload_n 0, 1), (1, .iload_n 1, 1), (2, .putfield 9, 3), (5, .aload_n 0, 1), (6, .iload_n 2, 1), (7, .putfield 15, 3), (10, .bipush (-3), 2), (12, .ireturn, 1)]
set_option maxRecDepth 100000 in
theorem eX2_reject : am_dec cX2_reject tX2_reject := am_dec_of (by decide +kernel)
def tX2_isDigit : List (Nat × Instr × Nat) := [(0, .iload_n 0, 1), (1, .ifCond .lt 13, 3), (4, .iload_n 0, 1), (5, .bipush 9, 2), (7, .if_icmp .gt 7, 3), (10, .iconst 1, 1), (11, .goto 4, 3), (14, .iconst 0, 1), (15, .ireturn, 1)]
set_option maxRecDepth 100000 in
theorem eX2_isDigit : am_dec cX2_isDigit tX2_isDigit := am_dec_of (by decide +kernel)
def tX2_appendField : List (Nat × Instr × Nat) := [(0, .aload_n 1, 1), (1, .getfield 18, 3), (4, .astore_n 3, 1), (5, .iload_n 2, 1), (6, .invokestatic 24, 3), (9, .ifCond .ne 6, 3), (12, .bipush (-2), 2), (14, .ireturn, 1), (15, .aload_n 3, 1), (16, .getfield 28, 3), (19, .bipush 9, 2), (21, .if_icmp .lt 11, 3), (24, .aload_n 0, 1), (25, .iconst 1, 1), (26, .bipush 9, 2), (28, .invokevirtual 33, 3), (31, .ireturn, 1), (32, .aload_n 3, 1), (33, .getfield 37, 3), (36, .aload_n 3, 1), (37, .getfield 28, 3), (40, .iload_n 2, 1), (41, .iastore, 1), (42, .aload_n 1, 1), (43, .getfield 41, 3), (46, .getfield 45, 3), (49, .aload_n 3, 1), (50, .getfield 28, 3), (53, .iconst 0, 1), (54, .iastore, 1), (55, .aload_n 3, 1), (56, .dup, 1), (57, .getfield 28, 3), (60, .iconst 1, 1), (61, .iadd, 1), (62, .putfield 28, 3), (65, .aload_n 3, 1), (66, .getfield 28, 3), (69, .iconst 1, 1), (70, .isub, 1), (71, .ireturn, 1)]
set_option maxRecDepth 100000 in
theorem eX2_appendField : am_dec cX2_appendField tX2_appendField := am_dec_of (by decide +kernel)
def tX2_replaceShield : List (Nat × Instr × Nat) := [(0, .aload_n 1, 1), (1, .getfield 18, 3), (4, .iload_n 2, 1), (5, .invokevirtual 50, 3), (8, .ifCond .ne 5, 3), (11, .iconst (-1), 1), (12, .ireturn, 1), (13, .iload_n 3, 1), (14, .invokestatic 24, 3), (17, .ifCond .ne 6, 3), (20, .bipush (-2), 2), (22, .ireturn, 1), (23, .aload_n 1, 1), (24, .getfield 18, 3), (27, .getfield 37, 3), (30, .iload_n 2, 1), (31, .iaload, 1), (32, .istore 4, 2), (34, .aload_n 1, 1), (35, .getfield 18, 3), (38, .getfield 37, 3), (41, .iload_n 2, 1), (42, .iload_n 3, 1), (43, .iastore, 1), (44, .iload 4, 2), (46, .ireturn, 1)]
set_option maxRecDepth 100000 in
theorem eX2_replaceShield : am_dec cX2_replaceShield tX2_replaceShield := am_dec_of (by decide +kernel)
def tX2_appendPath : List (Nat × Instr × Nat) := [(0, .aload_n 1, 1), (1, .getfield 18, 3), (4, .astore 6, 2), (6, .aload 6, 2), (8, .iload_n 2, 1), (9, .invokevirtual 50, 3), (12, .ifCond .eq 12, 3), (15, .aload 6, 2), (17, .iload_n 3, 1), (18, .invokevirtual 50, 3), (21, .ifCond .ne 5, 3), (24, .iconst (-1), 1), (25, .ireturn, 1), (26, .iload_n 2, 1), (27, .iload_n 3, 1), (28, .if_icmp .eq 24, 3), (31, .iload 4, 2), (33, .ifCond .eq 19, 3), (36, .iload 4, 2), (38, .invokestatic 24, 3), (41, .ifCond .eq 11, 3), (44, .iload 5, 2), (46, .invokestatic 24, 3), (49, .ifCond .ne 6, 3), (52, .bipush (-2), 2), (54, .ireturn, 1), (55, .aload 6, 2), (57, .getfield 53, 3), (60, .bipush 16, 2), (62, .if_icmp .lt 20, 3), (65, .aload_n 0, 1), (66, .iconst 2, 1), (67, .aload 6, 2), (69, .getfield 53, 3), (72, .aload 6, 2), (74, .invokevirtual 56, 3), (77, .isub, 1), (78, .invokevirtual 33, 3), (81, .ireturn, 1), (82, .aload 6, 2), (84, .iload_n 2, 1), (85, .iload_n 3, 1), (86, .invokevirtual 60, 3), (89, .istore 7, 2), (91, .iload 7, 2), (93, .iconst (-1), 1), (94, .if_icmp .eq 11, 3), (97, .aload_n 0, 1), (98, .iconst 3, 1), (99, .iload 7, 2), (101, .invokevirtual 33, 3), (104, .ireturn, 1), (105, .aload 6, 2), (107, .getfield 53, 3), (110, .istore 8, 2), (112, .aload 6, 2), (114, .getfield 63, 3), (117, .iload 8, 2), (119, .iload_n 2, 1), (120, .iastore, 1), (121, .aload 6, 2), (123, .getfield 66, 3), (126, .iload 8, 2), (128, .iload_n 3, 1), (129, .iastore, 1), (130, .aload 6, 2), (132, .getfield 69, 3), (135, .iload 8, 2), (137, .iload 4, 2), (139, .iastore, 1), (140, .aload 6, 2), (142, .getfield 72, 3), (145, .iload 8, 2), (147, .iload 5, 2), (149, .iastore, 1), (150, .aload 6, 2), (152, .dup, 1), (153, .getfield 75, 3), (156, .iconst 1, 1), (157, .iload 8, 2), (159, .ishl, 1), (160, .iconst (-1), 1), (161, .ixor, 1), (162, .iand, 1), (163, .putfield 75, 3), (166, .aload_n 1, 1), (167, .getfield 78, 3), (170, .iload 8, 2), (172, .iconst 0, 1), (173, .iastore, 1), (174, .aload 6, 2), (176, .dup, 1), (177, .getfield 53, 3), (180, .iconst 1, 1), (181, .iadd, 1), (182, .putfield 53, 3), (185, .iload 8, 2), (187, .ireturn, 1)]
set_option maxRecDepth 100000 in
theorem eX2_appendPath : am_dec cX2_appendPath tX2_appendPath := am_dec_of (by decide +kernel)
def tX2_replaceGust : List (Nat × Instr × Nat) := [(0, .aload_n 1, 1), (1, .getfield 18, 3), (4, .iload_n 2, 1), (5, .invokevirtual 81, 3), (8, .ifCond .ne 5, 3), (11, .iconst (-1), 1), (12, .ireturn, 1), (13, .iload_n 3, 1), (14, .invokestatic 24, 3), (17, .ifCond .ne 6, 3), (20, .bipush (-2), 2), (22, .ireturn, 1), (23, .aload_n 1, 1), (24, .getfield 18, 3), (27, .getfield 72, 3), (30, .iload_n 2, 1), (31, .iaload, 1), (32, .istore 4, 2), (34, .aload_n 1, 1), (35, .getfield 18, 3), (38, .getfield 72, 3), (41, .iload_n 2, 1), (42, .iload_n 3, 1), (43, .iastore, 1), (44, .iload 4, 2), (46, .ireturn, 1)]
set_option maxRecDepth 100000 in
theorem eX2_replaceGust : am_dec cX2_replaceGust tX2_replaceGust := am_dec_of (by decide +kernel)
def tX2_replaceBlocked : List (Nat × Instr × Nat) := [(0, .aload_n 1, 1), (1, .getfield 18, 3), (4, .astore 4, 2), (6, .aload 4, 2), (8, .iload_n 2, 1), (9, .invokevirtual 81, 3), (12, .ifCond .ne 5, 3), (15, .iconst (-1), 1), (16, .ireturn, 1), (17, .aload 4, 2), (19, .iload_n 2, 1), (20, .invokevirtual 84, 3), (23, .iload_n 3, 1), (24, .if_icmp .eq 14, 3), (27, .aload_n 0, 1), (28, .iconst 4, 1), (29, .aload 4, 2), (31, .invokevirtual 56, 3), (34, .invokevirtual 33, 3), (37, .ireturn, 1), (38, .aload 4, 2), (40, .dup, 1), (41, .getfield 75, 3), (44, .iconst 1, 1), (45, .iload_n 2, 1), (46, .ishl, 1), (47, .ixor, 1), (48, .putfield 75, 3), (51, .aload 4, 2), (53, .invokevirtual 56, 3), (56, .ireturn, 1)]
set_option maxRecDepth 100000 in
theorem eX2_replaceBlocked : am_dec cX2_replaceBlocked tX2_replaceBlocked := am_dec_of (by decide +kernel)
def tX2_replaceSeed : List (Nat × Instr × Nat) := [(0, .iload_n 2, 1), (1, .ifCond .lt 10, 3), (4, .iload_n 2, 1), (5, .sipush 512, 3), (8, .if_icmp .lt 6, 3), (11, .bipush (-2), 2), (13, .ireturn, 1), (14, .aload_n 1, 1), (15, .getfield 41, 3), (18, .getfield 87, 3), (21, .istore_n 3, 1), (22, .aload_n 1, 1), (23, .getfield 41, 3), (26, .iload_n 2, 1), (27, .putfield 87, 3), (30, .iload_n 3, 1), (31, .ireturn, 1)]
set_option maxRecDepth 100000 in
theorem eX2_replaceSeed : am_dec cX2_replaceSeed tX2_replaceSeed := am_dec_of (by decide +kernel)
def tX2_beginBroadcast : List (Nat × Instr × Nat) := [(0, .aload_n 1, 1), (1, .getfield 41, 3), (4, .astore 5, 2), (6, .aload_n 1, 1), (7, .getfield 18, 3), (10, .iload_n 2, 1), (11, .invokevirtual 50, 3), (14, .ifCond .ne 5, 3), (17, .iconst (-1), 1), (18, .ireturn, 1), (19, .iload_n 3, 1), (20, .iconst 1, 1), (21, .if_icmp .lt 9, 3), (24, .iload_n 3, 1), (25, .bipush 6, 2), (27, .if_icmp .le 6, 3), (30, .bipush (-2), 2), (32, .ireturn, 1), (33, .aload 5, 2), (35, .getfield 90, 3), (38, .ifCond .eq 14, 3), (41, .aload_n 0, 1), (42, .iconst 5, 1), (43, .aload 5, 2), (45, .getfield 94, 3), (48, .invokevirtual 33, 3), (51, .ireturn, 1), (52, .aload 5, 2), (54, .iconst 1, 1), (55, .putfield 90, 3), (58, .aload 5, 2), (60, .iload_n 2, 1), (61, .putfield 97, 3), (64, .aload 5, 2), (66, .iload_n 3, 1), (67, .putfield 100, 3), (70, .aload 5, 2), (72, .iload 4, 2), (74, .putfield 103, 3), (77, .aload 5, 2), (79, .iconst 0, 1), (80, .putfield 94, 3), (83, .iconst 0, 1), (84, .istore 6, 2), (86, .iload 6, 2), (88, .bipush 9, 2), (90, .if_icmp .ge 32, 3), (93, .aload 5, 2), (95, .getfield 45, 3), (98, .iload 6, 2), (100, .iload 6, 2), (102, .iload_n 2, 1), (103, .if_icmp .ne 11, 3), (106, .aload 5, 2), (108, .invokevirtual 106, 3), (111, .goto 4, 3), (114, .iconst 0, 1), (115, .iastore, 1), (116, .iinc 6 1, 3), (119, .goto (-33), 3), (122, .aload 5, 2), (124, .dup, 1), (125, .getfield 109, 3), (128, .iconst 1, 1), (129, .iadd, 1), (130, .putfield 109, 3), (133, .aload 5, 2), (135, .getfield 109, 3), (138, .ireturn, 1)]
set_option maxRecDepth 100000 in
theorem eX2_beginBroadcast : am_dec cX2_beginBroadcast tX2_beginBroadcast := am_dec_of (by decide +kernel)
def tX2_letBlowOnce : List (Nat × Instr × Nat) := [(0, .aload_n 1, 1), (1, .getfield 41, 3), (4, .getfield 90, 3), (7, .ifCond .ne 17, 3), (10, .aload_n 0, 1), (11, .bipush 6, 2), (13, .aload_n 1, 1), (14, .getfield 41, 3), (17, .getfield 109, 3), (20, .invokevirtual 33, 3), (23, .ireturn, 1), (24, .aload_n 2, 1), (25, .aload_n 1, 1), (26, .invokevirtual 112, 3), (29, .ireturn, 1)]
set_option maxRecDepth 100000 in
theorem eX2_letBlowOnce : am_dec cX2_letBlowOnce tX2_letBlowOnce := am_dec_of (by decide +kernel)
def tX2_letBlowToEnd : List (Nat × Instr × Nat) := [(0, .aload_n 1, 1), (1, .getfield 41, 3), (4, .getfield 90, 3), (7, .ifCond .ne 17, 3), (10, .aload_n 0, 1), (11, .bipush 6, 2), (13, .aload_n 1, 1), (14, .getfield 41, 3), (17, .getfield 109, 3), (20, .invokevirtual 33, 3), (23, .ireturn, 1), (24, .iconst 0, 1), (25, .istore_n 3, 1), (26, .iload_n 3, 1), (27, .bipush 30, 2), (29, .if_icmp .ge 25, 3), (32, .aload_n 1, 1), (33, .getfield 41, 3), (36, .getfield 90, 3), (39, .ifCond .eq 15, 3), (42, .aload_n 2, 1), (43, .aload_n 1, 1), (44, .invokevirtual 112, 3), (47, .pop, 1), (48, .iinc 3 1, 3), (51, .goto (-25), 3), (54, .iload_n 3, 1), (55, .ireturn, 1)]
set_option maxRecDepth 100000 in
theorem eX2_letBlowToEnd : am_dec cX2_letBlowToEnd tX2_letBlowToEnd := am_dec_of (by decide +kernel)
def tX2_stopBroadcast : List (Nat × Instr × Nat) := [(0, .aload_n 1, 1), (1, .getfield 41, 3), (4, .getfield 90, 3), (7, .ifCond .ne 17, 3), (10, .aload_n 0, 1), (11, .bipush 6, 2), (13, .aload_n 1, 1), (14, .getfield 41, 3), (17, .getfield 109, 3), (20, .invokevirtual 33, 3), (23, .ireturn, 1), (24, .aload_n 1, 1), (25, .getfield 41, 3), (28, .iconst 0, 1), (29, .putfield 90, 3), (32, .aload_n 1, 1), (33, .getfield 41, 3), (36, .getfield 94, 3), (39, .ireturn, 1)]
set_option maxRecDepth 100000 in
theorem eX2_stopBroadcast : am_dec cX2_stopBroadcast tX2_stopBroadcast := am_dec_of (by decide +kernel)
def tX3_init : List (Nat × Instr × Nat) := [(0, .aload_n 0, 1), (1, .invokespecial 3, 3), (4, .aload_n 0, 1), (5, .bipush 12, 2), (7, .anewarray 9, 3), (10, .putfield 11, 3), (13, .aload_n 0, 1), (14, .bipush 12, 2), (16, .iconst 4, 1), (17, .multianewarray 17 2, 4), (21, .putfield 19, 3), (24, .aload_n 0, 1), (25, .iconst 0, 1), (26, .putfield 22, 3), (29, .aload_n 0, 1), (30, .iconst 0, 1), (31, .putfield 26, 3), (34, .aload_n 0, 1), (35, .bipush 60, 2), (37, .newarray .char, 2), (39, .putfield 29, 3), (42, .aload_n 0, 1), (43, .iconst 0, 1), (44, .putfield 33, 3), (47, .return_, 1)]
set_option maxRecDepth 100000 in
theorem eX3_init : am_dec cX3_init tX3_init := am_dec_of (by decide +kernel)
def tX3_append : List (Nat × Instr × Nat) := [(0, .aload_n 0, 1), (1, .getfield 26, 3), (4, .bipush 60, 2), (6, .if_icmp .ge 23, 3), (9, .aload_n 0, 1), (10, .getfield 29, 3), (13, .aload_n 0, 1), (14, .getfield 26, 3), (17, .iload_n 1, 1), (18, .castore, 1), (19, .aload_n 0, 1), (20, .dup, 1), (21, .getfield 26, 3), (24, .iconst 1, 1), (25, .iadd, 1), (26, .putfield 26, 3), (29, .return_, 1)]
set_option maxRecDepth 100000 in
theorem eX3_append : am_dec cX3_append tX3_append := am_dec_of (by decide +kernel)
def tX3_read : List (Nat × Instr × Nat) := [(0, .aload_n 0, 1), (1, .invokevirtual 36, 3), (4, .istore_n 1, 1), (5, .aload_n 0, 1), (6, .iconst 0, 1), (7, .putfield 26, 3), (10, .iload_n 1, 1), (11, .ireturn, 1)]
set_option maxRecDepth 100000 in
theorem eX3_read : am_dec cX3_read tX3_read := am_dec_of (by decide +kernel)
def tX3_readAll : List (Nat × Instr × Nat) := [(0, .aload_n 0, 1), (1, .iconst 0, 1), (2, .putfield 22, 3), (5, .aload_n 0, 1), (6, .iconst 0, 1), (7, .putfield 33, 3), (10, .aload_n 0, 1), (11, .getfield 22, 3), (14, .bipush 12, 2), (16, .if_icmp .ge 51, 3), (19, .aload_n 0, 1), (20, .aload_n 0, 1), (21, .getfield 33, 3), (24, .invokevirtual 40, 3), (27, .ifCond .eq 40, 3), (30, .aload_n 0, 1), (31, .dup, 1), (32, .getfield 22, 3), (35, .iconst 1, 1), (36, .iadd, 1), (37, .putfield 22, 3), (40, .aload_n 0, 1), (41, .getfield 33, 3), (44, .aload_n 0, 1), (45, .getfield 26, 3), (48, .if_icmp .lt 5, 3), (51, .iconst (-1), 1), (52, .ireturn, 1), (53, .aload_n 0, 1), (54, .bipush 59, 2), (56, .invokevirtual 44, 3), (59, .ifCond .ne (-49), 3), (62, .aload_n 0, 1), (63, .getfield 33, 3), (66, .ireturn, 1), (67, .aload_n 0, 1), (68, .getfield 33, 3), (71, .ireturn, 1)]
set_option maxRecDepth 100000 in
theorem eX3_readAll : am_dec cX3_readAll tX3_readAll := am_dec_of (by decide +kernel)
def tX3_readCommand : List (Nat × Instr × Nat) := [(0, .iload_n 1, 1), (1, .istore_n 2, 1), (2, .iconst 0, 1), (3, .istore_n 3, 1), (4, .iload_n 3, 1), (5, .getstatic 48, 3), (8, .arraylength, 1), (9, .if_icmp .ge 63, 3), (12, .aload_n 0, 1), (13, .iload_n 1, 1), (14, .putfield 33, 3), (17, .aload_n 0, 1), (18, .getstatic 48, 3), (21, .iload_n 3, 1), (22, .aaload, 1), (23, .getfield 51, 3), (26, .aload_n 0, 1), (27, .getfield 19, 3), (30, .aload_n 0, 1), (31, .getfield 22, 3), (34, .aaload, 1), (35, .invokevirtual 55, 3), (38, .ifCond .eq 19, 3), (41, .aload_n 0, 1), (42, .getfield 11, 3), (45, .aload_n 0, 1), (46, .getfield 22, 3), (49, .getstatic 48, 3), (52, .iload_n 3, 1), (53, .aaload, 1), (54, .aastore, 1), (55, .iconst 1, 1), (56, .ireturn, 1), (57, .iload_n 2, 1), (58, .aload_n 0, 1), (59, .getfield 33, 3), (62, .invokestatic 59, 3), (65, .istore_n 2, 1), (66, .iinc 3 1, 3), (69, .goto (-65), 3), (72, .aload_n 0, 1), (73, .iload_n 2, 1), (74, .putfield 33, 3), (77, .iconst 0, 1), (78, .ireturn, 1)]
set_option maxRecDepth 100000 in
theorem eX3_readCommand : am_dec cX3_readCommand tX3_readCommand := am_dec_of (by decide +kernel)
def tX3_takeShape : List (Nat × Instr × Nat) := [(0, .iconst 0, 1), (1, .istore_n 3, 1), (2, .iconst 0, 1), (3, .istore 4, 2), (5, .iload 4, 2), (7, .aload_n 1, 1), (8, .invokevirtual 65, 3), (11, .if_icmp .ge 81, 3), (14, .aload_n 1, 1), (15, .iload 4, 2), (17, .invokevirtual 69, 3), (20, .istore 5, 2), (22, .iload 5, 2), (24, .bipush 35, 2), (26, .if_icmp .eq 17, 3), (29, .iload 5, 2), (31, .bipush 64, 2), (33, .if_icmp .eq 10, 3), (36, .iload 5, 2), (38, .bipush 42, 2), (40, .if_icmp .ne 35, 3), (43, .aload_n 0, 1), (44, .iload 5, 2), (46, .invokevirtual 73, 3), (49, .istore 6, 2), (51, .iload 6, 2), (53, .iconst (-1), 1), (54, .if_icmp .eq 8, 3), (57, .iload_n 3, 1), (58, .iconst 4, 1), (59, .if_icmp .lt 5, 3), (62, .iconst 0, 1), (63, .ireturn, 1), (64, .aload_n 2, 1), (65, .iload_n 3, 1), (66, .iload 6, 2), (68, .iastore, 1), (69, .iinc 3 1, 3), (72, .goto 14, 3), (75, .aload_n 0, 1), (76, .iload 5, 2), (78, .invokevirtual 44, 3), (81, .ifCond .ne 5, 3), (84, .iconst 0, 1), (85, .ireturn, 1), (86, .iinc 4 1, 3), (89, .goto (-84), 3), (92, .iconst 1, 1), (93, .ireturn, 1)]
set_option maxRecDepth 100000 in
theorem eX3_takeShape : am_dec cX3_takeShape tX3_takeShape := am_dec_of (by decide +kernel)
def tX3_takeValue : List (Nat × Instr × Nat) := [(0, .iload_n 1, 1), (1, .bipush 42, 2), (3, .if_icmp .ne 18, 3), (6, .aload_n 0, 1), (7, .bipush 43, 2), (9, .invokevirtual 44, 3), (12, .ifCond .eq 7, 3), (15, .iconst 1, 1), (16, .goto 4, 3), (19, .iconst 0, 1), (20, .ireturn, 1), (21, .aload_n 0, 1), (22, .iload_n 1, 1), (23, .bipush 35, 2), (25, .if_icmp .ne 7, 3), (28, .iconst 1, 1), (29, .goto 4, 3), (32, .iconst 3, 1), (33, .invokevirtual 77, 3), (36, .ireturn, 1)]
set_option maxRecDepth 100000 in
theorem eX3_takeValue : am_dec cX3_takeValue tX3_takeValue := am_dec_of (by decide +kernel)
def tX3_takeSign : List (Nat × Instr × Nat) := [(0, .aload_n 0, 1), (1, .getfield 33, 3), (4, .aload_n 0, 1), (5, .getfield 26, 3), (8, .if_icmp .ge 28, 3), (11, .aload_n 0, 1), (12, .getfield 29, 3), (15, .aload_n 0, 1), (16, .getfield 33, 3), (19, .caload, 1), (20, .iload_n 1, 1), (21, .if_icmp .ne 15, 3), (24, .aload_n 0, 1), (25, .dup, 1), (26, .getfield 33, 3), (29, .iconst 1, 1), (30, .iadd, 1), (31, .putfield 33, 3), (34, .iconst 1, 1), (35, .ireturn, 1), (36, .iconst 0, 1), (37, .ireturn, 1)]
set_option maxRecDepth 100000 in
theorem eX3_takeSign : am_dec cX3_takeSign tX3_takeSign := am_dec_of (by decide +kernel)
def tX3_takeDigits : List (Nat × Instr × Nat) := [(0, .iconst (-1), 1), (1, .istore_n 2, 1), (2, .iconst 0, 1), (3, .istore_n 3, 1), (4, .iload_n 3, 1), (5, .iload_n 1, 1), (6, .if_icmp .ge 80, 3), (9, .aload_n 0, 1), (10, .getfield 33, 3), (13, .aload_n 0, 1), (14, .getfield 26, 3), (17, .if_icmp .ge 63, 3), (20, .aload_n 0, 1), (21, .getfield 29, 3), (24, .aload_n 0, 1), (25, .getfield 33, 3), (28, .caload, 1), (29, .bipush 48, 2), (31, .if_icmp .lt 49, 3), (34, .aload_n 0, 1), (35, .getfield 29, 3), (38, .aload_n 0, 1), (39, .getfield 33, 3), (42, .caload, 1), (43, .bipush 57, 2), (45, .if_icmp .gt 35, 3), (48, .iload_n 2, 1), (49, .iconst 0, 1), (50, .invokestatic 59, 3), (53, .bipush 10, 2), (55, .imul, 1), (56, .aload_n 0, 1), (57, .getfield 29, 3), (60, .aload_n 0, 1), (61, .getfield 33, 3), (64, .caload, 1), (65, .bipush 48, 2), (67, .isub, 1), (68, .iadd, 1), (69, .istore_n 2, 1), (70, .aload_n 0, 1), (71, .dup, 1), (72, .getfield 33, 3), (75, .iconst 1, 1), (76, .iadd, 1), (77, .putfield 33, 3), (80, .iinc 3 1, 3), (83, .goto (-79), 3), (86, .iload_n 2, 1), (87, .ireturn, 1)]
set_option maxRecDepth 100000 in
theorem eX3_takeDigits : am_dec cX3_takeDigits tX3_takeDigits := am_dec_of (by decide +kernel)
def tX4_init : List (Nat × Instr × Nat) := [(0, .aload_n 0, 1), (1, .invokespecial 3, 3), (4, .aload_n 0, 1), (5, .bipush 9, 2), (7, .anewarray 11, 3), (10, .putfield 13, 3), (13, .aload_n 0, 1), (14, .iconst 0, 1), (15, .putfield 17, 3), (18, .aload_n 0, 1), (19, .iconst 0, 1), (20, .putfield 21, 3), (23, .iconst 0, 1), (24, .istore_n 1, 1), (25, .iload_n 1, 1), (26, .bipush 9, 2), (28, .if_icmp .ge 22, 3), (31, .aload_n 0, 1), (32, .getfield 13, 3), (35, .iload_n 1, 1), (36, .new 11, 3), (39, .dup, 1), (40, .invokespecial 24, 3), (43, .aastore, 1), (44, .iinc 1 1, 3), (47, .goto (-22), 3), (50, .return_, 1)]
set_option maxRecDepth 100000 in
theorem eX4_init : am_dec cX4_init tX4_init := am_dec_of (by decide +kernel)
def tX4_note : List (Nat × Instr × Nat) := [(0, .aload_n 0, 1), (1, .getfield 13, 3), (4, .aload_n 0, 1), (5, .getfield 17, 3), (8, .aaload, 1), (9, .aload_n 1, 1), (10, .invokevirtual 25, 3), (13, .return_, 1)]
set_option maxRecDepth 100000 in
theorem eX4_note : am_dec cX4_note tX4_note := am_dec_of (by decide +kernel)
def tX4_noted : List (Nat × Instr × Nat) := [(0, .aload_n 0, 1), (1, .getfield 13, 3), (4, .aload_n 0, 1), (5, .getfield 17, 3), (8, .aaload, 1), (9, .areturn, 1)]
set_option maxRecDepth 100000 in
theorem eX4_noted : am_dec cX4_noted tX4_noted := am_dec_of (by decide +kernel)
def tX4_keep : List (Nat × Instr × Nat) := [(0, .aload_n 0, 1), (1, .aload_n 0, 1), (2, .getfield 17, 3), (5, .iconst 1, 1), (6, .iadd, 1), (7, .bipush 9, 2), (9, .irem, 1), (10, .putfield 17, 3), (13, .aload_n 0, 1), (14, .aload_n 0, 1), (15, .getfield 21, 3), (18, .iconst 1, 1), (19, .iadd, 1), (20, .bipush 8, 2), (22, .invokestatic 29, 3), (25, .putfield 21, 3), (28, .return_, 1)]
set_option maxRecDepth 100000 in
theorem eX4_keep : am_dec cX4_keep tX4_keep := am_dec_of (by decide +kernel)
def tX4_stepBack : List (Nat × Instr × Nat) := [(0, .aload_n 0, 1), (1, .getfield 21, 3), (4, .ifCond .le 42, 3), (7, .aload_n 0, 1), (8, .aload_n 0, 1), (9, .getfield 17, 3), (12, .bipush 9, 2), (14, .iadd, 1), (15, .iconst 1, 1), (16, .isub, 1), (17, .bipush 9, 2), (19, .irem, 1), (20, .putfield 17, 3), (23, .aload_n 0, 1), (24, .dup, 1), (25, .getfield 21, 3), (28, .iconst 1, 1), (29, .isub, 1), (30, .putfield 21, 3), (33, .aload_n 1, 1), (34, .aload_n 0, 1), (35, .getfield 13, 3), (38, .aload_n 0, 1), (39, .getfield 17, 3), (42, .aaload, 1), (43, .invokevirtual 25, 3), (46, .return_, 1)]
set_option maxRecDepth 100000 in
theorem eX4_stepBack : am_dec cX4_stepBack tX4_stepBack := am_dec_of (by decide +kernel)
def tX4_forget : List (Nat × Instr × Nat) := [(0, .aload_n 0, 1), (1, .iconst 0, 1), (2, .putfield 21, 3), (5, .return_, 1)]
set_option maxRecDepth 100000 in
theorem eX4_forget : am_dec cX4_forget tX4_forget := am_dec_of (by decide +kernel)
def tX6_init : List (Nat × Instr × Nat) := [(0, .aload_n 0, 1), (1, .invokespecial 3, 3), (4, .aload_n 0, 1), (5, .bipush 9, 2), (7, .newarray .int, 2), (9, .putfield 9, 3), (12, .aload_n 0, 1), (13, .bipush 16, 2), (15, .newarray .int, 2), (17, .putfield 15, 3), (20, .aload_n 0, 1), (21, .bipush 16, 2), (23, .newarray .int, 2), (25, .putfield 18, 3), (28, .aload_n 0, 1), (29, .bipush 16, 2), (31, .newarray .int, 2), (33, .putfield 21, 3), (36, .aload_n 0, 1), (37, .bipush 16, 2), (39, .newarray .int, 2), (41, .putfield 24, 3), (44, .aload_n 0, 1), (45, .iconst 0, 1), (46, .putfield 27, 3), (49, .aload_n 0, 1), (50, .iconst 0, 1), (51, .putfield 31, 3), (54, .aload_n 0, 1), (55, .iconst 0, 1), (56, .putfield 34, 3), (59, .return_, 1)]
set_option maxRecDepth 100000 in
theorem eX6_init : am_dec cX6_init tX6_init := am_dec_of (by decide +kernel)
def tX6_hasField : List (Nat × Instr × Nat) := [(0, .iload_n 1, 1), (1, .ifCond .lt 15, 3), (4, .iload_n 1, 1), (5, .aload_n 0, 1), (6, .getfield 31, 3), (9, .if_icmp .ge 7, 3), (12, .iconst 1, 1), (13, .goto 4, 3), (16, .iconst 0, 1), (17, .ireturn, 1)]
set_option maxRecDepth 100000 in
theorem eX6_hasField : am_dec cX6_hasField tX6_hasField := am_dec_of (by decide +kernel)
def tX6_hasPath : List (Nat × Instr × Nat) := [(0, .iload_n 1, 1), (1, .ifCond .lt 15, 3), (4, .iload_n 1, 1), (5, .aload_n 0, 1), (6, .getfield 34, 3), (9, .if_icmp .ge 7, 3), (12, .iconst 1, 1), (13, .goto 4, 3), (16, .iconst 0, 1), (17, .ireturn, 1)]
set_option maxRecDepth 100000 in
theorem eX6_hasPath : am_dec cX6_hasPath tX6_hasPath := am_dec_of (by decide +kernel)
def tX6_isOpen : List (Nat × Instr × Nat) := [(0, .iload_n 1, 1), (1, .ifCond .lt 26, 3), (4, .iload_n 1, 1), (5, .aload_n 0, 1), (6, .getfield 34, 3), (9, .if_icmp .ge 18, 3), (12, .aload_n 0, 1), (13, .getfield 27, 3), (16, .iload_n 1, 1), (17, .ishr, 1), (18, .iconst 1, 1), (19, .iand, 1), (20, .ifCond .ne 7, 3), (23, .iconst 1, 1), (24, .goto 4, 3), (27, .iconst 0, 1), (28, .ireturn, 1)]
set_option maxRecDepth 100000 in
theorem eX6_isOpen : am_dec cX6_isOpen tX6_isOpen := am_dec_of (by decide +kernel)
def tX6_closedTotal : List (Nat × Instr × Nat) := [(0, .aload_n 0, 1), (1, .getfield 27, 3), (4, .invokestatic 37, 3), (7, .ireturn, 1)]
set_option maxRecDepth 100000 in
theorem eX6_closedTotal : am_dec cX6_closedTotal tX6_closedTotal := am_dec_of (by decide +kernel)
def tX6_endsOf : List (Nat × Instr × Nat) := [(0, .iconst 1, 1), (1, .aload_n 0, 1), (2, .getfield 15, 3), (5, .iload_n 1, 1), (6, .iaload, 1), (7, .ishl, 1), (8, .iconst 1, 1), (9, .aload_n 0, 1), (10, .getfield 18, 3), (13, .iload_n 1, 1), (14, .iaload, 1), (15, .ishl, 1), (16, .ior, 1), (17, .ireturn, 1)]
set_option maxRecDepth 100000 in
theorem eX6_endsOf : am_dec cX6_endsOf tX6_endsOf := am_dec_of (by decide +kernel)
def tX6_farEnd : List (Nat × Instr × Nat) := [(0, .aload_n 0, 1), (1, .iload_n 1, 1), (2, .invokevirtual 43, 3), (5, .ifCond .ne 5, 3), (8, .iconst (-1), 1), (9, .ireturn, 1), (10, .aload_n 0, 1), (11, .getfield 15, 3), (14, .iload_n 1, 1), (15, .iaload, 1), (16, .iload_n 2, 1), (17, .if_icmp .ne 10, 3), (20, .aload_n 0, 1), (21, .getfield 18, 3), (24, .iload_n 1, 1), (25, .iaload, 1), (26, .ireturn, 1), (27, .aload_n 0, 1), (28, .getfield 18, 3), (31, .iload_n 1, 1), (32, .iaload, 1), (33, .iload_n 2, 1), (34, .if_icmp .ne 12, 3), (37, .aload_n 0, 1), (38, .getfield 15, 3), (41, .iload_n 1, 1), (42, .iaload, 1), (43, .goto 4, 3), (46, .iconst (-1), 1), (47, .ireturn, 1)]
set_option maxRecDepth 100000 in
theorem eX6_farEnd : am_dec cX6_farEnd tX6_farEnd := am_dec_of (by decide +kernel)
def tX6_pathBetween : List (Nat × Instr × Nat) := [(0, .iconst 1, 1), (1, .iload_n 1, 1), (2, .ishl, 1), (3, .iconst 1, 1), (4, .iload_n 2, 1), (5, .ishl, 1), (6, .ior, 1), (7, .istore_n 3, 1), (8, .iconst 0, 1), (9, .istore 4, 2), (11, .iload 4, 2), (13, .aload_n 0, 1), (14, .getfield 34, 3), (17, .if_icmp .ge 22, 3), (20, .aload_n 0, 1), (21, .iload 4, 2), (23, .invokevirtual 47, 3), (26, .iload_n 3, 1), (27, .if_icmp .ne 6, 3), (30, .iload 4, 2), (32, .ireturn, 1), (33, .iinc 4 1, 3), (36, .goto (-25), 3), (39, .iconst (-1), 1), (40, .ireturn, 1)]
set_option maxRecDepth 100000 in
theorem eX6_pathBetween : am_dec cX6_pathBetween tX6_pathBetween := am_dec_of (by decide +kernel)
def tX6_dangerOf : List (Nat × Instr × Nat) := [(0, .aload_n 0, 1), (1, .getfield 24, 3), (4, .iload_n 1, 1), (5, .iaload, 1), (6, .aload_n 0, 1), (7, .getfield 9, 3), (10, .iload_n 2, 1), (11, .iaload, 1), (12, .if_icmp .le 19, 3), (15, .aload_n 0, 1), (16, .getfield 24, 3), (19, .iload_n 1, 1), (20, .iaload, 1), (21, .aload_n 0, 1), (22, .getfield 9, 3), (25, .iload_n 2, 1), (26, .iaload, 1), (27, .isub, 1), (28, .goto 4, 3), (31, .iconst 0, 1), (32, .ireturn, 1)]
set_option maxRecDepth 100000 in
theorem eX6_dangerOf : am_dec cX6_dangerOf tX6_dangerOf := am_dec_of (by decide +kernel)
def tX6_copyFrom : List (Nat × Instr × Nat) := [(0, .aload_n 1, 1), (1, .getfield 9, 3), (4, .iconst 0, 1), (5, .aload_n 0, 1), (6, .getfield 9, 3), (9, .iconst 0, 1), (10, .bipush 9, 2), (12, .invokestatic 50, 3), (15, .aload_n 1, 1), (16, .getfield 15, 3), (19, .iconst 0, 1), (20, .aload_n 0, 1), (21, .getfield 15, 3), (24, .iconst 0, 1), (25, .bipush 16, 2), (27, .invokestatic 50, 3), (30, .aload_n 1, 1), (31, .getfield 18, 3), (34, .iconst 0, 1), (35, .aload_n 0, 1), (36, .getfield 18, 3), (39, .iconst 0, 1), (40, .bipush 16, 2), (42, .invokestatic 50, 3), (45, .aload_n 1, 1), (46, .getfield 21, 3), (49, .iconst 0, 1), (50, .aload_n 0, 1), (51, .getfield 21, 3), (54, .iconst 0, 1), (55, .bipush 16, 2), (57, .invokestatic 50, 3), (60, .aload_n 1, 1), (61, .getfield 24, 3), (64, .iconst 0, 1), (65, .aload_n 0, 1), (66, .getfield 24, 3), (69, .iconst 0, 1), (70, .bipush 16, 2), (72, .invokestatic 50, 3), (75, .aload_n 0, 1), (76, .aload_n 1, 1), (77, .getfield 27, 3), (80, .putfield 27, 3), (83, .aload_n 0, 1), (84, .aload_n 1, 1), (85, .getfield 31, 3), (88, .putfield 31, 3), (91, .aload_n 0, 1), (92, .aload_n 1, 1), (93, .getfield 34, 3), (96, .putfield 34, 3), (99, .return_, 1)]
set_option maxRecDepth 100000 in
theorem eX6_copyFrom : am_dec cX6_copyFrom tX6_copyFrom := am_dec_of (by decide +kernel)
def tX7_init : List (Nat × Instr × Nat) := [(0, .aload_n 0, 1), (1, .invokespecial 3, 3), (4, .aload_n 0, 1), (5, .bipush 9, 2), (7, .newarray .int, 2), (9, .putfield 9, 3), (12, .aload_n 0, 1), (13, .bipush 9, 2), (15, .newarray .int, 2), (17, .putfield 15, 3), (20, .aload_n 0, 1), (21, .bipush 9, 2), (23, .newarray .int, 2), (25, .putfield 18, 3), (28, .aload_n 0, 1), (29, .bipush 9, 2), (31, .newarray .float, 2), (33, .putfield 21, 3), (36, .aload_n 0, 1), (37, .bipush 9, 2), (39, .newarray .int, 2), (41, .putfield 25, 3), (44, .return_, 1)]
set_option maxRecDepth 100000 in
theorem eX7_init : am_dec cX7_init tX7_init := am_dec_of (by decide +kernel)
def tX7_grow : List (Nat × Instr × Nat) := [(0, .iconst 0, 1), (1, .istore_n 3, 1), (2, .iload_n 3, 1), (3, .bipush 9, 2), (5, .if_icmp .ge 55, 3), (8, .aload_n 0, 1), (9, .getfield 9, 3), (12, .iload_n 3, 1), (13, .iconst (-1), 1), (14, .iastore, 1), (15, .aload_n 0, 1), (16, .getfield 15, 3), (19, .iload_n 3, 1), (20, .iconst (-1), 1), (21, .iastore, 1), (22, .aload_n 0, 1), (23, .getfield 18, 3), (26, .iload_n 3, 1), (27, .iload_n 3, 1), (28, .iload_n 2, 1), (29, .if_icmp .ne 7, 3), (32, .iconst 0, 1), (33, .goto 4, 3), (36, .iconst (-1), 1), (37, .iastore, 1), (38, .aload_n 0, 1), (39, .getfield 21, 3), (42, .iload_n 3, 1), (43, .iload_n 3, 1), (44, .iload_n 2, 1), (45, .if_icmp .ne 7, 3), (48, .fconst 1, 1), (49, .goto 4, 3), (52, .fconst 0, 1), (53, .fastore, 1), (54, .iinc 3 1, 3), (57, .goto (-55), 3), (60, .iconst 1, 1), (61, .istore_n 3, 1), (62, .iload_n 3, 1), (63, .aload_n 1, 1), (64, .getfield 28, 3), (67, .if_icmp .ge 29, 3), (70, .aload_n 0, 1), (71, .aload_n 1, 1), (72, .invokevirtual 34, 3), (75, .istore 4, 2), (77, .iload 4, 2), (79, .iconst (-1), 1), (80, .if_icmp .eq 10, 3), (83, .aload_n 0, 1), (84, .aload_n 1, 1), (85, .iload 4, 2), (87, .invokevirtual 38, 3), (90, .iinc 3 1, 3), (93, .goto (-31), 3), (96, .return_, 1)]
set_option maxRecDepth 100000 in
theorem eX7_grow : am_dec cX7_grow tX7_grow := am_dec_of (by decide +kernel)
def tX7_firstPathOut : List (Nat × Instr × Nat) := [(0, .iconst (-1), 1), (1, .istore_n 2, 1), (2, .iconst 0, 1), (3, .istore_n 3, 1), (4, .iload_n 3, 1), (5, .aload_n 1, 1), (6, .getfield 42, 3), (9, .if_icmp .ge 94, 3), (12, .aload_n 0, 1), (13, .getfield 18, 3), (16, .aload_n 1, 1), (17, .getfield 45, 3), (20, .iload_n 3, 1), (21, .iaload, 1), (22, .iaload, 1), (23, .iconst (-1), 1), (24, .if_icmp .ne 7, 3), (27, .iconst 1, 1), (28, .goto 4, 3), (31, .iconst 0, 1), (32, .aload_n 0, 1), (33, .getfield 18, 3), (36, .aload_n 1, 1), (37, .getfield 48, 3), (40, .iload_n 3, 1), (41, .iaload, 1), (42, .iaload, 1), (43, .iconst (-1), 1), (44, .if_icmp .ne 7, 3), (47, .iconst 1, 1), (48, .goto 4, 3), (51, .iconst 0, 1), (52, .if_icmp .eq 7, 3), (55, .iconst 1, 1), (56, .goto 4, 3), (59, .iconst 0, 1), (60, .istore 4, 2), (62, .aload_n 1, 1), (63, .iload_n 3, 1), (64, .invokevirtual 51, 3), (67, .ifCond .eq 30, 3), (70, .iload 4, 2), (72, .ifCond .eq 25, 3), (75, .iload_n 2, 1), (76, .iconst (-1), 1), (77, .if_icmp .eq 18, 3), (80, .aload_n 1, 1), (81, .getfield 55, 3), (84, .iload_n 3, 1), (85, .iaload, 1), (86, .aload_n 1, 1), (87, .getfield 55, 3), (90, .iload_n 2, 1), (91, .iaload, 1), (92, .if_icmp .ge 5, 3), (95, .iload_n 3, 1), (96, .istore_n 2, 1), (97, .iinc 3 1, 3), (100, .goto (-96), 3), (103, .iload_n 2, 1), (104, .ireturn, 1)]
set_option maxRecDepth 100000 in
theorem eX7_firstPathOut : am_dec cX7_firstPathOut tX7_firstPathOut := am_dec_of (by decide +kernel)
def tX7_attach : List (Nat × Instr × Nat) := [(0, .aload_n 0, 1), (1, .getfield 18, 3), (4, .aload_n 1, 1), (5, .getfield 48, 3), (8, .iload_n 2, 1), (9, .iaload, 1), (10, .iaload, 1), (11, .iconst (-1), 1), (12, .if_icmp .ne 7, 3), (15, .iconst 1, 1), (16, .goto 4, 3), (19, .iconst 0, 1), (20, .istore_n 3, 1), (21, .iload_n 3, 1), (22, .ifCond .eq 12, 3), (25, .aload_n 1, 1), (26, .getfield 45, 3), (29, .iload_n 2, 1), (30, .iaload, 1), (31, .goto 9, 3), (34, .aload_n 1, 1), (35, .getfield 48, 3), (38, .iload_n 2, 1), (39, .iaload, 1), (40, .istore 4, 2), (42, .iload_n 3, 1), (43, .ifCond .eq 12, 3), (46, .aload_n 1, 1), (47, .getfield 48, 3), (50, .iload_n 2, 1), (51, .iaload, 1), (52, .goto 9, 3), (55, .aload_n 1, 1), (56, .getfield 45, 3), (59, .iload_n 2, 1), (60, .iaload, 1), (61, .istore 5, 2), (63, .aload_n 0, 1), (64, .getfield 9, 3), (67, .iload 5, 2), (69, .iload 4, 2), (71, .iastore, 1), (72, .aload_n 0, 1), (73, .getfield 15, 3), (76, .iload 5, 2), (78, .iload_n 2, 1), (79, .iastore, 1), (80, .aload_n 0, 1), (81, .getfield 18, 3), (84, .iload 5, 2), (86, .aload_n 0, 1), (87, .getfield 18, 3), (90, .iload 4, 2), (92, .iaload, 1), (93, .iconst 1, 1), (94, .iadd, 1), (95, .iastore, 1), (96, .aload_n 0, 1), (97, .getfield 21, 3), (100, .iload 5, 2), (102, .aload_n 0, 1), (103, .getfield 21, 3), (106, .iload 4, 2), (108, .faload, 1), (109, .bipush 10, 2), (111, .aload_n 1, 1), (112, .iload_n 2, 1), (113, .iload 5, 2), (115, .invokevirtual 58, 3), (118, .isub, 1), (119, .i2f, 1), (120, .ldc 62, 2), (122, .fdiv, 1), (123, .fmul, 1), (124, .fastore, 1), (125, .return_, 1)]
set_option maxRecDepth 100000 in
theorem eX7_attach : am_dec cX7_attach tX7_attach := am_dec_of (by decide +kernel)
def tX7_costGrown : List (Nat × Instr × Nat) := [(0, .aload_n 0, 1), (1, .aload_n 1, 1), (2, .iload_n 2, 1), (3, .invokevirtual 63, 3), (6, .iconst 0, 1), (7, .istore_n 3, 1), (8, .iconst 0, 1), (9, .istore 4, 2), (11, .iload 4, 2), (13, .aload_n 1, 1), (14, .getfield 28, 3), (17, .if_icmp .ge 35, 3), (20, .aload_n 0, 1), (21, .getfield 15, 3), (24, .iload 4, 2), (26, .iaload, 1), (27, .iconst (-1), 1), (28, .if_icmp .eq 18, 3), (31, .iload_n 3, 1), (32, .aload_n 1, 1), (33, .getfield 55, 3), (36, .aload_n 0, 1), (37, .getfield 15, 3), (40, .iload 4, 2), (42, .iaload, 1), (43, .iaload, 1), (44, .iadd, 1), (45, .istore_n 3, 1), (46, .iinc 4 1, 3), (49, .goto (-38), 3), (52, .iload_n 3, 1), (53, .ireturn, 1)]
set_option maxRecDepth 100000 in
theorem eX7_costGrown : am_dec cX7_costGrown tX7_costGrown := am_dec_of (by decide +kernel)
def tX7_chooseInOrder : List (Nat × Instr × Nat) := [(0, .iconst 0, 1), (1, .istore_n 3, 1), (2, .iload_n 3, 1), (3, .bipush 9, 2), (5, .if_icmp .ge 16, 3), (8, .aload_n 0, 1), (9, .getfield 25, 3), (12, .iload_n 3, 1), (13, .iload_n 3, 1), (14, .iastore, 1), (15, .iinc 3 1, 3), (18, .goto (-16), 3), (21, .iconst 0, 1), (22, .istore_n 3, 1), (23, .iconst 1, 1), (24, .istore 4, 2), (26, .iload 4, 2), (28, .bipush 9, 2), (30, .if_icmp .gt 65, 3), (33, .iconst 0, 1), (34, .istore 5, 2), (36, .iload 5, 2), (38, .aload_n 1, 1), (39, .getfield 42, 3), (42, .if_icmp .ge 47, 3), (45, .aload_n 1, 1), (46, .getfield 55, 3), (49, .iload 5, 2), (51, .iaload, 1), (52, .iload 4, 2), (54, .if_icmp .ne 29, 3), (57, .aload_n 1, 1), (58, .iload 5, 2), (60, .invokevirtual 51, 3), (63, .ifCond .eq 20, 3), (66, .aload_n 0, 1), (67, .aload_n 1, 1), (68, .iload 5, 2), (70, .invokevirtual 66, 3), (73, .ifCond .eq 10, 3), (76, .iload_n 3, 1), (77, .iconst 1, 1), (78, .iload 5, 2), (80, .ishl, 1), (81, .ior, 1), (82, .istore_n 3, 1), (83, .iinc 5 1, 3), (86, .goto (-50), 3), (89, .iinc 4 1, 3), (92, .goto (-66), 3), (95, .aload_n 0, 1), (96, .aload_n 1, 1), (97, .iload_n 2, 1), (98, .iload_n 3, 1), (99, .invokevirtual 70, 3), (102, .ireturn, 1)]
set_option maxRecDepth 100000 in
theorem eX7_chooseInOrder : am_dec cX7_chooseInOrder tX7_chooseInOrder := am_dec_of (by decide +kernel)
def tX7_joinLabels : List (Nat × Instr × Nat) := [(0, .aload_n 0, 1), (1, .getfield 25, 3), (4, .aload_n 1, 1), (5, .getfield 45, 3), (8, .iload_n 2, 1), (9, .iaload, 1), (10, .iaload, 1), (11, .istore_n 3, 1), (12, .aload_n 0, 1), (13, .getfield 25, 3), (16, .aload_n 1, 1), (17, .getfield 48, 3), (20, .iload_n 2, 1), (21, .iaload, 1), (22, .iaload, 1), (23, .istore 4, 2), (25, .iconst 0, 1), (26, .istore 5, 2), (28, .iload 5, 2), (30, .aload_n 1, 1), (31, .getfield 28, 3), (34, .if_icmp .ge 29, 3), (37, .aload_n 0, 1), (38, .getfield 25, 3), (41, .iload 5, 2), (43, .iaload, 1), (44, .iload 4, 2), (46, .if_icmp .ne 11, 3), (49, .aload_n 0, 1), (50, .getfield 25, 3), (53, .iload 5, 2), (55, .iload_n 3, 1), (56, .iastore, 1), (57, .iinc 5 1, 3), (60, .goto (-32), 3), (63, .iload_n 3, 1), (64, .iload 4, 2), (66, .if_icmp .eq 7, 3), (69, .iconst 1, 1), (70, .goto 4, 3), (73, .iconst 0, 1), (74, .ireturn, 1)]
set_option maxRecDepth 100000 in
theorem eX7_joinLabels : am_dec cX7_joinLabels tX7_joinLabels := am_dec_of (by decide +kernel)
def tX7_onlyAround : List (Nat × Instr × Nat) := [(0, .iconst 0, 1), (1, .istore 4, 2), (3, .iconst 0, 1), (4, .istore 5, 2), (6, .iload 5, 2), (8, .aload_n 1, 1), (9, .getfield 42, 3), (12, .if_icmp .ge 48, 3), (15, .iload_n 3, 1), (16, .iload 5, 2), (18, .invokestatic 74, 3), (21, .ifCond .eq 33, 3), (24, .aload_n 0, 1), (25, .getfield 25, 3), (28, .aload_n 1, 1), (29, .getfield 45, 3), (32, .iload 5, 2), (34, .iaload, 1), (35, .iaload, 1), (36, .aload_n 0, 1), (37, .getfield 25, 3), (40, .iload_n 2, 1), (41, .iaload, 1), (42, .if_icmp .ne 12, 3), (45, .iload 4, 2), (47, .iconst 1, 1), (48, .iload 5, 2), (50, .ishl, 1), (51, .ior, 1), (52, .istore 4, 2), (54, .iinc 5 1, 3), (57, .goto (-51), 3), (60, .iload 4, 2), (62, .ireturn, 1)]
set_option maxRecDepth 100000 in
theorem eX7_onlyAround : am_dec cX7_onlyAround tX7_onlyAround := am_dec_of (by decide +kernel)
def tX7_costInOrder : List (Nat × Instr × Nat) := [(0, .aload_n 0, 1), (1, .aload_n 1, 1), (2, .iload_n 2, 1), (3, .invokevirtual 78, 3), (6, .istore_n 3, 1), (7, .iconst 0, 1), (8, .istore 4, 2), (10, .iconst 0, 1), (11, .istore 5, 2), (13, .iload 5, 2), (15, .aload_n 1, 1), (16, .getfield 42, 3), (19, .if_icmp .ge 30, 3), (22, .iload_n 3, 1), (23, .iload 5, 2), (25, .invokestatic 74, 3), (28, .ifCond .eq 15, 3), (31, .iload 4, 2), (33, .aload_n 1, 1), (34, .getfield 55, 3), (37, .iload 5, 2), (39, .iaload, 1), (40, .iadd, 1), (41, .istore 4, 2), (43, .iinc 5 1, 3), (46, .goto (-33), 3), (49, .iload 4, 2), (51, .ireturn, 1)]
set_option maxRecDepth 100000 in
theorem eX7_costInOrder : am_dec cX7_costInOrder tX7_costInOrder := am_dec_of (by decide +kernel)
def tX8_init : List (Nat × Instr × Nat) := [(0, .aload_n 0, 1), (1, .invokespecial 3, 3), (4, .aload_n 0, 1), (5, .new 9, 3), (8, .dup, 1), (9, .invokespecial 11, 3), (12, .putfield 12, 3), (15, .aload_n 0, 1), (16, .new 18, 3), (19, .dup, 1), (20, .invokespecial 20, 3), (23, .putfield 21, 3), (26, .aload_n 0, 1), (27, .bipush 16, 2), (29, .newarray .int, 2), (31, .putfield 25, 3), (34, .aload_n 0, 1), (35, .iconst 0, 1), (36, .putfield 29, 3), (39, .aload_n 0, 1), (40, .iconst 0, 1), (41, .putfield 33, 3), (44, .aload_n 0, 1), (45, .iconst 0, 1), (46, .putfield 36, 3), (49, .aload_n 0, 1), (50, .iconst 0, 1), (51, .putfield 39, 3), (54, .aload_n 0, 1), (55, .iconst 0, 1), (56, .putfield 42, 3), (59, .aload_n 0, 1), (60, .iconst 0, 1), (61, .putfield 45, 3), (64, .return_, 1)]
set_option maxRecDepth 100000 in
theorem eX8_init : am_dec cX8_init tX8_init := am_dec_of (by decide +kernel)
def tX8_fieldsAheadOf : List (Nat × Instr × Nat) := [(0, .iconst 0, 1), (1, .istore_n 2, 1), (2, .iconst 0, 1), (3, .istore_n 3, 1), (4, .iload_n 3, 1), (5, .aload_n 0, 1), (6, .getfield 12, 3), (9, .getfield 48, 3), (12, .if_icmp .ge 26, 3), (15, .iload_n 3, 1), (16, .iload_n 1, 1), (17, .if_icmp .eq 15, 3), (20, .aload_n 0, 1), (21, .iload_n 3, 1), (22, .iload_n 1, 1), (23, .invokevirtual 51, 3), (26, .ifCond .eq 6, 3), (29, .iinc 2 1, 3), (32, .iinc 3 1, 3), (35, .goto (-31), 3), (38, .iload_n 2, 1), (39, .ireturn, 1)]
set_option maxRecDepth 100000 in
theorem eX8_fieldsAheadOf : am_dec cX8_fieldsAheadOf tX8_fieldsAheadOf := am_dec_of (by decide +kernel)
def tX8_fieldIsAhead : List (Nat × Instr × Nat) := [(0, .aload_n 0, 1), (1, .getfield 21, 3), (4, .getfield 55, 3), (7, .iload_n 1, 1), (8, .iaload, 1), (9, .invokestatic 58, 3), (12, .istore_n 3, 1), (13, .aload_n 0, 1), (14, .getfield 21, 3), (17, .getfield 55, 3), (20, .iload_n 2, 1), (21, .iaload, 1), (22, .invokestatic 58, 3), (25, .istore 4, 2), (27, .iload_n 3, 1), (28, .iload 4, 2), (30, .if_icmp .eq 15, 3), (33, .iload_n 3, 1), (34, .iload 4, 2), (36, .if_icmp .le 7, 3), (39, .iconst 1, 1), (40, .goto 4, 3), (43, .iconst 0, 1), (44, .ireturn, 1), (45, .aload_n 0, 1), (46, .getfield 12, 3), (49, .getfield 64, 3), (52, .iload_n 1, 1), (53, .iaload, 1), (54, .aload_n 0, 1), (55, .getfield 12, 3), (58, .getfield 64, 3), (61, .iload_n 2, 1), (62, .iaload, 1), (63, .if_icmp .eq 30, 3), (66, .aload_n 0, 1), (67, .getfield 12, 3), (70, .getfield 64, 3), (73, .iload_n 1, 1), (74, .iaload, 1), (75, .aload_n 0, 1), (76, .getfield 12, 3), (79, .getfield 64, 3), (82, .iload_n 2, 1), (83, .iaload, 1), (84, .if_icmp .le 7, 3), (87, .iconst 1, 1), (88, .goto 4, 3), (91, .iconst 0, 1), (92, .ireturn, 1), (93, .iload_n 1, 1), (94, .iload_n 2, 1), (95, .if_icmp .ge 7, 3), (98, .iconst 1, 1), (99, .goto 4, 3), (102, .iconst 0, 1), (103, .ireturn, 1)]
set_option maxRecDepth 100000 in
theorem eX8_fieldIsAhead : am_dec cX8_fieldIsAhead tX8_fieldIsAhead := am_dec_of (by decide +kernel)
def tX8_pathsAheadOf : List (Nat × Instr × Nat) := [(0, .iconst 0, 1), (1, .istore_n 2, 1), (2, .iconst 0, 1), (3, .istore_n 3, 1), (4, .iload_n 3, 1), (5, .aload_n 0, 1), (6, .getfield 12, 3), (9, .getfield 67, 3), (12, .if_icmp .ge 26, 3), (15, .iload_n 3, 1), (16, .iload_n 1, 1), (17, .if_icmp .eq 15, 3), (20, .aload_n 0, 1), (21, .iload_n 3, 1), (22, .iload_n 1, 1), (23, .invokevirtual 70, 3), (26, .ifCond .eq 6, 3), (29, .iinc 2 1, 3), (32, .iinc 3 1, 3), (35, .goto (-31), 3), (38, .iload_n 2, 1), (39, .ireturn, 1)]
set_option maxRecDepth 100000 in
theorem eX8_pathsAheadOf : am_dec cX8_pathsAheadOf tX8_pathsAheadOf := am_dec_of (by decide +kernel)
def tX8_pathIsAhead : List (Nat × Instr × Nat) := [(0, .aload_n 0, 1), (1, .getfield 25, 3), (4, .iload_n 1, 1), (5, .iaload, 1), (6, .aload_n 0, 1), (7, .getfield 25, 3), (10, .iload_n 2, 1), (11, .iaload, 1), (12, .if_icmp .eq 24, 3), (15, .aload_n 0, 1), (16, .getfield 25, 3), (19, .iload_n 1, 1), (20, .iaload, 1), (21, .aload_n 0, 1), (22, .getfield 25, 3), (25, .iload_n 2, 1), (26, .iaload, 1), (27, .if_icmp .le 7, 3), (30, .iconst 1, 1), (31, .goto 4, 3), (34, .iconst 0, 1), (35, .ireturn, 1), (36, .aload_n 0, 1), (37, .getfield 12, 3), (40, .getfield 73, 3), (43, .iload_n 1, 1), (44, .iaload, 1), (45, .aload_n 0, 1), (46, .getfield 12, 3), (49, .getfield 73, 3), (52, .iload_n 2, 1), (53, .iaload, 1), (54, .if_icmp .eq 30, 3), (57, .aload_n 0, 1), (58, .getfield 12, 3), (61, .getfield 73, 3), (64, .iload_n 1, 1), (65, .iaload, 1), (66, .aload_n 0, 1), (67, .getfield 12, 3), (70, .getfield 73, 3), (73, .iload_n 2, 1), (74, .iaload, 1), (75, .if_icmp .ge 7, 3), (78, .iconst 1, 1), (79, .goto 4, 3), (82, .iconst 0, 1), (83, .ireturn, 1), (84, .iload_n 1, 1), (85, .iload_n 2, 1), (86, .if_icmp .ge 7, 3), (89, .iconst 1, 1), (90, .goto 4, 3), (93, .iconst 0, 1), (94, .ireturn, 1)]
set_option maxRecDepth 100000 in
theorem eX8_pathIsAhead : am_dec cX8_pathIsAhead tX8_pathIsAhead := am_dec_of (by decide +kernel)
def tX8_totalsAgree : List (Nat × Instr × Nat) := [(0, .iconst 0, 1), (1, .istore_n 1, 1), (2, .iconst 0, 1), (3, .istore_n 2, 1), (4, .iconst 0, 1), (5, .istore_n 3, 1), (6, .iload_n 3, 1), (7, .aload_n 0, 1), (8, .getfield 12, 3), (11, .getfield 67, 3), (14, .if_icmp .ge 37, 3), (17, .iload_n 1, 1), (18, .aload_n 0, 1), (19, .getfield 25, 3), (22, .iload_n 3, 1), (23, .iaload, 1), (24, .iadd, 1), (25, .istore_n 1, 1), (26, .iload_n 2, 1), (27, .aload_n 0, 1), (28, .getfield 25, 3), (31, .iload_n 3, 1), (32, .iaload, 1), (33, .aload_n 0, 1), (34, .getfield 12, 3), (37, .getfield 73, 3), (40, .iload_n 3, 1), (41, .iaload, 1), (42, .imul, 1), (43, .iadd, 1), (44, .istore_n 2, 1), (45, .iinc 3 1, 3), (48, .goto (-42), 3), (51, .iload_n 1, 1), (52, .aload_n 0, 1), (53, .getfield 29, 3), (56, .if_icmp .ne 15, 3), (59, .iload_n 2, 1), (60, .aload_n 0, 1), (61, .getfield 39, 3), (64, .if_icmp .ne 7, 3), (67, .iconst 1, 1), (68, .goto 4, 3), (71, .iconst 0, 1), (72, .ireturn, 1)]
set_option maxRecDepth 100000 in
theorem eX8_totalsAgree : am_dec cX8_totalsAgree tX8_totalsAgree := am_dec_of (by decide +kernel)
def tX8_copyFrom : List (Nat × Instr × Nat) := [(0, .aload_n 0, 1), (1, .getfield 12, 3), (4, .aload_n 1, 1), (5, .getfield 12, 3), (8, .invokevirtual 76, 3), (11, .aload_n 0, 1), (12, .getfield 21, 3), (15, .aload_n 1, 1), (16, .getfield 21, 3), (19, .invokevirtual 80, 3), (22, .aload_n 1, 1), (23, .getfield 25, 3), (26, .iconst 0, 1), (27, .aload_n 0, 1), (28, .getfield 25, 3), (31, .iconst 0, 1), (32, .bipush 16, 2), (34, .invokestatic 83, 3), (37, .aload_n 0, 1), (38, .aload_n 1, 1), (39, .getfield 29, 3), (42, .putfield 29, 3), (45, .aload_n 0, 1), (46, .aload_n 1, 1), (47, .getfield 33, 3), (50, .putfield 33, 3), (53, .aload_n 0, 1), (54, .aload_n 1, 1), (55, .getfield 36, 3), (58, .putfield 36, 3), (61, .aload_n 0, 1), (62, .aload_n 1, 1), (63, .getfield 39, 3), (66, .putfield 39, 3), (69, .aload_n 0, 1), (70, .aload_n 1, 1), (71, .getfield 42, 3), (74, .putfield 42, 3), (77, .aload_n 0, 1), (78, .aload_n 1, 1), (79, .getfield 45, 3), (82, .putfield 45, 3), (85, .return_, 1)]
set_option maxRecDepth 100000 in
theorem eX8_copyFrom : am_dec cX8_copyFrom tX8_copyFrom := am_dec_of (by decide +kernel)
def tX9_init : List (Nat × Instr × Nat) := [(0, .aload_n 0, 1), (1, .invokespecial 3, 3), (4, .aload_n 0, 1), (5, .bipush 9, 2), (7, .newarray .int, 2), (9, .putfield 9, 3), (12, .aload_n 0, 1), (13, .bipush 16, 2), (15, .newarray .int, 2), (17, .putfield 15, 3), (20, .aload_n 0, 1), (21, .bipush 9, 2), (23, .newarray .int, 2), (25, .putfield 18, 3), (28, .aload_n 0, 1), (29, .bipush 9, 2), (31, .newarray .int, 2), (33, .putfield 21, 3), (36, .aload_n 0, 1), (37, .bipush 9, 2), (39, .newarray .int, 2), (41, .putfield 24, 3), (44, .aload_n 0, 1), (45, .bipush 9, 2), (47, .newarray .int, 2), (49, .putfield 27, 3), (52, .aload_n 0, 1), (53, .iconst 0, 1), (54, .putfield 30, 3), (57, .return_, 1)]
set_option maxRecDepth 100000 in
theorem eX9_init : am_dec cX9_init tX9_init := am_dec_of (by decide +kernel)
def tX9_groupAround : List (Nat × Instr × Nat) := [(0, .iconst 1, 1), (1, .iload_n 2, 1), (2, .ishl, 1), (3, .istore 4, 2), (5, .iconst 1, 1), (6, .istore 5, 2), (8, .iload 5, 2), (10, .aload_n 1, 1), (11, .getfield 34, 3), (14, .if_icmp .ge 65, 3), (17, .iconst 0, 1), (18, .istore 6, 2), (20, .iload 6, 2), (22, .aload_n 1, 1), (23, .getfield 39, 3), (26, .if_icmp .ge 47, 3), (29, .aload_n 1, 1), (30, .iload 6, 2), (32, .invokevirtual 42, 3), (35, .istore 7, 2), (37, .iload 6, 2), (39, .iload_n 3, 1), (40, .if_icmp .eq 27, 3), (43, .aload_n 1, 1), (44, .iload 6, 2), (46, .invokevirtual 46, 3), (49, .ifCond .eq 18, 3), (52, .iload 4, 2), (54, .iload 7, 2), (56, .iand, 1), (57, .ifCond .eq 10, 3), (60, .iload 4, 2), (62, .iload 7, 2), (64, .ior, 1), (65, .istore 4, 2), (67, .iinc 6 1, 3), (70, .goto (-50), 3), (73, .iinc 5 1, 3), (76, .goto (-68), 3), (79, .iload 4, 2), (81, .ireturn, 1)]
set_option maxRecDepth 100000 in
theorem eX9_groupAround : am_dec cX9_groupAround tX9_groupAround := am_dec_of (by decide +kernel)
def tX9_countGroups : List (Nat × Instr × Nat) := [(0, .iconst 0, 1), (1, .istore_n 3, 1), (2, .iconst 0, 1), (3, .istore 4, 2), (5, .iconst 0, 1), (6, .istore 5, 2), (8, .iload 5, 2), (10, .aload_n 1, 1), (11, .getfield 34, 3), (14, .if_icmp .ge 32, 3), (17, .iload_n 3, 1), (18, .iload 5, 2), (20, .invokestatic 50, 3), (23, .ifCond .ne 17, 3), (26, .iload_n 3, 1), (27, .aload_n 0, 1), (28, .aload_n 1, 1), (29, .iload 5, 2), (31, .iload_n 2, 1), (32, .invokevirtual 54, 3), (35, .ior, 1), (36, .istore_n 3, 1), (37, .iinc 4 1, 3), (40, .iinc 5 1, 3), (43, .goto (-35), 3), (46, .iload 4, 2), (48, .ireturn, 1)]
set_option maxRecDepth 100000 in
theorem eX9_countGroups : am_dec cX9_countGroups tX9_countGroups := am_dec_of (by decide +kernel)
def tX9_cheapestByVisiting : List (Nat × Instr × Nat) := [(0, .aload_n 0, 1), (1, .iload_n 2, 1), (2, .invokevirtual 58, 3), (5, .iconst 0, 1), (6, .istore 4, 2), (8, .iconst 0, 1), (9, .istore 5, 2), (11, .iload 5, 2), (13, .aload_n 1, 1), (14, .getfield 34, 3), (17, .if_icmp .ge 40, 3), (20, .aload_n 0, 1), (21, .aload_n 1, 1), (22, .iload 4, 2), (24, .invokevirtual 62, 3), (27, .istore 6, 2), (29, .iload 6, 2), (31, .iconst (-1), 1), (32, .if_icmp .eq 19, 3), (35, .iload 4, 2), (37, .iconst 1, 1), (38, .iload 6, 2), (40, .ishl, 1), (41, .ior, 1), (42, .istore 4, 2), (44, .aload_n 0, 1), (45, .aload_n 1, 1), (46, .iload 6, 2), (48, .invokevirtual 66, 3), (51, .iinc 5 1, 3), (54, .goto (-43), 3), (57, .aload_n 0, 1), (58, .getfield 9, 3), (61, .iload_n 3, 1), (62, .iaload, 1), (63, .ireturn, 1)]
set_option maxRecDepth 100000 in
theorem eX9_cheapestByVisiting : am_dec cX9_cheapestByVisiting tX9_cheapestByVisiting := am_dec_of (by decide +kernel)
def tX9_startCosts : List (Nat × Instr × Nat) := [(0, .iconst 0, 1), (1, .istore_n 2, 1), (2, .iload_n 2, 1), (3, .bipush 9, 2), (5, .if_icmp .ge 27, 3), (8, .aload_n 0, 1), (9, .getfield 9, 3), (12, .iload_n 2, 1), (13, .iload_n 2, 1), (14, .iload_n 1, 1), (15, .if_icmp .ne 7, 3), (18, .iconst 0, 1), (19, .goto 6, 3), (22, .sipush 1000, 3), (25, .iastore, 1), (26, .iinc 2 1, 3), (29, .goto (-27), 3), (32, .return_, 1)]
set_option maxRecDepth 100000 in
theorem eX9_startCosts : am_dec cX9_startCosts tX9_startCosts := am_dec_of (by decide +kernel)
def tX9_nearestOutside : List (Nat × Instr × Nat) := [(0, .iconst (-1), 1), (1, .istore_n 3, 1), (2, .sipush 1000, 3), (5, .istore 4, 2), (7, .iconst 0, 1), (8, .istore 5, 2), (10, .iload 5, 2), (12, .aload_n 1, 1), (13, .getfield 34, 3), (16, .if_icmp .ge 42, 3), (19, .iload_n 2, 1), (20, .iload 5, 2), (22, .invokestatic 50, 3), (25, .ifCond .ne 27, 3), (28, .aload_n 0, 1), (29, .getfield 9, 3), (32, .iload 5, 2), (34, .iaload, 1), (35, .iload 4, 2), (37, .if_icmp .ge 15, 3), (40, .iload 5, 2), (42, .istore_n 3, 1), (43, .aload_n 0, 1), (44, .getfield 9, 3), (47, .iload 5, 2), (49, .iaload, 1), (50, .istore 4, 2), (52, .iinc 5 1, 3), (55, .goto (-45), 3), (58, .iload_n 3, 1), (59, .ireturn, 1)]
set_option maxRecDepth 100000 in
theorem eX9_nearestOutside : am_dec cX9_nearestOutside tX9_nearestOutside := am_dec_of (by decide +kernel)
def tX9_lowerAround : List (Nat × Instr × Nat) := [(0, .iconst 0, 1), (1, .istore_n 3, 1), (2, .iload_n 3, 1), (3, .aload_n 1, 1), (4, .getfield 39, 3), (7, .if_icmp .ge 65, 3), (10, .aload_n 1, 1), (11, .iload_n 3, 1), (12, .invokevirtual 46, 3), (15, .ifCond .eq 12, 3), (18, .aload_n 1, 1), (19, .iload_n 3, 1), (20, .iload_n 2, 1), (21, .invokevirtual 70, 3), (24, .goto 4, 3), (27, .iconst (-1), 1), (28, .istore 4, 2), (30, .iload 4, 2), (32, .iconst (-1), 1), (33, .if_icmp .eq 33, 3), (36, .aload_n 0, 1), (37, .getfield 9, 3), (40, .iload 4, 2), (42, .aload_n 0, 1), (43, .getfield 9, 3), (46, .iload 4, 2), (48, .iaload, 1), (49, .aload_n 0, 1), (50, .getfield 9, 3), (53, .iload_n 2, 1), (54, .iaload, 1), (55, .aload_n 1, 1), (56, .getfield 74, 3), (59, .iload_n 3, 1), (60, .iaload, 1), (61, .iadd, 1), (62, .invokestatic 75, 3), (65, .iastore, 1), (66, .iinc 3 1, 3), (69, .goto (-67), 3), (72, .return_, 1)]
set_option maxRecDepth 100000 in
theorem eX9_lowerAround : am_dec cX9_lowerAround tX9_lowerAround := am_dec_of (by decide +kernel)
def tX9_cheapestByLowering : List (Nat × Instr × Nat) := [(0, .aload_n 0, 1), (1, .iload_n 2, 1), (2, .invokevirtual 58, 3), (5, .iconst 1, 1), (6, .istore 4, 2), (8, .iload 4, 2), (10, .aload_n 1, 1), (11, .getfield 34, 3), (14, .if_icmp .ge 118, 3), (17, .iconst 0, 1), (18, .istore 5, 2), (20, .iload 5, 2), (22, .aload_n 1, 1), (23, .getfield 39, 3), (26, .if_icmp .ge 100, 3), (29, .aload_n 1, 1), (30, .iload 5, 2), (32, .invokevirtual 46, 3), (35, .ifCond .eq 85, 3), (38, .aload_n 1, 1), (39, .getfield 80, 3), (42, .iload 5, 2), (44, .iaload, 1), (45, .istore 6, 2), (47, .aload_n 1, 1), (48, .getfield 83, 3), (51, .iload 5, 2), (53, .iaload, 1), (54, .istore 7, 2), (56, .aload_n 0, 1), (57, .getfield 9, 3), (60, .iload 7, 2), (62, .aload_n 0, 1), (63, .getfield 9, 3), (66, .iload 7, 2), (68, .iaload, 1), (69, .aload_n 0, 1), (70, .getfield 9, 3), (73, .iload 6, 2), (75, .iaload, 1), (76, .aload_n 1, 1), (77, .getfield 74, 3), (80, .iload 5, 2), (82, .iaload, 1), (83, .iadd, 1), (84, .invokestatic 75, 3), (87, .iastore, 1), (88, .aload_n 0, 1), (89, .getfield 9, 3), (92, .iload 6, 2), (94, .aload_n 0, 1), (95, .getfield 9, 3), (98, .iload 6, 2), (100, .iaload, 1), (101, .aload_n 0, 1), (102, .getfield 9, 3), (105, .iload 7, 2), (107, .iaload, 1), (108, .aload_n 1, 1), (109, .getfield 74, 3), (112, .iload 5, 2), (114, .iaload, 1), (115, .iadd, 1), (116, .invokestatic 75, 3), (119, .iastore, 1), (120, .iinc 5 1, 3), (123, .goto (-103), 3), (126, .iinc 4 1, 3), (129, .goto (-121), 3), (132, .aload_n 0, 1), (133, .getfield 9, 3), (136, .iload_n 3, 1), (137, .iaload, 1), (138, .ireturn, 1)]
set_option maxRecDepth 100000 in
theorem eX9_cheapestByLowering : am_dec cX9_cheapestByLowering tX9_cheapestByLowering := am_dec_of (by decide +kernel)
def tX9_mostDisjoint : List (Nat × Instr × Nat) := [(0, .iconst 0, 1), (1, .istore 4, 2), (3, .iload 4, 2), (5, .bipush 16, 2), (7, .if_icmp .ge 17, 3), (10, .aload_n 0, 1), (11, .getfield 15, 3), (14, .iload 4, 2), (16, .iconst 0, 1), (17, .iastore, 1), (18, .iinc 4 1, 3), (21, .goto (-18), 3), (24, .iconst 0, 1), (25, .istore 4, 2), (27, .iload 4, 2), (29, .bipush 16, 2), (31, .if_icmp .ge 19, 3), (34, .aload_n 0, 1), (35, .aload_n 1, 1), (36, .iload_n 2, 1), (37, .iload_n 3, 1), (38, .invokevirtual 86, 3), (41, .ifCond .eq 9, 3), (44, .iinc 4 1, 3), (47, .goto (-20), 3), (50, .iload 4, 2), (52, .ireturn, 1)]
set_option maxRecDepth 100000 in
theorem eX9_mostDisjoint : am_dec cX9_mostDisjoint tX9_mostDisjoint := am_dec_of (by decide +kernel)
def tX9_addWay : List (Nat × Instr × Nat) := [(0, .aload_n 0, 1), (1, .aload_n 1, 1), (2, .iload_n 2, 1), (3, .invokevirtual 90, 3), (6, .iload_n 3, 1), (7, .invokestatic 50, 3), (10, .ifCond .ne 5, 3), (13, .iconst 0, 1), (14, .ireturn, 1), (15, .iload_n 3, 1), (16, .istore 4, 2), (18, .iconst 0, 1), (19, .istore 5, 2), (21, .iload 5, 2), (23, .aload_n 1, 1), (24, .getfield 34, 3), (27, .if_icmp .ge 87, 3), (30, .iload 4, 2), (32, .iload_n 2, 1), (33, .if_icmp .eq 81, 3), (36, .aload_n 0, 1), (37, .getfield 18, 3), (40, .iload 4, 2), (42, .iaload, 1), (43, .istore 6, 2), (45, .aload_n 1, 1), (46, .getfield 83, 3), (49, .iload 6, 2), (51, .iaload, 1), (52, .iload 4, 2), (54, .if_icmp .ne 7, 3), (57, .iconst 1, 1), (58, .goto 4, 3), (61, .iconst 0, 1), (62, .istore 7, 2), (64, .aload_n 0, 1), (65, .getfield 15, 3), (68, .iload 6, 2), (70, .dup2, 1), (71, .iaload, 1), (72, .iload 7, 2), (74, .ifCond .eq 7, 3), (77, .iconst 1, 1), (78, .goto 4, 3), (81, .iconst (-1), 1), (82, .iadd, 1), (83, .iastore, 1), (84, .iload 7, 2), (86, .ifCond .eq 13, 3), (89, .aload_n 1, 1), (90, .getfield 80, 3), (93, .iload 6, 2), (95, .iaload, 1), (96, .goto 10, 3), (99, .aload_n 1, 1), (100, .getfield 83, 3), (103, .iload 6, 2), (105, .iaload, 1), (106, .istore 4, 2), (108, .iinc 5 1, 3), (111, .goto (-90), 3), (114, .iconst 1, 1), (115, .ireturn, 1)]
set_option maxRecDepth 100000 in
theorem eX9_addWay : am_dec cX9_addWay tX9_addWay := am_dec_of (by decide +kernel)
def tX9_reachByFlows : List (Nat × Instr × Nat) := [(0, .iconst 1, 1), (1, .iload_n 2, 1), (2, .ishl, 1), (3, .istore_n 3, 1), (4, .iconst 1, 1), (5, .istore 4, 2), (7, .iload 4, 2), (9, .aload_n 1, 1), (10, .getfield 34, 3), (13, .if_icmp .ge 147, 3), (16, .iconst 0, 1), (17, .istore 5, 2), (19, .iload 5, 2), (21, .aload_n 1, 1), (22, .getfield 39, 3), (25, .if_icmp .ge 129, 3), (28, .aload_n 1, 1), (29, .iload 5, 2), (31, .invokevirtual 46, 3), (34, .ifCond .eq 114, 3), (37, .aload_n 1, 1), (38, .getfield 80, 3), (41, .iload 5, 2), (43, .iaload, 1), (44, .istore 6, 2), (46, .aload_n 1, 1), (47, .getfield 83, 3), (50, .iload 5, 2), (52, .iaload, 1), (53, .istore 7, 2), (55, .iload_n 3, 1), (56, .iload 6, 2), (58, .invokestatic 50, 3), (61, .ifCond .eq 42, 3), (64, .iload_n 3, 1), (65, .iload 7, 2), (67, .invokestatic 50, 3), (70, .ifCond .ne 33, 3), (73, .aload_n 0, 1), (74, .getfield 15, 3), (77, .iload 5, 2), (79, .iaload, 1), (80, .iconst 1, 1), (81, .if_icmp .ge 22, 3), (84, .iload_n 3, 1), (85, .iconst 1, 1), (86, .iload 7, 2), (88, .ishl, 1), (89, .ior, 1), (90, .istore_n 3, 1), (91, .aload_n 0, 1), (92, .getfield 18, 3), (95, .iload 7, 2), (97, .iload 5, 2), (99, .iastore, 1), (100, .goto 48, 3), (103, .iload_n 3, 1), (104, .iload 7, 2), (106, .invokestatic 50, 3), (109, .ifCond .eq 39, 3), (112, .iload_n 3, 1), (113, .iload 6, 2), (115, .invokestatic 50, 3), (118, .ifCond .ne 30, 3), (121, .aload_n 0, 1), (122, .getfield 15, 3), (125, .iload 5, 2), (127, .iaload, 1), (128, .iconst (-1), 1), (129, .if_icmp .le 19, 3), (132, .iload_n 3, 1), (133, .iconst 1, 1), (134, .iload 6, 2), (136, .ishl, 1), (137, .ior, 1), (138, .istore_n 3, 1), (139, .aload_n 0, 1), (140, .getfield 18, 3), (143, .iload 6, 2), (145, .iload 5, 2), (147, .iastore, 1), (148, .iinc 5 1, 3), (151, .goto (-132), 3), (154, .iinc 4 1, 3), (157, .goto (-150), 3), (160, .iload_n 3, 1), (161, .ireturn, 1)]
set_option maxRecDepth 100000 in
theorem eX9_reachByFlows : am_dec cX9_reachByFlows tX9_reachByFlows := am_dec_of (by decide +kernel)
def tX9_fewestLeaving : List (Nat × Instr × Nat) := [(0, .bipush 16, 2), (2, .istore 4, 2), (4, .iconst 1, 1), (5, .aload_n 1, 1), (6, .getfield 34, 3), (9, .ishl, 1), (10, .istore 5, 2), (12, .iconst 0, 1), (13, .istore 6, 2), (15, .iload 6, 2), (17, .iload 5, 2), (19, .if_icmp .ge 40, 3), (22, .iload 6, 2), (24, .iload_n 2, 1), (25, .invokestatic 50, 3), (28, .ifCond .eq 25, 3), (31, .iload 6, 2), (33, .iload_n 3, 1), (34, .invokestatic 50, 3), (37, .ifCond .ne 16, 3), (40, .iload 4, 2), (42, .aload_n 1, 1), (43, .iload 6, 2), (45, .invokestatic 93, 3), (48, .invokestatic 75, 3), (51, .istore 4, 2), (53, .iinc 6 1, 3), (56, .goto (-41), 3), (59, .iload 4, 2), (61, .ireturn, 1)]
set_option maxRecDepth 100000 in
theorem eX9_fewestLeaving : am_dec cX9_fewestLeaving tX9_fewestLeaving := am_dec_of (by decide +kernel)
def tX9_countLeaving : List (Nat × Instr × Nat) := [(0, .iconst 0, 1), (1, .istore_n 2, 1), (2, .iconst 0, 1), (3, .istore_n 3, 1), (4, .iload_n 3, 1), (5, .aload_n 0, 1), (6, .getfield 39, 3), (9, .if_icmp .ge 43, 3), (12, .aload_n 0, 1), (13, .iload_n 3, 1), (14, .invokevirtual 46, 3), (17, .ifCond .eq 29, 3), (20, .iload_n 1, 1), (21, .aload_n 0, 1), (22, .getfield 80, 3), (25, .iload_n 3, 1), (26, .iaload, 1), (27, .invokestatic 50, 3), (30, .iload_n 1, 1), (31, .aload_n 0, 1), (32, .getfield 83, 3), (35, .iload_n 3, 1), (36, .iaload, 1), (37, .invokestatic 50, 3), (40, .if_icmp .eq 6, 3), (43, .iinc 2 1, 3), (46, .iinc 3 1, 3), (49, .goto (-45), 3), (52, .iload_n 2, 1), (53, .ireturn, 1)]
set_option maxRecDepth 100000 in
theorem eX9_countLeaving : am_dec cX9_countLeaving tX9_countLeaving := am_dec_of (by decide +kernel)
def tX9_partsGroups : List (Nat × Instr × Nat) := [(0, .aload_n 1, 1), (1, .iload_n 2, 1), (2, .invokevirtual 46, 3), (5, .ifCond .eq 22, 3), (8, .aload_n 0, 1), (9, .aload_n 1, 1), (10, .iload_n 2, 1), (11, .invokevirtual 96, 3), (14, .aload_n 0, 1), (15, .aload_n 1, 1), (16, .iconst (-1), 1), (17, .invokevirtual 96, 3), (20, .if_icmp .le 7, 3), (23, .iconst 1, 1), (24, .goto 4, 3), (27, .iconst 0, 1), (28, .ireturn, 1)]
set_option maxRecDepth 100000 in
theorem eX9_partsGroups : am_dec cX9_partsGroups tX9_partsGroups := am_dec_of (by decide +kernel)
def tX9_countBridgesByGroups : List (Nat × Instr × Nat) := [(0, .iconst 0, 1), (1, .istore_n 2, 1), (2, .iconst 0, 1), (3, .istore_n 3, 1), (4, .iload_n 3, 1), (5, .aload_n 1, 1), (6, .getfield 39, 3), (9, .if_icmp .ge 21, 3), (12, .aload_n 0, 1), (13, .aload_n 1, 1), (14, .iload_n 3, 1), (15, .invokevirtual 99, 3), (18, .ifCond .eq 6, 3), (21, .iinc 2 1, 3), (24, .iinc 3 1, 3), (27, .goto (-23), 3), (30, .iload_n 2, 1), (31, .ireturn, 1)]
set_option maxRecDepth 100000 in
theorem eX9_countBridgesByGroups : am_dec cX9_countBridgesByGroups tX9_countBridgesByGroups := am_dec_of (by decide +kernel)
def tX9_countBridgesByWalk : List (Nat × Instr × Nat) := [(0, .iconst 0, 1), (1, .istore_n 2, 1), (2, .iload_n 2, 1), (3, .bipush 9, 2), (5, .if_icmp .ge 16, 3), (8, .aload_n 0, 1), (9, .getfield 21, 3), (12, .iload_n 2, 1), (13, .iconst (-1), 1), (14, .iastore, 1), (15, .iinc 2 1, 3), (18, .goto (-16), 3), (21, .aload_n 0, 1), (22, .iconst 0, 1), (23, .putfield 30, 3), (26, .iconst 0, 1), (27, .istore_n 2, 1), (28, .iconst 0, 1), (29, .istore_n 3, 1), (30, .iload_n 3, 1), (31, .aload_n 1, 1), (32, .getfield 34, 3), (35, .if_icmp .ge 28, 3), (38, .aload_n 0, 1), (39, .getfield 21, 3), (42, .iload_n 3, 1), (43, .iaload, 1), (44, .iconst (-1), 1), (45, .if_icmp .ne 12, 3), (48, .iload_n 2, 1), (49, .aload_n 0, 1), (50, .aload_n 1, 1), (51, .iload_n 3, 1), (52, .invokevirtual 103, 3), (55, .iadd, 1), (56, .istore_n 2, 1), (57, .iinc 3 1, 3), (60, .goto (-30), 3), (63, .iload_n 2, 1), (64, .ireturn, 1)]
set_option maxRecDepth 100000 in
theorem eX9_countBridgesByWalk : am_dec cX9_countBridgesByWalk tX9_countBridgesByWalk := am_dec_of (by decide +kernel)
def tX9_countBridgesFrom : List (Nat × Instr × Nat) := [(0, .iconst 0, 1), (1, .istore_n 3, 1), (2, .iload_n 2, 1), (3, .istore 4, 2), (5, .aload_n 0, 1), (6, .iload_n 2, 1), (7, .iconst (-1), 1), (8, .invokevirtual 106, 3), (11, .iconst 0, 1), (12, .istore 5, 2), (14, .iload 5, 2), (16, .sipush 153, 3), (19, .if_icmp .ge 106, 3), (22, .aload_n 0, 1), (23, .getfield 27, 3), (26, .iload 4, 2), (28, .iaload, 1), (29, .aload_n 1, 1), (30, .getfield 39, 3), (33, .if_icmp .ge 15, 3), (36, .aload_n 0, 1), (37, .aload_n 1, 1), (38, .iload 4, 2), (40, .invokevirtual 110, 3), (43, .istore 4, 2), (45, .goto 74, 3), (48, .aload_n 1, 1), (49, .aload_n 0, 1), (50, .getfield 18, 3), (53, .iload 4, 2), (55, .iaload, 1), (56, .iload 4, 2), (58, .invokevirtual 70, 3), (61, .istore 6, 2), (63, .iload 6, 2), (65, .iconst (-1), 1), (66, .if_icmp .ne 5, 3), (69, .iload_n 3, 1), (70, .ireturn, 1), (71, .aload_n 0, 1), (72, .getfield 24, 3), (75, .iload 4, 2), (77, .iaload, 1), (78, .aload_n 0, 1), (79, .getfield 21, 3), (82, .iload 6, 2), (84, .iaload, 1), (85, .if_icmp .le 6, 3), (88, .iinc 3 1, 3), (91, .aload_n 0, 1), (92, .getfield 24, 3), (95, .iload 6, 2), (97, .aload_n 0, 1), (98, .getfield 24, 3), (101, .iload 6, 2), (103, .iaload, 1), (104, .aload_n 0, 1), (105, .getfield 24, 3), (108, .iload 4, 2), (110, .iaload, 1), (111, .invokestatic 75, 3), (114, .iastore, 1), (115, .iload 6, 2), (117, .istore 4, 2), (119, .iinc 5 1, 3), (122, .goto (-108), 3), (125, .iload_n 3, 1), (126, .ireturn, 1)]
set_option maxRecDepth 100000 in
theorem eX9_countBridgesFrom : am_dec cX9_countBridgesFrom tX9_countBridgesFrom := am_dec_of (by decide +kernel)
def tX9_enter : List (Nat × Instr × Nat) := [(0, .aload_n 0, 1), (1, .getfield 21, 3), (4, .iload_n 1, 1), (5, .aload_n 0, 1), (6, .getfield 30, 3), (9, .iastore, 1), (10, .aload_n 0, 1), (11, .getfield 24, 3), (14, .iload_n 1, 1), (15, .aload_n 0, 1), (16, .getfield 30, 3), (19, .iastore, 1), (20, .aload_n 0, 1), (21, .getfield 18, 3), (24, .iload_n 1, 1), (25, .iload_n 2, 1), (26, .iastore, 1), (27, .aload_n 0, 1), (28, .getfield 27, 3), (31, .iload_n 1, 1), (32, .iconst 0, 1), (33, .iastore, 1), (34, .aload_n 0, 1), (35, .dup, 1), (36, .getfield 30, 3), (39, .iconst 1, 1), (40, .iadd, 1), (41, .putfield 30, 3), (44, .return_, 1)]
set_option maxRecDepth 100000 in
theorem eX9_enter : am_dec cX9_enter tX9_enter := am_dec_of (by decide +kernel)
def tX9_takePath : List (Nat × Instr × Nat) := [(0, .aload_n 0, 1), (1, .getfield 27, 3), (4, .iload_n 2, 1), (5, .iaload, 1), (6, .istore_n 3, 1), (7, .aload_n 0, 1), (8, .getfield 27, 3), (11, .iload_n 2, 1), (12, .dup2, 1), (13, .iaload, 1), (14, .iconst 1, 1), (15, .iadd, 1), (16, .iastore, 1), (17, .aload_n 1, 1), (18, .iload_n 3, 1), (19, .invokevirtual 46, 3), (22, .ifCond .eq 22, 3), (25, .iload_n 3, 1), (26, .aload_n 0, 1), (27, .getfield 18, 3), (30, .iload_n 2, 1), (31, .iaload, 1), (32, .if_icmp .eq 12, 3), (35, .aload_n 1, 1), (36, .iload_n 3, 1), (37, .iload_n 2, 1), (38, .invokevirtual 70, 3), (41, .goto 4, 3), (44, .iconst (-1), 1), (45, .istore 4, 2), (47, .iload 4, 2), (49, .iconst (-1), 1), (50, .if_icmp .ne 5, 3), (53, .iload_n 2, 1), (54, .ireturn, 1), (55, .aload_n 0, 1), (56, .getfield 21, 3), (59, .iload 4, 2), (61, .iaload, 1), (62, .iconst (-1), 1), (63, .if_icmp .ne 13, 3), (66, .aload_n 0, 1), (67, .iload 4, 2), (69, .iload_n 3, 1), (70, .invokevirtual 106, 3), (73, .iload 4, 2), (75, .ireturn, 1), (76, .aload_n 0, 1), (77, .getfield 24, 3), (80, .iload_n 2, 1), (81, .aload_n 0, 1), (82, .getfield 24, 3), (85, .iload_n 2, 1), (86, .iaload, 1), (87, .aload_n 0, 1), (88, .getfield 21, 3), (91, .iload 4, 2), (93, .iaload, 1), (94, .invokestatic 75, 3), (97, .iastore, 1), (98, .iload_n 2, 1), (99, .ireturn, 1)]
set_option maxRecDepth 100000 in
theorem eX9_takePath : am_dec cX9_takePath tX9_takePath := am_dec_of (by decide +kernel)
def tX10_init : List (Nat × Instr × Nat) := [(0, .aload_n 0, 1), (1, .invokespecial 3, 3), (4, .aload_n 0, 1), (5, .new 9, 3), (8, .dup, 1), (9, .invokespecial 11, 3), (12, .putfield 12, 3), (15, .return_, 1)]
set_option maxRecDepth 100000 in
theorem eX10_init : am_dec cX10_init tX10_init := am_dec_of (by decide +kernel)
def tX10_blowOnce : List (Nat × Instr × Nat) := [(0, .aload_n 0, 1), (1, .getfield 12, 3), (4, .aload_n 1, 1), (5, .getfield 18, 3), (8, .aload_n 1, 1), (9, .getfield 24, 3), (12, .getfield 28, 3), (15, .invokevirtual 34, 3), (18, .iconst 0, 1), (19, .istore_n 2, 1), (20, .iconst 1, 1), (21, .istore_n 3, 1), (22, .iload_n 3, 1), (23, .aload_n 1, 1), (24, .getfield 18, 3), (27, .getfield 38, 3), (30, .if_icmp .ge 68, 3), (33, .iconst 0, 1), (34, .istore 4, 2), (36, .iload 4, 2), (38, .aload_n 1, 1), (39, .getfield 18, 3), (42, .getfield 38, 3), (45, .if_icmp .ge 47, 3), (48, .aload_n 0, 1), (49, .getfield 12, 3), (52, .getfield 43, 3), (55, .iload 4, 2), (57, .iaload, 1), (58, .iload_n 3, 1), (59, .if_icmp .ne 27, 3), (62, .aload_n 0, 1), (63, .getfield 12, 3), (66, .getfield 47, 3), (69, .iload 4, 2), (71, .iaload, 1), (72, .iconst (-1), 1), (73, .if_icmp .eq 13, 3), (76, .iload_n 2, 1), (77, .aload_n 0, 1), (78, .aload_n 1, 1), (79, .iload 4, 2), (81, .invokevirtual 50, 3), (84, .iadd, 1), (85, .istore_n 2, 1), (86, .iinc 4 1, 3), (89, .goto (-53), 3), (92, .iinc 3 1, 3), (95, .goto (-73), 3), (98, .aload_n 1, 1), (99, .getfield 24, 3), (102, .getfield 54, 3), (105, .ifCond .eq 8, 3), (108, .aload_n 0, 1), (109, .aload_n 1, 1), (110, .invokevirtual 58, 3), (113, .aload_n 1, 1), (114, .getfield 24, 3), (117, .dup, 1), (118, .getfield 62, 3), (121, .iconst 1, 1), (122, .iadd, 1), (123, .putfield 62, 3), (126, .aload_n 0, 1), (127, .aload_n 1, 1), (128, .invokevirtual 65, 3), (131, .iload_n 2, 1), (132, .ireturn, 1)]
set_option maxRecDepth 100000 in
theorem eX10_blowOnce : am_dec cX10_blowOnce tX10_blowOnce := am_dec_of (by decide +kernel)
def tX10_sendDown : List (Nat × Instr × Nat) := [(0, .aload_n 1, 1), (1, .getfield 24, 3), (4, .getfield 68, 3), (7, .astore_n 3, 1), (8, .aload_n 3, 1), (9, .aload_n 0, 1), (10, .getfield 12, 3), (13, .getfield 47, 3), (16, .iload_n 2, 1), (17, .iaload, 1), (18, .iaload, 1), (19, .aload_n 3, 1), (20, .iload_n 2, 1), (21, .iaload, 1), (22, .iconst (-1), 1), (23, .ixor, 1), (24, .iand, 1), (25, .istore 4, 2), (27, .iconst 0, 1), (28, .istore 5, 2), (30, .iconst 0, 1), (31, .istore 6, 2), (33, .iload 6, 2), (35, .bipush 7, 2), (37, .if_icmp .ge 41, 3), (40, .iload 4, 2), (42, .iload 6, 2), (44, .invokestatic 71, 3), (47, .ifCond .eq 25, 3), (50, .aload_n 0, 1), (51, .aload_n 1, 1), (52, .iload_n 2, 1), (53, .invokevirtual 75, 3), (56, .ifCond .eq 16, 3), (59, .aload_n 3, 1), (60, .iload_n 2, 1), (61, .dup2, 1), (62, .iaload, 1), (63, .iconst 1, 1), (64, .iload 6, 2), (66, .ishl, 1), (67, .ior, 1), (68, .iastore, 1), (69, .iinc 5 1, 3), (72, .iinc 6 1, 3), (75, .goto (-42), 3), (78, .iload 5, 2), (80, .ireturn, 1)]
set_option maxRecDepth 100000 in
theorem eX10_sendDown : am_dec cX10_sendDown tX10_sendDown := am_dec_of (by decide +kernel)
def tX10_arrives : List (Nat × Instr × Nat) := [(0, .aload_n 0, 1), (1, .getfield 12, 3), (4, .getfield 79, 3), (7, .iload_n 2, 1), (8, .iaload, 1), (9, .istore_n 3, 1), (10, .aload_n 1, 1), (11, .getfield 82, 3), (14, .iload_n 3, 1), (15, .dup2, 1), (16, .iaload, 1), (17, .iconst 1, 1), (18, .iadd, 1), (19, .iastore, 1), (20, .aload_n 1, 1), (21, .dup, 1), (22, .getfield 85, 3), (25, .iconst 1, 1), (26, .iadd, 1), (27, .putfield 85, 3), (30, .aload_n 1, 1), (31, .dup, 1), (32, .getfield 88, 3), (35, .aload_n 1, 1), (36, .getfield 18, 3), (39, .getfield 91, 3), (42, .iload_n 3, 1), (43, .iaload, 1), (44, .iadd, 1), (45, .putfield 88, 3), (48, .aload_n 1, 1), (49, .getfield 24, 3), (52, .aload_n 1, 1), (53, .getfield 24, 3), (56, .getfield 94, 3), (59, .bipush 61, 2), (61, .imul, 1), (62, .bipush 17, 2), (64, .iadd, 1), (65, .sipush 512, 3), (68, .irem, 1), (69, .putfield 94, 3), (72, .aload_n 1, 1), (73, .getfield 24, 3), (76, .getfield 94, 3), (79, .bipush 10, 2), (81, .irem, 1), (82, .aload_n 1, 1), (83, .getfield 18, 3), (86, .iload_n 3, 1), (87, .iload_n 2, 1), (88, .invokevirtual 97, 3), (91, .if_icmp .ge 15, 3), (94, .aload_n 1, 1), (95, .dup, 1), (96, .getfield 101, 3), (99, .iconst 1, 1), (100, .iadd, 1), (101, .putfield 101, 3), (104, .iconst 0, 1), (105, .ireturn, 1), (106, .iconst 1, 1), (107, .ireturn, 1)]
set_option maxRecDepth 100000 in
theorem eX10_arrives : am_dec cX10_arrives tX10_arrives := am_dec_of (by decide +kernel)
def tX10_rebuildMissing : List (Nat × Instr × Nat) := [(0, .aload_n 1, 1), (1, .getfield 24, 3), (4, .invokevirtual 104, 3), (7, .istore_n 2, 1), (8, .iconst 0, 1), (9, .istore_n 3, 1), (10, .iload_n 3, 1), (11, .aload_n 1, 1), (12, .getfield 18, 3), (15, .getfield 38, 3), (18, .if_icmp .ge 66, 3), (21, .iload_n 2, 1), (22, .aload_n 1, 1), (23, .getfield 24, 3), (26, .getfield 68, 3), (29, .iload_n 3, 1), (30, .iaload, 1), (31, .iconst (-1), 1), (32, .ixor, 1), (33, .iand, 1), (34, .istore 4, 2), (36, .aload_n 0, 1), (37, .getfield 12, 3), (40, .getfield 43, 3), (43, .iload_n 3, 1), (44, .iaload, 1), (45, .iconst (-1), 1), (46, .if_icmp .eq 32, 3), (49, .iload 4, 2), (51, .invokestatic 108, 3), (54, .iconst 1, 1), (55, .if_icmp .ne 23, 3), (58, .aload_n 1, 1), (59, .getfield 24, 3), (62, .getfield 68, 3), (65, .iload_n 3, 1), (66, .iload_n 2, 1), (67, .iastore, 1), (68, .aload_n 1, 1), (69, .dup, 1), (70, .getfield 114, 3), (73, .iconst 1, 1), (74, .iadd, 1), (75, .putfield 114, 3), (78, .iinc 3 1, 3), (81, .goto (-71), 3), (84, .return_, 1)]
set_option maxRecDepth 100000 in
theorem eX10_rebuildMissing : am_dec cX10_rebuildMissing tX10_rebuildMissing := am_dec_of (by decide +kernel)
def tX10_endIfDue : List (Nat × Instr × Nat) := [(0, .aload_n 0, 1), (1, .aload_n 1, 1), (2, .invokevirtual 117, 3), (5, .ifCond .eq 24, 3), (8, .aload_n 1, 1), (9, .getfield 24, 3), (12, .iconst 0, 1), (13, .putfield 121, 3), (16, .aload_n 1, 1), (17, .dup, 1), (18, .getfield 124, 3), (21, .iconst 1, 1), (22, .iadd, 1), (23, .putfield 124, 3), (26, .goto 33, 3), (29, .aload_n 1, 1), (30, .getfield 24, 3), (33, .getfield 62, 3), (36, .bipush 30, 2), (38, .if_icmp .lt 21, 3), (41, .aload_n 1, 1), (42, .getfield 24, 3), (45, .iconst 0, 1), (46, .putfield 121, 3), (49, .aload_n 1, 1), (50, .dup, 1), (51, .getfield 127, 3), (54, .iconst 1, 1), (55, .iadd, 1), (56, .putfield 127, 3), (59, .return_, 1)]
set_option maxRecDepth 100000 in
theorem eX10_endIfDue : am_dec cX10_endIfDue tX10_endIfDue := am_dec_of (by decide +kernel)
def tX10_coversTree : List (Nat × Instr × Nat) := [(0, .iconst 0, 1), (1, .istore_n 2, 1), (2, .iload_n 2, 1), (3, .aload_n 1, 1), (4, .getfield 18, 3), (7, .getfield 38, 3), (10, .if_icmp .ge 35, 3), (13, .aload_n 0, 1), (14, .getfield 12, 3), (17, .getfield 43, 3), (20, .iload_n 2, 1), (21, .iaload, 1), (22, .iconst (-1), 1), (23, .if_icmp .eq 16, 3), (26, .aload_n 1, 1), (27, .getfield 24, 3), (30, .iload_n 2, 1), (31, .invokevirtual 130, 3), (34, .ifCond .ne 5, 3), (37, .iconst 0, 1), (38, .ireturn, 1), (39, .iinc 2 1, 3), (42, .goto (-40), 3), (45, .iconst 1, 1), (46, .ireturn, 1)]
set_option maxRecDepth 100000 in
theorem eX10_coversTree : am_dec cX10_coversTree tX10_coversTree := am_dec_of (by decide +kernel)
def tX11_init : List (Nat × Instr × Nat) := [(0, .aload_n 0, 1), (1, .invokespecial 1, 3), (4, .aload_n 0, 1), (5, .new 7, 3), (8, .dup, 1), (9, .invokespecial 9, 3), (12, .putfield 10, 3), (15, .aload_n 0, 1), (16, .new 7, 3), (19, .dup, 1), (20, .invokespecial 9, 3), (23, .putfield 16, 3), (26, .aload_n 0, 1), (27, .new 7, 3), (30, .dup, 1), (31, .invokespecial 9, 3), (34, .putfield 19, 3), (37, .aload_n 0, 1), (38, .new 22, 3), (41, .dup, 1), (42, .invokespecial 24, 3), (45, .putfield 25, 3), (48, .aload_n 0, 1), (49, .new 29, 3), (52, .dup, 1), (53, .invokespecial 31, 3), (56, .putfield 32, 3), (59, .aload_n 0, 1), (60, .new 36, 3), (63, .dup, 1), (64, .invokespecial 38, 3), (67, .putfield 39, 3), (70, .aload_n 0, 1), (71, .new 43, 3), (74, .dup, 1), (75, .invokespecial 45, 3), (78, .putfield 46, 3), (81, .aload_n 0, 1), (82, .new 50, 3), (85, .dup, 1), (86, .invokespecial 52, 3), (89, .putfield 53, 3), (92, .aload_n 0, 1), (93, .new 57, 3), (96, .dup, 1), (97, .invokespecial 59, 3), (100, .putfield 60, 3), (103, .aload_n 0, 1), (104, .bipush 12, 2), (106, .newarray .char, 2), (108, .putfield 64, 3), (111, .aload_n 0, 1), (112, .iconst 0, 1), (113, .putfield 68, 3), (116, .aload_n 0, 1), (117, .iconst 0, 1), (118, .putfield 72, 3), (121, .aload_n 0, 1), (122, .iconst (-1), 1), (123, .putfield 76, 3), (126, .aload_n 0, 1), (127, .iconst 0, 1), (128, .putfield 79, 3), (131, .aload_n 0, 1), (132, .iconst (-1), 1), (133, .putfield 82, 3), (136, .aload_n 0, 1), (137, .iconst (-1), 1), (138, .putfield 85, 3), (141, .return_, 1)]
set_option maxRecDepth 100000 in
theorem eX11_init : am_dec cX11_init tX11_init := am_dec_of (by decide +kernel)
def tX11_addField : List (Nat × Instr × Nat) := [(0, .aload_n 0, 1), (1, .getfield 25, 3), (4, .aload_n 0, 1), (5, .getfield 10, 3), (8, .invokevirtual 88, 3), (11, .aload_n 0, 1), (12, .aload_n 0, 1), (13, .getfield 53, 3), (16, .aload_n 0, 1), (17, .getfield 10, 3), (20, .iload_n 1, 1), (21, .invokevirtual 92, 3), (24, .invokevirtual 96, 3), (27, .ireturn, 1)]
set_option maxRecDepth 100000 in
theorem eX11_addField : am_dec cX11_addField tX11_addField := am_dec_of (by decide +kernel)
def tX11_setShield : List (Nat × Instr × Nat) := [(0, .aload_n 0, 1), (1, .getfield 25, 3), (4, .aload_n 0, 1), (5, .getfield 10, 3), (8, .invokevirtual 88, 3), (11, .aload_n 0, 1), (12, .aload_n 0, 1), (13, .getfield 53, 3), (16, .aload_n 0, 1), (17, .getfield 10, 3), (20, .iload_n 1, 1), (21, .iload_n 2, 1), (22, .invokevirtual 100, 3), (25, .invokevirtual 96, 3), (28, .ireturn, 1)]
set_option maxRecDepth 100000 in
theorem eX11_setShield : am_dec cX11_setShield tX11_setShield := am_dec_of (by decide +kernel)
def tX11_addPath : List (Nat × Instr × Nat) := [(0, .aload_n 0, 1), (1, .getfield 25, 3), (4, .aload_n 0, 1), (5, .getfield 10, 3), (8, .invokevirtual 88, 3), (11, .aload_n 0, 1), (12, .aload_n 0, 1), (13, .getfield 53, 3), (16, .aload_n 0, 1), (17, .getfield 10, 3), (20, .iload_n 1, 1), (21, .iload_n 2, 1), (22, .iload_n 3, 1), (23, .iload 4, 2), (25, .invokevirtual 104, 3), (28, .invokevirtual 96, 3), (31, .ireturn, 1)]
set_option maxRecDepth 100000 in
theorem eX11_addPath : am_dec cX11_addPath tX11_addPath := am_dec_of (by decide +kernel)
def tX11_setGust : List (Nat × Instr × Nat) := [(0, .aload_n 0, 1), (1, .getfield 25, 3), (4, .aload_n 0, 1), (5, .getfield 10, 3), (8, .invokevirtual 88, 3), (11, .aload_n 0, 1), (12, .aload_n 0, 1), (13, .getfield 53, 3), (16, .aload_n 0, 1), (17, .getfield 10, 3), (20, .iload_n 1, 1), (21, .iload_n 2, 1), (22, .invokevirtual 108, 3), (25, .invokevirtual 96, 3), (28, .ireturn, 1)]
set_option maxRecDepth 100000 in
theorem eX11_setGust : am_dec cX11_setGust tX11_setGust := am_dec_of (by decide +kernel)
def tX11_setBlocked : List (Nat × Instr × Nat) := [(0, .aload_n 0, 1), (1, .getfield 25, 3), (4, .aload_n 0, 1), (5, .getfield 10, 3), (8, .invokevirtual 88, 3), (11, .aload_n 0, 1), (12, .aload_n 0, 1), (13, .getfield 53, 3), (16, .aload_n 0, 1), (17, .getfield 10, 3), (20, .iload_n 1, 1), (21, .iload_n 2, 1), (22, .invokevirtual 111, 3), (25, .invokevirtual 96, 3), (28, .ireturn, 1)]
set_option maxRecDepth 100000 in
theorem eX11_setBlocked : am_dec cX11_setBlocked tX11_setBlocked := am_dec_of (by decide +kernel)
def tX11_fieldCount : List (Nat × Instr × Nat) := [(0, .aload_n 0, 1), (1, .getfield 10, 3), (4, .getfield 115, 3), (7, .getfield 119, 3), (10, .ireturn, 1)]
set_option maxRecDepth 100000 in
theorem eX11_fieldCount : am_dec cX11_fieldCount tX11_fieldCount := am_dec_of (by decide +kernel)
def tX11_pathCount : List (Nat × Instr × Nat) := [(0, .aload_n 0, 1), (1, .getfield 10, 3), (4, .getfield 115, 3), (7, .getfield 124, 3), (10, .ireturn, 1)]
set_option maxRecDepth 100000 in
theorem eX11_pathCount : am_dec cX11_pathCount tX11_pathCount := am_dec_of (by decide +kernel)
def tX11_shieldOf : List (Nat × Instr × Nat) := [(0, .aload_n 0, 1), (1, .iload_n 1, 1), (2, .invokevirtual 127, 3), (5, .aload_n 0, 1), (6, .getfield 10, 3), (9, .getfield 115, 3), (12, .getfield 131, 3), (15, .iload_n 1, 1), (16, .iaload, 1), (17, .ireturn, 1)]
set_option maxRecDepth 100000 in
theorem eX11_shieldOf : am_dec cX11_shieldOf tX11_shieldOf := am_dec_of (by decide +kernel)
def tX11_firstOf : List (Nat × Instr × Nat) := [(0, .aload_n 0, 1), (1, .iload_n 1, 1), (2, .invokevirtual 135, 3), (5, .aload_n 0, 1), (6, .getfield 10, 3), (9, .getfield 115, 3), (12, .getfield 138, 3), (15, .iload_n 1, 1), (16, .iaload, 1), (17, .ireturn, 1)]
set_option maxRecDepth 100000 in
theorem eX11_firstOf : am_dec cX11_firstOf tX11_firstOf := am_dec_of (by decide +kernel)
def tX11_secondOf : List (Nat × Instr × Nat) := [(0, .aload_n 0, 1), (1, .iload_n 1, 1), (2, .invokevirtual 135, 3), (5, .aload_n 0, 1), (6, .getfield 10, 3), (9, .getfield 115, 3), (12, .getfield 141, 3), (15, .iload_n 1, 1), (16, .iaload, 1), (17, .ireturn, 1)]
set_option maxRecDepth 100000 in
theorem eX11_secondOf : am_dec cX11_secondOf tX11_secondOf := am_dec_of (by decide +kernel)
def tX11_costOf : List (Nat × Instr × Nat) := [(0, .aload_n 0, 1), (1, .iload_n 1, 1), (2, .invokevirtual 135, 3), (5, .aload_n 0, 1), (6, .getfield 10, 3), (9, .getfield 115, 3), (12, .getfield 144, 3), (15, .iload_n 1, 1), (16, .iaload, 1), (17, .ireturn, 1)]
set_option maxRecDepth 100000 in
theorem eX11_costOf : am_dec cX11_costOf tX11_costOf := am_dec_of (by decide +kernel)
def tX11_gustOf : List (Nat × Instr × Nat) := [(0, .aload_n 0, 1), (1, .iload_n 1, 1), (2, .invokevirtual 135, 3), (5, .aload_n 0, 1), (6, .getfield 10, 3), (9, .getfield 115, 3), (12, .getfield 147, 3), (15, .iload_n 1, 1), (16, .iaload, 1), (17, .ireturn, 1)]
set_option maxRecDepth 100000 in
theorem eX11_gustOf : am_dec cX11_gustOf tX11_gustOf := am_dec_of (by decide +kernel)
def tX11_isBlocked : List (Nat × Instr × Nat) := [(0, .aload_n 0, 1), (1, .iload_n 1, 1), (2, .invokevirtual 135, 3), (5, .aload_n 0, 1), (6, .getfield 10, 3), (9, .getfield 115, 3), (12, .iload_n 1, 1), (13, .invokevirtual 150, 3), (16, .ifCond .ne 7, 3), (19, .iconst 1, 1), (20, .goto 4, 3), (23, .iconst 0, 1), (24, .ireturn, 1)]
set_option maxRecDepth 100000 in
theorem eX11_isBlocked : am_dec cX11_isBlocked tX11_isBlocked := am_dec_of (by decide +kernel)
def tX11_groupCount : List (Nat × Instr × Nat) := [(0, .aload_n 0, 1), (1, .getfield 32, 3), (4, .aload_n 0, 1), (5, .getfield 10, 3), (8, .getfield 115, 3), (11, .iconst (-1), 1), (12, .invokevirtual 154, 3), (15, .ireturn, 1)]
set_option maxRecDepth 100000 in
theorem eX11_groupCount : am_dec cX11_groupCount tX11_groupCount := am_dec_of (by decide +kernel)
def tX11_isConnected : List (Nat × Instr × Nat) := [(0, .aload_n 0, 1), (1, .iload_n 1, 1), (2, .invokevirtual 127, 3), (5, .aload_n 0, 1), (6, .iload_n 2, 1), (7, .invokevirtual 127, 3), (10, .aload_n 0, 1), (11, .getfield 32, 3), (14, .aload_n 0, 1), (15, .getfield 10, 3), (18, .getfield 115, 3), (21, .iload_n 1, 1), (22, .iconst (-1), 1), (23, .invokevirtual 158, 3), (26, .iload_n 2, 1), (27, .invokestatic 162, 3), (30, .ireturn, 1)]
set_option maxRecDepth 100000 in
theorem eX11_isConnected : am_dec cX11_isConnected tX11_isConnected := am_dec_of (by decide +kernel)
def tX11_wayCost : List (Nat × Instr × Nat) := [(0, .aload_n 0, 1), (1, .iload_n 1, 1), (2, .invokevirtual 127, 3), (5, .aload_n 0, 1), (6, .iload_n 2, 1), (7, .invokevirtual 127, 3), (10, .aload_n 0, 1), (11, .getfield 32, 3), (14, .aload_n 0, 1), (15, .getfield 10, 3), (18, .getfield 115, 3), (21, .iload_n 1, 1), (22, .iload_n 2, 1), (23, .invokevirtual 166, 3), (26, .invokestatic 169, 3), (29, .ireturn, 1)]
set_option maxRecDepth 100000 in
theorem eX11_wayCost : am_dec cX11_wayCost tX11_wayCost := am_dec_of (by decide +kernel)
def tX11_wayCostByRounds : List (Nat × Instr × Nat) := [(0, .aload_n 0, 1), (1, .iload_n 1, 1), (2, .invokevirtual 127, 3), (5, .aload_n 0, 1), (6, .iload_n 2, 1), (7, .invokevirtual 127, 3), (10, .aload_n 0, 1), (11, .getfield 32, 3), (14, .aload_n 0, 1), (15, .getfield 10, 3), (18, .getfield 115, 3), (21, .iload_n 1, 1), (22, .iload_n 2, 1), (23, .invokevirtual 172, 3), (26, .invokestatic 169, 3), (29, .ireturn, 1)]
set_option maxRecDepth 100000 in
theorem eX11_wayCostByRounds : am_dec cX11_wayCostByRounds tX11_wayCostByRounds := am_dec_of (by decide +kernel)
def tX11_disjointWays : List (Nat × Instr × Nat) := [(0, .aload_n 0, 1), (1, .iload_n 1, 1), (2, .iload_n 2, 1), (3, .invokevirtual 175, 3), (6, .aload_n 0, 1), (7, .getfield 32, 3), (10, .aload_n 0, 1), (11, .getfield 10, 3), (14, .getfield 115, 3), (17, .iload_n 1, 1), (18, .iload_n 2, 1), (19, .invokevirtual 179, 3), (22, .ireturn, 1)]
set_option maxRecDepth 100000 in
theorem eX11_disjointWays : am_dec cX11_disjointWays tX11_disjointWays := am_dec_of (by decide +kernel)
def tX11_smallestCut : List (Nat × Instr × Nat) := [(0, .aload_n 0, 1), (1, .iload_n 1, 1), (2, .iload_n 2, 1), (3, .invokevirtual 175, 3), (6, .aload_n 0, 1), (7, .getfield 32, 3), (10, .aload_n 0, 1), (11, .getfield 10, 3), (14, .getfield 115, 3), (17, .iload_n 1, 1), (18, .iload_n 2, 1), (19, .invokevirtual 182, 3), (22, .ireturn, 1)]
set_option maxRecDepth 100000 in
theorem eX11_smallestCut : am_dec cX11_smallestCut tX11_smallestCut := am_dec_of (by decide +kernel)
def tX11_isBridge : List (Nat × Instr × Nat) := [(0, .aload_n 0, 1), (1, .iload_n 1, 1), (2, .invokevirtual 135, 3), (5, .aload_n 0, 1), (6, .getfield 32, 3), (9, .aload_n 0, 1), (10, .getfield 10, 3), (13, .getfield 115, 3), (16, .iload_n 1, 1), (17, .invokevirtual 185, 3), (20, .ireturn, 1)]
set_option maxRecDepth 100000 in
theorem eX11_isBridge : am_dec cX11_isBridge tX11_isBridge := am_dec_of (by decide +kernel)
def tX11_bridgeCount : List (Nat × Instr × Nat) := [(0, .aload_n 0, 1), (1, .getfield 32, 3), (4, .aload_n 0, 1), (5, .getfield 10, 3), (8, .getfield 115, 3), (11, .invokevirtual 189, 3), (14, .ireturn, 1)]
set_option maxRecDepth 100000 in
theorem eX11_bridgeCount : am_dec cX11_bridgeCount tX11_bridgeCount := am_dec_of (by decide +kernel)
def tX11_bridgeCountByBlocking : List (Nat × Instr × Nat) := [(0, .aload_n 0, 1), (1, .getfield 32, 3), (4, .aload_n 0, 1), (5, .getfield 10, 3), (8, .getfield 115, 3), (11, .invokevirtual 193, 3), (14, .ireturn, 1)]
set_option maxRecDepth 100000 in
theorem eX11_bridgeCountByBlocking : am_dec cX11_bridgeCountByBlocking tX11_bridgeCountByBlocking := am_dec_of (by decide +kernel)
def tX11_treeCost : List (Nat × Instr × Nat) := [(0, .aload_n 0, 1), (1, .iload_n 1, 1), (2, .invokevirtual 127, 3), (5, .aload_n 0, 1), (6, .getfield 39, 3), (9, .aload_n 0, 1), (10, .getfield 10, 3), (13, .getfield 115, 3), (16, .iload_n 1, 1), (17, .invokevirtual 196, 3), (20, .ireturn, 1)]
set_option maxRecDepth 100000 in
theorem eX11_treeCost : am_dec cX11_treeCost tX11_treeCost := am_dec_of (by decide +kernel)
def tX11_treeCostByGrowing : List (Nat × Instr × Nat) := [(0, .aload_n 0, 1), (1, .iload_n 1, 1), (2, .invokevirtual 127, 3), (5, .aload_n 0, 1), (6, .getfield 39, 3), (9, .aload_n 0, 1), (10, .getfield 10, 3), (13, .getfield 115, 3), (16, .iload_n 1, 1), (17, .invokevirtual 199, 3), (20, .ireturn, 1)]
set_option maxRecDepth 100000 in
theorem eX11_treeCostByGrowing : am_dec cX11_treeCostByGrowing tX11_treeCostByGrowing := am_dec_of (by decide +kernel)
def tX11_isInTree : List (Nat × Instr × Nat) := [(0, .aload_n 0, 1), (1, .iload_n 1, 1), (2, .invokevirtual 127, 3), (5, .aload_n 0, 1), (6, .iload_n 2, 1), (7, .invokevirtual 135, 3), (10, .aload_n 0, 1), (11, .getfield 39, 3), (14, .aload_n 0, 1), (15, .getfield 10, 3), (18, .getfield 115, 3), (21, .iload_n 1, 1), (22, .invokevirtual 202, 3), (25, .iload_n 2, 1), (26, .invokestatic 162, 3), (29, .ireturn, 1)]
set_option maxRecDepth 100000 in
theorem eX11_isInTree : am_dec cX11_isInTree tX11_isInTree := am_dec_of (by decide +kernel)
def tX11_parentIn : List (Nat × Instr × Nat) := [(0, .aload_n 0, 1), (1, .iload_n 1, 1), (2, .invokevirtual 127, 3), (5, .aload_n 0, 1), (6, .iload_n 2, 1), (7, .invokevirtual 127, 3), (10, .aload_n 0, 1), (11, .getfield 39, 3), (14, .aload_n 0, 1), (15, .getfield 10, 3), (18, .getfield 115, 3), (21, .iload_n 1, 1), (22, .invokevirtual 205, 3), (25, .aload_n 0, 1), (26, .getfield 39, 3), (29, .getfield 209, 3), (32, .iload_n 2, 1), (33, .iaload, 1), (34, .iconst (-1), 1), (35, .if_icmp .ne 13, 3), (38, .new 212, 3), (41, .dup, 1), (42, .ldc 214, 2), (44, .invokespecial 216, 3), (47, .athrow, 1), (48, .aload_n 0, 1), (49, .getfield 39, 3), (52, .getfield 209, 3), (55, .iload_n 2, 1), (56, .iaload, 1), (57, .ireturn, 1)]
set_option maxRecDepth 100000 in
theorem eX11_parentIn : am_dec cX11_parentIn tX11_parentIn := am_dec_of (by decide +kernel)
def tX11_reachChance : List (Nat × Instr × Nat) := [(0, .aload_n 0, 1), (1, .iload_n 1, 1), (2, .invokevirtual 127, 3), (5, .aload_n 0, 1), (6, .iload_n 2, 1), (7, .invokevirtual 127, 3), (10, .aload_n 0, 1), (11, .getfield 39, 3), (14, .aload_n 0, 1), (15, .getfield 10, 3), (18, .getfield 115, 3), (21, .iload_n 1, 1), (22, .invokevirtual 205, 3), (25, .aload_n 0, 1), (26, .getfield 39, 3), (29, .getfield 219, 3), (32, .iload_n 2, 1), (33, .iaload, 1), (34, .iconst (-1), 1), (35, .if_icmp .ne 13, 3), (38, .new 212, 3), (41, .dup, 1), (42, .ldc 222, 2), (44, .invokespecial 216, 3), (47, .athrow, 1), (48, .aload_n 0, 1), (49, .getfield 39, 3), (52, .getfield 224, 3), (55, .iload_n 2, 1), (56, .faload, 1), (57, .freturn, 1)]
set_option maxRecDepth 100000 in
theorem eX11_reachChance : am_dec cX11_reachChance tX11_reachChance := am_dec_of (by decide +kernel)
def tX11_setSeed : List (Nat × Instr × Nat) := [(0, .aload_n 0, 1), (1, .getfield 25, 3), (4, .aload_n 0, 1), (5, .getfield 10, 3), (8, .invokevirtual 88, 3), (11, .aload_n 0, 1), (12, .aload_n 0, 1), (13, .getfield 53, 3), (16, .aload_n 0, 1), (17, .getfield 10, 3), (20, .iload_n 1, 1), (21, .invokevirtual 228, 3), (24, .invokevirtual 96, 3), (27, .ireturn, 1)]
set_option maxRecDepth 100000 in
theorem eX11_setSeed : am_dec cX11_setSeed tX11_setSeed := am_dec_of (by decide +kernel)
def tX11_startBroadcast : List (Nat × Instr × Nat) := [(0, .aload_n 0, 1), (1, .getfield 25, 3), (4, .aload_n 0, 1), (5, .getfield 10, 3), (8, .invokevirtual 88, 3), (11, .aload_n 0, 1), (12, .aload_n 0, 1), (13, .getfield 53, 3), (16, .aload_n 0, 1), (17, .getfield 10, 3), (20, .iload_n 1, 1), (21, .iload_n 2, 1), (22, .iload_n 3, 1), (23, .invokevirtual 231, 3), (26, .invokevirtual 96, 3), (29, .ireturn, 1)]
set_option maxRecDepth 100000 in
theorem eX11_startBroadcast : am_dec cX11_startBroadcast tX11_startBroadcast := am_dec_of (by decide +kernel)
def tX11_wind : List (Nat × Instr × Nat) := [(0, .aload_n 0, 1), (1, .getfield 25, 3), (4, .aload_n 0, 1), (5, .getfield 10, 3), (8, .invokevirtual 88, 3), (11, .aload_n 0, 1), (12, .aload_n 0, 1), (13, .getfield 53, 3), (16, .aload_n 0, 1), (17, .getfield 10, 3), (20, .aload_n 0, 1), (21, .getfield 46, 3), (24, .invokevirtual 235, 3), (27, .invokevirtual 96, 3), (30, .ireturn, 1)]
set_option maxRecDepth 100000 in
theorem eX11_wind : am_dec cX11_wind tX11_wind := am_dec_of (by decide +kernel)
def tX11_windUntilEnd : List (Nat × Instr × Nat) := [(0, .aload_n 0, 1), (1, .getfield 25, 3), (4, .aload_n 0, 1), (5, .getfield 10, 3), (8, .invokevirtual 88, 3), (11, .aload_n 0, 1), (12, .aload_n 0, 1), (13, .getfield 53, 3), (16, .aload_n 0, 1), (17, .getfield 10, 3), (20, .aload_n 0, 1), (21, .getfield 46, 3), (24, .invokevirtual 239, 3), (27, .invokevirtual 96, 3), (30, .ireturn, 1)]
set_option maxRecDepth 100000 in
theorem eX11_windUntilEnd : am_dec cX11_windUntilEnd tX11_windUntilEnd := am_dec_of (by decide +kernel)
def tX11_abort : List (Nat × Instr × Nat) := [(0, .aload_n 0, 1), (1, .getfield 25, 3), (4, .aload_n 0, 1), (5, .getfield 10, 3), (8, .invokevirtual 88, 3), (11, .aload_n 0, 1), (12, .aload_n 0, 1), (13, .getfield 53, 3), (16, .aload_n 0, 1), (17, .getfield 10, 3), (20, .invokevirtual 242, 3), (23, .invokevirtual 96, 3), (26, .ireturn, 1)]
set_option maxRecDepth 100000 in
theorem eX11_abort : am_dec cX11_abort tX11_abort := am_dec_of (by decide +kernel)
def tX11_isBroadcasting : List (Nat × Instr × Nat) := [(0, .aload_n 0, 1), (1, .getfield 10, 3), (4, .getfield 246, 3), (7, .getfield 250, 3), (10, .ireturn, 1)]
set_option maxRecDepth 100000 in
theorem eX11_isBroadcasting : am_dec cX11_isBroadcasting tX11_isBroadcasting := am_dec_of (by decide +kernel)
def tX11_source : List (Nat × Instr × Nat) := [(0, .aload_n 0, 1), (1, .invokevirtual 255, 3), (4, .aload_n 0, 1), (5, .getfield 10, 3), (8, .getfield 246, 3), (11, .getfield 258, 3), (14, .ireturn, 1)]
set_option maxRecDepth 100000 in
theorem eX11_source : am_dec cX11_source tX11_source := am_dec_of (by decide +kernel)
def tX11_hasPacket : List (Nat × Instr × Nat) := [(0, .aload_n 0, 1), (1, .iload_n 1, 1), (2, .invokevirtual 127, 3), (5, .aload_n 0, 1), (6, .invokevirtual 255, 3), (9, .iload_n 2, 1), (10, .ifCond .lt 17, 3), (13, .iload_n 2, 1), (14, .aload_n 0, 1), (15, .getfield 10, 3), (18, .getfield 246, 3), (21, .invokevirtual 261, 3), (24, .if_icmp .lt 14, 3), (27, .new 212, 3), (30, .dup, 1), (31, .ldc_w 265, 3), (34, .invokespecial 216, 3), (37, .athrow, 1), (38, .aload_n 0, 1), (39, .getfield 10, 3), (42, .getfield 246, 3), (45, .getfield 267, 3), (48, .iload_n 1, 1), (49, .iaload, 1), (50, .iload_n 2, 1), (51, .invokestatic 162, 3), (54, .ireturn, 1)]
set_option maxRecDepth 100000 in
theorem eX11_hasPacket : am_dec cX11_hasPacket tX11_hasPacket := am_dec_of (by decide +kernel)
def tX11_packetsOf : List (Nat × Instr × Nat) := [(0, .aload_n 0, 1), (1, .iload_n 1, 1), (2, .invokevirtual 127, 3), (5, .aload_n 0, 1), (6, .getfield 10, 3), (9, .getfield 246, 3), (12, .getfield 267, 3), (15, .iload_n 1, 1), (16, .iaload, 1), (17, .invokestatic 270, 3), (20, .ireturn, 1)]
set_option maxRecDepth 100000 in
theorem eX11_packetsOf : am_dec cX11_packetsOf tX11_packetsOf := am_dec_of (by decide +kernel)
def tX11_isCovered : List (Nat × Instr × Nat) := [(0, .aload_n 0, 1), (1, .iload_n 1, 1), (2, .invokevirtual 127, 3), (5, .aload_n 0, 1), (6, .invokevirtual 255, 3), (9, .aload_n 0, 1), (10, .getfield 10, 3), (13, .getfield 246, 3), (16, .iload_n 1, 1), (17, .invokevirtual 275, 3), (20, .ireturn, 1)]
set_option maxRecDepth 100000 in
theorem eX11_isCovered : am_dec cX11_isCovered tX11_isCovered := am_dec_of (by decide +kernel)
def tX11_coveredCount : List (Nat × Instr × Nat) := [(0, .iconst 0, 1), (1, .istore_n 1, 1), (2, .iconst 0, 1), (3, .istore_n 2, 1), (4, .iload_n 2, 1), (5, .aload_n 0, 1), (6, .getfield 10, 3), (9, .getfield 115, 3), (12, .getfield 119, 3), (15, .if_icmp .ge 26, 3), (18, .aload_n 0, 1), (19, .getfield 10, 3), (22, .getfield 246, 3), (25, .iload_n 2, 1), (26, .invokevirtual 275, 3), (29, .ifCond .eq 6, 3), (32, .iinc 1 1, 3), (35, .iinc 2 1, 3), (38, .goto (-34), 3), (41, .iload_n 1, 1), (42, .ireturn, 1)]
set_option maxRecDepth 100000 in
theorem eX11_coveredCount : am_dec cX11_coveredCount tX11_coveredCount := am_dec_of (by decide +kernel)
def tX11_windsLeft : List (Nat × Instr × Nat) := [(0, .aload_n 0, 1), (1, .invokevirtual 278, 3), (4, .aload_n 0, 1), (5, .getfield 16, 3), (8, .aload_n 0, 1), (9, .getfield 10, 3), (12, .invokevirtual 281, 3), (15, .aload_n 0, 1), (16, .getfield 53, 3), (19, .aload_n 0, 1), (20, .getfield 16, 3), (23, .aload_n 0, 1), (24, .getfield 46, 3), (27, .invokevirtual 239, 3), (30, .ireturn, 1)]
set_option maxRecDepth 100000 in
theorem eX11_windsLeft : am_dec cX11_windsLeft tX11_windsLeft := am_dec_of (by decide +kernel)
def tX11_energyLeft : List (Nat × Instr × Nat) := [(0, .aload_n 0, 1), (1, .invokevirtual 278, 3), (4, .aload_n 0, 1), (5, .getfield 16, 3), (8, .aload_n 0, 1), (9, .getfield 10, 3), (12, .invokevirtual 281, 3), (15, .aload_n 0, 1), (16, .getfield 53, 3), (19, .aload_n 0, 1), (20, .getfield 16, 3), (23, .aload_n 0, 1), (24, .getfield 46, 3), (27, .invokevirtual 239, 3), (30, .pop, 1), (31, .aload_n 0, 1), (32, .getfield 16, 3), (35, .getfield 284, 3), (38, .aload_n 0, 1), (39, .getfield 10, 3), (42, .getfield 284, 3), (45, .isub, 1), (46, .ireturn, 1)]
set_option maxRecDepth 100000 in
theorem eX11_energyLeft : am_dec cX11_energyLeft tX11_energyLeft := am_dec_of (by decide +kernel)
def tX11_sentCount : List (Nat × Instr × Nat) := [(0, .aload_n 0, 1), (1, .getfield 10, 3), (4, .getfield 287, 3), (7, .ireturn, 1)]
set_option maxRecDepth 100000 in
theorem eX11_sentCount : am_dec cX11_sentCount tX11_sentCount := am_dec_of (by decide +kernel)
def tX11_lostCount : List (Nat × Instr × Nat) := [(0, .aload_n 0, 1), (1, .getfield 10, 3), (4, .getfield 290, 3), (7, .ireturn, 1)]
set_option maxRecDepth 100000 in
theorem eX11_lostCount : am_dec cX11_lostCount tX11_lostCount := am_dec_of (by decide +kernel)
def tX11_rebuiltCount : List (Nat × Instr × Nat) := [(0, .aload_n 0, 1), (1, .getfield 10, 3), (4, .getfield 293, 3), (7, .ireturn, 1)]
set_option maxRecDepth 100000 in
theorem eX11_rebuiltCount : am_dec cX11_rebuiltCount tX11_rebuiltCount := am_dec_of (by decide +kernel)
def tX11_energy : List (Nat × Instr × Nat) := [(0, .aload_n 0, 1), (1, .getfield 10, 3), (4, .getfield 284, 3), (7, .ireturn, 1)]
set_option maxRecDepth 100000 in
theorem eX11_energy : am_dec cX11_energy tX11_energy := am_dec_of (by decide +kernel)
def tX11_finishedCount : List (Nat × Instr × Nat) := [(0, .aload_n 0, 1), (1, .getfield 10, 3), (4, .getfield 296, 3), (7, .ireturn, 1)]
set_option maxRecDepth 100000 in
theorem eX11_finishedCount : am_dec cX11_finishedCount tX11_finishedCount := am_dec_of (by decide +kernel)
def tX11_failedCount : List (Nat × Instr × Nat) := [(0, .aload_n 0, 1), (1, .getfield 10, 3), (4, .getfield 299, 3), (7, .ireturn, 1)]
set_option maxRecDepth 100000 in
theorem eX11_failedCount : am_dec cX11_failedCount tX11_failedCount := am_dec_of (by decide +kernel)
def tX11_useOf : List (Nat × Instr × Nat) := [(0, .aload_n 0, 1), (1, .iload_n 1, 1), (2, .invokevirtual 135, 3), (5, .aload_n 0, 1), (6, .getfield 10, 3), (9, .getfield 302, 3), (12, .iload_n 1, 1), (13, .iaload, 1), (14, .ireturn, 1)]
set_option maxRecDepth 100000 in
theorem eX11_useOf : am_dec cX11_useOf tX11_useOf := am_dec_of (by decide +kernel)
def tX11_fieldByPackets : List (Nat × Instr × Nat) := [(0, .iconst 0, 1), (1, .istore_n 2, 1), (2, .iload_n 2, 1), (3, .aload_n 0, 1), (4, .getfield 10, 3), (7, .getfield 115, 3), (10, .getfield 119, 3), (13, .if_icmp .ge 23, 3), (16, .aload_n 0, 1), (17, .getfield 10, 3), (20, .iload_n 2, 1), (21, .invokevirtual 305, 3), (24, .iload_n 1, 1), (25, .if_icmp .ne 5, 3), (28, .iload_n 2, 1), (29, .ireturn, 1), (30, .iinc 2 1, 3), (33, .goto (-31), 3), (36, .new 212, 3), (39, .dup, 1), (40, .ldc_w 308, 3), (43, .invokespecial 216, 3), (46, .athrow, 1)]
set_option maxRecDepth 100000 in
theorem eX11_fieldByPackets : am_dec cX11_fieldByPackets tX11_fieldByPackets := am_dec_of (by decide +kernel)
def tX11_pathByUse : List (Nat × Instr × Nat) := [(0, .iconst 0, 1), (1, .istore_n 2, 1), (2, .iload_n 2, 1), (3, .aload_n 0, 1), (4, .getfield 10, 3), (7, .getfield 115, 3), (10, .getfield 124, 3), (13, .if_icmp .ge 23, 3), (16, .aload_n 0, 1), (17, .getfield 10, 3), (20, .iload_n 2, 1), (21, .invokevirtual 310, 3), (24, .iload_n 1, 1), (25, .if_icmp .ne 5, 3), (28, .iload_n 2, 1), (29, .ireturn, 1), (30, .iinc 2 1, 3), (33, .goto (-31), 3), (36, .new 212, 3), (39, .dup, 1), (40, .ldc_w 308, 3), (43, .invokespecial 216, 3), (46, .athrow, 1)]
set_option maxRecDepth 100000 in
theorem eX11_pathByUse : am_dec cX11_pathByUse tX11_pathByUse := am_dec_of (by decide +kernel)
def tX11_meanEnergy : List (Nat × Instr × Nat) := [(0, .aload_n 0, 1), (1, .invokevirtual 313, 3), (4, .aload_n 0, 1), (5, .getfield 10, 3), (8, .getfield 284, 3), (11, .i2d, 1), (12, .aload_n 0, 1), (13, .getfield 10, 3), (16, .getfield 287, 3), (19, .i2d, 1), (20, .ddiv, 1), (21, .dreturn, 1)]
set_option maxRecDepth 100000 in
theorem eX11_meanEnergy : am_dec cX11_meanEnergy tX11_meanEnergy := am_dec_of (by decide +kernel)
def tX11_lossShare : List (Nat × Instr × Nat) := [(0, .aload_n 0, 1), (1, .invokevirtual 313, 3), (4, .aload_n 0, 1), (5, .getfield 10, 3), (8, .getfield 290, 3), (11, .i2f, 1), (12, .aload_n 0, 1), (13, .getfield 10, 3), (16, .getfield 287, 3), (19, .i2f, 1), (20, .fdiv, 1), (21, .freturn, 1)]
set_option maxRecDepth 100000 in
theorem eX11_lossShare : am_dec cX11_lossShare tX11_lossShare := am_dec_of (by decide +kernel)
def tX11_lossBits : List (Nat × Instr × Nat) := [(0, .aload_n 0, 1), (1, .invokevirtual 313, 3), (4, .aload_n 0, 1), (5, .getfield 10, 3), (8, .getfield 290, 3), (11, .i2f, 1), (12, .aload_n 0, 1), (13, .getfield 10, 3), (16, .getfield 287, 3), (19, .i2f, 1), (20, .fdiv, 1), (21, .invokestatic 316, 3), (24, .ireturn, 1)]
set_option maxRecDepth 100000 in
theorem eX11_lossBits : am_dec cX11_lossBits tX11_lossBits := am_dec_of (by decide +kernel)
def tX11_isConsistent : List (Nat × Instr × Nat) := [(0, .aload_n 0, 1), (1, .invokevirtual 320, 3), (4, .ifCond .eq 55, 3), (7, .aload_n 0, 1), (8, .invokevirtual 324, 3), (11, .ifCond .eq 48, 3), (14, .aload_n 0, 1), (15, .getfield 32, 3), (18, .aload_n 0, 1), (19, .getfield 10, 3), (22, .getfield 115, 3), (25, .invokevirtual 189, 3), (28, .aload_n 0, 1), (29, .getfield 32, 3), (32, .aload_n 0, 1), (33, .getfield 10, 3), (36, .getfield 115, 3), (39, .invokevirtual 193, 3), (42, .if_icmp .ne 17, 3), (45, .aload_n 0, 1), (46, .getfield 10, 3), (49, .invokevirtual 327, 3), (52, .ifCond .eq 7, 3), (55, .iconst 1, 1), (56, .goto 4, 3), (59, .iconst 0, 1), (60, .ireturn, 1)]
set_option maxRecDepth 100000 in
theorem eX11_isConsistent : am_dec cX11_isConsistent tX11_isConsistent := am_dec_of (by decide +kernel)
def tX11_writeField : List (Nat × Instr × Nat) := [(0, .aload_n 0, 1), (1, .iload_n 1, 1), (2, .invokevirtual 127, 3), (5, .aload_n 0, 1), (6, .iconst 0, 1), (7, .putfield 68, 3), (10, .aload_n 0, 1), (11, .bipush 48, 2), (13, .iload_n 1, 1), (14, .iadd, 1), (15, .i2c, 1), (16, .invokevirtual 330, 3), (19, .aload_n 0, 1), (20, .bipush 115, 2), (22, .invokevirtual 330, 3), (25, .aload_n 0, 1), (26, .bipush 48, 2), (28, .aload_n 0, 1), (29, .getfield 10, 3), (32, .getfield 115, 3), (35, .getfield 131, 3), (38, .iload_n 1, 1), (39, .iaload, 1), (40, .iadd, 1), (41, .i2c, 1), (42, .invokevirtual 330, 3), (45, .aload_n 0, 1), (46, .bipush 58, 2), (48, .invokevirtual 330, 3), (51, .iconst 0, 1), (52, .istore_n 2, 1), (53, .iload_n 2, 1), (54, .aload_n 0, 1), (55, .getfield 10, 3), (58, .getfield 246, 3), (61, .invokevirtual 261, 3), (64, .if_icmp .ge 39, 3), (67, .aload_n 0, 1), (68, .aload_n 0, 1), (69, .getfield 10, 3), (72, .getfield 246, 3), (75, .getfield 267, 3), (78, .iload_n 1, 1), (79, .iaload, 1), (80, .iload_n 2, 1), (81, .invokestatic 162, 3), (84, .ifCond .eq 8, 3), (87, .bipush 35, 2), (89, .goto 5, 3), (92, .bipush 46, 2), (94, .invokevirtual 330, 3), (97, .iinc 2 1, 3), (100, .goto (-47), 3), (103, .aload_n 0, 1), (104, .getfield 10, 3), (107, .getfield 246, 3), (110, .iload_n 1, 1), (111, .invokevirtual 275, 3), (114, .ifCond .eq 9, 3), (117, .aload_n 0, 1), (118, .bipush 33, 2), (120, .invokevirtual 330, 3), (123, .aload_n 0, 1), (124, .getfield 68, 3), (127, .ireturn, 1)]
set_option maxRecDepth 100000 in
theorem eX11_writeField : am_dec cX11_writeField tX11_writeField := am_dec_of (by decide +kernel)
def tX11_outputAt : List (Nat × Instr × Nat) := [(0, .iload_n 1, 1), (1, .ifCond .lt 11, 3), (4, .iload_n 1, 1), (5, .aload_n 0, 1), (6, .getfield 68, 3), (9, .if_icmp .lt 14, 3), (12, .new 334, 3), (15, .dup, 1), (16, .ldc_w 336, 3), (19, .invokespecial 338, 3), (22, .athrow, 1), (23, .aload_n 0, 1), (24, .getfield 64, 3), (27, .iload_n 1, 1), (28, .caload, 1), (29, .ireturn, 1)]
set_option maxRecDepth 100000 in
theorem eX11_outputAt : am_dec cX11_outputAt tX11_outputAt := am_dec_of (by decide +kernel)
def tX11_appendInput : List (Nat × Instr × Nat) := [(0, .iload_n 1, 1), (1, .bipush 32, 2), (3, .if_icmp .lt 9, 3), (6, .iload_n 1, 1), (7, .bipush 126, 2), (9, .if_icmp .le 14, 3), (12, .new 339, 3), (15, .dup, 1), (16, .ldc_w 341, 3), (19, .invokespecial 343, 3), (22, .athrow, 1), (23, .aload_n 0, 1), (24, .getfield 60, 3), (27, .getfield 344, 3), (30, .bipush 60, 2), (32, .if_icmp .lt 14, 3), (35, .new 347, 3), (38, .dup, 1), (39, .ldc_w 349, 3), (42, .invokespecial 351, 3), (45, .athrow, 1), (46, .aload_n 0, 1), (47, .getfield 60, 3), (50, .iload_n 1, 1), (51, .invokevirtual 352, 3), (54, .aload_n 0, 1), (55, .getfield 60, 3), (58, .getfield 344, 3), (61, .ireturn, 1)]
set_option maxRecDepth 100000 in
theorem eX11_appendInput : am_dec cX11_appendInput tX11_appendInput := am_dec_of (by decide +kernel)
def tX11_execute : List (Nat × Instr × Nat) := [(0, .aload_n 0, 1), (1, .getfield 60, 3), (4, .invokevirtual 355, 3), (7, .istore_n 1, 1), (8, .iload_n 1, 1), (9, .iconst (-1), 1), (10, .if_icmp .eq 19, 3), (13, .aload_n 0, 1), (14, .iload_n 1, 1), (15, .putfield 85, 3), (18, .new 339, 3), (21, .dup, 1), (22, .ldc_w 358, 3), (25, .invokespecial 343, 3), (28, .athrow, 1), (29, .aload_n 0, 1), (30, .getfield 25, 3), (33, .aload_n 0, 1), (34, .getfield 10, 3), (37, .invokevirtual 88, 3), (40, .iconst 0, 1), (41, .istore_n 2, 1), (42, .iconst 0, 1), (43, .istore_n 3, 1), (44, .iload_n 2, 1), (45, .aload_n 0, 1), (46, .getfield 60, 3), (49, .getfield 360, 3), (52, .if_icmp .ge 36, 3), (55, .iload_n 3, 1), (56, .ifCond .lt 32, 3), (59, .aload_n 0, 1), (60, .aload_n 0, 1), (61, .getfield 60, 3), (64, .getfield 363, 3), (67, .iload_n 2, 1), (68, .aaload, 1), (69, .aload_n 0, 1), (70, .getfield 60, 3), (73, .getfield 367, 3), (76, .iload_n 2, 1), (77, .aaload, 1), (78, .invokevirtual 371, 3), (81, .istore_n 3, 1), (82, .iinc 2 1, 3), (85, .goto (-41), 3), (88, .iload_n 3, 1), (89, .ifCond .ge 17, 3), (92, .aload_n 0, 1), (93, .getfield 10, 3), (96, .aload_n 0, 1), (97, .getfield 25, 3), (100, .invokevirtual 375, 3), (103, .invokevirtual 281, 3), (106, .iload_n 3, 1), (107, .bipush (-3), 2), (109, .if_icmp .ne 30, 3), (112, .aload_n 0, 1), (113, .bipush 7, 2), (115, .iload_n 2, 1), (116, .iconst 1, 1), (117, .isub, 1), (118, .aload_n 0, 1), (119, .getfield 53, 3), (122, .getfield 379, 3), (125, .invokevirtual 382, 3), (128, .new 386, 3), (131, .dup, 1), (132, .ldc_w 388, 3), (135, .invokespecial 390, 3), (138, .athrow, 1), (139, .iload_n 3, 1), (140, .ifCond .ge 14, 3), (143, .new 347, 3), (146, .dup, 1), (147, .ldc_w 391, 3), (150, .invokespecial 351, 3), (153, .athrow, 1), (154, .aload_n 0, 1), (155, .getfield 25, 3), (158, .invokevirtual 393, 3), (161, .iload_n 2, 1), (162, .ireturn, 1)]
set_option maxRecDepth 100000 in
theorem eX11_execute : am_dec cX11_execute tX11_execute := am_dec_of (by decide +kernel)
def tX11_syntaxErrorOffset : List (Nat × Instr × Nat) := [(0, .aload_n 0, 1), (1, .getfield 85, 3), (4, .iconst (-1), 1), (5, .if_icmp .ne 14, 3), (8, .new 212, 3), (11, .dup, 1), (12, .ldc_w 396, 3), (15, .invokespecial 216, 3), (18, .athrow, 1), (19, .aload_n 0, 1), (20, .getfield 85, 3), (23, .ireturn, 1)]
set_option maxRecDepth 100000 in
theorem eX11_syntaxErrorOffset : am_dec cX11_syntaxErrorOffset tX11_syntaxErrorOffset := am_dec_of (by decide +kernel)
def tX11_rejectionReason : List (Nat × Instr × Nat) := [(0, .aload_n 0, 1), (1, .invokevirtual 398, 3), (4, .aload_n 0, 1), (5, .getfield 76, 3), (8, .ireturn, 1)]
set_option maxRecDepth 100000 in
theorem eX11_rejectionReason : am_dec cX11_rejectionReason tX11_rejectionReason := am_dec_of (by decide +kernel)
def tX11_rejectionDetail : List (Nat × Instr × Nat) := [(0, .aload_n 0, 1), (1, .invokevirtual 398, 3), (4, .aload_n 0, 1), (5, .getfield 79, 3), (8, .ireturn, 1)]
set_option maxRecDepth 100000 in
theorem eX11_rejectionDetail : am_dec cX11_rejectionDetail tX11_rejectionDetail := am_dec_of (by decide +kernel)
def tX11_causeReason : List (Nat × Instr × Nat) := [(0, .aload_n 0, 1), (1, .getfield 76, 3), (4, .bipush 7, 2), (6, .if_icmp .eq 14, 3), (9, .new 212, 3), (12, .dup, 1), (13, .ldc_w 401, 3), (16, .invokespecial 216, 3), (19, .athrow, 1), (20, .aload_n 0, 1), (21, .getfield 82, 3), (24, .ireturn, 1)]
set_option maxRecDepth 100000 in
theorem eX11_causeReason : am_dec cX11_causeReason tX11_causeReason := am_dec_of (by decide +kernel)
def tX11_undo : List (Nat × Instr × Nat) := [(0, .aload_n 0, 1), (1, .getfield 25, 3), (4, .getfield 403, 3), (7, .ifCond .ne 14, 3), (10, .new 347, 3), (13, .dup, 1), (14, .ldc_w 406, 3), (17, .invokespecial 351, 3), (20, .athrow, 1), (21, .aload_n 0, 1), (22, .getfield 25, 3), (25, .aload_n 0, 1), (26, .getfield 10, 3), (29, .invokevirtual 408, 3), (32, .aload_n 0, 1), (33, .getfield 25, 3), (36, .getfield 403, 3), (39, .ireturn, 1)]
set_option maxRecDepth 100000 in
theorem eX11_undo : am_dec cX11_undo tX11_undo := am_dec_of (by decide +kernel)
def tX11_saveSnapshot : List (Nat × Instr × Nat) := [(0, .aload_n 0, 1), (1, .getfield 19, 3), (4, .aload_n 0, 1), (5, .getfield 10, 3), (8, .invokevirtual 281, 3), (11, .aload_n 0, 1), (12, .iconst 1, 1), (13, .putfield 72, 3), (16, .aload_n 0, 1), (17, .getfield 10, 3), (20, .getfield 115, 3), (23, .getfield 119, 3), (26, .ireturn, 1)]
set_option maxRecDepth 100000 in
theorem eX11_saveSnapshot : am_dec cX11_saveSnapshot tX11_saveSnapshot := am_dec_of (by decide +kernel)
def tX11_restoreSnapshot : List (Nat × Instr × Nat) := [(0, .aload_n 0, 1), (1, .getfield 72, 3), (4, .ifCond .ne 14, 3), (7, .new 347, 3), (10, .dup, 1), (11, .ldc_w 411, 3), (14, .invokespecial 351, 3), (17, .athrow, 1), (18, .aload_n 0, 1), (19, .getfield 10, 3), (22, .aload_n 0, 1), (23, .getfield 19, 3), (26, .invokevirtual 281, 3), (29, .aload_n 0, 1), (30, .getfield 25, 3), (33, .invokevirtual 413, 3), (36, .aload_n 0, 1), (37, .getfield 10, 3), (40, .getfield 115, 3), (43, .getfield 119, 3), (46, .ireturn, 1)]
set_option maxRecDepth 100000 in
theorem eX11_restoreSnapshot : am_dec cX11_restoreSnapshot tX11_restoreSnapshot := am_dec_of (by decide +kernel)
def tX11_requireField : List (Nat × Instr × Nat) := [(0, .aload_n 0, 1), (1, .getfield 10, 3), (4, .getfield 115, 3), (7, .iload_n 1, 1), (8, .invokevirtual 416, 3), (11, .ifCond .ne 14, 3), (14, .new 334, 3), (17, .dup, 1), (18, .ldc_w 419, 3), (21, .invokespecial 338, 3), (24, .athrow, 1), (25, .return_, 1)]
set_option maxRecDepth 100000 in
theorem eX11_requireField : am_dec cX11_requireField tX11_requireField := am_dec_of (by decide +kernel)
def tX11_requirePath : List (Nat × Instr × Nat) := [(0, .aload_n 0, 1), (1, .getfield 10, 3), (4, .getfield 115, 3), (7, .iload_n 1, 1), (8, .invokevirtual 421, 3), (11, .ifCond .ne 14, 3), (14, .new 334, 3), (17, .dup, 1), (18, .ldc_w 424, 3), (21, .invokespecial 338, 3), (24, .athrow, 1), (25, .return_, 1)]
set_option maxRecDepth 100000 in
theorem eX11_requirePath : am_dec cX11_requirePath tX11_requirePath := am_dec_of (by decide +kernel)
def tX11_requireTwoFields : List (Nat × Instr × Nat) := [(0, .aload_n 0, 1), (1, .iload_n 1, 1), (2, .invokevirtual 127, 3), (5, .aload_n 0, 1), (6, .iload_n 2, 1), (7, .invokevirtual 127, 3), (10, .iload_n 1, 1), (11, .iload_n 2, 1), (12, .if_icmp .ne 14, 3), (15, .new 339, 3), (18, .dup, 1), (19, .ldc_w 426, 3), (22, .invokespecial 343, 3), (25, .athrow, 1), (26, .return_, 1)]
set_option maxRecDepth 100000 in
theorem eX11_requireTwoFields : am_dec cX11_requireTwoFields tX11_requireTwoFields := am_dec_of (by decide +kernel)
def tX11_requireStarted : List (Nat × Instr × Nat) := [(0, .aload_n 0, 1), (1, .getfield 10, 3), (4, .getfield 246, 3), (7, .getfield 428, 3), (10, .ifCond .ne 14, 3), (13, .new 212, 3), (16, .dup, 1), (17, .ldc_w 431, 3), (20, .invokespecial 216, 3), (23, .athrow, 1), (24, .return_, 1)]
set_option maxRecDepth 100000 in
theorem eX11_requireStarted : am_dec cX11_requireStarted tX11_requireStarted := am_dec_of (by decide +kernel)
def tX11_requireRunning : List (Nat × Instr × Nat) := [(0, .aload_n 0, 1), (1, .getfield 10, 3), (4, .getfield 246, 3), (7, .getfield 250, 3), (10, .ifCond .ne 14, 3), (13, .new 212, 3), (16, .dup, 1), (17, .ldc_w 433, 3), (20, .invokespecial 216, 3), (23, .athrow, 1), (24, .return_, 1)]
set_option maxRecDepth 100000 in
theorem eX11_requireRunning : am_dec cX11_requireRunning tX11_requireRunning := am_dec_of (by decide +kernel)
def tX11_requireSent : List (Nat × Instr × Nat) := [(0, .aload_n 0, 1), (1, .getfield 10, 3), (4, .getfield 287, 3), (7, .ifCond .ne 14, 3), (10, .new 435, 3), (13, .dup, 1), (14, .ldc_w 437, 3), (17, .invokespecial 439, 3), (20, .athrow, 1), (21, .return_, 1)]
set_option maxRecDepth 100000 in
theorem eX11_requireSent : am_dec cX11_requireSent tX11_requireSent := am_dec_of (by decide +kernel)
def tX11_requireRejection : List (Nat × Instr × Nat) := [(0, .aload_n 0, 1), (1, .getfield 76, 3), (4, .iconst (-1), 1), (5, .if_icmp .ne 14, 3), (8, .new 212, 3), (11, .dup, 1), (12, .ldc_w 440, 3), (15, .invokespecial 216, 3), (18, .athrow, 1), (19, .return_, 1)]
set_option maxRecDepth 100000 in
theorem eX11_requireRejection : am_dec cX11_requireRejection tX11_requireRejection := am_dec_of (by decide +kernel)
def tX11_requireWay : List (Nat × Instr × Nat) := [(0, .iload_n 0, 1), (1, .sipush 1000, 3), (4, .if_icmp .lt 14, 3), (7, .new 212, 3), (10, .dup, 1), (11, .ldc_w 442, 3), (14, .invokespecial 216, 3), (17, .athrow, 1), (18, .iload_n 0, 1), (19, .ireturn, 1)]
set_option maxRecDepth 100000 in
theorem eX11_requireWay : am_dec cX11_requireWay tX11_requireWay := am_dec_of (by decide +kernel)
def tX11_settle : List (Nat × Instr × Nat) := [(0, .iload_n 1, 1), (1, .iconst (-1), 1), (2, .if_icmp .ne 14, 3), (5, .new 334, 3), (8, .dup, 1), (9, .ldc_w 444, 3), (12, .invokespecial 338, 3), (15, .athrow, 1), (16, .iload_n 1, 1), (17, .bipush (-2), 2), (19, .if_icmp .ne 14, 3), (22, .new 339, 3), (25, .dup, 1), (26, .ldc_w 446, 3), (29, .invokespecial 343, 3), (32, .athrow, 1), (33, .iload_n 1, 1), (34, .bipush (-3), 2), (36, .if_icmp .ne 33, 3), (39, .aload_n 0, 1), (40, .aload_n 0, 1), (41, .getfield 53, 3), (44, .getfield 379, 3), (47, .aload_n 0, 1), (48, .getfield 53, 3), (51, .getfield 448, 3), (54, .iconst (-1), 1), (55, .invokevirtual 382, 3), (58, .new 386, 3), (61, .dup, 1), (62, .ldc_w 451, 3), (65, .invokespecial 390, 3), (68, .athrow, 1), (69, .aload_n 0, 1), (70, .getfield 25, 3), (73, .invokevirtual 393, 3), (76, .iload_n 1, 1), (77, .ireturn, 1)]
set_option maxRecDepth 100000 in
theorem eX11_settle : am_dec cX11_settle tX11_settle := am_dec_of (by decide +kernel)
def tX11_noteRejection : List (Nat × Instr × Nat) := [(0, .aload_n 0, 1), (1, .iload_n 1, 1), (2, .putfield 76, 3), (5, .aload_n 0, 1), (6, .iload_n 2, 1), (7, .putfield 79, 3), (10, .aload_n 0, 1), (11, .iload_n 3, 1), (12, .putfield 82, 3), (15, .return_, 1)]
set_option maxRecDepth 100000 in
theorem eX11_noteRejection : am_dec cX11_noteRejection tX11_noteRejection := am_dec_of (by decide +kernel)
def tX11_perform : List (Nat × Instr × Nat) := [(0, .aload_n 1, 1), (1, .ifnull 13, 3), (4, .aload_n 2, 1), (5, .ifnull 9, 3), (8, .aload_n 2, 1), (9, .arraylength, 1), (10, .iconst 4, 1), (11, .if_icmp .ge 6, 3), (14, .bipush (-2), 2), (16, .ireturn, 1), (17, .getstatic 453, 3), (20, .aload_n 1, 1), (21, .invokevirtual 458, 3), (24, .iaload, 1), (25, .tableswitch 255 1 11 #[59, 74, 98, 116, 134, 150, 166, 181, 211, 227, 243], 59), (84, .aload_n 0, 1), (85, .getfield 53, 3), (88, .aload_n 0, 1), (89, .getfield 10, 3), (92, .aload_n 2, 1), (93, .iconst 0, 1), (94, .iaload, 1), (95, .invokevirtual 92, 3), (98, .ireturn, 1), (99, .aload_n 0, 1), (100, .getfield 53, 3), (103, .aload_n 0, 1), (104, .getfield 10, 3), (107, .aload_n 2, 1), (108, .iconst 0, 1), (109, .iaload, 1), (110, .aload_n 2, 1), (111, .iconst 1, 1), (112, .iaload, 1), (113, .aload_n 2, 1), (114, .iconst 2, 1), (115, .iaload, 1), (116, .aload_n 2, 1), (117, .iconst 3, 1), (118, .iaload, 1), (119, .invokevirtual 104, 3), (122, .ireturn, 1), (123, .aload_n 0, 1), (124, .getfield 53, 3), (127, .aload_n 0, 1), (128, .getfield 10, 3), (131, .aload_n 2, 1), (132, .iconst 0, 1), (133, .iaload, 1), (134, .aload_n 2, 1), (135, .iconst 1, 1), (136, .iaload, 1), (137, .invokevirtual 100, 3), (140, .ireturn, 1), (141, .aload_n 0, 1), (142, .getfield 53, 3), (145, .aload_n 0, 1), (146, .getfield 10, 3), (149, .aload_n 2, 1), (150, .iconst 0, 1), (151, .iaload, 1), (152, .aload_n 2, 1), (153, .iconst 1, 1), (154, .iaload, 1), (155, .invokevirtual 108, 3), (158, .ireturn, 1), (159, .aload_n 0, 1), (160, .getfield 53, 3), (163, .aload_n 0, 1), (164, .getfield 10, 3), (167, .aload_n 2, 1), (168, .iconst 0, 1), (169, .iaload, 1), (170, .iconst 1, 1), (171, .invokevirtual 111, 3), (174, .ireturn, 1), (175, .aload_n 0, 1), (176, .getfield 53, 3), (179, .aload_n 0, 1), (180, .getfield 10, 3), (183, .aload_n 2, 1), (184, .iconst 0, 1), (185, .iaload, 1), (186, .iconst 0, 1), (187, .invokevirtual 111, 3), (190, .ireturn, 1), (191, .aload_n 0, 1), (192, .getfield 53, 3), (195, .aload_n 0, 1), (196, .getfield 10, 3), (199, .aload_n 2, 1), (200, .iconst 0, 1), (201, .iaload, 1), (202, .invokevirtual 228, 3), (205, .ireturn, 1), (206, .aload_n 0, 1), (207, .getfield 53, 3), (210, .aload_n 0, 1), (211, .getfield 10, 3), (214, .aload_n 2, 1), (215, .iconst 0, 1), (216, .iaload, 1), (217, .aload_n 2, 1), (218, .iconst 1, 1), (219, .iaload, 1), (220, .aload_n 2, 1), (221, .iconst 2, 1), (222, .iaload, 1), (223, .iconst 1, 1), (224, .if_icmp .ne 7, 3), (227, .iconst 1, 1), (228, .goto 4, 3), (231, .iconst 0, 1), (232, .invokevirtual 231, 3), (235, .ireturn, 1), (236, .aload_n 0, 1), (237, .getfield 53, 3), (240, .aload_n 0, 1), (241, .getfield 10, 3), (244, .aload_n 0, 1), (245, .getfield 46, 3), (248, .invokevirtual 235, 3), (251, .ireturn, 1), (252, .aload_n 0, 1), (253, .getfield 53, 3), (256, .aload_n 0, 1), (257, .getfield 10, 3), (260, .aload_n 0, 1), (261, .getfield 46, 3), (264, .invokevirtual 239, 3), (267, .ireturn, 1), (268, .aload_n 0, 1), (269, .getfield 53, 3), (272, .aload_n 0, 1), (273, .getfield 10, 3), (276, .invokevirtual 242, 3), (279, .ireturn, 1), (280, .bipush (-2), 2), (282, .ireturn, 1)]
set_option maxRecDepth 100000 in
theorem eX11_perform : am_dec cX11_perform tX11_perform := am_dec_of (by decide +kernel)
def tX11_put : List (Nat × Instr × Nat) := [(0, .aload_n 0, 1), (1, .getfield 68, 3), (4, .bipush 12, 2), (6, .if_icmp .ge 23, 3), (9, .aload_n 0, 1), (10, .getfield 64, 3), (13, .aload_n 0, 1), (14, .getfield 68, 3), (17, .iload_n 1, 1), (18, .castore, 1), (19, .aload_n 0, 1), (20, .dup, 1), (21, .getfield 68, 3), (24, .iconst 1, 1), (25, .iadd, 1), (26, .putfield 68, 3), (29, .return_, 1)]
set_option maxRecDepth 100000 in
theorem eX11_put : am_dec cX11_put tX11_put := am_dec_of (by decide +kernel)
def tX11_treeCostsAgree : List (Nat × Instr × Nat) := [(0, .iconst 0, 1), (1, .istore_n 1, 1), (2, .iload_n 1, 1), (3, .aload_n 0, 1), (4, .getfield 10, 3), (7, .getfield 115, 3), (10, .getfield 119, 3), (13, .if_icmp .ge 44, 3), (16, .aload_n 0, 1), (17, .getfield 39, 3), (20, .aload_n 0, 1), (21, .getfield 10, 3), (24, .getfield 115, 3), (27, .iload_n 1, 1), (28, .invokevirtual 196, 3), (31, .aload_n 0, 1), (32, .getfield 39, 3), (35, .aload_n 0, 1), (36, .getfield 10, 3), (39, .getfield 115, 3), (42, .iload_n 1, 1), (43, .invokevirtual 199, 3), (46, .if_icmp .eq 5, 3), (49, .iconst 0, 1), (50, .ireturn, 1), (51, .iinc 1 1, 3), (54, .goto (-52), 3), (57, .iconst 1, 1), (58, .ireturn, 1)]
set_option maxRecDepth 100000 in
theorem eX11_treeCostsAgree : am_dec cX11_treeCostsAgree tX11_treeCostsAgree := am_dec_of (by decide +kernel)
def tX11_waysAgreeWithCuts : List (Nat × Instr × Nat) := [(0, .iconst 0, 1), (1, .istore_n 1, 1), (2, .iload_n 1, 1), (3, .aload_n 0, 1), (4, .getfield 10, 3), (7, .getfield 115, 3), (10, .getfield 119, 3), (13, .if_icmp .ge 70, 3), (16, .iload_n 1, 1), (17, .iconst 1, 1), (18, .iadd, 1), (19, .istore_n 2, 1), (20, .iload_n 2, 1), (21, .aload_n 0, 1), (22, .getfield 10, 3), (25, .getfield 115, 3), (28, .getfield 119, 3), (31, .if_icmp .ge 46, 3), (34, .aload_n 0, 1), (35, .getfield 32, 3), (38, .aload_n 0, 1), (39, .getfield 10, 3), (42, .getfield 115, 3), (45, .iload_n 1, 1), (46, .iload_n 2, 1), (47, .invokevirtual 179, 3), (50, .aload_n 0, 1), (51, .getfield 32, 3), (54, .aload_n 0, 1), (55, .getfield 10, 3), (58, .getfield 115, 3), (61, .iload_n 1, 1), (62, .iload_n 2, 1), (63, .invokevirtual 182, 3), (66, .if_icmp .eq 5, 3), (69, .iconst 0, 1), (70, .ireturn, 1), (71, .iinc 2 1, 3), (74, .goto (-54), 3), (77, .iinc 1 1, 3), (80, .goto (-78), 3), (83, .iconst 1, 1), (84, .ireturn, 1)]
set_option maxRecDepth 100000 in
theorem eX11_waysAgreeWithCuts : am_dec cX11_waysAgreeWithCuts tX11_waysAgreeWithCuts := am_dec_of (by decide +kernel)
def tX11_hasBit : List (Nat × Instr × Nat) := [(0, .iload_n 0, 1), (1, .iload_n 1, 1), (2, .ishr, 1), (3, .iconst 1, 1), (4, .iand, 1), (5, .iconst 1, 1), (6, .if_icmp .ne 7, 3), (9, .iconst 1, 1), (10, .goto 4, 3), (13, .iconst 0, 1), (14, .ireturn, 1)]
set_option maxRecDepth 100000 in
theorem eX11_hasBit : am_dec cX11_hasBit tX11_hasBit := am_dec_of (by decide +kernel)
def tX11_bitsOfShare : List (Nat × Instr × Nat) := [(0, .fload_n 0, 1), (1, .fstore_n 1, 1), (2, .bipush 127, 2), (4, .istore_n 2, 1), (5, .iload_n 2, 1), (6, .ifCond .le 33, 3), (9, .fload_n 1, 1), (10, .fconst 1, 1), (11, .fcmp .l, 1), (12, .ifCond .lt 17, 3), (15, .iload_n 2, 1), (16, .bipush 23, 2), (18, .ishl, 1), (19, .fload_n 1, 1), (20, .fconst 1, 1), (21, .fsub, 1), (22, .ldc_w 463, 3), (25, .fmul, 1), (26, .f2i, 1), (27, .iadd, 1), (28, .ireturn, 1), (29, .fload_n 1, 1), (30, .fconst 2, 1), (31, .fmul, 1), (32, .fstore_n 1, 1), (33, .iinc 2 (-1), 3), (36, .goto (-31), 3), (39, .iconst 0, 1), (40, .ireturn, 1)]
set_option maxRecDepth 100000 in
theorem eX11_bitsOfShare : am_dec cX11_bitsOfShare tX11_bitsOfShare := am_dec_of (by decide +kernel)
def tJ6_bitCount_0f7a4 : List (Nat × Instr × Nat) := [(0, .iload_n 0, 1), (1, .iload_n 0, 1), (2, .iconst 1, 1), (3, .iushr, 1), (4, .ldc_w 265, 3), (7, .iand, 1), (8, .isub, 1), (9, .istore_n 0, 1), (10, .iload_n 0, 1), (11, .ldc_w 266, 3), (14, .iand, 1), (15, .iload_n 0, 1), (16, .iconst 2, 1), (17, .iushr, 1), (18, .ldc_w 266, 3), (21, .iand, 1), (22, .iadd, 1), (23, .istore_n 0, 1), (24, .iload_n 0, 1), (25, .iload_n 0, 1), (26, .iconst 4, 1), (27, .iushr, 1), (28, .iadd, 1), (29, .ldc_w 267, 3), (32, .iand, 1), (33, .istore_n 0, 1), (34, .iload_n 0, 1), (35, .iload_n 0, 1), (36, .bipush 8, 2), (38, .iushr, 1), (39, .iadd, 1), (40, .istore_n 0, 1), (41, .iload_n 0, 1), (42, .iload_n 0, 1), (43, .bipush 16, 2), (45, .iushr, 1), (46, .iadd, 1), (47, .istore_n 0, 1), (48, .iload_n 0, 1), (49, .bipush 63, 2), (51, .iand, 1), (52, .ireturn, 1)]
set_option maxRecDepth 100000 in
theorem eJ6_bitCount_0f7a4 : am_dec cJ6_bitCount_0f7a4 tJ6_bitCount_0f7a4 := am_dec_of (by decide +kernel)
end
section
/-! ===== the claim's own: its words by their places, its shapes ===== -/
def am_isN : Cond → Bool
  | .methodLinkNest _ _ _ _ => true
  | .fieldLinkNest _ _ _ _ _ _ => true
  | .castable _ _ => true
  | .declares _ => true
  | _ => false
def xWS : List Cond := lw_tbl.filter goodWord
def xNS : List Cond := lw_tbl.filter am_isN
theorem x_words : (∀ w ∈ xWS, (w.onTables && w.keeps) = true ∨ ∃ ty, w = .arrayClass ty) ∧ ∀ w ∈ xNS, (∃ (a : String) (i : Nat) (y : MethodName) (h : String), w = .methodLinkNest a i y h) ∨ (∃ (a : String) (i : Nat) (b n d h : String), w = .fieldLinkNest a i b n d h) ∨ (∃ a b : String, w = .castable a b) ∨ ∃ y : MethodName, w = .declares y := by
  refine ⟨fun w hw => good_of_word (List.mem_filter.mp hw).2, fun w hw => ?_⟩
  have h := (List.mem_filter.mp hw).2
  cases w <;> first | exact Or.inl ⟨_, _, _, _, rfl⟩ | exact Or.inr (Or.inl ⟨_, _, _, _, _, _, rfl⟩) | exact Or.inr (Or.inr (Or.inl ⟨_, _, rfl⟩)) | exact Or.inr (Or.inr (Or.inr ⟨_, rfl⟩)) | cases h
theorem x_in {w : Cond} (i : Nat) (h : (decide (lw_tbl[i]? = some w) && goodWord w) = true) : w ∈ xWS := by
  rw [Bool.and_eq_true] at h
  exact List.mem_filter.mpr ⟨List.mem_of_getElem? (of_decide_eq_true h.1), h.2⟩
theorem x_inN {w : Cond} (i : Nat) (h : (decide (lw_tbl[i]? = some w) && am_isN w) = true) : w ∈ xNS := by
  rw [Bool.and_eq_true] at h
  exact List.mem_filter.mpr ⟨List.mem_of_getElem? (of_decide_eq_true h.1), h.2⟩
theorem x_all {ws : List Cond} (ps : List Nat) (h : (decide (ws = ps.filterMap (fun i => lw_tbl[i]?)) && ws.all goodWord) = true) : ∀ w ∈ ws, w ∈ xWS := by
  rw [Bool.and_eq_true] at h
  intro w hw
  have h1 := List.all_eq_true.mp h.2 w hw
  rw [of_decide_eq_true h.1] at hw
  obtain ⟨i, -, hi⟩ := List.mem_filterMap.mp hw
  exact List.mem_filter.mpr ⟨List.mem_of_getElem? hi, h1⟩
/-! shapes: the state i at sS i (0: now, 1: foreseen, 2: snapshot, 3 ..: the history's) -/
def sS (i : Nat) : Nat := 100 + 16 * i
def shA : Nat → Option am_Sh
  | 1 => some (.inl (12, [some (sS 0), some (sS 1), some (sS 2), some 2, some 4, some 20, some 11, some 12, some 13, some 17, none, none, none, none, none, none]))
  | 2 => some (.inl (6, [some 3, none, none]))
  | 3 => some (.inr (3, 9, .inr (fun j _ => some (sS (3 + j)))))
  | 4 => some (.inl (10, [some 5, some 6, some 7, some 8, some 9, some 10, none]))
  | 5 => some (.inr (0, 9, .inl false))
  | 6 => some (.inr (0, 16, .inl false))
  | 7 => some (.inr (0, 9, .inl false))
  | 8 => some (.inr (0, 9, .inl false))
  | 9 => some (.inr (0, 9, .inl false))
  | 10 => some (.inr (0, 9, .inl false))
  | 11 => some (.inl (11, [some 30]))
  | 12 => some (.inl (4, [none, none]))
  | 13 => some (.inl (5, [some 14, some 15, none, none, some 16, none]))
  | 14 => some (.inr (4, 12, .inr (fun _ x => if x = 0 then none else some (299 + x.toNatClampNeg))))
  | 15 => some (.inr (5, 12, .inr (fun j _ => some (40 + j))))
  | 16 => some (.inr (1, 60, .inl false))
  | 17 => some (.inr (1, 12, .inl false))
  | 20 => some (.inl (8, [some 21, some 22, some 23, some 24, some 25]))
  | 30 => some (.inl (8, [some 31, some 32, some 33, some 34, some 35]))
  | _ => none
/-- the trees' arrays, and the rows of the commands' values -/
def shT (c : Nat) : Option am_Sh := if c < 40 then (if c % 10 = 4 then some (.inr (2, 9, .inl true)) else some (.inr (0, 9, .inl false))) else if c < 52 then some (.inr (0, 4, .inl false)) else none
def shS (i : Nat) : Nat → Option am_Sh
  | 0 => some (.inl (9, [some (sS i + 1), some (sS i + 2), some (sS i + 3), none, none, none, none, none, none]))
  | 1 => some (.inl (7, [some (sS i + 4), some (sS i + 5), some (sS i + 6), some (sS i + 7), some (sS i + 8), none, none, none]))
  | 2 => some (.inl (3, [some (sS i + 9), none, none, none, none, none, none, none]))
  | 3 => some (.inr (0, 16, .inl false))
  | 4 => some (.inr (0, 9, .inl false))
  | 5 => some (.inr (0, 16, .inl false))
  | 6 => some (.inr (0, 16, .inl false))
  | 7 => some (.inr (0, 16, .inl false))
  | 8 => some (.inr (0, 16, .inl false))
  | 9 => some (.inr (0, 9, .inl false))
  | _ => none
def shx (c : Nat) : Option am_Sh := if c < 100 then (if c = 20 ∨ c = 30 ∨ c < 20 then shA c else if c < 26 ∨ 30 < c then shT c else none) else if c < 292 then shS ((c - 100) / 16) ((c - 100) % 16) else none
def wrx (c : Nat) : Bool := decide (c < 300)
def tAx : Nat → FieldType
  | 0 => .int
  | 1 => .char
  | 2 => .float
  | 3 => .object "DandelionBroadcast$State"
  | 4 => .object "DandelionBroadcast$Kind"
  | 5 => .array .int
  | 6 => .byte
  | _ => .long
def xTS : List (String × Nat × String) := [("DandelionBroadcast", 444, "no such field or path"), ("DandelionBroadcast", 446, "a value is out of range"), ("DandelionBroadcast", 451, "the call is rejected"), ("DandelionBroadcast", 419, "no such field"), ("DandelionBroadcast", 424, "no such path"), ("DandelionBroadcast", 442, "there is no way"), ("DandelionBroadcast", 426, "both fields are the same"), ("DandelionBroadcast", 214, "the field has no parent in this tree"), ("DandelionBroadcast", 222, "the field is not in this tree"), ("DandelionBroadcast", 431, "no broadcast was started"), ("DandelionBroadcast", 265, "the broadcast has no such packet"), ("DandelionBroadcast", 433, "there is no broadcast that has not ended"), ("DandelionBroadcast", 308, "no such position"), ("DandelionBroadcast", 437, "no packet was sent"), ("DandelionBroadcast", 336, "no character at this index"), ("DandelionBroadcast", 341, "the code is out of range"), ("DandelionBroadcast", 349, "the input is full"), ("DandelionBroadcast", 358, "a syntax error"), ("DandelionBroadcast", 388, "a command is rejected"), ("DandelionBroadcast", 391, "a command fails"), ("DandelionBroadcast", 396, "there was no syntax error"), ("DandelionBroadcast", 440, "no call was rejected"), ("DandelionBroadcast", 401, "the latest rejection has no cause"), ("DandelionBroadcast", 406, "no change can be undone"), ("DandelionBroadcast", 411, "there is no snapshot")]
def xNC : List (String × String) := []
def xSF : List (String × String × String × Value) := []
abbrev xx : am_X := (vwCl, xWS, xNS, shx, wrx, tAx, xTS, xNC, xSF)
theorem sh_S0 {i : Nat} (hi : i < 12) : am_sh xx (sS i + 0) = shS i 0 := by
  show (if sS i + 0 < 100 then _ else if sS i + 0 < 292 then shS ((sS i + 0 - 100) / 16) ((sS i + 0 - 100) % 16) else none) = _
  rw [if_neg (by unfold sS; omega), if_pos (by unfold sS; omega), show (sS i + 0 - 100) / 16 = i by unfold sS; omega, show (sS i + 0 - 100) % 16 = 0 by unfold sS; omega]
theorem sh_S1 {i : Nat} (hi : i < 12) : am_sh xx (sS i + 1) = shS i 1 := by
  show (if sS i + 1 < 100 then _ else if sS i + 1 < 292 then shS ((sS i + 1 - 100) / 16) ((sS i + 1 - 100) % 16) else none) = _
  rw [if_neg (by unfold sS; omega), if_pos (by unfold sS; omega), show (sS i + 1 - 100) / 16 = i by unfold sS; omega, show (sS i + 1 - 100) % 16 = 1 by unfold sS; omega]
theorem sh_S2 {i : Nat} (hi : i < 12) : am_sh xx (sS i + 2) = shS i 2 := by
  show (if sS i + 2 < 100 then _ else if sS i + 2 < 292 then shS ((sS i + 2 - 100) / 16) ((sS i + 2 - 100) % 16) else none) = _
  rw [if_neg (by unfold sS; omega), if_pos (by unfold sS; omega), show (sS i + 2 - 100) / 16 = i by unfold sS; omega, show (sS i + 2 - 100) % 16 = 2 by unfold sS; omega]
theorem sh_S3 {i : Nat} (hi : i < 12) : am_sh xx (sS i + 3) = shS i 3 := by
  show (if sS i + 3 < 100 then _ else if sS i + 3 < 292 then shS ((sS i + 3 - 100) / 16) ((sS i + 3 - 100) % 16) else none) = _
  rw [if_neg (by unfold sS; omega), if_pos (by unfold sS; omega), show (sS i + 3 - 100) / 16 = i by unfold sS; omega, show (sS i + 3 - 100) % 16 = 3 by unfold sS; omega]
theorem sh_S4 {i : Nat} (hi : i < 12) : am_sh xx (sS i + 4) = shS i 4 := by
  show (if sS i + 4 < 100 then _ else if sS i + 4 < 292 then shS ((sS i + 4 - 100) / 16) ((sS i + 4 - 100) % 16) else none) = _
  rw [if_neg (by unfold sS; omega), if_pos (by unfold sS; omega), show (sS i + 4 - 100) / 16 = i by unfold sS; omega, show (sS i + 4 - 100) % 16 = 4 by unfold sS; omega]
theorem sh_S5 {i : Nat} (hi : i < 12) : am_sh xx (sS i + 5) = shS i 5 := by
  show (if sS i + 5 < 100 then _ else if sS i + 5 < 292 then shS ((sS i + 5 - 100) / 16) ((sS i + 5 - 100) % 16) else none) = _
  rw [if_neg (by unfold sS; omega), if_pos (by unfold sS; omega), show (sS i + 5 - 100) / 16 = i by unfold sS; omega, show (sS i + 5 - 100) % 16 = 5 by unfold sS; omega]
theorem sh_S6 {i : Nat} (hi : i < 12) : am_sh xx (sS i + 6) = shS i 6 := by
  show (if sS i + 6 < 100 then _ else if sS i + 6 < 292 then shS ((sS i + 6 - 100) / 16) ((sS i + 6 - 100) % 16) else none) = _
  rw [if_neg (by unfold sS; omega), if_pos (by unfold sS; omega), show (sS i + 6 - 100) / 16 = i by unfold sS; omega, show (sS i + 6 - 100) % 16 = 6 by unfold sS; omega]
theorem sh_S7 {i : Nat} (hi : i < 12) : am_sh xx (sS i + 7) = shS i 7 := by
  show (if sS i + 7 < 100 then _ else if sS i + 7 < 292 then shS ((sS i + 7 - 100) / 16) ((sS i + 7 - 100) % 16) else none) = _
  rw [if_neg (by unfold sS; omega), if_pos (by unfold sS; omega), show (sS i + 7 - 100) / 16 = i by unfold sS; omega, show (sS i + 7 - 100) % 16 = 7 by unfold sS; omega]
theorem sh_S8 {i : Nat} (hi : i < 12) : am_sh xx (sS i + 8) = shS i 8 := by
  show (if sS i + 8 < 100 then _ else if sS i + 8 < 292 then shS ((sS i + 8 - 100) / 16) ((sS i + 8 - 100) % 16) else none) = _
  rw [if_neg (by unfold sS; omega), if_pos (by unfold sS; omega), show (sS i + 8 - 100) / 16 = i by unfold sS; omega, show (sS i + 8 - 100) % 16 = 8 by unfold sS; omega]
theorem sh_S9 {i : Nat} (hi : i < 12) : am_sh xx (sS i + 9) = shS i 9 := by
  show (if sS i + 9 < 100 then _ else if sS i + 9 < 292 then shS ((sS i + 9 - 100) / 16) ((sS i + 9 - 100) % 16) else none) = _
  rw [if_neg (by unfold sS; omega), if_pos (by unfold sS; omega), show (sS i + 9 - 100) / 16 = i by unfold sS; omega, show (sS i + 9 - 100) % 16 = 9 by unfold sS; omega]
theorem wr_S {i k : Nat} (hi : i < 12) (hk : k < 16) : am_wr xx (sS i + k) = true := decide_eq_true (by unfold sS; omega)
theorem in_X1 : ∀ w ∈ u_ws RX1 TX1 8, w ∈ am_WS xx := x_all [241, 243, 245, 247, 249, 251, 253, 255] (by decide +kernel)
theorem in_X2 : ∀ w ∈ u_ws RX2 TX2 2, w ∈ am_WS xx := x_all [406, 408] (by decide +kernel)
theorem in_X3 : ∀ w ∈ u_ws RX3 TX3 6, w ∈ am_WS xx := x_all [431, 433, 435, 437, 439, 441] (by decide +kernel)
theorem in_X4 : ∀ w ∈ u_ws RX4 TX4 3, w ∈ am_WS xx := x_all [320, 322, 324] (by decide +kernel)
theorem in_X6 : ∀ w ∈ u_ws RX6 TX6 8, w ∈ am_WS xx := x_all [190, 192, 194, 196, 198, 200, 202, 204] (by decide +kernel)
theorem in_X7 : ∀ w ∈ u_ws RX7 TX7 5, w ∈ am_WS xx := x_all [372, 374, 376, 378, 380] (by decide +kernel)
theorem in_X8 : ∀ w ∈ u_ws RX8 TX8 9, w ∈ am_WS xx := x_all [288, 290, 292, 294, 296, 298, 300, 302, 304] (by decide +kernel)
theorem in_X9 : ∀ w ∈ u_ws RX9 TX9 7, w ∈ am_WS xx := x_all [340, 342, 344, 346, 348, 350, 352] (by decide +kernel)
theorem in_X10 : ∀ w ∈ u_ws RX10 TX10 1, w ∈ am_WS xx := x_all [393] (by decide +kernel)
theorem in_X11 : ∀ w ∈ u_ws RX11 TX11 16, w ∈ am_WS xx := x_all [461, 463, 465, 467, 469, 471, 473, 475, 477, 479, 481, 483, 485, 487, 489, 491] (by decide +kernel)
theorem gf_X6_9 : am_gf xx RX6 9 7 0 := ⟨RX6, TX6, 8, rfl, in_X6, by decide, x_in 151 (by decide +kernel)⟩
theorem gf_X8_64 : am_gf xx RX8 64 7 0 := ⟨RX6, TX6, 8, rfl, in_X6, by decide, x_in 152 (by decide +kernel)⟩
theorem gf_X2_37 : am_gf xx RX2 37 7 0 := ⟨RX6, TX6, 8, rfl, in_X6, by decide, x_in 153 (by decide +kernel)⟩
theorem gf_X11_131 : am_gf xx RX11 131 7 0 := ⟨RX6, TX6, 8, rfl, in_X6, by decide, x_in 154 (by decide +kernel)⟩
theorem gf_X6_15 : am_gf xx RX6 15 7 1 := ⟨RX6, TX6, 8, rfl, in_X6, by decide, x_in 155 (by decide +kernel)⟩
theorem gf_X7_45 : am_gf xx RX7 45 7 1 := ⟨RX6, TX6, 8, rfl, in_X6, by decide, x_in 156 (by decide +kernel)⟩
theorem gf_X2_63 : am_gf xx RX2 63 7 1 := ⟨RX6, TX6, 8, rfl, in_X6, by decide, x_in 157 (by decide +kernel)⟩
theorem gf_X9_80 : am_gf xx RX9 80 7 1 := ⟨RX6, TX6, 8, rfl, in_X6, by decide, x_in 158 (by decide +kernel)⟩
theorem gf_X11_138 : am_gf xx RX11 138 7 1 := ⟨RX6, TX6, 8, rfl, in_X6, by decide, x_in 159 (by decide +kernel)⟩
theorem gf_X6_18 : am_gf xx RX6 18 7 2 := ⟨RX6, TX6, 8, rfl, in_X6, by decide, x_in 160 (by decide +kernel)⟩
theorem gf_X7_48 : am_gf xx RX7 48 7 2 := ⟨RX6, TX6, 8, rfl, in_X6, by decide, x_in 161 (by decide +kernel)⟩
theorem gf_X2_66 : am_gf xx RX2 66 7 2 := ⟨RX6, TX6, 8, rfl, in_X6, by decide, x_in 162 (by decide +kernel)⟩
theorem gf_X9_83 : am_gf xx RX9 83 7 2 := ⟨RX6, TX6, 8, rfl, in_X6, by decide, x_in 163 (by decide +kernel)⟩
theorem gf_X11_141 : am_gf xx RX11 141 7 2 := ⟨RX6, TX6, 8, rfl, in_X6, by decide, x_in 164 (by decide +kernel)⟩
theorem gf_X6_21 : am_gf xx RX6 21 7 3 := ⟨RX6, TX6, 8, rfl, in_X6, by decide, x_in 165 (by decide +kernel)⟩
theorem gf_X7_55 : am_gf xx RX7 55 7 3 := ⟨RX6, TX6, 8, rfl, in_X6, by decide, x_in 166 (by decide +kernel)⟩
theorem gf_X10_91 : am_gf xx RX10 91 7 3 := ⟨RX6, TX6, 8, rfl, in_X6, by decide, x_in 167 (by decide +kernel)⟩
theorem gf_X8_73 : am_gf xx RX8 73 7 3 := ⟨RX6, TX6, 8, rfl, in_X6, by decide, x_in 168 (by decide +kernel)⟩
theorem gf_X2_69 : am_gf xx RX2 69 7 3 := ⟨RX6, TX6, 8, rfl, in_X6, by decide, x_in 169 (by decide +kernel)⟩
theorem gf_X9_74 : am_gf xx RX9 74 7 3 := ⟨RX6, TX6, 8, rfl, in_X6, by decide, x_in 170 (by decide +kernel)⟩
theorem gf_X11_144 : am_gf xx RX11 144 7 3 := ⟨RX6, TX6, 8, rfl, in_X6, by decide, x_in 171 (by decide +kernel)⟩
theorem gf_X6_24 : am_gf xx RX6 24 7 4 := ⟨RX6, TX6, 8, rfl, in_X6, by decide, x_in 172 (by decide +kernel)⟩
theorem gf_X2_72 : am_gf xx RX2 72 7 4 := ⟨RX6, TX6, 8, rfl, in_X6, by decide, x_in 173 (by decide +kernel)⟩
theorem gf_X11_147 : am_gf xx RX11 147 7 4 := ⟨RX6, TX6, 8, rfl, in_X6, by decide, x_in 174 (by decide +kernel)⟩
theorem gf_X6_27 : am_gf xx RX6 27 7 5 := ⟨RX6, TX6, 8, rfl, in_X6, by decide, x_in 175 (by decide +kernel)⟩
theorem pf_X6_27 : am_pf xx RX6 27 7 5 .int := ⟨RX6, TX6, 8, tyX6, rfl, in_X6, by decide, x_in 175 (by decide +kernel), tyX6_ok, nmX6, rfl, by decide +kernel⟩
theorem gf_X2_75 : am_gf xx RX2 75 7 5 := ⟨RX6, TX6, 8, rfl, in_X6, by decide, x_in 176 (by decide +kernel)⟩
theorem pf_X2_75 : am_pf xx RX2 75 7 5 .int := ⟨RX6, TX6, 8, tyX6, rfl, in_X6, by decide, x_in 176 (by decide +kernel), tyX6_ok, nmX6, rfl, by decide +kernel⟩
theorem gf_X6_31 : am_gf xx RX6 31 7 6 := ⟨RX6, TX6, 8, rfl, in_X6, by decide, x_in 177 (by decide +kernel)⟩
theorem pf_X6_31 : am_pf xx RX6 31 7 6 .int := ⟨RX6, TX6, 8, tyX6, rfl, in_X6, by decide, x_in 177 (by decide +kernel), tyX6_ok, nmX6, rfl, by decide +kernel⟩
theorem gf_X8_48 : am_gf xx RX8 48 7 6 := ⟨RX6, TX6, 8, rfl, in_X6, by decide, x_in 178 (by decide +kernel)⟩
theorem pf_X8_48 : am_pf xx RX8 48 7 6 .int := ⟨RX6, TX6, 8, tyX6, rfl, in_X6, by decide, x_in 178 (by decide +kernel), tyX6_ok, nmX6, rfl, by decide +kernel⟩
theorem gf_X9_34 : am_gf xx RX9 34 7 6 := ⟨RX6, TX6, 8, rfl, in_X6, by decide, x_in 179 (by decide +kernel)⟩
theorem pf_X9_34 : am_pf xx RX9 34 7 6 .int := ⟨RX6, TX6, 8, tyX6, rfl, in_X6, by decide, x_in 179 (by decide +kernel), tyX6_ok, nmX6, rfl, by decide +kernel⟩
theorem gf_X10_38 : am_gf xx RX10 38 7 6 := ⟨RX6, TX6, 8, rfl, in_X6, by decide, x_in 180 (by decide +kernel)⟩
theorem pf_X10_38 : am_pf xx RX10 38 7 6 .int := ⟨RX6, TX6, 8, tyX6, rfl, in_X6, by decide, x_in 180 (by decide +kernel), tyX6_ok, nmX6, rfl, by decide +kernel⟩
theorem gf_X7_28 : am_gf xx RX7 28 7 6 := ⟨RX6, TX6, 8, rfl, in_X6, by decide, x_in 181 (by decide +kernel)⟩
theorem pf_X7_28 : am_pf xx RX7 28 7 6 .int := ⟨RX6, TX6, 8, tyX6, rfl, in_X6, by decide, x_in 181 (by decide +kernel), tyX6_ok, nmX6, rfl, by decide +kernel⟩
theorem gf_X2_28 : am_gf xx RX2 28 7 6 := ⟨RX6, TX6, 8, rfl, in_X6, by decide, x_in 182 (by decide +kernel)⟩
theorem pf_X2_28 : am_pf xx RX2 28 7 6 .int := ⟨RX6, TX6, 8, tyX6, rfl, in_X6, by decide, x_in 182 (by decide +kernel), tyX6_ok, nmX6, rfl, by decide +kernel⟩
theorem gf_X11_119 : am_gf xx RX11 119 7 6 := ⟨RX6, TX6, 8, rfl, in_X6, by decide, x_in 183 (by decide +kernel)⟩
theorem pf_X11_119 : am_pf xx RX11 119 7 6 .int := ⟨RX6, TX6, 8, tyX6, rfl, in_X6, by decide, x_in 183 (by decide +kernel), tyX6_ok, nmX6, rfl, by decide +kernel⟩
theorem gf_X6_34 : am_gf xx RX6 34 7 7 := ⟨RX6, TX6, 8, rfl, in_X6, by decide, x_in 184 (by decide +kernel)⟩
theorem pf_X6_34 : am_pf xx RX6 34 7 7 .int := ⟨RX6, TX6, 8, tyX6, rfl, in_X6, by decide, x_in 184 (by decide +kernel), tyX6_ok, nmX6, rfl, by decide +kernel⟩
theorem gf_X9_39 : am_gf xx RX9 39 7 7 := ⟨RX6, TX6, 8, rfl, in_X6, by decide, x_in 185 (by decide +kernel)⟩
theorem pf_X9_39 : am_pf xx RX9 39 7 7 .int := ⟨RX6, TX6, 8, tyX6, rfl, in_X6, by decide, x_in 185 (by decide +kernel), tyX6_ok, nmX6, rfl, by decide +kernel⟩
theorem gf_X7_42 : am_gf xx RX7 42 7 7 := ⟨RX6, TX6, 8, rfl, in_X6, by decide, x_in 186 (by decide +kernel)⟩
theorem pf_X7_42 : am_pf xx RX7 42 7 7 .int := ⟨RX6, TX6, 8, tyX6, rfl, in_X6, by decide, x_in 186 (by decide +kernel), tyX6_ok, nmX6, rfl, by decide +kernel⟩
theorem gf_X8_67 : am_gf xx RX8 67 7 7 := ⟨RX6, TX6, 8, rfl, in_X6, by decide, x_in 187 (by decide +kernel)⟩
theorem pf_X8_67 : am_pf xx RX8 67 7 7 .int := ⟨RX6, TX6, 8, tyX6, rfl, in_X6, by decide, x_in 187 (by decide +kernel), tyX6_ok, nmX6, rfl, by decide +kernel⟩
theorem gf_X2_53 : am_gf xx RX2 53 7 7 := ⟨RX6, TX6, 8, rfl, in_X6, by decide, x_in 188 (by decide +kernel)⟩
theorem pf_X2_53 : am_pf xx RX2 53 7 7 .int := ⟨RX6, TX6, 8, tyX6, rfl, in_X6, by decide, x_in 188 (by decide +kernel), tyX6_ok, nmX6, rfl, by decide +kernel⟩
theorem gf_X11_124 : am_gf xx RX11 124 7 7 := ⟨RX6, TX6, 8, rfl, in_X6, by decide, x_in 189 (by decide +kernel)⟩
theorem pf_X11_124 : am_pf xx RX11 124 7 7 .int := ⟨RX6, TX6, 8, tyX6, rfl, in_X6, by decide, x_in 189 (by decide +kernel), tyX6_ok, nmX6, rfl, by decide +kernel⟩
theorem gf_X1_9 : am_gf xx RX1 9 3 0 := ⟨RX1, TX1, 8, rfl, in_X1, by decide, x_in 214 (by decide +kernel)⟩
theorem gf_X10_68 : am_gf xx RX10 68 3 0 := ⟨RX1, TX1, 8, rfl, in_X1, by decide, x_in 215 (by decide +kernel)⟩
theorem gf_X8_55 : am_gf xx RX8 55 3 0 := ⟨RX1, TX1, 8, rfl, in_X1, by decide, x_in 216 (by decide +kernel)⟩
theorem gf_X2_45 : am_gf xx RX2 45 3 0 := ⟨RX1, TX1, 8, rfl, in_X1, by decide, x_in 217 (by decide +kernel)⟩
theorem gf_X11_267 : am_gf xx RX11 267 3 0 := ⟨RX1, TX1, 8, rfl, in_X1, by decide, x_in 218 (by decide +kernel)⟩
theorem gf_X1_15 : am_gf xx RX1 15 3 1 := ⟨RX1, TX1, 8, rfl, in_X1, by decide, x_in 219 (by decide +kernel)⟩
theorem pf_X1_15 : am_pf xx RX1 15 3 1 .int := ⟨RX1, TX1, 8, tyX1, rfl, in_X1, by decide, x_in 219 (by decide +kernel), tyX1_ok, nmX1, rfl, by decide +kernel⟩
theorem gf_X2_109 : am_gf xx RX2 109 3 1 := ⟨RX1, TX1, 8, rfl, in_X1, by decide, x_in 220 (by decide +kernel)⟩
theorem pf_X2_109 : am_pf xx RX2 109 3 1 .int := ⟨RX1, TX1, 8, tyX1, rfl, in_X1, by decide, x_in 220 (by decide +kernel), tyX1_ok, nmX1, rfl, by decide +kernel⟩
theorem gf_X11_428 : am_gf xx RX11 428 3 1 := ⟨RX1, TX1, 8, rfl, in_X1, by decide, x_in 221 (by decide +kernel)⟩
theorem pf_X11_428 : am_pf xx RX11 428 3 1 .int := ⟨RX1, TX1, 8, tyX1, rfl, in_X1, by decide, x_in 221 (by decide +kernel), tyX1_ok, nmX1, rfl, by decide +kernel⟩
theorem gf_X1_19 : am_gf xx RX1 19 3 2 := ⟨RX1, TX1, 8, rfl, in_X1, by decide, x_in 222 (by decide +kernel)⟩
theorem pf_X1_19 : am_pf xx RX1 19 3 2 .boolean := ⟨RX1, TX1, 8, tyX1, rfl, in_X1, by decide, x_in 222 (by decide +kernel), tyX1_ok, nmX1, rfl, by decide +kernel⟩
theorem gf_X10_121 : am_gf xx RX10 121 3 2 := ⟨RX1, TX1, 8, rfl, in_X1, by decide, x_in 223 (by decide +kernel)⟩
theorem pf_X10_121 : am_pf xx RX10 121 3 2 .boolean := ⟨RX1, TX1, 8, tyX1, rfl, in_X1, by decide, x_in 223 (by decide +kernel), tyX1_ok, nmX1, rfl, by decide +kernel⟩
theorem gf_X2_90 : am_gf xx RX2 90 3 2 := ⟨RX1, TX1, 8, rfl, in_X1, by decide, x_in 224 (by decide +kernel)⟩
theorem pf_X2_90 : am_pf xx RX2 90 3 2 .boolean := ⟨RX1, TX1, 8, tyX1, rfl, in_X1, by decide, x_in 224 (by decide +kernel), tyX1_ok, nmX1, rfl, by decide +kernel⟩
theorem gf_X11_250 : am_gf xx RX11 250 3 2 := ⟨RX1, TX1, 8, rfl, in_X1, by decide, x_in 225 (by decide +kernel)⟩
theorem pf_X11_250 : am_pf xx RX11 250 3 2 .boolean := ⟨RX1, TX1, 8, tyX1, rfl, in_X1, by decide, x_in 225 (by decide +kernel), tyX1_ok, nmX1, rfl, by decide +kernel⟩
theorem gf_X1_23 : am_gf xx RX1 23 3 3 := ⟨RX1, TX1, 8, rfl, in_X1, by decide, x_in 226 (by decide +kernel)⟩
theorem pf_X1_23 : am_pf xx RX1 23 3 3 .int := ⟨RX1, TX1, 8, tyX1, rfl, in_X1, by decide, x_in 226 (by decide +kernel), tyX1_ok, nmX1, rfl, by decide +kernel⟩
theorem gf_X10_28 : am_gf xx RX10 28 3 3 := ⟨RX1, TX1, 8, rfl, in_X1, by decide, x_in 227 (by decide +kernel)⟩
theorem pf_X10_28 : am_pf xx RX10 28 3 3 .int := ⟨RX1, TX1, 8, tyX1, rfl, in_X1, by decide, x_in 227 (by decide +kernel), tyX1_ok, nmX1, rfl, by decide +kernel⟩
theorem gf_X2_97 : am_gf xx RX2 97 3 3 := ⟨RX1, TX1, 8, rfl, in_X1, by decide, x_in 228 (by decide +kernel)⟩
theorem pf_X2_97 : am_pf xx RX2 97 3 3 .int := ⟨RX1, TX1, 8, tyX1, rfl, in_X1, by decide, x_in 228 (by decide +kernel), tyX1_ok, nmX1, rfl, by decide +kernel⟩
theorem gf_X11_258 : am_gf xx RX11 258 3 3 := ⟨RX1, TX1, 8, rfl, in_X1, by decide, x_in 229 (by decide +kernel)⟩
theorem pf_X11_258 : am_pf xx RX11 258 3 3 .int := ⟨RX1, TX1, 8, tyX1, rfl, in_X1, by decide, x_in 229 (by decide +kernel), tyX1_ok, nmX1, rfl, by decide +kernel⟩
theorem gf_X1_26 : am_gf xx RX1 26 3 4 := ⟨RX1, TX1, 8, rfl, in_X1, by decide, x_in 230 (by decide +kernel)⟩
theorem pf_X1_26 : am_pf xx RX1 26 3 4 .int := ⟨RX1, TX1, 8, tyX1, rfl, in_X1, by decide, x_in 230 (by decide +kernel), tyX1_ok, nmX1, rfl, by decide +kernel⟩
theorem gf_X2_100 : am_gf xx RX2 100 3 4 := ⟨RX1, TX1, 8, rfl, in_X1, by decide, x_in 231 (by decide +kernel)⟩
theorem pf_X2_100 : am_pf xx RX2 100 3 4 .int := ⟨RX1, TX1, 8, tyX1, rfl, in_X1, by decide, x_in 231 (by decide +kernel), tyX1_ok, nmX1, rfl, by decide +kernel⟩
theorem gf_X1_29 : am_gf xx RX1 29 3 5 := ⟨RX1, TX1, 8, rfl, in_X1, by decide, x_in 232 (by decide +kernel)⟩
theorem pf_X1_29 : am_pf xx RX1 29 3 5 .boolean := ⟨RX1, TX1, 8, tyX1, rfl, in_X1, by decide, x_in 232 (by decide +kernel), tyX1_ok, nmX1, rfl, by decide +kernel⟩
theorem gf_X10_54 : am_gf xx RX10 54 3 5 := ⟨RX1, TX1, 8, rfl, in_X1, by decide, x_in 233 (by decide +kernel)⟩
theorem pf_X10_54 : am_pf xx RX10 54 3 5 .boolean := ⟨RX1, TX1, 8, tyX1, rfl, in_X1, by decide, x_in 233 (by decide +kernel), tyX1_ok, nmX1, rfl, by decide +kernel⟩
theorem gf_X2_103 : am_gf xx RX2 103 3 5 := ⟨RX1, TX1, 8, rfl, in_X1, by decide, x_in 234 (by decide +kernel)⟩
theorem pf_X2_103 : am_pf xx RX2 103 3 5 .boolean := ⟨RX1, TX1, 8, tyX1, rfl, in_X1, by decide, x_in 234 (by decide +kernel), tyX1_ok, nmX1, rfl, by decide +kernel⟩
theorem gf_X1_32 : am_gf xx RX1 32 3 6 := ⟨RX1, TX1, 8, rfl, in_X1, by decide, x_in 235 (by decide +kernel)⟩
theorem pf_X1_32 : am_pf xx RX1 32 3 6 .int := ⟨RX1, TX1, 8, tyX1, rfl, in_X1, by decide, x_in 235 (by decide +kernel), tyX1_ok, nmX1, rfl, by decide +kernel⟩
theorem gf_X10_62 : am_gf xx RX10 62 3 6 := ⟨RX1, TX1, 8, rfl, in_X1, by decide, x_in 236 (by decide +kernel)⟩
theorem pf_X10_62 : am_pf xx RX10 62 3 6 .int := ⟨RX1, TX1, 8, tyX1, rfl, in_X1, by decide, x_in 236 (by decide +kernel), tyX1_ok, nmX1, rfl, by decide +kernel⟩
theorem gf_X2_94 : am_gf xx RX2 94 3 6 := ⟨RX1, TX1, 8, rfl, in_X1, by decide, x_in 237 (by decide +kernel)⟩
theorem pf_X2_94 : am_pf xx RX2 94 3 6 .int := ⟨RX1, TX1, 8, tyX1, rfl, in_X1, by decide, x_in 237 (by decide +kernel), tyX1_ok, nmX1, rfl, by decide +kernel⟩
theorem gf_X1_35 : am_gf xx RX1 35 3 7 := ⟨RX1, TX1, 8, rfl, in_X1, by decide, x_in 238 (by decide +kernel)⟩
theorem pf_X1_35 : am_pf xx RX1 35 3 7 .int := ⟨RX1, TX1, 8, tyX1, rfl, in_X1, by decide, x_in 238 (by decide +kernel), tyX1_ok, nmX1, rfl, by decide +kernel⟩
theorem gf_X10_94 : am_gf xx RX10 94 3 7 := ⟨RX1, TX1, 8, rfl, in_X1, by decide, x_in 239 (by decide +kernel)⟩
theorem pf_X10_94 : am_pf xx RX10 94 3 7 .int := ⟨RX1, TX1, 8, tyX1, rfl, in_X1, by decide, x_in 239 (by decide +kernel), tyX1_ok, nmX1, rfl, by decide +kernel⟩
theorem gf_X2_87 : am_gf xx RX2 87 3 7 := ⟨RX1, TX1, 8, rfl, in_X1, by decide, x_in 240 (by decide +kernel)⟩
theorem pf_X2_87 : am_pf xx RX2 87 3 7 .int := ⟨RX1, TX1, 8, tyX1, rfl, in_X1, by decide, x_in 240 (by decide +kernel), tyX1_ok, nmX1, rfl, by decide +kernel⟩
theorem gf_X8_12 : am_gf xx RX8 12 9 0 := ⟨RX8, TX8, 9, rfl, in_X8, by decide, x_in 258 (by decide +kernel)⟩
theorem gf_X10_18 : am_gf xx RX10 18 9 0 := ⟨RX8, TX8, 9, rfl, in_X8, by decide, x_in 259 (by decide +kernel)⟩
theorem gf_X2_18 : am_gf xx RX2 18 9 0 := ⟨RX8, TX8, 9, rfl, in_X8, by decide, x_in 260 (by decide +kernel)⟩
theorem gf_X11_115 : am_gf xx RX11 115 9 0 := ⟨RX8, TX8, 9, rfl, in_X8, by decide, x_in 261 (by decide +kernel)⟩
theorem gf_X8_21 : am_gf xx RX8 21 9 1 := ⟨RX8, TX8, 9, rfl, in_X8, by decide, x_in 262 (by decide +kernel)⟩
theorem gf_X10_24 : am_gf xx RX10 24 9 1 := ⟨RX8, TX8, 9, rfl, in_X8, by decide, x_in 263 (by decide +kernel)⟩
theorem gf_X2_41 : am_gf xx RX2 41 9 1 := ⟨RX8, TX8, 9, rfl, in_X8, by decide, x_in 264 (by decide +kernel)⟩
theorem gf_X11_246 : am_gf xx RX11 246 9 1 := ⟨RX8, TX8, 9, rfl, in_X8, by decide, x_in 265 (by decide +kernel)⟩
theorem gf_X8_25 : am_gf xx RX8 25 9 2 := ⟨RX8, TX8, 9, rfl, in_X8, by decide, x_in 266 (by decide +kernel)⟩
theorem gf_X10_82 : am_gf xx RX10 82 9 2 := ⟨RX8, TX8, 9, rfl, in_X8, by decide, x_in 267 (by decide +kernel)⟩
theorem gf_X2_78 : am_gf xx RX2 78 9 2 := ⟨RX8, TX8, 9, rfl, in_X8, by decide, x_in 268 (by decide +kernel)⟩
theorem gf_X11_302 : am_gf xx RX11 302 9 2 := ⟨RX8, TX8, 9, rfl, in_X8, by decide, x_in 269 (by decide +kernel)⟩
theorem gf_X8_29 : am_gf xx RX8 29 9 3 := ⟨RX8, TX8, 9, rfl, in_X8, by decide, x_in 270 (by decide +kernel)⟩
theorem pf_X8_29 : am_pf xx RX8 29 9 3 .int := ⟨RX8, TX8, 9, tyX8, rfl, in_X8, by decide, x_in 270 (by decide +kernel), tyX8_ok, nmX8, rfl, by decide +kernel⟩
theorem gf_X10_85 : am_gf xx RX10 85 9 3 := ⟨RX8, TX8, 9, rfl, in_X8, by decide, x_in 271 (by decide +kernel)⟩
theorem pf_X10_85 : am_pf xx RX10 85 9 3 .int := ⟨RX8, TX8, 9, tyX8, rfl, in_X8, by decide, x_in 271 (by decide +kernel), tyX8_ok, nmX8, rfl, by decide +kernel⟩
theorem gf_X11_287 : am_gf xx RX11 287 9 3 := ⟨RX8, TX8, 9, rfl, in_X8, by decide, x_in 272 (by decide +kernel)⟩
theorem pf_X11_287 : am_pf xx RX11 287 9 3 .int := ⟨RX8, TX8, 9, tyX8, rfl, in_X8, by decide, x_in 272 (by decide +kernel), tyX8_ok, nmX8, rfl, by decide +kernel⟩
theorem gf_X8_33 : am_gf xx RX8 33 9 4 := ⟨RX8, TX8, 9, rfl, in_X8, by decide, x_in 273 (by decide +kernel)⟩
theorem pf_X8_33 : am_pf xx RX8 33 9 4 .int := ⟨RX8, TX8, 9, tyX8, rfl, in_X8, by decide, x_in 273 (by decide +kernel), tyX8_ok, nmX8, rfl, by decide +kernel⟩
theorem gf_X10_101 : am_gf xx RX10 101 9 4 := ⟨RX8, TX8, 9, rfl, in_X8, by decide, x_in 274 (by decide +kernel)⟩
theorem pf_X10_101 : am_pf xx RX10 101 9 4 .int := ⟨RX8, TX8, 9, tyX8, rfl, in_X8, by decide, x_in 274 (by decide +kernel), tyX8_ok, nmX8, rfl, by decide +kernel⟩
theorem gf_X11_290 : am_gf xx RX11 290 9 4 := ⟨RX8, TX8, 9, rfl, in_X8, by decide, x_in 275 (by decide +kernel)⟩
theorem pf_X11_290 : am_pf xx RX11 290 9 4 .int := ⟨RX8, TX8, 9, tyX8, rfl, in_X8, by decide, x_in 275 (by decide +kernel), tyX8_ok, nmX8, rfl, by decide +kernel⟩
theorem gf_X8_36 : am_gf xx RX8 36 9 5 := ⟨RX8, TX8, 9, rfl, in_X8, by decide, x_in 276 (by decide +kernel)⟩
theorem pf_X8_36 : am_pf xx RX8 36 9 5 .int := ⟨RX8, TX8, 9, tyX8, rfl, in_X8, by decide, x_in 276 (by decide +kernel), tyX8_ok, nmX8, rfl, by decide +kernel⟩
theorem gf_X10_114 : am_gf xx RX10 114 9 5 := ⟨RX8, TX8, 9, rfl, in_X8, by decide, x_in 277 (by decide +kernel)⟩
theorem pf_X10_114 : am_pf xx RX10 114 9 5 .int := ⟨RX8, TX8, 9, tyX8, rfl, in_X8, by decide, x_in 277 (by decide +kernel), tyX8_ok, nmX8, rfl, by decide +kernel⟩
theorem gf_X11_293 : am_gf xx RX11 293 9 5 := ⟨RX8, TX8, 9, rfl, in_X8, by decide, x_in 278 (by decide +kernel)⟩
theorem pf_X11_293 : am_pf xx RX11 293 9 5 .int := ⟨RX8, TX8, 9, tyX8, rfl, in_X8, by decide, x_in 278 (by decide +kernel), tyX8_ok, nmX8, rfl, by decide +kernel⟩
theorem gf_X8_39 : am_gf xx RX8 39 9 6 := ⟨RX8, TX8, 9, rfl, in_X8, by decide, x_in 279 (by decide +kernel)⟩
theorem pf_X8_39 : am_pf xx RX8 39 9 6 .int := ⟨RX8, TX8, 9, tyX8, rfl, in_X8, by decide, x_in 279 (by decide +kernel), tyX8_ok, nmX8, rfl, by decide +kernel⟩
theorem gf_X10_88 : am_gf xx RX10 88 9 6 := ⟨RX8, TX8, 9, rfl, in_X8, by decide, x_in 280 (by decide +kernel)⟩
theorem pf_X10_88 : am_pf xx RX10 88 9 6 .int := ⟨RX8, TX8, 9, tyX8, rfl, in_X8, by decide, x_in 280 (by decide +kernel), tyX8_ok, nmX8, rfl, by decide +kernel⟩
theorem gf_X11_284 : am_gf xx RX11 284 9 6 := ⟨RX8, TX8, 9, rfl, in_X8, by decide, x_in 281 (by decide +kernel)⟩
theorem pf_X11_284 : am_pf xx RX11 284 9 6 .int := ⟨RX8, TX8, 9, tyX8, rfl, in_X8, by decide, x_in 281 (by decide +kernel), tyX8_ok, nmX8, rfl, by decide +kernel⟩
theorem gf_X8_42 : am_gf xx RX8 42 9 7 := ⟨RX8, TX8, 9, rfl, in_X8, by decide, x_in 282 (by decide +kernel)⟩
theorem pf_X8_42 : am_pf xx RX8 42 9 7 .int := ⟨RX8, TX8, 9, tyX8, rfl, in_X8, by decide, x_in 282 (by decide +kernel), tyX8_ok, nmX8, rfl, by decide +kernel⟩
theorem gf_X10_124 : am_gf xx RX10 124 9 7 := ⟨RX8, TX8, 9, rfl, in_X8, by decide, x_in 283 (by decide +kernel)⟩
theorem pf_X10_124 : am_pf xx RX10 124 9 7 .int := ⟨RX8, TX8, 9, tyX8, rfl, in_X8, by decide, x_in 283 (by decide +kernel), tyX8_ok, nmX8, rfl, by decide +kernel⟩
theorem gf_X11_296 : am_gf xx RX11 296 9 7 := ⟨RX8, TX8, 9, rfl, in_X8, by decide, x_in 284 (by decide +kernel)⟩
theorem pf_X11_296 : am_pf xx RX11 296 9 7 .int := ⟨RX8, TX8, 9, tyX8, rfl, in_X8, by decide, x_in 284 (by decide +kernel), tyX8_ok, nmX8, rfl, by decide +kernel⟩
theorem gf_X8_45 : am_gf xx RX8 45 9 8 := ⟨RX8, TX8, 9, rfl, in_X8, by decide, x_in 285 (by decide +kernel)⟩
theorem pf_X8_45 : am_pf xx RX8 45 9 8 .int := ⟨RX8, TX8, 9, tyX8, rfl, in_X8, by decide, x_in 285 (by decide +kernel), tyX8_ok, nmX8, rfl, by decide +kernel⟩
theorem gf_X10_127 : am_gf xx RX10 127 9 8 := ⟨RX8, TX8, 9, rfl, in_X8, by decide, x_in 286 (by decide +kernel)⟩
theorem pf_X10_127 : am_pf xx RX10 127 9 8 .int := ⟨RX8, TX8, 9, tyX8, rfl, in_X8, by decide, x_in 286 (by decide +kernel), tyX8_ok, nmX8, rfl, by decide +kernel⟩
theorem gf_X11_299 : am_gf xx RX11 299 9 8 := ⟨RX8, TX8, 9, rfl, in_X8, by decide, x_in 287 (by decide +kernel)⟩
theorem pf_X11_299 : am_pf xx RX11 299 9 8 .int := ⟨RX8, TX8, 9, tyX8, rfl, in_X8, by decide, x_in 287 (by decide +kernel), tyX8_ok, nmX8, rfl, by decide +kernel⟩
theorem gf_X4_13 : am_gf xx RX4 13 6 0 := ⟨RX4, TX4, 3, rfl, in_X4, by decide, x_in 316 (by decide +kernel)⟩
theorem gf_X4_17 : am_gf xx RX4 17 6 1 := ⟨RX4, TX4, 3, rfl, in_X4, by decide, x_in 317 (by decide +kernel)⟩
theorem pf_X4_17 : am_pf xx RX4 17 6 1 .int := ⟨RX4, TX4, 3, tyX4, rfl, in_X4, by decide, x_in 317 (by decide +kernel), tyX4_ok, nmX4, rfl, by decide +kernel⟩
theorem gf_X4_21 : am_gf xx RX4 21 6 2 := ⟨RX4, TX4, 3, rfl, in_X4, by decide, x_in 318 (by decide +kernel)⟩
theorem pf_X4_21 : am_pf xx RX4 21 6 2 .int := ⟨RX4, TX4, 3, tyX4, rfl, in_X4, by decide, x_in 318 (by decide +kernel), tyX4_ok, nmX4, rfl, by decide +kernel⟩
theorem gf_X11_403 : am_gf xx RX11 403 6 2 := ⟨RX4, TX4, 3, rfl, in_X4, by decide, x_in 319 (by decide +kernel)⟩
theorem pf_X11_403 : am_pf xx RX11 403 6 2 .int := ⟨RX4, TX4, 3, tyX4, rfl, in_X4, by decide, x_in 319 (by decide +kernel), tyX4_ok, nmX4, rfl, by decide +kernel⟩
theorem gf_X9_9 : am_gf xx RX9 9 10 0 := ⟨RX9, TX9, 7, rfl, in_X9, by decide, x_in 333 (by decide +kernel)⟩
theorem gf_X9_15 : am_gf xx RX9 15 10 1 := ⟨RX9, TX9, 7, rfl, in_X9, by decide, x_in 334 (by decide +kernel)⟩
theorem gf_X9_18 : am_gf xx RX9 18 10 2 := ⟨RX9, TX9, 7, rfl, in_X9, by decide, x_in 335 (by decide +kernel)⟩
theorem gf_X9_21 : am_gf xx RX9 21 10 3 := ⟨RX9, TX9, 7, rfl, in_X9, by decide, x_in 336 (by decide +kernel)⟩
theorem gf_X9_24 : am_gf xx RX9 24 10 4 := ⟨RX9, TX9, 7, rfl, in_X9, by decide, x_in 337 (by decide +kernel)⟩
theorem gf_X9_27 : am_gf xx RX9 27 10 5 := ⟨RX9, TX9, 7, rfl, in_X9, by decide, x_in 338 (by decide +kernel)⟩
theorem gf_X9_30 : am_gf xx RX9 30 10 6 := ⟨RX9, TX9, 7, rfl, in_X9, by decide, x_in 339 (by decide +kernel)⟩
theorem pf_X9_30 : am_pf xx RX9 30 10 6 .int := ⟨RX9, TX9, 7, tyX9, rfl, in_X9, by decide, x_in 339 (by decide +kernel), tyX9_ok, nmX9, rfl, by decide +kernel⟩
theorem gf_X7_9 : am_gf xx RX7 9 8 0 := ⟨RX7, TX7, 5, rfl, in_X7, by decide, x_in 361 (by decide +kernel)⟩
theorem gf_X10_47 : am_gf xx RX10 47 8 0 := ⟨RX7, TX7, 5, rfl, in_X7, by decide, x_in 362 (by decide +kernel)⟩
theorem gf_X11_209 : am_gf xx RX11 209 8 0 := ⟨RX7, TX7, 5, rfl, in_X7, by decide, x_in 363 (by decide +kernel)⟩
theorem gf_X7_15 : am_gf xx RX7 15 8 1 := ⟨RX7, TX7, 5, rfl, in_X7, by decide, x_in 364 (by decide +kernel)⟩
theorem gf_X10_79 : am_gf xx RX10 79 8 1 := ⟨RX7, TX7, 5, rfl, in_X7, by decide, x_in 365 (by decide +kernel)⟩
theorem gf_X7_18 : am_gf xx RX7 18 8 2 := ⟨RX7, TX7, 5, rfl, in_X7, by decide, x_in 366 (by decide +kernel)⟩
theorem gf_X10_43 : am_gf xx RX10 43 8 2 := ⟨RX7, TX7, 5, rfl, in_X7, by decide, x_in 367 (by decide +kernel)⟩
theorem gf_X11_219 : am_gf xx RX11 219 8 2 := ⟨RX7, TX7, 5, rfl, in_X7, by decide, x_in 368 (by decide +kernel)⟩
theorem gf_X7_21 : am_gf xx RX7 21 8 3 := ⟨RX7, TX7, 5, rfl, in_X7, by decide, x_in 369 (by decide +kernel)⟩
theorem gf_X11_224 : am_gf xx RX11 224 8 3 := ⟨RX7, TX7, 5, rfl, in_X7, by decide, x_in 370 (by decide +kernel)⟩
theorem gf_X7_25 : am_gf xx RX7 25 8 4 := ⟨RX7, TX7, 5, rfl, in_X7, by decide, x_in 371 (by decide +kernel)⟩
theorem gf_X10_12 : am_gf xx RX10 12 11 0 := ⟨RX10, TX10, 1, rfl, in_X10, by decide, x_in 392 (by decide +kernel)⟩
theorem gf_X2_9 : am_gf xx RX2 9 4 0 := ⟨RX2, TX2, 2, rfl, in_X2, by decide, x_in 402 (by decide +kernel)⟩
theorem pf_X2_9 : am_pf xx RX2 9 4 0 .int := ⟨RX2, TX2, 2, tyX2, rfl, in_X2, by decide, x_in 402 (by decide +kernel), tyX2_ok, nmX2, rfl, by decide +kernel⟩
theorem gf_X11_379 : am_gf xx RX11 379 4 0 := ⟨RX2, TX2, 2, rfl, in_X2, by decide, x_in 403 (by decide +kernel)⟩
theorem pf_X11_379 : am_pf xx RX11 379 4 0 .int := ⟨RX2, TX2, 2, tyX2, rfl, in_X2, by decide, x_in 403 (by decide +kernel), tyX2_ok, nmX2, rfl, by decide +kernel⟩
theorem gf_X2_15 : am_gf xx RX2 15 4 1 := ⟨RX2, TX2, 2, rfl, in_X2, by decide, x_in 404 (by decide +kernel)⟩
theorem pf_X2_15 : am_pf xx RX2 15 4 1 .int := ⟨RX2, TX2, 2, tyX2, rfl, in_X2, by decide, x_in 404 (by decide +kernel), tyX2_ok, nmX2, rfl, by decide +kernel⟩
theorem gf_X11_448 : am_gf xx RX11 448 4 1 := ⟨RX2, TX2, 2, rfl, in_X2, by decide, x_in 405 (by decide +kernel)⟩
theorem pf_X11_448 : am_pf xx RX11 448 4 1 .int := ⟨RX2, TX2, 2, tyX2, rfl, in_X2, by decide, x_in 405 (by decide +kernel), tyX2_ok, nmX2, rfl, by decide +kernel⟩
theorem gf_X3_11 : am_gf xx RX3 11 5 0 := ⟨RX3, TX3, 6, rfl, in_X3, by decide, x_in 421 (by decide +kernel)⟩
theorem gf_X11_363 : am_gf xx RX11 363 5 0 := ⟨RX3, TX3, 6, rfl, in_X3, by decide, x_in 422 (by decide +kernel)⟩
theorem gf_X3_19 : am_gf xx RX3 19 5 1 := ⟨RX3, TX3, 6, rfl, in_X3, by decide, x_in 423 (by decide +kernel)⟩
theorem gf_X11_367 : am_gf xx RX11 367 5 1 := ⟨RX3, TX3, 6, rfl, in_X3, by decide, x_in 424 (by decide +kernel)⟩
theorem gf_X3_22 : am_gf xx RX3 22 5 2 := ⟨RX3, TX3, 6, rfl, in_X3, by decide, x_in 425 (by decide +kernel)⟩
theorem pf_X3_22 : am_pf xx RX3 22 5 2 .int := ⟨RX3, TX3, 6, tyX3, rfl, in_X3, by decide, x_in 425 (by decide +kernel), tyX3_ok, nmX3, rfl, by decide +kernel⟩
theorem gf_X11_360 : am_gf xx RX11 360 5 2 := ⟨RX3, TX3, 6, rfl, in_X3, by decide, x_in 426 (by decide +kernel)⟩
theorem pf_X11_360 : am_pf xx RX11 360 5 2 .int := ⟨RX3, TX3, 6, tyX3, rfl, in_X3, by decide, x_in 426 (by decide +kernel), tyX3_ok, nmX3, rfl, by decide +kernel⟩
theorem gf_X3_26 : am_gf xx RX3 26 5 3 := ⟨RX3, TX3, 6, rfl, in_X3, by decide, x_in 427 (by decide +kernel)⟩
theorem pf_X3_26 : am_pf xx RX3 26 5 3 .int := ⟨RX3, TX3, 6, tyX3, rfl, in_X3, by decide, x_in 427 (by decide +kernel), tyX3_ok, nmX3, rfl, by decide +kernel⟩
theorem gf_X11_344 : am_gf xx RX11 344 5 3 := ⟨RX3, TX3, 6, rfl, in_X3, by decide, x_in 428 (by decide +kernel)⟩
theorem pf_X11_344 : am_pf xx RX11 344 5 3 .int := ⟨RX3, TX3, 6, tyX3, rfl, in_X3, by decide, x_in 428 (by decide +kernel), tyX3_ok, nmX3, rfl, by decide +kernel⟩
theorem gf_X3_29 : am_gf xx RX3 29 5 4 := ⟨RX3, TX3, 6, rfl, in_X3, by decide, x_in 429 (by decide +kernel)⟩
theorem gf_X3_33 : am_gf xx RX3 33 5 5 := ⟨RX3, TX3, 6, rfl, in_X3, by decide, x_in 430 (by decide +kernel)⟩
theorem pf_X3_33 : am_pf xx RX3 33 5 5 .int := ⟨RX3, TX3, 6, tyX3, rfl, in_X3, by decide, x_in 430 (by decide +kernel), tyX3_ok, nmX3, rfl, by decide +kernel⟩
theorem gf_X11_10 : am_gf xx RX11 10 12 0 := ⟨RX11, TX11, 16, rfl, in_X11, by decide, x_in 445 (by decide +kernel)⟩
theorem gf_X11_16 : am_gf xx RX11 16 12 1 := ⟨RX11, TX11, 16, rfl, in_X11, by decide, x_in 446 (by decide +kernel)⟩
theorem gf_X11_19 : am_gf xx RX11 19 12 2 := ⟨RX11, TX11, 16, rfl, in_X11, by decide, x_in 447 (by decide +kernel)⟩
theorem gf_X11_25 : am_gf xx RX11 25 12 3 := ⟨RX11, TX11, 16, rfl, in_X11, by decide, x_in 448 (by decide +kernel)⟩
theorem gf_X11_32 : am_gf xx RX11 32 12 4 := ⟨RX11, TX11, 16, rfl, in_X11, by decide, x_in 449 (by decide +kernel)⟩
theorem gf_X11_39 : am_gf xx RX11 39 12 5 := ⟨RX11, TX11, 16, rfl, in_X11, by decide, x_in 450 (by decide +kernel)⟩
theorem gf_X11_46 : am_gf xx RX11 46 12 6 := ⟨RX11, TX11, 16, rfl, in_X11, by decide, x_in 451 (by decide +kernel)⟩
theorem gf_X11_53 : am_gf xx RX11 53 12 7 := ⟨RX11, TX11, 16, rfl, in_X11, by decide, x_in 452 (by decide +kernel)⟩
theorem gf_X11_60 : am_gf xx RX11 60 12 8 := ⟨RX11, TX11, 16, rfl, in_X11, by decide, x_in 453 (by decide +kernel)⟩
theorem gf_X11_64 : am_gf xx RX11 64 12 9 := ⟨RX11, TX11, 16, rfl, in_X11, by decide, x_in 454 (by decide +kernel)⟩
theorem gf_X11_68 : am_gf xx RX11 68 12 10 := ⟨RX11, TX11, 16, rfl, in_X11, by decide, x_in 455 (by decide +kernel)⟩
theorem pf_X11_68 : am_pf xx RX11 68 12 10 .int := ⟨RX11, TX11, 16, tyX11, rfl, in_X11, by decide, x_in 455 (by decide +kernel), tyX11_ok, nmX11, rfl, by decide +kernel⟩
theorem gf_X11_72 : am_gf xx RX11 72 12 11 := ⟨RX11, TX11, 16, rfl, in_X11, by decide, x_in 456 (by decide +kernel)⟩
theorem pf_X11_72 : am_pf xx RX11 72 12 11 .boolean := ⟨RX11, TX11, 16, tyX11, rfl, in_X11, by decide, x_in 456 (by decide +kernel), tyX11_ok, nmX11, rfl, by decide +kernel⟩
theorem gf_X11_76 : am_gf xx RX11 76 12 12 := ⟨RX11, TX11, 16, rfl, in_X11, by decide, x_in 457 (by decide +kernel)⟩
theorem pf_X11_76 : am_pf xx RX11 76 12 12 .int := ⟨RX11, TX11, 16, tyX11, rfl, in_X11, by decide, x_in 457 (by decide +kernel), tyX11_ok, nmX11, rfl, by decide +kernel⟩
theorem gf_X11_79 : am_gf xx RX11 79 12 13 := ⟨RX11, TX11, 16, rfl, in_X11, by decide, x_in 458 (by decide +kernel)⟩
theorem pf_X11_79 : am_pf xx RX11 79 12 13 .int := ⟨RX11, TX11, 16, tyX11, rfl, in_X11, by decide, x_in 458 (by decide +kernel), tyX11_ok, nmX11, rfl, by decide +kernel⟩
theorem gf_X11_82 : am_gf xx RX11 82 12 14 := ⟨RX11, TX11, 16, rfl, in_X11, by decide, x_in 459 (by decide +kernel)⟩
theorem pf_X11_82 : am_pf xx RX11 82 12 14 .int := ⟨RX11, TX11, 16, tyX11, rfl, in_X11, by decide, x_in 459 (by decide +kernel), tyX11_ok, nmX11, rfl, by decide +kernel⟩
theorem gf_X11_85 : am_gf xx RX11 85 12 15 := ⟨RX11, TX11, 16, rfl, in_X11, by decide, x_in 460 (by decide +kernel)⟩
theorem pf_X11_85 : am_pf xx RX11 85 12 15 .int := ⟨RX11, TX11, 16, tyX11, rfl, in_X11, by decide, x_in 460 (by decide +kernel), tyX11_ok, nmX11, rfl, by decide +kernel⟩
end
section
theorem y_inN {w : Cond} (i : Nat) (h : (decide (lw_tbl[i]? = some w) && am_isN w) = true) : w ∈ am_NS xx := by
  unfold am_NS
  dsimp only
  exact x_inN i h
theorem mi_X1_packetTotal : Cond.instanceMethod yX1_packetTotal ∈ am_WS xx ∧ Cond.selects (yX1_packetTotal).cls yX1_packetTotal yX1_packetTotal ∈ am_WS xx ∧ Cond.initialized (yX1_packetTotal).cls ∈ am_WS xx ∧ Cond.code yX1_packetTotal cX1_packetTotal 1 (some .int) ∈ am_WS xx := ⟨x_in 1139 (by decide +kernel), x_in 1140 (by decide +kernel), x_in 97 (by decide +kernel), x_in 1141 (by decide +kernel)⟩
theorem mj_X1_packetTotal : (yX1_packetTotal).cls ≠ "java/lang/invoke/MethodHandle" ∧ (yX1_packetTotal).cls ≠ "java/lang/invoke/VarHandle" ∧ (parseMethodDescriptor (yX1_packetTotal).desc).map (fun d => d.parameters.length) = some 0 := ⟨by decide +kernel, by decide +kernel, by decide +kernel⟩
theorem cv_X1_38 : am_cv xx RX1 38 yX1_packetTotal cX1_packetTotal 1 (some .int) 0 := ⟨x_in 1138 (by decide +kernel), mi_X1_packetTotal.1, mi_X1_packetTotal.2.1, mi_X1_packetTotal.2.2.1, mi_X1_packetTotal.2.2.2, mj_X1_packetTotal⟩
theorem mi_X2_isDigit : Cond.static yX2_isDigit ∈ am_WS xx ∧ Cond.initialized (yX2_isDigit).cls ∈ am_WS xx ∧ Cond.code yX2_isDigit cX2_isDigit 1 (some .boolean) ∈ am_WS xx := ⟨x_in 719 (by decide +kernel), x_in 102 (by decide +kernel), x_in 720 (by decide +kernel)⟩
theorem mj_X2_isDigit : (yX2_isDigit).cls ≠ "java/lang/invoke/MethodHandle" ∧ (yX2_isDigit).cls ≠ "java/lang/invoke/VarHandle" ∧ (parseMethodDescriptor (yX2_isDigit).desc).map (fun d => d.parameters.length) = some 1 := ⟨by decide +kernel, by decide +kernel, by decide +kernel⟩
theorem cs_X2_24 : am_cs xx RX2 24 yX2_isDigit cX2_isDigit 1 (some .boolean) 1 := ⟨x_in 718 (by decide +kernel), mi_X2_isDigit.1, mi_X2_isDigit.2.1, mi_X2_isDigit.2.2, mj_X2_isDigit⟩
theorem mi_X2_reject : Cond.instanceMethod yX2_reject ∈ am_WS xx ∧ Cond.selects (yX2_reject).cls yX2_reject yX2_reject ∈ am_WS xx ∧ Cond.initialized (yX2_reject).cls ∈ am_WS xx ∧ Cond.code yX2_reject cX2_reject 3 (some .int) ∈ am_WS xx := ⟨x_in 723 (by decide +kernel), x_in 11 (by decide +kernel), x_in 102 (by decide +kernel), x_in 724 (by decide +kernel)⟩
theorem mj_X2_reject : (yX2_reject).cls ≠ "java/lang/invoke/MethodHandle" ∧ (yX2_reject).cls ≠ "java/lang/invoke/VarHandle" ∧ (parseMethodDescriptor (yX2_reject).desc).map (fun d => d.parameters.length) = some 2 := ⟨by decide +kernel, by decide +kernel, by decide +kernel⟩
theorem cv_X2_33 : am_cv xx RX2 33 yX2_reject cX2_reject 3 (some .int) 2 := ⟨x_in 721 (by decide +kernel), mi_X2_reject.1, mi_X2_reject.2.1, mi_X2_reject.2.2.1, mi_X2_reject.2.2.2, mj_X2_reject⟩
theorem mi_X6_hasField : Cond.instanceMethod yX6_hasField ∈ am_WS xx ∧ Cond.selects (yX6_hasField).cls yX6_hasField yX6_hasField ∈ am_WS xx ∧ Cond.initialized (yX6_hasField).cls ∈ am_WS xx ∧ Cond.code yX6_hasField cX6_hasField 2 (some .boolean) ∈ am_WS xx := ⟨x_in 875 (by decide +kernel), x_in 876 (by decide +kernel), x_in 96 (by decide +kernel), x_in 877 (by decide +kernel)⟩
theorem mj_X6_hasField : (yX6_hasField).cls ≠ "java/lang/invoke/MethodHandle" ∧ (yX6_hasField).cls ≠ "java/lang/invoke/VarHandle" ∧ (parseMethodDescriptor (yX6_hasField).desc).map (fun d => d.parameters.length) = some 1 := ⟨by decide +kernel, by decide +kernel, by decide +kernel⟩
theorem cv_X2_50 : am_cv xx RX2 50 yX6_hasField cX6_hasField 2 (some .boolean) 1 := ⟨x_in 874 (by decide +kernel), mi_X6_hasField.1, mi_X6_hasField.2.1, mi_X6_hasField.2.2.1, mi_X6_hasField.2.2.2, mj_X6_hasField⟩
theorem mi_X6_closedTotal : Cond.instanceMethod yX6_closedTotal ∈ am_WS xx ∧ Cond.selects (yX6_closedTotal).cls yX6_closedTotal yX6_closedTotal ∈ am_WS xx ∧ Cond.initialized (yX6_closedTotal).cls ∈ am_WS xx ∧ Cond.code yX6_closedTotal cX6_closedTotal 1 (some .int) ∈ am_WS xx := ⟨x_in 890 (by decide +kernel), x_in 891 (by decide +kernel), x_in 96 (by decide +kernel), x_in 892 (by decide +kernel)⟩
theorem mj_X6_closedTotal : (yX6_closedTotal).cls ≠ "java/lang/invoke/MethodHandle" ∧ (yX6_closedTotal).cls ≠ "java/lang/invoke/VarHandle" ∧ (parseMethodDescriptor (yX6_closedTotal).desc).map (fun d => d.parameters.length) = some 0 := ⟨by decide +kernel, by decide +kernel, by decide +kernel⟩
theorem cv_X2_56 : am_cv xx RX2 56 yX6_closedTotal cX6_closedTotal 1 (some .int) 0 := ⟨x_in 889 (by decide +kernel), mi_X6_closedTotal.1, mi_X6_closedTotal.2.1, mi_X6_closedTotal.2.2.1, mi_X6_closedTotal.2.2.2, mj_X6_closedTotal⟩
theorem mi_X6_pathBetween : Cond.instanceMethod yX6_pathBetween ∈ am_WS xx ∧ Cond.selects (yX6_pathBetween).cls yX6_pathBetween yX6_pathBetween ∈ am_WS xx ∧ Cond.initialized (yX6_pathBetween).cls ∈ am_WS xx ∧ Cond.code yX6_pathBetween cX6_pathBetween 5 (some .int) ∈ am_WS xx := ⟨x_in 900 (by decide +kernel), x_in 901 (by decide +kernel), x_in 96 (by decide +kernel), x_in 902 (by decide +kernel)⟩
theorem mj_X6_pathBetween : (yX6_pathBetween).cls ≠ "java/lang/invoke/MethodHandle" ∧ (yX6_pathBetween).cls ≠ "java/lang/invoke/VarHandle" ∧ (parseMethodDescriptor (yX6_pathBetween).desc).map (fun d => d.parameters.length) = some 2 := ⟨by decide +kernel, by decide +kernel, by decide +kernel⟩
theorem cv_X2_60 : am_cv xx RX2 60 yX6_pathBetween cX6_pathBetween 5 (some .int) 2 := ⟨x_in 899 (by decide +kernel), mi_X6_pathBetween.1, mi_X6_pathBetween.2.1, mi_X6_pathBetween.2.2.1, mi_X6_pathBetween.2.2.2, mj_X6_pathBetween⟩
theorem mi_X6_hasPath : Cond.instanceMethod yX6_hasPath ∈ am_WS xx ∧ Cond.selects (yX6_hasPath).cls yX6_hasPath yX6_hasPath ∈ am_WS xx ∧ Cond.initialized (yX6_hasPath).cls ∈ am_WS xx ∧ Cond.code yX6_hasPath cX6_hasPath 2 (some .boolean) ∈ am_WS xx := ⟨x_in 550 (by decide +kernel), x_in 551 (by decide +kernel), x_in 96 (by decide +kernel), x_in 552 (by decide +kernel)⟩
theorem mj_X6_hasPath : (yX6_hasPath).cls ≠ "java/lang/invoke/MethodHandle" ∧ (yX6_hasPath).cls ≠ "java/lang/invoke/VarHandle" ∧ (parseMethodDescriptor (yX6_hasPath).desc).map (fun d => d.parameters.length) = some 1 := ⟨by decide +kernel, by decide +kernel, by decide +kernel⟩
theorem cv_X2_81 : am_cv xx RX2 81 yX6_hasPath cX6_hasPath 2 (some .boolean) 1 := ⟨x_in 915 (by decide +kernel), mi_X6_hasPath.1, mi_X6_hasPath.2.1, mi_X6_hasPath.2.2.1, mi_X6_hasPath.2.2.2, mj_X6_hasPath⟩
theorem mi_X6_isOpen : Cond.instanceMethod yX6_isOpen ∈ am_WS xx ∧ Cond.selects (yX6_isOpen).cls yX6_isOpen yX6_isOpen ∈ am_WS xx ∧ Cond.initialized (yX6_isOpen).cls ∈ am_WS xx ∧ Cond.code yX6_isOpen cX6_isOpen 2 (some .boolean) ∈ am_WS xx := ⟨x_in 522 (by decide +kernel), x_in 523 (by decide +kernel), x_in 96 (by decide +kernel), x_in 524 (by decide +kernel)⟩
theorem mj_X6_isOpen : (yX6_isOpen).cls ≠ "java/lang/invoke/MethodHandle" ∧ (yX6_isOpen).cls ≠ "java/lang/invoke/VarHandle" ∧ (parseMethodDescriptor (yX6_isOpen).desc).map (fun d => d.parameters.length) = some 1 := ⟨by decide +kernel, by decide +kernel, by decide +kernel⟩
theorem cv_X2_84 : am_cv xx RX2 84 yX6_isOpen cX6_isOpen 2 (some .boolean) 1 := ⟨x_in 927 (by decide +kernel), mi_X6_isOpen.1, mi_X6_isOpen.2.1, mi_X6_isOpen.2.2.1, mi_X6_isOpen.2.2.2, mj_X6_isOpen⟩
theorem mi_X1_allPackets : Cond.instanceMethod yX1_allPackets ∈ am_WS xx ∧ Cond.selects (yX1_allPackets).cls yX1_allPackets yX1_allPackets ∈ am_WS xx ∧ Cond.initialized (yX1_allPackets).cls ∈ am_WS xx ∧ Cond.code yX1_allPackets cX1_allPackets 1 (some .int) ∈ am_WS xx := ⟨x_in 1135 (by decide +kernel), x_in 1136 (by decide +kernel), x_in 97 (by decide +kernel), x_in 1137 (by decide +kernel)⟩
theorem mj_X1_allPackets : (yX1_allPackets).cls ≠ "java/lang/invoke/MethodHandle" ∧ (yX1_allPackets).cls ≠ "java/lang/invoke/VarHandle" ∧ (parseMethodDescriptor (yX1_allPackets).desc).map (fun d => d.parameters.length) = some 0 := ⟨by decide +kernel, by decide +kernel, by decide +kernel⟩
theorem cv_X2_106 : am_cv xx RX2 106 yX1_allPackets cX1_allPackets 1 (some .int) 0 := ⟨x_in 1134 (by decide +kernel), mi_X1_allPackets.1, mi_X1_allPackets.2.1, mi_X1_allPackets.2.2.1, mi_X1_allPackets.2.2.2, mj_X1_allPackets⟩
theorem mi_X10_blowOnce : Cond.instanceMethod yX10_blowOnce ∈ am_WS xx ∧ Cond.selects (yX10_blowOnce).cls yX10_blowOnce yX10_blowOnce ∈ am_WS xx ∧ Cond.initialized (yX10_blowOnce).cls ∈ am_WS xx ∧ Cond.code yX10_blowOnce cX10_blowOnce 5 (some .int) ∈ am_WS xx := ⟨x_in 1154 (by decide +kernel), x_in 1155 (by decide +kernel), x_in 101 (by decide +kernel), x_in 1156 (by decide +kernel)⟩
theorem mj_X10_blowOnce : (yX10_blowOnce).cls ≠ "java/lang/invoke/MethodHandle" ∧ (yX10_blowOnce).cls ≠ "java/lang/invoke/VarHandle" ∧ (parseMethodDescriptor (yX10_blowOnce).desc).map (fun d => d.parameters.length) = some 1 := ⟨by decide +kernel, by decide +kernel, by decide +kernel⟩
theorem cv_X2_112 : am_cv xx RX2 112 yX10_blowOnce cX10_blowOnce 5 (some .int) 1 := ⟨x_in 1153 (by decide +kernel), mi_X10_blowOnce.1, mi_X10_blowOnce.2.1, mi_X10_blowOnce.2.2.1, mi_X10_blowOnce.2.2.2, mj_X10_blowOnce⟩
theorem mi_X3_readAll : Cond.instanceMethod yX3_readAll ∈ am_WS xx ∧ Cond.selects (yX3_readAll).cls yX3_readAll yX3_readAll ∈ am_WS xx ∧ Cond.initialized (yX3_readAll).cls ∈ am_WS xx ∧ Cond.code yX3_readAll cX3_readAll 1 (some .int) ∈ am_WS xx := ⟨x_in 1406 (by decide +kernel), x_in 32 (by decide +kernel), x_in 103 (by decide +kernel), x_in 1407 (by decide +kernel)⟩
theorem mj_X3_readAll : (yX3_readAll).cls ≠ "java/lang/invoke/MethodHandle" ∧ (yX3_readAll).cls ≠ "java/lang/invoke/VarHandle" ∧ (parseMethodDescriptor (yX3_readAll).desc).map (fun d => d.parameters.length) = some 0 := ⟨by decide +kernel, by decide +kernel, by decide +kernel⟩
theorem cv_X3_36 : am_cv xx RX3 36 yX3_readAll cX3_readAll 1 (some .int) 0 := ⟨x_in 1404 (by decide +kernel), mi_X3_readAll.1, mi_X3_readAll.2.1, mi_X3_readAll.2.2.1, mi_X3_readAll.2.2.2, mj_X3_readAll⟩
theorem mi_X3_readCommand : Cond.instanceMethod yX3_readCommand ∈ am_WS xx ∧ Cond.selects (yX3_readCommand).cls yX3_readCommand yX3_readCommand ∈ am_WS xx ∧ Cond.initialized (yX3_readCommand).cls ∈ am_WS xx ∧ Cond.code yX3_readCommand cX3_readCommand 4 (some .boolean) ∈ am_WS xx := ⟨x_in 1410 (by decide +kernel), x_in 33 (by decide +kernel), x_in 103 (by decide +kernel), x_in 1411 (by decide +kernel)⟩
theorem mj_X3_readCommand : (yX3_readCommand).cls ≠ "java/lang/invoke/MethodHandle" ∧ (yX3_readCommand).cls ≠ "java/lang/invoke/VarHandle" ∧ (parseMethodDescriptor (yX3_readCommand).desc).map (fun d => d.parameters.length) = some 1 := ⟨by decide +kernel, by decide +kernel, by decide +kernel⟩
theorem cv_X3_40 : am_cv xx RX3 40 yX3_readCommand cX3_readCommand 4 (some .boolean) 1 := ⟨x_in 1408 (by decide +kernel), mi_X3_readCommand.1, mi_X3_readCommand.2.1, mi_X3_readCommand.2.2.1, mi_X3_readCommand.2.2.2, mj_X3_readCommand⟩
theorem mi_X3_takeSign : Cond.instanceMethod yX3_takeSign ∈ am_WS xx ∧ Cond.selects (yX3_takeSign).cls yX3_takeSign yX3_takeSign ∈ am_WS xx ∧ Cond.initialized (yX3_takeSign).cls ∈ am_WS xx ∧ Cond.code yX3_takeSign cX3_takeSign 2 (some .boolean) ∈ am_WS xx := ⟨x_in 1472 (by decide +kernel), x_in 36 (by decide +kernel), x_in 103 (by decide +kernel), x_in 1473 (by decide +kernel)⟩
theorem mj_X3_takeSign : (yX3_takeSign).cls ≠ "java/lang/invoke/MethodHandle" ∧ (yX3_takeSign).cls ≠ "java/lang/invoke/VarHandle" ∧ (parseMethodDescriptor (yX3_takeSign).desc).map (fun d => d.parameters.length) = some 1 := ⟨by decide +kernel, by decide +kernel, by decide +kernel⟩
theorem cv_X3_44 : am_cv xx RX3 44 yX3_takeSign cX3_takeSign 2 (some .boolean) 1 := ⟨x_in 1470 (by decide +kernel), mi_X3_takeSign.1, mi_X3_takeSign.2.1, mi_X3_takeSign.2.2.1, mi_X3_takeSign.2.2.2, mj_X3_takeSign⟩
theorem mi_X3_takeShape : Cond.instanceMethod yX3_takeShape ∈ am_WS xx ∧ Cond.selects (yX3_takeShape).cls yX3_takeShape yX3_takeShape ∈ am_WS xx ∧ Cond.initialized (yX3_takeShape).cls ∈ am_WS xx ∧ Cond.code yX3_takeShape cX3_takeShape 7 (some .boolean) ∈ am_WS xx := ⟨x_in 1416 (by decide +kernel), x_in 34 (by decide +kernel), x_in 103 (by decide +kernel), x_in 1417 (by decide +kernel)⟩
theorem mj_X3_takeShape : (yX3_takeShape).cls ≠ "java/lang/invoke/MethodHandle" ∧ (yX3_takeShape).cls ≠ "java/lang/invoke/VarHandle" ∧ (parseMethodDescriptor (yX3_takeShape).desc).map (fun d => d.parameters.length) = some 2 := ⟨by decide +kernel, by decide +kernel, by decide +kernel⟩
theorem cv_X3_55 : am_cv xx RX3 55 yX3_takeShape cX3_takeShape 7 (some .boolean) 2 := ⟨x_in 1414 (by decide +kernel), mi_X3_takeShape.1, mi_X3_takeShape.2.1, mi_X3_takeShape.2.2.1, mi_X3_takeShape.2.2.2, mj_X3_takeShape⟩
theorem mi_X3_takeValue : Cond.instanceMethod yX3_takeValue ∈ am_WS xx ∧ Cond.selects (yX3_takeValue).cls yX3_takeValue yX3_takeValue ∈ am_WS xx ∧ Cond.initialized (yX3_takeValue).cls ∈ am_WS xx ∧ Cond.code yX3_takeValue cX3_takeValue 2 (some .int) ∈ am_WS xx := ⟨x_in 1468 (by decide +kernel), x_in 35 (by decide +kernel), x_in 103 (by decide +kernel), x_in 1469 (by decide +kernel)⟩
theorem mj_X3_takeValue : (yX3_takeValue).cls ≠ "java/lang/invoke/MethodHandle" ∧ (yX3_takeValue).cls ≠ "java/lang/invoke/VarHandle" ∧ (parseMethodDescriptor (yX3_takeValue).desc).map (fun d => d.parameters.length) = some 1 := ⟨by decide +kernel, by decide +kernel, by decide +kernel⟩
theorem cv_X3_73 : am_cv xx RX3 73 yX3_takeValue cX3_takeValue 2 (some .int) 1 := ⟨x_in 1466 (by decide +kernel), mi_X3_takeValue.1, mi_X3_takeValue.2.1, mi_X3_takeValue.2.2.1, mi_X3_takeValue.2.2.2, mj_X3_takeValue⟩
theorem mi_X3_takeDigits : Cond.instanceMethod yX3_takeDigits ∈ am_WS xx ∧ Cond.selects (yX3_takeDigits).cls yX3_takeDigits yX3_takeDigits ∈ am_WS xx ∧ Cond.initialized (yX3_takeDigits).cls ∈ am_WS xx ∧ Cond.code yX3_takeDigits cX3_takeDigits 4 (some .int) ∈ am_WS xx := ⟨x_in 1476 (by decide +kernel), x_in 37 (by decide +kernel), x_in 103 (by decide +kernel), x_in 1477 (by decide +kernel)⟩
theorem mj_X3_takeDigits : (yX3_takeDigits).cls ≠ "java/lang/invoke/MethodHandle" ∧ (yX3_takeDigits).cls ≠ "java/lang/invoke/VarHandle" ∧ (parseMethodDescriptor (yX3_takeDigits).desc).map (fun d => d.parameters.length) = some 1 := ⟨by decide +kernel, by decide +kernel, by decide +kernel⟩
theorem cv_X3_77 : am_cv xx RX3 77 yX3_takeDigits cX3_takeDigits 4 (some .int) 1 := ⟨x_in 1474 (by decide +kernel), mi_X3_takeDigits.1, mi_X3_takeDigits.2.1, mi_X3_takeDigits.2.2.1, mi_X3_takeDigits.2.2.2, mj_X3_takeDigits⟩
theorem mi_X8_copyFrom : Cond.instanceMethod yX8_copyFrom ∈ am_WS xx ∧ Cond.selects (yX8_copyFrom).cls yX8_copyFrom yX8_copyFrom ∈ am_WS xx ∧ Cond.initialized (yX8_copyFrom).cls ∈ am_WS xx ∧ Cond.code yX8_copyFrom cX8_copyFrom 2 none ∈ am_WS xx := ⟨x_in 684 (by decide +kernel), x_in 685 (by decide +kernel), x_in 95 (by decide +kernel), x_in 686 (by decide +kernel)⟩
theorem mj_X8_copyFrom : (yX8_copyFrom).cls ≠ "java/lang/invoke/MethodHandle" ∧ (yX8_copyFrom).cls ≠ "java/lang/invoke/VarHandle" ∧ (parseMethodDescriptor (yX8_copyFrom).desc).map (fun d => d.parameters.length) = some 1 := ⟨by decide +kernel, by decide +kernel, by decide +kernel⟩
theorem cv_X4_25 : am_cv xx RX4 25 yX8_copyFrom cX8_copyFrom 2 none 1 := ⟨x_in 713 (by decide +kernel), mi_X8_copyFrom.1, mi_X8_copyFrom.2.1, mi_X8_copyFrom.2.2.1, mi_X8_copyFrom.2.2.2, mj_X8_copyFrom⟩
theorem mi_J6_bitCount_0f7a4 : Cond.static yJ6_bitCount_0f7a4 ∈ am_WS xx ∧ Cond.initialized (yJ6_bitCount_0f7a4).cls ∈ am_WS xx ∧ Cond.code yJ6_bitCount_0f7a4 cJ6_bitCount_0f7a4 1 (some .int) ∈ am_WS xx := ⟨x_in 894 (by decide +kernel), x_in 116 (by decide +kernel), x_in 895 (by decide +kernel)⟩
theorem mj_J6_bitCount_0f7a4 : (yJ6_bitCount_0f7a4).cls ≠ "java/lang/invoke/MethodHandle" ∧ (yJ6_bitCount_0f7a4).cls ≠ "java/lang/invoke/VarHandle" ∧ (parseMethodDescriptor (yJ6_bitCount_0f7a4).desc).map (fun d => d.parameters.length) = some 1 := ⟨by decide +kernel, by decide +kernel, by decide +kernel⟩
theorem cs_X6_37 : am_cs xx RX6 37 yJ6_bitCount_0f7a4 cJ6_bitCount_0f7a4 1 (some .int) 1 := ⟨x_in 893 (by decide +kernel), mi_J6_bitCount_0f7a4.1, mi_J6_bitCount_0f7a4.2.1, mi_J6_bitCount_0f7a4.2.2, mj_J6_bitCount_0f7a4⟩
theorem cv_X6_43 : am_cv xx RX6 43 yX6_hasPath cX6_hasPath 2 (some .boolean) 1 := ⟨x_in 549 (by decide +kernel), mi_X6_hasPath.1, mi_X6_hasPath.2.1, mi_X6_hasPath.2.2.1, mi_X6_hasPath.2.2.2, mj_X6_hasPath⟩
theorem mi_X6_endsOf : Cond.instanceMethod yX6_endsOf ∈ am_WS xx ∧ Cond.selects (yX6_endsOf).cls yX6_endsOf yX6_endsOf ∈ am_WS xx ∧ Cond.initialized (yX6_endsOf).cls ∈ am_WS xx ∧ Cond.code yX6_endsOf cX6_endsOf 2 (some .int) ∈ am_WS xx := ⟨x_in 518 (by decide +kernel), x_in 519 (by decide +kernel), x_in 96 (by decide +kernel), x_in 520 (by decide +kernel)⟩
theorem mj_X6_endsOf : (yX6_endsOf).cls ≠ "java/lang/invoke/MethodHandle" ∧ (yX6_endsOf).cls ≠ "java/lang/invoke/VarHandle" ∧ (parseMethodDescriptor (yX6_endsOf).desc).map (fun d => d.parameters.length) = some 1 := ⟨by decide +kernel, by decide +kernel, by decide +kernel⟩
theorem cv_X6_47 : am_cv xx RX6 47 yX6_endsOf cX6_endsOf 2 (some .int) 1 := ⟨x_in 903 (by decide +kernel), mi_X6_endsOf.1, mi_X6_endsOf.2.1, mi_X6_endsOf.2.2.1, mi_X6_endsOf.2.2.2, mj_X6_endsOf⟩
theorem mi_X7_firstPathOut : Cond.instanceMethod yX7_firstPathOut ∈ am_WS xx ∧ Cond.selects (yX7_firstPathOut).cls yX7_firstPathOut yX7_firstPathOut ∈ am_WS xx ∧ Cond.initialized (yX7_firstPathOut).cls ∈ am_WS xx ∧ Cond.code yX7_firstPathOut cX7_firstPathOut 5 (some .int) ∈ am_WS xx := ⟨x_in 641 (by decide +kernel), x_in 6 (by decide +kernel), x_in 100 (by decide +kernel), x_in 642 (by decide +kernel)⟩
theorem mj_X7_firstPathOut : (yX7_firstPathOut).cls ≠ "java/lang/invoke/MethodHandle" ∧ (yX7_firstPathOut).cls ≠ "java/lang/invoke/VarHandle" ∧ (parseMethodDescriptor (yX7_firstPathOut).desc).map (fun d => d.parameters.length) = some 1 := ⟨by decide +kernel, by decide +kernel, by decide +kernel⟩
theorem cv_X7_34 : am_cv xx RX7 34 yX7_firstPathOut cX7_firstPathOut 5 (some .int) 1 := ⟨x_in 639 (by decide +kernel), mi_X7_firstPathOut.1, mi_X7_firstPathOut.2.1, mi_X7_firstPathOut.2.2.1, mi_X7_firstPathOut.2.2.2, mj_X7_firstPathOut⟩
theorem mi_X7_attach : Cond.instanceMethod yX7_attach ∈ am_WS xx ∧ Cond.selects (yX7_attach).cls yX7_attach yX7_attach ∈ am_WS xx ∧ Cond.initialized (yX7_attach).cls ∈ am_WS xx ∧ Cond.code yX7_attach cX7_attach 6 none ∈ am_WS xx := ⟨x_in 645 (by decide +kernel), x_in 7 (by decide +kernel), x_in 100 (by decide +kernel), x_in 646 (by decide +kernel)⟩
theorem mj_X7_attach : (yX7_attach).cls ≠ "java/lang/invoke/MethodHandle" ∧ (yX7_attach).cls ≠ "java/lang/invoke/VarHandle" ∧ (parseMethodDescriptor (yX7_attach).desc).map (fun d => d.parameters.length) = some 2 := ⟨by decide +kernel, by decide +kernel, by decide +kernel⟩
theorem cv_X7_38 : am_cv xx RX7 38 yX7_attach cX7_attach 6 none 2 := ⟨x_in 643 (by decide +kernel), mi_X7_attach.1, mi_X7_attach.2.1, mi_X7_attach.2.2.1, mi_X7_attach.2.2.2, mj_X7_attach⟩
theorem cv_X7_51 : am_cv xx RX7 51 yX6_isOpen cX6_isOpen 2 (some .boolean) 1 := ⟨x_in 621 (by decide +kernel), mi_X6_isOpen.1, mi_X6_isOpen.2.1, mi_X6_isOpen.2.2.1, mi_X6_isOpen.2.2.2, mj_X6_isOpen⟩
theorem mi_X6_dangerOf : Cond.instanceMethod yX6_dangerOf ∈ am_WS xx ∧ Cond.selects (yX6_dangerOf).cls yX6_dangerOf yX6_dangerOf ∈ am_WS xx ∧ Cond.initialized (yX6_dangerOf).cls ∈ am_WS xx ∧ Cond.code yX6_dangerOf cX6_dangerOf 3 (some .int) ∈ am_WS xx := ⟨x_in 648 (by decide +kernel), x_in 649 (by decide +kernel), x_in 96 (by decide +kernel), x_in 650 (by decide +kernel)⟩
theorem mj_X6_dangerOf : (yX6_dangerOf).cls ≠ "java/lang/invoke/MethodHandle" ∧ (yX6_dangerOf).cls ≠ "java/lang/invoke/VarHandle" ∧ (parseMethodDescriptor (yX6_dangerOf).desc).map (fun d => d.parameters.length) = some 2 := ⟨by decide +kernel, by decide +kernel, by decide +kernel⟩
theorem cv_X7_58 : am_cv xx RX7 58 yX6_dangerOf cX6_dangerOf 3 (some .int) 2 := ⟨x_in 647 (by decide +kernel), mi_X6_dangerOf.1, mi_X6_dangerOf.2.1, mi_X6_dangerOf.2.2.1, mi_X6_dangerOf.2.2.2, mj_X6_dangerOf⟩
theorem mi_X7_grow : Cond.instanceMethod yX7_grow ∈ am_WS xx ∧ Cond.selects (yX7_grow).cls yX7_grow yX7_grow ∈ am_WS xx ∧ Cond.initialized (yX7_grow).cls ∈ am_WS xx ∧ Cond.code yX7_grow cX7_grow 5 none ∈ am_WS xx := ⟨x_in 636 (by decide +kernel), x_in 637 (by decide +kernel), x_in 100 (by decide +kernel), x_in 638 (by decide +kernel)⟩
theorem mj_X7_grow : (yX7_grow).cls ≠ "java/lang/invoke/MethodHandle" ∧ (yX7_grow).cls ≠ "java/lang/invoke/VarHandle" ∧ (parseMethodDescriptor (yX7_grow).desc).map (fun d => d.parameters.length) = some 2 := ⟨by decide +kernel, by decide +kernel, by decide +kernel⟩
theorem cv_X7_63 : am_cv xx RX7 63 yX7_grow cX7_grow 5 none 2 := ⟨x_in 635 (by decide +kernel), mi_X7_grow.1, mi_X7_grow.2.1, mi_X7_grow.2.2.1, mi_X7_grow.2.2.2, mj_X7_grow⟩
theorem mi_X7_joinLabels : Cond.instanceMethod yX7_joinLabels ∈ am_WS xx ∧ Cond.selects (yX7_joinLabels).cls yX7_joinLabels yX7_joinLabels ∈ am_WS xx ∧ Cond.initialized (yX7_joinLabels).cls ∈ am_WS xx ∧ Cond.code yX7_joinLabels cX7_joinLabels 6 (some .boolean) ∈ am_WS xx := ⟨x_in 624 (by decide +kernel), x_in 4 (by decide +kernel), x_in 100 (by decide +kernel), x_in 625 (by decide +kernel)⟩
theorem mj_X7_joinLabels : (yX7_joinLabels).cls ≠ "java/lang/invoke/MethodHandle" ∧ (yX7_joinLabels).cls ≠ "java/lang/invoke/VarHandle" ∧ (parseMethodDescriptor (yX7_joinLabels).desc).map (fun d => d.parameters.length) = some 2 := ⟨by decide +kernel, by decide +kernel, by decide +kernel⟩
theorem cv_X7_66 : am_cv xx RX7 66 yX7_joinLabels cX7_joinLabels 6 (some .boolean) 2 := ⟨x_in 622 (by decide +kernel), mi_X7_joinLabels.1, mi_X7_joinLabels.2.1, mi_X7_joinLabels.2.2.1, mi_X7_joinLabels.2.2.2, mj_X7_joinLabels⟩
theorem mi_X7_onlyAround : Cond.instanceMethod yX7_onlyAround ∈ am_WS xx ∧ Cond.selects (yX7_onlyAround).cls yX7_onlyAround yX7_onlyAround ∈ am_WS xx ∧ Cond.initialized (yX7_onlyAround).cls ∈ am_WS xx ∧ Cond.code yX7_onlyAround cX7_onlyAround 6 (some .int) ∈ am_WS xx := ⟨x_in 628 (by decide +kernel), x_in 5 (by decide +kernel), x_in 100 (by decide +kernel), x_in 629 (by decide +kernel)⟩
theorem mj_X7_onlyAround : (yX7_onlyAround).cls ≠ "java/lang/invoke/MethodHandle" ∧ (yX7_onlyAround).cls ≠ "java/lang/invoke/VarHandle" ∧ (parseMethodDescriptor (yX7_onlyAround).desc).map (fun d => d.parameters.length) = some 3 := ⟨by decide +kernel, by decide +kernel, by decide +kernel⟩
theorem cv_X7_70 : am_cv xx RX7 70 yX7_onlyAround cX7_onlyAround 6 (some .int) 3 := ⟨x_in 626 (by decide +kernel), mi_X7_onlyAround.1, mi_X7_onlyAround.2.1, mi_X7_onlyAround.2.2.1, mi_X7_onlyAround.2.2.2, mj_X7_onlyAround⟩
theorem mi_X11_hasBit : Cond.static yX11_hasBit ∈ am_WS xx ∧ Cond.initialized (yX11_hasBit).cls ∈ am_WS xx ∧ Cond.code yX11_hasBit cX11_hasBit 2 (some .boolean) ∈ am_WS xx := ⟨x_in 511 (by decide +kernel), x_in 94 (by decide +kernel), x_in 512 (by decide +kernel)⟩
theorem mj_X11_hasBit : (yX11_hasBit).cls ≠ "java/lang/invoke/MethodHandle" ∧ (yX11_hasBit).cls ≠ "java/lang/invoke/VarHandle" ∧ (parseMethodDescriptor (yX11_hasBit).desc).map (fun d => d.parameters.length) = some 2 := ⟨by decide +kernel, by decide +kernel, by decide +kernel⟩
theorem cn_X7_74 : am_cn xx RX7 74 yX11_hasBit "DandelionBroadcast" cX11_hasBit 2 (some .boolean) 2 := ⟨y_inN 630 (by decide +kernel), mi_X11_hasBit.1, mi_X11_hasBit.2.1, mi_X11_hasBit.2.2, mj_X11_hasBit⟩
theorem mi_X7_chooseInOrder : Cond.instanceMethod yX7_chooseInOrder ∈ am_WS xx ∧ Cond.selects (yX7_chooseInOrder).cls yX7_chooseInOrder yX7_chooseInOrder ∈ am_WS xx ∧ Cond.initialized (yX7_chooseInOrder).cls ∈ am_WS xx ∧ Cond.code yX7_chooseInOrder cX7_chooseInOrder 6 (some .int) ∈ am_WS xx := ⟨x_in 618 (by decide +kernel), x_in 619 (by decide +kernel), x_in 100 (by decide +kernel), x_in 620 (by decide +kernel)⟩
theorem mj_X7_chooseInOrder : (yX7_chooseInOrder).cls ≠ "java/lang/invoke/MethodHandle" ∧ (yX7_chooseInOrder).cls ≠ "java/lang/invoke/VarHandle" ∧ (parseMethodDescriptor (yX7_chooseInOrder).desc).map (fun d => d.parameters.length) = some 2 := ⟨by decide +kernel, by decide +kernel, by decide +kernel⟩
theorem cv_X7_78 : am_cv xx RX7 78 yX7_chooseInOrder cX7_chooseInOrder 6 (some .int) 2 := ⟨x_in 617 (by decide +kernel), mi_X7_chooseInOrder.1, mi_X7_chooseInOrder.2.1, mi_X7_chooseInOrder.2.2.1, mi_X7_chooseInOrder.2.2.2, mj_X7_chooseInOrder⟩
theorem mi_X8_fieldIsAhead : Cond.instanceMethod yX8_fieldIsAhead ∈ am_WS xx ∧ Cond.selects (yX8_fieldIsAhead).cls yX8_fieldIsAhead yX8_fieldIsAhead ∈ am_WS xx ∧ Cond.initialized (yX8_fieldIsAhead).cls ∈ am_WS xx ∧ Cond.code yX8_fieldIsAhead cX8_fieldIsAhead 5 (some .boolean) ∈ am_WS xx := ⟨x_in 1280 (by decide +kernel), x_in 28 (by decide +kernel), x_in 95 (by decide +kernel), x_in 1281 (by decide +kernel)⟩
theorem mj_X8_fieldIsAhead : (yX8_fieldIsAhead).cls ≠ "java/lang/invoke/MethodHandle" ∧ (yX8_fieldIsAhead).cls ≠ "java/lang/invoke/VarHandle" ∧ (parseMethodDescriptor (yX8_fieldIsAhead).desc).map (fun d => d.parameters.length) = some 2 := ⟨by decide +kernel, by decide +kernel, by decide +kernel⟩
theorem cv_X8_51 : am_cv xx RX8 51 yX8_fieldIsAhead cX8_fieldIsAhead 5 (some .boolean) 2 := ⟨x_in 1278 (by decide +kernel), mi_X8_fieldIsAhead.1, mi_X8_fieldIsAhead.2.1, mi_X8_fieldIsAhead.2.2.1, mi_X8_fieldIsAhead.2.2.2, mj_X8_fieldIsAhead⟩
theorem cs_X8_58 : am_cs xx RX8 58 yJ6_bitCount_0f7a4 cJ6_bitCount_0f7a4 1 (some .int) 1 := ⟨x_in 1282 (by decide +kernel), mi_J6_bitCount_0f7a4.1, mi_J6_bitCount_0f7a4.2.1, mi_J6_bitCount_0f7a4.2.2, mj_J6_bitCount_0f7a4⟩
theorem mi_X8_pathIsAhead : Cond.instanceMethod yX8_pathIsAhead ∈ am_WS xx ∧ Cond.selects (yX8_pathIsAhead).cls yX8_pathIsAhead yX8_pathIsAhead ∈ am_WS xx ∧ Cond.initialized (yX8_pathIsAhead).cls ∈ am_WS xx ∧ Cond.code yX8_pathIsAhead cX8_pathIsAhead 3 (some .boolean) ∈ am_WS xx := ⟨x_in 1297 (by decide +kernel), x_in 29 (by decide +kernel), x_in 95 (by decide +kernel), x_in 1298 (by decide +kernel)⟩
theorem mj_X8_pathIsAhead : (yX8_pathIsAhead).cls ≠ "java/lang/invoke/MethodHandle" ∧ (yX8_pathIsAhead).cls ≠ "java/lang/invoke/VarHandle" ∧ (parseMethodDescriptor (yX8_pathIsAhead).desc).map (fun d => d.parameters.length) = some 2 := ⟨by decide +kernel, by decide +kernel, by decide +kernel⟩
theorem cv_X8_70 : am_cv xx RX8 70 yX8_pathIsAhead cX8_pathIsAhead 3 (some .boolean) 2 := ⟨x_in 1295 (by decide +kernel), mi_X8_pathIsAhead.1, mi_X8_pathIsAhead.2.1, mi_X8_pathIsAhead.2.2.1, mi_X8_pathIsAhead.2.2.2, mj_X8_pathIsAhead⟩
theorem mi_X6_copyFrom : Cond.instanceMethod yX6_copyFrom ∈ am_WS xx ∧ Cond.selects (yX6_copyFrom).cls yX6_copyFrom yX6_copyFrom ∈ am_WS xx ∧ Cond.initialized (yX6_copyFrom).cls ∈ am_WS xx ∧ Cond.code yX6_copyFrom cX6_copyFrom 2 none ∈ am_WS xx := ⟨x_in 688 (by decide +kernel), x_in 689 (by decide +kernel), x_in 96 (by decide +kernel), x_in 690 (by decide +kernel)⟩
theorem mj_X6_copyFrom : (yX6_copyFrom).cls ≠ "java/lang/invoke/MethodHandle" ∧ (yX6_copyFrom).cls ≠ "java/lang/invoke/VarHandle" ∧ (parseMethodDescriptor (yX6_copyFrom).desc).map (fun d => d.parameters.length) = some 1 := ⟨by decide +kernel, by decide +kernel, by decide +kernel⟩
theorem cv_X8_76 : am_cv xx RX8 76 yX6_copyFrom cX6_copyFrom 2 none 1 := ⟨x_in 687 (by decide +kernel), mi_X6_copyFrom.1, mi_X6_copyFrom.2.1, mi_X6_copyFrom.2.2.1, mi_X6_copyFrom.2.2.2, mj_X6_copyFrom⟩
theorem mi_X1_copyFrom : Cond.instanceMethod yX1_copyFrom ∈ am_WS xx ∧ Cond.selects (yX1_copyFrom).cls yX1_copyFrom yX1_copyFrom ∈ am_WS xx ∧ Cond.initialized (yX1_copyFrom).cls ∈ am_WS xx ∧ Cond.code yX1_copyFrom cX1_copyFrom 2 none ∈ am_WS xx := ⟨x_in 695 (by decide +kernel), x_in 696 (by decide +kernel), x_in 97 (by decide +kernel), x_in 697 (by decide +kernel)⟩
theorem mj_X1_copyFrom : (yX1_copyFrom).cls ≠ "java/lang/invoke/MethodHandle" ∧ (yX1_copyFrom).cls ≠ "java/lang/invoke/VarHandle" ∧ (parseMethodDescriptor (yX1_copyFrom).desc).map (fun d => d.parameters.length) = some 1 := ⟨by decide +kernel, by decide +kernel, by decide +kernel⟩
theorem cv_X8_80 : am_cv xx RX8 80 yX1_copyFrom cX1_copyFrom 2 none 1 := ⟨x_in 694 (by decide +kernel), mi_X1_copyFrom.1, mi_X1_copyFrom.2.1, mi_X1_copyFrom.2.2.1, mi_X1_copyFrom.2.2.2, mj_X1_copyFrom⟩
theorem cv_X9_42 : am_cv xx RX9 42 yX6_endsOf cX6_endsOf 2 (some .int) 1 := ⟨x_in 517 (by decide +kernel), mi_X6_endsOf.1, mi_X6_endsOf.2.1, mi_X6_endsOf.2.2.1, mi_X6_endsOf.2.2.2, mj_X6_endsOf⟩
theorem cv_X9_46 : am_cv xx RX9 46 yX6_isOpen cX6_isOpen 2 (some .boolean) 1 := ⟨x_in 521 (by decide +kernel), mi_X6_isOpen.1, mi_X6_isOpen.2.1, mi_X6_isOpen.2.2.1, mi_X6_isOpen.2.2.2, mj_X6_isOpen⟩
theorem cn_X9_50 : am_cn xx RX9 50 yX11_hasBit "DandelionBroadcast" cX11_hasBit 2 (some .boolean) 2 := ⟨y_inN 510 (by decide +kernel), mi_X11_hasBit.1, mi_X11_hasBit.2.1, mi_X11_hasBit.2.2, mj_X11_hasBit⟩
theorem mi_X9_groupAround : Cond.instanceMethod yX9_groupAround ∈ am_WS xx ∧ Cond.selects (yX9_groupAround).cls yX9_groupAround yX9_groupAround ∈ am_WS xx ∧ Cond.initialized (yX9_groupAround).cls ∈ am_WS xx ∧ Cond.code yX9_groupAround cX9_groupAround 8 (some .int) ∈ am_WS xx := ⟨x_in 514 (by decide +kernel), x_in 515 (by decide +kernel), x_in 99 (by decide +kernel), x_in 516 (by decide +kernel)⟩
theorem mj_X9_groupAround : (yX9_groupAround).cls ≠ "java/lang/invoke/MethodHandle" ∧ (yX9_groupAround).cls ≠ "java/lang/invoke/VarHandle" ∧ (parseMethodDescriptor (yX9_groupAround).desc).map (fun d => d.parameters.length) = some 3 := ⟨by decide +kernel, by decide +kernel, by decide +kernel⟩
theorem cv_X9_54 : am_cv xx RX9 54 yX9_groupAround cX9_groupAround 8 (some .int) 3 := ⟨x_in 513 (by decide +kernel), mi_X9_groupAround.1, mi_X9_groupAround.2.1, mi_X9_groupAround.2.2.1, mi_X9_groupAround.2.2.2, mj_X9_groupAround⟩
theorem mi_X9_startCosts : Cond.instanceMethod yX9_startCosts ∈ am_WS xx ∧ Cond.selects (yX9_startCosts).cls yX9_startCosts yX9_startCosts ∈ am_WS xx ∧ Cond.initialized (yX9_startCosts).cls ∈ am_WS xx ∧ Cond.code yX9_startCosts cX9_startCosts 3 none ∈ am_WS xx := ⟨x_in 1006 (by decide +kernel), x_in 17 (by decide +kernel), x_in 99 (by decide +kernel), x_in 1007 (by decide +kernel)⟩
theorem mj_X9_startCosts : (yX9_startCosts).cls ≠ "java/lang/invoke/MethodHandle" ∧ (yX9_startCosts).cls ≠ "java/lang/invoke/VarHandle" ∧ (parseMethodDescriptor (yX9_startCosts).desc).map (fun d => d.parameters.length) = some 1 := ⟨by decide +kernel, by decide +kernel, by decide +kernel⟩
theorem cv_X9_58 : am_cv xx RX9 58 yX9_startCosts cX9_startCosts 3 none 1 := ⟨x_in 1004 (by decide +kernel), mi_X9_startCosts.1, mi_X9_startCosts.2.1, mi_X9_startCosts.2.2.1, mi_X9_startCosts.2.2.2, mj_X9_startCosts⟩
theorem mi_X9_nearestOutside : Cond.instanceMethod yX9_nearestOutside ∈ am_WS xx ∧ Cond.selects (yX9_nearestOutside).cls yX9_nearestOutside yX9_nearestOutside ∈ am_WS xx ∧ Cond.initialized (yX9_nearestOutside).cls ∈ am_WS xx ∧ Cond.code yX9_nearestOutside cX9_nearestOutside 6 (some .int) ∈ am_WS xx := ⟨x_in 1010 (by decide +kernel), x_in 18 (by decide +kernel), x_in 99 (by decide +kernel), x_in 1011 (by decide +kernel)⟩
theorem mj_X9_nearestOutside : (yX9_nearestOutside).cls ≠ "java/lang/invoke/MethodHandle" ∧ (yX9_nearestOutside).cls ≠ "java/lang/invoke/VarHandle" ∧ (parseMethodDescriptor (yX9_nearestOutside).desc).map (fun d => d.parameters.length) = some 2 := ⟨by decide +kernel, by decide +kernel, by decide +kernel⟩
theorem cv_X9_62 : am_cv xx RX9 62 yX9_nearestOutside cX9_nearestOutside 6 (some .int) 2 := ⟨x_in 1008 (by decide +kernel), mi_X9_nearestOutside.1, mi_X9_nearestOutside.2.1, mi_X9_nearestOutside.2.2.1, mi_X9_nearestOutside.2.2.2, mj_X9_nearestOutside⟩
theorem mi_X9_lowerAround : Cond.instanceMethod yX9_lowerAround ∈ am_WS xx ∧ Cond.selects (yX9_lowerAround).cls yX9_lowerAround yX9_lowerAround ∈ am_WS xx ∧ Cond.initialized (yX9_lowerAround).cls ∈ am_WS xx ∧ Cond.code yX9_lowerAround cX9_lowerAround 5 none ∈ am_WS xx := ⟨x_in 1014 (by decide +kernel), x_in 19 (by decide +kernel), x_in 99 (by decide +kernel), x_in 1015 (by decide +kernel)⟩
theorem mj_X9_lowerAround : (yX9_lowerAround).cls ≠ "java/lang/invoke/MethodHandle" ∧ (yX9_lowerAround).cls ≠ "java/lang/invoke/VarHandle" ∧ (parseMethodDescriptor (yX9_lowerAround).desc).map (fun d => d.parameters.length) = some 2 := ⟨by decide +kernel, by decide +kernel, by decide +kernel⟩
theorem cv_X9_66 : am_cv xx RX9 66 yX9_lowerAround cX9_lowerAround 5 none 2 := ⟨x_in 1012 (by decide +kernel), mi_X9_lowerAround.1, mi_X9_lowerAround.2.1, mi_X9_lowerAround.2.2.1, mi_X9_lowerAround.2.2.2, mj_X9_lowerAround⟩
theorem mi_X6_farEnd : Cond.instanceMethod yX6_farEnd ∈ am_WS xx ∧ Cond.selects (yX6_farEnd).cls yX6_farEnd yX6_farEnd ∈ am_WS xx ∧ Cond.initialized (yX6_farEnd).cls ∈ am_WS xx ∧ Cond.code yX6_farEnd cX6_farEnd 3 (some .int) ∈ am_WS xx := ⟨x_in 546 (by decide +kernel), x_in 547 (by decide +kernel), x_in 96 (by decide +kernel), x_in 548 (by decide +kernel)⟩
theorem mj_X6_farEnd : (yX6_farEnd).cls ≠ "java/lang/invoke/MethodHandle" ∧ (yX6_farEnd).cls ≠ "java/lang/invoke/VarHandle" ∧ (parseMethodDescriptor (yX6_farEnd).desc).map (fun d => d.parameters.length) = some 2 := ⟨by decide +kernel, by decide +kernel, by decide +kernel⟩
theorem cv_X9_70 : am_cv xx RX9 70 yX6_farEnd cX6_farEnd 3 (some .int) 2 := ⟨x_in 545 (by decide +kernel), mi_X6_farEnd.1, mi_X6_farEnd.2.1, mi_X6_farEnd.2.2.1, mi_X6_farEnd.2.2.2, mj_X6_farEnd⟩
theorem mi_X9_addWay : Cond.instanceMethod yX9_addWay ∈ am_WS xx ∧ Cond.selects (yX9_addWay).cls yX9_addWay yX9_addWay ∈ am_WS xx ∧ Cond.initialized (yX9_addWay).cls ∈ am_WS xx ∧ Cond.code yX9_addWay cX9_addWay 8 (some .boolean) ∈ am_WS xx := ⟨x_in 662 (by decide +kernel), x_in 9 (by decide +kernel), x_in 99 (by decide +kernel), x_in 663 (by decide +kernel)⟩
theorem mj_X9_addWay : (yX9_addWay).cls ≠ "java/lang/invoke/MethodHandle" ∧ (yX9_addWay).cls ≠ "java/lang/invoke/VarHandle" ∧ (parseMethodDescriptor (yX9_addWay).desc).map (fun d => d.parameters.length) = some 3 := ⟨by decide +kernel, by decide +kernel, by decide +kernel⟩
theorem cv_X9_86 : am_cv xx RX9 86 yX9_addWay cX9_addWay 8 (some .boolean) 3 := ⟨x_in 660 (by decide +kernel), mi_X9_addWay.1, mi_X9_addWay.2.1, mi_X9_addWay.2.2.1, mi_X9_addWay.2.2.2, mj_X9_addWay⟩
theorem mi_X9_reachByFlows : Cond.instanceMethod yX9_reachByFlows ∈ am_WS xx ∧ Cond.selects (yX9_reachByFlows).cls yX9_reachByFlows yX9_reachByFlows ∈ am_WS xx ∧ Cond.initialized (yX9_reachByFlows).cls ∈ am_WS xx ∧ Cond.code yX9_reachByFlows cX9_reachByFlows 8 (some .int) ∈ am_WS xx := ⟨x_in 666 (by decide +kernel), x_in 10 (by decide +kernel), x_in 99 (by decide +kernel), x_in 667 (by decide +kernel)⟩
theorem mj_X9_reachByFlows : (yX9_reachByFlows).cls ≠ "java/lang/invoke/MethodHandle" ∧ (yX9_reachByFlows).cls ≠ "java/lang/invoke/VarHandle" ∧ (parseMethodDescriptor (yX9_reachByFlows).desc).map (fun d => d.parameters.length) = some 2 := ⟨by decide +kernel, by decide +kernel, by decide +kernel⟩
theorem cv_X9_90 : am_cv xx RX9 90 yX9_reachByFlows cX9_reachByFlows 8 (some .int) 2 := ⟨x_in 664 (by decide +kernel), mi_X9_reachByFlows.1, mi_X9_reachByFlows.2.1, mi_X9_reachByFlows.2.2.1, mi_X9_reachByFlows.2.2.2, mj_X9_reachByFlows⟩
theorem mi_X9_countLeaving : Cond.static yX9_countLeaving ∈ am_WS xx ∧ Cond.initialized (yX9_countLeaving).cls ∈ am_WS xx ∧ Cond.code yX9_countLeaving cX9_countLeaving 4 (some .int) ∈ am_WS xx := ⟨x_in 673 (by decide +kernel), x_in 99 (by decide +kernel), x_in 674 (by decide +kernel)⟩
theorem mj_X9_countLeaving : (yX9_countLeaving).cls ≠ "java/lang/invoke/MethodHandle" ∧ (yX9_countLeaving).cls ≠ "java/lang/invoke/VarHandle" ∧ (parseMethodDescriptor (yX9_countLeaving).desc).map (fun d => d.parameters.length) = some 2 := ⟨by decide +kernel, by decide +kernel, by decide +kernel⟩
theorem cs_X9_93 : am_cs xx RX9 93 yX9_countLeaving cX9_countLeaving 4 (some .int) 2 := ⟨x_in 672 (by decide +kernel), mi_X9_countLeaving.1, mi_X9_countLeaving.2.1, mi_X9_countLeaving.2.2, mj_X9_countLeaving⟩
theorem mi_X9_countGroups : Cond.instanceMethod yX9_countGroups ∈ am_WS xx ∧ Cond.selects (yX9_countGroups).cls yX9_countGroups yX9_countGroups ∈ am_WS xx ∧ Cond.initialized (yX9_countGroups).cls ∈ am_WS xx ∧ Cond.code yX9_countGroups cX9_countGroups 6 (some .int) ∈ am_WS xx := ⟨x_in 507 (by decide +kernel), x_in 508 (by decide +kernel), x_in 99 (by decide +kernel), x_in 509 (by decide +kernel)⟩
theorem mj_X9_countGroups : (yX9_countGroups).cls ≠ "java/lang/invoke/MethodHandle" ∧ (yX9_countGroups).cls ≠ "java/lang/invoke/VarHandle" ∧ (parseMethodDescriptor (yX9_countGroups).desc).map (fun d => d.parameters.length) = some 2 := ⟨by decide +kernel, by decide +kernel, by decide +kernel⟩
theorem cv_X9_96 : am_cv xx RX9 96 yX9_countGroups cX9_countGroups 6 (some .int) 2 := ⟨x_in 568 (by decide +kernel), mi_X9_countGroups.1, mi_X9_countGroups.2.1, mi_X9_countGroups.2.2.1, mi_X9_countGroups.2.2.2, mj_X9_countGroups⟩
theorem mi_X9_partsGroups : Cond.instanceMethod yX9_partsGroups ∈ am_WS xx ∧ Cond.selects (yX9_partsGroups).cls yX9_partsGroups yX9_partsGroups ∈ am_WS xx ∧ Cond.initialized (yX9_partsGroups).cls ∈ am_WS xx ∧ Cond.code yX9_partsGroups cX9_partsGroups 3 (some .boolean) ∈ am_WS xx := ⟨x_in 565 (by decide +kernel), x_in 566 (by decide +kernel), x_in 99 (by decide +kernel), x_in 567 (by decide +kernel)⟩
theorem mj_X9_partsGroups : (yX9_partsGroups).cls ≠ "java/lang/invoke/MethodHandle" ∧ (yX9_partsGroups).cls ≠ "java/lang/invoke/VarHandle" ∧ (parseMethodDescriptor (yX9_partsGroups).desc).map (fun d => d.parameters.length) = some 2 := ⟨by decide +kernel, by decide +kernel, by decide +kernel⟩
theorem cv_X9_99 : am_cv xx RX9 99 yX9_partsGroups cX9_partsGroups 3 (some .boolean) 2 := ⟨x_in 564 (by decide +kernel), mi_X9_partsGroups.1, mi_X9_partsGroups.2.1, mi_X9_partsGroups.2.2.1, mi_X9_partsGroups.2.2.2, mj_X9_partsGroups⟩
theorem mi_X9_countBridgesFrom : Cond.instanceMethod yX9_countBridgesFrom ∈ am_WS xx ∧ Cond.selects (yX9_countBridgesFrom).cls yX9_countBridgesFrom yX9_countBridgesFrom ∈ am_WS xx ∧ Cond.initialized (yX9_countBridgesFrom).cls ∈ am_WS xx ∧ Cond.code yX9_countBridgesFrom cX9_countBridgesFrom 7 (some .int) ∈ am_WS xx := ⟨x_in 535 (by decide +kernel), x_in 0 (by decide +kernel), x_in 99 (by decide +kernel), x_in 536 (by decide +kernel)⟩
theorem mj_X9_countBridgesFrom : (yX9_countBridgesFrom).cls ≠ "java/lang/invoke/MethodHandle" ∧ (yX9_countBridgesFrom).cls ≠ "java/lang/invoke/VarHandle" ∧ (parseMethodDescriptor (yX9_countBridgesFrom).desc).map (fun d => d.parameters.length) = some 2 := ⟨by decide +kernel, by decide +kernel, by decide +kernel⟩
theorem cv_X9_103 : am_cv xx RX9 103 yX9_countBridgesFrom cX9_countBridgesFrom 7 (some .int) 2 := ⟨x_in 533 (by decide +kernel), mi_X9_countBridgesFrom.1, mi_X9_countBridgesFrom.2.1, mi_X9_countBridgesFrom.2.2.1, mi_X9_countBridgesFrom.2.2.2, mj_X9_countBridgesFrom⟩
theorem mi_X9_enter : Cond.instanceMethod yX9_enter ∈ am_WS xx ∧ Cond.selects (yX9_enter).cls yX9_enter yX9_enter ∈ am_WS xx ∧ Cond.initialized (yX9_enter).cls ∈ am_WS xx ∧ Cond.code yX9_enter cX9_enter 3 none ∈ am_WS xx := ⟨x_in 539 (by decide +kernel), x_in 1 (by decide +kernel), x_in 99 (by decide +kernel), x_in 540 (by decide +kernel)⟩
theorem mj_X9_enter : (yX9_enter).cls ≠ "java/lang/invoke/MethodHandle" ∧ (yX9_enter).cls ≠ "java/lang/invoke/VarHandle" ∧ (parseMethodDescriptor (yX9_enter).desc).map (fun d => d.parameters.length) = some 2 := ⟨by decide +kernel, by decide +kernel, by decide +kernel⟩
theorem cv_X9_106 : am_cv xx RX9 106 yX9_enter cX9_enter 3 none 2 := ⟨x_in 537 (by decide +kernel), mi_X9_enter.1, mi_X9_enter.2.1, mi_X9_enter.2.2.1, mi_X9_enter.2.2.2, mj_X9_enter⟩
theorem mi_X9_takePath : Cond.instanceMethod yX9_takePath ∈ am_WS xx ∧ Cond.selects (yX9_takePath).cls yX9_takePath yX9_takePath ∈ am_WS xx ∧ Cond.initialized (yX9_takePath).cls ∈ am_WS xx ∧ Cond.code yX9_takePath cX9_takePath 5 (some .int) ∈ am_WS xx := ⟨x_in 543 (by decide +kernel), x_in 2 (by decide +kernel), x_in 99 (by decide +kernel), x_in 544 (by decide +kernel)⟩
theorem mj_X9_takePath : (yX9_takePath).cls ≠ "java/lang/invoke/MethodHandle" ∧ (yX9_takePath).cls ≠ "java/lang/invoke/VarHandle" ∧ (parseMethodDescriptor (yX9_takePath).desc).map (fun d => d.parameters.length) = some 2 := ⟨by decide +kernel, by decide +kernel, by decide +kernel⟩
theorem cv_X9_110 : am_cv xx RX9 110 yX9_takePath cX9_takePath 5 (some .int) 2 := ⟨x_in 541 (by decide +kernel), mi_X9_takePath.1, mi_X9_takePath.2.1, mi_X9_takePath.2.2.1, mi_X9_takePath.2.2.2, mj_X9_takePath⟩
theorem cv_X10_34 : am_cv xx RX10 34 yX7_grow cX7_grow 5 none 2 := ⟨x_in 1157 (by decide +kernel), mi_X7_grow.1, mi_X7_grow.2.1, mi_X7_grow.2.2.1, mi_X7_grow.2.2.2, mj_X7_grow⟩
theorem mi_X10_sendDown : Cond.instanceMethod yX10_sendDown ∈ am_WS xx ∧ Cond.selects (yX10_sendDown).cls yX10_sendDown yX10_sendDown ∈ am_WS xx ∧ Cond.initialized (yX10_sendDown).cls ∈ am_WS xx ∧ Cond.code yX10_sendDown cX10_sendDown 7 (some .int) ∈ am_WS xx := ⟨x_in 1160 (by decide +kernel), x_in 21 (by decide +kernel), x_in 101 (by decide +kernel), x_in 1161 (by decide +kernel)⟩
theorem mj_X10_sendDown : (yX10_sendDown).cls ≠ "java/lang/invoke/MethodHandle" ∧ (yX10_sendDown).cls ≠ "java/lang/invoke/VarHandle" ∧ (parseMethodDescriptor (yX10_sendDown).desc).map (fun d => d.parameters.length) = some 2 := ⟨by decide +kernel, by decide +kernel, by decide +kernel⟩
theorem cv_X10_50 : am_cv xx RX10 50 yX10_sendDown cX10_sendDown 7 (some .int) 2 := ⟨x_in 1158 (by decide +kernel), mi_X10_sendDown.1, mi_X10_sendDown.2.1, mi_X10_sendDown.2.2.1, mi_X10_sendDown.2.2.2, mj_X10_sendDown⟩
theorem mi_X10_rebuildMissing : Cond.instanceMethod yX10_rebuildMissing ∈ am_WS xx ∧ Cond.selects (yX10_rebuildMissing).cls yX10_rebuildMissing yX10_rebuildMissing ∈ am_WS xx ∧ Cond.initialized (yX10_rebuildMissing).cls ∈ am_WS xx ∧ Cond.code yX10_rebuildMissing cX10_rebuildMissing 5 none ∈ am_WS xx := ⟨x_in 1170 (by decide +kernel), x_in 23 (by decide +kernel), x_in 101 (by decide +kernel), x_in 1171 (by decide +kernel)⟩
theorem mj_X10_rebuildMissing : (yX10_rebuildMissing).cls ≠ "java/lang/invoke/MethodHandle" ∧ (yX10_rebuildMissing).cls ≠ "java/lang/invoke/VarHandle" ∧ (parseMethodDescriptor (yX10_rebuildMissing).desc).map (fun d => d.parameters.length) = some 1 := ⟨by decide +kernel, by decide +kernel, by decide +kernel⟩
theorem cv_X10_58 : am_cv xx RX10 58 yX10_rebuildMissing cX10_rebuildMissing 5 none 1 := ⟨x_in 1168 (by decide +kernel), mi_X10_rebuildMissing.1, mi_X10_rebuildMissing.2.1, mi_X10_rebuildMissing.2.2.1, mi_X10_rebuildMissing.2.2.2, mj_X10_rebuildMissing⟩
theorem mi_X10_endIfDue : Cond.instanceMethod yX10_endIfDue ∈ am_WS xx ∧ Cond.selects (yX10_endIfDue).cls yX10_endIfDue yX10_endIfDue ∈ am_WS xx ∧ Cond.initialized (yX10_endIfDue).cls ∈ am_WS xx ∧ Cond.code yX10_endIfDue cX10_endIfDue 2 none ∈ am_WS xx := ⟨x_in 1176 (by decide +kernel), x_in 24 (by decide +kernel), x_in 101 (by decide +kernel), x_in 1177 (by decide +kernel)⟩
theorem mj_X10_endIfDue : (yX10_endIfDue).cls ≠ "java/lang/invoke/MethodHandle" ∧ (yX10_endIfDue).cls ≠ "java/lang/invoke/VarHandle" ∧ (parseMethodDescriptor (yX10_endIfDue).desc).map (fun d => d.parameters.length) = some 1 := ⟨by decide +kernel, by decide +kernel, by decide +kernel⟩
theorem cv_X10_65 : am_cv xx RX10 65 yX10_endIfDue cX10_endIfDue 2 none 1 := ⟨x_in 1174 (by decide +kernel), mi_X10_endIfDue.1, mi_X10_endIfDue.2.1, mi_X10_endIfDue.2.2.1, mi_X10_endIfDue.2.2.2, mj_X10_endIfDue⟩
theorem cn_X10_71 : am_cn xx RX10 71 yX11_hasBit "DandelionBroadcast" cX11_hasBit 2 (some .boolean) 2 := ⟨y_inN 1162 (by decide +kernel), mi_X11_hasBit.1, mi_X11_hasBit.2.1, mi_X11_hasBit.2.2, mj_X11_hasBit⟩
theorem mi_X10_arrives : Cond.instanceMethod yX10_arrives ∈ am_WS xx ∧ Cond.selects (yX10_arrives).cls yX10_arrives yX10_arrives ∈ am_WS xx ∧ Cond.initialized (yX10_arrives).cls ∈ am_WS xx ∧ Cond.code yX10_arrives cX10_arrives 4 (some .boolean) ∈ am_WS xx := ⟨x_in 1165 (by decide +kernel), x_in 22 (by decide +kernel), x_in 101 (by decide +kernel), x_in 1166 (by decide +kernel)⟩
theorem mj_X10_arrives : (yX10_arrives).cls ≠ "java/lang/invoke/MethodHandle" ∧ (yX10_arrives).cls ≠ "java/lang/invoke/VarHandle" ∧ (parseMethodDescriptor (yX10_arrives).desc).map (fun d => d.parameters.length) = some 2 := ⟨by decide +kernel, by decide +kernel, by decide +kernel⟩
theorem cv_X10_75 : am_cv xx RX10 75 yX10_arrives cX10_arrives 4 (some .boolean) 2 := ⟨x_in 1163 (by decide +kernel), mi_X10_arrives.1, mi_X10_arrives.2.1, mi_X10_arrives.2.2.1, mi_X10_arrives.2.2.2, mj_X10_arrives⟩
theorem cv_X10_97 : am_cv xx RX10 97 yX6_dangerOf cX6_dangerOf 3 (some .int) 2 := ⟨x_in 1167 (by decide +kernel), mi_X6_dangerOf.1, mi_X6_dangerOf.2.1, mi_X6_dangerOf.2.2.1, mi_X6_dangerOf.2.2.2, mj_X6_dangerOf⟩
theorem cv_X10_104 : am_cv xx RX10 104 yX1_allPackets cX1_allPackets 1 (some .int) 0 := ⟨x_in 1172 (by decide +kernel), mi_X1_allPackets.1, mi_X1_allPackets.2.1, mi_X1_allPackets.2.2.1, mi_X1_allPackets.2.2.2, mj_X1_allPackets⟩
theorem cs_X10_108 : am_cs xx RX10 108 yJ6_bitCount_0f7a4 cJ6_bitCount_0f7a4 1 (some .int) 1 := ⟨x_in 1173 (by decide +kernel), mi_J6_bitCount_0f7a4.1, mi_J6_bitCount_0f7a4.2.1, mi_J6_bitCount_0f7a4.2.2, mj_J6_bitCount_0f7a4⟩
theorem mi_X10_coversTree : Cond.instanceMethod yX10_coversTree ∈ am_WS xx ∧ Cond.selects (yX10_coversTree).cls yX10_coversTree yX10_coversTree ∈ am_WS xx ∧ Cond.initialized (yX10_coversTree).cls ∈ am_WS xx ∧ Cond.code yX10_coversTree cX10_coversTree 3 (some .boolean) ∈ am_WS xx := ⟨x_in 1180 (by decide +kernel), x_in 25 (by decide +kernel), x_in 101 (by decide +kernel), x_in 1181 (by decide +kernel)⟩
theorem mj_X10_coversTree : (yX10_coversTree).cls ≠ "java/lang/invoke/MethodHandle" ∧ (yX10_coversTree).cls ≠ "java/lang/invoke/VarHandle" ∧ (parseMethodDescriptor (yX10_coversTree).desc).map (fun d => d.parameters.length) = some 1 := ⟨by decide +kernel, by decide +kernel, by decide +kernel⟩
theorem cv_X10_117 : am_cv xx RX10 117 yX10_coversTree cX10_coversTree 3 (some .boolean) 1 := ⟨x_in 1178 (by decide +kernel), mi_X10_coversTree.1, mi_X10_coversTree.2.1, mi_X10_coversTree.2.2.1, mi_X10_coversTree.2.2.2, mj_X10_coversTree⟩
theorem mi_X1_covers : Cond.instanceMethod yX1_covers ∈ am_WS xx ∧ Cond.selects (yX1_covers).cls yX1_covers yX1_covers ∈ am_WS xx ∧ Cond.initialized (yX1_covers).cls ∈ am_WS xx ∧ Cond.code yX1_covers cX1_covers 3 (some .boolean) ∈ am_WS xx := ⟨x_in 578 (by decide +kernel), x_in 579 (by decide +kernel), x_in 97 (by decide +kernel), x_in 580 (by decide +kernel)⟩
theorem mj_X1_covers : (yX1_covers).cls ≠ "java/lang/invoke/MethodHandle" ∧ (yX1_covers).cls ≠ "java/lang/invoke/VarHandle" ∧ (parseMethodDescriptor (yX1_covers).desc).map (fun d => d.parameters.length) = some 1 := ⟨by decide +kernel, by decide +kernel, by decide +kernel⟩
theorem cv_X10_130 : am_cv xx RX10 130 yX1_covers cX1_covers 3 (some .boolean) 1 := ⟨x_in 1182 (by decide +kernel), mi_X1_covers.1, mi_X1_covers.2.1, mi_X1_covers.2.2.1, mi_X1_covers.2.2.2, mj_X1_covers⟩
theorem mi_X4_note : Cond.instanceMethod yX4_note ∈ am_WS xx ∧ Cond.selects (yX4_note).cls yX4_note yX4_note ∈ am_WS xx ∧ Cond.initialized (yX4_note).cls ∈ am_WS xx ∧ Cond.code yX4_note cX4_note 2 none ∈ am_WS xx := ⟨x_in 710 (by decide +kernel), x_in 711 (by decide +kernel), x_in 98 (by decide +kernel), x_in 712 (by decide +kernel)⟩
theorem mj_X4_note : (yX4_note).cls ≠ "java/lang/invoke/MethodHandle" ∧ (yX4_note).cls ≠ "java/lang/invoke/VarHandle" ∧ (parseMethodDescriptor (yX4_note).desc).map (fun d => d.parameters.length) = some 1 := ⟨by decide +kernel, by decide +kernel, by decide +kernel⟩
theorem cv_X11_88 : am_cv xx RX11 88 yX4_note cX4_note 2 none 1 := ⟨x_in 709 (by decide +kernel), mi_X4_note.1, mi_X4_note.2.1, mi_X4_note.2.2.1, mi_X4_note.2.2.2, mj_X4_note⟩
theorem mi_X2_appendField : Cond.instanceMethod yX2_appendField ∈ am_WS xx ∧ Cond.selects (yX2_appendField).cls yX2_appendField yX2_appendField ∈ am_WS xx ∧ Cond.initialized (yX2_appendField).cls ∈ am_WS xx ∧ Cond.code yX2_appendField cX2_appendField 4 (some .int) ∈ am_WS xx := ⟨x_in 715 (by decide +kernel), x_in 716 (by decide +kernel), x_in 102 (by decide +kernel), x_in 717 (by decide +kernel)⟩
theorem mj_X2_appendField : (yX2_appendField).cls ≠ "java/lang/invoke/MethodHandle" ∧ (yX2_appendField).cls ≠ "java/lang/invoke/VarHandle" ∧ (parseMethodDescriptor (yX2_appendField).desc).map (fun d => d.parameters.length) = some 2 := ⟨by decide +kernel, by decide +kernel, by decide +kernel⟩
theorem cv_X11_92 : am_cv xx RX11 92 yX2_appendField cX2_appendField 4 (some .int) 2 := ⟨x_in 714 (by decide +kernel), mi_X2_appendField.1, mi_X2_appendField.2.1, mi_X2_appendField.2.2.1, mi_X2_appendField.2.2.2, mj_X2_appendField⟩
theorem mi_X11_settle : Cond.instanceMethod yX11_settle ∈ am_WS xx ∧ Cond.selects (yX11_settle).cls yX11_settle yX11_settle ∈ am_WS xx ∧ Cond.initialized (yX11_settle).cls ∈ am_WS xx ∧ Cond.code yX11_settle cX11_settle 2 (some .int) ∈ am_WS xx := ⟨x_in 727 (by decide +kernel), x_in 12 (by decide +kernel), x_in 94 (by decide +kernel), x_in 728 (by decide +kernel)⟩
theorem mj_X11_settle : (yX11_settle).cls ≠ "java/lang/invoke/MethodHandle" ∧ (yX11_settle).cls ≠ "java/lang/invoke/VarHandle" ∧ (parseMethodDescriptor (yX11_settle).desc).map (fun d => d.parameters.length) = some 1 := ⟨by decide +kernel, by decide +kernel, by decide +kernel⟩
theorem cv_X11_96 : am_cv xx RX11 96 yX11_settle cX11_settle 2 (some .int) 1 := ⟨x_in 725 (by decide +kernel), mi_X11_settle.1, mi_X11_settle.2.1, mi_X11_settle.2.2.1, mi_X11_settle.2.2.2, mj_X11_settle⟩
theorem mi_X2_replaceShield : Cond.instanceMethod yX2_replaceShield ∈ am_WS xx ∧ Cond.selects (yX2_replaceShield).cls yX2_replaceShield yX2_replaceShield ∈ am_WS xx ∧ Cond.initialized (yX2_replaceShield).cls ∈ am_WS xx ∧ Cond.code yX2_replaceShield cX2_replaceShield 5 (some .int) ∈ am_WS xx := ⟨x_in 871 (by decide +kernel), x_in 872 (by decide +kernel), x_in 102 (by decide +kernel), x_in 873 (by decide +kernel)⟩
theorem mj_X2_replaceShield : (yX2_replaceShield).cls ≠ "java/lang/invoke/MethodHandle" ∧ (yX2_replaceShield).cls ≠ "java/lang/invoke/VarHandle" ∧ (parseMethodDescriptor (yX2_replaceShield).desc).map (fun d => d.parameters.length) = some 3 := ⟨by decide +kernel, by decide +kernel, by decide +kernel⟩
theorem cv_X11_100 : am_cv xx RX11 100 yX2_replaceShield cX2_replaceShield 5 (some .int) 3 := ⟨x_in 870 (by decide +kernel), mi_X2_replaceShield.1, mi_X2_replaceShield.2.1, mi_X2_replaceShield.2.2.1, mi_X2_replaceShield.2.2.2, mj_X2_replaceShield⟩
theorem mi_X2_appendPath : Cond.instanceMethod yX2_appendPath ∈ am_WS xx ∧ Cond.selects (yX2_appendPath).cls yX2_appendPath yX2_appendPath ∈ am_WS xx ∧ Cond.initialized (yX2_appendPath).cls ∈ am_WS xx ∧ Cond.code yX2_appendPath cX2_appendPath 9 (some .int) ∈ am_WS xx := ⟨x_in 886 (by decide +kernel), x_in 887 (by decide +kernel), x_in 102 (by decide +kernel), x_in 888 (by decide +kernel)⟩
theorem mj_X2_appendPath : (yX2_appendPath).cls ≠ "java/lang/invoke/MethodHandle" ∧ (yX2_appendPath).cls ≠ "java/lang/invoke/VarHandle" ∧ (parseMethodDescriptor (yX2_appendPath).desc).map (fun d => d.parameters.length) = some 5 := ⟨by decide +kernel, by decide +kernel, by decide +kernel⟩
theorem cv_X11_104 : am_cv xx RX11 104 yX2_appendPath cX2_appendPath 9 (some .int) 5 := ⟨x_in 885 (by decide +kernel), mi_X2_appendPath.1, mi_X2_appendPath.2.1, mi_X2_appendPath.2.2.1, mi_X2_appendPath.2.2.2, mj_X2_appendPath⟩
theorem mi_X2_replaceGust : Cond.instanceMethod yX2_replaceGust ∈ am_WS xx ∧ Cond.selects (yX2_replaceGust).cls yX2_replaceGust yX2_replaceGust ∈ am_WS xx ∧ Cond.initialized (yX2_replaceGust).cls ∈ am_WS xx ∧ Cond.code yX2_replaceGust cX2_replaceGust 5 (some .int) ∈ am_WS xx := ⟨x_in 912 (by decide +kernel), x_in 913 (by decide +kernel), x_in 102 (by decide +kernel), x_in 914 (by decide +kernel)⟩
theorem mj_X2_replaceGust : (yX2_replaceGust).cls ≠ "java/lang/invoke/MethodHandle" ∧ (yX2_replaceGust).cls ≠ "java/lang/invoke/VarHandle" ∧ (parseMethodDescriptor (yX2_replaceGust).desc).map (fun d => d.parameters.length) = some 3 := ⟨by decide +kernel, by decide +kernel, by decide +kernel⟩
theorem cv_X11_108 : am_cv xx RX11 108 yX2_replaceGust cX2_replaceGust 5 (some .int) 3 := ⟨x_in 911 (by decide +kernel), mi_X2_replaceGust.1, mi_X2_replaceGust.2.1, mi_X2_replaceGust.2.2.1, mi_X2_replaceGust.2.2.2, mj_X2_replaceGust⟩
theorem mi_X2_replaceBlocked : Cond.instanceMethod yX2_replaceBlocked ∈ am_WS xx ∧ Cond.selects (yX2_replaceBlocked).cls yX2_replaceBlocked yX2_replaceBlocked ∈ am_WS xx ∧ Cond.initialized (yX2_replaceBlocked).cls ∈ am_WS xx ∧ Cond.code yX2_replaceBlocked cX2_replaceBlocked 5 (some .int) ∈ am_WS xx := ⟨x_in 924 (by decide +kernel), x_in 925 (by decide +kernel), x_in 102 (by decide +kernel), x_in 926 (by decide +kernel)⟩
theorem mj_X2_replaceBlocked : (yX2_replaceBlocked).cls ≠ "java/lang/invoke/MethodHandle" ∧ (yX2_replaceBlocked).cls ≠ "java/lang/invoke/VarHandle" ∧ (parseMethodDescriptor (yX2_replaceBlocked).desc).map (fun d => d.parameters.length) = some 3 := ⟨by decide +kernel, by decide +kernel, by decide +kernel⟩
theorem cv_X11_111 : am_cv xx RX11 111 yX2_replaceBlocked cX2_replaceBlocked 5 (some .int) 3 := ⟨x_in 923 (by decide +kernel), mi_X2_replaceBlocked.1, mi_X2_replaceBlocked.2.1, mi_X2_replaceBlocked.2.2.1, mi_X2_replaceBlocked.2.2.2, mj_X2_replaceBlocked⟩
theorem mi_X11_requireField : Cond.instanceMethod yX11_requireField ∈ am_WS xx ∧ Cond.selects (yX11_requireField).cls yX11_requireField yX11_requireField ∈ am_WS xx ∧ Cond.initialized (yX11_requireField).cls ∈ am_WS xx ∧ Cond.code yX11_requireField cX11_requireField 2 none ∈ am_WS xx := ⟨x_in 937 (by decide +kernel), x_in 15 (by decide +kernel), x_in 94 (by decide +kernel), x_in 938 (by decide +kernel)⟩
theorem mj_X11_requireField : (yX11_requireField).cls ≠ "java/lang/invoke/MethodHandle" ∧ (yX11_requireField).cls ≠ "java/lang/invoke/VarHandle" ∧ (parseMethodDescriptor (yX11_requireField).desc).map (fun d => d.parameters.length) = some 1 := ⟨by decide +kernel, by decide +kernel, by decide +kernel⟩
theorem cv_X11_127 : am_cv xx RX11 127 yX11_requireField cX11_requireField 2 none 1 := ⟨x_in 935 (by decide +kernel), mi_X11_requireField.1, mi_X11_requireField.2.1, mi_X11_requireField.2.2.1, mi_X11_requireField.2.2.2, mj_X11_requireField⟩
theorem mi_X11_requirePath : Cond.instanceMethod yX11_requirePath ∈ am_WS xx ∧ Cond.selects (yX11_requirePath).cls yX11_requirePath yX11_requirePath ∈ am_WS xx ∧ Cond.initialized (yX11_requirePath).cls ∈ am_WS xx ∧ Cond.code yX11_requirePath cX11_requirePath 2 none ∈ am_WS xx := ⟨x_in 950 (by decide +kernel), x_in 16 (by decide +kernel), x_in 94 (by decide +kernel), x_in 951 (by decide +kernel)⟩
theorem mj_X11_requirePath : (yX11_requirePath).cls ≠ "java/lang/invoke/MethodHandle" ∧ (yX11_requirePath).cls ≠ "java/lang/invoke/VarHandle" ∧ (parseMethodDescriptor (yX11_requirePath).desc).map (fun d => d.parameters.length) = some 1 := ⟨by decide +kernel, by decide +kernel, by decide +kernel⟩
theorem cv_X11_135 : am_cv xx RX11 135 yX11_requirePath cX11_requirePath 2 none 1 := ⟨x_in 948 (by decide +kernel), mi_X11_requirePath.1, mi_X11_requirePath.2.1, mi_X11_requirePath.2.2.1, mi_X11_requirePath.2.2.2, mj_X11_requirePath⟩
theorem cv_X11_150 : am_cv xx RX11 150 yX6_isOpen cX6_isOpen 2 (some .boolean) 1 := ⟨x_in 982 (by decide +kernel), mi_X6_isOpen.1, mi_X6_isOpen.2.1, mi_X6_isOpen.2.2.1, mi_X6_isOpen.2.2.2, mj_X6_isOpen⟩
theorem cv_X11_154 : am_cv xx RX11 154 yX9_countGroups cX9_countGroups 6 (some .int) 2 := ⟨x_in 506 (by decide +kernel), mi_X9_countGroups.1, mi_X9_countGroups.2.1, mi_X9_countGroups.2.2.1, mi_X9_countGroups.2.2.2, mj_X9_countGroups⟩
theorem cv_X11_158 : am_cv xx RX11 158 yX9_groupAround cX9_groupAround 8 (some .int) 3 := ⟨x_in 990 (by decide +kernel), mi_X9_groupAround.1, mi_X9_groupAround.2.1, mi_X9_groupAround.2.2.1, mi_X9_groupAround.2.2.2, mj_X9_groupAround⟩
theorem cs_X11_162 : am_cs xx RX11 162 yX11_hasBit cX11_hasBit 2 (some .boolean) 2 := ⟨x_in 991 (by decide +kernel), mi_X11_hasBit.1, mi_X11_hasBit.2.1, mi_X11_hasBit.2.2, mj_X11_hasBit⟩
theorem mi_X9_cheapestByVisiting : Cond.instanceMethod yX9_cheapestByVisiting ∈ am_WS xx ∧ Cond.selects (yX9_cheapestByVisiting).cls yX9_cheapestByVisiting yX9_cheapestByVisiting ∈ am_WS xx ∧ Cond.initialized (yX9_cheapestByVisiting).cls ∈ am_WS xx ∧ Cond.code yX9_cheapestByVisiting cX9_cheapestByVisiting 7 (some .int) ∈ am_WS xx := ⟨x_in 1001 (by decide +kernel), x_in 1002 (by decide +kernel), x_in 99 (by decide +kernel), x_in 1003 (by decide +kernel)⟩
theorem mj_X9_cheapestByVisiting : (yX9_cheapestByVisiting).cls ≠ "java/lang/invoke/MethodHandle" ∧ (yX9_cheapestByVisiting).cls ≠ "java/lang/invoke/VarHandle" ∧ (parseMethodDescriptor (yX9_cheapestByVisiting).desc).map (fun d => d.parameters.length) = some 3 := ⟨by decide +kernel, by decide +kernel, by decide +kernel⟩
theorem cv_X11_166 : am_cv xx RX11 166 yX9_cheapestByVisiting cX9_cheapestByVisiting 7 (some .int) 3 := ⟨x_in 1000 (by decide +kernel), mi_X9_cheapestByVisiting.1, mi_X9_cheapestByVisiting.2.1, mi_X9_cheapestByVisiting.2.2.1, mi_X9_cheapestByVisiting.2.2.2, mj_X9_cheapestByVisiting⟩
theorem mi_X11_requireWay : Cond.static yX11_requireWay ∈ am_WS xx ∧ Cond.initialized (yX11_requireWay).cls ∈ am_WS xx ∧ Cond.code yX11_requireWay cX11_requireWay 1 (some .int) ∈ am_WS xx := ⟨x_in 1017 (by decide +kernel), x_in 94 (by decide +kernel), x_in 1018 (by decide +kernel)⟩
theorem mj_X11_requireWay : (yX11_requireWay).cls ≠ "java/lang/invoke/MethodHandle" ∧ (yX11_requireWay).cls ≠ "java/lang/invoke/VarHandle" ∧ (parseMethodDescriptor (yX11_requireWay).desc).map (fun d => d.parameters.length) = some 1 := ⟨by decide +kernel, by decide +kernel, by decide +kernel⟩
theorem cs_X11_169 : am_cs xx RX11 169 yX11_requireWay cX11_requireWay 1 (some .int) 1 := ⟨x_in 1016 (by decide +kernel), mi_X11_requireWay.1, mi_X11_requireWay.2.1, mi_X11_requireWay.2.2, mj_X11_requireWay⟩
theorem mi_X9_cheapestByLowering : Cond.instanceMethod yX9_cheapestByLowering ∈ am_WS xx ∧ Cond.selects (yX9_cheapestByLowering).cls yX9_cheapestByLowering yX9_cheapestByLowering ∈ am_WS xx ∧ Cond.initialized (yX9_cheapestByLowering).cls ∈ am_WS xx ∧ Cond.code yX9_cheapestByLowering cX9_cheapestByLowering 8 (some .int) ∈ am_WS xx := ⟨x_in 1043 (by decide +kernel), x_in 1044 (by decide +kernel), x_in 99 (by decide +kernel), x_in 1045 (by decide +kernel)⟩
theorem mj_X9_cheapestByLowering : (yX9_cheapestByLowering).cls ≠ "java/lang/invoke/MethodHandle" ∧ (yX9_cheapestByLowering).cls ≠ "java/lang/invoke/VarHandle" ∧ (parseMethodDescriptor (yX9_cheapestByLowering).desc).map (fun d => d.parameters.length) = some 3 := ⟨by decide +kernel, by decide +kernel, by decide +kernel⟩
theorem cv_X11_172 : am_cv xx RX11 172 yX9_cheapestByLowering cX9_cheapestByLowering 8 (some .int) 3 := ⟨x_in 1042 (by decide +kernel), mi_X9_cheapestByLowering.1, mi_X9_cheapestByLowering.2.1, mi_X9_cheapestByLowering.2.2.1, mi_X9_cheapestByLowering.2.2.2, mj_X9_cheapestByLowering⟩
theorem mi_X11_requireTwoFields : Cond.instanceMethod yX11_requireTwoFields ∈ am_WS xx ∧ Cond.selects (yX11_requireTwoFields).cls yX11_requireTwoFields yX11_requireTwoFields ∈ am_WS xx ∧ Cond.initialized (yX11_requireTwoFields).cls ∈ am_WS xx ∧ Cond.code yX11_requireTwoFields cX11_requireTwoFields 3 none ∈ am_WS xx := ⟨x_in 1055 (by decide +kernel), x_in 20 (by decide +kernel), x_in 94 (by decide +kernel), x_in 1056 (by decide +kernel)⟩
theorem mj_X11_requireTwoFields : (yX11_requireTwoFields).cls ≠ "java/lang/invoke/MethodHandle" ∧ (yX11_requireTwoFields).cls ≠ "java/lang/invoke/VarHandle" ∧ (parseMethodDescriptor (yX11_requireTwoFields).desc).map (fun d => d.parameters.length) = some 2 := ⟨by decide +kernel, by decide +kernel, by decide +kernel⟩
theorem cv_X11_175 : am_cv xx RX11 175 yX11_requireTwoFields cX11_requireTwoFields 3 none 2 := ⟨x_in 1053 (by decide +kernel), mi_X11_requireTwoFields.1, mi_X11_requireTwoFields.2.1, mi_X11_requireTwoFields.2.2.1, mi_X11_requireTwoFields.2.2.2, mj_X11_requireTwoFields⟩
theorem mi_X9_mostDisjoint : Cond.instanceMethod yX9_mostDisjoint ∈ am_WS xx ∧ Cond.selects (yX9_mostDisjoint).cls yX9_mostDisjoint yX9_mostDisjoint ∈ am_WS xx ∧ Cond.initialized (yX9_mostDisjoint).cls ∈ am_WS xx ∧ Cond.code yX9_mostDisjoint cX9_mostDisjoint 5 (some .int) ∈ am_WS xx := ⟨x_in 657 (by decide +kernel), x_in 658 (by decide +kernel), x_in 99 (by decide +kernel), x_in 659 (by decide +kernel)⟩
theorem mj_X9_mostDisjoint : (yX9_mostDisjoint).cls ≠ "java/lang/invoke/MethodHandle" ∧ (yX9_mostDisjoint).cls ≠ "java/lang/invoke/VarHandle" ∧ (parseMethodDescriptor (yX9_mostDisjoint).desc).map (fun d => d.parameters.length) = some 3 := ⟨by decide +kernel, by decide +kernel, by decide +kernel⟩
theorem cv_X11_179 : am_cv xx RX11 179 yX9_mostDisjoint cX9_mostDisjoint 5 (some .int) 3 := ⟨x_in 656 (by decide +kernel), mi_X9_mostDisjoint.1, mi_X9_mostDisjoint.2.1, mi_X9_mostDisjoint.2.2.1, mi_X9_mostDisjoint.2.2.2, mj_X9_mostDisjoint⟩
theorem mi_X9_fewestLeaving : Cond.instanceMethod yX9_fewestLeaving ∈ am_WS xx ∧ Cond.selects (yX9_fewestLeaving).cls yX9_fewestLeaving yX9_fewestLeaving ∈ am_WS xx ∧ Cond.initialized (yX9_fewestLeaving).cls ∈ am_WS xx ∧ Cond.code yX9_fewestLeaving cX9_fewestLeaving 7 (some .int) ∈ am_WS xx := ⟨x_in 669 (by decide +kernel), x_in 670 (by decide +kernel), x_in 99 (by decide +kernel), x_in 671 (by decide +kernel)⟩
theorem mj_X9_fewestLeaving : (yX9_fewestLeaving).cls ≠ "java/lang/invoke/MethodHandle" ∧ (yX9_fewestLeaving).cls ≠ "java/lang/invoke/VarHandle" ∧ (parseMethodDescriptor (yX9_fewestLeaving).desc).map (fun d => d.parameters.length) = some 3 := ⟨by decide +kernel, by decide +kernel, by decide +kernel⟩
theorem cv_X11_182 : am_cv xx RX11 182 yX9_fewestLeaving cX9_fewestLeaving 7 (some .int) 3 := ⟨x_in 668 (by decide +kernel), mi_X9_fewestLeaving.1, mi_X9_fewestLeaving.2.1, mi_X9_fewestLeaving.2.2.1, mi_X9_fewestLeaving.2.2.2, mj_X9_fewestLeaving⟩
theorem cv_X11_185 : am_cv xx RX11 185 yX9_partsGroups cX9_partsGroups 3 (some .boolean) 2 := ⟨x_in 1072 (by decide +kernel), mi_X9_partsGroups.1, mi_X9_partsGroups.2.1, mi_X9_partsGroups.2.2.1, mi_X9_partsGroups.2.2.2, mj_X9_partsGroups⟩
theorem mi_X9_countBridgesByWalk : Cond.instanceMethod yX9_countBridgesByWalk ∈ am_WS xx ∧ Cond.selects (yX9_countBridgesByWalk).cls yX9_countBridgesByWalk yX9_countBridgesByWalk ∈ am_WS xx ∧ Cond.initialized (yX9_countBridgesByWalk).cls ∈ am_WS xx ∧ Cond.code yX9_countBridgesByWalk cX9_countBridgesByWalk 4 (some .int) ∈ am_WS xx := ⟨x_in 530 (by decide +kernel), x_in 531 (by decide +kernel), x_in 99 (by decide +kernel), x_in 532 (by decide +kernel)⟩
theorem mj_X9_countBridgesByWalk : (yX9_countBridgesByWalk).cls ≠ "java/lang/invoke/MethodHandle" ∧ (yX9_countBridgesByWalk).cls ≠ "java/lang/invoke/VarHandle" ∧ (parseMethodDescriptor (yX9_countBridgesByWalk).desc).map (fun d => d.parameters.length) = some 1 := ⟨by decide +kernel, by decide +kernel, by decide +kernel⟩
theorem cv_X11_189 : am_cv xx RX11 189 yX9_countBridgesByWalk cX9_countBridgesByWalk 4 (some .int) 1 := ⟨x_in 529 (by decide +kernel), mi_X9_countBridgesByWalk.1, mi_X9_countBridgesByWalk.2.1, mi_X9_countBridgesByWalk.2.2.1, mi_X9_countBridgesByWalk.2.2.2, mj_X9_countBridgesByWalk⟩
theorem mi_X9_countBridgesByGroups : Cond.instanceMethod yX9_countBridgesByGroups ∈ am_WS xx ∧ Cond.selects (yX9_countBridgesByGroups).cls yX9_countBridgesByGroups yX9_countBridgesByGroups ∈ am_WS xx ∧ Cond.initialized (yX9_countBridgesByGroups).cls ∈ am_WS xx ∧ Cond.code yX9_countBridgesByGroups cX9_countBridgesByGroups 4 (some .int) ∈ am_WS xx := ⟨x_in 561 (by decide +kernel), x_in 562 (by decide +kernel), x_in 99 (by decide +kernel), x_in 563 (by decide +kernel)⟩
theorem mj_X9_countBridgesByGroups : (yX9_countBridgesByGroups).cls ≠ "java/lang/invoke/MethodHandle" ∧ (yX9_countBridgesByGroups).cls ≠ "java/lang/invoke/VarHandle" ∧ (parseMethodDescriptor (yX9_countBridgesByGroups).desc).map (fun d => d.parameters.length) = some 1 := ⟨by decide +kernel, by decide +kernel, by decide +kernel⟩
theorem cv_X11_193 : am_cv xx RX11 193 yX9_countBridgesByGroups cX9_countBridgesByGroups 4 (some .int) 1 := ⟨x_in 560 (by decide +kernel), mi_X9_countBridgesByGroups.1, mi_X9_countBridgesByGroups.2.1, mi_X9_countBridgesByGroups.2.2.1, mi_X9_countBridgesByGroups.2.2.2, mj_X9_countBridgesByGroups⟩
theorem mi_X7_costInOrder : Cond.instanceMethod yX7_costInOrder ∈ am_WS xx ∧ Cond.selects (yX7_costInOrder).cls yX7_costInOrder yX7_costInOrder ∈ am_WS xx ∧ Cond.initialized (yX7_costInOrder).cls ∈ am_WS xx ∧ Cond.code yX7_costInOrder cX7_costInOrder 6 (some .int) ∈ am_WS xx := ⟨x_in 614 (by decide +kernel), x_in 615 (by decide +kernel), x_in 100 (by decide +kernel), x_in 616 (by decide +kernel)⟩
theorem mj_X7_costInOrder : (yX7_costInOrder).cls ≠ "java/lang/invoke/MethodHandle" ∧ (yX7_costInOrder).cls ≠ "java/lang/invoke/VarHandle" ∧ (parseMethodDescriptor (yX7_costInOrder).desc).map (fun d => d.parameters.length) = some 2 := ⟨by decide +kernel, by decide +kernel, by decide +kernel⟩
theorem cv_X11_196 : am_cv xx RX11 196 yX7_costInOrder cX7_costInOrder 6 (some .int) 2 := ⟨x_in 613 (by decide +kernel), mi_X7_costInOrder.1, mi_X7_costInOrder.2.1, mi_X7_costInOrder.2.2.1, mi_X7_costInOrder.2.2.2, mj_X7_costInOrder⟩
theorem mi_X7_costGrown : Cond.instanceMethod yX7_costGrown ∈ am_WS xx ∧ Cond.selects (yX7_costGrown).cls yX7_costGrown yX7_costGrown ∈ am_WS xx ∧ Cond.initialized (yX7_costGrown).cls ∈ am_WS xx ∧ Cond.code yX7_costGrown cX7_costGrown 5 (some .int) ∈ am_WS xx := ⟨x_in 632 (by decide +kernel), x_in 633 (by decide +kernel), x_in 100 (by decide +kernel), x_in 634 (by decide +kernel)⟩
theorem mj_X7_costGrown : (yX7_costGrown).cls ≠ "java/lang/invoke/MethodHandle" ∧ (yX7_costGrown).cls ≠ "java/lang/invoke/VarHandle" ∧ (parseMethodDescriptor (yX7_costGrown).desc).map (fun d => d.parameters.length) = some 2 := ⟨by decide +kernel, by decide +kernel, by decide +kernel⟩
theorem cv_X11_199 : am_cv xx RX11 199 yX7_costGrown cX7_costGrown 5 (some .int) 2 := ⟨x_in 631 (by decide +kernel), mi_X7_costGrown.1, mi_X7_costGrown.2.1, mi_X7_costGrown.2.2.1, mi_X7_costGrown.2.2.2, mj_X7_costGrown⟩
theorem cv_X11_202 : am_cv xx RX11 202 yX7_chooseInOrder cX7_chooseInOrder 6 (some .int) 2 := ⟨x_in 1094 (by decide +kernel), mi_X7_chooseInOrder.1, mi_X7_chooseInOrder.2.1, mi_X7_chooseInOrder.2.2.1, mi_X7_chooseInOrder.2.2.2, mj_X7_chooseInOrder⟩
theorem cv_X11_205 : am_cv xx RX11 205 yX7_grow cX7_grow 5 none 2 := ⟨x_in 1102 (by decide +kernel), mi_X7_grow.1, mi_X7_grow.2.1, mi_X7_grow.2.2.1, mi_X7_grow.2.2.2, mj_X7_grow⟩
theorem mi_X2_replaceSeed : Cond.instanceMethod yX2_replaceSeed ∈ am_WS xx ∧ Cond.selects (yX2_replaceSeed).cls yX2_replaceSeed yX2_replaceSeed ∈ am_WS xx ∧ Cond.initialized (yX2_replaceSeed).cls ∈ am_WS xx ∧ Cond.code yX2_replaceSeed cX2_replaceSeed 4 (some .int) ∈ am_WS xx := ⟨x_in 1120 (by decide +kernel), x_in 1121 (by decide +kernel), x_in 102 (by decide +kernel), x_in 1122 (by decide +kernel)⟩
theorem mj_X2_replaceSeed : (yX2_replaceSeed).cls ≠ "java/lang/invoke/MethodHandle" ∧ (yX2_replaceSeed).cls ≠ "java/lang/invoke/VarHandle" ∧ (parseMethodDescriptor (yX2_replaceSeed).desc).map (fun d => d.parameters.length) = some 2 := ⟨by decide +kernel, by decide +kernel, by decide +kernel⟩
theorem cv_X11_228 : am_cv xx RX11 228 yX2_replaceSeed cX2_replaceSeed 4 (some .int) 2 := ⟨x_in 1119 (by decide +kernel), mi_X2_replaceSeed.1, mi_X2_replaceSeed.2.1, mi_X2_replaceSeed.2.2.1, mi_X2_replaceSeed.2.2.2, mj_X2_replaceSeed⟩
theorem mi_X2_beginBroadcast : Cond.instanceMethod yX2_beginBroadcast ∈ am_WS xx ∧ Cond.selects (yX2_beginBroadcast).cls yX2_beginBroadcast yX2_beginBroadcast ∈ am_WS xx ∧ Cond.initialized (yX2_beginBroadcast).cls ∈ am_WS xx ∧ Cond.code yX2_beginBroadcast cX2_beginBroadcast 7 (some .int) ∈ am_WS xx := ⟨x_in 1131 (by decide +kernel), x_in 1132 (by decide +kernel), x_in 102 (by decide +kernel), x_in 1133 (by decide +kernel)⟩
theorem mj_X2_beginBroadcast : (yX2_beginBroadcast).cls ≠ "java/lang/invoke/MethodHandle" ∧ (yX2_beginBroadcast).cls ≠ "java/lang/invoke/VarHandle" ∧ (parseMethodDescriptor (yX2_beginBroadcast).desc).map (fun d => d.parameters.length) = some 4 := ⟨by decide +kernel, by decide +kernel, by decide +kernel⟩
theorem cv_X11_231 : am_cv xx RX11 231 yX2_beginBroadcast cX2_beginBroadcast 7 (some .int) 4 := ⟨x_in 1130 (by decide +kernel), mi_X2_beginBroadcast.1, mi_X2_beginBroadcast.2.1, mi_X2_beginBroadcast.2.2.1, mi_X2_beginBroadcast.2.2.2, mj_X2_beginBroadcast⟩
theorem mi_X2_letBlowOnce : Cond.instanceMethod yX2_letBlowOnce ∈ am_WS xx ∧ Cond.selects (yX2_letBlowOnce).cls yX2_letBlowOnce yX2_letBlowOnce ∈ am_WS xx ∧ Cond.initialized (yX2_letBlowOnce).cls ∈ am_WS xx ∧ Cond.code yX2_letBlowOnce cX2_letBlowOnce 3 (some .int) ∈ am_WS xx := ⟨x_in 1150 (by decide +kernel), x_in 1151 (by decide +kernel), x_in 102 (by decide +kernel), x_in 1152 (by decide +kernel)⟩
theorem mj_X2_letBlowOnce : (yX2_letBlowOnce).cls ≠ "java/lang/invoke/MethodHandle" ∧ (yX2_letBlowOnce).cls ≠ "java/lang/invoke/VarHandle" ∧ (parseMethodDescriptor (yX2_letBlowOnce).desc).map (fun d => d.parameters.length) = some 2 := ⟨by decide +kernel, by decide +kernel, by decide +kernel⟩
theorem cv_X11_235 : am_cv xx RX11 235 yX2_letBlowOnce cX2_letBlowOnce 3 (some .int) 2 := ⟨x_in 1149 (by decide +kernel), mi_X2_letBlowOnce.1, mi_X2_letBlowOnce.2.1, mi_X2_letBlowOnce.2.2.1, mi_X2_letBlowOnce.2.2.2, mj_X2_letBlowOnce⟩
theorem mi_X2_letBlowToEnd : Cond.instanceMethod yX2_letBlowToEnd ∈ am_WS xx ∧ Cond.selects (yX2_letBlowToEnd).cls yX2_letBlowToEnd yX2_letBlowToEnd ∈ am_WS xx ∧ Cond.initialized (yX2_letBlowToEnd).cls ∈ am_WS xx ∧ Cond.code yX2_letBlowToEnd cX2_letBlowToEnd 4 (some .int) ∈ am_WS xx := ⟨x_in 1191 (by decide +kernel), x_in 1192 (by decide +kernel), x_in 102 (by decide +kernel), x_in 1193 (by decide +kernel)⟩
theorem mj_X2_letBlowToEnd : (yX2_letBlowToEnd).cls ≠ "java/lang/invoke/MethodHandle" ∧ (yX2_letBlowToEnd).cls ≠ "java/lang/invoke/VarHandle" ∧ (parseMethodDescriptor (yX2_letBlowToEnd).desc).map (fun d => d.parameters.length) = some 2 := ⟨by decide +kernel, by decide +kernel, by decide +kernel⟩
theorem cv_X11_239 : am_cv xx RX11 239 yX2_letBlowToEnd cX2_letBlowToEnd 4 (some .int) 2 := ⟨x_in 1190 (by decide +kernel), mi_X2_letBlowToEnd.1, mi_X2_letBlowToEnd.2.1, mi_X2_letBlowToEnd.2.2.1, mi_X2_letBlowToEnd.2.2.2, mj_X2_letBlowToEnd⟩
theorem mi_X2_stopBroadcast : Cond.instanceMethod yX2_stopBroadcast ∈ am_WS xx ∧ Cond.selects (yX2_stopBroadcast).cls yX2_stopBroadcast yX2_stopBroadcast ∈ am_WS xx ∧ Cond.initialized (yX2_stopBroadcast).cls ∈ am_WS xx ∧ Cond.code yX2_stopBroadcast cX2_stopBroadcast 2 (some .int) ∈ am_WS xx := ⟨x_in 1202 (by decide +kernel), x_in 1203 (by decide +kernel), x_in 102 (by decide +kernel), x_in 1204 (by decide +kernel)⟩
theorem mj_X2_stopBroadcast : (yX2_stopBroadcast).cls ≠ "java/lang/invoke/MethodHandle" ∧ (yX2_stopBroadcast).cls ≠ "java/lang/invoke/VarHandle" ∧ (parseMethodDescriptor (yX2_stopBroadcast).desc).map (fun d => d.parameters.length) = some 1 := ⟨by decide +kernel, by decide +kernel, by decide +kernel⟩
theorem cv_X11_242 : am_cv xx RX11 242 yX2_stopBroadcast cX2_stopBroadcast 2 (some .int) 1 := ⟨x_in 1201 (by decide +kernel), mi_X2_stopBroadcast.1, mi_X2_stopBroadcast.2.1, mi_X2_stopBroadcast.2.2.1, mi_X2_stopBroadcast.2.2.2, mj_X2_stopBroadcast⟩
theorem mi_X11_requireStarted : Cond.instanceMethod yX11_requireStarted ∈ am_WS xx ∧ Cond.selects (yX11_requireStarted).cls yX11_requireStarted yX11_requireStarted ∈ am_WS xx ∧ Cond.initialized (yX11_requireStarted).cls ∈ am_WS xx ∧ Cond.code yX11_requireStarted cX11_requireStarted 1 none ∈ am_WS xx := ⟨x_in 1214 (by decide +kernel), x_in 26 (by decide +kernel), x_in 94 (by decide +kernel), x_in 1215 (by decide +kernel)⟩
theorem mj_X11_requireStarted : (yX11_requireStarted).cls ≠ "java/lang/invoke/MethodHandle" ∧ (yX11_requireStarted).cls ≠ "java/lang/invoke/VarHandle" ∧ (parseMethodDescriptor (yX11_requireStarted).desc).map (fun d => d.parameters.length) = some 0 := ⟨by decide +kernel, by decide +kernel, by decide +kernel⟩
theorem cv_X11_255 : am_cv xx RX11 255 yX11_requireStarted cX11_requireStarted 1 none 0 := ⟨x_in 1212 (by decide +kernel), mi_X11_requireStarted.1, mi_X11_requireStarted.2.1, mi_X11_requireStarted.2.2.1, mi_X11_requireStarted.2.2.2, mj_X11_requireStarted⟩
theorem cv_X11_261 : am_cv xx RX11 261 yX1_packetTotal cX1_packetTotal 1 (some .int) 0 := ⟨x_in 1224 (by decide +kernel), mi_X1_packetTotal.1, mi_X1_packetTotal.2.1, mi_X1_packetTotal.2.2.1, mi_X1_packetTotal.2.2.2, mj_X1_packetTotal⟩
theorem cs_X11_270 : am_cs xx RX11 270 yJ6_bitCount_0f7a4 cJ6_bitCount_0f7a4 1 (some .int) 1 := ⟨x_in 1233 (by decide +kernel), mi_J6_bitCount_0f7a4.1, mi_J6_bitCount_0f7a4.2.1, mi_J6_bitCount_0f7a4.2.2, mj_J6_bitCount_0f7a4⟩
theorem cv_X11_275 : am_cv xx RX11 275 yX1_covers cX1_covers 3 (some .boolean) 1 := ⟨x_in 577 (by decide +kernel), mi_X1_covers.1, mi_X1_covers.2.1, mi_X1_covers.2.2.1, mi_X1_covers.2.2.2, mj_X1_covers⟩
theorem mi_X11_requireRunning : Cond.instanceMethod yX11_requireRunning ∈ am_WS xx ∧ Cond.selects (yX11_requireRunning).cls yX11_requireRunning yX11_requireRunning ∈ am_WS xx ∧ Cond.initialized (yX11_requireRunning).cls ∈ am_WS xx ∧ Cond.code yX11_requireRunning cX11_requireRunning 1 none ∈ am_WS xx := ⟨x_in 1250 (by decide +kernel), x_in 27 (by decide +kernel), x_in 94 (by decide +kernel), x_in 1251 (by decide +kernel)⟩
theorem mj_X11_requireRunning : (yX11_requireRunning).cls ≠ "java/lang/invoke/MethodHandle" ∧ (yX11_requireRunning).cls ≠ "java/lang/invoke/VarHandle" ∧ (parseMethodDescriptor (yX11_requireRunning).desc).map (fun d => d.parameters.length) = some 0 := ⟨by decide +kernel, by decide +kernel, by decide +kernel⟩
theorem cv_X11_278 : am_cv xx RX11 278 yX11_requireRunning cX11_requireRunning 1 none 0 := ⟨x_in 1248 (by decide +kernel), mi_X11_requireRunning.1, mi_X11_requireRunning.2.1, mi_X11_requireRunning.2.2.1, mi_X11_requireRunning.2.2.2, mj_X11_requireRunning⟩
theorem cv_X11_281 : am_cv xx RX11 281 yX8_copyFrom cX8_copyFrom 2 none 1 := ⟨x_in 683 (by decide +kernel), mi_X8_copyFrom.1, mi_X8_copyFrom.2.1, mi_X8_copyFrom.2.2.1, mi_X8_copyFrom.2.2.2, mj_X8_copyFrom⟩
theorem mi_X8_fieldsAheadOf : Cond.instanceMethod yX8_fieldsAheadOf ∈ am_WS xx ∧ Cond.selects (yX8_fieldsAheadOf).cls yX8_fieldsAheadOf yX8_fieldsAheadOf ∈ am_WS xx ∧ Cond.initialized (yX8_fieldsAheadOf).cls ∈ am_WS xx ∧ Cond.code yX8_fieldsAheadOf cX8_fieldsAheadOf 4 (some .int) ∈ am_WS xx := ⟨x_in 1275 (by decide +kernel), x_in 1276 (by decide +kernel), x_in 95 (by decide +kernel), x_in 1277 (by decide +kernel)⟩
theorem mj_X8_fieldsAheadOf : (yX8_fieldsAheadOf).cls ≠ "java/lang/invoke/MethodHandle" ∧ (yX8_fieldsAheadOf).cls ≠ "java/lang/invoke/VarHandle" ∧ (parseMethodDescriptor (yX8_fieldsAheadOf).desc).map (fun d => d.parameters.length) = some 1 := ⟨by decide +kernel, by decide +kernel, by decide +kernel⟩
theorem cv_X11_305 : am_cv xx RX11 305 yX8_fieldsAheadOf cX8_fieldsAheadOf 4 (some .int) 1 := ⟨x_in 1274 (by decide +kernel), mi_X8_fieldsAheadOf.1, mi_X8_fieldsAheadOf.2.1, mi_X8_fieldsAheadOf.2.2.1, mi_X8_fieldsAheadOf.2.2.2, mj_X8_fieldsAheadOf⟩
theorem mi_X8_pathsAheadOf : Cond.instanceMethod yX8_pathsAheadOf ∈ am_WS xx ∧ Cond.selects (yX8_pathsAheadOf).cls yX8_pathsAheadOf yX8_pathsAheadOf ∈ am_WS xx ∧ Cond.initialized (yX8_pathsAheadOf).cls ∈ am_WS xx ∧ Cond.code yX8_pathsAheadOf cX8_pathsAheadOf 4 (some .int) ∈ am_WS xx := ⟨x_in 1292 (by decide +kernel), x_in 1293 (by decide +kernel), x_in 95 (by decide +kernel), x_in 1294 (by decide +kernel)⟩
theorem mj_X8_pathsAheadOf : (yX8_pathsAheadOf).cls ≠ "java/lang/invoke/MethodHandle" ∧ (yX8_pathsAheadOf).cls ≠ "java/lang/invoke/VarHandle" ∧ (parseMethodDescriptor (yX8_pathsAheadOf).desc).map (fun d => d.parameters.length) = some 1 := ⟨by decide +kernel, by decide +kernel, by decide +kernel⟩
theorem cv_X11_310 : am_cv xx RX11 310 yX8_pathsAheadOf cX8_pathsAheadOf 4 (some .int) 1 := ⟨x_in 1291 (by decide +kernel), mi_X8_pathsAheadOf.1, mi_X8_pathsAheadOf.2.1, mi_X8_pathsAheadOf.2.2.1, mi_X8_pathsAheadOf.2.2.2, mj_X8_pathsAheadOf⟩
theorem mi_X11_requireSent : Cond.instanceMethod yX11_requireSent ∈ am_WS xx ∧ Cond.selects (yX11_requireSent).cls yX11_requireSent yX11_requireSent ∈ am_WS xx ∧ Cond.initialized (yX11_requireSent).cls ∈ am_WS xx ∧ Cond.code yX11_requireSent cX11_requireSent 1 none ∈ am_WS xx := ⟨x_in 1322 (by decide +kernel), x_in 30 (by decide +kernel), x_in 94 (by decide +kernel), x_in 1323 (by decide +kernel)⟩
theorem mj_X11_requireSent : (yX11_requireSent).cls ≠ "java/lang/invoke/MethodHandle" ∧ (yX11_requireSent).cls ≠ "java/lang/invoke/VarHandle" ∧ (parseMethodDescriptor (yX11_requireSent).desc).map (fun d => d.parameters.length) = some 0 := ⟨by decide +kernel, by decide +kernel, by decide +kernel⟩
theorem cv_X11_313 : am_cv xx RX11 313 yX11_requireSent cX11_requireSent 1 none 0 := ⟨x_in 1320 (by decide +kernel), mi_X11_requireSent.1, mi_X11_requireSent.2.1, mi_X11_requireSent.2.2.1, mi_X11_requireSent.2.2.2, mj_X11_requireSent⟩
theorem mi_X11_bitsOfShare : Cond.static yX11_bitsOfShare ∈ am_WS xx ∧ Cond.initialized (yX11_bitsOfShare).cls ∈ am_WS xx ∧ Cond.code yX11_bitsOfShare cX11_bitsOfShare 3 (some .int) ∈ am_WS xx := ⟨x_in 1342 (by decide +kernel), x_in 94 (by decide +kernel), x_in 1343 (by decide +kernel)⟩
theorem mj_X11_bitsOfShare : (yX11_bitsOfShare).cls ≠ "java/lang/invoke/MethodHandle" ∧ (yX11_bitsOfShare).cls ≠ "java/lang/invoke/VarHandle" ∧ (parseMethodDescriptor (yX11_bitsOfShare).desc).map (fun d => d.parameters.length) = some 1 := ⟨by decide +kernel, by decide +kernel, by decide +kernel⟩
theorem cs_X11_316 : am_cs xx RX11 316 yX11_bitsOfShare cX11_bitsOfShare 3 (some .int) 1 := ⟨x_in 1341 (by decide +kernel), mi_X11_bitsOfShare.1, mi_X11_bitsOfShare.2.1, mi_X11_bitsOfShare.2.2, mj_X11_bitsOfShare⟩
theorem mi_X11_treeCostsAgree : Cond.instanceMethod yX11_treeCostsAgree ∈ am_WS xx ∧ Cond.selects (yX11_treeCostsAgree).cls yX11_treeCostsAgree yX11_treeCostsAgree ∈ am_WS xx ∧ Cond.initialized (yX11_treeCostsAgree).cls ∈ am_WS xx ∧ Cond.code yX11_treeCostsAgree cX11_treeCostsAgree 2 (some .boolean) ∈ am_WS xx := ⟨x_in 611 (by decide +kernel), x_in 3 (by decide +kernel), x_in 94 (by decide +kernel), x_in 612 (by decide +kernel)⟩
theorem mj_X11_treeCostsAgree : (yX11_treeCostsAgree).cls ≠ "java/lang/invoke/MethodHandle" ∧ (yX11_treeCostsAgree).cls ≠ "java/lang/invoke/VarHandle" ∧ (parseMethodDescriptor (yX11_treeCostsAgree).desc).map (fun d => d.parameters.length) = some 0 := ⟨by decide +kernel, by decide +kernel, by decide +kernel⟩
theorem cv_X11_320 : am_cv xx RX11 320 yX11_treeCostsAgree cX11_treeCostsAgree 2 (some .boolean) 0 := ⟨x_in 609 (by decide +kernel), mi_X11_treeCostsAgree.1, mi_X11_treeCostsAgree.2.1, mi_X11_treeCostsAgree.2.2.1, mi_X11_treeCostsAgree.2.2.2, mj_X11_treeCostsAgree⟩
theorem mi_X11_waysAgreeWithCuts : Cond.instanceMethod yX11_waysAgreeWithCuts ∈ am_WS xx ∧ Cond.selects (yX11_waysAgreeWithCuts).cls yX11_waysAgreeWithCuts yX11_waysAgreeWithCuts ∈ am_WS xx ∧ Cond.initialized (yX11_waysAgreeWithCuts).cls ∈ am_WS xx ∧ Cond.code yX11_waysAgreeWithCuts cX11_waysAgreeWithCuts 3 (some .boolean) ∈ am_WS xx := ⟨x_in 654 (by decide +kernel), x_in 8 (by decide +kernel), x_in 94 (by decide +kernel), x_in 655 (by decide +kernel)⟩
theorem mj_X11_waysAgreeWithCuts : (yX11_waysAgreeWithCuts).cls ≠ "java/lang/invoke/MethodHandle" ∧ (yX11_waysAgreeWithCuts).cls ≠ "java/lang/invoke/VarHandle" ∧ (parseMethodDescriptor (yX11_waysAgreeWithCuts).desc).map (fun d => d.parameters.length) = some 0 := ⟨by decide +kernel, by decide +kernel, by decide +kernel⟩
theorem cv_X11_324 : am_cv xx RX11 324 yX11_waysAgreeWithCuts cX11_waysAgreeWithCuts 3 (some .boolean) 0 := ⟨x_in 652 (by decide +kernel), mi_X11_waysAgreeWithCuts.1, mi_X11_waysAgreeWithCuts.2.1, mi_X11_waysAgreeWithCuts.2.2.1, mi_X11_waysAgreeWithCuts.2.2.2, mj_X11_waysAgreeWithCuts⟩
theorem mi_X8_totalsAgree : Cond.instanceMethod yX8_totalsAgree ∈ am_WS xx ∧ Cond.selects (yX8_totalsAgree).cls yX8_totalsAgree yX8_totalsAgree ∈ am_WS xx ∧ Cond.initialized (yX8_totalsAgree).cls ∈ am_WS xx ∧ Cond.code yX8_totalsAgree cX8_totalsAgree 4 (some .boolean) ∈ am_WS xx := ⟨x_in 676 (by decide +kernel), x_in 677 (by decide +kernel), x_in 95 (by decide +kernel), x_in 678 (by decide +kernel)⟩
theorem mj_X8_totalsAgree : (yX8_totalsAgree).cls ≠ "java/lang/invoke/MethodHandle" ∧ (yX8_totalsAgree).cls ≠ "java/lang/invoke/VarHandle" ∧ (parseMethodDescriptor (yX8_totalsAgree).desc).map (fun d => d.parameters.length) = some 0 := ⟨by decide +kernel, by decide +kernel, by decide +kernel⟩
theorem cv_X11_327 : am_cv xx RX11 327 yX8_totalsAgree cX8_totalsAgree 4 (some .boolean) 0 := ⟨x_in 675 (by decide +kernel), mi_X8_totalsAgree.1, mi_X8_totalsAgree.2.1, mi_X8_totalsAgree.2.2.1, mi_X8_totalsAgree.2.2.2, mj_X8_totalsAgree⟩
theorem mi_X11_put : Cond.instanceMethod yX11_put ∈ am_WS xx ∧ Cond.selects (yX11_put).cls yX11_put yX11_put ∈ am_WS xx ∧ Cond.initialized (yX11_put).cls ∈ am_WS xx ∧ Cond.code yX11_put cX11_put 2 none ∈ am_WS xx := ⟨x_in 1354 (by decide +kernel), x_in 31 (by decide +kernel), x_in 94 (by decide +kernel), x_in 1355 (by decide +kernel)⟩
theorem mj_X11_put : (yX11_put).cls ≠ "java/lang/invoke/MethodHandle" ∧ (yX11_put).cls ≠ "java/lang/invoke/VarHandle" ∧ (parseMethodDescriptor (yX11_put).desc).map (fun d => d.parameters.length) = some 1 := ⟨by decide +kernel, by decide +kernel, by decide +kernel⟩
theorem cv_X11_330 : am_cv xx RX11 330 yX11_put cX11_put 2 none 1 := ⟨x_in 1352 (by decide +kernel), mi_X11_put.1, mi_X11_put.2.1, mi_X11_put.2.2.1, mi_X11_put.2.2.2, mj_X11_put⟩
theorem mi_X3_append : Cond.instanceMethod yX3_append ∈ am_WS xx ∧ Cond.selects (yX3_append).cls yX3_append yX3_append ∈ am_WS xx ∧ Cond.initialized (yX3_append).cls ∈ am_WS xx ∧ Cond.code yX3_append cX3_append 2 none ∈ am_WS xx := ⟨x_in 1390 (by decide +kernel), x_in 1391 (by decide +kernel), x_in 103 (by decide +kernel), x_in 1392 (by decide +kernel)⟩
theorem mj_X3_append : (yX3_append).cls ≠ "java/lang/invoke/MethodHandle" ∧ (yX3_append).cls ≠ "java/lang/invoke/VarHandle" ∧ (parseMethodDescriptor (yX3_append).desc).map (fun d => d.parameters.length) = some 1 := ⟨by decide +kernel, by decide +kernel, by decide +kernel⟩
theorem cv_X11_352 : am_cv xx RX11 352 yX3_append cX3_append 2 none 1 := ⟨x_in 1389 (by decide +kernel), mi_X3_append.1, mi_X3_append.2.1, mi_X3_append.2.2.1, mi_X3_append.2.2.2, mj_X3_append⟩
theorem mi_X3_read : Cond.instanceMethod yX3_read ∈ am_WS xx ∧ Cond.selects (yX3_read).cls yX3_read yX3_read ∈ am_WS xx ∧ Cond.initialized (yX3_read).cls ∈ am_WS xx ∧ Cond.code yX3_read cX3_read 2 (some .int) ∈ am_WS xx := ⟨x_in 1401 (by decide +kernel), x_in 1402 (by decide +kernel), x_in 103 (by decide +kernel), x_in 1403 (by decide +kernel)⟩
theorem mj_X3_read : (yX3_read).cls ≠ "java/lang/invoke/MethodHandle" ∧ (yX3_read).cls ≠ "java/lang/invoke/VarHandle" ∧ (parseMethodDescriptor (yX3_read).desc).map (fun d => d.parameters.length) = some 0 := ⟨by decide +kernel, by decide +kernel, by decide +kernel⟩
theorem cv_X11_355 : am_cv xx RX11 355 yX3_read cX3_read 2 (some .int) 0 := ⟨x_in 1400 (by decide +kernel), mi_X3_read.1, mi_X3_read.2.1, mi_X3_read.2.2.1, mi_X3_read.2.2.2, mj_X3_read⟩
theorem mi_X11_perform : Cond.instanceMethod yX11_perform ∈ am_WS xx ∧ Cond.selects (yX11_perform).cls yX11_perform yX11_perform ∈ am_WS xx ∧ Cond.initialized (yX11_perform).cls ∈ am_WS xx ∧ Cond.code yX11_perform cX11_perform 3 (some .int) ∈ am_WS xx := ⟨x_in 1484 (by decide +kernel), x_in 38 (by decide +kernel), x_in 94 (by decide +kernel), x_in 1485 (by decide +kernel)⟩
theorem mj_X11_perform : (yX11_perform).cls ≠ "java/lang/invoke/MethodHandle" ∧ (yX11_perform).cls ≠ "java/lang/invoke/VarHandle" ∧ (parseMethodDescriptor (yX11_perform).desc).map (fun d => d.parameters.length) = some 2 := ⟨by decide +kernel, by decide +kernel, by decide +kernel⟩
theorem cv_X11_371 : am_cv xx RX11 371 yX11_perform cX11_perform 3 (some .int) 2 := ⟨x_in 1482 (by decide +kernel), mi_X11_perform.1, mi_X11_perform.2.1, mi_X11_perform.2.2.1, mi_X11_perform.2.2.2, mj_X11_perform⟩
theorem mi_X4_noted : Cond.instanceMethod yX4_noted ∈ am_WS xx ∧ Cond.selects (yX4_noted).cls yX4_noted yX4_noted ∈ am_WS xx ∧ Cond.initialized (yX4_noted).cls ∈ am_WS xx ∧ Cond.code yX4_noted cX4_noted 1 (some (.object "DandelionBroadcast$State")) ∈ am_WS xx := ⟨x_in 1495 (by decide +kernel), x_in 1496 (by decide +kernel), x_in 98 (by decide +kernel), x_in 1497 (by decide +kernel)⟩
theorem mj_X4_noted : (yX4_noted).cls ≠ "java/lang/invoke/MethodHandle" ∧ (yX4_noted).cls ≠ "java/lang/invoke/VarHandle" ∧ (parseMethodDescriptor (yX4_noted).desc).map (fun d => d.parameters.length) = some 0 := ⟨by decide +kernel, by decide +kernel, by decide +kernel⟩
theorem cv_X11_375 : am_cv xx RX11 375 yX4_noted cX4_noted 1 (some (.object "DandelionBroadcast$State")) 0 := ⟨x_in 1494 (by decide +kernel), mi_X4_noted.1, mi_X4_noted.2.1, mi_X4_noted.2.2.1, mi_X4_noted.2.2.2, mj_X4_noted⟩
theorem mi_X11_noteRejection : Cond.instanceMethod yX11_noteRejection ∈ am_WS xx ∧ Cond.selects (yX11_noteRejection).cls yX11_noteRejection yX11_noteRejection ∈ am_WS xx ∧ Cond.initialized (yX11_noteRejection).cls ∈ am_WS xx ∧ Cond.code yX11_noteRejection cX11_noteRejection 4 none ∈ am_WS xx := ⟨x_in 819 (by decide +kernel), x_in 14 (by decide +kernel), x_in 94 (by decide +kernel), x_in 820 (by decide +kernel)⟩
theorem mj_X11_noteRejection : (yX11_noteRejection).cls ≠ "java/lang/invoke/MethodHandle" ∧ (yX11_noteRejection).cls ≠ "java/lang/invoke/VarHandle" ∧ (parseMethodDescriptor (yX11_noteRejection).desc).map (fun d => d.parameters.length) = some 3 := ⟨by decide +kernel, by decide +kernel, by decide +kernel⟩
theorem cv_X11_382 : am_cv xx RX11 382 yX11_noteRejection cX11_noteRejection 4 none 3 := ⟨x_in 817 (by decide +kernel), mi_X11_noteRejection.1, mi_X11_noteRejection.2.1, mi_X11_noteRejection.2.2.1, mi_X11_noteRejection.2.2.2, mj_X11_noteRejection⟩
theorem mi_X4_keep : Cond.instanceMethod yX4_keep ∈ am_WS xx ∧ Cond.selects (yX4_keep).cls yX4_keep yX4_keep ∈ am_WS xx ∧ Cond.initialized (yX4_keep).cls ∈ am_WS xx ∧ Cond.code yX4_keep cX4_keep 1 none ∈ am_WS xx := ⟨x_in 838 (by decide +kernel), x_in 839 (by decide +kernel), x_in 98 (by decide +kernel), x_in 840 (by decide +kernel)⟩
theorem mj_X4_keep : (yX4_keep).cls ≠ "java/lang/invoke/MethodHandle" ∧ (yX4_keep).cls ≠ "java/lang/invoke/VarHandle" ∧ (parseMethodDescriptor (yX4_keep).desc).map (fun d => d.parameters.length) = some 0 := ⟨by decide +kernel, by decide +kernel, by decide +kernel⟩
theorem cv_X11_393 : am_cv xx RX11 393 yX4_keep cX4_keep 1 none 0 := ⟨x_in 837 (by decide +kernel), mi_X4_keep.1, mi_X4_keep.2.1, mi_X4_keep.2.2.1, mi_X4_keep.2.2.2, mj_X4_keep⟩
theorem mi_X11_requireRejection : Cond.instanceMethod yX11_requireRejection ∈ am_WS xx ∧ Cond.selects (yX11_requireRejection).cls yX11_requireRejection yX11_requireRejection ∈ am_WS xx ∧ Cond.initialized (yX11_requireRejection).cls ∈ am_WS xx ∧ Cond.code yX11_requireRejection cX11_requireRejection 1 none ∈ am_WS xx := ⟨x_in 1517 (by decide +kernel), x_in 39 (by decide +kernel), x_in 94 (by decide +kernel), x_in 1518 (by decide +kernel)⟩
theorem mj_X11_requireRejection : (yX11_requireRejection).cls ≠ "java/lang/invoke/MethodHandle" ∧ (yX11_requireRejection).cls ≠ "java/lang/invoke/VarHandle" ∧ (parseMethodDescriptor (yX11_requireRejection).desc).map (fun d => d.parameters.length) = some 0 := ⟨by decide +kernel, by decide +kernel, by decide +kernel⟩
theorem cv_X11_398 : am_cv xx RX11 398 yX11_requireRejection cX11_requireRejection 1 none 0 := ⟨x_in 1515 (by decide +kernel), mi_X11_requireRejection.1, mi_X11_requireRejection.2.1, mi_X11_requireRejection.2.2.1, mi_X11_requireRejection.2.2.2, mj_X11_requireRejection⟩
theorem mi_X4_stepBack : Cond.instanceMethod yX4_stepBack ∈ am_WS xx ∧ Cond.selects (yX4_stepBack).cls yX4_stepBack yX4_stepBack ∈ am_WS xx ∧ Cond.initialized (yX4_stepBack).cls ∈ am_WS xx ∧ Cond.code yX4_stepBack cX4_stepBack 2 none ∈ am_WS xx := ⟨x_in 1544 (by decide +kernel), x_in 1545 (by decide +kernel), x_in 98 (by decide +kernel), x_in 1546 (by decide +kernel)⟩
theorem mj_X4_stepBack : (yX4_stepBack).cls ≠ "java/lang/invoke/MethodHandle" ∧ (yX4_stepBack).cls ≠ "java/lang/invoke/VarHandle" ∧ (parseMethodDescriptor (yX4_stepBack).desc).map (fun d => d.parameters.length) = some 1 := ⟨by decide +kernel, by decide +kernel, by decide +kernel⟩
theorem cv_X11_408 : am_cv xx RX11 408 yX4_stepBack cX4_stepBack 2 none 1 := ⟨x_in 1543 (by decide +kernel), mi_X4_stepBack.1, mi_X4_stepBack.2.1, mi_X4_stepBack.2.2.1, mi_X4_stepBack.2.2.2, mj_X4_stepBack⟩
theorem mi_X4_forget : Cond.instanceMethod yX4_forget ∈ am_WS xx ∧ Cond.selects (yX4_forget).cls yX4_forget yX4_forget ∈ am_WS xx ∧ Cond.initialized (yX4_forget).cls ∈ am_WS xx ∧ Cond.code yX4_forget cX4_forget 1 none ∈ am_WS xx := ⟨x_in 1556 (by decide +kernel), x_in 1557 (by decide +kernel), x_in 98 (by decide +kernel), x_in 1558 (by decide +kernel)⟩
theorem mj_X4_forget : (yX4_forget).cls ≠ "java/lang/invoke/MethodHandle" ∧ (yX4_forget).cls ≠ "java/lang/invoke/VarHandle" ∧ (parseMethodDescriptor (yX4_forget).desc).map (fun d => d.parameters.length) = some 0 := ⟨by decide +kernel, by decide +kernel, by decide +kernel⟩
theorem cv_X11_413 : am_cv xx RX11 413 yX4_forget cX4_forget 1 none 0 := ⟨x_in 1555 (by decide +kernel), mi_X4_forget.1, mi_X4_forget.2.1, mi_X4_forget.2.2.1, mi_X4_forget.2.2.2, mj_X4_forget⟩
theorem cv_X11_416 : am_cv xx RX11 416 yX6_hasField cX6_hasField 2 (some .boolean) 1 := ⟨x_in 939 (by decide +kernel), mi_X6_hasField.1, mi_X6_hasField.2.1, mi_X6_hasField.2.2.1, mi_X6_hasField.2.2.2, mj_X6_hasField⟩
theorem cv_X11_421 : am_cv xx RX11 421 yX6_hasPath cX6_hasPath 2 (some .boolean) 1 := ⟨x_in 952 (by decide +kernel), mi_X6_hasPath.1, mi_X6_hasPath.2.1, mi_X6_hasPath.2.2.1, mi_X6_hasPath.2.2.2, mj_X6_hasPath⟩
theorem mm_X9_75 : am_mm xx RX9 75 Lib.Math.min.name Lib.Math.min.code := ⟨x_in 553 (by decide +kernel), x_in 554 (by decide +kernel), x_in 112 (by decide +kernel), x_in 555 (by decide +kernel)⟩
theorem ac_X6_50 : am_ac xx RX6 50 := ⟨x_in 691 (by decide +kernel), x_in 693 (by decide +kernel), x_in 692 (by decide +kernel), x_in 105 (by decide +kernel)⟩
theorem ac_X1_42 : am_ac xx RX1 42 := ⟨x_in 698 (by decide +kernel), x_in 693 (by decide +kernel), x_in 692 (by decide +kernel), x_in 105 (by decide +kernel)⟩
theorem ac_X8_83 : am_ac xx RX8 83 := ⟨x_in 699 (by decide +kernel), x_in 693 (by decide +kernel), x_in 692 (by decide +kernel), x_in 105 (by decide +kernel)⟩
theorem mm_X4_29 : am_mm xx RX4 29 Lib.Math.min.name Lib.Math.min.code := ⟨x_in 841 (by decide +kernel), x_in 554 (by decide +kernel), x_in 112 (by decide +kernel), x_in 555 (by decide +kernel)⟩
theorem mm_X3_59 : am_mm xx RX3 59 Lib.Math.max.name Lib.Math.max.code := ⟨x_in 1478 (by decide +kernel), x_in 1479 (by decide +kernel), x_in 112 (by decide +kernel), x_in 1480 (by decide +kernel)⟩
theorem mm_X12_105 : am_mm xx RX12 105 Lib.Math.max.name Lib.Math.max.code := ⟨x_in 1792 (by decide +kernel), x_in 1479 (by decide +kernel), x_in 112 (by decide +kernel), x_in 1480 (by decide +kernel)⟩
theorem mm_X12_110 : am_mm xx RX12 110 Lib.Math.min.name Lib.Math.min.code := ⟨x_in 1793 (by decide +kernel), x_in 554 (by decide +kernel), x_in 112 (by decide +kernel), x_in 555 (by decide +kernel)⟩
end
section
/-! ===== rows for a walk by program: what is read is handed in as an equation ===== -/
def bI (b : Bool) : Int32 := if b then nI 1 else nI 0
theorem i_le {a b : Nat} (ha : a < 2147483648) (hb : b < 2147483648) : nI a ≤ nI b ↔ a ≤ b := nI_leI ha hb
theorem i_lt {a b : Nat} (ha : a < 2147483648) (hb : b < 2147483648) : nI a < nI b ↔ a < b := nI_ltI ha hb
theorem i_eq {a b : Nat} (ha : a < 2147483648) (hb : b < 2147483648) : nI a = nI b ↔ a = b := nI_eq ha hb
theorem i_lt0 {a : Nat} (ha : a < 2147483648) : ¬ nI a < 0 := nI_pos ha
theorem i_clamp {a : Nat} (ha : a < 2147483648) : (nI a).toNatClampNeg = a := nI_clamp ha
section AMW
variable {U : am_U} {G : am_G} {own : String} {cc : ByteArray} {nL kc ks pc pc' : Nat} {V V1 : am_V} {Q : State → Prop} {L L' : List (Option Value)} {st st' : List Value}
theorem AW.getI {c ci k index : Nat} {os : List (Option Nat)} {x : Int32} (ok : am_ok xx U G own cc nL) (hf : am_gf xx own index ci k) (hsh : am_sh xx c = some (.inl (ci, os))) (ho : os[k]? = some none) (hv : V c k = x) (hdg : decode cc pc = .ok (.getfield index, 3))
    (kk : AW xx U G nL kc ks V Q (pc + 3) L (.int x :: st)) : AW xx U G nL kc ks V Q pc L (.ref c :: st) := by
  refine AW.getf ok hf hsh ho hdg ?_
  rw [hv]
  exact kk
theorem AW.getR {c ci k index d : Nat} {os : List (Option Nat)} (ok : am_ok xx U G own cc nL) (hf : am_gf xx own index ci k) (hsh : am_sh xx c = some (.inl (ci, os))) (ho : os[k]? = some (some d)) (hdg : decode cc pc = .ok (.getfield index, 3))
    (kk : AW xx U G nL kc ks V Q (pc + 3) L (.ref d :: st)) : AW xx U G nL kc ks V Q pc L (.ref c :: st) := AW.getf ok hf hsh ho hdg kk
theorem AW.aldI {c n j : Nat} {x : Int32} (ok : am_ok xx U G own cc nL) (hsh : am_sh xx c = some (.inr (0, n, .inl false))) (hj : j < n) (hn : n < 2147483648) (hv : V c j = x) (hdg : decode cc pc = .ok (.iaload, 1))
    (kk : AW xx U G nL kc ks V Q (pc + 1) L (.int x :: st)) : AW xx U G nL kc ks V Q pc L (.int (nI j) :: .ref c :: st) := by
  refine AW.iald ok hsh (by decide) rfl (vp_in_nI hj hn) hdg ?_
  rw [i_clamp (Nat.lt_trans hj hn), hv]
  exact kk
theorem AW.astI {c n j : Nat} {x : Int32} (ok : am_ok xx U G own cc nL) (hsh : am_sh xx c = some (.inr (0, n, .inl false))) (hw : am_wr xx c = true) (hj : j < n) (hn : n < 2147483648) (hdg : decode cc pc = .ok (.iastore, 1))
    (kk : AW xx U G nL kc ks (am_set V c j x) Q (pc + 1) L st) : AW xx U G nL kc ks V Q pc L (.int x :: .int (nI j) :: .ref c :: st) := by
  refine AW.iast ok hsh hw (by decide) rfl (vp_in_nI hj hn) hdg ?_
  rw [i_clamp (Nat.lt_trans hj hn)]
  exact kk
/-- a call, its stack told as it stands -/
theorem AW.cvP {y : MethodName} {b : ByteArray} {nL' n index ci c : Nat} {ret : Option FieldType} {rm : Room} {As : List Value} {os : List (Option Nat)} {T : u_T} {N : Nat} {P : am_P} {stk : List Value}
    (ok : am_ok xx U G own cc nL) (hC : am_Ct xx U (am_gl G) y b nL' ret rm (.ref c :: As) V P) (hcv : am_cv xx own index y b nL' ret n) (hsh : am_sh xx c = some (.inl (ci, os))) (hcl : (am_cl xx)[ci]? = some (y.cls, T, N)) (hn : As.length = n) (hs : stk = As.reverse ++ .ref c :: st)
    (hst : (st.map fun v => v.category).sum ≤ 8) (hR : rm.frames + 1 ≤ (am_gR G).frames ∧ 8 + (nL' + 11) + rm.locals ≤ (am_gR G).locals) (hf : kc + rm.cells ≤ (am_gR G).cells ∧ ks + rm.slots ≤ (am_gR G).slots) (hdg : decode cc pc = .ok (.invokevirtual index, 3))
    (kx : ∀ (E : String) (V1 : am_V), P (.inr E) V1 → AX xx U G nL (kc + rm.cells) (ks + rm.slots) V1 Q E pc L) (kk : ∀ (r : Option Value) (V1 : am_V), P (.inl r) V1 → AW xx U G nL (kc + rm.cells) (ks + rm.slots) V1 Q (pc + 3) L (r.toList ++ st)) : AW xx U G nL kc ks V Q pc L stk := by
  subst hs
  exact AW.callV ok hC hcv hsh hcl hn hst hR hf hdg kx kk
/-- .. that comes back with a known answer and table -/
theorem AW.cv1 {y : MethodName} {b : ByteArray} {nL' n index ci c : Nat} {ret : Option FieldType} {rm : Room} {As : List Value} {os : List (Option Nat)} {T : u_T} {N : Nat} {r : Value} {stk : List Value}
    (ok : am_ok xx U G own cc nL) (hC : am_Ct xx U (am_gl G) y b nL' ret rm (.ref c :: As) V (am_is (.inl (some r)) V1)) (hcv : am_cv xx own index y b nL' ret n) (hsh : am_sh xx c = some (.inl (ci, os))) (hcl : (am_cl xx)[ci]? = some (y.cls, T, N)) (hn : As.length = n) (hs : stk = As.reverse ++ .ref c :: st)
    (hst : (st.map fun v => v.category).sum ≤ 8) (hR : rm.frames + 1 ≤ (am_gR G).frames ∧ 8 + (nL' + 11) + rm.locals ≤ (am_gR G).locals) (hf : kc + rm.cells ≤ (am_gR G).cells ∧ ks + rm.slots ≤ (am_gR G).slots) (hdg : decode cc pc = .ok (.invokevirtual index, 3))
    (kk : AW xx U G nL (kc + rm.cells) (ks + rm.slots) V1 Q (pc + 3) L (r :: st)) : AW xx U G nL kc ks V Q pc L stk := by
  subst hs
  exact AW.callV ok hC hcv hsh hcl hn hst hR hf hdg (fun E W h => by cases h.1) (fun q W h => by obtain ⟨h1, rfl⟩ := h; cases h1; exact kk)
theorem AW.cs1 {y : MethodName} {b : ByteArray} {nL' n index : Nat} {ret : Option FieldType} {rm : Room} {As : List Value} {r : Value} {stk : List Value}
    (ok : am_ok xx U G own cc nL) (hC : am_Ct xx U (am_gl G) y b nL' ret rm As V (am_is (.inl (some r)) V1)) (hcv : am_cs xx own index y b nL' ret n) (hn : As.length = n) (hs : stk = As.reverse ++ st)
    (hst : (st.map fun v => v.category).sum ≤ 8) (hR : rm.frames + 1 ≤ (am_gR G).frames ∧ 8 + (nL' + 11) + rm.locals ≤ (am_gR G).locals) (hf : kc + rm.cells ≤ (am_gR G).cells ∧ ks + rm.slots ≤ (am_gR G).slots) (hdg : decode cc pc = .ok (.invokestatic index, 3))
    (kk : AW xx U G nL (kc + rm.cells) (ks + rm.slots) V1 Q (pc + 3) L (r :: st)) : AW xx U G nL kc ks V Q pc L stk := by
  subst hs
  exact AW.callS ok hC hcv hn hst hR hf hdg (fun E W h => by cases h.1) (fun q W h => by obtain ⟨h1, rfl⟩ := h; cases h1; exact kk)
theorem AW.cn1 {y : MethodName} {b : ByteArray} {nL' n index : Nat} {ret : Option FieldType} {rm : Room} {As : List Value} {r : Value} {stk : List Value} {host : String}
    (ok : am_ok xx U G own cc nL) (hC : am_Ct xx U (am_gl G) y b nL' ret rm As V (am_is (.inl (some r)) V1)) (hcv : am_cn xx own index y host b nL' ret n) (hn : As.length = n) (hs : stk = As.reverse ++ st)
    (hst : (st.map fun v => v.category).sum ≤ 8) (hR : rm.frames + 1 ≤ (am_gR G).frames ∧ 8 + (nL' + 11) + rm.locals ≤ (am_gR G).locals) (hf : kc + rm.cells ≤ (am_gR G).cells ∧ ks + rm.slots ≤ (am_gR G).slots) (hdg : decode cc pc = .ok (.invokestatic index, 3))
    (kk : AW xx U G nL (kc + rm.cells) (ks + rm.slots) V1 Q (pc + 3) L (r :: st)) : AW xx U G nL kc ks V Q pc L stk := by
  subst hs
  exact AW.callSN ok hC hcv hn hst hR hf hdg (fun E W h => by cases h.1) (fun q W h => by obtain ⟨h1, rfl⟩ := h; cases h1; exact kk)
theorem AW.aldR {c t n j d : Nat} {g : Nat → Int32 → Option Nat} {C : FieldType} (ok : am_ok xx U G own cc nL) (hsh : am_sh xx c = some (.inr (t, n, .inr g))) (ht : t < 8) (hty : am_tA xx t = C) (hC : C.isReference = true) (hj : j < n) (hn : n < 2147483648) (hg : g j (V c j) = some d) (hdg : decode cc pc = .ok (.aaload, 1))
    (kk : AW xx U G nL kc ks V Q (pc + 1) L (.ref d :: st)) : AW xx U G nL kc ks V Q pc L (.int (nI j) :: .ref c :: st) := by
  have e := i_clamp (Nat.lt_trans hj hn)
  exact AW.aald ok hsh ht hty hC (vp_in_nI hj hn) (by rw [e]; exact hg) hdg kk
theorem i_rem {a d : Nat} (ha : a < 2147483648) (h0 : 0 < d) (hd : d < 2147483648) : nI a - nI a / nI d * nI d = nI (a % d) := pk_rem ha h0 hd
theorem i_min {a b : Nat} (ha : a < 2147483648) (hb : b < 2147483648) : (if nI b < nI a then nI b else nI a) = nI (min a b) := by
  by_cases h : b < a
  · rw [if_pos ((i_lt hb ha).mpr h), Nat.min_eq_right (by omega)]
  · rw [if_neg (fun q => h ((i_lt hb ha).mp q)), Nat.min_eq_left (by omega)]
theorem i_max {a b : Nat} (ha : a < 2147483648) (hb : b < 2147483648) : (if nI a < nI b then nI b else nI a) = nI (max a b) := by
  by_cases h : a < b
  · rw [if_pos ((i_lt ha hb).mpr h), Nat.max_eq_right (by omega)]
  · rw [if_neg (fun q => h ((i_lt ha hb).mp q)), Nat.max_eq_left (by omega)]
theorem AW.putI {c ci k index : Nat} {os : List (Option Nat)} {ty : FieldType} {x : Int32} (ok : am_ok xx U G own cc nL) (hf : am_pf xx own index ci k ty) (hsh : am_sh xx c = some (.inl (ci, os))) (hw : am_wr xx c = true) (ho : os[k]? = some none) (hn : narrow ty (.int x) = .int x ∧ fits ty (.int x) = true) (hdg : decode cc pc = .ok (.putfield index, 3))
    (kk : AW xx U G nL kc ks (am_set V c k x) Q (pc + 3) L st) : AW xx U G nL kc ks V Q pc L (.int x :: .ref c :: st) := AW.putf ok hf hsh hw ho hn.1 hn.2 hdg kk
/-- arraycopy of whole rows -/
theorem AW.cpy {index c0 c1 n0 n1 n : Nat} (ok : am_ok xx U G own cc nL) (hw : am_ac xx own index) (hs0 : am_sh xx c0 = some (.inr (0, n0, .inl false))) (hs1 : am_sh xx c1 = some (.inr (0, n1, .inl false))) (hw1 : am_wr xx c1 = true) (h0 : n ≤ n0) (h1 : n ≤ n1) (hn : n < 2147483648) (hframes : 1 ≤ (am_gR G).frames) (hlocals : (st.map fun v => v.category).sum + (nativeFrameWords "java/lang/System" "arraycopy" 5 + 11) ≤ (am_gR G).locals) (hdg : decode cc pc = .ok (.invokestatic index, 3))
    (kk : AW xx U G nL kc ks (am_row V c1 (va_cpy (V c0) (V c1) 0 0 n)) Q (pc + 3) L st) : AW xx U G nL kc ks V Q pc L (.int (nI n) :: .int (nI 0) :: .ref c1 :: .int (nI 0) :: .ref c0 :: st) := by
  have e0 : (nI 0).toNatClampNeg = 0 := i_clamp (by omega)
  have en : (nI n).toNatClampNeg = n := i_clamp hn
  refine AW.copy ok hw hs0 hs1 hw1 (by decide) rfl (i_lt0 (by omega)) (i_lt0 (by omega)) (i_lt0 hn) (by rw [e0, en]; omega) (by rw [e0, en]; omega) hframes hlocals hdg ?_
  rw [e0, en]
  exact kk
end AMW
theorem am_set_nk (V : am_V) (c : Nat) {k j : Nat} (x : Int32) (h : j ≠ k) : am_set V c k x c j = V c j := by rw [am_set_at]; exact pk_un h
theorem am_set_eq (V : am_V) (c k : Nat) (x : Int32) : am_set V c k x c k = x := by rw [am_set_at]; exact pk_us
theorem am_row_cp (V W : am_V) (c c0 : Nat) {n j : Nat} (h : j < n) : am_row V c (va_cpy (W c0) (W c) 0 0 n) c j = W c0 j := by rw [am_row_at]; exact sb_cpy0 h
theorem nb_b (b : Bool) : narrow .boolean (.int (bI b)) = .int (bI b) ∧ fits .boolean (.int (bI b)) = true := by cases b <;> exact ⟨rfl, rfl⟩
end
section
/-! ===== numbers ===== -/
theorem i_10 : ¬ nI 1 = 0 := by decide
theorem i_and (a b : Nat) : nI a &&& nI b = nI (a &&& b) := by
  apply Int32.toBitVec_inj.mp
  show BitVec.ofNat 32 a &&& BitVec.ofNat 32 b = BitVec.ofNat 32 (a &&& b)
  rw [BitVec.ofNat_and]
theorem i_or (a b : Nat) : nI a ||| nI b = nI (a ||| b) := by
  apply Int32.toBitVec_inj.mp
  show BitVec.ofNat 32 a ||| BitVec.ofNat 32 b = BitVec.ofNat 32 (a ||| b)
  rw [BitVec.ofNat_or]
theorem i_xor (a b : Nat) : nI a ^^^ nI b = nI (a ^^^ b) := by
  apply Int32.toBitVec_inj.mp
  show BitVec.ofNat 32 a ^^^ BitVec.ofNat 32 b = BitVec.ofNat 32 (a ^^^ b)
  rw [BitVec.ofNat_xor]
theorem i_cnt : ∀ n, n < 32 → ((nI n &&& 31).toBitVec.smod 32).toNat = n := by decide +kernel
theorem i_shl {a k : Nat} (hk : k < 32) (h : a * 2 ^ k < 4294967296) : nI a <<< (nI k &&& 31) = nI (a * 2 ^ k) := pk_shlN _ k (i_cnt k hk) h
theorem i_shl1 {k : Nat} (hk : k < 32) : nI 1 <<< (nI k &&& 31) = nI (2 ^ k) := by
  have h : 2 ^ k < 2 ^ 32 := Nat.pow_lt_pow_right (by omega) hk
  rw [i_shl hk (by omega), Nat.one_mul]
theorem i_shr {a k : Nat} (ha : a < 2147483648) (hk : k < 32) : nI a >>> (nI k &&& 31) = nI (a / 2 ^ k) := pk_shrN ha _ k (i_cnt k hk)
theorem i_bit {a k : Nat} (ha : a < 2147483648) (hk : k < 32) : (nI a >>> (nI k &&& 31)) &&& nI 1 = nI (if a.testBit k then 1 else 0) := by
  rw [i_shr ha hk, i_and, Nat.and_one_is_mod, Nat.testBit_eq_decide_div_mod_eq]
  congr 1
  have h := Nat.mod_two_eq_zero_or_one (a / 2 ^ k)
  rcases h with h | h <;> simp [h]
theorem i_bitb {a k : Nat} (ha : a < 2147483648) (hk : k < 32) : (nI a >>> (nI k &&& 31)) &&& nI 1 = bI (a.testBit k) := by
  rw [i_bit ha hk]
  cases a.testBit k <;> rfl
theorem bI_t {b : Bool} (h : ¬ bI b = 0) : b = true := by cases b with
  | true => rfl
  | false => exact absurd rfl h
theorem bI_f {b : Bool} (h : bI b = 0) : b = false := by cases b with
  | true => exact absurd h i_10
  | false => rfl
theorem i_sub {a b : Nat} (h : b ≤ a) : nI a - nI b = nI (a - b) := pk_sub h
theorem AW.ri {U : am_U} {G : am_G} {own : String} {cc : ByteArray} {nL kc ks pc : Nat} {V : am_V} {L : List (Option Value)} {rm : Room} {x y : Int32} {ty : FieldType} {V' : am_V} (h : y = x) (hV : V = V') (ok : am_ok xx U G own cc nL) (hr : (am_gt G).sig.returnType = some ty) (hn : narrow ty (.int x) = .int x) (hc : kc ≤ rm.cells) (hs : ks ≤ rm.slots) (hdg : decode cc pc = .ok (.ireturn, 1)) :
    AW xx U G nL kc ks V (am_End xx U G rm (am_is (.inl (some (.int y))) V')) pc L [.int x] := by
  subst h
  exact AW.iret ok ⟨rfl, hV⟩ hr hn hc hs hdg
theorem AW.top {U : am_U} {G : am_G} {nL kc ks pc : Nat} {V : am_V} {Q : State → Prop} {L : List (Option Value)} {st : List Value} {x y : Int32} (h : x = y) (k : AW xx U G nL kc ks V Q pc L (.int y :: st)) : AW xx U G nL kc ks V Q pc L (.int x :: st) := by
  subst h
  exact k
theorem AW.loc {U : am_U} {G : am_G} {nL kc ks pc : Nat} {V : am_V} {Q : State → Prop} {L L' : List (Option Value)} {st : List Value} (h : L = L') (k : AW xx U G nL kc ks V Q pc L' st) : AW xx U G nL kc ks V Q pc L st := by
  subst h
  exact k
end
section
/-! ===== the view of a Net: fields, paths, closed paths as bits; shields, firsts, seconds, costs, gusts ===== -/
abbrev nT : Type := (Nat × Nat × Nat) × (Nat → Nat) × (Nat → Nat) × (Nat → Nat) × (Nat → Nat) × (Nat → Nat)
def n_ft (N : nT) : Nat := N.1.1
def n_pt (N : nT) : Nat := N.1.2.1
def n_cl (N : nT) : Nat := N.1.2.2
def n_sh (N : nT) : Nat → Nat := N.2.1
def n_fs (N : nT) : Nat → Nat := N.2.2.1
def n_sn (N : nT) : Nat → Nat := N.2.2.2.1
def n_co (N : nT) : Nat → Nat := N.2.2.2.2.1
def n_gu (N : nT) : Nat → Nat := N.2.2.2.2.2
/-- the table holds N at the state i -/
def vN (V : am_V) (i : Nat) (N : nT) : Prop := V (sS i + 1) 5 = nI (n_cl N) ∧ V (sS i + 1) 6 = nI (n_ft N) ∧ V (sS i + 1) 7 = nI (n_pt N) ∧ (∀ j, j < 9 → V (sS i + 4) j = nI (n_sh N j)) ∧ (∀ j, j < 16 → V (sS i + 5) j = nI (n_fs N j)) ∧ (∀ j, j < 16 → V (sS i + 6) j = nI (n_sn N j)) ∧ (∀ j, j < 16 → V (sS i + 7) j = nI (n_co N j)) ∧ ∀ j, j < 16 → V (sS i + 8) j = nI (n_gu N j)
/-- small everywhere; its paths lead between its fields -/
def wN (N : nT) : Prop := n_ft N ≤ 9 ∧ n_pt N ≤ 16 ∧ n_cl N < 65536 ∧ (∀ j, j < 9 → n_sh N j < 10) ∧ (∀ j, j < 16 → n_fs N j < 9 ∧ n_sn N j < 9 ∧ n_co N j < 10 ∧ n_gu N j < 10) ∧ ∀ j, j < n_pt N → n_fs N j < n_ft N ∧ n_sn N j < n_ft N ∧ n_fs N j ≠ n_sn N j ∧ 1 ≤ n_co N j
def n_op (N : nT) (p : Nat) : Bool := decide (p < n_pt N) && !(n_cl N).testBit p
def n_en (N : nT) (p : Nat) : Nat := 2 ^ n_fs N p ||| 2 ^ n_sn N p
def n_dg (N : nT) (p f : Nat) : Nat := n_gu N p - n_sh N f

set_option maxHeartbeats 4000000 in
theorem kX6_hasField {U : am_U} {l : Launch} (B : am_base xx U) (hfl : l.stackTraces = false) {V : am_V} {i : Nat} (hi : i < 12) {N : nT} (hN : vN V i N) (hw : wN N) (x : Int32) : am_Ct xx U l yX6_hasField cX6_hasField 2 (some .boolean) { frames := 0, cells := 0, slots := 0, locals := 0 } [.ref (sS i + 1), .int (x)] V (am_is (.inl (some (.int (bI (decide (0 ≤ x ∧ x < nI (n_ft N))))))) V) := by
  refine am_Ct.of B hfl (by decide) (Nat.le_of_ble_eq_true rfl) ?_
  intro G hgl hgR hr ok h0 hex
  obtain ⟨hw1, hw2, hw3, hw4, hw5, hw6⟩ := id hw
  show AW xx U G 2 0 0 V _ 0 [some (.ref (sS i + 1)), some (.int (x))] []
  refine AW.run ok eX6_hasField 0 1 (show am_run 2 ((tX6_hasField.drop 0).take 1) 0 [some (.ref (sS i + 1)), some (.int (x))] [] = some (1, [some (.ref (sS i + 1)), some (.int (x))], [.int (x)]) from rfl) ?_
  refine AW.ifc ok 16 (am_at eX6_hasField 1 rfl) (by decide) (fun h1 => ?_) (fun h1 => ?_)
  · -- x < 0
    have h1 : x < 0 := h1
    refine AW.run ok eX6_hasField 8 1 (show am_run 2 ((tX6_hasField.drop 8).take 1) 16 [some (.ref (sS i + 1)), some (.int (x))] [] = some (17, [some (.ref (sS i + 1)), some (.int (x))], [.int (nI (0))]) from rfl) ?_
    exact AW.ri (by have hq : (decide (0 ≤ x ∧ x < nI (n_ft N))) = false := decide_eq_false (by simp only [Int32.lt_iff_toInt_lt, Int32.le_iff_toInt_le, Int32.toInt_zero] at *; omega); rw [hq]; rfl) rfl ok hr (rfl) (Nat.zero_le _) (Nat.zero_le _) (am_at eX6_hasField 9 rfl)
  · -- not x < 0
    have h1 : ¬ (x < 0) := h1
    refine AW.run ok eX6_hasField 2 2 (show am_run 2 ((tX6_hasField.drop 2).take 2) 4 [some (.ref (sS i + 1)), some (.int (x))] [] = some (6, [some (.ref (sS i + 1)), some (.int (x))], [.ref (sS i + 1), .int (x)]) from rfl) ?_
    refine AW.getI (x := nI (n_ft N)) ok gf_X6_31 (sh_S1 hi) rfl hN.2.1 (am_at eX6_hasField 4 rfl) ?_
    refine AW.icmp ok 16 (am_at eX6_hasField 5 rfl) (by decide) (fun h2 => ?_) (fun h2 => ?_)
    · -- x ≥ n_ft N
      have h2 : nI (n_ft N) ≤ x := h2
      refine AW.run ok eX6_hasField 8 1 (show am_run 2 ((tX6_hasField.drop 8).take 1) 16 [some (.ref (sS i + 1)), some (.int (x))] [] = some (17, [some (.ref (sS i + 1)), some (.int (x))], [.int (nI (0))]) from rfl) ?_
      exact AW.ri (by have hq : (decide (0 ≤ x ∧ x < nI (n_ft N))) = false := decide_eq_false (by simp only [Int32.lt_iff_toInt_lt, Int32.le_iff_toInt_le, Int32.toInt_zero] at *; omega); rw [hq]; rfl) rfl ok hr (rfl) (Nat.zero_le _) (Nat.zero_le _) (am_at eX6_hasField 9 rfl)
    · -- not x ≥ n_ft N
      have h2 : ¬ (nI (n_ft N) ≤ x) := h2
      refine AW.run ok eX6_hasField 6 2 (show am_run 2 ((tX6_hasField.drop 6).take 2) 12 [some (.ref (sS i + 1)), some (.int (x))] [] = some (17, [some (.ref (sS i + 1)), some (.int (x))], [.int (nI (1))]) from rfl) ?_
      exact AW.ri (by have hq : (decide (0 ≤ x ∧ x < nI (n_ft N))) = true := decide_eq_true (by simp only [Int32.lt_iff_toInt_lt, Int32.le_iff_toInt_le, Int32.toInt_zero] at *; omega); rw [hq]; rfl) rfl ok hr (rfl) (Nat.zero_le _) (Nat.zero_le _) (am_at eX6_hasField 9 rfl)
set_option maxHeartbeats 4000000 in
theorem kX6_hasPath {U : am_U} {l : Launch} (B : am_base xx U) (hfl : l.stackTraces = false) {V : am_V} {i : Nat} (hi : i < 12) {N : nT} (hN : vN V i N) (hw : wN N) (x : Int32) : am_Ct xx U l yX6_hasPath cX6_hasPath 2 (some .boolean) { frames := 0, cells := 0, slots := 0, locals := 0 } [.ref (sS i + 1), .int (x)] V (am_is (.inl (some (.int (bI (decide (0 ≤ x ∧ x < nI (n_pt N))))))) V) := by
  refine am_Ct.of B hfl (by decide) (Nat.le_of_ble_eq_true rfl) ?_
  intro G hgl hgR hr ok h0 hex
  obtain ⟨hw1, hw2, hw3, hw4, hw5, hw6⟩ := id hw
  show AW xx U G 2 0 0 V _ 0 [some (.ref (sS i + 1)), some (.int (x))] []
  refine AW.run ok eX6_hasPath 0 1 (show am_run 2 ((tX6_hasPath.drop 0).take 1) 0 [some (.ref (sS i + 1)), some (.int (x))] [] = some (1, [some (.ref (sS i + 1)), some (.int (x))], [.int (x)]) from rfl) ?_
  refine AW.ifc ok 16 (am_at eX6_hasPath 1 rfl) (by decide) (fun h1 => ?_) (fun h1 => ?_)
  · -- x < 0
    have h1 : x < 0 := h1
    refine AW.run ok eX6_hasPath 8 1 (show am_run 2 ((tX6_hasPath.drop 8).take 1) 16 [some (.ref (sS i + 1)), some (.int (x))] [] = some (17, [some (.ref (sS i + 1)), some (.int (x))], [.int (nI (0))]) from rfl) ?_
    exact AW.ri (by have hq : (decide (0 ≤ x ∧ x < nI (n_pt N))) = false := decide_eq_false (by simp only [Int32.lt_iff_toInt_lt, Int32.le_iff_toInt_le, Int32.toInt_zero] at *; omega); rw [hq]; rfl) rfl ok hr (rfl) (Nat.zero_le _) (Nat.zero_le _) (am_at eX6_hasPath 9 rfl)
  · -- not x < 0
    have h1 : ¬ (x < 0) := h1
    refine AW.run ok eX6_hasPath 2 2 (show am_run 2 ((tX6_hasPath.drop 2).take 2) 4 [some (.ref (sS i + 1)), some (.int (x))] [] = some (6, [some (.ref (sS i + 1)), some (.int (x))], [.ref (sS i + 1), .int (x)]) from rfl) ?_
    refine AW.getI (x := nI (n_pt N)) ok gf_X6_34 (sh_S1 hi) rfl hN.2.2.1 (am_at eX6_hasPath 4 rfl) ?_
    refine AW.icmp ok 16 (am_at eX6_hasPath 5 rfl) (by decide) (fun h2 => ?_) (fun h2 => ?_)
    · -- x ≥ n_pt N
      have h2 : nI (n_pt N) ≤ x := h2
      refine AW.run ok eX6_hasPath 8 1 (show am_run 2 ((tX6_hasPath.drop 8).take 1) 16 [some (.ref (sS i + 1)), some (.int (x))] [] = some (17, [some (.ref (sS i + 1)), some (.int (x))], [.int (nI (0))]) from rfl) ?_
      exact AW.ri (by have hq : (decide (0 ≤ x ∧ x < nI (n_pt N))) = false := decide_eq_false (by simp only [Int32.lt_iff_toInt_lt, Int32.le_iff_toInt_le, Int32.toInt_zero] at *; omega); rw [hq]; rfl) rfl ok hr (rfl) (Nat.zero_le _) (Nat.zero_le _) (am_at eX6_hasPath 9 rfl)
    · -- not x ≥ n_pt N
      have h2 : ¬ (nI (n_pt N) ≤ x) := h2
      refine AW.run ok eX6_hasPath 6 2 (show am_run 2 ((tX6_hasPath.drop 6).take 2) 12 [some (.ref (sS i + 1)), some (.int (x))] [] = some (17, [some (.ref (sS i + 1)), some (.int (x))], [.int (nI (1))]) from rfl) ?_
      exact AW.ri (by have hq : (decide (0 ≤ x ∧ x < nI (n_pt N))) = true := decide_eq_true (by simp only [Int32.lt_iff_toInt_lt, Int32.le_iff_toInt_le, Int32.toInt_zero] at *; omega); rw [hq]; rfl) rfl ok hr (rfl) (Nat.zero_le _) (Nat.zero_le _) (am_at eX6_hasPath 9 rfl)
set_option maxHeartbeats 4000000 in
theorem kX6_isOpen {U : am_U} {l : Launch} (B : am_base xx U) (hfl : l.stackTraces = false) {V : am_V} {i : Nat} (hi : i < 12) {N : nT} (hN : vN V i N) (hw : wN N) {p : Nat} (hp : p < 16) : am_Ct xx U l yX6_isOpen cX6_isOpen 2 (some .boolean) { frames := 0, cells := 0, slots := 0, locals := 0 } [.ref (sS i + 1), .int (nI (p))] V (am_is (.inl (some (.int (bI (n_op N p))))) V) := by
  refine am_Ct.of B hfl (by decide) (Nat.le_of_ble_eq_true rfl) ?_
  intro G hgl hgR hr ok h0 hex
  obtain ⟨hw1, hw2, hw3, hw4, hw5, hw6⟩ := id hw
  show AW xx U G 2 0 0 V _ 0 [some (.ref (sS i + 1)), some (.int (nI (p)))] []
  refine AW.run ok eX6_isOpen 0 1 (show am_run 2 ((tX6_isOpen.drop 0).take 1) 0 [some (.ref (sS i + 1)), some (.int (nI (p)))] [] = some (1, [some (.ref (sS i + 1)), some (.int (nI (p)))], [.int (nI (p))]) from rfl) ?_
  refine AW.ifc ok 27 (am_at eX6_isOpen 1 rfl) (by decide) (fun h1 => ?_) (fun h1 => ?_)
  · -- p < 0
    have h1 : p < 0 := (i_lt (a := p) (b := 0) (by omega) (by omega)).mp h1
    refine AW.run ok eX6_isOpen 15 1 (show am_run 2 ((tX6_isOpen.drop 15).take 1) 27 [some (.ref (sS i + 1)), some (.int (nI (p)))] [] = some (28, [some (.ref (sS i + 1)), some (.int (nI (p)))], [.int (nI (0))]) from rfl) ?_
    exact AW.ri (by have hq : (n_op N p) = false := (by (simp_all [n_op]) <;> (intros; omega)); rw [hq]; rfl) rfl ok hr (rfl) (Nat.zero_le _) (Nat.zero_le _) (am_at eX6_isOpen 16 rfl)
  · -- not p < 0
    have h1 : ¬ p < 0 := fun z => h1 ((i_lt (a := p) (b := 0) (by omega) (by omega)).mpr z)
    refine AW.run ok eX6_isOpen 2 2 (show am_run 2 ((tX6_isOpen.drop 2).take 2) 4 [some (.ref (sS i + 1)), some (.int (nI (p)))] [] = some (6, [some (.ref (sS i + 1)), some (.int (nI (p)))], [.ref (sS i + 1), .int (nI (p))]) from rfl) ?_
    refine AW.getI (x := nI (n_pt N)) ok gf_X6_34 (sh_S1 hi) rfl hN.2.2.1 (am_at eX6_isOpen 4 rfl) ?_
    refine AW.icmp ok 27 (am_at eX6_isOpen 5 rfl) (by decide) (fun h2 => ?_) (fun h2 => ?_)
    · -- p ≥ n_pt N
      have h2 : n_pt N ≤ p := (i_le (a := n_pt N) (b := p) (by omega) (by omega)).mp h2
      refine AW.run ok eX6_isOpen 15 1 (show am_run 2 ((tX6_isOpen.drop 15).take 1) 27 [some (.ref (sS i + 1)), some (.int (nI (p)))] [] = some (28, [some (.ref (sS i + 1)), some (.int (nI (p)))], [.int (nI (0))]) from rfl) ?_
      exact AW.ri (by have hq : (n_op N p) = false := (by (simp_all [n_op]) <;> (intros; omega)); rw [hq]; rfl) rfl ok hr (rfl) (Nat.zero_le _) (Nat.zero_le _) (am_at eX6_isOpen 16 rfl)
    · -- not p ≥ n_pt N
      have h2 : ¬ n_pt N ≤ p := fun z => h2 ((i_le (a := n_pt N) (b := p) (by omega) (by omega)).mpr z)
      refine AW.run ok eX6_isOpen 6 1 (show am_run 2 ((tX6_isOpen.drop 6).take 1) 12 [some (.ref (sS i + 1)), some (.int (nI (p)))] [] = some (13, [some (.ref (sS i + 1)), some (.int (nI (p)))], [.ref (sS i + 1)]) from rfl) ?_
      refine AW.getI (x := nI (n_cl N)) ok gf_X6_27 (sh_S1 hi) rfl hN.1 (am_at eX6_isOpen 7 rfl) ?_
      refine AW.run ok eX6_isOpen 8 4 (show am_run 2 ((tX6_isOpen.drop 8).take 4) 16 [some (.ref (sS i + 1)), some (.int (nI (p)))] [.int (nI (n_cl N))] = some (20, [some (.ref (sS i + 1)), some (.int (nI (p)))], [.int ((nI (n_cl N) >>> (nI (p) &&& 31)) &&& nI 1)]) from rfl) ?_
      refine AW.top (show (nI (n_cl N) >>> (nI (p) &&& 31)) &&& nI 1 = bI (((n_cl N)).testBit p) from i_bitb (by omega) (by omega)) ?_
      refine AW.ifc ok 27 (am_at eX6_isOpen 12 rfl) (by decide) (fun h3 => ?_) (fun h3 => ?_)
      · -- ((n_cl N)).testBit p ≠ 0
        have h3 : ((n_cl N)).testBit p = true := bI_t h3
        refine AW.run ok eX6_isOpen 15 1 (show am_run 2 ((tX6_isOpen.drop 15).take 1) 27 [some (.ref (sS i + 1)), some (.int (nI (p)))] [] = some (28, [some (.ref (sS i + 1)), some (.int (nI (p)))], [.int (nI (0))]) from rfl) ?_
        exact AW.ri (by have hq : (n_op N p) = false := (by (simp_all [n_op]) <;> (intros; omega)); rw [hq]; rfl) rfl ok hr (rfl) (Nat.zero_le _) (Nat.zero_le _) (am_at eX6_isOpen 16 rfl)
      · -- not ((n_cl N)).testBit p ≠ 0
        have h3 : ((n_cl N)).testBit p = false := bI_f (Classical.not_not.mp h3)
        refine AW.run ok eX6_isOpen 13 2 (show am_run 2 ((tX6_isOpen.drop 13).take 2) 23 [some (.ref (sS i + 1)), some (.int (nI (p)))] [] = some (28, [some (.ref (sS i + 1)), some (.int (nI (p)))], [.int (nI (1))]) from rfl) ?_
        exact AW.ri (by have hq : (n_op N p) = true := (by (simp_all [n_op]) <;> (intros; omega)); rw [hq]; rfl) rfl ok hr (rfl) (Nat.zero_le _) (Nat.zero_le _) (am_at eX6_isOpen 16 rfl)
set_option maxHeartbeats 4000000 in
theorem kX6_endsOf {U : am_U} {l : Launch} (B : am_base xx U) (hfl : l.stackTraces = false) {V : am_V} {i : Nat} (hi : i < 12) {N : nT} (hN : vN V i N) (hw : wN N) {p : Nat} (hp : p < 16) : am_Ct xx U l yX6_endsOf cX6_endsOf 2 (some .int) { frames := 0, cells := 0, slots := 0, locals := 0 } [.ref (sS i + 1), .int (nI (p))] V (am_is (.inl (some (.int (nI (n_en N p))))) V) := by
  refine am_Ct.of B hfl (by decide) (Nat.le_of_ble_eq_true rfl) ?_
  intro G hgl hgR hr ok h0 hex
  obtain ⟨hw1, hw2, hw3, hw4, hw5, hw6⟩ := id hw
  have h50 := hw5 p hp
  show AW xx U G 2 0 0 V _ 0 [some (.ref (sS i + 1)), some (.int (nI (p)))] []
  refine AW.run ok eX6_endsOf 0 2 (show am_run 2 ((tX6_endsOf.drop 0).take 2) 0 [some (.ref (sS i + 1)), some (.int (nI (p)))] [] = some (2, [some (.ref (sS i + 1)), some (.int (nI (p)))], [.ref (sS i + 1), .int (nI (1))]) from rfl) ?_
  refine AW.getR ok gf_X6_15 (sh_S1 hi) rfl (am_at eX6_endsOf 2 rfl) ?_
  refine AW.run ok eX6_endsOf 3 1 (show am_run 2 ((tX6_endsOf.drop 3).take 1) 5 [some (.ref (sS i + 1)), some (.int (nI (p)))] [.ref (sS i + 5), .int (nI (1))] = some (6, [some (.ref (sS i + 1)), some (.int (nI (p)))], [.int (nI (p)), .ref (sS i + 5), .int (nI (1))]) from rfl) ?_
  refine AW.aldI (x := nI (n_fs N (p))) ok (sh_S5 hi) (by omega : p < 16) (by decide) (hN.2.2.2.2.1 _ (by omega : p < 16)) (am_at eX6_endsOf 4 rfl) ?_
  refine AW.run ok eX6_endsOf 5 1 (show am_run 2 ((tX6_endsOf.drop 5).take 1) 7 [some (.ref (sS i + 1)), some (.int (nI (p)))] [.int (nI (n_fs N (p))), .int (nI (1))] = some (8, [some (.ref (sS i + 1)), some (.int (nI (p)))], [.int (nI (1) <<< (nI (n_fs N (p)) &&& 31))]) from rfl) ?_
  refine AW.top (show nI (1) <<< (nI (n_fs N (p)) &&& 31) = nI (2 ^ (n_fs N (p))) from i_shl1 (by omega)) ?_
  refine AW.run ok eX6_endsOf 6 2 (show am_run 2 ((tX6_endsOf.drop 6).take 2) 8 [some (.ref (sS i + 1)), some (.int (nI (p)))] [.int (nI (2 ^ (n_fs N (p))))] = some (10, [some (.ref (sS i + 1)), some (.int (nI (p)))], [.ref (sS i + 1), .int (nI (1)), .int (nI (2 ^ (n_fs N (p))))]) from rfl) ?_
  refine AW.getR ok gf_X6_18 (sh_S1 hi) rfl (am_at eX6_endsOf 8 rfl) ?_
  refine AW.run ok eX6_endsOf 9 1 (show am_run 2 ((tX6_endsOf.drop 9).take 1) 13 [some (.ref (sS i + 1)), some (.int (nI (p)))] [.ref (sS i + 6), .int (nI (1)), .int (nI (2 ^ (n_fs N (p))))] = some (14, [some (.ref (sS i + 1)), some (.int (nI (p)))], [.int (nI (p)), .ref (sS i + 6), .int (nI (1)), .int (nI (2 ^ (n_fs N (p))))]) from rfl) ?_
  refine AW.aldI (x := nI (n_sn N (p))) ok (sh_S6 hi) (by omega : p < 16) (by decide) (hN.2.2.2.2.2.1 _ (by omega : p < 16)) (am_at eX6_endsOf 10 rfl) ?_
  refine AW.run ok eX6_endsOf 11 1 (show am_run 2 ((tX6_endsOf.drop 11).take 1) 15 [some (.ref (sS i + 1)), some (.int (nI (p)))] [.int (nI (n_sn N (p))), .int (nI (1)), .int (nI (2 ^ (n_fs N (p))))] = some (16, [some (.ref (sS i + 1)), some (.int (nI (p)))], [.int (nI (1) <<< (nI (n_sn N (p)) &&& 31)), .int (nI (2 ^ (n_fs N (p))))]) from rfl) ?_
  refine AW.top (show nI (1) <<< (nI (n_sn N (p)) &&& 31) = nI (2 ^ (n_sn N (p))) from i_shl1 (by omega)) ?_
  refine AW.run ok eX6_endsOf 12 1 (show am_run 2 ((tX6_endsOf.drop 12).take 1) 16 [some (.ref (sS i + 1)), some (.int (nI (p)))] [.int (nI (2 ^ (n_sn N (p)))), .int (nI (2 ^ (n_fs N (p))))] = some (17, [some (.ref (sS i + 1)), some (.int (nI (p)))], [.int (nI (2 ^ (n_fs N (p))) ||| nI (2 ^ (n_sn N (p))))]) from rfl) ?_
  refine AW.top (show nI (2 ^ (n_fs N (p))) ||| nI (2 ^ (n_sn N (p))) = nI ((2 ^ (n_fs N (p))) ||| (2 ^ (n_sn N (p)))) from i_or _ _) ?_
  exact AW.ri (by rfl) rfl ok hr (rfl) (Nat.zero_le _) (Nat.zero_le _) (am_at eX6_endsOf 13 rfl)
set_option maxHeartbeats 4000000 in
theorem kX6_dangerOf {U : am_U} {l : Launch} (B : am_base xx U) (hfl : l.stackTraces = false) {V : am_V} {i : Nat} (hi : i < 12) {N : nT} (hN : vN V i N) (hw : wN N) {p f : Nat} (hp : p < 16) (hf : f < 9) : am_Ct xx U l yX6_dangerOf cX6_dangerOf 3 (some .int) { frames := 0, cells := 0, slots := 0, locals := 0 } [.ref (sS i + 1), .int (nI (p)), .int (nI (f))] V (am_is (.inl (some (.int (nI (n_dg N p f))))) V) := by
  refine am_Ct.of B hfl (by decide) (Nat.le_of_ble_eq_true rfl) ?_
  intro G hgl hgR hr ok h0 hex
  obtain ⟨hw1, hw2, hw3, hw4, hw5, hw6⟩ := id hw
  have h50 := hw5 p hp
  have h40 := hw4 f hf
  show AW xx U G 3 0 0 V _ 0 [some (.ref (sS i + 1)), some (.int (nI (p))), some (.int (nI (f)))] []
  refine AW.run ok eX6_dangerOf 0 1 (show am_run 3 ((tX6_dangerOf.drop 0).take 1) 0 [some (.ref (sS i + 1)), some (.int (nI (p))), some (.int (nI (f)))] [] = some (1, [some (.ref (sS i + 1)), some (.int (nI (p))), some (.int (nI (f)))], [.ref (sS i + 1)]) from rfl) ?_
  refine AW.getR ok gf_X6_24 (sh_S1 hi) rfl (am_at eX6_dangerOf 1 rfl) ?_
  refine AW.run ok eX6_dangerOf 2 1 (show am_run 3 ((tX6_dangerOf.drop 2).take 1) 4 [some (.ref (sS i + 1)), some (.int (nI (p))), some (.int (nI (f)))] [.ref (sS i + 8)] = some (5, [some (.ref (sS i + 1)), some (.int (nI (p))), some (.int (nI (f)))], [.int (nI (p)), .ref (sS i + 8)]) from rfl) ?_
  refine AW.aldI (x := nI (n_gu N (p))) ok (sh_S8 hi) (by omega : p < 16) (by decide) (hN.2.2.2.2.2.2.2 _ (by omega : p < 16)) (am_at eX6_dangerOf 3 rfl) ?_
  refine AW.run ok eX6_dangerOf 4 1 (show am_run 3 ((tX6_dangerOf.drop 4).take 1) 6 [some (.ref (sS i + 1)), some (.int (nI (p))), some (.int (nI (f)))] [.int (nI (n_gu N (p)))] = some (7, [some (.ref (sS i + 1)), some (.int (nI (p))), some (.int (nI (f)))], [.ref (sS i + 1), .int (nI (n_gu N (p)))]) from rfl) ?_
  refine AW.getR ok gf_X6_9 (sh_S1 hi) rfl (am_at eX6_dangerOf 5 rfl) ?_
  refine AW.run ok eX6_dangerOf 6 1 (show am_run 3 ((tX6_dangerOf.drop 6).take 1) 10 [some (.ref (sS i + 1)), some (.int (nI (p))), some (.int (nI (f)))] [.ref (sS i + 4), .int (nI (n_gu N (p)))] = some (11, [some (.ref (sS i + 1)), some (.int (nI (p))), some (.int (nI (f)))], [.int (nI (f)), .ref (sS i + 4), .int (nI (n_gu N (p)))]) from rfl) ?_
  refine AW.aldI (x := nI (n_sh N (f))) ok (sh_S4 hi) (by omega : f < 9) (by decide) (hN.2.2.2.1 _ (by omega : f < 9)) (am_at eX6_dangerOf 7 rfl) ?_
  refine AW.icmp ok 31 (am_at eX6_dangerOf 8 rfl) (by decide) (fun h1 => ?_) (fun h1 => ?_)
  · -- n_gu N (p) ≤ n_sh N (f)
    have h1 : n_gu N (p) ≤ n_sh N (f) := (i_le (a := n_gu N (p)) (b := n_sh N (f)) (by omega) (by omega)).mp h1
    refine AW.run ok eX6_dangerOf 19 1 (show am_run 3 ((tX6_dangerOf.drop 19).take 1) 31 [some (.ref (sS i + 1)), some (.int (nI (p))), some (.int (nI (f)))] [] = some (32, [some (.ref (sS i + 1)), some (.int (nI (p))), some (.int (nI (f)))], [.int (nI (0))]) from rfl) ?_
    exact AW.ri (by have := hw5 p hp; have := hw4 f hf; first | (rw [i_sub (by omega)]; rfl) | (exact congrArg nI (by unfold n_dg; omega))) rfl ok hr (rfl) (Nat.zero_le _) (Nat.zero_le _) (am_at eX6_dangerOf 20 rfl)
  · -- not n_gu N (p) ≤ n_sh N (f)
    have h1 : ¬ n_gu N (p) ≤ n_sh N (f) := fun z => h1 ((i_le (a := n_gu N (p)) (b := n_sh N (f)) (by omega) (by omega)).mpr z)
    refine AW.run ok eX6_dangerOf 9 1 (show am_run 3 ((tX6_dangerOf.drop 9).take 1) 15 [some (.ref (sS i + 1)), some (.int (nI (p))), some (.int (nI (f)))] [] = some (16, [some (.ref (sS i + 1)), some (.int (nI (p))), some (.int (nI (f)))], [.ref (sS i + 1)]) from rfl) ?_
    refine AW.getR ok gf_X6_24 (sh_S1 hi) rfl (am_at eX6_dangerOf 10 rfl) ?_
    refine AW.run ok eX6_dangerOf 11 1 (show am_run 3 ((tX6_dangerOf.drop 11).take 1) 19 [some (.ref (sS i + 1)), some (.int (nI (p))), some (.int (nI (f)))] [.ref (sS i + 8)] = some (20, [some (.ref (sS i + 1)), some (.int (nI (p))), some (.int (nI (f)))], [.int (nI (p)), .ref (sS i + 8)]) from rfl) ?_
    refine AW.aldI (x := nI (n_gu N (p))) ok (sh_S8 hi) (by omega : p < 16) (by decide) (hN.2.2.2.2.2.2.2 _ (by omega : p < 16)) (am_at eX6_dangerOf 12 rfl) ?_
    refine AW.run ok eX6_dangerOf 13 1 (show am_run 3 ((tX6_dangerOf.drop 13).take 1) 21 [some (.ref (sS i + 1)), some (.int (nI (p))), some (.int (nI (f)))] [.int (nI (n_gu N (p)))] = some (22, [some (.ref (sS i + 1)), some (.int (nI (p))), some (.int (nI (f)))], [.ref (sS i + 1), .int (nI (n_gu N (p)))]) from rfl) ?_
    refine AW.getR ok gf_X6_9 (sh_S1 hi) rfl (am_at eX6_dangerOf 14 rfl) ?_
    refine AW.run ok eX6_dangerOf 15 1 (show am_run 3 ((tX6_dangerOf.drop 15).take 1) 25 [some (.ref (sS i + 1)), some (.int (nI (p))), some (.int (nI (f)))] [.ref (sS i + 4), .int (nI (n_gu N (p)))] = some (26, [some (.ref (sS i + 1)), some (.int (nI (p))), some (.int (nI (f)))], [.int (nI (f)), .ref (sS i + 4), .int (nI (n_gu N (p)))]) from rfl) ?_
    refine AW.aldI (x := nI (n_sh N (f))) ok (sh_S4 hi) (by omega : f < 9) (by decide) (hN.2.2.2.1 _ (by omega : f < 9)) (am_at eX6_dangerOf 16 rfl) ?_
    refine AW.run ok eX6_dangerOf 17 2 (show am_run 3 ((tX6_dangerOf.drop 17).take 2) 27 [some (.ref (sS i + 1)), some (.int (nI (p))), some (.int (nI (f)))] [.int (nI (n_sh N (f))), .int (nI (n_gu N (p)))] = some (32, [some (.ref (sS i + 1)), some (.int (nI (p))), some (.int (nI (f)))], [.int ((nI (n_gu N (p))) - (nI (n_sh N (f))))]) from rfl) ?_
    exact AW.ri (by have := hw5 p hp; have := hw4 f hf; first | (rw [i_sub (by omega)]; rfl) | (exact congrArg nI (by unfold n_dg; omega))) rfl ok hr (rfl) (Nat.zero_le _) (Nat.zero_le _) (am_at eX6_dangerOf 20 rfl)
theorem i_lit {k : Nat} (h : k < 2147483648) : ¬ nI k < nI 0 := i_lt0 h
def n_far (N : nT) (p f : Nat) : Int32 := if p < n_pt N then (if n_fs N p = f then nI (n_sn N p) else if n_sn N p = f then nI (n_fs N p) else -1) else -1
theorem hasP {N : nT} {p : Nat} (h2 : n_pt N ≤ 16) (hp : p < 16) (b : Bool) (h : decide (0 ≤ nI p ∧ nI p < nI (n_pt N)) = b) : decide (p < n_pt N) = b := by
  rw [← h]
  have e1 : (0 ≤ nI p) := nI_pos' (by omega)
  have e2 := i_lt (a := p) (b := n_pt N) (by omega) (by omega)
  simp [e1, e2]
theorem n_en_lt {N : nT} (hw : wN N) {p : Nat} (hp : p < 16) : n_en N p < 512 := by
  have h := hw.2.2.2.2.1 p hp
  have h1 : 2 ^ n_fs N p < 2 ^ 9 := Nat.pow_lt_pow_right (by omega) h.1
  have h2 : 2 ^ n_sn N p < 2 ^ 9 := Nat.pow_lt_pow_right (by omega) h.2.1
  exact Nat.or_lt_two_pow (n := 9) h1 h2
set_option maxHeartbeats 4000000 in
theorem kX6_farEnd {U : am_U} {l : Launch} (B : am_base xx U) (hfl : l.stackTraces = false) {V : am_V} {i : Nat} (hi : i < 12) {N : nT} (hN : vN V i N) (hw : wN N) {p f : Nat} (hp : p < 16) (hf : f < 9) : am_Ct xx U l yX6_farEnd cX6_farEnd 3 (some .int) { frames := 1, cells := 0, slots := 0, locals := 21 } [.ref (sS i + 1), .int (nI (p)), .int (nI (f))] V (am_is (.inl (some (.int (n_far N p f)))) V) := by
  refine am_Ct.of B hfl (by decide) (Nat.le_of_ble_eq_true rfl) ?_
  intro G hgl hgR hr ok h0 hex
  obtain ⟨hw1, hw2, hw3, hw4, hw5, hw6⟩ := id hw
  have h50 := hw5 p hp
  show AW xx U G 3 0 0 V _ 0 [some (.ref (sS i + 1)), some (.int (nI (p))), some (.int (nI (f)))] []
  refine AW.run ok eX6_farEnd 0 2 (show am_run 3 ((tX6_farEnd.drop 0).take 2) 0 [some (.ref (sS i + 1)), some (.int (nI (p))), some (.int (nI (f)))] [] = some (2, [some (.ref (sS i + 1)), some (.int (nI (p))), some (.int (nI (f)))], [.int (nI (p)), .ref (sS i + 1)]) from rfl) ?_
  refine AW.cv1 (rm := { frames := 0, cells := 0, slots := 0, locals := 0 }) (st := []) (As := [.int (nI (p))]) ok (by rw [hgl]; exact kX6_hasPath B hfl hi hN hw (nI (p))) cv_X6_43 (sh_S1 hi) (T := TX6) (N := 8) rfl rfl rfl (Nat.le_of_ble_eq_true rfl) (by rw [hgR]; exact ⟨Nat.le_of_ble_eq_true rfl, Nat.le_of_ble_eq_true rfl⟩) (by rw [hgR]; exact ⟨Nat.le_of_ble_eq_true rfl, Nat.le_of_ble_eq_true rfl⟩) (am_at eX6_farEnd 2 rfl) ?_
  refine AW.ifc ok 10 (am_at eX6_farEnd 3 rfl) (by decide) (fun h1 => ?_) (fun h1 => ?_)
  · -- decide (0 ≤ nI (p) ∧ nI (p) < nI (n_pt N)) ≠ 0
    have h1 : decide (0 ≤ nI (p) ∧ nI (p) < nI (n_pt N)) = true := bI_t h1
    have h1 : p < n_pt N := of_decide_eq_true (hasP hw2 (by omega) true h1)
    refine AW.run ok eX6_farEnd 6 1 (show am_run 3 ((tX6_farEnd.drop 6).take 1) 10 [some (.ref (sS i + 1)), some (.int (nI (p))), some (.int (nI (f)))] [] = some (11, [some (.ref (sS i + 1)), some (.int (nI (p))), some (.int (nI (f)))], [.ref (sS i + 1)]) from rfl) ?_
    refine AW.getR ok gf_X6_15 (sh_S1 hi) rfl (am_at eX6_farEnd 7 rfl) ?_
    refine AW.run ok eX6_farEnd 8 1 (show am_run 3 ((tX6_farEnd.drop 8).take 1) 14 [some (.ref (sS i + 1)), some (.int (nI (p))), some (.int (nI (f)))] [.ref (sS i + 5)] = some (15, [some (.ref (sS i + 1)), some (.int (nI (p))), some (.int (nI (f)))], [.int (nI (p)), .ref (sS i + 5)]) from rfl) ?_
    refine AW.aldI (x := nI (n_fs N (p))) ok (sh_S5 hi) (by omega : p < 16) (by decide) (hN.2.2.2.2.1 _ (by omega : p < 16)) (am_at eX6_farEnd 9 rfl) ?_
    refine AW.run ok eX6_farEnd 10 1 (show am_run 3 ((tX6_farEnd.drop 10).take 1) 16 [some (.ref (sS i + 1)), some (.int (nI (p))), some (.int (nI (f)))] [.int (nI (n_fs N (p)))] = some (17, [some (.ref (sS i + 1)), some (.int (nI (p))), some (.int (nI (f)))], [.int (nI (f)), .int (nI (n_fs N (p)))]) from rfl) ?_
    refine AW.icmp ok 27 (am_at eX6_farEnd 11 rfl) (by decide) (fun h2 => ?_) (fun h2 => ?_)
    · -- n_fs N (p) ≠ f
      have h2 : ¬ n_fs N (p) = f := fun z => h2 ((i_eq (a := n_fs N (p)) (b := f) (by omega) (by omega)).mpr z)
      refine AW.run ok eX6_farEnd 17 1 (show am_run 3 ((tX6_farEnd.drop 17).take 1) 27 [some (.ref (sS i + 1)), some (.int (nI (p))), some (.int (nI (f)))] [] = some (28, [some (.ref (sS i + 1)), some (.int (nI (p))), some (.int (nI (f)))], [.ref (sS i + 1)]) from rfl) ?_
      refine AW.getR ok gf_X6_18 (sh_S1 hi) rfl (am_at eX6_farEnd 18 rfl) ?_
      refine AW.run ok eX6_farEnd 19 1 (show am_run 3 ((tX6_farEnd.drop 19).take 1) 31 [some (.ref (sS i + 1)), some (.int (nI (p))), some (.int (nI (f)))] [.ref (sS i + 6)] = some (32, [some (.ref (sS i + 1)), some (.int (nI (p))), some (.int (nI (f)))], [.int (nI (p)), .ref (sS i + 6)]) from rfl) ?_
      refine AW.aldI (x := nI (n_sn N (p))) ok (sh_S6 hi) (by omega : p < 16) (by decide) (hN.2.2.2.2.2.1 _ (by omega : p < 16)) (am_at eX6_farEnd 20 rfl) ?_
      refine AW.run ok eX6_farEnd 21 1 (show am_run 3 ((tX6_farEnd.drop 21).take 1) 33 [some (.ref (sS i + 1)), some (.int (nI (p))), some (.int (nI (f)))] [.int (nI (n_sn N (p)))] = some (34, [some (.ref (sS i + 1)), some (.int (nI (p))), some (.int (nI (f)))], [.int (nI (f)), .int (nI (n_sn N (p)))]) from rfl) ?_
      refine AW.icmp ok 46 (am_at eX6_farEnd 22 rfl) (by decide) (fun h3 => ?_) (fun h3 => ?_)
      · -- n_sn N (p) ≠ f
        have h3 : ¬ n_sn N (p) = f := fun z => h3 ((i_eq (a := n_sn N (p)) (b := f) (by omega) (by omega)).mpr z)
        refine AW.run ok eX6_farEnd 28 1 (show am_run 3 ((tX6_farEnd.drop 28).take 1) 46 [some (.ref (sS i + 1)), some (.int (nI (p))), some (.int (nI (f)))] [] = some (47, [some (.ref (sS i + 1)), some (.int (nI (p))), some (.int (nI (f)))], [.int (-1)]) from rfl) ?_
        exact AW.ri (by unfold n_far; (repeat (first | split)) <;> first | rfl | omega) rfl ok hr (rfl) (Nat.zero_le _) (Nat.zero_le _) (am_at eX6_farEnd 29 rfl)
      · -- not n_sn N (p) ≠ f
        have h3 : n_sn N (p) = f := (i_eq (a := n_sn N (p)) (b := f) (by omega) (by omega)).mp (Classical.not_not.mp h3)
        refine AW.run ok eX6_farEnd 23 1 (show am_run 3 ((tX6_farEnd.drop 23).take 1) 37 [some (.ref (sS i + 1)), some (.int (nI (p))), some (.int (nI (f)))] [] = some (38, [some (.ref (sS i + 1)), some (.int (nI (p))), some (.int (nI (f)))], [.ref (sS i + 1)]) from rfl) ?_
        refine AW.getR ok gf_X6_15 (sh_S1 hi) rfl (am_at eX6_farEnd 24 rfl) ?_
        refine AW.run ok eX6_farEnd 25 1 (show am_run 3 ((tX6_farEnd.drop 25).take 1) 41 [some (.ref (sS i + 1)), some (.int (nI (p))), some (.int (nI (f)))] [.ref (sS i + 5)] = some (42, [some (.ref (sS i + 1)), some (.int (nI (p))), some (.int (nI (f)))], [.int (nI (p)), .ref (sS i + 5)]) from rfl) ?_
        refine AW.aldI (x := nI (n_fs N (p))) ok (sh_S5 hi) (by omega : p < 16) (by decide) (hN.2.2.2.2.1 _ (by omega : p < 16)) (am_at eX6_farEnd 26 rfl) ?_
        refine AW.run ok eX6_farEnd 27 1 (show am_run 3 ((tX6_farEnd.drop 27).take 1) 43 [some (.ref (sS i + 1)), some (.int (nI (p))), some (.int (nI (f)))] [.int (nI (n_fs N (p)))] = some (47, [some (.ref (sS i + 1)), some (.int (nI (p))), some (.int (nI (f)))], [.int (nI (n_fs N (p)))]) from rfl) ?_
        exact AW.ri (by unfold n_far; (repeat (first | split)) <;> first | rfl | omega) rfl ok hr (rfl) (Nat.zero_le _) (Nat.zero_le _) (am_at eX6_farEnd 29 rfl)
    · -- not n_fs N (p) ≠ f
      have h2 : n_fs N (p) = f := (i_eq (a := n_fs N (p)) (b := f) (by omega) (by omega)).mp (Classical.not_not.mp h2)
      refine AW.run ok eX6_farEnd 12 1 (show am_run 3 ((tX6_farEnd.drop 12).take 1) 20 [some (.ref (sS i + 1)), some (.int (nI (p))), some (.int (nI (f)))] [] = some (21, [some (.ref (sS i + 1)), some (.int (nI (p))), some (.int (nI (f)))], [.ref (sS i + 1)]) from rfl) ?_
      refine AW.getR ok gf_X6_18 (sh_S1 hi) rfl (am_at eX6_farEnd 13 rfl) ?_
      refine AW.run ok eX6_farEnd 14 1 (show am_run 3 ((tX6_farEnd.drop 14).take 1) 24 [some (.ref (sS i + 1)), some (.int (nI (p))), some (.int (nI (f)))] [.ref (sS i + 6)] = some (25, [some (.ref (sS i + 1)), some (.int (nI (p))), some (.int (nI (f)))], [.int (nI (p)), .ref (sS i + 6)]) from rfl) ?_
      refine AW.aldI (x := nI (n_sn N (p))) ok (sh_S6 hi) (by omega : p < 16) (by decide) (hN.2.2.2.2.2.1 _ (by omega : p < 16)) (am_at eX6_farEnd 15 rfl) ?_
      exact AW.ri (by unfold n_far; (repeat (first | split)) <;> first | rfl | omega) rfl ok hr (rfl) (Nat.zero_le _) (Nat.zero_le _) (am_at eX6_farEnd 16 rfl)
  · -- not decide (0 ≤ nI (p) ∧ nI (p) < nI (n_pt N)) ≠ 0
    have h1 : decide (0 ≤ nI (p) ∧ nI (p) < nI (n_pt N)) = false := bI_f (Classical.not_not.mp h1)
    have h1 : ¬ p < n_pt N := of_decide_eq_false (hasP hw2 (by omega) false h1)
    refine AW.run ok eX6_farEnd 4 1 (show am_run 3 ((tX6_farEnd.drop 4).take 1) 8 [some (.ref (sS i + 1)), some (.int (nI (p))), some (.int (nI (f)))] [] = some (9, [some (.ref (sS i + 1)), some (.int (nI (p))), some (.int (nI (f)))], [.int (-1)]) from rfl) ?_
    exact AW.ri (by unfold n_far; (repeat (first | split)) <;> first | rfl | omega) rfl ok hr (rfl) (Nat.zero_le _) (Nat.zero_le _) (am_at eX6_farEnd 5 rfl)
def n_fst (P : Nat → Bool) : Nat → Nat → Int32
  | 0, _ => -1
  | n + 1, p => if P p = true then nI p else n_fst P n (p + 1)
set_option maxHeartbeats 4000000 in
theorem lX6_pathBetween {U : am_U} {l : Launch} (B : am_base xx U) (hfl : l.stackTraces = false) {V : am_V} {i : Nat} (hi : i < 12) {N : nT} (hN : vN V i N) (hw : wN N) {G : am_G} (hgl : am_gl G = l) (hgR : am_gR G = { frames := 1, cells := 0, slots := 0, locals := 21 }) (hr : (am_gt G).sig.returnType = (some .int)) (ok : am_ok xx U G (yX6_pathBetween).cls cX6_pathBetween 5) (h0 : am_st0 U G) {x1 x2 : Int32} {ee : Nat} (he : ee < 512) : ∀ (n p : Nat), p + n = n_pt N → AW xx U G 5 0 0 V (am_End xx U G { frames := 1, cells := 0, slots := 0, locals := 21 } (am_is (.inl (some (.int (n_fst (fun q => n_en N q == ee) n p)))) V)) 11 [some (.ref (sS i + 1)), some (.int (x1)), some (.int (x2)), some (.int (nI (ee))), some (.int (nI (p)))] [] := by
  obtain ⟨hw1, hw2, hw3, hw4, hw5, hw6⟩ := id hw
  intro n
  induction n with
  | zero =>
    intro p hpn
    refine AW.run ok eX6_pathBetween 10 2 (show am_run 5 ((tX6_pathBetween.drop 10).take 2) 11 [some (.ref (sS i + 1)), some (.int (x1)), some (.int (x2)), some (.int (nI (ee))), some (.int (nI (p)))] [] = some (14, [some (.ref (sS i + 1)), some (.int (x1)), some (.int (x2)), some (.int (nI (ee))), some (.int (nI (p)))], [.ref (sS i + 1), .int (nI (p))]) from rfl) ?_
    refine AW.getI (x := nI (n_pt N)) ok gf_X6_34 (sh_S1 hi) rfl hN.2.2.1 (am_at eX6_pathBetween 12 rfl) ?_
    refine AW.icmp ok 39 (am_at eX6_pathBetween 13 rfl) (by decide) (fun h1 => ?_) (fun h1 => ?_)
    · -- p ≥ n_pt N
      have h1 : n_pt N ≤ p := (i_le (a := n_pt N) (b := p) (by omega) (by omega)).mp h1
      refine AW.run ok eX6_pathBetween 23 1 (show am_run 5 ((tX6_pathBetween.drop 23).take 1) 39 [some (.ref (sS i + 1)), some (.int (x1)), some (.int (x2)), some (.int (nI (ee))), some (.int (nI (p)))] [] = some (40, [some (.ref (sS i + 1)), some (.int (x1)), some (.int (x2)), some (.int (nI (ee))), some (.int (nI (p)))], [.int (-1)]) from rfl) ?_
      exact AW.ri (by rfl) rfl ok hr rfl (Nat.zero_le _) (Nat.zero_le _) (am_at eX6_pathBetween 24 rfl)
    · -- not p ≥ n_pt N
      have h1 : ¬ n_pt N ≤ p := fun z => h1 ((i_le (a := n_pt N) (b := p) (by omega) (by omega)).mpr z)
      exact absurd hpn (by omega)
  | succ n ih =>
    intro p hpn
    have hen := n_en_lt hw (p := p) (by omega)
    refine AW.run ok eX6_pathBetween 10 2 (show am_run 5 ((tX6_pathBetween.drop 10).take 2) 11 [some (.ref (sS i + 1)), some (.int (x1)), some (.int (x2)), some (.int (nI (ee))), some (.int (nI (p)))] [] = some (14, [some (.ref (sS i + 1)), some (.int (x1)), some (.int (x2)), some (.int (nI (ee))), some (.int (nI (p)))], [.ref (sS i + 1), .int (nI (p))]) from rfl) ?_
    refine AW.getI (x := nI (n_pt N)) ok gf_X6_34 (sh_S1 hi) rfl hN.2.2.1 (am_at eX6_pathBetween 12 rfl) ?_
    refine AW.icmp ok 39 (am_at eX6_pathBetween 13 rfl) (by decide) (fun h1 => ?_) (fun h1 => ?_)
    · -- p ≥ n_pt N
      have h1 : n_pt N ≤ p := (i_le (a := n_pt N) (b := p) (by omega) (by omega)).mp h1
      exact absurd hpn (by omega)
    · -- not p ≥ n_pt N
      have h1 : ¬ n_pt N ≤ p := fun z => h1 ((i_le (a := n_pt N) (b := p) (by omega) (by omega)).mpr z)
      refine AW.run ok eX6_pathBetween 14 2 (show am_run 5 ((tX6_pathBetween.drop 14).take 2) 20 [some (.ref (sS i + 1)), some (.int (x1)), some (.int (x2)), some (.int (nI (ee))), some (.int (nI (p)))] [] = some (23, [some (.ref (sS i + 1)), some (.int (x1)), some (.int (x2)), some (.int (nI (ee))), some (.int (nI (p)))], [.int (nI (p)), .ref (sS i + 1)]) from rfl) ?_
      refine AW.cv1 (rm := { frames := 0, cells := 0, slots := 0, locals := 0 }) (st := []) (As := [.int (nI (p))]) ok (by rw [hgl]; exact kX6_endsOf B hfl hi hN hw (p := p) (by omega)) cv_X6_47 (sh_S1 hi) (T := TX6) (N := 8) rfl rfl rfl (Nat.le_of_ble_eq_true rfl) (by rw [hgR]; exact ⟨Nat.le_of_ble_eq_true rfl, Nat.le_of_ble_eq_true rfl⟩) (by rw [hgR]; exact ⟨Nat.le_of_ble_eq_true rfl, Nat.le_of_ble_eq_true rfl⟩) (am_at eX6_pathBetween 16 rfl) ?_
      refine AW.run ok eX6_pathBetween 17 1 (show am_run 5 ((tX6_pathBetween.drop 17).take 1) 26 [some (.ref (sS i + 1)), some (.int (x1)), some (.int (x2)), some (.int (nI (ee))), some (.int (nI (p)))] [.int (nI (n_en N (p)))] = some (27, [some (.ref (sS i + 1)), some (.int (x1)), some (.int (x2)), some (.int (nI (ee))), some (.int (nI (p)))], [.int (nI (ee)), .int (nI (n_en N (p)))]) from rfl) ?_
      refine AW.icmp ok 33 (am_at eX6_pathBetween 18 rfl) (by decide) (fun h2 => ?_) (fun h2 => ?_)
      · -- n_en N (p) ≠ ee
        have h2 : ¬ n_en N (p) = ee := fun z => h2 ((i_eq (a := n_en N (p)) (b := ee) (by omega) (by omega)).mpr z)
        refine AW.run ok eX6_pathBetween 21 1 (show am_run 5 ((tX6_pathBetween.drop 21).take 1) 33 [some (.ref (sS i + 1)), some (.int (x1)), some (.int (x2)), some (.int (nI (ee))), some (.int (nI (p)))] [] = some (36, [some (.ref (sS i + 1)), some (.int (x1)), some (.int (x2)), some (.int (nI (ee))), some (.int (nI (p) + nI 1))], []) from rfl) ?_
        refine AW.loc (show ([some (.ref (sS i + 1)), some (.int (x1)), some (.int (x2)), some (.int (nI (ee))), some (.int (nI (p) + nI 1))] : List (Option Value)) = [some (.ref (sS i + 1)), some (.int (x1)), some (.int (x2)), some (.int (nI (ee))), some (.int (nI (p + 1)))] by rw [show nI (p) + nI 1 = nI (p + 1) from nI_add _ _]) ?_
        refine AW.run ok eX6_pathBetween 22 1 (show am_run 5 ((tX6_pathBetween.drop 22).take 1) 36 [some (.ref (sS i + 1)), some (.int (x1)), some (.int (x2)), some (.int (nI (ee))), some (.int (nI (p + 1)))] [] = some (11, [some (.ref (sS i + 1)), some (.int (x1)), some (.int (x2)), some (.int (nI (ee))), some (.int (nI (p + 1)))], []) from rfl) ?_
        rw [show n_fst (fun q => n_en N q == ee) (n + 1) p = n_fst (fun q => n_en N q == ee) n (p + 1) from by rw [n_fst, if_neg (fun z => h2 (beq_iff_eq.mp z))]]
        exact ih (p + 1) (by omega)
      · -- not n_en N (p) ≠ ee
        have h2 : n_en N (p) = ee := (i_eq (a := n_en N (p)) (b := ee) (by omega) (by omega)).mp (Classical.not_not.mp h2)
        refine AW.run ok eX6_pathBetween 19 1 (show am_run 5 ((tX6_pathBetween.drop 19).take 1) 30 [some (.ref (sS i + 1)), some (.int (x1)), some (.int (x2)), some (.int (nI (ee))), some (.int (nI (p)))] [] = some (32, [some (.ref (sS i + 1)), some (.int (x1)), some (.int (x2)), some (.int (nI (ee))), some (.int (nI (p)))], [.int (nI (p))]) from rfl) ?_
        exact AW.ri (by rw [n_fst, if_pos (beq_iff_eq.mpr h2)]) rfl ok hr rfl (Nat.zero_le _) (Nat.zero_le _) (am_at eX6_pathBetween 20 rfl)
theorem pbl {a b : Nat} (ha : a < 9) (hb : b < 9) : 2 ^ a ||| 2 ^ b < 512 := by
  have h1 : 2 ^ a < 2 ^ 9 := Nat.pow_lt_pow_right (by omega) ha
  have h2 : 2 ^ b < 2 ^ 9 := Nat.pow_lt_pow_right (by omega) hb
  exact Nat.or_lt_two_pow (n := 9) h1 h2
set_option maxHeartbeats 4000000 in
theorem kX6_pathBetween {U : am_U} {l : Launch} (B : am_base xx U) (hfl : l.stackTraces = false) {V : am_V} {i : Nat} (hi : i < 12) {N : nT} (hN : vN V i N) (hw : wN N) {a b : Nat} (ha : a < 9) (hb : b < 9) : am_Ct xx U l yX6_pathBetween cX6_pathBetween 5 (some .int) { frames := 1, cells := 0, slots := 0, locals := 21 } [.ref (sS i + 1), .int (nI (a)), .int (nI (b))] V (am_is (.inl (some (.int (n_fst (fun q => n_en N q == 2 ^ a ||| 2 ^ b) (n_pt N) 0)))) V) := by
  refine am_Ct.of B hfl (by decide) (Nat.le_of_ble_eq_true rfl) ?_
  intro G hgl hgR hr ok h0 hex
  obtain ⟨hw1, hw2, hw3, hw4, hw5, hw6⟩ := id hw
  show AW xx U G 5 0 0 V _ 0 [some (.ref (sS i + 1)), some (.int (nI (a))), some (.int (nI (b))), none, none] []
  refine AW.run ok eX6_pathBetween 0 3 (show am_run 5 ((tX6_pathBetween.drop 0).take 3) 0 [some (.ref (sS i + 1)), some (.int (nI (a))), some (.int (nI (b))), none, none] [] = some (3, [some (.ref (sS i + 1)), some (.int (nI (a))), some (.int (nI (b))), none, none], [.int (nI (1) <<< (nI (a) &&& 31))]) from rfl) ?_
  refine AW.top (show nI (1) <<< (nI (a) &&& 31) = nI (2 ^ a) from i_shl1 (by omega)) ?_
  refine AW.run ok eX6_pathBetween 3 3 (show am_run 5 ((tX6_pathBetween.drop 3).take 3) 3 [some (.ref (sS i + 1)), some (.int (nI (a))), some (.int (nI (b))), none, none] [.int (nI (2 ^ a))] = some (6, [some (.ref (sS i + 1)), some (.int (nI (a))), some (.int (nI (b))), none, none], [.int (nI (1) <<< (nI (b) &&& 31)), .int (nI (2 ^ a))]) from rfl) ?_
  refine AW.top (show nI (1) <<< (nI (b) &&& 31) = nI (2 ^ b) from i_shl1 (by omega)) ?_
  refine AW.run ok eX6_pathBetween 6 1 (show am_run 5 ((tX6_pathBetween.drop 6).take 1) 6 [some (.ref (sS i + 1)), some (.int (nI (a))), some (.int (nI (b))), none, none] [.int (nI (2 ^ b)), .int (nI (2 ^ a))] = some (7, [some (.ref (sS i + 1)), some (.int (nI (a))), some (.int (nI (b))), none, none], [.int (nI (2 ^ a) ||| nI (2 ^ b))]) from rfl) ?_
  refine AW.top (show nI (2 ^ a) ||| nI (2 ^ b) = nI ((2 ^ a) ||| (2 ^ b)) from i_or _ _) ?_
  refine AW.run ok eX6_pathBetween 7 3 (show am_run 5 ((tX6_pathBetween.drop 7).take 3) 7 [some (.ref (sS i + 1)), some (.int (nI (a))), some (.int (nI (b))), none, none] [.int (nI ((2 ^ a) ||| (2 ^ b)))] = some (11, [some (.ref (sS i + 1)), some (.int (nI (a))), some (.int (nI (b))), some (.int (nI ((2 ^ a) ||| (2 ^ b)))), some (.int (nI (0)))], []) from rfl) ?_
  exact lX6_pathBetween B hfl hi hN hw hgl hgR hr ok h0 (by exact pbl ha hb) (n_pt N) 0 (by omega)
end
section
/-- what copying a Net leaves: the view, and all other cells -/
def pN (V : am_V) (i : Nat) (N : nT) : am_P := fun x W => x = .inl none ∧ vN W i N ∧ ∀ c, (c < sS i + 4 ∨ sS i + 8 < c) → c ≠ sS i + 1 → W c = V c
set_option maxHeartbeats 4000000 in
theorem kX6_copyFrom {U : am_U} {l : Launch} (B : am_base xx U) (hfl : l.stackTraces = false) {V : am_V} {i j : Nat} (hi : i < 12) (hj : j < 12) (hij : i ≠ j) {Nj : nT} (hNj : vN V j Nj) : am_Ct xx U l yX6_copyFrom cX6_copyFrom 2 none { frames := 2, cells := 0, slots := 0, locals := 60 } [.ref (sS i + 1), .ref (sS j + 1)] V (pN V i Nj) := by
  refine am_Ct.of B hfl (by decide) (Nat.le_of_ble_eq_true rfl) ?_
  intro G hgl hgR hr ok h0 hex
  show AW xx U G 2 0 0 V _ 0 [some (.ref (sS i + 1)), some (.ref (sS j + 1))] []
  refine AW.run ok eX6_copyFrom 0 1 (show am_run 2 ((tX6_copyFrom.drop 0).take 1) 0 [some (.ref (sS i + 1)), some (.ref (sS j + 1))] [] = some (1, [some (.ref (sS i + 1)), some (.ref (sS j + 1))], [.ref (sS j + 1)]) from rfl) ?_
  refine AW.getR ok gf_X6_9 (sh_S1 hj) rfl (am_at eX6_copyFrom 1 rfl) ?_
  refine AW.run ok eX6_copyFrom 2 2 (show am_run 2 ((tX6_copyFrom.drop 2).take 2) 4 [some (.ref (sS i + 1)), some (.ref (sS j + 1))] [.ref (sS j + 4)] = some (6, [some (.ref (sS i + 1)), some (.ref (sS j + 1))], [.ref (sS i + 1), .int (nI (0)), .ref (sS j + 4)]) from rfl) ?_
  refine AW.getR ok gf_X6_9 (sh_S1 hi) rfl (am_at eX6_copyFrom 4 rfl) ?_
  refine AW.run ok eX6_copyFrom 5 2 (show am_run 2 ((tX6_copyFrom.drop 5).take 2) 9 [some (.ref (sS i + 1)), some (.ref (sS j + 1))] [.ref (sS i + 4), .int (nI (0)), .ref (sS j + 4)] = some (12, [some (.ref (sS i + 1)), some (.ref (sS j + 1))], [.int (nI (9)), .int (nI (0)), .ref (sS i + 4), .int (nI (0)), .ref (sS j + 4)]) from rfl) ?_
  refine AW.cpy (c0 := sS j + 4) (c1 := sS i + 4) (n := 9) (st := []) ok ac_X6_50 (sh_S4 hj) (sh_S4 hi) (wr_S (i := i) (k := 4) hi (by omega)) (by decide) (by decide) (by decide) (by rw [hgR]; exact Nat.le_of_ble_eq_true rfl) (by rw [hgR]; exact Nat.le_of_ble_eq_true rfl) (am_at eX6_copyFrom 7 rfl) ?_
  refine AW.run ok eX6_copyFrom 8 1 (show am_run 2 ((tX6_copyFrom.drop 8).take 1) 15 [some (.ref (sS i + 1)), some (.ref (sS j + 1))] [] = some (16, [some (.ref (sS i + 1)), some (.ref (sS j + 1))], [.ref (sS j + 1)]) from rfl) ?_
  refine AW.getR ok gf_X6_15 (sh_S1 hj) rfl (am_at eX6_copyFrom 9 rfl) ?_
  refine AW.run ok eX6_copyFrom 10 2 (show am_run 2 ((tX6_copyFrom.drop 10).take 2) 19 [some (.ref (sS i + 1)), some (.ref (sS j + 1))] [.ref (sS j + 5)] = some (21, [some (.ref (sS i + 1)), some (.ref (sS j + 1))], [.ref (sS i + 1), .int (nI (0)), .ref (sS j + 5)]) from rfl) ?_
  refine AW.getR ok gf_X6_15 (sh_S1 hi) rfl (am_at eX6_copyFrom 12 rfl) ?_
  refine AW.run ok eX6_copyFrom 13 2 (show am_run 2 ((tX6_copyFrom.drop 13).take 2) 24 [some (.ref (sS i + 1)), some (.ref (sS j + 1))] [.ref (sS i + 5), .int (nI (0)), .ref (sS j + 5)] = some (27, [some (.ref (sS i + 1)), some (.ref (sS j + 1))], [.int (nI (16)), .int (nI (0)), .ref (sS i + 5), .int (nI (0)), .ref (sS j + 5)]) from rfl) ?_
  refine AW.cpy (c0 := sS j + 5) (c1 := sS i + 5) (n := 16) (st := []) ok ac_X6_50 (sh_S5 hj) (sh_S5 hi) (wr_S (i := i) (k := 5) hi (by omega)) (by decide) (by decide) (by decide) (by rw [hgR]; exact Nat.le_of_ble_eq_true rfl) (by rw [hgR]; exact Nat.le_of_ble_eq_true rfl) (am_at eX6_copyFrom 15 rfl) ?_
  refine AW.run ok eX6_copyFrom 16 1 (show am_run 2 ((tX6_copyFrom.drop 16).take 1) 30 [some (.ref (sS i + 1)), some (.ref (sS j + 1))] [] = some (31, [some (.ref (sS i + 1)), some (.ref (sS j + 1))], [.ref (sS j + 1)]) from rfl) ?_
  refine AW.getR ok gf_X6_18 (sh_S1 hj) rfl (am_at eX6_copyFrom 17 rfl) ?_
  refine AW.run ok eX6_copyFrom 18 2 (show am_run 2 ((tX6_copyFrom.drop 18).take 2) 34 [some (.ref (sS i + 1)), some (.ref (sS j + 1))] [.ref (sS j + 6)] = some (36, [some (.ref (sS i + 1)), some (.ref (sS j + 1))], [.ref (sS i + 1), .int (nI (0)), .ref (sS j + 6)]) from rfl) ?_
  refine AW.getR ok gf_X6_18 (sh_S1 hi) rfl (am_at eX6_copyFrom 20 rfl) ?_
  refine AW.run ok eX6_copyFrom 21 2 (show am_run 2 ((tX6_copyFrom.drop 21).take 2) 39 [some (.ref (sS i + 1)), some (.ref (sS j + 1))] [.ref (sS i + 6), .int (nI (0)), .ref (sS j + 6)] = some (42, [some (.ref (sS i + 1)), some (.ref (sS j + 1))], [.int (nI (16)), .int (nI (0)), .ref (sS i + 6), .int (nI (0)), .ref (sS j + 6)]) from rfl) ?_
  refine AW.cpy (c0 := sS j + 6) (c1 := sS i + 6) (n := 16) (st := []) ok ac_X6_50 (sh_S6 hj) (sh_S6 hi) (wr_S (i := i) (k := 6) hi (by omega)) (by decide) (by decide) (by decide) (by rw [hgR]; exact Nat.le_of_ble_eq_true rfl) (by rw [hgR]; exact Nat.le_of_ble_eq_true rfl) (am_at eX6_copyFrom 23 rfl) ?_
  refine AW.run ok eX6_copyFrom 24 1 (show am_run 2 ((tX6_copyFrom.drop 24).take 1) 45 [some (.ref (sS i + 1)), some (.ref (sS j + 1))] [] = some (46, [some (.ref (sS i + 1)), some (.ref (sS j + 1))], [.ref (sS j + 1)]) from rfl) ?_
  refine AW.getR ok gf_X6_21 (sh_S1 hj) rfl (am_at eX6_copyFrom 25 rfl) ?_
  refine AW.run ok eX6_copyFrom 26 2 (show am_run 2 ((tX6_copyFrom.drop 26).take 2) 49 [some (.ref (sS i + 1)), some (.ref (sS j + 1))] [.ref (sS j + 7)] = some (51, [some (.ref (sS i + 1)), some (.ref (sS j + 1))], [.ref (sS i + 1), .int (nI (0)), .ref (sS j + 7)]) from rfl) ?_
  refine AW.getR ok gf_X6_21 (sh_S1 hi) rfl (am_at eX6_copyFrom 28 rfl) ?_
  refine AW.run ok eX6_copyFrom 29 2 (show am_run 2 ((tX6_copyFrom.drop 29).take 2) 54 [some (.ref (sS i + 1)), some (.ref (sS j + 1))] [.ref (sS i + 7), .int (nI (0)), .ref (sS j + 7)] = some (57, [some (.ref (sS i + 1)), some (.ref (sS j + 1))], [.int (nI (16)), .int (nI (0)), .ref (sS i + 7), .int (nI (0)), .ref (sS j + 7)]) from rfl) ?_
  refine AW.cpy (c0 := sS j + 7) (c1 := sS i + 7) (n := 16) (st := []) ok ac_X6_50 (sh_S7 hj) (sh_S7 hi) (wr_S (i := i) (k := 7) hi (by omega)) (by decide) (by decide) (by decide) (by rw [hgR]; exact Nat.le_of_ble_eq_true rfl) (by rw [hgR]; exact Nat.le_of_ble_eq_true rfl) (am_at eX6_copyFrom 31 rfl) ?_
  refine AW.run ok eX6_copyFrom 32 1 (show am_run 2 ((tX6_copyFrom.drop 32).take 1) 60 [some (.ref (sS i + 1)), some (.ref (sS j + 1))] [] = some (61, [some (.ref (sS i + 1)), some (.ref (sS j + 1))], [.ref (sS j + 1)]) from rfl) ?_
  refine AW.getR ok gf_X6_24 (sh_S1 hj) rfl (am_at eX6_copyFrom 33 rfl) ?_
  refine AW.run ok eX6_copyFrom 34 2 (show am_run 2 ((tX6_copyFrom.drop 34).take 2) 64 [some (.ref (sS i + 1)), some (.ref (sS j + 1))] [.ref (sS j + 8)] = some (66, [some (.ref (sS i + 1)), some (.ref (sS j + 1))], [.ref (sS i + 1), .int (nI (0)), .ref (sS j + 8)]) from rfl) ?_
  refine AW.getR ok gf_X6_24 (sh_S1 hi) rfl (am_at eX6_copyFrom 36 rfl) ?_
  refine AW.run ok eX6_copyFrom 37 2 (show am_run 2 ((tX6_copyFrom.drop 37).take 2) 69 [some (.ref (sS i + 1)), some (.ref (sS j + 1))] [.ref (sS i + 8), .int (nI (0)), .ref (sS j + 8)] = some (72, [some (.ref (sS i + 1)), some (.ref (sS j + 1))], [.int (nI (16)), .int (nI (0)), .ref (sS i + 8), .int (nI (0)), .ref (sS j + 8)]) from rfl) ?_
  refine AW.cpy (c0 := sS j + 8) (c1 := sS i + 8) (n := 16) (st := []) ok ac_X6_50 (sh_S8 hj) (sh_S8 hi) (wr_S (i := i) (k := 8) hi (by omega)) (by decide) (by decide) (by decide) (by rw [hgR]; exact Nat.le_of_ble_eq_true rfl) (by rw [hgR]; exact Nat.le_of_ble_eq_true rfl) (am_at eX6_copyFrom 39 rfl) ?_
  refine AW.run ok eX6_copyFrom 40 2 (show am_run 2 ((tX6_copyFrom.drop 40).take 2) 75 [some (.ref (sS i + 1)), some (.ref (sS j + 1))] [] = some (77, [some (.ref (sS i + 1)), some (.ref (sS j + 1))], [.ref (sS j + 1), .ref (sS i + 1)]) from rfl) ?_
  refine AW.getI (x := nI (n_cl Nj)) ok gf_X6_27 (sh_S1 hj) rfl (by rw [am_row_ne _ _ (show (sS j + 1) ≠ (sS i + 8) by unfold sS; omega), am_row_ne _ _ (show (sS j + 1) ≠ (sS i + 7) by unfold sS; omega), am_row_ne _ _ (show (sS j + 1) ≠ (sS i + 6) by unfold sS; omega), am_row_ne _ _ (show (sS j + 1) ≠ (sS i + 5) by unfold sS; omega), am_row_ne _ _ (show (sS j + 1) ≠ (sS i + 4) by unfold sS; omega)]; exact hNj.1) (am_at eX6_copyFrom 42 rfl) ?_
  refine AW.putI ok pf_X6_27 (sh_S1 hi) (wr_S (i := i) (k := 1) hi (by omega)) rfl ⟨rfl, rfl⟩ (am_at eX6_copyFrom 43 rfl) ?_
  refine AW.run ok eX6_copyFrom 44 2 (show am_run 2 ((tX6_copyFrom.drop 44).take 2) 83 [some (.ref (sS i + 1)), some (.ref (sS j + 1))] [] = some (85, [some (.ref (sS i + 1)), some (.ref (sS j + 1))], [.ref (sS j + 1), .ref (sS i + 1)]) from rfl) ?_
  refine AW.getI (x := nI (n_ft Nj)) ok gf_X6_31 (sh_S1 hj) rfl (by rw [am_set_ne _ _ _ (show (sS j + 1) ≠ (sS i + 1) by unfold sS; omega), am_row_ne _ _ (show (sS j + 1) ≠ (sS i + 8) by unfold sS; omega), am_row_ne _ _ (show (sS j + 1) ≠ (sS i + 7) by unfold sS; omega), am_row_ne _ _ (show (sS j + 1) ≠ (sS i + 6) by unfold sS; omega), am_row_ne _ _ (show (sS j + 1) ≠ (sS i + 5) by unfold sS; omega), am_row_ne _ _ (show (sS j + 1) ≠ (sS i + 4) by unfold sS; omega)]; exact hNj.2.1) (am_at eX6_copyFrom 46 rfl) ?_
  refine AW.putI ok pf_X6_31 (sh_S1 hi) (wr_S (i := i) (k := 1) hi (by omega)) rfl ⟨rfl, rfl⟩ (am_at eX6_copyFrom 47 rfl) ?_
  refine AW.run ok eX6_copyFrom 48 2 (show am_run 2 ((tX6_copyFrom.drop 48).take 2) 91 [some (.ref (sS i + 1)), some (.ref (sS j + 1))] [] = some (93, [some (.ref (sS i + 1)), some (.ref (sS j + 1))], [.ref (sS j + 1), .ref (sS i + 1)]) from rfl) ?_
  refine AW.getI (x := nI (n_pt Nj)) ok gf_X6_34 (sh_S1 hj) rfl (by rw [am_set_ne _ _ _ (show (sS j + 1) ≠ (sS i + 1) by unfold sS; omega), am_set_ne _ _ _ (show (sS j + 1) ≠ (sS i + 1) by unfold sS; omega), am_row_ne _ _ (show (sS j + 1) ≠ (sS i + 8) by unfold sS; omega), am_row_ne _ _ (show (sS j + 1) ≠ (sS i + 7) by unfold sS; omega), am_row_ne _ _ (show (sS j + 1) ≠ (sS i + 6) by unfold sS; omega), am_row_ne _ _ (show (sS j + 1) ≠ (sS i + 5) by unfold sS; omega), am_row_ne _ _ (show (sS j + 1) ≠ (sS i + 4) by unfold sS; omega)]; exact hNj.2.2.1) (am_at eX6_copyFrom 50 rfl) ?_
  refine AW.putI ok pf_X6_34 (sh_S1 hi) (wr_S (i := i) (k := 1) hi (by omega)) rfl ⟨rfl, rfl⟩ (am_at eX6_copyFrom 51 rfl) ?_
  exact AW.vret ok (⟨rfl, ⟨(by rw [am_set_nk _ _ _ (show (5) ≠ (7) by omega), am_set_nk _ _ _ (show (5) ≠ (6) by omega), am_set_eq]), (by rw [am_set_nk _ _ _ (show (6) ≠ (7) by omega), am_set_eq]), (by rw [am_set_eq]), fun z hz => (by rw [am_set_ne _ _ _ (show (sS i + 4) ≠ (sS i + 1) by unfold sS; omega), am_set_ne _ _ _ (show (sS i + 4) ≠ (sS i + 1) by unfold sS; omega), am_set_ne _ _ _ (show (sS i + 4) ≠ (sS i + 1) by unfold sS; omega), am_row_ne _ _ (show (sS i + 4) ≠ (sS i + 8) by unfold sS; omega), am_row_ne _ _ (show (sS i + 4) ≠ (sS i + 7) by unfold sS; omega), am_row_ne _ _ (show (sS i + 4) ≠ (sS i + 6) by unfold sS; omega), am_row_ne _ _ (show (sS i + 4) ≠ (sS i + 5) by unfold sS; omega), am_row_cp _ _ _ _ (show (z) < 9 by omega)]; exact (hNj.2.2.2.1 z hz)), fun z hz => (by rw [am_set_ne _ _ _ (show (sS i + 5) ≠ (sS i + 1) by unfold sS; omega), am_set_ne _ _ _ (show (sS i + 5) ≠ (sS i + 1) by unfold sS; omega), am_set_ne _ _ _ (show (sS i + 5) ≠ (sS i + 1) by unfold sS; omega), am_row_ne _ _ (show (sS i + 5) ≠ (sS i + 8) by unfold sS; omega), am_row_ne _ _ (show (sS i + 5) ≠ (sS i + 7) by unfold sS; omega), am_row_ne _ _ (show (sS i + 5) ≠ (sS i + 6) by unfold sS; omega), am_row_cp _ _ _ _ (show (z) < 16 by omega), am_row_ne _ _ (show (sS j + 5) ≠ (sS i + 4) by unfold sS; omega)]; exact (hNj.2.2.2.2.1 z hz)), fun z hz => (by rw [am_set_ne _ _ _ (show (sS i + 6) ≠ (sS i + 1) by unfold sS; omega), am_set_ne _ _ _ (show (sS i + 6) ≠ (sS i + 1) by unfold sS; omega), am_set_ne _ _ _ (show (sS i + 6) ≠ (sS i + 1) by unfold sS; omega), am_row_ne _ _ (show (sS i + 6) ≠ (sS i + 8) by unfold sS; omega), am_row_ne _ _ (show (sS i + 6) ≠ (sS i + 7) by unfold sS; omega), am_row_cp _ _ _ _ (show (z) < 16 by omega), am_row_ne _ _ (show (sS j + 6) ≠ (sS i + 5) by unfold sS; omega), am_row_ne _ _ (show (sS j + 6) ≠ (sS i + 4) by unfold sS; omega)]; exact (hNj.2.2.2.2.2.1 z hz)), fun z hz => (by rw [am_set_ne _ _ _ (show (sS i + 7) ≠ (sS i + 1) by unfold sS; omega), am_set_ne _ _ _ (show (sS i + 7) ≠ (sS i + 1) by unfold sS; omega), am_set_ne _ _ _ (show (sS i + 7) ≠ (sS i + 1) by unfold sS; omega), am_row_ne _ _ (show (sS i + 7) ≠ (sS i + 8) by unfold sS; omega), am_row_cp _ _ _ _ (show (z) < 16 by omega), am_row_ne _ _ (show (sS j + 7) ≠ (sS i + 6) by unfold sS; omega), am_row_ne _ _ (show (sS j + 7) ≠ (sS i + 5) by unfold sS; omega), am_row_ne _ _ (show (sS j + 7) ≠ (sS i + 4) by unfold sS; omega)]; exact (hNj.2.2.2.2.2.2.1 z hz)), fun z hz => (by rw [am_set_ne _ _ _ (show (sS i + 8) ≠ (sS i + 1) by unfold sS; omega), am_set_ne _ _ _ (show (sS i + 8) ≠ (sS i + 1) by unfold sS; omega), am_set_ne _ _ _ (show (sS i + 8) ≠ (sS i + 1) by unfold sS; omega), am_row_cp _ _ _ _ (show (z) < 16 by omega), am_row_ne _ _ (show (sS j + 8) ≠ (sS i + 7) by unfold sS; omega), am_row_ne _ _ (show (sS j + 8) ≠ (sS i + 6) by unfold sS; omega), am_row_ne _ _ (show (sS j + 8) ≠ (sS i + 5) by unfold sS; omega), am_row_ne _ _ (show (sS j + 8) ≠ (sS i + 4) by unfold sS; omega)]; exact (hNj.2.2.2.2.2.2.2 z hz))⟩, fun c q1 q2 => (by rw [am_set_ne _ _ _ (show c ≠ (sS i + 1) by unfold sS at *; omega), am_set_ne _ _ _ (show c ≠ (sS i + 1) by unfold sS at *; omega), am_set_ne _ _ _ (show c ≠ (sS i + 1) by unfold sS at *; omega), am_row_ne _ _ (show c ≠ (sS i + 8) by unfold sS at *; omega), am_row_ne _ _ (show c ≠ (sS i + 7) by unfold sS at *; omega), am_row_ne _ _ (show c ≠ (sS i + 6) by unfold sS at *; omega), am_row_ne _ _ (show c ≠ (sS i + 5) by unfold sS at *; omega), am_row_ne _ _ (show c ≠ (sS i + 4) by unfold sS at *; omega)])⟩) hr (Nat.zero_le _) (Nat.zero_le _) (am_at eX6_copyFrom 52 rfl)
/-! ===== the view of a Cast: started, data, blown, seed; running, parity; origin; what each field holds ===== -/
abbrev cT : Type := (Nat × Nat × Nat × Nat) × (Bool × Bool) × Int32 × (Nat → Nat)
def c_st (C : cT) : Nat := C.1.1
def c_da (C : cT) : Nat := C.1.2.1
def c_bl (C : cT) : Nat := C.1.2.2.1
def c_sd (C : cT) : Nat := C.1.2.2.2
def c_ru (C : cT) : Bool := C.2.1.1
def c_pa (C : cT) : Bool := C.2.1.2
def c_og (C : cT) : Int32 := C.2.2.1
def c_hd (C : cT) : Nat → Nat := C.2.2.2
def vC (V : am_V) (i : Nat) (C : cT) : Prop := V (sS i + 2) 1 = nI (c_st C) ∧ V (sS i + 2) 2 = bI (c_ru C) ∧ V (sS i + 2) 3 = c_og C ∧ V (sS i + 2) 4 = nI (c_da C) ∧ V (sS i + 2) 5 = bI (c_pa C) ∧ V (sS i + 2) 6 = nI (c_bl C) ∧ V (sS i + 2) 7 = nI (c_sd C) ∧ ∀ j, j < 9 → V (sS i + 9) j = nI (c_hd C j)
def wC (C : cT) : Prop := c_st C < 1073741824 ∧ c_da C ≤ 6 ∧ c_bl C ≤ 30 ∧ c_sd C < 512 ∧ ∀ j, j < 9 → c_hd C j < 128
def c_pk (C : cT) : Nat := if c_pa C = true then c_da C + 1 else c_da C
def c_cov (C : cT) (f : Nat) : Bool := decide (0 < c_st C) && decide (c_hd C f &&& (2 ^ c_da C - 1) = 2 ^ c_da C - 1)
theorem pow_le {a b : Nat} (h : a ≤ b) : 2 ^ a ≤ 2 ^ b := Nat.pow_le_pow_right (by omega) h
set_option maxHeartbeats 4000000 in
theorem kX1_packetTotal {U : am_U} {l : Launch} (B : am_base xx U) (hfl : l.stackTraces = false) {V : am_V} {i : Nat} (hi : i < 12) {Ci : cT} (hCi : vC V i Ci) (hwC : wC Ci) : am_Ct xx U l yX1_packetTotal cX1_packetTotal 1 (some .int) { frames := 0, cells := 0, slots := 0, locals := 0 } [.ref (sS i + 2)] V (am_is (.inl (some (.int (nI (c_pk Ci))))) V) := by
  refine am_Ct.of B hfl (by decide) (Nat.le_of_ble_eq_true rfl) ?_
  intro G hgl hgR hr ok h0 hex
  obtain ⟨hc1, hc2, hc3, hc4, hc5⟩ := id hwC
  have hp2 : 2 ^ c_da Ci ≤ 2 ^ 6 := pow_le hc2
  show AW xx U G 1 0 0 V _ 0 [some (.ref (sS i + 2))] []
  refine AW.run ok eX1_packetTotal 0 1 (show am_run 1 ((tX1_packetTotal.drop 0).take 1) 0 [some (.ref (sS i + 2))] [] = some (1, [some (.ref (sS i + 2))], [.ref (sS i + 2)]) from rfl) ?_
  refine AW.getI (x := bI (c_pa Ci)) ok gf_X1_29 (sh_S2 hi) rfl hCi.2.2.2.2.1 (am_at eX1_packetTotal 1 rfl) ?_
  refine AW.ifc ok 16 (am_at eX1_packetTotal 2 rfl) (by decide) (fun h1 => ?_) (fun h1 => ?_)
  · -- c_pa Ci = 0
    have h1 : c_pa Ci = false := bI_f h1
    refine AW.run ok eX1_packetTotal 8 1 (show am_run 1 ((tX1_packetTotal.drop 8).take 1) 16 [some (.ref (sS i + 2))] [] = some (17, [some (.ref (sS i + 2))], [.ref (sS i + 2)]) from rfl) ?_
    refine AW.getI (x := nI (c_da Ci)) ok gf_X1_26 (sh_S2 hi) rfl hCi.2.2.2.1 (am_at eX1_packetTotal 9 rfl) ?_
    exact AW.ri (by unfold c_pk; split <;> first | rfl | simp_all) rfl ok hr (rfl) (Nat.zero_le _) (Nat.zero_le _) (am_at eX1_packetTotal 10 rfl)
  · -- not c_pa Ci = 0
    have h1 : c_pa Ci = true := bI_t h1
    refine AW.run ok eX1_packetTotal 3 1 (show am_run 1 ((tX1_packetTotal.drop 3).take 1) 7 [some (.ref (sS i + 2))] [] = some (8, [some (.ref (sS i + 2))], [.ref (sS i + 2)]) from rfl) ?_
    refine AW.getI (x := nI (c_da Ci)) ok gf_X1_26 (sh_S2 hi) rfl hCi.2.2.2.1 (am_at eX1_packetTotal 4 rfl) ?_
    refine AW.run ok eX1_packetTotal 5 2 (show am_run 1 ((tX1_packetTotal.drop 5).take 2) 11 [some (.ref (sS i + 2))] [.int (nI (c_da Ci))] = some (13, [some (.ref (sS i + 2))], [.int (nI (c_da Ci) + nI (1))]) from rfl) ?_
    refine AW.top (show nI (c_da Ci) + nI (1) = nI ((c_da Ci) + 1) from nI_add _ _) ?_
    refine AW.run ok eX1_packetTotal 7 1 (show am_run 1 ((tX1_packetTotal.drop 7).take 1) 13 [some (.ref (sS i + 2))] [.int (nI ((c_da Ci) + 1))] = some (20, [some (.ref (sS i + 2))], [.int (nI ((c_da Ci) + 1))]) from rfl) ?_
    exact AW.ri (by unfold c_pk; split <;> first | rfl | simp_all) rfl ok hr (rfl) (Nat.zero_le _) (Nat.zero_le _) (am_at eX1_packetTotal 10 rfl)
set_option maxHeartbeats 4000000 in
theorem kX1_allPackets {U : am_U} {l : Launch} (B : am_base xx U) (hfl : l.stackTraces = false) {V : am_V} {i : Nat} (hi : i < 12) {Ci : cT} (hCi : vC V i Ci) (hwC : wC Ci) : am_Ct xx U l yX1_allPackets cX1_allPackets 1 (some .int) { frames := 1, cells := 0, slots := 0, locals := 20 } [.ref (sS i + 2)] V (am_is (.inl (some (.int (nI (2 ^ c_pk Ci - 1))))) V) := by
  refine am_Ct.of B hfl (by decide) (Nat.le_of_ble_eq_true rfl) ?_
  intro G hgl hgR hr ok h0 hex
  obtain ⟨hc1, hc2, hc3, hc4, hc5⟩ := id hwC
  have hp2 : 2 ^ c_da Ci ≤ 2 ^ 6 := pow_le hc2
  have hpk : c_pk Ci ≤ 7 := by unfold c_pk; split <;> omega
  show AW xx U G 1 0 0 V _ 0 [some (.ref (sS i + 2))] []
  refine AW.run ok eX1_allPackets 0 2 (show am_run 1 ((tX1_allPackets.drop 0).take 2) 0 [some (.ref (sS i + 2))] [] = some (2, [some (.ref (sS i + 2))], [.ref (sS i + 2), .int (nI (1))]) from rfl) ?_
  refine AW.cv1 (rm := { frames := 0, cells := 0, slots := 0, locals := 0 }) (st := [.int (nI (1))]) (As := []) ok (by rw [hgl]; exact kX1_packetTotal B hfl hi hCi hwC) cv_X1_38 (sh_S2 hi) (T := TX1) (N := 8) rfl rfl rfl (Nat.le_of_ble_eq_true rfl) (by rw [hgR]; exact ⟨Nat.le_of_ble_eq_true rfl, Nat.le_of_ble_eq_true rfl⟩) (by rw [hgR]; exact ⟨Nat.le_of_ble_eq_true rfl, Nat.le_of_ble_eq_true rfl⟩) (am_at eX1_allPackets 2 rfl) ?_
  refine AW.run ok eX1_allPackets 3 1 (show am_run 1 ((tX1_allPackets.drop 3).take 1) 5 [some (.ref (sS i + 2))] [.int (nI (c_pk Ci)), .int (nI (1))] = some (6, [some (.ref (sS i + 2))], [.int (nI (1) <<< (nI (c_pk Ci) &&& 31))]) from rfl) ?_
  refine AW.top (show nI (1) <<< (nI (c_pk Ci) &&& 31) = nI (2 ^ (c_pk Ci)) from i_shl1 (by omega)) ?_
  refine AW.run ok eX1_allPackets 4 2 (show am_run 1 ((tX1_allPackets.drop 4).take 2) 6 [some (.ref (sS i + 2))] [.int (nI (2 ^ (c_pk Ci)))] = some (8, [some (.ref (sS i + 2))], [.int (nI (2 ^ (c_pk Ci)) - nI (1))]) from rfl) ?_
  refine AW.top (show nI (2 ^ (c_pk Ci)) - nI (1) = nI (2 ^ (c_pk Ci) - 1) from i_sub Nat.one_le_two_pow) ?_
  exact AW.ri (by rfl) rfl ok hr (rfl) (Nat.zero_le _) (Nat.zero_le _) (am_at eX1_allPackets 6 rfl)
set_option maxHeartbeats 4000000 in
theorem kX1_covers {U : am_U} {l : Launch} (B : am_base xx U) (hfl : l.stackTraces = false) {V : am_V} {i : Nat} (hi : i < 12) {Ci : cT} (hCi : vC V i Ci) (hwC : wC Ci) {f : Nat} (hf : f < 9) : am_Ct xx U l yX1_covers cX1_covers 3 (some .boolean) { frames := 0, cells := 0, slots := 0, locals := 0 } [.ref (sS i + 2), .int (nI (f))] V (am_is (.inl (some (.int (bI (c_cov Ci f))))) V) := by
  refine am_Ct.of B hfl (by decide) (Nat.le_of_ble_eq_true rfl) ?_
  intro G hgl hgR hr ok h0 hex
  obtain ⟨hc1, hc2, hc3, hc4, hc5⟩ := id hwC
  have hp2 : 2 ^ c_da Ci ≤ 2 ^ 6 := pow_le hc2
  have h55 := hc5 f hf
  have h56 : c_hd Ci f &&& (2 ^ c_da Ci - 1) ≤ c_hd Ci f := Nat.and_le_left
  show AW xx U G 3 0 0 V _ 0 [some (.ref (sS i + 2)), some (.int (nI (f))), none] []
  refine AW.run ok eX1_covers 0 2 (show am_run 3 ((tX1_covers.drop 0).take 2) 0 [some (.ref (sS i + 2)), some (.int (nI (f))), none] [] = some (2, [some (.ref (sS i + 2)), some (.int (nI (f))), none], [.ref (sS i + 2), .int (nI (1))]) from rfl) ?_
  refine AW.getI (x := nI (c_da Ci)) ok gf_X1_26 (sh_S2 hi) rfl hCi.2.2.2.1 (am_at eX1_covers 2 rfl) ?_
  refine AW.run ok eX1_covers 3 1 (show am_run 3 ((tX1_covers.drop 3).take 1) 5 [some (.ref (sS i + 2)), some (.int (nI (f))), none] [.int (nI (c_da Ci)), .int (nI (1))] = some (6, [some (.ref (sS i + 2)), some (.int (nI (f))), none], [.int (nI (1) <<< (nI (c_da Ci) &&& 31))]) from rfl) ?_
  refine AW.top (show nI (1) <<< (nI (c_da Ci) &&& 31) = nI (2 ^ (c_da Ci)) from i_shl1 (by omega)) ?_
  refine AW.run ok eX1_covers 4 2 (show am_run 3 ((tX1_covers.drop 4).take 2) 6 [some (.ref (sS i + 2)), some (.int (nI (f))), none] [.int (nI (2 ^ (c_da Ci)))] = some (8, [some (.ref (sS i + 2)), some (.int (nI (f))), none], [.int (nI (2 ^ (c_da Ci)) - nI (1))]) from rfl) ?_
  refine AW.top (show nI (2 ^ (c_da Ci)) - nI (1) = nI (2 ^ (c_da Ci) - 1) from i_sub Nat.one_le_two_pow) ?_
  refine AW.run ok eX1_covers 6 2 (show am_run 3 ((tX1_covers.drop 6).take 2) 8 [some (.ref (sS i + 2)), some (.int (nI (f))), none] [.int (nI (2 ^ (c_da Ci) - 1))] = some (10, [some (.ref (sS i + 2)), some (.int (nI (f))), some (.int (nI (2 ^ (c_da Ci) - 1)))], [.ref (sS i + 2)]) from rfl) ?_
  refine AW.getI (x := nI (c_st Ci)) ok gf_X1_15 (sh_S2 hi) rfl hCi.1 (am_at eX1_covers 8 rfl) ?_
  refine AW.ifc ok 32 (am_at eX1_covers 9 rfl) (by decide) (fun h1 => ?_) (fun h1 => ?_)
  · -- c_st Ci ≤ 0
    have h1 : c_st Ci ≤ 0 := (i_le (a := c_st Ci) (b := 0) (by omega) (by omega)).mp h1
    refine AW.run ok eX1_covers 20 1 (show am_run 3 ((tX1_covers.drop 20).take 1) 32 [some (.ref (sS i + 2)), some (.int (nI (f))), some (.int (nI (2 ^ (c_da Ci) - 1)))] [] = some (33, [some (.ref (sS i + 2)), some (.int (nI (f))), some (.int (nI (2 ^ (c_da Ci) - 1)))], [.int (nI (0))]) from rfl) ?_
    exact AW.ri (by have hq : c_cov Ci f = false := (by rw [c_cov]; first | (rw [decide_eq_false (p := 0 < c_st Ci) (by omega)]; rfl) | (rw [decide_eq_false (p := c_hd Ci f &&& (2 ^ c_da Ci - 1) = 2 ^ c_da Ci - 1) (by omega), Bool.and_false])); rw [hq]; rfl) rfl ok hr rfl (Nat.zero_le _) (Nat.zero_le _) (am_at eX1_covers 21 rfl)
  · -- not c_st Ci ≤ 0
    have h1 : ¬ c_st Ci ≤ 0 := fun z => h1 ((i_le (a := c_st Ci) (b := 0) (by omega) (by omega)).mpr z)
    refine AW.run ok eX1_covers 10 1 (show am_run 3 ((tX1_covers.drop 10).take 1) 16 [some (.ref (sS i + 2)), some (.int (nI (f))), some (.int (nI (2 ^ (c_da Ci) - 1)))] [] = some (17, [some (.ref (sS i + 2)), some (.int (nI (f))), some (.int (nI (2 ^ (c_da Ci) - 1)))], [.ref (sS i + 2)]) from rfl) ?_
    refine AW.getR ok gf_X1_9 (sh_S2 hi) rfl (am_at eX1_covers 11 rfl) ?_
    refine AW.run ok eX1_covers 12 1 (show am_run 3 ((tX1_covers.drop 12).take 1) 20 [some (.ref (sS i + 2)), some (.int (nI (f))), some (.int (nI (2 ^ (c_da Ci) - 1)))] [.ref (sS i + 9)] = some (21, [some (.ref (sS i + 2)), some (.int (nI (f))), some (.int (nI (2 ^ (c_da Ci) - 1)))], [.int (nI (f)), .ref (sS i + 9)]) from rfl) ?_
    refine AW.aldI (x := nI (c_hd Ci (f))) ok (sh_S9 hi) (by omega : (f) < 9) (by decide) (hCi.2.2.2.2.2.2.2 _ (by omega : (f) < 9)) (am_at eX1_covers 13 rfl) ?_
    refine AW.run ok eX1_covers 14 2 (show am_run 3 ((tX1_covers.drop 14).take 2) 22 [some (.ref (sS i + 2)), some (.int (nI (f))), some (.int (nI (2 ^ (c_da Ci) - 1)))] [.int (nI (c_hd Ci (f)))] = some (24, [some (.ref (sS i + 2)), some (.int (nI (f))), some (.int (nI (2 ^ (c_da Ci) - 1)))], [.int (nI (c_hd Ci (f)) &&& nI (2 ^ (c_da Ci) - 1))]) from rfl) ?_
    refine AW.top (show nI (c_hd Ci (f)) &&& nI (2 ^ (c_da Ci) - 1) = nI ((c_hd Ci (f)) &&& (2 ^ (c_da Ci) - 1)) from i_and _ _) ?_
    refine AW.run ok eX1_covers 16 1 (show am_run 3 ((tX1_covers.drop 16).take 1) 24 [some (.ref (sS i + 2)), some (.int (nI (f))), some (.int (nI (2 ^ (c_da Ci) - 1)))] [.int (nI ((c_hd Ci (f)) &&& (2 ^ (c_da Ci) - 1)))] = some (25, [some (.ref (sS i + 2)), some (.int (nI (f))), some (.int (nI (2 ^ (c_da Ci) - 1)))], [.int (nI (2 ^ (c_da Ci) - 1)), .int (nI ((c_hd Ci (f)) &&& (2 ^ (c_da Ci) - 1)))]) from rfl) ?_
    refine AW.icmp ok 32 (am_at eX1_covers 17 rfl) (by decide) (fun h2 => ?_) (fun h2 => ?_)
    · -- (c_hd Ci (f)) &&& (2 ^ (c_da Ci) - 1) ≠ 2 ^ (c_da Ci) - 1
      have h2 : ¬ (c_hd Ci (f)) &&& (2 ^ (c_da Ci) - 1) = 2 ^ (c_da Ci) - 1 := fun z => h2 ((i_eq (a := (c_hd Ci (f)) &&& (2 ^ (c_da Ci) - 1)) (b := 2 ^ (c_da Ci) - 1) (by omega) (by omega)).mpr z)
      refine AW.run ok eX1_covers 20 1 (show am_run 3 ((tX1_covers.drop 20).take 1) 32 [some (.ref (sS i + 2)), some (.int (nI (f))), some (.int (nI (2 ^ (c_da Ci) - 1)))] [] = some (33, [some (.ref (sS i + 2)), some (.int (nI (f))), some (.int (nI (2 ^ (c_da Ci) - 1)))], [.int (nI (0))]) from rfl) ?_
      exact AW.ri (by have hq : c_cov Ci f = false := (by rw [c_cov]; first | (rw [decide_eq_false (p := 0 < c_st Ci) (by omega)]; rfl) | (rw [decide_eq_false (p := c_hd Ci f &&& (2 ^ c_da Ci - 1) = 2 ^ c_da Ci - 1) (by omega), Bool.and_false])); rw [hq]; rfl) rfl ok hr rfl (Nat.zero_le _) (Nat.zero_le _) (am_at eX1_covers 21 rfl)
    · -- not (c_hd Ci (f)) &&& (2 ^ (c_da Ci) - 1) ≠ 2 ^ (c_da Ci) - 1
      have h2 : (c_hd Ci (f)) &&& (2 ^ (c_da Ci) - 1) = 2 ^ (c_da Ci) - 1 := (i_eq (a := (c_hd Ci (f)) &&& (2 ^ (c_da Ci) - 1)) (b := 2 ^ (c_da Ci) - 1) (by omega) (by omega)).mp (Classical.not_not.mp h2)
      refine AW.run ok eX1_covers 18 2 (show am_run 3 ((tX1_covers.drop 18).take 2) 28 [some (.ref (sS i + 2)), some (.int (nI (f))), some (.int (nI (2 ^ (c_da Ci) - 1)))] [] = some (33, [some (.ref (sS i + 2)), some (.int (nI (f))), some (.int (nI (2 ^ (c_da Ci) - 1)))], [.int (nI (1))]) from rfl) ?_
      exact AW.ri (by have hq : c_cov Ci f = true := (by rw [c_cov, decide_eq_true (by omega), decide_eq_true (by omega)]; rfl); rw [hq]; rfl) rfl ok hr rfl (Nat.zero_le _) (Nat.zero_le _) (am_at eX1_covers 21 rfl)
def pC (V : am_V) (i : Nat) (C : cT) : am_P := fun x W => x = .inl none ∧ vC W i C ∧ ∀ c, c ≠ sS i + 2 → c ≠ sS i + 9 → W c = V c
set_option maxHeartbeats 4000000 in
theorem kX1_copyFrom {U : am_U} {l : Launch} (B : am_base xx U) (hfl : l.stackTraces = false) {V : am_V} {i j : Nat} (hi : i < 12) (hj : j < 12) (hij : i ≠ j) {Cj : cT} (hCj : vC V j Cj) : am_Ct xx U l yX1_copyFrom cX1_copyFrom 2 none { frames := 2, cells := 0, slots := 0, locals := 60 } [.ref (sS i + 2), .ref (sS j + 2)] V (pC V i Cj) := by
  refine am_Ct.of B hfl (by decide) (Nat.le_of_ble_eq_true rfl) ?_
  intro G hgl hgR hr ok h0 hex
  show AW xx U G 2 0 0 V _ 0 [some (.ref (sS i + 2)), some (.ref (sS j + 2))] []
  refine AW.run ok eX1_copyFrom 0 1 (show am_run 2 ((tX1_copyFrom.drop 0).take 1) 0 [some (.ref (sS i + 2)), some (.ref (sS j + 2))] [] = some (1, [some (.ref (sS i + 2)), some (.ref (sS j + 2))], [.ref (sS j + 2)]) from rfl) ?_
  refine AW.getR ok gf_X1_9 (sh_S2 hj) rfl (am_at eX1_copyFrom 1 rfl) ?_
  refine AW.run ok eX1_copyFrom 2 2 (show am_run 2 ((tX1_copyFrom.drop 2).take 2) 4 [some (.ref (sS i + 2)), some (.ref (sS j + 2))] [.ref (sS j + 9)] = some (6, [some (.ref (sS i + 2)), some (.ref (sS j + 2))], [.ref (sS i + 2), .int (nI (0)), .ref (sS j + 9)]) from rfl) ?_
  refine AW.getR ok gf_X1_9 (sh_S2 hi) rfl (am_at eX1_copyFrom 4 rfl) ?_
  refine AW.run ok eX1_copyFrom 5 2 (show am_run 2 ((tX1_copyFrom.drop 5).take 2) 9 [some (.ref (sS i + 2)), some (.ref (sS j + 2))] [.ref (sS i + 9), .int (nI (0)), .ref (sS j + 9)] = some (12, [some (.ref (sS i + 2)), some (.ref (sS j + 2))], [.int (nI (9)), .int (nI (0)), .ref (sS i + 9), .int (nI (0)), .ref (sS j + 9)]) from rfl) ?_
  refine AW.cpy (c0 := sS j + 9) (c1 := sS i + 9) (n := 9) (st := []) ok ac_X1_42 (sh_S9 hj) (sh_S9 hi) (wr_S (i := i) (k := 9) hi (by omega)) (by decide) (by decide) (by decide) (by rw [hgR]; exact Nat.le_of_ble_eq_true rfl) (by rw [hgR]; exact Nat.le_of_ble_eq_true rfl) (am_at eX1_copyFrom 7 rfl) ?_
  refine AW.run ok eX1_copyFrom 8 2 (show am_run 2 ((tX1_copyFrom.drop 8).take 2) 15 [some (.ref (sS i + 2)), some (.ref (sS j + 2))] [] = some (17, [some (.ref (sS i + 2)), some (.ref (sS j + 2))], [.ref (sS j + 2), .ref (sS i + 2)]) from rfl) ?_
  refine AW.getI (x := nI (c_st Cj)) ok gf_X1_15 (sh_S2 hj) rfl (by rw [am_row_ne _ _ (show (sS j + 2) ≠ (sS i + 9) by unfold sS; omega)]; exact hCj.1) (am_at eX1_copyFrom 10 rfl) ?_
  refine AW.putI ok pf_X1_15 (sh_S2 hi) (wr_S (i := i) (k := 2) hi (by omega)) rfl ⟨rfl, rfl⟩ (am_at eX1_copyFrom 11 rfl) ?_
  refine AW.run ok eX1_copyFrom 12 2 (show am_run 2 ((tX1_copyFrom.drop 12).take 2) 23 [some (.ref (sS i + 2)), some (.ref (sS j + 2))] [] = some (25, [some (.ref (sS i + 2)), some (.ref (sS j + 2))], [.ref (sS j + 2), .ref (sS i + 2)]) from rfl) ?_
  refine AW.getI (x := bI (c_ru Cj)) ok gf_X1_19 (sh_S2 hj) rfl (by rw [am_set_ne _ _ _ (show (sS j + 2) ≠ (sS i + 2) by unfold sS; omega), am_row_ne _ _ (show (sS j + 2) ≠ (sS i + 9) by unfold sS; omega)]; exact hCj.2.1) (am_at eX1_copyFrom 14 rfl) ?_
  refine AW.putI ok pf_X1_19 (sh_S2 hi) (wr_S (i := i) (k := 2) hi (by omega)) rfl (nb_b _) (am_at eX1_copyFrom 15 rfl) ?_
  refine AW.run ok eX1_copyFrom 16 2 (show am_run 2 ((tX1_copyFrom.drop 16).take 2) 31 [some (.ref (sS i + 2)), some (.ref (sS j + 2))] [] = some (33, [some (.ref (sS i + 2)), some (.ref (sS j + 2))], [.ref (sS j + 2), .ref (sS i + 2)]) from rfl) ?_
  refine AW.getI (x := c_og Cj) ok gf_X1_23 (sh_S2 hj) rfl (by rw [am_set_ne _ _ _ (show (sS j + 2) ≠ (sS i + 2) by unfold sS; omega), am_set_ne _ _ _ (show (sS j + 2) ≠ (sS i + 2) by unfold sS; omega), am_row_ne _ _ (show (sS j + 2) ≠ (sS i + 9) by unfold sS; omega)]; exact hCj.2.2.1) (am_at eX1_copyFrom 18 rfl) ?_
  refine AW.putI ok pf_X1_23 (sh_S2 hi) (wr_S (i := i) (k := 2) hi (by omega)) rfl ⟨rfl, rfl⟩ (am_at eX1_copyFrom 19 rfl) ?_
  refine AW.run ok eX1_copyFrom 20 2 (show am_run 2 ((tX1_copyFrom.drop 20).take 2) 39 [some (.ref (sS i + 2)), some (.ref (sS j + 2))] [] = some (41, [some (.ref (sS i + 2)), some (.ref (sS j + 2))], [.ref (sS j + 2), .ref (sS i + 2)]) from rfl) ?_
  refine AW.getI (x := nI (c_da Cj)) ok gf_X1_26 (sh_S2 hj) rfl (by rw [am_set_ne _ _ _ (show (sS j + 2) ≠ (sS i + 2) by unfold sS; omega), am_set_ne _ _ _ (show (sS j + 2) ≠ (sS i + 2) by unfold sS; omega), am_set_ne _ _ _ (show (sS j + 2) ≠ (sS i + 2) by unfold sS; omega), am_row_ne _ _ (show (sS j + 2) ≠ (sS i + 9) by unfold sS; omega)]; exact hCj.2.2.2.1) (am_at eX1_copyFrom 22 rfl) ?_
  refine AW.putI ok pf_X1_26 (sh_S2 hi) (wr_S (i := i) (k := 2) hi (by omega)) rfl ⟨rfl, rfl⟩ (am_at eX1_copyFrom 23 rfl) ?_
  refine AW.run ok eX1_copyFrom 24 2 (show am_run 2 ((tX1_copyFrom.drop 24).take 2) 47 [some (.ref (sS i + 2)), some (.ref (sS j + 2))] [] = some (49, [some (.ref (sS i + 2)), some (.ref (sS j + 2))], [.ref (sS j + 2), .ref (sS i + 2)]) from rfl) ?_
  refine AW.getI (x := bI (c_pa Cj)) ok gf_X1_29 (sh_S2 hj) rfl (by rw [am_set_ne _ _ _ (show (sS j + 2) ≠ (sS i + 2) by unfold sS; omega), am_set_ne _ _ _ (show (sS j + 2) ≠ (sS i + 2) by unfold sS; omega), am_set_ne _ _ _ (show (sS j + 2) ≠ (sS i + 2) by unfold sS; omega), am_set_ne _ _ _ (show (sS j + 2) ≠ (sS i + 2) by unfold sS; omega), am_row_ne _ _ (show (sS j + 2) ≠ (sS i + 9) by unfold sS; omega)]; exact hCj.2.2.2.2.1) (am_at eX1_copyFrom 26 rfl) ?_
  refine AW.putI ok pf_X1_29 (sh_S2 hi) (wr_S (i := i) (k := 2) hi (by omega)) rfl (nb_b _) (am_at eX1_copyFrom 27 rfl) ?_
  refine AW.run ok eX1_copyFrom 28 2 (show am_run 2 ((tX1_copyFrom.drop 28).take 2) 55 [some (.ref (sS i + 2)), some (.ref (sS j + 2))] [] = some (57, [some (.ref (sS i + 2)), some (.ref (sS j + 2))], [.ref (sS j + 2), .ref (sS i + 2)]) from rfl) ?_
  refine AW.getI (x := nI (c_bl Cj)) ok gf_X1_32 (sh_S2 hj) rfl (by rw [am_set_ne _ _ _ (show (sS j + 2) ≠ (sS i + 2) by unfold sS; omega), am_set_ne _ _ _ (show (sS j + 2) ≠ (sS i + 2) by unfold sS; omega), am_set_ne _ _ _ (show (sS j + 2) ≠ (sS i + 2) by unfold sS; omega), am_set_ne _ _ _ (show (sS j + 2) ≠ (sS i + 2) by unfold sS; omega), am_set_ne _ _ _ (show (sS j + 2) ≠ (sS i + 2) by unfold sS; omega), am_row_ne _ _ (show (sS j + 2) ≠ (sS i + 9) by unfold sS; omega)]; exact hCj.2.2.2.2.2.1) (am_at eX1_copyFrom 30 rfl) ?_
  refine AW.putI ok pf_X1_32 (sh_S2 hi) (wr_S (i := i) (k := 2) hi (by omega)) rfl ⟨rfl, rfl⟩ (am_at eX1_copyFrom 31 rfl) ?_
  refine AW.run ok eX1_copyFrom 32 2 (show am_run 2 ((tX1_copyFrom.drop 32).take 2) 63 [some (.ref (sS i + 2)), some (.ref (sS j + 2))] [] = some (65, [some (.ref (sS i + 2)), some (.ref (sS j + 2))], [.ref (sS j + 2), .ref (sS i + 2)]) from rfl) ?_
  refine AW.getI (x := nI (c_sd Cj)) ok gf_X1_35 (sh_S2 hj) rfl (by rw [am_set_ne _ _ _ (show (sS j + 2) ≠ (sS i + 2) by unfold sS; omega), am_set_ne _ _ _ (show (sS j + 2) ≠ (sS i + 2) by unfold sS; omega), am_set_ne _ _ _ (show (sS j + 2) ≠ (sS i + 2) by unfold sS; omega), am_set_ne _ _ _ (show (sS j + 2) ≠ (sS i + 2) by unfold sS; omega), am_set_ne _ _ _ (show (sS j + 2) ≠ (sS i + 2) by unfold sS; omega), am_set_ne _ _ _ (show (sS j + 2) ≠ (sS i + 2) by unfold sS; omega), am_row_ne _ _ (show (sS j + 2) ≠ (sS i + 9) by unfold sS; omega)]; exact hCj.2.2.2.2.2.2.1) (am_at eX1_copyFrom 34 rfl) ?_
  refine AW.putI ok pf_X1_35 (sh_S2 hi) (wr_S (i := i) (k := 2) hi (by omega)) rfl ⟨rfl, rfl⟩ (am_at eX1_copyFrom 35 rfl) ?_
  exact AW.vret ok (⟨rfl, ⟨(by rw [am_set_nk _ _ _ (show (1) ≠ (7) by omega), am_set_nk _ _ _ (show (1) ≠ (6) by omega), am_set_nk _ _ _ (show (1) ≠ (5) by omega), am_set_nk _ _ _ (show (1) ≠ (4) by omega), am_set_nk _ _ _ (show (1) ≠ (3) by omega), am_set_nk _ _ _ (show (1) ≠ (2) by omega), am_set_eq]), (by rw [am_set_nk _ _ _ (show (2) ≠ (7) by omega), am_set_nk _ _ _ (show (2) ≠ (6) by omega), am_set_nk _ _ _ (show (2) ≠ (5) by omega), am_set_nk _ _ _ (show (2) ≠ (4) by omega), am_set_nk _ _ _ (show (2) ≠ (3) by omega), am_set_eq]), (by rw [am_set_nk _ _ _ (show (3) ≠ (7) by omega), am_set_nk _ _ _ (show (3) ≠ (6) by omega), am_set_nk _ _ _ (show (3) ≠ (5) by omega), am_set_nk _ _ _ (show (3) ≠ (4) by omega), am_set_eq]), (by rw [am_set_nk _ _ _ (show (4) ≠ (7) by omega), am_set_nk _ _ _ (show (4) ≠ (6) by omega), am_set_nk _ _ _ (show (4) ≠ (5) by omega), am_set_eq]), (by rw [am_set_nk _ _ _ (show (5) ≠ (7) by omega), am_set_nk _ _ _ (show (5) ≠ (6) by omega), am_set_eq]), (by rw [am_set_nk _ _ _ (show (6) ≠ (7) by omega), am_set_eq]), (by rw [am_set_eq]), fun z hz => (by rw [am_set_ne _ _ _ (show (sS i + 9) ≠ (sS i + 2) by unfold sS; omega), am_set_ne _ _ _ (show (sS i + 9) ≠ (sS i + 2) by unfold sS; omega), am_set_ne _ _ _ (show (sS i + 9) ≠ (sS i + 2) by unfold sS; omega), am_set_ne _ _ _ (show (sS i + 9) ≠ (sS i + 2) by unfold sS; omega), am_set_ne _ _ _ (show (sS i + 9) ≠ (sS i + 2) by unfold sS; omega), am_set_ne _ _ _ (show (sS i + 9) ≠ (sS i + 2) by unfold sS; omega), am_set_ne _ _ _ (show (sS i + 9) ≠ (sS i + 2) by unfold sS; omega), am_row_cp _ _ _ _ (show (z) < 9 by omega)]; exact (hCj.2.2.2.2.2.2.2 z hz))⟩, fun c q1 q2 => (by rw [am_set_ne _ _ _ (show c ≠ (sS i + 2) by unfold sS at *; omega), am_set_ne _ _ _ (show c ≠ (sS i + 2) by unfold sS at *; omega), am_set_ne _ _ _ (show c ≠ (sS i + 2) by unfold sS at *; omega), am_set_ne _ _ _ (show c ≠ (sS i + 2) by unfold sS at *; omega), am_set_ne _ _ _ (show c ≠ (sS i + 2) by unfold sS at *; omega), am_set_ne _ _ _ (show c ≠ (sS i + 2) by unfold sS at *; omega), am_set_ne _ _ _ (show c ≠ (sS i + 2) by unfold sS at *; omega), am_row_ne _ _ (show c ≠ (sS i + 9) by unfold sS at *; omega)])⟩) hr (Nat.zero_le _) (Nat.zero_le _) (am_at eX1_copyFrom 36 rfl)
/-! ===== a State's own cells: uses; sent, lost, rebuilt, spent, finished, failed ===== -/
abbrev aT : Type := (Nat → Nat) × (Nat × Nat × Nat) × (Nat × Nat × Nat)
def a_us (A : aT) : Nat → Nat := A.1
def a_se (A : aT) : Nat := A.2.1.1
def a_lo (A : aT) : Nat := A.2.1.2.1
def a_re (A : aT) : Nat := A.2.1.2.2
def a_sp (A : aT) : Nat := A.2.2.1
def a_fi (A : aT) : Nat := A.2.2.2.1
def a_fa (A : aT) : Nat := A.2.2.2.2
def vA (V : am_V) (i : Nat) (A : aT) : Prop := V (sS i) 3 = nI (a_se A) ∧ V (sS i) 4 = nI (a_lo A) ∧ V (sS i) 5 = nI (a_re A) ∧ V (sS i) 6 = nI (a_sp A) ∧ V (sS i) 7 = nI (a_fi A) ∧ V (sS i) 8 = nI (a_fa A) ∧ ∀ j, j < 16 → V (sS i + 3) j = nI (a_us A j)
def vS (V : am_V) (i : Nat) (N : nT) (C : cT) (A : aT) : Prop := vN V i N ∧ vC V i C ∧ vA V i A
theorem vN_of {V W : am_V} {i : Nat} {N : nT} (h1 : W (sS i + 1) = V (sS i + 1)) (h4 : W (sS i + 4) = V (sS i + 4)) (h5 : W (sS i + 5) = V (sS i + 5)) (h6 : W (sS i + 6) = V (sS i + 6)) (h7 : W (sS i + 7) = V (sS i + 7)) (h8 : W (sS i + 8) = V (sS i + 8)) (h : vN V i N) : vN W i N := by
  unfold vN at h ⊢
  rw [h1, h4, h5, h6, h7, h8]
  exact h
theorem vC_of {V W : am_V} {i : Nat} {C : cT} (h1 : W (sS i + 2) = V (sS i + 2)) (h2 : W (sS i + 9) = V (sS i + 9)) (h : vC V i C) : vC W i C := by
  unfold vC at h ⊢
  rw [h1, h2]
  exact h
theorem vA_of {V W : am_V} {i : Nat} {A : aT} (h1 : W (sS i) = V (sS i)) (h2 : W (sS i + 3) = V (sS i + 3)) (h : vA V i A) : vA W i A := by
  unfold vA at h ⊢
  rw [h1, h2]
  exact h
def pS (V : am_V) (i : Nat) (N : nT) (C : cT) (A : aT) : am_P := fun x W => x = .inl none ∧ vS W i N C A ∧ ∀ c, (c < sS i ∨ sS i + 9 < c) → W c = V c
set_option maxHeartbeats 4000000 in
theorem kX8_copyFrom {U : am_U} {l : Launch} (B : am_base xx U) (hfl : l.stackTraces = false) {V : am_V} {i j : Nat} (hi : i < 12) (hj : j < 12) (hij : i ≠ j) {Nj : nT} {Cj : cT} {Aj : aT} (hNj : vN V j Nj) (hCj : vC V j Cj) (hAj : vA V j Aj) : am_Ct xx U l yX8_copyFrom cX8_copyFrom 2 none { frames := 3, cells := 0, slots := 0, locals := 81 } [.ref (sS i), .ref (sS j)] V (pS V i Nj Cj Aj) := by
  refine am_Ct.of B hfl (by decide) (Nat.le_of_ble_eq_true rfl) ?_
  intro G hgl hgR hr ok h0 hex
  show AW xx U G 2 0 0 V _ 0 [some (.ref (sS i)), some (.ref (sS j))] []
  refine AW.run ok eX8_copyFrom 0 1 (show am_run 2 ((tX8_copyFrom.drop 0).take 1) 0 [some (.ref (sS i)), some (.ref (sS j))] [] = some (1, [some (.ref (sS i)), some (.ref (sS j))], [.ref (sS i)]) from rfl) ?_
  refine AW.getR ok gf_X8_12 (sh_S0 hi) rfl (am_at eX8_copyFrom 1 rfl) ?_
  refine AW.run ok eX8_copyFrom 2 1 (show am_run 2 ((tX8_copyFrom.drop 2).take 1) 4 [some (.ref (sS i)), some (.ref (sS j))] [.ref (sS i + 1)] = some (5, [some (.ref (sS i)), some (.ref (sS j))], [.ref (sS j), .ref (sS i + 1)]) from rfl) ?_
  refine AW.getR ok gf_X8_12 (sh_S0 hj) rfl (am_at eX8_copyFrom 3 rfl) ?_
  refine AW.cvP (rm := { frames := 2, cells := 0, slots := 0, locals := 60 }) (st := []) (As := [.ref (sS j + 1)]) ok (by rw [hgl]; exact kX6_copyFrom B hfl hi hj hij hNj) cv_X8_76 (sh_S1 hi) (T := TX6) (N := 8) rfl rfl rfl (Nat.le_of_ble_eq_true rfl) (by rw [hgR]; exact ⟨Nat.le_of_ble_eq_true rfl, Nat.le_of_ble_eq_true rfl⟩) (by rw [hgR]; exact ⟨Nat.le_of_ble_eq_true rfl, Nat.le_of_ble_eq_true rfl⟩) (am_at eX8_copyFrom 4 rfl) (fun E9 W9 h9 => by cases h9.1) (fun r9 W1 hW1 => ?_)
  obtain ⟨e9, hW1⟩ := hW1
  cases e9
  have hNi := hW1.1
  have hCj : vC W1 j Cj := vC_of (hW1.2 _ (by unfold sS; omega) (by unfold sS; omega)) (hW1.2 _ (by unfold sS; omega) (by unfold sS; omega)) hCj
  have hAj : vA W1 j Aj := vA_of (hW1.2 _ (by unfold sS; omega) (by unfold sS; omega)) (hW1.2 _ (by unfold sS; omega) (by unfold sS; omega)) hAj
  refine AW.run ok eX8_copyFrom 5 1 (show am_run 2 ((tX8_copyFrom.drop 5).take 1) 11 [some (.ref (sS i)), some (.ref (sS j))] [] = some (12, [some (.ref (sS i)), some (.ref (sS j))], [.ref (sS i)]) from rfl) ?_
  refine AW.getR ok gf_X8_21 (sh_S0 hi) rfl (am_at eX8_copyFrom 6 rfl) ?_
  refine AW.run ok eX8_copyFrom 7 1 (show am_run 2 ((tX8_copyFrom.drop 7).take 1) 15 [some (.ref (sS i)), some (.ref (sS j))] [.ref (sS i + 2)] = some (16, [some (.ref (sS i)), some (.ref (sS j))], [.ref (sS j), .ref (sS i + 2)]) from rfl) ?_
  refine AW.getR ok gf_X8_21 (sh_S0 hj) rfl (am_at eX8_copyFrom 8 rfl) ?_
  refine AW.cvP (rm := { frames := 2, cells := 0, slots := 0, locals := 60 }) (st := []) (As := [.ref (sS j + 2)]) ok (by rw [hgl]; exact kX1_copyFrom B hfl hi hj hij hCj) cv_X8_80 (sh_S2 hi) (T := TX1) (N := 8) rfl rfl rfl (Nat.le_of_ble_eq_true rfl) (by rw [hgR]; exact ⟨Nat.le_of_ble_eq_true rfl, Nat.le_of_ble_eq_true rfl⟩) (by rw [hgR]; exact ⟨Nat.le_of_ble_eq_true rfl, Nat.le_of_ble_eq_true rfl⟩) (am_at eX8_copyFrom 9 rfl) (fun E9 W9 h9 => by cases h9.1) (fun r9 W2 hW2 => ?_)
  obtain ⟨e9, hW2⟩ := hW2
  cases e9
  have hNi := vN_of (hW2.2 _ (by unfold sS; omega) (by unfold sS; omega)) (hW2.2 _ (by unfold sS; omega) (by unfold sS; omega)) (hW2.2 _ (by unfold sS; omega) (by unfold sS; omega)) (hW2.2 _ (by unfold sS; omega) (by unfold sS; omega)) (hW2.2 _ (by unfold sS; omega) (by unfold sS; omega)) (hW2.2 _ (by unfold sS; omega) (by unfold sS; omega)) hNi
  have hCi := hW2.1
  have hAj : vA W2 j Aj := vA_of (hW2.2 _ (by unfold sS; omega) (by unfold sS; omega)) (hW2.2 _ (by unfold sS; omega) (by unfold sS; omega)) hAj
  refine AW.run ok eX8_copyFrom 10 1 (show am_run 2 ((tX8_copyFrom.drop 10).take 1) 22 [some (.ref (sS i)), some (.ref (sS j))] [] = some (23, [some (.ref (sS i)), some (.ref (sS j))], [.ref (sS j)]) from rfl) ?_
  refine AW.getR ok gf_X8_25 (sh_S0 hj) rfl (am_at eX8_copyFrom 11 rfl) ?_
  refine AW.run ok eX8_copyFrom 12 2 (show am_run 2 ((tX8_copyFrom.drop 12).take 2) 26 [some (.ref (sS i)), some (.ref (sS j))] [.ref (sS j + 3)] = some (28, [some (.ref (sS i)), some (.ref (sS j))], [.ref (sS i), .int (nI (0)), .ref (sS j + 3)]) from rfl) ?_
  refine AW.getR ok gf_X8_25 (sh_S0 hi) rfl (am_at eX8_copyFrom 14 rfl) ?_
  refine AW.run ok eX8_copyFrom 15 2 (show am_run 2 ((tX8_copyFrom.drop 15).take 2) 31 [some (.ref (sS i)), some (.ref (sS j))] [.ref (sS i + 3), .int (nI (0)), .ref (sS j + 3)] = some (34, [some (.ref (sS i)), some (.ref (sS j))], [.int (nI (16)), .int (nI (0)), .ref (sS i + 3), .int (nI (0)), .ref (sS j + 3)]) from rfl) ?_
  refine AW.cpy (c0 := sS j + 3) (c1 := sS i + 3) (n := 16) (st := []) ok ac_X8_83 (sh_S3 hj) (sh_S3 hi) (wr_S (i := i) (k := 3) hi (by omega)) (by decide) (by decide) (by decide) (by rw [hgR]; exact Nat.le_of_ble_eq_true rfl) (by rw [hgR]; exact Nat.le_of_ble_eq_true rfl) (am_at eX8_copyFrom 17 rfl) ?_
  refine AW.run ok eX8_copyFrom 18 2 (show am_run 2 ((tX8_copyFrom.drop 18).take 2) 37 [some (.ref (sS i)), some (.ref (sS j))] [] = some (39, [some (.ref (sS i)), some (.ref (sS j))], [.ref (sS j), .ref (sS i)]) from rfl) ?_
  refine AW.getI (x := nI (a_se Aj)) ok gf_X8_29 (sh_S0 hj) rfl (by rw [am_row_ne _ _ (show (sS j) ≠ (sS i + 3) by unfold sS; omega)]; exact hAj.1) (am_at eX8_copyFrom 20 rfl) ?_
  refine AW.putI ok pf_X8_29 (sh_S0 hi) (wr_S (i := i) (k := 0) hi (by omega)) rfl ⟨rfl, rfl⟩ (am_at eX8_copyFrom 21 rfl) ?_
  refine AW.run ok eX8_copyFrom 22 2 (show am_run 2 ((tX8_copyFrom.drop 22).take 2) 45 [some (.ref (sS i)), some (.ref (sS j))] [] = some (47, [some (.ref (sS i)), some (.ref (sS j))], [.ref (sS j), .ref (sS i)]) from rfl) ?_
  refine AW.getI (x := nI (a_lo Aj)) ok gf_X8_33 (sh_S0 hj) rfl (by rw [am_set_ne _ _ _ (show (sS j) ≠ (sS i) by unfold sS; omega), am_row_ne _ _ (show (sS j) ≠ (sS i + 3) by unfold sS; omega)]; exact hAj.2.1) (am_at eX8_copyFrom 24 rfl) ?_
  refine AW.putI ok pf_X8_33 (sh_S0 hi) (wr_S (i := i) (k := 0) hi (by omega)) rfl ⟨rfl, rfl⟩ (am_at eX8_copyFrom 25 rfl) ?_
  refine AW.run ok eX8_copyFrom 26 2 (show am_run 2 ((tX8_copyFrom.drop 26).take 2) 53 [some (.ref (sS i)), some (.ref (sS j))] [] = some (55, [some (.ref (sS i)), some (.ref (sS j))], [.ref (sS j), .ref (sS i)]) from rfl) ?_
  refine AW.getI (x := nI (a_re Aj)) ok gf_X8_36 (sh_S0 hj) rfl (by rw [am_set_ne _ _ _ (show (sS j) ≠ (sS i) by unfold sS; omega), am_set_ne _ _ _ (show (sS j) ≠ (sS i) by unfold sS; omega), am_row_ne _ _ (show (sS j) ≠ (sS i + 3) by unfold sS; omega)]; exact hAj.2.2.1) (am_at eX8_copyFrom 28 rfl) ?_
  refine AW.putI ok pf_X8_36 (sh_S0 hi) (wr_S (i := i) (k := 0) hi (by omega)) rfl ⟨rfl, rfl⟩ (am_at eX8_copyFrom 29 rfl) ?_
  refine AW.run ok eX8_copyFrom 30 2 (show am_run 2 ((tX8_copyFrom.drop 30).take 2) 61 [some (.ref (sS i)), some (.ref (sS j))] [] = some (63, [some (.ref (sS i)), some (.ref (sS j))], [.ref (sS j), .ref (sS i)]) from rfl) ?_
  refine AW.getI (x := nI (a_sp Aj)) ok gf_X8_39 (sh_S0 hj) rfl (by rw [am_set_ne _ _ _ (show (sS j) ≠ (sS i) by unfold sS; omega), am_set_ne _ _ _ (show (sS j) ≠ (sS i) by unfold sS; omega), am_set_ne _ _ _ (show (sS j) ≠ (sS i) by unfold sS; omega), am_row_ne _ _ (show (sS j) ≠ (sS i + 3) by unfold sS; omega)]; exact hAj.2.2.2.1) (am_at eX8_copyFrom 32 rfl) ?_
  refine AW.putI ok pf_X8_39 (sh_S0 hi) (wr_S (i := i) (k := 0) hi (by omega)) rfl ⟨rfl, rfl⟩ (am_at eX8_copyFrom 33 rfl) ?_
  refine AW.run ok eX8_copyFrom 34 2 (show am_run 2 ((tX8_copyFrom.drop 34).take 2) 69 [some (.ref (sS i)), some (.ref (sS j))] [] = some (71, [some (.ref (sS i)), some (.ref (sS j))], [.ref (sS j), .ref (sS i)]) from rfl) ?_
  refine AW.getI (x := nI (a_fi Aj)) ok gf_X8_42 (sh_S0 hj) rfl (by rw [am_set_ne _ _ _ (show (sS j) ≠ (sS i) by unfold sS; omega), am_set_ne _ _ _ (show (sS j) ≠ (sS i) by unfold sS; omega), am_set_ne _ _ _ (show (sS j) ≠ (sS i) by unfold sS; omega), am_set_ne _ _ _ (show (sS j) ≠ (sS i) by unfold sS; omega), am_row_ne _ _ (show (sS j) ≠ (sS i + 3) by unfold sS; omega)]; exact hAj.2.2.2.2.1) (am_at eX8_copyFrom 36 rfl) ?_
  refine AW.putI ok pf_X8_42 (sh_S0 hi) (wr_S (i := i) (k := 0) hi (by omega)) rfl ⟨rfl, rfl⟩ (am_at eX8_copyFrom 37 rfl) ?_
  refine AW.run ok eX8_copyFrom 38 2 (show am_run 2 ((tX8_copyFrom.drop 38).take 2) 77 [some (.ref (sS i)), some (.ref (sS j))] [] = some (79, [some (.ref (sS i)), some (.ref (sS j))], [.ref (sS j), .ref (sS i)]) from rfl) ?_
  refine AW.getI (x := nI (a_fa Aj)) ok gf_X8_45 (sh_S0 hj) rfl (by rw [am_set_ne _ _ _ (show (sS j) ≠ (sS i) by unfold sS; omega), am_set_ne _ _ _ (show (sS j) ≠ (sS i) by unfold sS; omega), am_set_ne _ _ _ (show (sS j) ≠ (sS i) by unfold sS; omega), am_set_ne _ _ _ (show (sS j) ≠ (sS i) by unfold sS; omega), am_set_ne _ _ _ (show (sS j) ≠ (sS i) by unfold sS; omega), am_row_ne _ _ (show (sS j) ≠ (sS i + 3) by unfold sS; omega)]; exact hAj.2.2.2.2.2.1) (am_at eX8_copyFrom 40 rfl) ?_
  refine AW.putI ok pf_X8_45 (sh_S0 hi) (wr_S (i := i) (k := 0) hi (by omega)) rfl ⟨rfl, rfl⟩ (am_at eX8_copyFrom 41 rfl) ?_
  exact AW.vret ok (⟨rfl, ⟨vN_of (by rw [am_set_ne _ _ _ (show (sS i + 1) ≠ (sS i) by unfold sS at *; omega), am_set_ne _ _ _ (show (sS i + 1) ≠ (sS i) by unfold sS at *; omega), am_set_ne _ _ _ (show (sS i + 1) ≠ (sS i) by unfold sS at *; omega), am_set_ne _ _ _ (show (sS i + 1) ≠ (sS i) by unfold sS at *; omega), am_set_ne _ _ _ (show (sS i + 1) ≠ (sS i) by unfold sS at *; omega), am_set_ne _ _ _ (show (sS i + 1) ≠ (sS i) by unfold sS at *; omega), am_row_ne _ _ (show (sS i + 1) ≠ (sS i + 3) by unfold sS at *; omega)]) (by rw [am_set_ne _ _ _ (show (sS i + 4) ≠ (sS i) by unfold sS at *; omega), am_set_ne _ _ _ (show (sS i + 4) ≠ (sS i) by unfold sS at *; omega), am_set_ne _ _ _ (show (sS i + 4) ≠ (sS i) by unfold sS at *; omega), am_set_ne _ _ _ (show (sS i + 4) ≠ (sS i) by unfold sS at *; omega), am_set_ne _ _ _ (show (sS i + 4) ≠ (sS i) by unfold sS at *; omega), am_set_ne _ _ _ (show (sS i + 4) ≠ (sS i) by unfold sS at *; omega), am_row_ne _ _ (show (sS i + 4) ≠ (sS i + 3) by unfold sS at *; omega)]) (by rw [am_set_ne _ _ _ (show (sS i + 5) ≠ (sS i) by unfold sS at *; omega), am_set_ne _ _ _ (show (sS i + 5) ≠ (sS i) by unfold sS at *; omega), am_set_ne _ _ _ (show (sS i + 5) ≠ (sS i) by unfold sS at *; omega), am_set_ne _ _ _ (show (sS i + 5) ≠ (sS i) by unfold sS at *; omega), am_set_ne _ _ _ (show (sS i + 5) ≠ (sS i) by unfold sS at *; omega), am_set_ne _ _ _ (show (sS i + 5) ≠ (sS i) by unfold sS at *; omega), am_row_ne _ _ (show (sS i + 5) ≠ (sS i + 3) by unfold sS at *; omega)]) (by rw [am_set_ne _ _ _ (show (sS i + 6) ≠ (sS i) by unfold sS at *; omega), am_set_ne _ _ _ (show (sS i + 6) ≠ (sS i) by unfold sS at *; omega), am_set_ne _ _ _ (show (sS i + 6) ≠ (sS i) by unfold sS at *; omega), am_set_ne _ _ _ (show (sS i + 6) ≠ (sS i) by unfold sS at *; omega), am_set_ne _ _ _ (show (sS i + 6) ≠ (sS i) by unfold sS at *; omega), am_set_ne _ _ _ (show (sS i + 6) ≠ (sS i) by unfold sS at *; omega), am_row_ne _ _ (show (sS i + 6) ≠ (sS i + 3) by unfold sS at *; omega)]) (by rw [am_set_ne _ _ _ (show (sS i + 7) ≠ (sS i) by unfold sS at *; omega), am_set_ne _ _ _ (show (sS i + 7) ≠ (sS i) by unfold sS at *; omega), am_set_ne _ _ _ (show (sS i + 7) ≠ (sS i) by unfold sS at *; omega), am_set_ne _ _ _ (show (sS i + 7) ≠ (sS i) by unfold sS at *; omega), am_set_ne _ _ _ (show (sS i + 7) ≠ (sS i) by unfold sS at *; omega), am_set_ne _ _ _ (show (sS i + 7) ≠ (sS i) by unfold sS at *; omega), am_row_ne _ _ (show (sS i + 7) ≠ (sS i + 3) by unfold sS at *; omega)]) (by rw [am_set_ne _ _ _ (show (sS i + 8) ≠ (sS i) by unfold sS at *; omega), am_set_ne _ _ _ (show (sS i + 8) ≠ (sS i) by unfold sS at *; omega), am_set_ne _ _ _ (show (sS i + 8) ≠ (sS i) by unfold sS at *; omega), am_set_ne _ _ _ (show (sS i + 8) ≠ (sS i) by unfold sS at *; omega), am_set_ne _ _ _ (show (sS i + 8) ≠ (sS i) by unfold sS at *; omega), am_set_ne _ _ _ (show (sS i + 8) ≠ (sS i) by unfold sS at *; omega), am_row_ne _ _ (show (sS i + 8) ≠ (sS i + 3) by unfold sS at *; omega)]) hNi, vC_of (by rw [am_set_ne _ _ _ (show (sS i + 2) ≠ (sS i) by unfold sS at *; omega), am_set_ne _ _ _ (show (sS i + 2) ≠ (sS i) by unfold sS at *; omega), am_set_ne _ _ _ (show (sS i + 2) ≠ (sS i) by unfold sS at *; omega), am_set_ne _ _ _ (show (sS i + 2) ≠ (sS i) by unfold sS at *; omega), am_set_ne _ _ _ (show (sS i + 2) ≠ (sS i) by unfold sS at *; omega), am_set_ne _ _ _ (show (sS i + 2) ≠ (sS i) by unfold sS at *; omega), am_row_ne _ _ (show (sS i + 2) ≠ (sS i + 3) by unfold sS at *; omega)]) (by rw [am_set_ne _ _ _ (show (sS i + 9) ≠ (sS i) by unfold sS at *; omega), am_set_ne _ _ _ (show (sS i + 9) ≠ (sS i) by unfold sS at *; omega), am_set_ne _ _ _ (show (sS i + 9) ≠ (sS i) by unfold sS at *; omega), am_set_ne _ _ _ (show (sS i + 9) ≠ (sS i) by unfold sS at *; omega), am_set_ne _ _ _ (show (sS i + 9) ≠ (sS i) by unfold sS at *; omega), am_set_ne _ _ _ (show (sS i + 9) ≠ (sS i) by unfold sS at *; omega), am_row_ne _ _ (show (sS i + 9) ≠ (sS i + 3) by unfold sS at *; omega)]) hCi, ⟨(by rw [am_set_nk _ _ _ (show (3) ≠ (8) by omega), am_set_nk _ _ _ (show (3) ≠ (7) by omega), am_set_nk _ _ _ (show (3) ≠ (6) by omega), am_set_nk _ _ _ (show (3) ≠ (5) by omega), am_set_nk _ _ _ (show (3) ≠ (4) by omega), am_set_eq]), (by rw [am_set_nk _ _ _ (show (4) ≠ (8) by omega), am_set_nk _ _ _ (show (4) ≠ (7) by omega), am_set_nk _ _ _ (show (4) ≠ (6) by omega), am_set_nk _ _ _ (show (4) ≠ (5) by omega), am_set_eq]), (by rw [am_set_nk _ _ _ (show (5) ≠ (8) by omega), am_set_nk _ _ _ (show (5) ≠ (7) by omega), am_set_nk _ _ _ (show (5) ≠ (6) by omega), am_set_eq]), (by rw [am_set_nk _ _ _ (show (6) ≠ (8) by omega), am_set_nk _ _ _ (show (6) ≠ (7) by omega), am_set_eq]), (by rw [am_set_nk _ _ _ (show (7) ≠ (8) by omega), am_set_eq]), (by rw [am_set_eq]), fun z hz => (by rw [am_set_ne _ _ _ (show (sS i + 3) ≠ (sS i) by unfold sS; omega), am_set_ne _ _ _ (show (sS i + 3) ≠ (sS i) by unfold sS; omega), am_set_ne _ _ _ (show (sS i + 3) ≠ (sS i) by unfold sS; omega), am_set_ne _ _ _ (show (sS i + 3) ≠ (sS i) by unfold sS; omega), am_set_ne _ _ _ (show (sS i + 3) ≠ (sS i) by unfold sS; omega), am_set_ne _ _ _ (show (sS i + 3) ≠ (sS i) by unfold sS; omega), am_row_cp _ _ _ _ (show (z) < 16 by omega)]; exact (hAj.2.2.2.2.2.2 z hz))⟩⟩, fun c q1 => Eq.trans (b := W2 c) (by rw [am_set_ne _ _ _ (show c ≠ (sS i) by unfold sS at *; omega), am_set_ne _ _ _ (show c ≠ (sS i) by unfold sS at *; omega), am_set_ne _ _ _ (show c ≠ (sS i) by unfold sS at *; omega), am_set_ne _ _ _ (show c ≠ (sS i) by unfold sS at *; omega), am_set_ne _ _ _ (show c ≠ (sS i) by unfold sS at *; omega), am_set_ne _ _ _ (show c ≠ (sS i) by unfold sS at *; omega), am_row_ne _ _ (show c ≠ (sS i + 3) by unfold sS at *; omega)]) ((hW2.2 c (by unfold sS at *; omega) (by unfold sS at *; omega)).trans (hW1.2 c (by unfold sS at *; omega) (by unfold sS at *; omega)))⟩) hr (Nat.zero_le _) (Nat.zero_le _) (am_at eX8_copyFrom 42 rfl)
end
section
/-! ===== History: the next slot, how many are kept ===== -/
def vH (V : am_V) (nx kp : Nat) : Prop := V 2 1 = nI nx ∧ V 2 2 = nI kp ∧ nx < 9 ∧ kp ≤ 8
def pH (V : am_V) (nx kp : Nat) : am_P := fun x W => x = .inl none ∧ vH W nx kp ∧ ∀ c, c ≠ 2 → W c = V c
set_option maxHeartbeats 4000000 in
theorem kX4_note {U : am_U} {l : Launch} (B : am_base xx U) (hfl : l.stackTraces = false) {V : am_V} {i j nx kp : Nat} (hH : vH V nx kp) (hix : i = 3 + nx) (hi : i < 12) (hj : j < 12) (hij : i ≠ j) {Nj : nT} {Cj : cT} {Aj : aT} (hNj : vN V j Nj) (hCj : vC V j Cj) (hAj : vA V j Aj) : am_Ct xx U l yX4_note cX4_note 2 none { frames := 4, cells := 0, slots := 0, locals := 102 } [.ref (2), .ref (sS j)] V (pS V i Nj Cj Aj) := by
  refine am_Ct.of B hfl (by decide) (Nat.le_of_ble_eq_true rfl) ?_
  intro G hgl hgR hr ok h0 hex
  obtain ⟨hq1, hq2, hq3, hq4⟩ := id hH
  show AW xx U G 2 0 0 V _ 0 [some (.ref (2)), some (.ref (sS j))] []
  refine AW.run ok eX4_note 0 1 (show am_run 2 ((tX4_note.drop 0).take 1) 0 [some (.ref (2)), some (.ref (sS j))] [] = some (1, [some (.ref (2)), some (.ref (sS j))], [.ref (2)]) from rfl) ?_
  refine AW.getR ok gf_X4_13 rfl rfl (am_at eX4_note 1 rfl) ?_
  refine AW.run ok eX4_note 2 1 (show am_run 2 ((tX4_note.drop 2).take 1) 4 [some (.ref (2)), some (.ref (sS j))] [.ref (3)] = some (5, [some (.ref (2)), some (.ref (sS j))], [.ref (2), .ref (3)]) from rfl) ?_
  refine AW.getI (x := nI (nx)) ok gf_X4_17 rfl rfl hH.1 (am_at eX4_note 3 rfl) ?_
  refine AW.aldR (j := nx) (d := sS i) ok (show am_sh xx 3 = some (.inr (3, 9, .inr (fun j _ => some (sS (3 + j))))) from rfl) (by decide) rfl rfl (by omega : (nx) < 9) (by decide) (show some (sS (3 + (nx))) = some (sS i) by rw [hix]) (am_at eX4_note 4 rfl) ?_
  refine AW.run ok eX4_note 5 1 (show am_run 2 ((tX4_note.drop 5).take 1) 9 [some (.ref (2)), some (.ref (sS j))] [.ref (sS i)] = some (10, [some (.ref (2)), some (.ref (sS j))], [.ref (sS j), .ref (sS i)]) from rfl) ?_
  refine AW.cvP (rm := { frames := 3, cells := 0, slots := 0, locals := 81 }) (st := []) (As := [.ref (sS j)]) ok (by rw [hgl]; exact kX8_copyFrom B hfl hi hj (by omega) hNj hCj hAj) cv_X4_25 (sh_S0 hi) (T := TX8) (N := 9) rfl rfl rfl (Nat.le_of_ble_eq_true rfl) (by rw [hgR]; exact ⟨Nat.le_of_ble_eq_true rfl, Nat.le_of_ble_eq_true rfl⟩) (by rw [hgR]; exact ⟨Nat.le_of_ble_eq_true rfl, Nat.le_of_ble_eq_true rfl⟩) (am_at eX4_note 6 rfl) (fun E9 W9 h9 => by cases h9.1) (fun r9 W1 hW1 => ?_)
  obtain ⟨e9, hW1⟩ := hW1
  cases e9
  exact AW.vret ok (⟨rfl, hW1⟩) hr (Nat.zero_le _) (Nat.zero_le _) (am_at eX4_note 7 rfl)
set_option maxHeartbeats 4000000 in
theorem kX4_keep {U : am_U} {l : Launch} (B : am_base xx U) (hfl : l.stackTraces = false) {V : am_V} {nx kp : Nat} (hH : vH V nx kp) : am_Ct xx U l yX4_keep cX4_keep 1 none { frames := 2, cells := 0, slots := 0, locals := 60 } [.ref (2)] V (pH V ((nx + 1) % 9) (min (kp + 1) 8)) := by
  refine am_Ct.of B hfl (by decide) (Nat.le_of_ble_eq_true rfl) ?_
  intro G hgl hgR hr ok h0 hex
  obtain ⟨hq1, hq2, hq3, hq4⟩ := id hH
  show AW xx U G 1 0 0 V _ 0 [some (.ref (2))] []
  refine AW.run ok eX4_keep 0 2 (show am_run 1 ((tX4_keep.drop 0).take 2) 0 [some (.ref (2))] [] = some (2, [some (.ref (2))], [.ref (2), .ref (2)]) from rfl) ?_
  refine AW.getI (x := nI (nx)) ok gf_X4_17 rfl rfl hH.1 (am_at eX4_keep 2 rfl) ?_
  refine AW.run ok eX4_keep 3 2 (show am_run 1 ((tX4_keep.drop 3).take 2) 5 [some (.ref (2))] [.int (nI (nx)), .ref (2)] = some (7, [some (.ref (2))], [.int (nI (nx) + nI (1)), .ref (2)]) from rfl) ?_
  refine AW.top (show nI (nx) + nI (1) = nI (nx + 1) from nI_add _ _) ?_
  refine AW.run ok eX4_keep 5 1 (show am_run 1 ((tX4_keep.drop 5).take 1) 7 [some (.ref (2))] [.int (nI (nx + 1)), .ref (2)] = some (9, [some (.ref (2))], [.int (nI (9)), .int (nI (nx + 1)), .ref (2)]) from rfl) ?_
  refine AW.irem (x := nI (nx + 1)) (y := nI (9)) ok (nI_ne0 (by omega) (by omega)) (am_at eX4_keep 6 rfl) ?_
  refine AW.top (i_rem (a := nx + 1) (d := 9) (by omega) (by omega) (by omega)) ?_
  refine AW.putI ok pf_X4_17 rfl (rfl) rfl ⟨rfl, rfl⟩ (am_at eX4_keep 7 rfl) ?_
  refine AW.run ok eX4_keep 8 2 (show am_run 1 ((tX4_keep.drop 8).take 2) 13 [some (.ref (2))] [] = some (15, [some (.ref (2))], [.ref (2), .ref (2)]) from rfl) ?_
  refine AW.getI (x := nI (kp)) ok gf_X4_21 rfl rfl (by rw [am_set_nk _ _ _ (show (2) ≠ (1) by omega)]; exact hH.2.1) (am_at eX4_keep 10 rfl) ?_
  refine AW.run ok eX4_keep 11 2 (show am_run 1 ((tX4_keep.drop 11).take 2) 18 [some (.ref (2))] [.int (nI (kp)), .ref (2)] = some (20, [some (.ref (2))], [.int (nI (kp) + nI (1)), .ref (2)]) from rfl) ?_
  refine AW.top (show nI (kp) + nI (1) = nI (kp + 1) from nI_add _ _) ?_
  refine AW.run ok eX4_keep 13 1 (show am_run 1 ((tX4_keep.drop 13).take 1) 20 [some (.ref (2))] [.int (nI (kp + 1)), .ref (2)] = some (22, [some (.ref (2))], [.int (nI (8)), .int (nI (kp + 1)), .ref (2)]) from rfl) ?_
  refine AW.mmin (x := nI (kp + 1)) (y := nI (8)) ok mm_X4_29 (by rw [hgR]; exact Nat.le_of_ble_eq_true rfl) (by rw [hgR]; exact Nat.le_of_ble_eq_true rfl) (by rw [hgR]; exact Nat.le_of_ble_eq_true rfl) (by rw [hgR]; exact Nat.le_of_ble_eq_true rfl) (am_at eX4_keep 14 rfl) ?_
  refine AW.top (i_min (a := kp + 1) (b := 8) (by omega) (by omega)) ?_
  refine AW.putI ok pf_X4_21 rfl (rfl) rfl ⟨rfl, rfl⟩ (am_at eX4_keep 15 rfl) ?_
  exact AW.vret ok (⟨rfl, ⟨(by rw [am_set_nk _ _ _ (show (1) ≠ (2) by omega), am_set_eq]), (by rw [am_set_eq]), by omega, by omega⟩, fun c q1 => (by rw [am_set_ne _ _ _ (show c ≠ (2) by (first | omega | (unfold sS at *; omega))), am_set_ne _ _ _ (show c ≠ (2) by (first | omega | (unfold sS at *; omega)))])⟩) hr (Nat.zero_le _) (Nat.zero_le _) (am_at eX4_keep 16 rfl)
set_option maxHeartbeats 4000000 in
theorem kX4_forget {U : am_U} {l : Launch} (B : am_base xx U) (hfl : l.stackTraces = false) {V : am_V} {nx kp : Nat} (hH : vH V nx kp) : am_Ct xx U l yX4_forget cX4_forget 1 none { frames := 0, cells := 0, slots := 0, locals := 0 } [.ref (2)] V (pH V nx 0) := by
  refine am_Ct.of B hfl (by decide) (Nat.le_of_ble_eq_true rfl) ?_
  intro G hgl hgR hr ok h0 hex
  obtain ⟨hq1, hq2, hq3, hq4⟩ := id hH
  show AW xx U G 1 0 0 V _ 0 [some (.ref (2))] []
  refine AW.run ok eX4_forget 0 2 (show am_run 1 ((tX4_forget.drop 0).take 2) 0 [some (.ref (2))] [] = some (2, [some (.ref (2))], [.int (nI (0)), .ref (2)]) from rfl) ?_
  refine AW.putI ok pf_X4_21 rfl (rfl) rfl ⟨rfl, rfl⟩ (am_at eX4_forget 2 rfl) ?_
  exact AW.vret ok (⟨rfl, ⟨(by rw [am_set_nk _ _ _ (show (1) ≠ (2) by omega)]; exact hH.1), (by rw [am_set_eq]), by omega, by omega⟩, fun c q1 => (by rw [am_set_ne _ _ _ (show c ≠ (2) by (first | omega | (unfold sS at *; omega)))])⟩) hr (Nat.zero_le _) (Nat.zero_le _) (am_at eX4_forget 3 rfl)
set_option maxHeartbeats 4000000 in
theorem kX4_noted {U : am_U} {l : Launch} (B : am_base xx U) (hfl : l.stackTraces = false) {V : am_V} {i nx kp : Nat} (hH : vH V nx kp) (hix : i = 3 + nx) : am_Ct xx U l yX4_noted cX4_noted 1 (some (.object "DandelionBroadcast$State")) { frames := 0, cells := 0, slots := 0, locals := 0 } [.ref (2)] V (am_is (.inl (some (.ref (sS i)))) V) := by
  refine am_Ct.of B hfl (by decide) (Nat.le_of_ble_eq_true rfl) ?_
  intro G hgl hgR hr ok h0 hex
  obtain ⟨hq1, hq2, hq3, hq4⟩ := id hH
  show AW xx U G 1 0 0 V _ 0 [some (.ref (2))] []
  refine AW.run ok eX4_noted 0 1 (show am_run 1 ((tX4_noted.drop 0).take 1) 0 [some (.ref (2))] [] = some (1, [some (.ref (2))], [.ref (2)]) from rfl) ?_
  refine AW.getR ok gf_X4_13 rfl rfl (am_at eX4_noted 1 rfl) ?_
  refine AW.run ok eX4_noted 2 1 (show am_run 1 ((tX4_noted.drop 2).take 1) 4 [some (.ref (2))] [.ref (3)] = some (5, [some (.ref (2))], [.ref (2), .ref (3)]) from rfl) ?_
  refine AW.getI (x := nI (nx)) ok gf_X4_17 rfl rfl hH.1 (am_at eX4_noted 3 rfl) ?_
  refine AW.aldR (j := nx) (d := sS i) ok (show am_sh xx 3 = some (.inr (3, 9, .inr (fun j _ => some (sS (3 + j))))) from rfl) (by decide) rfl rfl (by omega : (nx) < 9) (by decide) (show some (sS (3 + (nx))) = some (sS i) by rw [hix]) (am_at eX4_noted 4 rfl) ?_
  exact AW.aret ok ⟨rfl, rfl⟩ hr (Or.inl ⟨_, rfl⟩) (Nat.zero_le _) (Nat.zero_le _) (am_at eX4_noted 5 rfl)
end
