/-! ===== calls on what stood before the law; a method that its class only inherits ===== -/
section UPC
variable {p : Program} {l : Launch} {e : Env} {R : Room} {s : State} {m : MethodId} {args : Array Value} {below : List Frame} {meth : Method} {c : Code} {T : State} {H : Heap} {locs : List Loc} {cells slots : Nat}
theorem vx_callVU (X : Stand p l e R s m args below meth c T locs cells slots) (hexec : p.tables.exec = Jvm.exec) {own C owner : String} {index : Nat} {x y : MethodName} {bytes : ByteArray} {maxL : Nat} {ret : Option FieldType}
    (hown : s.vm.findClass own = some m.cls) (hlink : (Cond.methodLink own index x).before args s = true) (hsame : (Cond.sameMethod x.cls owner x.name x.desc).before args s = true)
    (hd0 : va_Decl s ⟨owner, x.name, x.desc⟩) (howner : owner ≠ "java/lang/invoke/MethodHandle" ∧ owner ≠ "java/lang/invoke/VarHandle")
    (hsel : (Cond.selects C x y).before args s = true) (hinst : (Cond.instanceMethod y).before args s = true) (hcode : (Cond.code y bytes maxL ret).before args s = true)
    {W9 : Nat} {Pre : Pt → Array Value → Prop} {Post : Pt → Array Value → Option Value → Pt → Prop} {PostX : Pt → Array Value → Addr → Pt → Prop} (hK : vx_Back l R p e below s args y 3 W9 Pre Post PostX)
    {b : Addr} {cellB : Cell} (hcell : T.heap[b]? = some cellB) (hobj : cellB.vm.isStatics = false) (hcls : s.vm.findClass C = some cellB.cls)
    {g : JFrame} (hg : g.method = m) (hsize : g.locals.size = c.maxLocals) {argsL rest : List Value} (hlen : ∀ sig, parseMethodDescriptor x.desc = some sig → argsL.length = sig.parameters.length)
    (hstack : g.stack = argsL.reverse ++ .ref b :: rest) (hW : 2 * g.monitorRoom + (rest.map fun v => v.category).sum ≤ W9) (hdg : decode c.code g.pc = .ok (.invokevirtual index, 3))
    (hpre : ∀ vm₁, s.WarmedH vm₁ → Pre ⟨T.setVm vm₁, locs, cells, slots⟩ (Value.ref b :: argsL).toArray) :
    (∃ (v : Option Value) (vm₁ : Vm) (B : Pt), s.WarmedH vm₁ ∧ Stand p l e R s m args below meth c B.U B.locs B.cells B.slots ∧ Post ⟨T.setVm vm₁, locs, cells, slots⟩ (Value.ref b :: argsL).toArray v B ∧
      ∀ target, Steps p.tables e below (B.U.setTop { g with pc := g.pc + 3, stack := v.toList ++ rest }) target → Steps p.tables e below (T.setTop g) target) ∨
    (∃ (q : Addr) (vm₁ : Vm) (B : Pt), s.WarmedH vm₁ ∧ Stand p l e R s m args below meth c B.U B.locs B.cells B.slots ∧ PostX ⟨T.setVm vm₁, locs, cells, slots⟩ (Value.ref b :: argsL).toArray q B ∧
      Steps p.tables e below (T.setTop g) ((B.U.setTop { g with stack := rest }).pushFrame (.throwing q))) := by
  obtain ⟨r0, r, hn, hrm, hstR, hsigR⟩ := hd0
  obtain ⟨cn, ck, r1, hcn, hck, hni, hf, hn1⟩ := Cond.sameMethod_found hsame
  cases hn.symm.trans hn1
  obtain ⟨mk, methM, hnamed, hmethM, -, habM⟩ := Cond.instanceMethod_spec hinst
  obtain ⟨c2, r2, m2, q1, q2, q3, q4, kP, hkP, hkPi⟩ := Cond.selects_spec hsel
  cases hcls.symm.trans q1
  cases hf.symm.trans q2
  cases hnamed.symm.trans q3
  have hselP : selectMethod e.platform s.vm cellB.cls r0 = .method mk := by rw [Launch.admits_selectMethod X.admits]; exact q4
  obtain ⟨vm₁, X₁, hstep₁⟩ := X.invokevirtualUp hexec hown hlink hsame howner hn hrm hstR (a := b) (cell := cellB) hcell
    (fun z h => by rw [h] at hobj; cases hobj) hselP hmethM habM hkP hkPi (g := g) hg (argsL := argsL) (rest := rest) (hlen _ hsigR) hstack hdg
  rcases hK m meth c ⟨T.setVm vm₁, locs, cells, slots⟩ { g with stack := rest } (.invokevirtual index) mk (Value.ref b :: argsL).toArray X₁ hg hsize hdg hW (X₁.named hnamed) (hpre vm₁ X₁.warmed) with ⟨v, B, X', hpost, hsteps⟩ | ⟨q, B, X', hpost, hsteps⟩
  · exact Or.inl ⟨v, vm₁, B, X₁.warmed, X', hpost, fun target h => hstep₁ _ fun acts => by rw [doInvoke_state]; exact hsteps.trans h⟩
  · exact Or.inr ⟨q, vm₁, B, X₁.warmed, X', hpost, hstep₁ _ fun acts => by rw [doInvoke_state]; exact hsteps⟩
variable {x y : MethodName} {bytes cc : ByteArray} {maxL nL mc ms n index : Nat} {ret : Option FieldType} {ws : List Cond} {rm : Room} {Pc : Array Value → State → Prop} {Qc : Array Value → State → Outcome → State → Prop} {XC : String → State → State → Prop} {free : Addr → Prop} {Ts : List Cond} {own C owner : String} {b : Addr} {As rest : List Value} {g : JFrame}
theorem vx_runVU (S : CallFix p m c cc nL s args Ts own) (hM : vx_Met l y ws rm Pc Qc XC mc ms free) (cw : va_CU R s args own C owner index x y bytes maxL ret ws rm mc ms n) (hp : PreV s H C b Pc As)
    (hg : g.method = m) (hn : As.length = n) (hsize : g.locals.size = nL) (hstack : g.stack = As.reverse ++ .ref b :: rest) (hW : 2 * g.monitorRoom + (rest.map fun v => v.category).sum ≤ 8) (hdg : decode cc g.pc = .ok (.invokevirtual index, 3)) (hf : cells + mc ≤ R.cells ∧ slots + ms ≤ R.slots) :
    vx_Run p l e R s m args below meth c H locs cells slots mc ms g rest (Qc (Value.ref b :: As).toArray) XC free := by
  obtain ⟨hrc, hrs, hfr, hlo, hws, hcw⟩ := cw.back
  have hini := cw.init
  have hK : vx_Back l R p e below s args y 3 8 (PreOf R mc ms Pc) (PostOf Qc mc ms free) (vx_Post XC mc ms free) := vx_back (bytes := bytes) (maxL := maxL) (ret := ret) hM hp.1 hrc hrs hfr hlo hws hcw (fun a' U hW => word_at hW (Or.inl (by first | rfl | simp [Cond.onTables, Cond.keeps, Cond.steady])) hini)
  obtain ⟨hx, hb, hml, ho, -⟩ := S
  obtain ⟨-, ⟨cellB, hcB, hoB, hclB⟩, hPc⟩ := hp
  intro T hT X
  rcases vx_callVU X hx (C := C) (owner := owner) (bytes := bytes) (maxL := maxL) (ret := ret) ho cw.link cw.same cw.decl cw.notMH cw.sel cw.inst cw.code hK (by rw [hT]; exact hcB) hoB hclB hg (hsize.trans hml.symm) (argsL := As) (rest := rest) (fun sig h => hn.trans (cw.len sig h)) hstack hW (by rw [hb]; exact hdg)
    (fun vm₁ hW₁ => ⟨hf.1, hf.2, hPc (T.setVm vm₁) hT hW₁⟩) with ⟨v, vm₁, ⟨U', l2, c2, s2⟩, hW₁, X', ⟨g', mk, t, L, e1, e2, hq, h1, hL, h2, h3⟩, st⟩ | ⟨q, vm₁, ⟨U', l2, c2, s2⟩, hW₁, X', ⟨g', mk, t, L, E, ce, e1, e2, hq, hce, hcv, hcl, h1, hL, h2, h3⟩, st⟩
  · dsimp only [Pt.U, Pt.locs, Pt.cells, Pt.slots] at X' e1 e2 h1 h2 h3 st
    subst h1; subst h2; subst h3
    exact Or.inl ⟨v, (T.setVm vm₁).calling g' mk (Value.ref b :: As).toArray, t, U', L, hT, X', hL, e1, e2, hq, st⟩
  · dsimp only [Pt.U, Pt.locs, Pt.cells, Pt.slots] at X' e1 e2 h1 h2 h3 st hcl
    subst h1; subst h2; subst h3
    exact Or.inr ⟨q, (T.setVm vm₁).calling g' mk (Value.ref b :: As).toArray, t, U', L, E, ce, hT, X', hL, e1, e2, hq, hce, hcv, vx_cls hW₁ hcl, st⟩
end UPC
def am_cvU (X : am_X) (own C : String) (index : Nat) (x y : MethodName) (b : ByteArray) (nL : Nat) (ret : Option FieldType) (n : Nat) : Prop :=
  (∀ w ∈ va_wsU own index C y.cls x y [Cond.code y b nL ret], w ∈ am_WS X) ∧ y = ⟨y.cls, x.name, x.desc⟩ ∧
  (y.cls ≠ "java/lang/invoke/MethodHandle" ∧ y.cls ≠ "java/lang/invoke/VarHandle" ∧ (parseMethodDescriptor x.desc).map (fun d => d.parameters.length) = some n)
section XCU
variable {X : am_X} {U : am_U} {G : am_G} {own : String} {cc : ByteArray} {nL kc ks pc : Nat} {V : am_V} {Q : State → Prop} {L : List (Option Value)} {st : List Value} {P : am_P}
set_option maxHeartbeats 4000000 in
theorem AW.callVU {x y : MethodName} {b : ByteArray} {nL' n index c : Nat} {ret : Option FieldType} {rm : Room} {As : List Value} {CC : String}
    (ok : am_ok X U G own cc nL) (h0 : am_st0 U G) (hC : am_Ct X U (am_gl G) y b nL' ret rm (.ref c :: As) V P) (hcv : am_cvU X own CC index x y b nL' ret n) (hO : va_O CC (am_ad U c) (am_A U) (am_s0 U) (am_s0 U).heap) (hn : As.length = n)
    (hst : (st.map fun v => v.category).sum ≤ 8) (hR : rm.frames + 1 ≤ (am_gR G).frames ∧ 8 + (nL' + 11) + rm.locals ≤ (am_gR G).locals) (hf : kc + rm.cells ≤ (am_gR G).cells ∧ ks + rm.slots ≤ (am_gR G).slots) (hdg : decode cc pc = .ok (.invokevirtual index, 3))
    (kx : ∀ (E : String) (V1 : am_V), P (.inr E) V1 → AX X U G nL (kc + rm.cells) (ks + rm.slots) V1 Q E pc L) (kk : ∀ (r : Option Value) (V1 : am_V), P (.inl r) V1 → AW X U G nL (kc + rm.cells) (ks + rm.slots) V1 Q (pc + 3) L (r.toList ++ st)) :
    AW X U G nL kc ks V Q pc L (As.reverse ++ .ref c :: st) := by
  intro H locs ls hH hz hlo hl
  obtain ⟨w1, hyx, hd⟩ := hcv
  have hts := ok.2.2.2.2.1
  have hw := am_wordsok ok
  have hT : GoodIn (am_WS X) (va_wsU own index CC y.cls x y (Cond.code y b nL' ret :: am_WS X)) := am_good hw (by
    intro w hm
    simp only [va_wsU, List.mem_append] at hm
    rcases hm with hm | hm
    · exact w1 w (by unfold va_wsU; exact List.mem_append_left _ hm)
    · rcases List.mem_cons.mp hm with rfl | hm
      · exact w1 _ (by unfold va_wsU; exact List.mem_append_right _ List.mem_cons_self)
      · exact hm)
  have cw := va_cwU (R := am_gR G) (s := am_gs G) (args := am_ga G) (own := own) (C := CC) (owner := y.cls) (index := index) (x := x) (y := y) (bytes := b) (maxL := nL') (ret := ret) (ws := Cond.code y b nL' ret :: am_WS X) (rm := rm) (mc := rm.cells) (ms := rm.slots) n hts hT rfl rfl rfl hyx hd hR
  rw [am_map_rev]
  have hrec : ∃ cell : Cell, H[am_ad U c]? = some cell ∧ cell.vm.isStatics = false ∧ (am_gs G).vm.findClass CC = some cell.cls := by
    obtain ⟨cell, h1, h2, h3, -⟩ := (va_O.moved ok.2.2.2.2.2.1.alike (hO.kept (am_kp h0))).kept (am_vaA h0 hH hz hlo).2.1
    exact ⟨cell, h1, h2, h3⟩
  refine am_after (a := (Value.ref (am_ad U c) :: As.map (am_v (am_ad U))).toArray) (vx_runVU (Ts := am_WS X) (nL := nL) (own := own) (As := As.map (am_v (am_ad U))) (rest := st.map (am_v (am_ad U))) ⟨ok.1, ok.2.1, ok.2.2.1, ok.2.2.2.1, hts⟩ hC cw ⟨am_blind (.ref c :: As), hrec, fun S hS hWS => ⟨rfl, ?_, State.WarmedH.trans ok.2.2.2.2.2.1 hWS⟩⟩ rfl (by rw [List.length_map]; exact hn) hl.1 rfl ?_ hdg hf) hz hlo hl kx kk
  · rw [hS]; exact hH
  · show 2 * 0 + _ ≤ 8
    rw [am_cat]
    omega
end XCU
section XCV
variable {U : am_U} {l : Launch} {G : am_G} {own : String} {cc : ByteArray} {nL fr c lo kc pc : Nat} {ret : Option FieldType} {V V1 : am_V} {r : (Option Value ⊕ String) × am_V} {L : List (Option Value)} {st : List Value}
theorem AE.cvC {y : MethodName} {b : ByteArray} {nL' n index c0 f' c' lo' : Nat} {ret' : Option FieldType} {As : List Value} {stk : List Value} {m mm : am_R} {tt : ((Option Value ⊕ String) × am_V) → Prop}
    (K : aK U l G own cc nL ret fr c lo) (hex : am_nx G) (hC : ∀ q : (Option Value ⊕ String) × am_V, m = some q → am_Ct xx U l y b nL' ret' (rk f' c' lo') (.ref c0 :: As) V (am_is q.1 q.2)) (hcv : am_cv xx own index y b nL' ret' n) (hO : va_O y.cls (am_ad U c0) (am_A U) (am_s0 U) (am_s0 U).heap) (hn : As.length = n) (hs : stk = As.reverse ++ .ref c0 :: st)
    (hst : (st.map fun v => v.category).sum ≤ 8) (hR : f' + 1 ≤ fr ∧ 8 + (nL' + 11) + lo' ≤ lo) (hf : kc + c' ≤ c) (hdg : decode cc pc = .ok (.invokevirtual index, 3)) (_h : mm = some r) (hm : ∃ q, m = some q ∧ tt q) (kk : ∀ q, tt q → aft U G nL fr c lo r (kc + c') (pc + 3) L st q) : AE U G nL fr c lo r kc V pc L stk := by
  subst hs
  obtain ⟨q, hq, ht⟩ := hm
  have h1 := kk q ht
  have hRR : am_gR G = rk fr c lo := K.2.1
  refine AW.callVC (CC := "") (rm := rk f' c' lo') K.2.2.2.1 K.2.2.2.2 (by rw [K.1]; exact hC q hq) hcv hO hn hst (by rw [hRR]; exact hR) (by rw [hRR]; exact ⟨hf, by show 6 * kc + 6 * c' ≤ 6 * c; omega⟩) hdg (fun E W h => ?_) (fun q9 W h => ?_)
  · obtain ⟨e1, rfl⟩ := h
    obtain ⟨a, b⟩ := q
    cases e1
    have := AE.out (kc := kc + c') (pc := pc) (L := L) K hex hf h1
    rw [Nat.mul_add] at this
    exact this
  · obtain ⟨e1, rfl⟩ := h
    obtain ⟨a, b⟩ := q
    cases e1
    have : AE U G nL fr c lo r (kc + c') b (pc + 3) L (q9.toList ++ st) := h1
    unfold AE at this
    rw [Nat.mul_add] at this
    exact this
theorem AE.cvU {CC : String} {x y : MethodName} {b : ByteArray} {nL' n index c0 f' c' lo' : Nat} {ret' : Option FieldType} {As : List Value} {stk : List Value} {m mm : am_R} {tt : ((Option Value ⊕ String) × am_V) → Prop}
    (K : aK U l G own cc nL ret fr c lo) (hex : am_nx G) (hC : ∀ q : (Option Value ⊕ String) × am_V, m = some q → am_Ct xx U l y b nL' ret' (rk f' c' lo') (.ref c0 :: As) V (am_is q.1 q.2)) (hcv : am_cvU xx own CC index x y b nL' ret' n) (hO : va_O CC (am_ad U c0) (am_A U) (am_s0 U) (am_s0 U).heap) (hn : As.length = n) (hs : stk = As.reverse ++ .ref c0 :: st)
    (hst : (st.map fun v => v.category).sum ≤ 8) (hR : f' + 1 ≤ fr ∧ 8 + (nL' + 11) + lo' ≤ lo) (hf : kc + c' ≤ c) (hdg : decode cc pc = .ok (.invokevirtual index, 3)) (_h : mm = some r) (hm : ∃ q, m = some q ∧ tt q) (kk : ∀ q, tt q → aft U G nL fr c lo r (kc + c') (pc + 3) L st q) : AE U G nL fr c lo r kc V pc L stk := by
  subst hs
  obtain ⟨q, hq, ht⟩ := hm
  have h1 := kk q ht
  have hRR : am_gR G = rk fr c lo := K.2.1
  refine AW.callVU (rm := rk f' c' lo') K.2.2.2.1 K.2.2.2.2 (by rw [K.1]; exact hC q hq) hcv hO hn hst (by rw [hRR]; exact hR) (by rw [hRR]; exact ⟨hf, by show 6 * kc + 6 * c' ≤ 6 * c; omega⟩) hdg (fun E W h => ?_) (fun q9 W h => ?_)
  · obtain ⟨e1, rfl⟩ := h
    obtain ⟨a, b⟩ := q
    cases e1
    have := AE.out (kc := kc + c') (pc := pc) (L := L) K hex hf h1
    rw [Nat.mul_add] at this
    exact this
  · obtain ⟨e1, rfl⟩ := h
    obtain ⟨a, b⟩ := q
    cases e1
    have : AE U G nL fr c lo r (kc + c') b (pc + 3) L (q9.toList ++ st) := h1
    unfold AE at this
    rw [Nat.mul_add] at this
    exact this
theorem AE.getsQ {C n d : String} {index k : Nat} (K : aK U l G own cc nL ret fr c lo) (hZ : va_Z C n d .null (am_A U) (am_s0 U) (am_s0 U).heap ∨ va_Z C n d (.ref (am_ad U k)) (am_A U) (am_s0 U) (am_s0 U).heap) (hw : Cond.fieldLink own index C n d ∈ am_WS xx) (hdg : decode cc pc = .ok (.getstatic index, 3))
    (kk : ∀ v : Value, (v = .null ∨ v = .ref k) → AE U G nL fr c lo r kc V (pc + 3) L (v :: st)) : AE U G nL fr c lo r kc V pc L st := AW.getsQ K.2.2.2.1 K.2.2.2.2 hZ hw hdg kk
/-- the kinds of the commands that were read -/
theorem AE.aaldK {i : Int32} {m : am_R} (K : aK U l G own cc nL ret fr c lo) (hdg : decode cc pc = .ok (.aaload, 1)) (h : rG (am_in i 12) (rG (decide (nI 1 ≤ V 14 (iN i) ∧ V 14 (iN i) ≤ nI 11)) m) = some r) (kk : iN (V 14 (iN i)) - 1 < 11 → m = some r → AE U G nL fr c lo r kc V (pc + 1) L (.ref (300 + (iN (V 14 (iN i)) - 1)) :: st)) : AE U G nL fr c lo r kc V pc L (.int i :: .ref 14 :: st) := by
  obtain ⟨h1, h2⟩ := rG_t h
  obtain ⟨h3, h4⟩ := rG_t h2
  obtain ⟨h5, h6⟩ := of_decide_eq_true h3
  have e1 : iN (V 14 (iN i)) - 1 < 11 ∧ 1 ≤ iN (V 14 (iN i)) := by
    have a := Int32.le_iff_toInt_le.mp h5
    have b := Int32.le_iff_toInt_le.mp h6
    have c1 : (nI 1).toInt = 1 := by decide
    have c2 : (nI 11).toInt = 11 := by decide
    have c3 : iN (V 14 (iN i)) = (V 14 (iN i)).toInt.toNat := rfl
    omega
  refine AW.aald (t := 4) (n := 12) (g := fun _ x => if x = 0 then none else some (299 + x.toNatClampNeg)) (C := .object "DandelionBroadcast$Kind") K.2.2.2.1 rfl (by decide) rfl rfl (am_in_ok h1) ?_ hdg (kk e1.1 h4)
  show (if V 14 (iN i) = 0 then none else some (299 + iN (V 14 (iN i)))) = _
  rw [if_neg (fun q => by rw [q] at e1; exact absurd e1.2 (by decide))]
  congr 1
  omega
theorem AE.aastK {i x : Int32} {d : Nat} {m : am_V → am_R} (B : am_cst U) (K : aK U l G own cc nL ret fr c lo) (hd : d < 11) (hx : x = nI d) (hdg : decode cc pc = .ok (.aastore, 1)) (h : rG (am_in i 12) (rV (am_set V 14 (iN i) (x + 1)) m) = some r) (kk : ∀ V1 : am_V, m V1 = some r → AE U G nL fr c lo r kc V1 (pc + 1) L st) : AE U G nL fr c lo r kc V pc L (.ref (300 + d) :: .int i :: .ref 14 :: st) := by
  obtain ⟨h1, h2⟩ := rG_t h
  subst hx
  have e1 : iN (nI d + 1) = d + 1 := by
    have : ∀ d : Fin 11, iN (nI d.val + 1) = d.val + 1 := by decide
    exact this ⟨d, hd⟩
  refine AW.aastC (t := 4) (n := 12) (g := fun _ x => if x = 0 then none else some (299 + x.toNatClampNeg)) (E := "DandelionBroadcast$Kind") (x := nI d + 1) K.2.2.2.1 K.2.2.2.2 rfl (by decide) (by decide) rfl (B.2.1 d hd).1 ?_ (am_in_ok h1) hdg (kk _ h2)
  show (if nI d + 1 = 0 then none else some (299 + iN (nI d + 1))) = _
  rw [e1, if_neg (fun q => by rw [q] at e1; have : iN 0 = 0 := rfl; omega)]
  congr 1
  omega
end XCV
theorem cst_28 {k : Nat} (h : k < 11) : 28 + k < 39 := by omega
theorem cst_shape {U : am_U} (B : am_cst U) {k : Nat} (h : k < 11) : va_OF "DandelionBroadcast$Kind" "shape" "Ljava/lang/String;" (am_v (am_ad U) (.ref (400 + (28 + k)))) (am_ad U (300 + k)) (am_A U) (am_s0 U) (am_s0 U).heap := by
  rw [show 400 + (28 + k) = 428 + k by omega]
  exact (B.2.1 k h).2.1
theorem nI_iN11 {x : Int32} (h : am_in x 11 = true) : x = nI (iN x) := by
  obtain ⟨k, hk, rfl⟩ := nI_of (fun q => am_in_ok h (Or.inl q) : ¬ x < 0)
  rw [iNn hk]
section XCW
variable {U : am_U} {l : Launch} {G : am_G} {own : String} {cc : ByteArray} {nL fr c lo kc pc : Nat} {ret : Option FieldType} {V V1 : am_V} {r : (Option Value ⊕ String) × am_V} {L : List (Option Value)} {st : List Value}
theorem AE.baldT {i : Int32} {z : Nat} {m : am_R} (K : aK U l G own cc nL ret fr c lo) (B : am_cst U) (hz : z < 39) (hdg : decode cc pc = .ok (.baload, 1)) (h : rG (am_in i (xLEN.getD z 0)) m = some r) (kk : m = some r → AE U G nL fr c lo r kc V (pc + 1) L (.int ((txB.getD z []).getD (iN i) 0) :: st)) : AE U G nL fr c lo r kc V pc L (.int i :: .ref (500 + z) :: st) := AE.bldC K (B.1 z hz).2.2.2 (am_in_ok (rG_t h).1) rfl hdg (kk (rG_t h).2)
theorem AE.ialdM {i : Int32} {m : am_R} (K : aK U l G own cc nL ret fr c lo) (B : am_cst U) (hdg : decode cc pc = .ok (.iaload, 1)) (h : rG (am_in i 11) m = some r) (kk : m = some r → AE U G nL fr c lo r kc V (pc + 1) L (.int (nI (iN i + 1)) :: st)) : AE U G nL fr c lo r kc V pc L (.int i :: .ref 602 :: st) := AE.ildC K B.2.2.2.2.1 (am_in_ok (rG_t h).1) rfl hdg (kk (rG_t h).2)
theorem AE.aaldA {i : Int32} {m : am_R} (K : aK U l G own cc nL ret fr c lo) (B : am_cst U) (hdg : decode cc pc = .ok (.aaload, 1)) (h : rG (am_in i 11) m = some r) (kk : iN i < 11 ∧ i = nI (iN i) → m = some r → AE U G nL fr c lo r kc V (pc + 1) L (.ref (300 + iN i) :: st)) : AE U G nL fr c lo r kc V pc L (.int i :: .ref 601 :: st) := AE.aldC K B.2.2.2.1 (am_in_ok (rG_t h).1) rfl hdg (kk ⟨am_in_lt (rG_t h).1, nI_iN11 (rG_t h).1⟩ (rG_t h).2)
theorem AE.aaldI {i : Int32} {m : am_R} (K : aK U l G own cc nL ret fr c lo) (B : am_cst U) (hdg : decode cc pc = .ok (.aaload, 1)) (h : rG (am_in i 28) m = some r) (kk : iN i < 39 → m = some r → AE U G nL fr c lo r kc V (pc + 1) L (.ref (400 + iN i) :: st)) : AE U G nL fr c lo r kc V pc L (.int i :: .ref 600 :: st) := AE.aldC K B.2.2.1 (am_in_ok (rG_t h).1) rfl hdg (kk (by have := am_in_lt (rG_t h).1; omega) (rG_t h).2)
end XCW
