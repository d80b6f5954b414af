/-! ===== the constructors: a world that grows, cell by cell, behind what stood at the law's start ===== -/
abbrev nE : Type := Nat → Option va_E
def nset (E : nE) (j : Nat) (e : va_E) : nE := fun q => if q = j then some e else E q
theorem nset_e {E : nE} {j : Nat} {e : va_E} : nset E j e j = some e := if_pos rfl
def n_sz (U : am_U) : Nat := (am_s0 U).heap.size
def n_H (U : am_U) (E : nE) (n : Nat) (H : Heap) : Prop := H.size = n_sz U + n ∧ (∀ q : Nat, q < n_sz U → H[q]? = (am_s0 U).heap[q]?) ∧ ∀ (j : Nat) (e : va_E), E j = some e → va_at (am_D U) vwCl (n_sz U + j, e) H
def NW (U : am_U) (G : am_G) (nL kc ks : Nat) (E : nE) (n : Nat) (Q : State → Prop) (pc : Nat) (L : List (Option Value)) (st : List Value) : Prop :=
  ∀ (H : Heap) (locs : List Loc) (ls : Array Slot), n_H U E n H → (am_gs G).heap.size ≤ H.size → (∀ q ∈ locs, n_sz U ≤ q.base) → am_l id nL L ls → am_W G H locs kc ks Q (F0 (am_gm G) pc ls (st.map (am_v id)))
theorem n_H.push {U : am_U} {E : nE} {n : Nat} {H H1 : Heap} {e : va_E} (h : n_H U E n H) (z : H1.size = n_sz U + n + 1) (o : ∀ q, q < n_sz U + n → H1[q]? = H[q]?) (he : va_at (am_D U) vwCl (n_sz U + n, e) H1) : n_H U (nset E n e) (n + 1) H1 := by
  obtain ⟨h1, h2, h3⟩ := h
  refine ⟨by omega, fun q hq => (o q (by omega)).trans (h2 q hq), fun j e' hj => ?_⟩
  unfold nset at hj
  by_cases c : j = n
  · subst c
    rw [if_pos rfl] at hj
    cases hj
    exact he
  · rw [if_neg c] at hj
    have h4 := h3 j e' hj
    have h5 := h4.lt
    exact h4.kept (o _ (by dsimp only at h5; omega))
theorem n_H.put {U : am_U} {E : nE} {n a : Nat} {H H1 : Heap} {e : va_E} (h : n_H U E n H) (z : H1.size = H.size) (o : ∀ q, q ≠ n_sz U + a → H1[q]? = H[q]?) (he : va_at (am_D U) vwCl (n_sz U + a, e) H1) : n_H U (nset E a e) n H1 := by
  obtain ⟨h1, h2, h3⟩ := h
  refine ⟨by omega, fun q hq => (o q (by omega)).trans (h2 q hq), fun j e' hj => ?_⟩
  unfold nset at hj
  by_cases c : j = a
  · subst c
    rw [if_pos rfl] at hj
    cases hj
    exact he
  · rw [if_neg c] at hj
    exact (h3 j e' hj).kept (o _ (by dsimp only; omega))
theorem n_one {U : am_U} {E : nE} {n a : Nat} {H : Heap} {e : va_E} (h : n_H U E n H) (he : E a = some e) : va_P (am_D U) vwCl [(n_sz U + a, e)] H := am_one (h.2.2 a e he)
/-- a constructor's contract: from the world E of n cells, its object at a, to E' of n' cells -/
def n_Qc (U : am_U) (E' : nE) (n' : Nat) : Array Value → State → Outcome → State → Prop := fun _ st o t => o = .returned none ∧ n_H U E' n' t.heap ∧ st.heap.size ≤ t.heap.size
def n_fr (U : am_U) : Addr → Prop := fun q => n_sz U ≤ q
def n_Ct (U : am_U) (l : Launch) (y : MethodName) (b : ByteArray) (nL : Nat) (rm : Room) (a : Nat) (E : nE) (n : Nat) (E' : nE) (n' : Nat) : Prop :=
  Met l y (Cond.code y b nL none :: am_WS xx) rm (fun v S => v = (([.ref (n_sz U + a)] : List Value).map (am_v id)).toArray ∧ n_H U E n S.heap ∧ (am_s0 U).WarmedH S.vm) (n_Qc U E' n') rm.cells rm.slots (n_fr U)
def n_End (U : am_U) (G : am_G) (rm : Room) (E' : nE) (n' : Nat) : State → Prop := MQ (am_gb G) (n_Qc U E' n') (am_ga G) (am_gs G) rm.cells rm.slots (n_fr U)
set_option maxHeartbeats 4000000 in
theorem n_Ct.of {U : am_U} {l : Launch} {y : MethodName} {b : ByteArray} {nL : Nat} {rm : Room} {a n n' : Nat} {E E' : nE} (hb : am_base xx U) (hfl : l.stackTraces = false) (hy : plainName y.cls = true) (hlen : 1 ≤ nL) (hnm : y.name = "<init>")
    (body : ∀ G : am_G, am_gl G = l → am_gR G = rm → (am_gt G).sig.returnType = none → am_ok xx U G y.cls b nL → (am_gt G).name = "<init>" → NW U G nL 0 0 E n (n_End U G rm E' n') 0 (am_L0 nL [.ref (n_sz U + a)]) []) : n_Ct U l y b nL rm a E n E' n' := by
  refine Met.ofW (cc := b) (maxL := nL) (ret := none) hy rfl ?_
  intro p e s m args below meth c s₁ B hml hv
  obtain ⟨rfl, hH, hW⟩ := hv
  have hts := atoms_spec (ws := Cond.code y b nL none :: am_WS xx) B.pre
  have hown : s.vm.findClass y.cls = some m.cls := findClass_of_methodNamed B.named
  have hin : meth.name = "<init>" := (name_of_methodNamed B.named B.method).1.trans hnm
  have ok : am_ok xx U (l, p, e, rm, s, m, (([.ref (n_sz U + a)] : List Value).map (am_v id)).toArray, below, meth, c) y.cls b nL := ⟨B.exec, B.bytes, hml, hown, fun w hw => hts w (List.mem_cons_of_mem _ hw), hW, hb, B.notSynchronized, hfl⟩
  have h1 := body (l, p, e, rm, s, m, (([.ref (n_sz U + a)] : List Value).map (am_v id)).toArray, below, meth, c) rfl rfl B.returns ok hin
  rw [lg_entry_eq]
  have he := lv_entry (([.ref (n_sz U + a)] : List Value).map (am_v id)) (n := nL) (by rw [am_sl]; exact hlen)
  exact h1 s.heap [] _ hH (Nat.le_refl _) (fun q hq => by cases hq) ⟨he.1, he.2.1, fun i v hi => by
    have h2 := am_args id [.ref (n_sz U + a)] nL 0 i v hi
    rw [Nat.zero_add] at h2
    exact he.2.2 _ h2⟩
section NWS
variable {U : am_U} {G : am_G} {own : String} {cc : ByteArray} {nL kc ks pc pc' n : Nat} {E : nE} {Q : State → Prop} {L L' : List (Option Value)} {st st' : List Value}
theorem NW.step {i : Instr} {k9 : Nat} (ok : am_ok xx U G own cc nL) (hdg : decode cc pc = .ok (i, k9)) (hn : k9 = am_len i) (h : am_i nL i pc L st = some (pc', L', st')) (k : NW U G nL kc ks E n Q pc' L' st') : NW U G nL kc ks E n Q pc L st := by
  subst hn
  intro H locs ls hH hz hlo hl
  exact am_i_ok ok.1 ok.2.1 hdg h hl (fun ls' hl' => k H locs ls' hH hz hlo hl')
theorem NW.runs (ok : am_ok xx U G own cc nL) : ∀ (t : List (Nat × Instr × Nat)), am_dec cc t → ∀ (pc : Nat) (L : List (Option Value)) (st : List Value), am_run nL t pc L st = some (pc', L', st') → NW U G nL kc ks E n Q pc' L' st' → NW U G nL kc ks E n Q pc L st
  | [], _, pc, L, st, h, k => by
    cases h
    exact k
  | (q, i, k9) :: r, hd, pc, L, st, h, k => by
    simp only [am_run] at h
    by_cases hc : (q == pc && k9 == am_len i) = true
    · rw [if_pos hc] at h
      simp only [Bool.and_eq_true, beq_iff_eq] at hc
      cases hi : am_i nL i pc L st with
      | none => rw [hi] at h; cases h
      | some x =>
        obtain ⟨p1, L1, s1⟩ := x
        rw [hi] at h
        have hdg := hd (q, i, k9) List.mem_cons_self
        rw [hc.1] at hdg
        exact NW.step ok hdg hc.2 hi (NW.runs ok r (fun x hx => hd x (List.mem_cons_of_mem _ hx)) p1 L1 s1 h k)
    · rw [if_neg hc] at h
      cases h
theorem NW.run {t : List (Nat × Instr × Nat)} (ok : am_ok xx U G own cc nL) (hd : am_dec cc t) (a k9 : Nat) (h : am_run nL ((t.drop a).take k9) pc L st = some (pc', L', st')) (k : NW U G nL kc ks E n Q pc' L' st') : NW U G nL kc ks E n Q pc L st :=
  NW.runs ok _ (fun x hx => hd x (List.mem_of_mem_drop (List.mem_of_mem_take hx))) pc L st h k
theorem NW.objInit {ix a : Nat} (ok : am_ok xx U G own cc nL) (w1 : Cond.methodLink own ix Lib.objectInit ∈ am_WS xx) (w2 : Cond.instanceMethod Lib.objectInit ∈ am_WS xx) (w3 : Cond.code Lib.objectInit ⟨#[0xb1]⟩ 1 none ∈ am_WS xx) (hR : 1 ≤ (am_gR G).frames ∧ (st.map fun v => v.category).sum + 12 ≤ (am_gR G).locals) (hdg : decode cc pc = .ok (.invokespecial ix, 3))
    (kk : NW U G nL kc ks E n Q (pc + 3) L st) : NW U G nL kc ks E n Q pc L (.ref a :: st) := by
  intro H locs ls hH hz hlo hl
  exact W.objInit ok.1 ok.2.1 ok.2.2.2.1 (ok.2.2.2.2.1 _ w1) (ok.2.2.2.2.1 _ w2) (ok.2.2.2.2.1 _ w3) rfl (hl.1.trans ok.2.2.1.symm) rfl hdg hR.1 (by show 2 * 0 + (List.map (fun v => v.category) (List.map (am_v id) st)).sum + 12 ≤ (am_gR G).locals; rw [am_cat]; have := hR.2; omega) (kk H locs ls hH hz hlo hl)
theorem NW.new {C : String} {T : u_T} {N ci ix : Nat} {fs : List Value} (ty : Nat → FieldType) (ok : am_ok xx U G own cc nL) (hin : ∀ w ∈ u_ws C T N, w ∈ am_WS xx) (hty : ∀ k, k < N → parseFieldDescriptor (T k).2.2.1 = some (ty k)) (w1 : Cond.classLink own ix C ∈ am_WS xx) (w2 : Cond.instantiable C N ∈ am_WS xx) (w3 : Cond.initialized C ∈ am_WS xx) (hc : vwCl[ci]? = some (C, T, N))
    (hfs : ∀ j, j < N → defaultValue (ty j) = vp_V fs j) (hr : kc + 1 ≤ (am_gR G).cells ∧ ks + N ≤ (am_gR G).slots) (hdg : decode cc pc = .ok (.new ix, 3)) (kk : NW U G nL (kc + 1) (ks + N) (nset E n (.inr (ci, fs))) (n + 1) Q (pc + 3) L (.ref (n_sz U + n) :: st)) : NW U G nL kc ks E n Q pc L st := by
  intro H locs ls hH hz hlo hl
  have hKn := (am_ok.K ok).1 ci _ hc
  have hw := ok.2.2.2.2.1
  refine W.newcK ok.1 ok.2.1 ok.2.2.2.1 (hw _ w1) (hw _ w2) (hw _ w3) rfl hdg hr.1 hr.2 hKn.2.1 hH.1 fun H1 kC hkC e1 z1 o1 => ?_
  exact kk H1 locs ls (hH.push z1 o1 ⟨_, hc, (u_born ty hw hin hKn hkC e1 hty).to hfs⟩) (by have := hH.1; omega) hlo hl
theorem NW.newa {atype : ArrayType} {ty : FieldType} {N t : Nat} {x : Int32} {a0 : vp_A} (ok : am_ok xx U G own cc nL) (w : Cond.arrayClass ty ∈ am_WS xx) (hty : newarray.typeOf atype = ty) (ht : t < 8) (htA : am_tA xx t = ty) (hprim : ∀ (S : State) (cA : ClassId), va_RA S cA ty → S.vm.findClass ("[" ++ ty.toString) = some cA) (ha : ∀ cA : ClassId, vp_cell cA a0 = arrV cA N (fun _ => defaultValue ty))
    (hn : ¬ x < 0) (hN : x.toNatClampNeg = N) (hbt : N * componentBytes ty ≤ 536870912) (hr : kc + 1 ≤ (am_gR G).cells ∧ ks + N ≤ (am_gR G).slots) (hdg : decode cc pc = .ok (.newarray atype, 2)) (kk : NW U G nL (kc + 1) (ks + N) (nset E n (.inl (am_dA U t, a0))) (n + 1) Q (pc + 2) L (.ref (n_sz U + n) :: st)) : NW U G nL kc ks E n Q pc L (.int x :: st) := by
  subst hty
  intro H locs ls hH hz hlo hl
  refine va_newaK ok.1 ok.2.1 (ok.2.2.2.2.1 _ w) rfl hdg rfl hn hN hbt hr.1 hr.2 hH.1 fun H1 cA e1 z1 o1 hAr hNm => ?_
  have hRA := va_RA.moved ok.2.2.2.2.2.1.alike (ok.2.2.2.2.2.2.1.2.2.1 t ht).2
  rw [htA] at hRA
  have e : cA = am_dA U t := Option.some.inj (hNm.symm.trans (hprim _ _ hRA))
  subst e
  exact kk H1 locs ls (hH.push z1 o1 (by show H1[n_sz U + n]? = some (vp_cell _ a0); rw [ha]; exact e1)) (by have := hH.1; omega) hlo hl
theorem NW.anew {C : String} {N t ix : Nat} {x : Int32} (ok : am_ok xx U G own cc nL) (hO : va_AO C (am_s0 U)) (w : Cond.classLink own ix C ∈ am_WS xx) (ht : t < 8) (htA : am_tA xx t = .object C) (hn : ¬ x < 0) (hN : x.toNatClampNeg = N) (hbt : N * 4 ≤ 536870912) (hr : kc + 1 ≤ (am_gR G).cells ∧ ks + N ≤ (am_gR G).slots) (hdg : decode cc pc = .ok (.anewarray ix, 3))
    (kk : NW U G nL (kc + 1) (ks + N) (nset E n (.inl (am_dA U t, N, .inr (.inr (.inr (.inr (fun _ => none))))))) (n + 1) Q (pc + 3) L (.ref (n_sz U + n) :: st)) : NW U G nL kc ks E n Q pc L (.int x :: st) := by
  subst hN
  intro H locs ls hH hz hlo hl
  refine W.anew ok.1 ok.2.1 ok.2.2.2.1 (ok.2.2.2.2.1 _ w) (va_AO.use (va_AO.moved ok.2.2.2.2.2.1.alike hO)) rfl hdg rfl hn hbt hr.1 hr.2 fun cA kA comp f1 f2 f3 f4 => ?_
  have hRA := va_RA.moved ok.2.2.2.2.2.1.alike (ok.2.2.2.2.2.2.1.2.2.1 t ht).2
  rw [htA] at hRA
  obtain ⟨kA', comp', -, -, -, g4⟩ := hRA
  have e : cA = am_dA U t := Option.some.inj (f1.symm.trans g4)
  subst e
  generalize hH1 : H.push ({ cls := am_dA U t, slots := Array.replicate x.toNatClampNeg .null, vm := .none } : Cell) = H1
  have z1 : H1.size = H.size + 1 := by rw [← hH1, Array.size_push]
  have e1 : H1[H.size]? = some (arrV (am_dA U t) x.toNatClampNeg (fun _ => .null)) := by rw [← hH1, Array.getElem?_push_size, ← arrV_new]
  have o1 : ∀ q : Nat, q < H.size → H1[q]? = H[q]? := fun q hq => by rw [← hH1, Array.getElem?_push, if_neg (Nat.ne_of_lt hq)]
  rw [hH.1] at z1 e1 o1 ⊢
  exact kk H1 locs ls (hH.push z1 o1 (by show H1[n_sz U + n]? = some (vp_cell _ _); rw [vp_cell_q]; exact e1)) (by have := hH.1; omega) hlo hl
/-- the class of int[][] is there -/
def n_AO (U : State) : Prop := (Cond.arrayOver (.array .int)).before #[] U = true
theorem n_AO.moved {u U : State} (hvm : u.vm.Alike U.vm) (h : n_AO u) : n_AO U := by
  obtain ⟨comp, c, k, h1, h2, h3, h4, h5⟩ := Jvm.Stand.arrayOver_specB h
  obtain ⟨k', hk', he⟩ := hvm.2.2 _ _ h3
  have hi : (U.vm.classes.findIdx? fun (x : Class) => match x.kind with | .array component _ => component == comp | _ => false) = some c := by
    refine (va_idx_bare U.vm comp).symm.trans ?_
    first | (rw [hvm.bare_eq]; exact (va_idx_bare u.vm comp).trans h2) | (rw [← hvm.bare_eq]; exact (va_idx_bare u.vm comp).trans h2)
  have hkind : k'.kind = .array comp (.array .int) := by rw [he]; exact h4
  have f1 : U.vm.findClass (FieldType.array .int).toString = some comp := by rw [hvm.findClass]; exact h1
  have f2 : U.vm.findClass ("[" ++ (FieldType.array .int).toString) = some c := by rw [hvm.findClass]; exact h5
  unfold n_AO Cond.before Cond.holds
  simp only [Cond.value]
  rw [f1, Option.bind_some]
  refine (congrArg (fun o : Option Nat => (o.bind (fun c => (U.vm.classes[c]?).map fun (k : Class) => match k.kind with | .array _ ty => decide (ty = FieldType.array .int) && decide (U.vm.findClass ("[" ++ (FieldType.array .int).toString) = some c) | _ => false) == some true)) hi).trans ?_
  simp [hk', hkind, f2]
def n_multi (U : am_U) (E : nE) (n : Nat) : nE := fun q => if q = n then some (.inl (am_dA U 5, 12, .inr (.inr (.inr (.inr (fun i => if i < 12 then some (n_sz U + (n + 1 + i)) else none)))))) else if n < q ∧ q ≤ n + 12 then some (.inl (am_dA U 0, 4, .inl (fun _ => 0))) else E q
theorem n_inner (c : ClassId) : Jvm.Free.Multi.innerC c 4 (defaultValue .int) = vp_cell c (4, .inl (fun _ => 0)) := by
  show ({ cls := c, slots := Array.replicate 4 (.int 0), vm := .none } : Cell) = _
  rw [arrV_new]
  rfl
theorem n_outer (c : ClassId) (N h0 : Nat) : ∀ i : Nat, Jvm.Free.Multi.outerC c N h0 i = arrV c N (fun j => va_rf (if j < i then some (h0 + 1 + j) else none))
  | 0 => by
    show ({ cls := c, slots := Array.replicate N .null, vm := .none } : Cell) = _
    rw [arrV_new]
    refine congrArg (arrV c N) (funext fun j => ?_)
    simp [va_rf]
  | i + 1 => by
    show (Jvm.Free.Multi.outerC c N h0 i).setSlot i (.ref (h0 + 1 + i)) = _
    rw [n_outer c N h0 i, arrV_store]
    refine congrArg (arrV c N) (funext fun j => ?_)
    by_cases e : j = i
    · subst e
      simp [updV, va_rf]
    · by_cases h : j < i
      · simp [updV, e, h, Nat.lt_succ_of_lt h]
      · simp [updV, e, h, show ¬ j < i + 1 by omega]
set_option maxHeartbeats 4000000 in
theorem NW.multi {ix : Nat} (ok : am_ok xx U G own cc nL) (hO : n_AO (am_s0 U)) (w1 : Cond.classLink own ix ("[" ++ (FieldType.array .int).toString) ∈ am_WS xx) (w2 : Cond.arrayClass .int ∈ am_WS xx) (hr : kc + 13 ≤ (am_gR G).cells ∧ ks + 60 ≤ (am_gR G).slots) (hdg : decode cc pc = .ok (.multianewarray ix 2, 4))
    (kk : NW U G nL (kc + 13) (ks + 60) (n_multi U E n) (n + 13) Q (pc + 4) L (.ref (n_sz U + n) :: st)) : NW U G nL kc ks E n Q pc L (.int (nI 4) :: .int (nI 12) :: st) := by
  intro H locs ls hH hz hlo hl T hT Xs
  obtain ⟨vm₁, cA, comp, -, fA, fC, hO9, -, X', step⟩ := Xs.multianewarray2F ok.1 ok.2.2.2.1 (ok.2.2.2.2.1 _ w1) (n_AO.moved ok.2.2.2.2.2.1.alike hO) (ok.2.2.2.2.1 _ w2) (g := F0 (am_gm G) pc ls (.int (nI 4) :: .int (nI 12) :: st.map (am_v id))) rfl (by rw [ok.2.1]; exact hdg) rfl (by decide) (by decide) (by decide) (by decide) (by decide) rfl rfl (by show kc + (1 + 12) ≤ _; exact hr.1) (by show ks + (12 + 12 * 4) ≤ _; exact hr.2)
  have hR5 := va_RA.moved ok.2.2.2.2.2.1.alike (ok.2.2.2.2.2.2.1.2.2.1 5 (by decide)).2
  have hR0 := va_RA.moved ok.2.2.2.2.2.1.alike (ok.2.2.2.2.2.2.1.2.2.1 0 (by decide)).2
  have hR5 : (am_gs G).vm.findClass ("[" ++ (FieldType.array .int).toString) = some (am_dA U 5) := hR5
  have hR0 : (am_gs G).vm.findClass ("[" ++ (FieldType.int).toString) = some (am_dA U 0) := hR0
  have e5 : cA = am_dA U 5 := Option.some.inj (fA.symm.trans hR5)
  have e0 : comp = am_dA U 0 := Option.some.inj (fC.symm.trans hR0)
  subst e5
  subst e0
  change Stand _ _ _ _ _ _ _ _ _ _ (Jvm.Free.Multi.fill (T.setVm vm₁) (am_dA U 5) (am_dA U 0) 12 4 (defaultValue .int) 12) locs (kc + 1 + 12) (ks + 12 + 12 * 4) at X'
  change ∀ target, Steps _ _ _ ((Jvm.Free.Multi.fill (T.setVm vm₁) (am_dA U 5) (am_dA U 0) 12 4 (defaultValue .int) 12).setTop (F0 (am_gm G) (pc + 4) ls (.ref T.heap.size :: st.map (am_v id)))) target → _ at step
  generalize hF : Jvm.Free.Multi.fill (T.setVm vm₁) (am_dA U 5) (am_dA U 0) 12 4 (defaultValue .int) 12 = F at X' step
  have hTh : (T.setVm vm₁).heap = H := hT
  obtain ⟨f1, f2, -, -⟩ := Jvm.Free.Multi.fill_facts (T.setVm vm₁) (am_dA U 5) (am_dA U 0) 12 4 (defaultValue .int) 12
  rw [hF, hTh] at f1 f2
  have hold : ∀ x : Nat, x < H.size → F.heap[x]? = H[x]? := fun x hx => by
    have := Jvm.Free.Multi.fill_old (T.setVm vm₁) (am_dA U 5) (am_dA U 0) 12 4 (defaultValue .int) (a := x) (by rw [hTh]; exact hx) 12
    rw [hF, hTh] at this
    exact this
  have hrow : ∀ j : Nat, j < 12 → F.heap[H.size + 1 + j]? = some (vp_cell (am_dA U 0) (4, .inl (fun _ => 0))) := fun j hj => by
    have := Jvm.Free.Multi.fill_inner (T.setVm vm₁) (am_dA U 5) (am_dA U 0) 12 4 (defaultValue .int) 12 j hj
    rw [hF, hTh, n_inner] at this
    exact this
  have hs := hH.1
  have hHF : n_H U (n_multi U E n) (n + 13) F.heap := by
    refine ⟨by rw [f1]; omega, fun q hq => (hold q (by omega)).trans (hH.2.1 q hq), fun j e' hj => ?_⟩
    unfold n_multi at hj
    by_cases c1 : j = n
    · subst c1
      rw [if_pos rfl] at hj
      cases hj
      show F.heap[n_sz U + j]? = some (vp_cell _ _)
      rw [vp_cell_q, ← hs, f2, n_outer]
      congr 2
      funext i
      rw [show n_sz U + (j + 1 + i) = H.size + 1 + i by omega]
    · rw [if_neg c1] at hj
      by_cases c2 : n < j ∧ j ≤ n + 12
      · rw [if_pos c2] at hj
        cases hj
        show F.heap[n_sz U + j]? = some (vp_cell _ _)
        have := hrow (j - n - 1) (by omega)
        rw [show H.size + 1 + (j - n - 1) = n_sz U + j by omega] at this
        exact this
      · rw [if_neg c2] at hj
        have h4 := hH.2.2 j e' hj
        have h5 := h4.lt
        exact h4.kept (hold _ h5)
  obtain ⟨t, a1, b1⟩ := kk F.heap locs ls hHF (by rw [f1]; omega) hlo hl F rfl X'
  refine ⟨t, step t ?_, b1⟩
  have e : T.heap.size = n_sz U + n := by rw [hT]; exact hs
  rw [e]
  exact a1
/-- a write of a field: not final, or final in the constructor itself -/
def n_pf (own : String) (ix ci k : Nat) (C : String) (T : u_T) (N : Nat) (ty0 : Nat → FieldType) : Prop := vwCl[ci]? = some (C, T, N) ∧ (∀ w ∈ u_ws C T N, w ∈ am_WS xx) ∧ k < N ∧ Cond.fieldLink own ix (T k).1 (T k).2.1 (T k).2.2.1 ∈ am_WS xx ∧
  (∀ k, k < N → parseFieldDescriptor (T k).2.2.1 = some (ty0 k)) ∧ (∀ a, a < N → ∀ b, b < N → a ≠ b → (T a).2.1 ≠ (T b).2.1)
theorem NW.put {C : String} {T : u_T} {N ci k ix a : Nat} {ty0 : Nat → FieldType} {v : Value} {fs : List Value} (ok : am_ok xx U G own cc nL) (hf : n_pf own ix ci k C T N ty0) (hfin : (T k).2.2.2 = false ∨ ((T k).2.2.2 = true ∧ (am_gt G).name = "<init>" ∧ (T k).1 = own)) (hn : narrow (ty0 k) v = v) (hfit : fits (ty0 k) v = true) (he : E a = some (.inr (ci, fs))) (hl9 : k < fs.length) (hdg : decode cc pc = .ok (.putfield ix, 3))
    (kk : NW U G nL kc ks (nset E a (.inr (ci, fs.set k (am_v id v)))) n Q (pc + 3) L st) : NW U G nL kc ks E n Q pc L (v :: .ref (n_sz U + a) :: st) := by
  intro H locs ls hH hz hlo hl
  obtain ⟨hc, hin, hk, hlink, hty, hnm⟩ := hf
  have hts := ok.2.2.2.2.1
  have hown := ok.2.2.2.1
  have hK := am_ok.K ok
  have hap := va_apart (own := own) hts hin ty0 hty hnm hK hc
  obtain ⟨r, h1, cell, q1, q2, q3, q4⟩ := hH.2.2 a _ he
  have hr : r = (C, T, N) := Option.some.inj (h1.symm.trans hc)
  subst hr
  obtain ⟨hS, hfc, kC, hkC, hkind⟩ := hK.1 ci _ hc
  obtain ⟨cf, kf, fi, f, hi, hsl⟩ := hS k hk
  have hlay := hts _ (hin _ (u_in_lay hk))
  have ev : am_v id v = v := by cases v <;> rfl
  have hd := hty k hk
  have hst := (u_facts hfc hkC (u_lays hts hin hk) hi).1
  have fin : ∀ H' : Heap, H'[n_sz U + a]? = some (cell.setSlot f.slot (am_v id v)) → H'.size = H.size → (∀ q, q ≠ n_sz U + a → H'[q]? = H[q]?) → am_W G H' (locs ++ [⟨n_sz U + a, f.slot⟩]) kc ks Q (F0 (am_gm G) (pc + 3) ls (st.map (am_v id))) := fun H' e1 e2 e3 => by
    rw [hsl] at e1 ⊢
    exact kk H' _ ls (hH.put e2 e3 ⟨_, hc, t_OB.to (V := updV (vp_V fs) k (am_v id v)) ⟨_, e1, q2, q3, t_set q4 hap hk (am_v id v)⟩ (fun j _ => vp_updV_set hl9 (am_v id v) j)⟩) (by rw [e2]; exact hz) (am_locs hlo (Nat.le_add_right _ _)) hl
  rcases hfin with hfin | ⟨hfin, hin2, hdecl⟩
  · unfold u_lay at hlay
    rw [if_neg (by rw [hfin]; decide)] at hlay
    have h6 := u_store (v := am_v id v) hfc hkC hkind hlay hi hd (by rw [ev]; exact hn) (by rw [ev]; exact hfit)
    exact W.putK ok.1 ok.2.1 (f := f) ⟨hown, hts _ hlink, ⟨_, _, _, hi⟩, hst⟩ (by rw [q2]; exact h6) q1 q3 (by rw [hsl]; exact k2_hasslot (q4 k hk)) rfl rfl hdg fin
  · unfold u_lay at hlay
    rw [if_pos hfin] at hlay
    have hcf : (am_gm G).cls = cf := by
      obtain ⟨_, _, c', _, _, _, -, -, hf', -, -, -, hown2, -⟩ := Cond.laysFinal_spec hlay
      have e1 : c' = cf := by have := hi.symm.trans hf'; simp at this; exact this.1.symm
      rw [hdecl] at hown2
      rw [← e1]
      exact Option.some.inj (hown.symm.trans hown2)
    have h6 := u_fits (v := am_v id v) hfc hkC hkind (Or.inr hlay) hi hd (by rw [ev]; exact hn) (by rw [ev]; exact hfit)
    exact W.putFinK ok.1 ok.2.1 hown (hts _ hlink) hi hst hcf hin2 (by rw [q2]; exact h6) q1 q3 (by rw [hsl]; exact k2_hasslot (q4 k hk)) rfl rfl hdg fin
theorem NW.get {C : String} {T : u_T} {N ci k ix a : Nat} {v : Value} {fs : List Value} (ok : am_ok xx U G own cc nL) (hc : vwCl[ci]? = some (C, T, N)) (hin : ∀ w ∈ u_ws C T N, w ∈ am_WS xx) (hk : k < N) (hlink : Cond.fieldLink own ix (T k).1 (T k).2.1 (T k).2.2.1 ∈ am_WS xx) (he : E a = some (.inr (ci, fs))) (hv : fs[k]? = some (am_v id v)) (hdg : decode cc pc = .ok (.getfield ix, 3))
    (kk : NW U G nL kc ks E n Q (pc + 3) L (v :: st)) : NW U G nL kc ks E n Q pc L (.ref (n_sz U + a) :: st) := by
  intro H locs ls hH hz hlo hl
  exact va_get (D := am_D U) (cl := vwCl) (ci := ci) (C := C) (T := T) (N := N) (ws := [(n_sz U + a, .inr (ci, fs))]) ok.1 ok.2.1 ok.2.2.2.2.1 hin ok.2.2.2.1 (am_ok.K ok) (n_one hH he) 0 rfl hc k hk (ok.2.2.2.2.1 _ hlink) (fun _ h9 => h9) hv hdg (kk H locs ls hH hz hlo hl)
theorem NW.ic {cond : Jvm.ClassFile.Cond} {off : Int} {x y : Int32} (ok : am_ok xx U G own cc nL) (tgt : Nat) (hdg : decode cc pc = .ok (.if_icmp cond off, 3)) (ht : (pc : Int) + off = (tgt : Int)) (kt : am_cnd cond x y → NW U G nL kc ks E n Q tgt L st) (kf : ¬ am_cnd cond x y → NW U G nL kc ks E n Q (pc + 3) L st) :
    NW U G nL kc ks E n Q pc L (.int y :: .int x :: st) := by
  intro H locs ls hH hz hlo hl
  have a1 := fun h => kt h H locs ls hH hz hlo hl
  have a2 := fun h => kf h H locs ls hH hz hlo hl
  cases cond
  · exact lv_icmp_eq ok.1 ok.2.1 hdg ht a1 a2
  · exact lv_icmp_ne ok.1 ok.2.1 hdg ht a1 (fun h => a2 (fun q => q h))
  · exact lv_icmp_lt ok.1 ok.2.1 hdg ht a1 a2
  · exact lv_icmp_ge ok.1 ok.2.1 hdg ht a1 a2
  · exact lv_icmp_gt ok.1 ok.2.1 hdg ht a1 a2
  · exact lv_icmp_le ok.1 ok.2.1 hdg ht a1 a2
theorem NW.aast {t N a b ci : Nat} {r : vw_C} {i : Int32} {f : Nat → Option Nat} {fs : List Value} (ok : am_ok xx U G own cc nL) (ht : t < 8) (htA : am_tA xx t = .object r.1) (hc : vwCl[ci]? = some r) (ha : E a = some (.inl (am_dA U t, N, .inr (.inr (.inr (.inr f)))))) (hb9 : E b = some (.inr (ci, fs))) (hin : vp_in i N) (hdg : decode cc pc = .ok (.aastore, 1))
    (kk : NW U G nL kc ks (nset E a (.inl (am_dA U t, N, .inr (.inr (.inr (.inr (fun q => if q = i.toNatClampNeg then some (n_sz U + b) else f q)))))))  n Q (pc + 1) L st) : NW U G nL kc ks E n Q pc L (.ref (n_sz U + b) :: .int i :: .ref (n_sz U + a) :: st) := by
  intro H locs ls hH hz hlo hl
  have hRA := va_RA.moved ok.2.2.2.2.2.1.alike (ok.2.2.2.2.2.2.1.2.2.1 t ht).2
  rw [htA] at hRA
  obtain ⟨kA, comp, k1, k2, k3, -⟩ := hRA
  obtain ⟨cellV, g1, g3, g2⟩ := va_recv (q0 := 0) (am_ok.K ok) (n_one hH hb9) hc rfl
  obtain ⟨kE, hkE, -⟩ := Vm.findClass_spec k3
  obtain ⟨kC, hkC, -⟩ := Vm.findClass_spec g2
  have hlt : i.toNatClampNeg < N := Nat.not_le.mp fun q => hin (Or.inr q)
  have h00 : ¬ i < 0 := fun q => hin (Or.inl q)
  have hcell : H[n_sz U + a]? = some (vp_cell (am_dA U t) (N, .inr (.inr (.inr (.inr f))))) := hH.2.2 a _ ha
  refine W.aast ok.1 ok.2.1 hcell (fun q h => by cases h) (fun h => by cases h) k1 k2 rfl hkE ⟨h00, by show _ < (arrV _ _ _).slots.size; rw [arrV_size]; exact hlt⟩ g1 (fun q h => by rw [h] at g3; cases g3) hkC (vb_asgS _ _ k3 g2) rfl rfl hdg fun H1 e z oq => ?_
  refine kk H1 _ ls (hH.put z oq ?_) (by rw [z]; exact hz) (am_locs hlo (Nat.le_add_right _ _)) hl
  show H1[n_sz U + a]? = some (vp_cell (am_dA U t) _)
  rw [e, vp_cell_q, vp_cell_q, arrV_store]
  congr 2
  funext q
  by_cases hq : q = i.toNatClampNeg
  · subst hq
    simp [updV, va_rf]
  · simp [updV, va_rf, hq]
theorem NW.vret {rm : Room} (ok : am_ok xx U G own cc nL) (hr : (am_gt G).sig.returnType = none) (hc : kc ≤ rm.cells) (hs : ks ≤ rm.slots) (hdg : decode cc pc = .ok (.return_, 1)) : NW U G nL kc ks E n (n_End U G rm E n) pc L [] := by
  intro H locs ls hH hz hlo hl
  exact W.widen hc hs (W.vret ok.1 ok.2.1 hr (fun t ht _ => ⟨rfl, by rw [ht]; exact hH, by rw [ht]; exact hz⟩) hlo hdg ok.2.2.2.2.2.2.2.1)
/-- the words of a call of a constructor, plain or of a nest mate -/
def n_cI (own : String) (ix : Nat) (y : MethodName) (host : Option String) (b : ByteArray) (nL : Nat) : Prop :=
  (match host with | none => Cond.methodLink own ix y ∈ am_WS xx | some h => Cond.methodLinkNest own ix y h ∈ am_NS xx) ∧ Cond.instanceMethod y ∈ am_WS xx ∧ Cond.initialized y.cls ∈ am_WS xx ∧ Cond.code y b nL none ∈ am_WS xx ∧ y.name = "<init>" ∧
  (y.cls ≠ "java/lang/invoke/MethodHandle" ∧ y.cls ≠ "java/lang/invoke/VarHandle" ∧ (parseMethodDescriptor y.desc).map (fun d => d.parameters.length) = some 0)
set_option maxHeartbeats 4000000 in
theorem NW.call {y : MethodName} {host : Option String} {b : ByteArray} {nL' ix a n' : Nat} {rm : Room} {E' : nE} (ok : am_ok xx U G own cc nL) (hC : n_Ct U (am_gl G) y b nL' rm a E n E' n') (hcv : n_cI own ix y host b nL')
    (hst : (st.map fun v => v.category).sum ≤ 8) (hR : rm.frames + 1 ≤ (am_gR G).frames ∧ 8 + (nL' + 11) + rm.locals ≤ (am_gR G).locals) (hf : kc + rm.cells ≤ (am_gR G).cells ∧ ks + rm.slots ≤ (am_gR G).slots) (hdg : decode cc pc = .ok (.invokespecial ix, 3))
    (kk : NW U G nL (kc + rm.cells) (ks + rm.slots) E' n' Q (pc + 3) L st) : NW U G nL kc ks E n Q pc L (.ref (n_sz U + a) :: st) := by
  intro H locs ls hH hz hlo hl
  obtain ⟨w1, w2, w4, w5, hy, hd⟩ := hcv
  have hts := ok.2.2.2.2.1
  have hw := am_wordsok ok
  have hT : GoodIn (am_WS xx) (Cond.code y b nL' none :: am_WS xx) := am_good hw (by
    intro w hm
    rcases List.mem_cons.mp hm with rfl | hm
    · exact w5
    · exact hm)
  have hp : PreS (am_gs G) H (fun v S => v = (([.ref (n_sz U + a)] : List Value).map (am_v id)).toArray ∧ n_H U E n S.heap ∧ (am_s0 U).WarmedH S.vm) [.ref (n_sz U + a)] :=
    ⟨fun _ _ _ _ q => q, fun S hS hWS => ⟨rfl, by rw [hS]; exact hH, State.WarmedH.trans ok.2.2.2.2.2.1 hWS⟩⟩
  have hcat : 2 * (F0 (am_gm G) pc ls ((.ref (n_sz U + a) :: st).map (am_v id))).monitorRoom + ((st.map (am_v id)).map fun v => v.category).sum ≤ 8 := by
    show 2 * 0 + _ ≤ 8
    rw [am_cat]
    omega
  have hrun : va_Run (am_gp G) (am_gl G) (am_ge G) (am_gR G) (am_gs G) (am_gm G) (am_ga G) (am_gb G) (am_gt G) (am_gc G) H locs kc ks rm.cells rm.slots (F0 (am_gm G) pc ls ((.ref (n_sz U + a) :: st).map (am_v id))) (st.map (am_v id)) (n_Qc U E' n' (Value.ref (n_sz U + a) :: []).toArray) (n_fr U) := by
    cases host with
    | none =>
      exact va_runI (Ts := am_WS xx) (nL := nL) (own := own) (As := []) ⟨ok.1, ok.2.1, ok.2.2.1, ok.2.2.2.1, hts⟩ hC (cwI (ws := Cond.code y b nL' none :: am_WS xx) 0 hts hT rfl rfl rfl (hts _ w4) (hts _ w1) (hts _ w2) hy hd hR) hp rfl rfl hl.1 rfl hcat hdg hf
    | some h =>
      exact va_runIN (Ts := am_WS xx) (nL := nL) (own := own) (As := []) ⟨ok.1, ok.2.1, ok.2.2.1, ok.2.2.2.1, hts⟩ hC ⟨va_cnB (ws := Cond.code y b nL' none :: am_WS xx) 0 hts hT rfl rfl rfl (am_NS_moved ok.2.2.2.2.2.2.1 ok.2.2.2.2.2.1 w1) (hts _ w4) hd hR, hy, hts _ w2⟩ hp rfl rfl hl.1 rfl hcat hdg hf
  intro T hT2 XX
  obtain ⟨v, st₀, t, T', L9, h0, X', hL, e1, e2, ⟨hv, hH1, hsz⟩, stp⟩ := hrun T hT2 XX
  cases hv
  have hlo2 : ∀ q ∈ locs ++ L9, n_sz U ≤ q.base := fun q hq => (List.mem_append.mp hq).elim (hlo q) (hL q)
  obtain ⟨t2, a1, b1⟩ := kk T'.heap (locs ++ L9) ls (by rw [e1]; exact hH1) (by rw [e1]; exact Nat.le_trans (by rw [← h0] at hz; exact hz) hsz) hlo2 hl T' rfl X'
  exact ⟨t2, stp t2 a1, b1⟩
end NWS
