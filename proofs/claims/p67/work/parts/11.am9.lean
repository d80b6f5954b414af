/-! ===== AM8: arraycopy of numbers; handlers ===== -/
def am_row (V : am_V) (c : Nat) (f : Nat → Int32) : am_V := fun d => if d = c then f else V d
theorem am_row_at (V : am_V) (c : Nat) (f : Nat → Int32) : am_row V c f c = f := if_pos rfl
theorem am_row_ne (V : am_V) {c d : Nat} (f : Nat → Int32) (h : d ≠ c) : am_row V c f d = V d := if_neg h
def am_ac (X : am_X) (own : String) (index : Nat) : Prop := Cond.methodLink own index arraycopyName ∈ am_WS X ∧ Cond.native arraycopyName ∈ am_WS X ∧ Cond.static arraycopyName ∈ am_WS X ∧ Cond.initialized "java/lang/System" ∈ am_WS X
section AMI
variable {X : am_X} {U : am_U} {G : am_G} {own : String} {cc : ByteArray} {nL kc ks pc pc' : Nat} {V V1 : am_V} {Q : State → Prop} {L L' : List (Option Value)} {st st' : List Value} {H : Heap} {locs : List Loc} {ls : Array Slot}
theorem am_locsL {N0 : Nat} {locs L9 : List Loc} (h : ∀ q ∈ locs, N0 ≤ q.base) (h2 : ∀ q ∈ L9, N0 ≤ q.base) : ∀ q ∈ locs ++ L9, N0 ≤ q.base := fun q hq => (List.mem_append.mp hq).elim (h q) (h2 q)
set_option maxHeartbeats 4000000 in
theorem AW.copy {index c0 c1 t n0 n1 : Nat} {sp dp n : Int32} (ok : am_ok X U G own cc nL) (hw : am_ac X own index) (hs0 : am_sh X c0 = some (.inr (t, n0, .inl false))) (hs1 : am_sh X c1 = some (.inr (t, n1, .inl false))) (hw1 : am_wr X c1 = true) (ht : t < 8) (hty : am_tA X t = .int)
    (h1 : ¬ sp < 0) (h2 : ¬ dp < 0) (h3 : ¬ n < 0) (h4 : sp.toNatClampNeg + n.toNatClampNeg ≤ n0) (h5 : dp.toNatClampNeg + n.toNatClampNeg ≤ n1) (hframes : 1 ≤ (am_gR G).frames) (hlocals : (st.map fun v => v.category).sum + (nativeFrameWords "java/lang/System" "arraycopy" 5 + 11) ≤ (am_gR G).locals) (hdg : decode cc pc = .ok (.invokestatic index, 3))
    (kk : AW X U G nL kc ks (am_row V c1 (va_cpy (V c0) (V c1) sp.toNatClampNeg dp.toNatClampNeg n.toNatClampNeg)) Q (pc + 3) L st) : AW X U G nL kc ks V Q pc L (.int n :: .int dp :: .ref c1 :: .int sp :: .ref c0 :: st) := by
  intro H locs ls hH hz hlo hl
  have nn : ∀ z : Int32, ¬ z < 0 → z.toInt = (z.toNatClampNeg : Int) := by
    intro z hz
    have hz0 : (0 : Int) ≤ z.toInt := by
      have := Int32.not_lt.mp hz
      simpa using Int32.le_iff_toInt_le.mp this
    show z.toInt = ((z.toInt.toNat : Nat) : Int)
    omega
  have hA := am_ok.A ok ht
  rw [hty] at hA
  have hts := ok.2.2.2.2.1
  intro T hT XX
  have hc0 : H[am_ad U c0]? = some (vp_cell (am_dA U t) (n0, .inl (V c0))) := hH.1 c0 _ hs0
  have hc1 : H[am_ad U c1]? = some (vp_cell (am_dA U t) (n1, .inl (V c1))) := hH.1 c1 _ hs1
  obtain ⟨-, k0, hk0, cm0, hkk0⟩ := hA n0 (fun j => .int (V c0 j))
  obtain ⟨-, k1, hk1, cm1, hkk1⟩ := hA n1 (fun j => .int (V c1 j))
  obtain ⟨vm', X', step⟩ := XX.arraycopy ok.1 ok.2.2.2.1 (hts _ hw.1) (hts _ hw.2.1) (hts _ hw.2.2.1) (hts _ hw.2.2.2) (src := am_ad U c0) (dst := am_ad U c1) (cs := vp_cell (am_dA U t) (n0, .inl (V c0))) (cd := vp_cell (am_dA U t) (n1, .inl (V c1))) (srcPos := sp) (destPos := dp) (n := n) (by rw [hT]; exact hc0) (by rw [hT]; exact hc1)
    (fun _ h => by cases h) (fun _ h => by cases h) (fun h => by cases h) (fun h => by cases h) hk0 hk1 hkk0 hkk1 (by simp [refKind]) h1 h2 h3
    (by rw [nn sp h1, nn n h3]; show ¬ _ > ((arrV (am_dA U t) n0 (fun j => .int (V c0 j))).slots.size : Int); rw [arrV_size]; omega)
    (by rw [nn dp h2, nn n h3]; show ¬ _ > ((arrV (am_dA U t) n1 (fun j => .int (V c1 j))).slots.size : Int); rw [arrV_size]; omega)
    (fun vm₁ _ i hi => by
      have e : (vp_cell (am_dA U t) (n0, .inl (V c0))).slots.getD (sp.toNatClampNeg + i) .null = .int (V c0 (sp.toNatClampNeg + i)) := by
        show (arrV (am_dA U t) n0 (fun j => .int (V c0 j))).slots.getD _ _ = _
        rw [Array.getD_eq_getD_getElem?, arrV_read _ _ (by omega)]
        rfl
      refine ⟨?_, ?_⟩
      · rw [e]
        rfl
      · rw [e]
        exact trivial)
    (g := F0 (am_gm G) pc ls (.int n :: .int dp :: .ref (am_ad U c1) :: .int sp :: .ref (am_ad U c0) :: st.map (am_v (am_ad U)))) rfl (by rw [ok.2.2.1]; exact hl.1) (rest := st.map (am_v (am_ad U))) rfl (by rw [ok.2.1]; exact hdg) hframes (by rw [← am_cat (am_ad U)] at hlocals; show 2 * 0 + _ + _ ≤ _; omega)
  have e1 : copied (vp_cell (am_dA U t) (n0, .inl (V c0))) (vp_cell (am_dA U t) (n1, .inl (V c1))) sp dp n = vp_cell (am_dA U t) (n1, .inl (va_cpy (V c0) (V c1) sp.toNatClampNeg dp.toNatClampNeg n.toNatClampNeg)) := va_copied (fun z => .int z) _ _ _ _ h4
  rw [e1] at X' step
  have hl9 : am_ad U c1 < H.size := (Array.getElem?_eq_some_iff.mp hc1).1
  generalize hF : va_cpy (V c0) (V c1) sp.toNatClampNeg dp.toNatClampNeg n.toNatClampNeg = F at X' step kk
  have hheap : ((T.setVm vm').setCell (am_ad U c1) (vp_cell (am_dA U t) (n1, .inl F))).heap = H.setIfInBounds (am_ad U c1) (vp_cell (am_dA U t) (n1, .inl F)) := by rw [← hT]; rfl
  have oq : ∀ q : Nat, q ≠ am_ad U c1 → (H.setIfInBounds (am_ad U c1) (vp_cell (am_dA U t) (n1, .inl F)))[q]? = H[q]? := fun q hq => by simp [Array.getElem?_setIfInBounds, Ne.symm hq]
  have hat : va_at (am_D U) (am_cl X) (am_ad U c1, am_e (am_dA U) (am_ad U) F (.inr (t, n1, .inl false))) (H.setIfInBounds (am_ad U c1) (vp_cell (am_dA U t) (n1, .inl F))) := by
    show (H.setIfInBounds (am_ad U c1) _)[am_ad U c1]? = some _
    simp [Array.getElem?_setIfInBounds, hl9]
  have hHn := am_H.put (V1 := am_row V c1 F) ok.2.2.2.2.2.2.1 hH hs1 hw1 (am_row_at V c1 F) (fun d hd => am_row_ne V F hd) hat (by simp) oq
  obtain ⟨t9, a1, b1⟩ := kk _ _ ls hHn (by simp; exact hz) (am_locsL hlo (fun q hq => by
      obtain ⟨z, -, hz2⟩ := List.mem_map.mp hq
      rw [← hz2]
      exact ok.2.2.2.2.2.2.1.2.2.2.2 c1 _ hs1 hw1)) hl _ hheap X'
  exact ⟨t9, step t9 a1, b1⟩
/-! handlers: the frame that catches, its first row an astore -/
theorem am_store0 {ad : Nat → Nat} {nL : Nat} {L : List (Option Value)} {ls : Array Slot} {i : Nat} {w : Value} (h : am_l ad nL L ls) (hi : i < nL) (hc : w.category = 1) (hok : am_ok1 L i = true) :
    ∃ ls', storeLocals ls i w = some ls' ∧ am_l ad nL (L.set i none) ls' := by
  obtain ⟨h1, h2, h3⟩ := h
  obtain ⟨ls', e, h4⟩ := lv_store1 (l := []) (v := w) ⟨h1, h2, fun q hq => by cases hq⟩ hi hc
  refine ⟨ls', e, h4.1, h4.2.1, fun j v hw => ?_⟩
  rcases am_get_set L i j _ v hw with ⟨rfl, hv⟩ | ⟨hj, hg⟩
  · cases hv
  · obtain ⟨ls2, e2, h5⟩ := lv_store1 (l := [(j, am_v ad v)]) (v := w) ⟨h1, h2, fun q hq => by
      rw [List.mem_singleton.mp hq]
      exact h3 j v hg⟩ hi hc
    cases e.symm.trans e2
    refine h5.2.2 (j, am_v ad v) (List.mem_cons_of_mem _ (List.mem_filter.mpr ⟨List.mem_singleton.mpr rfl, ?_⟩))
    have hne : (j == i) = false := by simpa using hj
    have h6 : (j + 1 == i && (am_v ad v).category == 2) = false := by
      by_cases e1 : j + 1 = i
      · subst e1
        have h8 : (match am_get L j with | some v => v.category == 1 | none => true) = true := hok
        rw [hg] at h8
        simp [am_v_cat, eq_of_beq h8]
      · simp [e1]
    simp [hne, h6]
/-- a row of a method's table of handlers passes an exception of class E by: it doesn't cover the place, or names a class that E isn't -/
def am_hp (X : am_X) (own E : String) (pc : Nat) (z : ExceptionTableEntry) : Prop := covers z pc = false ∨ (z.catchType ≠ 0 ∧ ∃ nm : String, Cond.classLink own z.catchType nm ∈ am_WS X ∧ (E, nm) ∈ am_NC X)
theorem AX.catch {E name : String} {k : Nat} {n : Nat} (ok : am_ok X U G own cc nL) (pre : List ExceptionTableEntry) (x : ExceptionTableEntry) (suf : List ExceptionTableEntry) (hsplit : (am_gc G).exceptionTable.toList = pre ++ x :: suf) (hpass : ∀ z ∈ pre, am_hp X own E pc z) (hx : covers x pc = true) (h0 : x.catchType ≠ 0)
    (hlink : Cond.classLink own x.catchType name ∈ am_WS X) (hcast : Cond.castable E name ∈ am_NS X) (hk : k < nL) (hok : am_ok1 L k = true) (hd : (∃ q : Fin 4, q.val = k ∧ n = 1 ∧ decode cc x.handlerPc = .ok (.astore_n q, 1)) ∨ (n = 2 ∧ decode cc x.handlerPc = .ok (.astore k, 2)))
    (kk : AW X U G nL kc ks V Q (x.handlerPc + n) (L.set k none) []) : AX X U G nL kc ks V Q E pc L := by
  intro H locs ls rest q ce hH hz hlo hl hq hv hcl
  refine vx_catch ok.2.2.2.1 pre x suf hsplit (fun z hz => ?_) hx h0 (ok.2.2.2.2.1 _ hlink) (am_ok.NS ok hcast) hq hv hcl ?_
  · rcases hpass z hz with h | ⟨h1, nm, h2, h3⟩
    · exact Or.inl h
    · exact Or.inr ⟨h1, nm, ok.2.2.2.2.1 _ h2, am_ok.NC ok h3⟩
  · obtain ⟨ls', e', h'⟩ := am_store0 (w := .ref q) hl hk rfl hok
    have k2 := kk H locs ls' hH hz hlo h'
    rcases hd with ⟨q9, rfl, rfl, hdg⟩ | ⟨rfl, hdg⟩
    · intro T hT XX
      obtain ⟨t, a, b⟩ := k2 T hT XX
      refine ⟨t, ?_, b⟩
      have hx1 := ok.1
      have hb1 := ok.2.1
      jvm_step XX.here [XX.here.top, ↓top_set XX.here.top, hx1, hb1, hdg, e', Value.isRef]
      exact a
    · intro T hT XX
      obtain ⟨t, a, b⟩ := k2 T hT XX
      refine ⟨t, ?_, b⟩
      have hx1 := ok.1
      have hb1 := ok.2.1
      jvm_step XX.here [XX.here.top, ↓top_set XX.here.top, hx1, hb1, hdg, e', Value.isRef]
      exact a
end AMI
/-- the contract of a method with handlers -/
def am_CtW (X : am_X) (U : am_U) (l : Launch) (y : MethodName) (b : ByteArray) (nL : Nat) (ret : Option FieldType) (hh : List (Nat × Nat × Nat × Nat)) (rm : Room) (As : List Value) (V : am_V) (P : am_P) : Prop :=
  vx_Met l y (Cond.codeWith y b nL ret hh :: am_WS X) rm (fun v S => v = (As.map (am_v (am_ad U))).toArray ∧ am_St X U V S) (am_Qc X U P) (am_XC X U P) rm.cells rm.slots (am_fr U)
set_option maxHeartbeats 4000000 in
theorem am_CtW.of {X : am_X} {U : am_U} {l : Launch} {y : MethodName} {b : ByteArray} {nL : Nat} {ret : Option FieldType} {hh : List (Nat × Nat × Nat × Nat)} {rm : Room} {As : List Value} {V : am_V} {P : am_P} (hb : am_base X U) (hfl : l.stackTraces = false) (hy : plainName y.cls = true) (hlen : (As.map Value.category).sum ≤ nL)
    (body : ∀ G : am_G, am_gl G = l → am_gR G = rm → (am_gt G).sig.returnType = ret → am_ok X U G y.cls b nL → am_st0 U G → (am_gc G).exceptionTable.toList = tableOf hh → AW X U G nL 0 0 V (am_End X U G rm P) 0 (am_L0 nL As) []) : am_CtW X U l y b nL ret hh rm As V P := by
  refine vx_ofWH (cc := b) (maxL := nL) (ret := ret) (hh := hh) hy rfl ?_
  intro p e s m args below meth c s₁ B hml hv
  obtain ⟨rfl, hH, hW⟩ := hv
  have hts := atoms_spec (ws := Cond.codeWith y b nL ret hh :: am_WS X) B.pre
  have hown : s.vm.findClass y.cls = some m.cls := findClass_of_methodNamed B.named
  have hex := vx_table (x := y) B (hts _ List.mem_cons_self)
  have ok : am_ok X U (l, p, e, rm, s, m, (As.map (am_v (am_ad U))).toArray, below, meth, c) y.cls b nL := ⟨B.exec, B.bytes, hml, hown, fun w hw => hts w (List.mem_cons_of_mem _ hw), hW, hb, B.notSynchronized, hfl⟩
  have h1 := body (l, p, e, rm, s, m, (As.map (am_v (am_ad U))).toArray, below, meth, c) rfl rfl B.returns ok hH.2 hex
  rw [lg_entry_eq]
  have he := lv_entry (As.map (am_v (am_ad U))) (n := nL) (by rw [am_sl]; exact hlen)
  exact h1 s.heap [] _ hH (Nat.le_refl _) (fun q hq => by cases hq) ⟨he.1, he.2.1, fun i v hi => by
    have h2 := am_args (am_ad U) As nL 0 i v hi
    rw [Nat.zero_add] at h2
    exact he.2.2 _ h2⟩
