/-! ===== AM4: contracts, calls, ends ===== -/
def am_St (X : am_X) (U : am_U) (V : am_V) (S : State) : Prop := am_H X U V S.heap ∧ (am_s0 U).WarmedH S.vm
/-- what a method's end owes: an answer, or the class of an exception, and the table behind it -/
abbrev am_P : Type := (Option Value ⊕ String) → am_V → Prop
def am_is (res : Option Value ⊕ String) (V : am_V) : am_P := fun x W => x = res ∧ W = V
def am_Qc (X : am_X) (U : am_U) (P : am_P) : Array Value → State → Outcome → State → Prop := fun _ st o t => ∃ (r : Option Value) (V : am_V), P (.inl r) V ∧ o = .returned (r.map (am_v (am_ad U))) ∧ am_H X U V t.heap ∧ st.heap.size ≤ t.heap.size
def am_XC (X : am_X) (U : am_U) (P : am_P) : String → State → State → Prop := fun E st t => ∃ V : am_V, P (.inr E) V ∧ am_H X U V t.heap ∧ st.heap.size ≤ t.heap.size
def am_fr (U : am_U) : Addr → Prop := fun q => (am_s0 U).heap.size ≤ q
/-- the contract of a method at these arguments and this table: it comes to an end with P -/
def am_Ct (X : am_X) (U : am_U) (l : Launch) (y : MethodName) (b : ByteArray) (nL : Nat) (ret : Option FieldType) (rm : Room) (As : List Value) (V : am_V) (P : am_P) : Prop :=
  vx_Met l y (Cond.code y b nL ret :: am_WS X) rm (fun v S => v = (As.map (am_v (am_ad U))).toArray ∧ am_St X U V S) (am_Qc X U P) (am_XC X U P) rm.cells rm.slots (am_fr U)
def am_End (X : am_X) (U : am_U) (G : am_G) (rm : Room) (P : am_P) : State → Prop :=
  vx_MQ (am_gb G) (am_Qc X U P) (am_XC X U P) (am_ga G) (am_gs G) rm.cells rm.slots (am_fr U)
/-- the heap at the walk's start holds the world too: what stood before the law stands -/
def am_st0 (U : am_U) (G : am_G) : Prop := (am_s0 U).heap.size ≤ (am_gs G).heap.size ∧ ∀ q : Nat, q < (am_s0 U).heap.size → (am_gs G).heap[q]? = (am_s0 U).heap[q]?
def am_L0 : Nat → List Value → List (Option Value)
  | n, [] => List.replicate n none
  | n, v :: r => if (v.category == 2) = true then some v :: none :: am_L0 (n - 2) r else some v :: am_L0 (n - 1) r
theorem am_rep (n i : Nat) (v : Value) (h : am_get (List.replicate n none) i = some v) : False := by
  unfold am_get at h
  rw [List.getElem?_replicate] at h
  by_cases e : i < n
  · rw [if_pos e] at h
    cases h
  · rw [if_neg e] at h
    cases h
theorem am_args (ad : Nat → Nat) : ∀ (As : List Value) (n j i : Nat) (v : Value), am_get (am_L0 n As) i = some v → (j + i, am_v ad v) ∈ lv_args j (As.map (am_v ad))
  | [], n, j, i, v, h => (am_rep n i v h).elim
  | w :: r, n, j, i, v, h => by
    simp only [am_L0] at h
    simp only [List.map_cons, lv_args, am_v_cat]
    by_cases hc : w.category = 2
    · rw [if_pos (by simp [hc])] at h
      rw [if_pos hc]
      match i, h with
      | 0, h =>
        cases h
        exact List.mem_cons_self
      | 1, h => cases h
      | i + 2, h =>
        have := am_args ad r (n - 2) (j + 2) i v h
        rw [show j + 2 + i = j + (i + 2) by omega] at this
        exact List.mem_cons_of_mem _ this
    · rw [if_neg (by simp [hc])] at h
      rw [if_neg hc]
      match i, h with
      | 0, h =>
        cases h
        exact List.mem_cons_self
      | i + 1, h =>
        have := am_args ad r (n - 1) (j + 1) i v h
        rw [show j + 1 + i = j + (i + 1) by omega] at this
        exact List.mem_cons_of_mem _ this
theorem am_sl (ad : Nat → Nat) : ∀ As : List Value, (lg_sl (As.map (am_v ad))).length = (As.map Value.category).sum
  | [] => rfl
  | v :: r => by
    have h := am_sl ad r
    unfold lg_sl at h ⊢
    rw [List.map_cons, List.flatMap_cons, List.length_append, h, am_v_cat, List.map_cons, List.sum_cons]
    rcases lv_cat v with e | e <;> simp [e]
theorem am_NS_moved {X : am_X} {U : am_U} {S : State} (hb : am_base X U) (hW : (am_s0 U).WarmedH S.vm) {w : Cond} (hw : w ∈ am_NS X) : va_Nw w S := by
  rcases hb.1.1.2 w hw with ⟨a, i, y, h, rfl⟩ | ⟨a, i, b, n, d, h, rfl⟩ | ⟨a, b, rfl⟩ | ⟨y, rfl⟩
  · exact va_Nw.warmM hW (hb.1.2.1 _ hw)
  · exact va_Nw.warmF hW (hb.1.2.1 _ hw)
  · exact va_Nw.warmC hW (hb.1.2.1 _ hw)
  · exact va_Nw.warmD hW (hb.1.2.1 _ hw)
theorem am_NS_on {X : am_X} {U : am_U} (hb : am_base X U) {w : Cond} (hw : w ∈ am_NS X) : w.onTables = true := by
  rcases hb.1.1.2 w hw with ⟨a, i, y, h, rfl⟩ | ⟨a, i, b, n, d, h, rfl⟩ | ⟨a, b, rfl⟩ | ⟨y, rfl⟩ <;> rfl
set_option maxHeartbeats 4000000 in
/-- a contract by a walk of the body -/
theorem am_Ct.of {X : am_X} {U : am_U} {l : Launch} {y : MethodName} {b : ByteArray} {nL : Nat} {ret : Option FieldType} {rm : Room} {As : List Value} {V : am_V} {P : am_P} (hb : am_base X U) (hfl : l.stackTraces = false) (hy : plainName y.cls = true) (hlen : (As.map Value.category).sum ≤ nL)
    (body : ∀ G : am_G, am_gl G = l → am_gR G = rm → (am_gt G).sig.returnType = ret → am_ok X U G y.cls b nL → am_st0 U G → (∀ x ∈ (am_gc G).exceptionTable.toList, False) → AW X U G nL 0 0 V (am_End X U G rm P) 0 (am_L0 nL As) []) : am_Ct X U l y b nL ret rm As V P := by
  refine vx_ofW (cc := b) (maxL := nL) (ret := ret) hy rfl ?_
  intro p e s m args below meth c s₁ B hml hex hv
  obtain ⟨rfl, hH, hW⟩ := hv
  have hts := atoms_spec (ws := Cond.code y b nL ret :: am_WS X) B.pre
  have hown : s.vm.findClass y.cls = some m.cls := findClass_of_methodNamed B.named
  have ok : am_ok X U (l, p, e, rm, s, m, (As.map (am_v (am_ad U))).toArray, below, meth, c) y.cls b nL := ⟨B.exec, B.bytes, hml, hown, fun w hw => hts w (List.mem_cons_of_mem _ hw), hW, hb, B.notSynchronized, hfl⟩
  have h1 := body (l, p, e, rm, s, m, (As.map (am_v (am_ad U))).toArray, below, meth, c) rfl rfl B.returns ok hH.2 hex
  rw [lg_entry_eq]
  have he := lv_entry (As.map (am_v (am_ad U))) (n := nL) (by rw [am_sl]; exact hlen)
  exact h1 s.heap [] _ hH (Nat.le_refl _) (fun q hq => by cases hq) ⟨he.1, he.2.1, fun i v hi => by
    have h2 := am_args (am_ad U) As nL 0 i v hi
    rw [Nat.zero_add] at h2
    exact he.2.2 _ h2⟩
section AMC
variable {X : am_X} {U : am_U} {G : am_G} {own : String} {cc : ByteArray} {nL kc ks pc pc' : Nat} {V : am_V} {Q : State → Prop} {L L' : List (Option Value)} {st st' : List Value}
/-- an exception of class E has come over the frame at pc -/
def AX (X : am_X) (U : am_U) (G : am_G) (nL kc ks : Nat) (V : am_V) (Q : State → Prop) (E : String) (pc : Nat) (L : List (Option Value)) : Prop :=
  ∀ (H : Heap) (locs : List Loc) (ls : Array Slot) (rest : List Value) (q : Addr) (ce : Cell), am_H X U V H → (am_gs G).heap.size ≤ H.size → (∀ q ∈ locs, (am_s0 U).heap.size ≤ q.base) → am_l (am_ad U) nL L ls →
    H[q]? = some ce → ce.vm = .none → (am_gs G).vm.findClass E = some ce.cls →
    vx_W (am_gp G) (am_gl G) (am_ge G) (am_gR G) (am_gs G) (am_gm G) (am_ga G) (am_gb G) (am_gt G) (am_gc G) H locs kc ks Q (F0 (am_gm G) pc ls rest) q
theorem am_wordsok {X : am_X} {U : am_U} {G : am_G} {own : String} {cc : ByteArray} {nL : Nat} (ok : am_ok X U G own cc nL) : am_words X := ok.2.2.2.2.2.2.1.1.1
/-- the words of a virtual call -/
def am_cv (X : am_X) (own : String) (index : Nat) (y : MethodName) (b : ByteArray) (nL : Nat) (ret : Option FieldType) (n : Nat) : Prop :=
  Cond.methodLink own index y ∈ am_WS X ∧ Cond.instanceMethod y ∈ am_WS X ∧ Cond.selects y.cls y y ∈ am_WS X ∧ Cond.initialized y.cls ∈ am_WS X ∧ Cond.code y b nL ret ∈ am_WS X ∧
  (y.cls ≠ "java/lang/invoke/MethodHandle" ∧ y.cls ≠ "java/lang/invoke/VarHandle" ∧ (parseMethodDescriptor y.desc).map (fun d => d.parameters.length) = some n)
def am_cs (X : am_X) (own : String) (index : Nat) (y : MethodName) (b : ByteArray) (nL : Nat) (ret : Option FieldType) (n : Nat) : Prop :=
  Cond.methodLink own index y ∈ am_WS X ∧ Cond.static y ∈ am_WS X ∧ Cond.initialized y.cls ∈ am_WS X ∧ Cond.code y b nL ret ∈ am_WS X ∧
  (y.cls ≠ "java/lang/invoke/MethodHandle" ∧ y.cls ≠ "java/lang/invoke/VarHandle" ∧ (parseMethodDescriptor y.desc).map (fun d => d.parameters.length) = some n)
def am_cn (X : am_X) (own : String) (index : Nat) (y : MethodName) (host : String) (b : ByteArray) (nL : Nat) (ret : Option FieldType) (n : Nat) : Prop :=
  Cond.methodLinkNest own index y host ∈ am_NS X ∧ Cond.static y ∈ am_WS X ∧ Cond.initialized y.cls ∈ am_WS X ∧ Cond.code y b nL ret ∈ am_WS X ∧
  (y.cls ≠ "java/lang/invoke/MethodHandle" ∧ y.cls ≠ "java/lang/invoke/VarHandle" ∧ (parseMethodDescriptor y.desc).map (fun d => d.parameters.length) = some n)
theorem am_good (hw : am_words X) {ws : List Cond} (h : ∀ w ∈ ws, w ∈ am_WS X) : GoodIn (am_WS X) ws := fun w hm => ⟨h w hm, hw.1 w (h w hm)⟩
theorem am_blind (As : List Value) : FrameBlind (fun v S => v = (As.map (am_v (am_ad U))).toArray ∧ am_St X U V S) := fun _ _ _ _ q => q
end AMC
