/-! ===== methods with handlers, and calls of them ===== -/
def am_csW (X : am_X) (own : String) (index : Nat) (y : MethodName) (b : ByteArray) (nL : Nat) (ret : Option FieldType) (hh : List (Nat × Nat × Nat × Nat)) (n : Nat) : Prop :=
  Cond.methodLink own index y ∈ am_WS X ∧ Cond.static y ∈ am_WS X ∧ Cond.initialized y.cls ∈ am_WS X ∧ Cond.codeWith y b nL ret hh ∈ am_WS X ∧
  (y.cls ≠ "java/lang/invoke/MethodHandle" ∧ y.cls ≠ "java/lang/invoke/VarHandle" ∧ (parseMethodDescriptor y.desc).map (fun d => d.parameters.length) = some n)
section
variable {X : am_X} {U : am_U} {G : am_G} {own : String} {cc : ByteArray} {nL kc ks pc pc' : Nat} {V V1 : am_V} {Q : State → Prop} {L L' : List (Option Value)} {st st' : List Value} {P : am_P} {H : Heap} {locs : List Loc} {ls : Array Slot}
set_option maxHeartbeats 4000000 in
theorem AW.callSW {y : MethodName} {b : ByteArray} {nL' n index : Nat} {ret : Option FieldType} {hh : List (Nat × Nat × Nat × Nat)} {rm : Room} {As : List Value}
    (ok : am_ok X U G own cc nL) (hC : am_CtW X U (am_gl G) y b nL' ret hh rm As V P) (hcv : am_csW X own index y b nL' ret hh n) (hn : As.length = n)
    (hst : (st.map fun v => v.category).sum ≤ 8) (hR : rm.frames + 1 ≤ (am_gR G).frames ∧ 8 + (nL' + 11) + rm.locals ≤ (am_gR G).locals) (hf : kc + rm.cells ≤ (am_gR G).cells ∧ ks + rm.slots ≤ (am_gR G).slots) (hdg : decode cc pc = .ok (.invokestatic index, 3))
    (kx : ∀ (E : String) (V1 : am_V), P (.inr E) V1 → AX X U G nL (kc + rm.cells) (ks + rm.slots) V1 Q E pc L) (kk : ∀ (r : Option Value) (V1 : am_V), P (.inl r) V1 → AW X U G nL (kc + rm.cells) (ks + rm.slots) V1 Q (pc + 3) L (r.toList ++ st)) :
    AW X U G nL kc ks V Q pc L (As.reverse ++ st) := by
  intro H locs ls hH hz hlo hl
  obtain ⟨w1, w2, w4, w5, hd⟩ := hcv
  have hts := ok.2.2.2.2.1
  have hw := am_wordsok ok
  have hT : GoodIn (am_WS X) (va_wsS own index y (Cond.codeWith y b nL' ret hh :: am_WS X)) := am_good hw (by
    intro w hm
    simp only [va_wsS, List.mem_append, List.mem_cons, List.not_mem_nil, or_false] at hm
    rcases hm with (rfl | rfl | rfl) | rfl | hm
    · exact w1
    · exact w2
    · exact w4
    · exact w5
    · exact hm)
  have cw := vx_cwSW (R := am_gR G) (s := am_gs G) (args := am_ga G) (own := own) (index := index) (y := y) (bytes := b) (maxL := nL') (ret := ret) (hh := hh) (ws := Cond.codeWith y b nL' ret hh :: am_WS X) (rm := rm) (mc := rm.cells) (ms := rm.slots) n hts hT rfl rfl rfl hd hR
  rw [am_map_rev2]
  refine am_after (a := (As.map (am_v (am_ad U))).toArray) (vx_runSX (hh := hh) (Ts := am_WS X) (nL := nL) (own := own) (As := As.map (am_v (am_ad U))) (rest := st.map (am_v (am_ad U))) ⟨ok.1, ok.2.1, ok.2.2.1, ok.2.2.2.1, hts⟩ hC cw ⟨am_blind As, fun S hS hWS => ⟨rfl, ?_, State.WarmedH.trans ok.2.2.2.2.2.1 hWS⟩⟩ rfl (by rw [List.length_map]; exact hn) hl.1 rfl ?_ hdg hf) hz hlo hl kx kk
  · rw [hS]; exact hH
  · show 2 * 0 + _ ≤ 8
    rw [am_cat]
    omega
end
