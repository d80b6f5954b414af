/-- .. of a class whose constructor passes on by the entry ix -/
def am_thT (X : am_X) (own : String) (ik is ic : Nat) (cls Yc : String) (bb : ByteArray) (ix : Nat) (text : String) (names : List String) : Prop :=
  Cond.classLink own ik cls ∈ am_WS X ∧ Cond.initialized cls ∈ am_WS X ∧ (∀ w ∈ vy_atS own ic cls Yc ix bb names, w ∈ am_WS X ∨ w ∈ am_NS X) ∧ (∀ w ∈ Cond.classLink own ik cls :: Cond.initialized cls :: vy_atS own ic cls Yc ix bb names, vx_ot w = true) ∧
  Bundle.fit cls = true ∧ (∀ n ∈ names, Bundle.fit n = true) ∧ (own, is, text) ∈ am_TS X ∧ Bundle.fit Yc = true ∧ vy_b bb ix
section AME
variable {X : am_X} {U : am_U} {G : am_G} {own : String} {cc : ByteArray} {nL kc ks pc pc' : Nat} {V V1 : am_V} {Q : State → Prop} {L L' : List (Option Value)} {st st' : List Value} {H : Heap} {locs : List Loc} {ls : Array Slot} {P : am_P}
set_option maxHeartbeats 4000000 in
theorem AW.throwT {rm : Room} {ik is ic : Nat} {cls text Yc : String} {bb : ByteArray} {ix : Nat} {names : List String} (ok : am_ok X U G own cc nL) (h0 : am_st0 U G) (hex : ∀ x ∈ (am_gc G).exceptionTable.toList, False) (hth : am_thT X own ik is ic cls Yc bb ix text names)
    (d0 : decode cc pc = .ok (.new ik, 3)) (d3 : decode cc (pc + 3) = .ok (.dup, 1)) (d4 : decode cc (pc + 4) = .ok (.ldc is, 2)) (d6 : decode cc (pc + 6) = .ok (.invokespecial ic, 3)) (d9 : decode cc (pc + 9) = .ok (.athrow, 1))
    (hRf : names.length + 4 < (am_gR G).frames) (hRl : (st.map fun v => v.category).sum + (13 * (names.length + 2) + 43) ≤ (am_gR G).locals) (hRc : kc + 1 ≤ (am_gR G).cells) (hRs : ks + 6 ≤ (am_gR G).slots) (hc : kc + 1 ≤ rm.cells) (hs : ks + 6 ≤ rm.slots) (hp : P (.inr cls) V) :
    AW X U G nL kc ks V (am_End X U G rm P) pc L st := by
  intro H locs ls hH hz hlo hl
  obtain ⟨t1, t2, t3, t4, t5, t6, t7, t8, t9⟩ := hth
  have hts := ok.2.2.2.2.1
  obtain ⟨sa, hsa⟩ := am_ok.str ok t7
  exact vy_throwS (A := fun q => (am_s0 U).heap.size ≤ q) ok.1 ok.2.1 ok.2.2.2.2.2.2.2.2 ok.2.2.2.1 t5 t8 t9 t6 (hts _ t1) (hts _ t2) hsa (fun w hw => (t3 w hw).elim (hts w) (am_ok.NS ok)) t4 (am_Zq ok h0 ok.2.2.2.2.2.2.1.1.2.2.2.2.1) (am_Zq ok h0 ok.2.2.2.2.2.2.1.1.2.2.2.2.2.1) (am_vaS h0 hH hz hlo _ rfl) (hl.1.trans ok.2.2.1.symm)
    d0 d3 d4 d6 d9 (fun x hx => (hex x hx).elim) hRf (by rw [am_cat]; exact hRl) hRc hRs ok.2.2.2.2.2.2.2.1 (fun t _ hsz hq => ⟨V, hp, hH.grow hsz hq, Nat.le_trans hz hsz⟩) hlo hc hs
set_option maxHeartbeats 4000000 in
theorem AW.throwTW {rm : Room} {ik is ic : Nat} {cls text Yc : String} {bb : ByteArray} {ix : Nat} {names : List String} (ok : am_ok X U G own cc nL) (h0 : am_st0 U G) (hex : ∀ x ∈ (am_gc G).exceptionTable.toList, False) (hth : am_thT X own ik is ic cls Yc bb ix text names)
    (d0 : decode cc pc = .ok (.new ik, 3)) (d3 : decode cc (pc + 3) = .ok (.dup, 1)) (d4 : decode cc (pc + 4) = .ok (.ldc_w is, 3)) (d7 : decode cc (pc + 7) = .ok (.invokespecial ic, 3)) (d10 : decode cc (pc + 10) = .ok (.athrow, 1))
    (hRf : names.length + 4 < (am_gR G).frames) (hRl : (st.map fun v => v.category).sum + (13 * (names.length + 2) + 43) ≤ (am_gR G).locals) (hRc : kc + 1 ≤ (am_gR G).cells) (hRs : ks + 6 ≤ (am_gR G).slots) (hc : kc + 1 ≤ rm.cells) (hs : ks + 6 ≤ rm.slots) (hp : P (.inr cls) V) :
    AW X U G nL kc ks V (am_End X U G rm P) pc L st := by
  intro H locs ls hH hz hlo hl
  obtain ⟨t1, t2, t3, t4, t5, t6, t7, t8, t9⟩ := hth
  have hts := ok.2.2.2.2.1
  obtain ⟨sa, hsa⟩ := am_ok.str ok t7
  exact vy_throwSW (A := fun q => (am_s0 U).heap.size ≤ q) ok.1 ok.2.1 ok.2.2.2.2.2.2.2.2 ok.2.2.2.1 t5 t8 t9 t6 (hts _ t1) (hts _ t2) hsa (fun w hw => (t3 w hw).elim (hts w) (am_ok.NS ok)) t4 (am_Zq ok h0 ok.2.2.2.2.2.2.1.1.2.2.2.2.1) (am_Zq ok h0 ok.2.2.2.2.2.2.1.1.2.2.2.2.2.1) (am_vaS h0 hH hz hlo _ rfl) (hl.1.trans ok.2.2.1.symm)
    d0 d3 d4 d7 d10 (fun x hx => (hex x hx).elim) hRf (by rw [am_cat]; exact hRl) hRc hRs ok.2.2.2.2.2.2.2.1 (fun t _ hsz hq => ⟨V, hp, hH.grow hsz hq, Nat.le_trans hz hsz⟩) hlo hc hs
end AME
