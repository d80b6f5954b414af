/-! ===== AM6: exceptions ===== -/
theorem am_H.grow {X : am_X} {U : am_U} {V : am_V} {H H1 : Heap} (h : am_H X U V H) (hz : H.size ≤ H1.size) (hq : ∀ q : Nat, q < H.size → H1[q]? = H[q]?) : am_H X U V H1 :=
  ⟨fun c x hx => (h.1 c x hx).kept (hq _ (h.1 c x hx).lt), Nat.le_trans h.2.1 hz, fun q hl => (hq q (Nat.lt_of_lt_of_le hl h.2.1)).trans (h.2.2 q hl)⟩
/-- the words of 'throw new cls("text")' at the pool's entries ik, is, ic of own -/
def am_th (X : am_X) (own : String) (ik is ic : Nat) (cls text : String) (names : List String) : Prop :=
  Cond.classLink own ik cls ∈ am_WS X ∧ Cond.initialized cls ∈ am_WS X ∧ (∀ w ∈ vx_atS own ic cls names, w ∈ am_WS X ∨ w ∈ am_NS X) ∧ (∀ w ∈ Cond.classLink own ik cls :: Cond.initialized cls :: vx_atS own ic cls names, vx_ot w = true) ∧
  Bundle.fit cls = true ∧ (∀ n ∈ names, Bundle.fit n = true) ∧ (own, is, text) ∈ am_TS X
section AME
variable {X : am_X} {U : am_U} {G : am_G} {own : String} {cc : ByteArray} {nL kc ks pc pc' : Nat} {V V1 : am_V} {Q : State → Prop} {L L' : List (Option Value)} {st st' : List Value} {H : Heap} {locs : List Loc} {ls : Array Slot} {P : am_P}
theorem am_ok.NS (ok : am_ok X U G own cc nL) {w : Cond} (hw : w ∈ am_NS X) : w.before (am_ga G) (am_gs G) = true :=
  va_Nw.use (am_NS_on ok.2.2.2.2.2.2.1 hw) (am_NS_moved ok.2.2.2.2.2.2.1 ok.2.2.2.2.2.1 hw)
theorem am_ok.NC (ok : am_ok X U G own cc nL) {x : String × String} (hw : x ∈ am_NC X) : va_Nc x.1 x.2 (am_gs G) := va_Nc.moved ok.2.2.2.2.2.1.alike (ok.2.2.2.2.2.2.1.1.2.2.2.1 x hw)
theorem am_ok.str (ok : am_ok X U G own cc nL) {x : String × Nat × String} (hx : x ∈ am_TS X) : ∃ a : Nat, vk_R x.1 x.2.1 x.2.2 a (am_gs G) := by
  obtain ⟨a, ha⟩ := ok.2.2.2.2.2.2.1.1.2.2.1 x hx
  exact ⟨a, vk_R.warm ok.2.2.2.2.2.1 ha⟩
theorem am_Zq (ok : am_ok X U G own cc nL) (h0 : am_st0 U G) {C n d : String} (h : vx_Zq C n d (fun q => (am_s0 U).heap.size ≤ q) (am_s0 U) (am_s0 U).heap) : vx_Zq C n d (fun q => (am_s0 U).heap.size ≤ q) (am_gs G) (am_gs G).heap :=
  vx_Zq.moved ok.2.2.2.2.2.1.alike (h.kept (fun a ha _ => h0.2 a ha))
theorem am_vaS (h0 : am_st0 U G) (hH : am_H X U V H) (hz : (am_gs G).heap.size ≤ H.size) (hlo : ∀ q ∈ locs, (am_s0 U).heap.size ≤ q.base) (A : Nat → Prop) (hA : A = fun q => (am_s0 U).heap.size ≤ q) : va_S A (am_gs G).heap H locs := by
  subst hA
  refine ⟨hz, fun q hq hn => ?_, hlo⟩
  have hlt : q < (am_s0 U).heap.size := Nat.lt_of_not_le hn
  rw [hH.2.2 q hlt, h0.2 q hlt]
set_option maxHeartbeats 4000000 in
theorem AW.throwS {rm : Room} {ik is ic : Nat} {cls text : String} {names : List String} (ok : am_ok X U G own cc nL) (h0 : am_st0 U G) (hex : ∀ x ∈ (am_gc G).exceptionTable.toList, False) (hth : am_th X own ik is ic cls text names)
    (d0 : decode cc pc = .ok (.new ik, 3)) (d3 : decode cc (pc + 3) = .ok (.dup, 1)) (d4 : decode cc (pc + 4) = .ok (.ldc is, 2)) (d6 : decode cc (pc + 6) = .ok (.invokespecial ic, 3)) (d9 : decode cc (pc + 9) = .ok (.athrow, 1))
    (hRf : names.length + 3 < (am_gR G).frames) (hRl : (st.map fun v => v.category).sum + (13 * (names.length + 1) + 43) ≤ (am_gR G).locals) (hRc : kc + 1 ≤ (am_gR G).cells) (hRs : ks + 6 ≤ (am_gR G).slots) (hc : kc + 1 ≤ rm.cells) (hs : ks + 6 ≤ rm.slots) (hp : P (.inr cls) V) :
    AW X U G nL kc ks V (am_End X U G rm P) pc L st := by
  intro H locs ls hH hz hlo hl
  obtain ⟨t1, t2, t3, t4, t5, t6, t7⟩ := hth
  have hts := ok.2.2.2.2.1
  obtain ⟨sa, hsa⟩ := am_ok.str ok t7
  exact vx_throwS (A := fun q => (am_s0 U).heap.size ≤ q) ok.1 ok.2.1 ok.2.2.2.2.2.2.2.2 ok.2.2.2.1 t5 t6 (hts _ t1) (hts _ t2) hsa (fun w hw => (t3 w hw).elim (hts w) (am_ok.NS ok)) t4 (am_Zq ok h0 ok.2.2.2.2.2.2.1.1.2.2.2.2.1) (am_Zq ok h0 ok.2.2.2.2.2.2.1.1.2.2.2.2.2.1) (am_vaS h0 hH hz hlo _ rfl) (hl.1.trans ok.2.2.1.symm)
    d0 d3 d4 d6 d9 (fun x hx => (hex x hx).elim) hRf (by rw [am_cat]; exact hRl) hRc hRs ok.2.2.2.2.2.2.2.1 (fun t _ hsz hq => ⟨V, hp, hH.grow hsz hq, Nat.le_trans hz hsz⟩) hlo hc hs
set_option maxHeartbeats 4000000 in
theorem AW.throwSW {rm : Room} {ik is ic : Nat} {cls text : String} {names : List String} (ok : am_ok X U G own cc nL) (h0 : am_st0 U G) (hex : ∀ x ∈ (am_gc G).exceptionTable.toList, False) (hth : am_th X own ik is ic cls text names)
    (d0 : decode cc pc = .ok (.new ik, 3)) (d3 : decode cc (pc + 3) = .ok (.dup, 1)) (d4 : decode cc (pc + 4) = .ok (.ldc_w is, 3)) (d7 : decode cc (pc + 7) = .ok (.invokespecial ic, 3)) (d10 : decode cc (pc + 10) = .ok (.athrow, 1))
    (hRf : names.length + 3 < (am_gR G).frames) (hRl : (st.map fun v => v.category).sum + (13 * (names.length + 1) + 43) ≤ (am_gR G).locals) (hRc : kc + 1 ≤ (am_gR G).cells) (hRs : ks + 6 ≤ (am_gR G).slots) (hc : kc + 1 ≤ rm.cells) (hs : ks + 6 ≤ rm.slots) (hp : P (.inr cls) V) :
    AW X U G nL kc ks V (am_End X U G rm P) pc L st := by
  intro H locs ls hH hz hlo hl
  obtain ⟨t1, t2, t3, t4, t5, t6, t7⟩ := hth
  have hts := ok.2.2.2.2.1
  obtain ⟨sa, hsa⟩ := am_ok.str ok t7
  exact vx_throwSW (A := fun q => (am_s0 U).heap.size ≤ q) ok.1 ok.2.1 ok.2.2.2.2.2.2.2.2 ok.2.2.2.1 t5 t6 (hts _ t1) (hts _ t2) hsa (fun w hw => (t3 w hw).elim (hts w) (am_ok.NS ok)) t4 (am_Zq ok h0 ok.2.2.2.2.2.2.1.1.2.2.2.2.1) (am_Zq ok h0 ok.2.2.2.2.2.2.1.1.2.2.2.2.2.1) (am_vaS h0 hH hz hlo _ rfl) (hl.1.trans ok.2.2.1.symm)
    d0 d3 d4 d7 d10 (fun x hx => (hex x hx).elim) hRf (by rw [am_cat]; exact hRl) hRc hRs ok.2.2.2.2.2.2.2.1 (fun t _ hsz hq => ⟨V, hp, hH.grow hsz hq, Nat.le_trans hz hsz⟩) hlo hc hs
end AME
