/-! ===== AM5: calls ===== -/
section AMD
variable {X : am_X} {U : am_U} {G : am_G} {own : String} {cc : ByteArray} {nL kc ks pc pc' : Nat} {V V1 : am_V} {Q : State → Prop} {L L' : List (Option Value)} {st st' : List Value} {P : am_P} {H : Heap} {locs : List Loc} {ls : Array Slot}
theorem am_after {mc ms : Nat} {st0 : List Value} {a : Array Value} (hr : vx_Run (am_gp G) (am_gl G) (am_ge G) (am_gR G) (am_gs G) (am_gm G) (am_ga G) (am_gb G) (am_gt G) (am_gc G) H locs kc ks mc ms (F0 (am_gm G) pc ls st0) (st.map (am_v (am_ad U))) (am_Qc X U P a) (am_XC X U P) (am_fr U))
    (hz : (am_gs G).heap.size ≤ H.size) (hlo : ∀ q ∈ locs, (am_s0 U).heap.size ≤ q.base) (hl : am_l (am_ad U) nL L ls)
    (kx : ∀ (E : String) (V1 : am_V), P (.inr E) V1 → AX X U G nL (kc + mc) (ks + ms) V1 Q E pc L) (kk : ∀ (r : Option Value) (V1 : am_V), P (.inl r) V1 → AW X U G nL (kc + mc) (ks + ms) V1 Q (pc + 3) L (r.toList ++ st)) : am_W G H locs kc ks Q (F0 (am_gm G) pc ls st0) := by
  intro T hT XX
  rcases hr T hT XX with ⟨v, st₀, t, T', L9, h0, X', hL, e1, e2, ⟨r, V9, hr1, hv, hH1, hsz⟩, stp⟩ | ⟨q, st₀, t, T', L9, E, ce, h0, X', hL, e1, e2, ⟨V9, hr1, hH1, hsz⟩, hce, hcv, hcl, stp⟩
  · cases hv
    have hlo2 : ∀ q ∈ locs ++ L9, (am_s0 U).heap.size ≤ q.base := fun q hq => (List.mem_append.mp hq).elim (hlo q) (hL q)
    have k2 := kk r V9 hr1 T'.heap (locs ++ L9) ls (by rw [e1]; exact hH1) (by rw [e1]; exact Nat.le_trans (by rw [← h0] at hz; exact hz) hsz) hlo2 hl
    have e3 : ((r.toList ++ st).map (am_v (am_ad U))) = (r.map (am_v (am_ad U))).toList ++ st.map (am_v (am_ad U)) := by cases r <;> simp
    rw [e3] at k2
    obtain ⟨t2, a1, b1⟩ := k2 T' rfl X'
    exact ⟨t2, stp t2 a1, b1⟩
  · have hlo2 : ∀ q ∈ locs ++ L9, (am_s0 U).heap.size ≤ q.base := fun q hq => (List.mem_append.mp hq).elim (hlo q) (hL q)
    have k2 := kx E V9 hr1 T'.heap (locs ++ L9) ls (st.map (am_v (am_ad U))) q ce (by rw [e1]; exact hH1) (by rw [e1]; exact Nat.le_trans (by rw [← h0] at hz; exact hz) hsz) hlo2 hl (by rw [e1]; exact hce) hcv hcl
    obtain ⟨t2, a1, b1⟩ := k2 T' rfl X'
    exact ⟨t2, stp.trans a1, b1⟩
theorem am_map_rev (As st : List Value) (c : Nat) (ad : Nat → Nat) : ((As.reverse ++ .ref c :: st).map (am_v ad)) = (As.map (am_v ad)).reverse ++ .ref (ad c) :: st.map (am_v ad) := by
  rw [List.map_append, List.map_reverse]
  rfl
theorem am_cat (ad : Nat → Nat) : ∀ st : List Value, ((st.map (am_v ad)).map fun v => v.category) = st.map fun v => v.category
  | [] => rfl
  | v :: r => by simp only [List.map_cons, am_v_cat, am_cat ad r]
set_option maxHeartbeats 4000000 in
/-- a virtual call of a method of the receiver's own class (private ones too) -/
theorem AW.callV {y : MethodName} {b : ByteArray} {nL' n index ci c : Nat} {ret : Option FieldType} {rm : Room} {As : List Value} {os : List (Option Nat)} {T : u_T} {N : Nat}
    (ok : am_ok X U G own cc nL) (hC : am_Ct X U (am_gl G) y b nL' ret rm (.ref c :: As) V P) (hcv : am_cv X own index y b nL' ret n) (hsh : am_sh X c = some (.inl (ci, os))) (hcl : (am_cl X)[ci]? = some (y.cls, T, N)) (hn : As.length = n)
    (hst : (st.map fun v => v.category).sum ≤ 8) (hR : rm.frames + 1 ≤ (am_gR G).frames ∧ 8 + (nL' + 11) + rm.locals ≤ (am_gR G).locals) (hf : kc + rm.cells ≤ (am_gR G).cells ∧ ks + rm.slots ≤ (am_gR G).slots) (hdg : decode cc pc = .ok (.invokevirtual index, 3))
    (kx : ∀ (E : String) (V1 : am_V), P (.inr E) V1 → AX X U G nL (kc + rm.cells) (ks + rm.slots) V1 Q E pc L) (kk : ∀ (r : Option Value) (V1 : am_V), P (.inl r) V1 → AW X U G nL (kc + rm.cells) (ks + rm.slots) V1 Q (pc + 3) L (r.toList ++ st)) :
    AW X U G nL kc ks V Q pc L (As.reverse ++ .ref c :: st) := by
  intro H locs ls hH hz hlo hl
  obtain ⟨w1, w2, w3, w4, w5, hd⟩ := hcv
  have hts := ok.2.2.2.2.1
  have hw := am_wordsok ok
  have hT : GoodIn (am_WS X) (wsV own index y.cls y (Cond.code y b nL' ret :: am_WS X)) := am_good hw (by
    intro w hm
    simp only [wsV, List.mem_append, List.mem_cons, List.not_mem_nil, or_false] at hm
    rcases hm with (rfl | rfl | rfl | rfl) | rfl | hm
    · exact w1
    · exact w2
    · exact w3
    · exact w4
    · exact w5
    · exact hm)
  have cw := cwV (R := am_gR G) (s := am_gs G) (args := am_ga G) (own := own) (C := y.cls) (index := index) (y := y) (bytes := b) (maxL := nL') (ret := ret) (ws := Cond.code y b nL' ret :: am_WS X) (rm := rm) (mc := rm.cells) (ms := rm.slots) n hts hT rfl rfl rfl ⟨rfl, hd⟩ hR
  rw [am_map_rev]
  obtain ⟨r0, hr0, hob⟩ := hH.1 c _ hsh
  have hrec := va_recv (D := am_D U) (q0 := 0) (am_ok.K ok) (am_one (hH.1 c _ hsh)) hcl rfl
  refine am_after (a := (Value.ref (am_ad U c) :: As.map (am_v (am_ad U))).toArray) (vx_runV (Ts := am_WS X) (nL := nL) (own := own) (As := As.map (am_v (am_ad U))) (rest := st.map (am_v (am_ad U))) ⟨ok.1, ok.2.1, ok.2.2.1, ok.2.2.2.1, hts⟩ hC cw ⟨am_blind (.ref c :: As), hrec, fun S hS hWS => ⟨rfl, ?_, State.WarmedH.trans ok.2.2.2.2.2.1 hWS⟩⟩ rfl (by rw [List.length_map]; exact hn) hl.1 rfl ?_ hdg hf) hz hlo hl kx kk
  · rw [hS]; exact hH
  · show 2 * 0 + _ ≤ 8
    rw [am_cat]
    omega
theorem am_map_rev2 (As st : List Value) (ad : Nat → Nat) : ((As.reverse ++ st).map (am_v ad)) = (As.map (am_v ad)).reverse ++ st.map (am_v ad) := by
  rw [List.map_append, List.map_reverse]
set_option maxHeartbeats 4000000 in
theorem AW.callS {y : MethodName} {b : ByteArray} {nL' n index : Nat} {ret : Option FieldType} {rm : Room} {As : List Value}
    (ok : am_ok X U G own cc nL) (hC : am_Ct X U (am_gl G) y b nL' ret rm As V P) (hcv : am_cs X own index y b nL' ret n) (hn : As.length = n)
    (hst : (st.map fun v => v.category).sum ≤ 8) (hR : rm.frames + 1 ≤ (am_gR G).frames ∧ 8 + (nL' + 11) + rm.locals ≤ (am_gR G).locals) (hf : kc + rm.cells ≤ (am_gR G).cells ∧ ks + rm.slots ≤ (am_gR G).slots) (hdg : decode cc pc = .ok (.invokestatic index, 3))
    (kx : ∀ (E : String) (V1 : am_V), P (.inr E) V1 → AX X U G nL (kc + rm.cells) (ks + rm.slots) V1 Q E pc L) (kk : ∀ (r : Option Value) (V1 : am_V), P (.inl r) V1 → AW X U G nL (kc + rm.cells) (ks + rm.slots) V1 Q (pc + 3) L (r.toList ++ st)) :
    AW X U G nL kc ks V Q pc L (As.reverse ++ st) := by
  intro H locs ls hH hz hlo hl
  obtain ⟨w1, w2, w4, w5, hd⟩ := hcv
  have hts := ok.2.2.2.2.1
  have hw := am_wordsok ok
  have hT : GoodIn (am_WS X) (va_wsS own index y (Cond.code y b nL' ret :: am_WS X)) := am_good hw (by
    intro w hm
    simp only [va_wsS, List.mem_append, List.mem_cons, List.not_mem_nil, or_false] at hm
    rcases hm with (rfl | rfl | rfl) | rfl | hm
    · exact w1
    · exact w2
    · exact w4
    · exact w5
    · exact hm)
  have cw := va_cwS (R := am_gR G) (s := am_gs G) (args := am_ga G) (own := own) (index := index) (y := y) (bytes := b) (maxL := nL') (ret := ret) (ws := Cond.code y b nL' ret :: am_WS X) (rm := rm) (mc := rm.cells) (ms := rm.slots) n hts hT rfl rfl rfl hd hR
  rw [am_map_rev2]
  refine am_after (a := (As.map (am_v (am_ad U))).toArray) (vx_runS (Ts := am_WS X) (nL := nL) (own := own) (As := As.map (am_v (am_ad U))) (rest := st.map (am_v (am_ad U))) ⟨ok.1, ok.2.1, ok.2.2.1, ok.2.2.2.1, hts⟩ hC cw ⟨am_blind As, fun S hS hWS => ⟨rfl, ?_, State.WarmedH.trans ok.2.2.2.2.2.1 hWS⟩⟩ rfl (by rw [List.length_map]; exact hn) hl.1 rfl ?_ hdg hf) hz hlo hl kx kk
  · rw [hS]; exact hH
  · show 2 * 0 + _ ≤ 8
    rw [am_cat]
    omega
set_option maxHeartbeats 4000000 in
/-- a static call of a nest mate's private method -/
theorem AW.callSN {y : MethodName} {b : ByteArray} {nL' n index : Nat} {ret : Option FieldType} {rm : Room} {As : List Value} {host : String}
    (ok : am_ok X U G own cc nL) (hC : am_Ct X U (am_gl G) y b nL' ret rm As V P) (hcv : am_cn X own index y host b nL' ret n) (hn : As.length = n)
    (hst : (st.map fun v => v.category).sum ≤ 8) (hR : rm.frames + 1 ≤ (am_gR G).frames ∧ 8 + (nL' + 11) + rm.locals ≤ (am_gR G).locals) (hf : kc + rm.cells ≤ (am_gR G).cells ∧ ks + rm.slots ≤ (am_gR G).slots) (hdg : decode cc pc = .ok (.invokestatic index, 3))
    (kx : ∀ (E : String) (V1 : am_V), P (.inr E) V1 → AX X U G nL (kc + rm.cells) (ks + rm.slots) V1 Q E pc L) (kk : ∀ (r : Option Value) (V1 : am_V), P (.inl r) V1 → AW X U G nL (kc + rm.cells) (ks + rm.slots) V1 Q (pc + 3) L (r.toList ++ st)) :
    AW X U G nL kc ks V Q pc L (As.reverse ++ st) := by
  intro H locs ls hH hz hlo hl
  obtain ⟨w1, w2, w4, w5, hd⟩ := hcv
  have hts := ok.2.2.2.2.1
  have hw := am_wordsok ok
  have hT : GoodIn (am_WS X) (Cond.code y b nL' ret :: am_WS X) := am_good hw (by
    intro w hm
    rcases List.mem_cons.mp hm with rfl | hm
    · exact w5
    · exact hm)
  have cw := va_cnB (R := am_gR G) (s := am_gs G) (args := am_ga G) (own := own) (host := host) (index := index) (y := y) (bytes := b) (maxL := nL') (ret := ret) (ws := Cond.code y b nL' ret :: am_WS X) (rm := rm) (mc := rm.cells) (ms := rm.slots) n hts hT rfl rfl rfl (am_NS_moved ok.2.2.2.2.2.2.1 ok.2.2.2.2.2.1 w1) (hts _ w4) hd hR
  rw [am_map_rev2]
  refine am_after (a := (As.map (am_v (am_ad U))).toArray) (vx_runSN (Ts := am_WS X) (nL := nL) (own := own) (As := As.map (am_v (am_ad U))) (rest := st.map (am_v (am_ad U))) ⟨ok.1, ok.2.1, ok.2.2.1, ok.2.2.2.1, hts⟩ hC ⟨cw, hts _ w2, trivial⟩ ⟨am_blind As, fun S hS hWS => ⟨rfl, ?_, State.WarmedH.trans ok.2.2.2.2.2.1 hWS⟩⟩ rfl (by rw [List.length_map]; exact hn) hl.1 rfl ?_ hdg hf) hz hlo hl kx kk
  · rw [hS]; exact hH
  · show 2 * 0 + _ ≤ 8
    rw [am_cat]
    omega
/-! ends -/
theorem am_end {G : am_G} {rm : Room} {V' : am_V} {v : Option Value} (ok : am_ok X U G own cc nL) (hp : P (.inl v) V') (hH : am_H X U V' H) (hz : (am_gs G).heap.size ≤ H.size) : ∀ t : State, t.heap = H → (am_gs G).WarmedH t.vm → am_Qc X U P (am_ga G) (am_gs G) (.returned (v.map (am_v (am_ad U)))) t :=
  fun t ht _ => ⟨v, V', hp, rfl, by rw [ht]; exact hH, by rw [ht]; exact hz⟩
theorem AW.iret {rm : Room} {x : Int32} {ty : FieldType} (ok : am_ok X U G own cc nL) (hp : P (.inl (some (.int x))) V) (hr : (am_gt G).sig.returnType = some ty) (hn : narrow ty (.int x) = .int x) (hc : kc ≤ rm.cells) (hs : ks ≤ rm.slots) (hdg : decode cc pc = .ok (.ireturn, 1)) :
    AW X U G nL kc ks V (am_End X U G rm P) pc L [.int x] := by
  intro H locs ls hH hz hlo hl
  exact W.widen hc hs (vx_ret (W.zret (v := x) ok.1 ok.2.1 hr hn (am_end (rm := rm) (v := some (.int x)) ok hp hH hz) hlo hdg ok.2.2.2.2.2.2.2.1))
theorem AW.lret {rm : Room} {x : Int64} (ok : am_ok X U G own cc nL) (hp : P (.inl (some (.long x))) V) (hr : (am_gt G).sig.returnType = some .long) (hc : kc ≤ rm.cells) (hs : ks ≤ rm.slots) (hdg : decode cc pc = .ok (.lreturn, 1)) :
    AW X U G nL kc ks V (am_End X U G rm P) pc L [.long x] := by
  intro H locs ls hH hz hlo hl
  exact W.widen hc hs (vx_ret (W.lret (v := x) ok.1 ok.2.1 hr (am_end (rm := rm) (v := some (.long x)) ok hp hH hz) hlo hdg ok.2.2.2.2.2.2.2.1))
theorem AW.fret {rm : Room} {x : UInt32} (ok : am_ok X U G own cc nL) (hp : P (.inl (some (.float x))) V) (hr : (am_gt G).sig.returnType = some .float) (hc : kc ≤ rm.cells) (hs : ks ≤ rm.slots) (hdg : decode cc pc = .ok (.freturn, 1)) :
    AW X U G nL kc ks V (am_End X U G rm P) pc L [.float x] := by
  intro H locs ls hH hz hlo hl
  exact W.widen hc hs (vx_ret (W.fret (v := x) ok.1 ok.2.1 hr (am_end (rm := rm) (v := some (.float x)) ok hp hH hz) hlo hdg ok.2.2.2.2.2.2.2.1))
theorem AW.dret {rm : Room} {x : UInt64} (ok : am_ok X U G own cc nL) (hp : P (.inl (some (.double x))) V) (hr : (am_gt G).sig.returnType = some .double) (hc : kc ≤ rm.cells) (hs : ks ≤ rm.slots) (hdg : decode cc pc = .ok (.dreturn, 1)) :
    AW X U G nL kc ks V (am_End X U G rm P) pc L [.double x] := by
  intro H locs ls hH hz hlo hl
  exact W.widen hc hs (vx_ret (W.dret (v := x) ok.1 ok.2.1 hr (am_end (rm := rm) (v := some (.double x)) ok hp hH hz) hlo hdg ok.2.2.2.2.2.2.2.1))
theorem AW.vret {rm : Room} (ok : am_ok X U G own cc nL) (hp : P (.inl none) V) (hr : (am_gt G).sig.returnType = none) (hc : kc ≤ rm.cells) (hs : ks ≤ rm.slots) (hdg : decode cc pc = .ok (.return_, 1)) :
    AW X U G nL kc ks V (am_End X U G rm P) pc L [] := by
  intro H locs ls hH hz hlo hl
  exact W.widen hc hs (vx_ret (W.vret ok.1 ok.2.1 hr (am_end (rm := rm) (v := none) ok hp hH hz) hlo hdg ok.2.2.2.2.2.2.2.1))
theorem AW.aret {rm : Room} {c : Nat} {rt : FieldType} (ok : am_ok X U G own cc nL) (hp : P (.inl (some (.ref c))) V) (hr : (am_gt G).sig.returnType = some rt) (hrt : (∃ n, rt = .object n) ∨ ∃ t, rt = .array t) (hc : kc ≤ rm.cells) (hs : ks ≤ rm.slots) (hdg : decode cc pc = .ok (.areturn, 1)) :
    AW X U G nL kc ks V (am_End X U G rm P) pc L [.ref c] := by
  intro H locs ls hH hz hlo hl
  exact W.widen hc hs (vx_ret (W.aret (v := .ref (am_ad U c)) ok.1 ok.2.1 hr hrt (Or.inr ⟨_, rfl⟩) (am_end (rm := rm) (v := some (.ref c)) ok hp hH hz) hlo hdg ok.2.2.2.2.2.2.2.1))
/-- an exception that this method's table doesn't cover goes on to the caller -/
theorem AX.out {rm : Room} {E : String} (ok : am_ok X U G own cc nL) (hex : ∀ x ∈ (am_gc G).exceptionTable.toList, False) (hc : kc ≤ rm.cells) (hs : ks ≤ rm.slots) (hp : P (.inr E) V) : AX X U G nL kc ks V (am_End X U G rm P) E pc L := by
  intro H locs ls rest q ce hH hz hlo hl hq hv hcl
  exact vx_out (fun x hx => (hex x hx).elim) ok.2.2.2.2.2.2.2.1 hq hv hcl (fun t ht _ => ⟨V, hp, by rw [ht]; exact hH, by rw [ht]; exact hz⟩) hlo hc hs
end AMD
