/-! ===== what stands before the law and is never written: texts, kinds, tables ===== -/
def txB : List (List Int32) := [[102, 105, 101, 108, 100, 32, 51], [102, 105, 101, 108, 100, 32, 48, 59, 102, 105, 101, 108, 100, 32, 57], [112, 97, 116, 104, 32, 48, 45, 49, 32, 52, 32, 51], [112, 97, 116, 104, 32, 51, 45, 52, 32, 50, 32, 57, 59, 112, 97, 116, 104, 32, 48, 45, 52, 32, 57, 32, 49], [115, 104, 105, 101, 108, 100, 32, 48, 32, 53], [115, 104, 105, 101, 108, 100, 32, 49, 32, 48, 59, 115, 104, 105, 101, 108, 100, 32, 49, 32, 57], [103, 117, 115, 116, 32, 48, 32, 57], [103, 117, 115, 116, 32, 48, 48, 49, 32, 50], [98, 108, 111, 99, 107, 32, 48], [98, 108, 111, 99, 107, 32, 49, 59, 111, 112, 101, 110, 32, 49], [111, 112, 101, 110, 32, 50], [115, 101, 101, 100, 32, 49, 55], [115, 101, 101, 100, 32, 53, 49, 49, 59, 115, 101, 101, 100, 32, 48, 48, 48], [115, 101, 110, 100, 32, 48, 32, 51], [115, 101, 110, 100, 32, 49, 32, 54, 43], [119, 105, 110, 100], [119, 105, 110, 100, 59, 119, 105, 110, 100], [102, 105, 110, 105, 115, 104], [97, 98, 111, 114, 116], [97, 98, 111, 114, 116, 59, 115, 101, 110, 100, 32, 48, 32, 49, 43, 59, 102, 105, 110, 105, 115, 104], [112, 97, 116, 104, 32, 49, 45, 49, 32, 49, 32, 49], [112, 97, 116, 104, 32, 48, 45, 49, 32, 48, 32, 49], [115, 101, 101, 100, 32, 53, 49, 50], [115, 101, 110, 100, 32, 48, 32, 48], [115, 101, 110, 100, 32, 48, 32, 55], [115, 101, 110, 100, 32, 57, 32, 49], [103, 117, 115, 116, 32, 57, 57, 32, 49], [98, 108, 111, 99, 107, 32, 49, 54], [102, 105, 101, 108, 100, 32, 35], [112, 97, 116, 104, 32, 35, 45, 35, 32, 35, 32, 35], [115, 104, 105, 101, 108, 100, 32, 35, 32, 35], [103, 117, 115, 116, 32, 64, 32, 35], [98, 108, 111, 99, 107, 32, 64], [111, 112, 101, 110, 32, 64], [115, 101, 101, 100, 32, 64], [115, 101, 110, 100, 32, 35, 32, 35, 42], [119, 105, 110, 100], [102, 105, 110, 105, 115, 104], [97, 98, 111, 114, 116]]
def am_A (U : am_U) : Nat → Prop := fun q => (am_s0 U).heap.size ≤ q
def FMC : String := "jdk/internal/util/Preconditions"
def FMD : String := "Ljava/util/function/BiFunction;"
def am_cst (U : am_U) : Prop :=
  (∀ j, j < 39 → va_O "java/lang/String" (am_ad U (400 + j)) (am_A U) (am_s0 U) (am_s0 U).heap ∧ va_OF "java/lang/String" "coder" "B" (.int 0) (am_ad U (400 + j)) (am_A U) (am_s0 U) (am_s0 U).heap ∧
    va_OF "java/lang/String" "value" "[B" (.ref (am_ad U (500 + j))) (am_ad U (400 + j)) (am_A U) (am_s0 U) (am_s0 U).heap ∧ va_T .byte (am_ad U (500 + j)) (xLEN.getD j 0) (fun q => .int ((txB.getD j []).getD q 0)) (am_A U) (am_s0 U) (am_s0 U).heap) ∧
  (∀ k, k < 11 → va_O "DandelionBroadcast$Kind" (am_ad U (300 + k)) (am_A U) (am_s0 U) (am_s0 U).heap ∧ va_OF "DandelionBroadcast$Kind" "shape" "Ljava/lang/String;" (.ref (am_ad U (428 + k))) (am_ad U (300 + k)) (am_A U) (am_s0 U) (am_s0 U).heap ∧
    va_OF "java/lang/Enum" "ordinal" "I" (.int (nI k)) (am_ad U (300 + k)) (am_A U) (am_s0 U) (am_s0 U).heap) ∧
  va_T (.object "java/lang/String") (am_ad U 600) 28 (fun j => .ref (am_ad U (400 + j))) (am_A U) (am_s0 U) (am_s0 U).heap ∧ va_T (.object "DandelionBroadcast$Kind") (am_ad U 601) 11 (fun j => .ref (am_ad U (300 + j))) (am_A U) (am_s0 U) (am_s0 U).heap ∧
  va_T .int (am_ad U 602) 11 (fun j => .int (nI (j + 1))) (am_A U) (am_s0 U) (am_s0 U).heap ∧
  (va_Z FMC "SIOOBE_FORMATTER" FMD .null (am_A U) (am_s0 U) (am_s0 U).heap ∨ va_Z FMC "SIOOBE_FORMATTER" FMD (.ref (am_ad U 997)) (am_A U) (am_s0 U) (am_s0 U).heap)
/-- a run's world with its constants -/
def am_B2 (U : am_U) : Prop := am_base xx U ∧ am_cst U
section XCS
variable {X : am_X} {U : am_U} {G : am_G} {own : String} {cc : ByteArray} {nL kc ks pc : Nat} {V : am_V} {Q : State → Prop} {L : List (Option Value)} {st : List Value} {P : am_P}
theorem am_vaA (h0 : am_st0 U G) {H : Heap} {locs : List Loc} (hH : am_H X U V H) (hz : (am_gs G).heap.size ≤ H.size) (hlo : ∀ q ∈ locs, (am_s0 U).heap.size ≤ q.base) : va_S (am_A U) (am_gs G).heap H locs := am_vaS h0 hH hz hlo _ rfl
theorem am_kp (h0 : am_st0 U G) : ∀ a : Nat, a < (am_s0 U).heap.size → ¬ am_A U a → (am_gs G).heap[a]? = (am_s0 U).heap[a]? := fun a ha _ => h0.2 a ha
theorem AW.getC {o n d : String} {index c : Nat} {v : Value} (ok : am_ok X U G own cc nL) (h0 : am_st0 U G) (hE : va_OF o n d (am_v (am_ad U) v) (am_ad U c) (am_A U) (am_s0 U) (am_s0 U).heap) (hw : Cond.fieldLink own index o n d ∈ am_WS X) (hdg : decode cc pc = .ok (.getfield index, 3))
    (kk : AW X U G nL kc ks V Q (pc + 3) L (v :: st)) : AW X U G nL kc ks V Q pc L (.ref c :: st) := by
  intro H locs ls hH hz hlo hl
  have hE2 := va_OF.moved ok.2.2.2.2.2.1.alike (hE.kept (am_kp h0))
  exact vk_getf ok.1 ok.2.1 hE2 (am_vaA h0 hH hz hlo) ok.2.2.2.1 (ok.2.2.2.2.1 _ hw) (fun _ h9 => h9) hdg (kk H locs ls hH hz hlo hl)
theorem AW.ildC {c N : Nat} {i : Int32} {f : Nat → Value} {v : Value} (ok : am_ok X U G own cc nL) (h0 : am_st0 U G) (hT : va_T .int (am_ad U c) N f (am_A U) (am_s0 U) (am_s0 U).heap) (hin : vp_in i N) (hv : f i.toNatClampNeg = am_v (am_ad U) v) (hdg : decode cc pc = .ok (.iaload, 1))
    (kk : AW X U G nL kc ks V Q (pc + 1) L (v :: st)) : AW X U G nL kc ks V Q pc L (.int i :: .ref c :: st) := by
  intro H locs ls hH hz hlo hl
  exact va_ti ok.1 ok.2.1 (va_T.moved ok.2.2.2.2.2.1.alike (hT.kept (am_kp h0))) (am_vaA h0 hH hz hlo) hin hv hdg (kk H locs ls hH hz hlo hl)
theorem AW.bldC {c N : Nat} {i : Int32} {f : Nat → Value} {v : Value} (ok : am_ok X U G own cc nL) (h0 : am_st0 U G) (hT : va_T .byte (am_ad U c) N f (am_A U) (am_s0 U) (am_s0 U).heap) (hin : vp_in i N) (hv : f i.toNatClampNeg = am_v (am_ad U) v) (hdg : decode cc pc = .ok (.baload, 1))
    (kk : AW X U G nL kc ks V Q (pc + 1) L (v :: st)) : AW X U G nL kc ks V Q pc L (.int i :: .ref c :: st) := by
  intro H locs ls hH hz hlo hl
  exact va_tb ok.1 ok.2.1 (va_T.moved ok.2.2.2.2.2.1.alike (hT.kept (am_kp h0))) (am_vaA h0 hH hz hlo) hin hv hdg (kk H locs ls hH hz hlo hl)
theorem AW.aldC {c N : Nat} {C : String} {i : Int32} {f : Nat → Value} {v : Value} (ok : am_ok X U G own cc nL) (h0 : am_st0 U G) (hT : va_T (.object C) (am_ad U c) N f (am_A U) (am_s0 U) (am_s0 U).heap) (hin : vp_in i N) (hv : f i.toNatClampNeg = am_v (am_ad U) v) (hdg : decode cc pc = .ok (.aaload, 1))
    (kk : AW X U G nL kc ks V Q (pc + 1) L (v :: st)) : AW X U G nL kc ks V Q pc L (.int i :: .ref c :: st) := by
  intro H locs ls hH hz hlo hl
  exact vb_tq ok.1 ok.2.1 (va_T.moved ok.2.2.2.2.2.1.alike (hT.kept (am_kp h0))) (am_vaA h0 hH hz hlo) hin hv hdg (kk H locs ls hH hz hlo hl)
theorem AW.alenC {c N : Nat} {ty : FieldType} {f : Nat → Value} (ok : am_ok X U G own cc nL) (h0 : am_st0 U G) (hT : va_T ty (am_ad U c) N f (am_A U) (am_s0 U) (am_s0 U).heap) (hdg : decode cc pc = .ok (.arraylength, 1))
    (kk : AW X U G nL kc ks V Q (pc + 1) L (.int (Int32.ofNat N) :: st)) : AW X U G nL kc ks V Q pc L (.ref c :: st) := by
  intro H locs ls hH hz hlo hl
  exact va_tlen ok.1 ok.2.1 (va_T.moved ok.2.2.2.2.2.1.alike (hT.kept (am_kp h0))) (am_vaA h0 hH hz hlo) rfl hdg (kk H locs ls hH hz hlo hl)
/-- a static that holds null or a reference -/
theorem AW.getsQ {C n d : String} {index k : Nat} (ok : am_ok X U G own cc nL) (h0 : am_st0 U G) (hZ : va_Z C n d .null (am_A U) (am_s0 U) (am_s0 U).heap ∨ va_Z C n d (.ref (am_ad U k)) (am_A U) (am_s0 U) (am_s0 U).heap) (hw : Cond.fieldLink own index C n d ∈ am_WS X) (hdg : decode cc pc = .ok (.getstatic index, 3))
    (kk : ∀ v : Value, (v = .null ∨ v = .ref k) → AW X U G nL kc ks V Q (pc + 3) L (v :: st)) : AW X U G nL kc ks V Q pc L st := by
  intro H locs ls hH hz hlo hl
  rcases hZ with hZ | hZ
  · exact va_gets ok.1 ok.2.1 (va_Z.moved ok.2.2.2.2.2.1.alike (hZ.kept (am_kp h0))) (am_vaA h0 hH hz hlo) ok.2.2.2.1 (ok.2.2.2.2.1 _ hw) (fun _ h9 => h9) hdg (kk .null (Or.inl rfl) H locs ls hH hz hlo hl)
  · exact va_gets ok.1 ok.2.1 (va_Z.moved ok.2.2.2.2.2.1.alike (hZ.kept (am_kp h0))) (am_vaA h0 hH hz hlo) ok.2.2.2.1 (ok.2.2.2.2.1 _ hw) (fun _ h9 => h9) hdg (kk (.ref k) (Or.inr rfl) H locs ls hH hz hlo hl)
set_option maxHeartbeats 4000000 in
/-- a virtual call on an object that stood before the law -/
theorem AW.callVC {y : MethodName} {b : ByteArray} {nL' n index c : Nat} {ret : Option FieldType} {rm : Room} {As : List Value} {CC : String}
    (ok : am_ok X U G own cc nL) (h0 : am_st0 U G) (hC : am_Ct X U (am_gl G) y b nL' ret rm (.ref c :: As) V P) (hcv : am_cv X own index y b nL' ret n) (hO : va_O y.cls (am_ad U c) (am_A U) (am_s0 U) (am_s0 U).heap) (hn : As.length = n)
    (hst : (st.map fun v => v.category).sum ≤ 8) (hR : rm.frames + 1 ≤ (am_gR G).frames ∧ 8 + (nL' + 11) + rm.locals ≤ (am_gR G).locals) (hf : kc + rm.cells ≤ (am_gR G).cells ∧ ks + rm.slots ≤ (am_gR G).slots) (hdg : decode cc pc = .ok (.invokevirtual index, 3))
    (kx : ∀ (E : String) (V1 : am_V), P (.inr E) V1 → AX X U G nL (kc + rm.cells) (ks + rm.slots) V1 Q E pc L) (kk : ∀ (r : Option Value) (V1 : am_V), P (.inl r) V1 → AW X U G nL (kc + rm.cells) (ks + rm.slots) V1 Q (pc + 3) L (r.toList ++ st)) :
    AW X U G nL kc ks V Q pc L (As.reverse ++ .ref c :: st) := by
  intro H locs ls hH hz hlo hl
  obtain ⟨w1, w2, w3, w4, w5, hd⟩ := hcv
  have hts := ok.2.2.2.2.1
  have hw := am_wordsok ok
  have hT : GoodIn (am_WS X) (wsV own index y.cls y (Cond.code y b nL' ret :: am_WS X)) := am_good hw (by
    intro w hm
    simp only [wsV, List.mem_append, List.mem_cons, List.not_mem_nil, or_false] at hm
    rcases hm with (rfl | rfl | rfl | rfl) | rfl | hm
    · exact w1
    · exact w2
    · exact w3
    · exact w4
    · exact w5
    · exact hm)
  have cw := cwV (R := am_gR G) (s := am_gs G) (args := am_ga G) (own := own) (C := y.cls) (index := index) (y := y) (bytes := b) (maxL := nL') (ret := ret) (ws := Cond.code y b nL' ret :: am_WS X) (rm := rm) (mc := rm.cells) (ms := rm.slots) n hts hT rfl rfl rfl ⟨rfl, hd⟩ hR
  rw [am_map_rev]
  have hrec : ∃ cell : Cell, H[am_ad U c]? = some cell ∧ cell.vm.isStatics = false ∧ (am_gs G).vm.findClass y.cls = some cell.cls := by
    obtain ⟨cell, h1, h2, h3, -⟩ := (va_O.moved ok.2.2.2.2.2.1.alike (hO.kept (am_kp h0))).kept (am_vaA h0 hH hz hlo).2.1
    exact ⟨cell, h1, h2, h3⟩
  refine am_after (a := (Value.ref (am_ad U c) :: As.map (am_v (am_ad U))).toArray) (vx_runV (Ts := am_WS X) (nL := nL) (own := own) (As := As.map (am_v (am_ad U))) (rest := st.map (am_v (am_ad U))) ⟨ok.1, ok.2.1, ok.2.2.1, ok.2.2.2.1, hts⟩ hC cw ⟨am_blind (.ref c :: As), hrec, fun S hS hWS => ⟨rfl, ?_, State.WarmedH.trans ok.2.2.2.2.2.1 hWS⟩⟩ rfl (by rw [List.length_map]; exact hn) hl.1 rfl ?_ hdg hf) hz hlo hl kx kk
  · rw [hS]; exact hH
  · show 2 * 0 + _ ≤ 8
    rw [am_cat]
    omega
/-- a constant is put into an array of references -/
theorem AW.aastC {c t n d : Nat} {i x : Int32} {g : Nat → Int32 → Option Nat} {E : String} (ok : am_ok X U G own cc nL) (h0 : am_st0 U G) (hsh : am_sh X c = some (.inr (t, n, .inr g))) (hw : am_wr X c = true) (ht : t < 8) (hty : am_tA X t = .object E) (hO : va_O E (am_ad U d) (am_A U) (am_s0 U) (am_s0 U).heap) (hg : g i.toNatClampNeg x = some d) (hin : vp_in i n) (hdg : decode cc pc = .ok (.aastore, 1))
    (kk : AW X U G nL kc ks (am_set V c i.toNatClampNeg x) Q (pc + 1) L st) : AW X U G nL kc ks V Q pc L (.ref d :: .int i :: .ref c :: st) := by
  intro H locs ls hH hz hlo hl
  have hRA : va_RA (am_gs G) (am_dA U t) (.object E) := by
    have := va_RA.moved ok.2.2.2.2.2.1.alike (ok.2.2.2.2.2.2.1.2.2.1 t ht).2
    rw [hty] at this
    exact this
  obtain ⟨kA, comp, k1, k2, k3, -⟩ := hRA
  obtain ⟨cellV, g1, g3, g2, -⟩ := (va_O.moved ok.2.2.2.2.2.1.alike (hO.kept (am_kp h0))).kept (am_vaA h0 hH hz hlo).2.1
  obtain ⟨kE, hkE, -⟩ := Vm.findClass_spec k3
  obtain ⟨kC, hkC, -⟩ := Vm.findClass_spec g2
  have hlt : i.toNatClampNeg < n := Nat.not_le.mp fun q => hin (Or.inr q)
  have h00 : ¬ i < 0 := fun q => hin (Or.inl q)
  refine W.aast ok.1 ok.2.1 (hH.1 c _ hsh) (fun q h => by cases h) (fun h => by cases h) k1 k2 rfl hkE ⟨h00, by show _ < (arrV _ _ _).slots.size; rw [arrV_size]; exact hlt⟩ g1 (fun q h => by rw [h] at g3; cases g3) hkC (vb_asgS _ _ k3 g2) rfl rfl hdg fun H1 e z oq => ?_
  have hat : va_at (am_D U) (am_cl X) (am_ad U c, am_e (am_dA U) (am_ad U) (upd (V c) i.toNatClampNeg x) (.inr (t, n, .inr g))) H1 := by
    show H1[am_ad U c]? = some (vp_cell (am_dA U t) (n, .inr (.inr (.inr (.inr (fun j => (g j (upd (V c) i.toNatClampNeg x j)).map (am_ad U)))))))
    have e : H1[am_ad U c]? = some ((vp_cell (am_dA U t) (n, .inr (.inr (.inr (.inr (fun j => (g j (V c j)).map (am_ad U))))))).setSlot i.toNatClampNeg (.ref (am_ad U d))) := e
    rw [e, vp_cell_q, vp_cell_q, arrV_store]
    congr 2
    funext q
    by_cases hq : q = i.toNatClampNeg
    · subst hq
      simp [updV, upd, hg, va_rf]
    · simp [updV, upd, hq]
  exact kk H1 _ ls (am_H.put ok.2.2.2.2.2.2.1 hH hsh hw (am_set_at V c _ x) (fun d hd => am_set_ne V _ x hd) hat z oq) (by rw [z]; exact hz) (am_locs hlo (ok.2.2.2.2.2.2.1.2.2.2.2 c _ hsh hw)) hl
end XCS
section XCE
variable {U : am_U} {l : Launch} {G : am_G} {own : String} {cc : ByteArray} {nL fr c lo kc pc : Nat} {ret : Option FieldType} {V V1 : am_V} {r : (Option Value ⊕ String) × am_V} {L : List (Option Value)} {st : List Value}
theorem AE.gets {C n d : String} {v : Value} {index : Nat} (K : aK U l G own cc nL ret fr c lo) (hx : (C, n, d, v) ∈ am_SF xx) (hw : Cond.fieldLink own index C n d ∈ am_WS xx) (hdg : decode cc pc = .ok (.getstatic index, 3)) (kk : AE U G nL fr c lo r kc V (pc + 3) L (v :: st)) : AE U G nL fr c lo r kc V pc L st := AW.gets K.2.2.2.1 K.2.2.2.2 hx hw hdg kk
theorem AE.getsN {C n d host : String} {v : Value} {index : Nat} (K : aK U l G own cc nL ret fr c lo) (hx : (C, n, d, v) ∈ am_SF xx) (hw : Cond.fieldLinkNest own index C n d host ∈ am_NS xx) (hdg : decode cc pc = .ok (.getstatic index, 3)) (kk : AE U G nL fr c lo r kc V (pc + 3) L (v :: st)) : AE U G nL fr c lo r kc V pc L st := AW.getsN K.2.2.2.1 K.2.2.2.2 hx hw hdg kk
theorem AE.getC {o n d : String} {index c0 : Nat} {v : Value} (K : aK U l G own cc nL ret fr c lo) (hE : va_OF o n d (am_v (am_ad U) v) (am_ad U c0) (am_A U) (am_s0 U) (am_s0 U).heap) (hw : Cond.fieldLink own index o n d ∈ am_WS xx) (hdg : decode cc pc = .ok (.getfield index, 3))
    (kk : AE U G nL fr c lo r kc V (pc + 3) L (v :: st)) : AE U G nL fr c lo r kc V pc L (.ref c0 :: st) := AW.getC K.2.2.2.1 K.2.2.2.2 hE hw hdg kk
theorem AE.ildC {c0 N : Nat} {i : Int32} {f : Nat → Value} {v : Value} (K : aK U l G own cc nL ret fr c lo) (hT : va_T .int (am_ad U c0) N f (am_A U) (am_s0 U) (am_s0 U).heap) (hin : vp_in i N) (hv : f i.toNatClampNeg = am_v (am_ad U) v) (hdg : decode cc pc = .ok (.iaload, 1))
    (kk : AE U G nL fr c lo r kc V (pc + 1) L (v :: st)) : AE U G nL fr c lo r kc V pc L (.int i :: .ref c0 :: st) := AW.ildC K.2.2.2.1 K.2.2.2.2 hT hin hv hdg kk
theorem AE.bldC {c0 N : Nat} {i : Int32} {f : Nat → Value} {v : Value} (K : aK U l G own cc nL ret fr c lo) (hT : va_T .byte (am_ad U c0) N f (am_A U) (am_s0 U) (am_s0 U).heap) (hin : vp_in i N) (hv : f i.toNatClampNeg = am_v (am_ad U) v) (hdg : decode cc pc = .ok (.baload, 1))
    (kk : AE U G nL fr c lo r kc V (pc + 1) L (v :: st)) : AE U G nL fr c lo r kc V pc L (.int i :: .ref c0 :: st) := AW.bldC K.2.2.2.1 K.2.2.2.2 hT hin hv hdg kk
theorem AE.aldC {c0 N : Nat} {C : String} {i : Int32} {f : Nat → Value} {v : Value} (K : aK U l G own cc nL ret fr c lo) (hT : va_T (.object C) (am_ad U c0) N f (am_A U) (am_s0 U) (am_s0 U).heap) (hin : vp_in i N) (hv : f i.toNatClampNeg = am_v (am_ad U) v) (hdg : decode cc pc = .ok (.aaload, 1))
    (kk : AE U G nL fr c lo r kc V (pc + 1) L (v :: st)) : AE U G nL fr c lo r kc V pc L (.int i :: .ref c0 :: st) := AW.aldC K.2.2.2.1 K.2.2.2.2 hT hin hv hdg kk
theorem AE.alenC {c0 N : Nat} {ty : FieldType} {f : Nat → Value} (K : aK U l G own cc nL ret fr c lo) (hT : va_T ty (am_ad U c0) N f (am_A U) (am_s0 U) (am_s0 U).heap) (hdg : decode cc pc = .ok (.arraylength, 1))
    (kk : AE U G nL fr c lo r kc V (pc + 1) L (.int (Int32.ofNat N) :: st)) : AE U G nL fr c lo r kc V pc L (.ref c0 :: st) := AW.alenC K.2.2.2.1 K.2.2.2.2 hT hdg kk
def am_by (x : Int32) : Bool := decide (narrow .byte (.int x) = .int x)
theorem AE.bret {x : Int32} (K : aK U l G own cc nL (some .byte) fr c lo) (hc : kc ≤ c) (hdg : decode cc pc = .ok (.ireturn, 1)) (h : rG (am_by x) (some (.inl (some (.int x)), V)) = some r) : AE U G nL fr c lo r kc V pc L [.int x] := by
  obtain ⟨h1, h2⟩ := rG_t h
  cases h2
  exact AW.iret K.2.2.2.1 ⟨rfl, rfl⟩ K.2.2.1 (of_decide_eq_true h1) hc (Nat.mul_le_mul_left 6 hc) hdg
end XCE
