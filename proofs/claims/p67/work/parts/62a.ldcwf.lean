/-! ===== ldc_w of a float ===== -/
section XLF
variable {p : Program} {l : Launch} {e : Env} {R : Room} {s : State} {m : MethodId} {args : Array Value} {below : List Frame} {meth : Method} {c : Code} {H : Heap} {locs : List Loc} {cells slots : Nat} {Q : State → Prop}
variable {cc : ByteArray} {pc : Nat} {ls : Array Slot} {rest : List Value}
theorem x_ldcwF {T : State} (X : Stand p l e R s m args below meth c T locs cells slots) (hexec : p.tables.exec = Jvm.exec) {own : String} {index : Nat} {v : UInt32} (hown : s.vm.findClass own = some m.cls) (hconst : (Cond.constantFloat own index v).before args s = true) {g : JFrame} (hg : g.method = m) (hdg : decode c.code g.pc = .ok (.ldc_w index, 3)) :
    ∀ target, Steps p.tables e below (T.setTop { g with pc := g.pc + 3, stack := .float v :: g.stack }) target → Steps p.tables e below (T.setTop g) target := by
  obtain ⟨k, cf, hk, hcf, hcp⟩ := Cond.constantFloat_spec hown hconst
  obtain ⟨k', hk', he⟩ := X.warmed.alike.2.2 _ _ hk
  intro target hrest
  subst hg
  jvm_step X.here [hexec, hdg, ldc_w.wp_float (s := T) (f := g) X.here.top hk' (by rw [he]; exact hcf) hcp]
  exact hrest
theorem xv_ldcwF (hexec : p.tables.exec = Jvm.exec) (hb : c.code = cc) {own : String} {index : Nat} {v : UInt32} (hown : s.vm.findClass own = some m.cls) (hconst : (Jvm.Cond.constantFloat own index v).before args s = true) (hdg : decode cc pc = .ok (.ldc_w index, 3)) (k : W p l e R s m args below meth c H locs cells slots Q (F0 m (pc + 3) ls (.float v :: rest))) : W p l e R s m args below meth c H locs cells slots Q (F0 m pc ls rest) := by
  intro T hT X
  obtain ⟨t, a, b⟩ := k T hT X
  exact ⟨t, x_ldcwF X hexec hown hconst (g := F0 m pc ls rest) rfl (by rw [hb]; exact hdg) t a, b⟩
end XLF
section XLG
variable {X : am_X} {U : am_U} {G : am_G} {own : String} {cc : ByteArray} {nL kc ks pc : Nat} {V : am_V} {Q : State → Prop} {L : List (Option Value)} {st : List Value}
theorem AW.ldcwF {index : Nat} {v : UInt32} (ok : am_ok X U G own cc nL) (hw : Jvm.Cond.constantFloat own index v ∈ am_WS X) (hdg : decode cc pc = .ok (.ldc_w index, 3)) (kk : AW X U G nL kc ks V Q (pc + 3) L (.float v :: st)) : AW X U G nL kc ks V Q pc L st :=
  fun H locs ls hH hz hlo hl => xv_ldcwF ok.1 ok.2.1 ok.2.2.2.1 (ok.2.2.2.2.1 _ hw) hdg (kk H locs ls hH hz hlo hl)
end XLG
theorem AE.ldcwF {U : am_U} {l : Launch} {G : am_G} {own : String} {cc : ByteArray} {nL fr c lo kc pc : Nat} {ret : Option FieldType} {V : am_V} {r : (Option Value ⊕ String) × am_V} {L : List (Option Value)} {st : List Value} {index : Nat} {v : UInt32} (K : aK U l G own cc nL ret fr c lo) (hw : Jvm.Cond.constantFloat own index v ∈ am_WS xx) (hdg : decode cc pc = .ok (.ldc_w index, 3)) (kk : AE U G nL fr c lo r kc V (pc + 3) L (.float v :: st)) : AE U G nL fr c lo r kc V pc L st := AW.ldcwF K.2.2.2.1 hw hdg kk
