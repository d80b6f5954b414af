/-! ===== AM7: constants, switches, floats, statics, Math, arraycopy, handlers ===== -/
section AMF
variable {X : am_X} {U : am_U} {G : am_G} {own : String} {cc : ByteArray} {nL kc ks pc pc' : Nat} {V V1 : am_V} {Q : State → Prop} {L L' : List (Option Value)} {st st' : List Value} {H : Heap} {locs : List Loc} {ls : Array Slot}
theorem AW.ldcI {index : Nat} {v : Int32} (ok : am_ok X U G own cc nL) (hw : Jvm.Cond.constant own index v ∈ am_WS X) (hdg : decode cc pc = .ok (.ldc index, 2)) (kk : AW X U G nL kc ks V Q (pc + 2) L (.int v :: st)) : AW X U G nL kc ks V Q pc L st :=
  fun H locs ls hH hz hlo hl => lv_ldc ok.1 ok.2.1 ok.2.2.2.1 (ok.2.2.2.2.1 _ hw) hdg (kk H locs ls hH hz hlo hl)
theorem AW.ldcwI {index : Nat} {v : Int32} (ok : am_ok X U G own cc nL) (hw : Jvm.Cond.constant own index v ∈ am_WS X) (hdg : decode cc pc = .ok (.ldc_w index, 3)) (kk : AW X U G nL kc ks V Q (pc + 3) L (.int v :: st)) : AW X U G nL kc ks V Q pc L st :=
  fun H locs ls hH hz hlo hl => lv_ldcw ok.1 ok.2.1 ok.2.2.2.1 (ok.2.2.2.2.1 _ hw) hdg (kk H locs ls hH hz hlo hl)
theorem AW.ldcF {index : Nat} {v : UInt32} (ok : am_ok X U G own cc nL) (hw : Jvm.Cond.constantFloat own index v ∈ am_WS X) (hdg : decode cc pc = .ok (.ldc index, 2)) (kk : AW X U G nL kc ks V Q (pc + 2) L (.float v :: st)) : AW X U G nL kc ks V Q pc L st :=
  fun H locs ls hH hz hlo hl => lv_ldcf ok.1 ok.2.1 ok.2.2.2.1 (ok.2.2.2.2.1 _ hw) hdg (kk H locs ls hH hz hlo hl)
theorem AW.ldcL {index : Nat} {v : Int64} (ok : am_ok X U G own cc nL) (hw : Jvm.Cond.constantLong own index v ∈ am_WS X) (hdg : decode cc pc = .ok (.ldc2_w index, 3)) (kk : AW X U G nL kc ks V Q (pc + 3) L (.long v :: st)) : AW X U G nL kc ks V Q pc L st :=
  fun H locs ls hH hz hlo hl => lv_ldc2 ok.1 ok.2.1 ok.2.2.2.1 (ok.2.2.2.2.1 _ hw) hdg (kk H locs ls hH hz hlo hl)
theorem AW.ldcD {index : Nat} {v : UInt64} (ok : am_ok X U G own cc nL) (hw : Jvm.Cond.constantDouble own index v ∈ am_WS X) (hdg : decode cc pc = .ok (.ldc2_w index, 3)) (kk : AW X U G nL kc ks V Q (pc + 3) L (.double v :: st)) : AW X U G nL kc ks V Q pc L st :=
  fun H locs ls hH hz hlo hl => lv_ldc2d ok.1 ok.2.1 ok.2.2.2.1 (ok.2.2.2.2.1 _ hw) hdg (kk H locs ls hH hz hlo hl)
theorem AW.fc0 (ok : am_ok X U G own cc nL) (hdg : decode cc pc = .ok (.fconst 0, 1)) (kk : AW X U G nL kc ks V Q (pc + 1) L (.float FP.fconst0 :: st)) : AW X U G nL kc ks V Q pc L st :=
  fun H locs ls hH hz hlo hl => lv_fconst0 ok.1 ok.2.1 hdg (kk H locs ls hH hz hlo hl)
theorem AW.fc1 (ok : am_ok X U G own cc nL) (hdg : decode cc pc = .ok (.fconst 1, 1)) (kk : AW X U G nL kc ks V Q (pc + 1) L (.float FP.fconst1 :: st)) : AW X U G nL kc ks V Q pc L st :=
  fun H locs ls hH hz hlo hl => lv_fconst1 ok.1 ok.2.1 hdg (kk H locs ls hH hz hlo hl)
theorem AW.fc2 (ok : am_ok X U G own cc nL) (hdg : decode cc pc = .ok (.fconst 2, 1)) (kk : AW X U G nL kc ks V Q (pc + 1) L (.float FP.fconst2 :: st)) : AW X U G nL kc ks V Q pc L st :=
  fun H locs ls hH hz hlo hl => lv_fconst2 ok.1 ok.2.1 hdg (kk H locs ls hH hz hlo hl)
theorem AW.fmul {x y : UInt32} (ok : am_ok X U G own cc nL) (hne : vf_n32 (FP.fmul x y)) (hdg : decode cc pc = .ok (.fmul, 1)) (kk : AW X U G nL kc ks V Q (pc + 1) L (.float (FP.fmul x y) :: st)) : AW X U G nL kc ks V Q pc L (.float y :: .float x :: st) :=
  fun H locs ls hH hz hlo hl => lv_fmul ok.1 ok.2.1 hdg hne (kk H locs ls hH hz hlo hl)
theorem AW.fdiv {x y : UInt32} (ok : am_ok X U G own cc nL) (hne : vf_n32 (FP.fdiv x y)) (hdg : decode cc pc = .ok (.fdiv, 1)) (kk : AW X U G nL kc ks V Q (pc + 1) L (.float (FP.fdiv x y) :: st)) : AW X U G nL kc ks V Q pc L (.float y :: .float x :: st) :=
  fun H locs ls hH hz hlo hl => lv_fdiv ok.1 ok.2.1 hdg hne (kk H locs ls hH hz hlo hl)
theorem AW.fsub {x y : UInt32} (ok : am_ok X U G own cc nL) (hne : vf_n32 (FP.fsub x y)) (hdg : decode cc pc = .ok (.fsub, 1)) (kk : AW X U G nL kc ks V Q (pc + 1) L (.float (FP.fsub x y) :: st)) : AW X U G nL kc ks V Q pc L (.float y :: .float x :: st) :=
  fun H locs ls hH hz hlo hl => lv_fsub ok.1 ok.2.1 hdg hne (kk H locs ls hH hz hlo hl)
theorem AW.ddiv {x y : UInt64} (ok : am_ok X U G own cc nL) (hne : vf_n64 (FP.ddiv x y)) (hdg : decode cc pc = .ok (.ddiv, 1)) (kk : AW X U G nL kc ks V Q (pc + 1) L (.double (FP.ddiv x y) :: st)) : AW X U G nL kc ks V Q pc L (.double y :: .double x :: st) :=
  fun H locs ls hH hz hlo hl => lv_ddiv ok.1 ok.2.1 hdg hne (kk H locs ls hH hz hlo hl)
theorem AW.f2i {x : UInt32} (ok : am_ok X U G own cc nL) (hdg : decode cc pc = .ok (.f2i, 1)) (kk : AW X U G nL kc ks V Q (pc + 1) L (.int (FP.f2i x) :: st)) : AW X U G nL kc ks V Q pc L (.float x :: st) :=
  fun H locs ls hH hz hlo hl => lv_f2i ok.1 ok.2.1 hdg (kk H locs ls hH hz hlo hl)
theorem AW.irem {x y : Int32} (ok : am_ok X U G own cc nL) (hne : ¬ y = 0) (hdg : decode cc pc = .ok (.irem, 1)) (kk : AW X U G nL kc ks V Q (pc + 1) L (.int (x - x / y * y) :: st)) : AW X U G nL kc ks V Q pc L (.int y :: .int x :: st) :=
  fun H locs ls hH hz hlo hl => t_irem ok.1 ok.2.1 hdg hne rfl (kk H locs ls hH hz hlo hl)
theorem AW.ifnonnull {off : Int} {c : Nat} (ok : am_ok X U G own cc nL) (tgt : Nat) (hdg : decode cc pc = .ok (.ifnonnull off, 3)) (ht : (pc : Int) + off = (tgt : Int)) (kk : AW X U G nL kc ks V Q tgt L st) : AW X U G nL kc ks V Q pc L (.ref c :: st) :=
  fun H locs ls hH hz hlo hl => lv_ifnonnull ok.1 ok.2.1 hdg ht (kk H locs ls hH hz hlo hl)
theorem AW.ifnull {off : Int} {c : Nat} (ok : am_ok X U G own cc nL) (hdg : decode cc pc = .ok (.ifnull off, 3)) (kk : AW X U G nL kc ks V Q (pc + 3) L st) : AW X U G nL kc ks V Q pc L (.ref c :: st) :=
  fun H locs ls hH hz hlo hl => lv_ifnull ok.1 ok.2.1 hdg (kk H locs ls hH hz hlo hl)
theorem AW.tswIn {dflt lo hi off : Int} {offs : Array Int} {len : Nat} {x : Int32} (ok : am_ok X U G own cc nL) (tgt : Nat) (hdg : decode cc pc = .ok (.tableswitch dflt lo hi offs, len)) (h1 : ¬ x.toInt < lo) (h2 : ¬ hi < x.toInt) (ho : offs[(x.toInt - lo).toNat]? = some off) (ht : (pc : Int) + off = (tgt : Int)) (kk : AW X U G nL kc ks V Q tgt L st) : AW X U G nL kc ks V Q pc L (.int x :: st) :=
  fun H locs ls hH hz hlo hl => lv_tableIn ok.1 ok.2.1 hdg h1 h2 ho ht (kk H locs ls hH hz hlo hl)
theorem AW.tswOut {dflt lo hi : Int} {offs : Array Int} {len : Nat} {x : Int32} (ok : am_ok X U G own cc nL) (tgt : Nat) (hdg : decode cc pc = .ok (.tableswitch dflt lo hi offs, len)) (h : x.toInt < lo ∨ hi < x.toInt) (ht : (pc : Int) + dflt = (tgt : Int)) (kk : AW X U G nL kc ks V Q tgt L st) : AW X U G nL kc ks V Q pc L (.int x :: st) :=
  fun H locs ls hH hz hlo hl => lv_tableOut ok.1 ok.2.1 hdg h ht (kk H locs ls hH hz hlo hl)
theorem AW.alen {c t n : Nat} {b : Bool ⊕ (Nat → Int32 → Option Nat)} (ok : am_ok X U G own cc nL) (hsh : am_sh X c = some (.inr (t, n, b))) (ht : t < 8) (hdg : decode cc pc = .ok (.arraylength, 1)) (kk : AW X U G nL kc ks V Q (pc + 1) L (.int (Int32.ofNat n) :: st)) : AW X U G nL kc ks V Q pc L (.ref c :: st) := by
  intro H locs ls hH hz hlo hl
  have hA := am_ok.A ok ht
  have hP := am_one (hH.1 c _ hsh)
  have hK2 : va_K (am_D U) (am_cl X) [(am_dA U t, am_tA X t)] (am_gs G) := ⟨(am_ok.K ok).1, fun k q hk => by
    have hz : k < 1 := (List.getElem?_eq_some_iff.mp hk).1
    rw [show k = 0 by omega] at hk
    cases hk
    exact ⟨hA, am_ok.RA ok ht⟩⟩
  rcases b with (_ | _) | g
  · exact va_alen (v := Int32.ofNat n) ok.1 ok.2.1 hK2 hP 0 0 rfl rfl rfl hdg (kk H locs ls hH hz hlo hl)
  · exact va_alen (v := Int32.ofNat n) ok.1 ok.2.1 hK2 hP 0 0 rfl rfl rfl hdg (kk H locs ls hH hz hlo hl)
  · exact va_alen (v := Int32.ofNat n) ok.1 ok.2.1 hK2 hP 0 0 rfl rfl rfl hdg (kk H locs ls hH hz hlo hl)
theorem AW.bald {c t n : Nat} {i : Int32} (ok : am_ok X U G own cc nL) (hsh : am_sh X c = some (.inr (t, n, .inl false))) (ht : t < 8) (hty : am_tA X t = .byte) (hin : vp_in i n) (hdg : decode cc pc = .ok (.baload, 1))
    (kk : AW X U G nL kc ks V Q (pc + 1) L (.int (V c i.toNatClampNeg) :: st)) : AW X U G nL kc ks V Q pc L (.int i :: .ref c :: st) := by
  intro H locs ls hH hz hlo hl
  have hA := am_ok.A ok ht
  rw [hty] at hA
  have hlt : i.toNatClampNeg < n := Nat.not_le.mp fun q => hin (Or.inr q)
  exact W.bald (v := .int (V c i.toNatClampNeg)) ok.1 ok.2.1 (hH.1 c _ hsh) (hA n (fun j => .int (V c j))) (fun q => by cases q) (by show ¬ (i < 0 ∨ (arrV _ _ _).slots.size ≤ _); rw [arrV_size]; exact hin) (by show (arrV _ _ _).slots[_]? = _; rw [arrV_read _ _ hlt]) rfl rfl hdg (kk H locs ls hH hz hlo hl)
/-- a static field that nobody writes -/
theorem AW.gets {C n d : String} {v : Value} {index : Nat} (ok : am_ok X U G own cc nL) (h0 : am_st0 U G) (hx : (C, n, d, v) ∈ am_SF X) (hw : Cond.fieldLink own index C n d ∈ am_WS X) (hdg : decode cc pc = .ok (.getstatic index, 3)) (kk : AW X U G nL kc ks V Q (pc + 3) L (v :: st)) : AW X U G nL kc ks V Q pc L st := by
  intro H locs ls hH hz hlo hl
  have hZ : va_Z C n d (am_v (am_ad U) v) (fun q => (am_s0 U).heap.size ≤ q) (am_gs G) (am_gs G).heap := va_Z.moved ok.2.2.2.2.2.1.alike ((ok.2.2.2.2.2.2.1.1.2.2.2.2.2.2 _ hx).kept (fun a ha _ => h0.2 a ha))
  exact va_gets ok.1 ok.2.1 hZ (am_vaS h0 hH hz hlo _ rfl) ok.2.2.2.1 (ok.2.2.2.2.1 _ hw) (fun _ h9 => h9) hdg (kk H locs ls hH hz hlo hl)
theorem AW.getsN {C n d host : String} {v : Value} {index : Nat} (ok : am_ok X U G own cc nL) (h0 : am_st0 U G) (hx : (C, n, d, v) ∈ am_SF X) (hw : Cond.fieldLinkNest own index C n d host ∈ am_NS X) (hdg : decode cc pc = .ok (.getstatic index, 3)) (kk : AW X U G nL kc ks V Q (pc + 3) L (v :: st)) : AW X U G nL kc ks V Q pc L st := by
  intro H locs ls hH hz hlo hl
  have hZ : va_Z C n d (am_v (am_ad U) v) (fun q => (am_s0 U).heap.size ≤ q) (am_gs G) (am_gs G).heap := va_Z.moved ok.2.2.2.2.2.1.alike ((ok.2.2.2.2.2.2.1.1.2.2.2.2.2.2 _ hx).kept (fun a ha _ => h0.2 a ha))
  exact va_getsN ok.1 ok.2.1 hZ (am_vaS h0 hH hz hlo _ rfl) ok.2.2.2.1 (am_ok.NS ok hw) (fun _ h9 => h9) hdg (kk H locs ls hH hz hlo hl)
/-- Math.min, Math.max -/
def am_mm (X : am_X) (own : String) (index : Nat) (y : MethodName) (b : ByteArray) : Prop := Cond.methodLink own index y ∈ am_WS X ∧ Cond.static y ∈ am_WS X ∧ Cond.initialized "java/lang/Math" ∈ am_WS X ∧ Cond.code y b 2 (some .int) ∈ am_WS X
theorem AW.mmin {index : Nat} {x y : Int32} (ok : am_ok X U G own cc nL) (hw : am_mm X own index Lib.Math.min.name Lib.Math.min.code) (hf : 1 ≤ (am_gR G).frames) (hlo9 : (st.map fun v => v.category).sum + 13 ≤ (am_gR G).locals) (hc : kc ≤ (am_gR G).cells) (hs : ks ≤ (am_gR G).slots) (hdg : decode cc pc = .ok (.invokestatic index, 3))
    (kk : AW X U G nL kc ks V Q (pc + 3) L (.int (if y < x then y else x) :: st)) : AW X U G nL kc ks V Q pc L (.int y :: .int x :: st) := by
  intro H locs ls hH hz hlo hl
  have hts := ok.2.2.2.2.1
  exact va_mmin ok.1 ok.2.1 (ok.2.2.1.trans hl.1.symm) ok.2.2.2.1 (hts _ hw.1) (hts _ hw.2.1) (hts _ hw.2.2.1) (hts _ hw.2.2.2) hf (by rw [am_cat]; exact hlo9) hc hs hdg (kk H locs ls hH hz hlo hl)
theorem AW.mmax {index : Nat} {x y : Int32} (ok : am_ok X U G own cc nL) (hw : am_mm X own index Lib.Math.max.name Lib.Math.max.code) (hf : 1 ≤ (am_gR G).frames) (hlo9 : (st.map fun v => v.category).sum + 13 ≤ (am_gR G).locals) (hc : kc ≤ (am_gR G).cells) (hs : ks ≤ (am_gR G).slots) (hdg : decode cc pc = .ok (.invokestatic index, 3))
    (kk : AW X U G nL kc ks V Q (pc + 3) L (.int (if x < y then y else x) :: st)) : AW X U G nL kc ks V Q pc L (.int y :: .int x :: st) := by
  intro H locs ls hH hz hlo hl
  have hts := ok.2.2.2.2.1
  exact va_mmax ok.1 ok.2.1 (ok.2.2.1.trans hl.1.symm) ok.2.2.2.1 (hts _ hw.1) (hts _ hw.2.1) (hts _ hw.2.2.1) (hts _ hw.2.2.2) hf (by rw [am_cat]; exact hlo9) hc hs hdg (kk H locs ls hH hz hlo hl)
end AMF
