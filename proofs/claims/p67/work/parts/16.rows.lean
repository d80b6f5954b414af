/-! ===== rows for a walk by program: what is read is handed in as an equation ===== -/
def bI (b : Bool) : Int32 := if b then nI 1 else nI 0
theorem i_le {a b : Nat} (ha : a < 2147483648) (hb : b < 2147483648) : nI a ≤ nI b ↔ a ≤ b := nI_leI ha hb
theorem i_lt {a b : Nat} (ha : a < 2147483648) (hb : b < 2147483648) : nI a < nI b ↔ a < b := nI_ltI ha hb
theorem i_eq {a b : Nat} (ha : a < 2147483648) (hb : b < 2147483648) : nI a = nI b ↔ a = b := nI_eq ha hb
theorem i_lt0 {a : Nat} (ha : a < 2147483648) : ¬ nI a < 0 := nI_pos ha
theorem i_clamp {a : Nat} (ha : a < 2147483648) : (nI a).toNatClampNeg = a := nI_clamp ha
section AMW
variable {U : am_U} {G : am_G} {own : String} {cc : ByteArray} {nL kc ks pc pc' : Nat} {V V1 : am_V} {Q : State → Prop} {L L' : List (Option Value)} {st st' : List Value}
theorem AW.getI {c ci k index : Nat} {os : List (Option Nat)} {x : Int32} (ok : am_ok xx U G own cc nL) (hf : am_gf xx own index ci k) (hsh : am_sh xx c = some (.inl (ci, os))) (ho : os[k]? = some none) (hv : V c k = x) (hdg : decode cc pc = .ok (.getfield index, 3))
    (kk : AW xx U G nL kc ks V Q (pc + 3) L (.int x :: st)) : AW xx U G nL kc ks V Q pc L (.ref c :: st) := by
  refine AW.getf ok hf hsh ho hdg ?_
  rw [hv]
  exact kk
theorem AW.getR {c ci k index d : Nat} {os : List (Option Nat)} (ok : am_ok xx U G own cc nL) (hf : am_gf xx own index ci k) (hsh : am_sh xx c = some (.inl (ci, os))) (ho : os[k]? = some (some d)) (hdg : decode cc pc = .ok (.getfield index, 3))
    (kk : AW xx U G nL kc ks V Q (pc + 3) L (.ref d :: st)) : AW xx U G nL kc ks V Q pc L (.ref c :: st) := AW.getf ok hf hsh ho hdg kk
theorem AW.aldI {c n j : Nat} {x : Int32} (ok : am_ok xx U G own cc nL) (hsh : am_sh xx c = some (.inr (0, n, .inl false))) (hj : j < n) (hn : n < 2147483648) (hv : V c j = x) (hdg : decode cc pc = .ok (.iaload, 1))
    (kk : AW xx U G nL kc ks V Q (pc + 1) L (.int x :: st)) : AW xx U G nL kc ks V Q pc L (.int (nI j) :: .ref c :: st) := by
  refine AW.iald ok hsh (by decide) rfl (vp_in_nI hj hn) hdg ?_
  rw [i_clamp (Nat.lt_trans hj hn), hv]
  exact kk
theorem AW.astI {c n j : Nat} {x : Int32} (ok : am_ok xx U G own cc nL) (hsh : am_sh xx c = some (.inr (0, n, .inl false))) (hw : am_wr xx c = true) (hj : j < n) (hn : n < 2147483648) (hdg : decode cc pc = .ok (.iastore, 1))
    (kk : AW xx U G nL kc ks (am_set V c j x) Q (pc + 1) L st) : AW xx U G nL kc ks V Q pc L (.int x :: .int (nI j) :: .ref c :: st) := by
  refine AW.iast ok hsh hw (by decide) rfl (vp_in_nI hj hn) hdg ?_
  rw [i_clamp (Nat.lt_trans hj hn)]
  exact kk
/-- a call, its stack told as it stands -/
theorem AW.cvP {y : MethodName} {b : ByteArray} {nL' n index ci c : Nat} {ret : Option FieldType} {rm : Room} {As : List Value} {os : List (Option Nat)} {T : u_T} {N : Nat} {P : am_P} {stk : List Value}
    (ok : am_ok xx U G own cc nL) (hC : am_Ct xx U (am_gl G) y b nL' ret rm (.ref c :: As) V P) (hcv : am_cv xx own index y b nL' ret n) (hsh : am_sh xx c = some (.inl (ci, os))) (hcl : (am_cl xx)[ci]? = some (y.cls, T, N)) (hn : As.length = n) (hs : stk = As.reverse ++ .ref c :: st)
    (hst : (st.map fun v => v.category).sum ≤ 8) (hR : rm.frames + 1 ≤ (am_gR G).frames ∧ 8 + (nL' + 11) + rm.locals ≤ (am_gR G).locals) (hf : kc + rm.cells ≤ (am_gR G).cells ∧ ks + rm.slots ≤ (am_gR G).slots) (hdg : decode cc pc = .ok (.invokevirtual index, 3))
    (kx : ∀ (E : String) (V1 : am_V), P (.inr E) V1 → AX xx U G nL (kc + rm.cells) (ks + rm.slots) V1 Q E pc L) (kk : ∀ (r : Option Value) (V1 : am_V), P (.inl r) V1 → AW xx U G nL (kc + rm.cells) (ks + rm.slots) V1 Q (pc + 3) L (r.toList ++ st)) : AW xx U G nL kc ks V Q pc L stk := by
  subst hs
  exact AW.callV ok hC hcv hsh hcl hn hst hR hf hdg kx kk
/-- .. that comes back with a known answer and table -/
theorem AW.cv1 {y : MethodName} {b : ByteArray} {nL' n index ci c : Nat} {ret : Option FieldType} {rm : Room} {As : List Value} {os : List (Option Nat)} {T : u_T} {N : Nat} {r : Value} {stk : List Value}
    (ok : am_ok xx U G own cc nL) (hC : am_Ct xx U (am_gl G) y b nL' ret rm (.ref c :: As) V (am_is (.inl (some r)) V1)) (hcv : am_cv xx own index y b nL' ret n) (hsh : am_sh xx c = some (.inl (ci, os))) (hcl : (am_cl xx)[ci]? = some (y.cls, T, N)) (hn : As.length = n) (hs : stk = As.reverse ++ .ref c :: st)
    (hst : (st.map fun v => v.category).sum ≤ 8) (hR : rm.frames + 1 ≤ (am_gR G).frames ∧ 8 + (nL' + 11) + rm.locals ≤ (am_gR G).locals) (hf : kc + rm.cells ≤ (am_gR G).cells ∧ ks + rm.slots ≤ (am_gR G).slots) (hdg : decode cc pc = .ok (.invokevirtual index, 3))
    (kk : AW xx U G nL (kc + rm.cells) (ks + rm.slots) V1 Q (pc + 3) L (r :: st)) : AW xx U G nL kc ks V Q pc L stk := by
  subst hs
  exact AW.callV ok hC hcv hsh hcl hn hst hR hf hdg (fun E W h => by cases h.1) (fun q W h => by obtain ⟨h1, rfl⟩ := h; cases h1; exact kk)
theorem AW.cs1 {y : MethodName} {b : ByteArray} {nL' n index : Nat} {ret : Option FieldType} {rm : Room} {As : List Value} {r : Value} {stk : List Value}
    (ok : am_ok xx U G own cc nL) (hC : am_Ct xx U (am_gl G) y b nL' ret rm As V (am_is (.inl (some r)) V1)) (hcv : am_cs xx own index y b nL' ret n) (hn : As.length = n) (hs : stk = As.reverse ++ st)
    (hst : (st.map fun v => v.category).sum ≤ 8) (hR : rm.frames + 1 ≤ (am_gR G).frames ∧ 8 + (nL' + 11) + rm.locals ≤ (am_gR G).locals) (hf : kc + rm.cells ≤ (am_gR G).cells ∧ ks + rm.slots ≤ (am_gR G).slots) (hdg : decode cc pc = .ok (.invokestatic index, 3))
    (kk : AW xx U G nL (kc + rm.cells) (ks + rm.slots) V1 Q (pc + 3) L (r :: st)) : AW xx U G nL kc ks V Q pc L stk := by
  subst hs
  exact AW.callS ok hC hcv hn hst hR hf hdg (fun E W h => by cases h.1) (fun q W h => by obtain ⟨h1, rfl⟩ := h; cases h1; exact kk)
theorem AW.cn1 {y : MethodName} {b : ByteArray} {nL' n index : Nat} {ret : Option FieldType} {rm : Room} {As : List Value} {r : Value} {stk : List Value} {host : String}
    (ok : am_ok xx U G own cc nL) (hC : am_Ct xx U (am_gl G) y b nL' ret rm As V (am_is (.inl (some r)) V1)) (hcv : am_cn xx own index y host b nL' ret n) (hn : As.length = n) (hs : stk = As.reverse ++ st)
    (hst : (st.map fun v => v.category).sum ≤ 8) (hR : rm.frames + 1 ≤ (am_gR G).frames ∧ 8 + (nL' + 11) + rm.locals ≤ (am_gR G).locals) (hf : kc + rm.cells ≤ (am_gR G).cells ∧ ks + rm.slots ≤ (am_gR G).slots) (hdg : decode cc pc = .ok (.invokestatic index, 3))
    (kk : AW xx U G nL (kc + rm.cells) (ks + rm.slots) V1 Q (pc + 3) L (r :: st)) : AW xx U G nL kc ks V Q pc L stk := by
  subst hs
  exact AW.callSN ok hC hcv hn hst hR hf hdg (fun E W h => by cases h.1) (fun q W h => by obtain ⟨h1, rfl⟩ := h; cases h1; exact kk)
theorem AW.aldR {c t n j d : Nat} {g : Nat → Int32 → Option Nat} {C : FieldType} (ok : am_ok xx U G own cc nL) (hsh : am_sh xx c = some (.inr (t, n, .inr g))) (ht : t < 8) (hty : am_tA xx t = C) (hC : C.isReference = true) (hj : j < n) (hn : n < 2147483648) (hg : g j (V c j) = some d) (hdg : decode cc pc = .ok (.aaload, 1))
    (kk : AW xx U G nL kc ks V Q (pc + 1) L (.ref d :: st)) : AW xx U G nL kc ks V Q pc L (.int (nI j) :: .ref c :: st) := by
  have e := i_clamp (Nat.lt_trans hj hn)
  exact AW.aald ok hsh ht hty hC (vp_in_nI hj hn) (by rw [e]; exact hg) hdg kk
theorem i_rem {a d : Nat} (ha : a < 2147483648) (h0 : 0 < d) (hd : d < 2147483648) : nI a - nI a / nI d * nI d = nI (a % d) := pk_rem ha h0 hd
theorem i_min {a b : Nat} (ha : a < 2147483648) (hb : b < 2147483648) : (if nI b < nI a then nI b else nI a) = nI (min a b) := by
  by_cases h : b < a
  · rw [if_pos ((i_lt hb ha).mpr h), Nat.min_eq_right (by omega)]
  · rw [if_neg (fun q => h ((i_lt hb ha).mp q)), Nat.min_eq_left (by omega)]
theorem i_max {a b : Nat} (ha : a < 2147483648) (hb : b < 2147483648) : (if nI a < nI b then nI b else nI a) = nI (max a b) := by
  by_cases h : a < b
  · rw [if_pos ((i_lt ha hb).mpr h), Nat.max_eq_right (by omega)]
  · rw [if_neg (fun q => h ((i_lt ha hb).mp q)), Nat.max_eq_left (by omega)]
theorem AW.putI {c ci k index : Nat} {os : List (Option Nat)} {ty : FieldType} {x : Int32} (ok : am_ok xx U G own cc nL) (hf : am_pf xx own index ci k ty) (hsh : am_sh xx c = some (.inl (ci, os))) (hw : am_wr xx c = true) (ho : os[k]? = some none) (hn : narrow ty (.int x) = .int x ∧ fits ty (.int x) = true) (hdg : decode cc pc = .ok (.putfield index, 3))
    (kk : AW xx U G nL kc ks (am_set V c k x) Q (pc + 3) L st) : AW xx U G nL kc ks V Q pc L (.int x :: .ref c :: st) := AW.putf ok hf hsh hw ho hn.1 hn.2 hdg kk
/-- arraycopy of whole rows -/
theorem AW.cpy {index c0 c1 n0 n1 n : Nat} (ok : am_ok xx U G own cc nL) (hw : am_ac xx own index) (hs0 : am_sh xx c0 = some (.inr (0, n0, .inl false))) (hs1 : am_sh xx c1 = some (.inr (0, n1, .inl false))) (hw1 : am_wr xx c1 = true) (h0 : n ≤ n0) (h1 : n ≤ n1) (hn : n < 2147483648) (hframes : 1 ≤ (am_gR G).frames) (hlocals : (st.map fun v => v.category).sum + (nativeFrameWords "java/lang/System" "arraycopy" 5 + 11) ≤ (am_gR G).locals) (hdg : decode cc pc = .ok (.invokestatic index, 3))
    (kk : AW xx U G nL kc ks (am_row V c1 (va_cpy (V c0) (V c1) 0 0 n)) Q (pc + 3) L st) : AW xx U G nL kc ks V Q pc L (.int (nI n) :: .int (nI 0) :: .ref c1 :: .int (nI 0) :: .ref c0 :: st) := by
  have e0 : (nI 0).toNatClampNeg = 0 := i_clamp (by omega)
  have en : (nI n).toNatClampNeg = n := i_clamp hn
  refine AW.copy ok hw hs0 hs1 hw1 (by decide) rfl (i_lt0 (by omega)) (i_lt0 (by omega)) (i_lt0 hn) (by rw [e0, en]; omega) (by rw [e0, en]; omega) hframes hlocals hdg ?_
  rw [e0, en]
  exact kk
end AMW
theorem am_set_nk (V : am_V) (c : Nat) {k j : Nat} (x : Int32) (h : j ≠ k) : am_set V c k x c j = V c j := by rw [am_set_at]; exact pk_un h
theorem am_set_eq (V : am_V) (c k : Nat) (x : Int32) : am_set V c k x c k = x := by rw [am_set_at]; exact pk_us
theorem am_row_cp (V W : am_V) (c c0 : Nat) {n j : Nat} (h : j < n) : am_row V c (va_cpy (W c0) (W c) 0 0 n) c j = W c0 j := by rw [am_row_at]; exact sb_cpy0 h
theorem nb_b (b : Bool) : narrow .boolean (.int (bI b)) = .int (bI b) ∧ fits .boolean (.int (bI b)) = true := by cases b <;> exact ⟨rfl, rfl⟩
