/-! ===== the law's own frame: the same rows, in its room, behind its constructor ===== -/
abbrev am_Sc : Type := Nat × (Nat → Int32)
/-- the script: an array that nobody writes -/
def am_scr (U : am_U) (sc : am_Sc) : Prop := sc.1 < 2147483648 ∧ va_T .int (am_ad U 999) sc.1 (fun q => .int (sc.2 q)) (am_A U) (am_s0 U) (am_s0 U).heap
section
variable {U : am_U} {l : Launch} {G : am_G} {own : String} {cc : ByteArray} {nL fr c lo kc pc : Nat} {ret : Option FieldType} {V : am_V} {r : (Option Value ⊕ String) × am_V} {L : List (Option Value)} {st : List Value}
theorem AE.ialdS {i : Int32} {sc : am_Sc} {m : am_R} (K : aK U l G own cc nL ret fr c lo) (hsc : am_scr U sc) (hdg : decode cc pc = .ok (.iaload, 1)) (h : rG (am_in i sc.1) m = some r) (kk : m = some r → AE U G nL fr c lo r kc V (pc + 1) L (.int (sc.2 (iN i)) :: st)) : AE U G nL fr c lo r kc V pc L (.int i :: .ref 999 :: st) := AE.ildC K hsc.2 (am_in_ok (rG_t h).1) rfl hdg (kk (rG_t h).2)
end
def LE (U : am_U) (G : am_G) (Q : State → Prop) (k0 s0 : Nat) (_ : (Option Value ⊕ String) × am_V) (kc : Nat) (V : am_V) (pc : Nat) (L : List (Option Value)) (st : List Value) : Prop := AW xx U G 9 (k0 + kc) (s0 + 6 * kc) V Q pc L st
def lK (U : am_U) (l : Launch) (G : am_G) (Q : State → Prop) (k0 s0 C : Nat) (r : (Option Value ⊕ String) × am_V) : Prop :=
  am_gl G = l ∧ am_gR G = room_1 ∧ am_ok xx U G RL cL_law 9 ∧ am_st0 U G ∧ r.1 = .inl (some (.int (nI 1))) ∧ (k0 + C ≤ 602232 ∧ s0 + 6 * C ≤ 7283071) ∧
  ∀ (kc : Nat) (V : am_V) (pc : Nat) (L : List (Option Value)), kc ≤ C → decode cL_law pc = .ok (.ireturn, 1) → AW xx U G 9 (k0 + kc) (s0 + 6 * kc) V Q pc L [.int (nI 1)]
section
variable {U : am_U} {l : Launch} {G : am_G} {Q : State → Prop} {k0 s0 C kc pc pc' : Nat} {V : am_V} {r : (Option Value ⊕ String) × am_V} {L L' : List (Option Value)} {st st' : List Value} {hh : List (Nat × Nat × Nat × Nat)}
def laft (U : am_U) (G : am_G) (Q : State → Prop) (k0 s0 : Nat) (r : (Option Value ⊕ String) × am_V) (kc pc : Nat) (L : List (Option Value)) (st : List Value) (q : (Option Value ⊕ String) × am_V) : Prop := match q with
  | (.inl ro, V) => LE U G Q k0 s0 r kc V pc L (ro.toList ++ st)
  | (.inr E, V) => r = (.inr E, V)
theorem LbkI {f : Int32 → am_V → am_R} (k : ∀ (x : Int32) (V : am_V), f x V = some r → LE U G Q k0 s0 r kc V pc L (.int x :: st)) : ∀ q, tI f r q → laft U G Q k0 s0 r kc pc L st q := by
  intro q hq
  unfold tI at hq
  split at hq
  · exact k _ _ hq
  · exact hq
  · exact hq.elim
theorem LbkJ {f : Int64 → am_V → am_R} (k : ∀ (x : Int64) (V : am_V), f x V = some r → LE U G Q k0 s0 r kc V pc L (.long x :: st)) : ∀ q, tJ f r q → laft U G Q k0 s0 r kc pc L st q := by
  intro q hq
  unfold tJ at hq
  split at hq
  · exact k _ _ hq
  · exact hq
  · exact hq.elim
theorem LbkA {d : Nat} {f : am_V → am_R} (k : ∀ (V : am_V), f V = some r → LE U G Q k0 s0 r kc V pc L (.ref d :: st)) : ∀ q, tA d f r q → laft U G Q k0 s0 r kc pc L st q := by
  intro q hq
  unfold tA at hq
  split at hq
  · obtain ⟨rfl, h⟩ := hq
    exact k _ h
  · exact hq
  · exact hq.elim
theorem LE.sub (hs : am_subP L' L) (k : LE U G Q k0 s0 r kc V pc L' st) : LE U G Q k0 s0 r kc V pc L st := by
  intro H locs ls hH hz hlo hl
  exact k H locs ls hH hz hlo ⟨hl.1, hl.2.1, fun i v hi => hl.2.2 i v (am_subP_get L' L hs i v hi)⟩
theorem LE.run {t : List (Nat × Instr × Nat)} (K : lK U l G Q k0 s0 C r) (hd : am_dec cL_law t) (a n : Nat) (h : am_run 9 ((t.drop a).take n) pc L st = some (pc', L', st')) (k : LE U G Q k0 s0 r kc V pc' L' st') : LE U G Q k0 s0 r kc V pc L st := AW.run K.2.2.1 hd a n h k
theorem LE.irem {x y : Int32} {m : am_R} (K : lK U l G Q k0 s0 C r) (hdg : decode cL_law pc = .ok (.irem, 1)) (h : rG (decide (¬ y = 0)) m = some r) (kk : m = some r → LE U G Q k0 s0 r kc V (pc + 1) L (.int (am_rm x y) :: st)) : LE U G Q k0 s0 r kc V pc L (.int y :: .int x :: st) := AW.irem K.2.2.1 (of_decide_eq_true (rG_t h).1) hdg (kk (rG_t h).2)
theorem LE.ldcI {index : Nat} {v : Int32} (K : lK U l G Q k0 s0 C r) (hw : Jvm.Cond.constant RL index v ∈ am_WS xx) (hdg : decode cL_law pc = .ok (.ldc index, 2)) (kk : LE U G Q k0 s0 r kc V (pc + 2) L (.int v :: st)) : LE U G Q k0 s0 r kc V pc L st := AW.ldcI K.2.2.1 hw hdg kk
theorem LE.ic {cond : Jvm.ClassFile.Cond} {off : Int} {x y : Int32} {P : Prop} {dC : Decidable P} {m1 m2 : am_R} (K : lK U l G Q k0 s0 C r) (tgt : Nat) (hdg : decode cL_law pc = .ok (.if_icmp cond off, 3)) (ht : (pc : Int) + off = (tgt : Int)) (hC : am_cnd cond x y = P) (h : (if P then m1 else m2) = some r)
    (kt : m1 = some r → LE U G Q k0 s0 r kc V tgt L st) (kf : m2 = some r → LE U G Q k0 s0 r kc V (pc + 3) L st) : LE U G Q k0 s0 r kc V pc L (.int y :: .int x :: st) :=
  AW.icmp K.2.2.1 tgt hdg ht (fun hc => kt (by rw [if_pos (hC ▸ hc)] at h; exact h)) (fun hc => kf (by rw [if_neg (fun q => hc (hC ▸ q))] at h; exact h))
theorem LE.if0 {cond : Jvm.ClassFile.Cond} {off : Int} {x : Int32} {P : Prop} {dC : Decidable P} {m1 m2 : am_R} (K : lK U l G Q k0 s0 C r) (tgt : Nat) (hdg : decode cL_law pc = .ok (.ifCond cond off, 3)) (ht : (pc : Int) + off = (tgt : Int)) (hC : am_cnd cond x 0 = P) (h : (if P then m1 else m2) = some r)
    (kt : m1 = some r → LE U G Q k0 s0 r kc V tgt L st) (kf : m2 = some r → LE U G Q k0 s0 r kc V (pc + 3) L st) : LE U G Q k0 s0 r kc V pc L (.int x :: st) :=
  AW.ifc K.2.2.1 tgt hdg ht (fun hc => kt (by rw [if_pos (hC ▸ hc)] at h; exact h)) (fun hc => kf (by rw [if_neg (fun q => hc (hC ▸ q))] at h; exact h))
theorem LE.gets {C9 n d : String} {v : Value} {index : Nat} (K : lK U l G Q k0 s0 C r) (hx : (C9, n, d, v) ∈ am_SF xx) (hw : Cond.fieldLink RL index C9 n d ∈ am_WS xx) (hdg : decode cL_law pc = .ok (.getstatic index, 3)) (kk : LE U G Q k0 s0 r kc V (pc + 3) L (v :: st)) : LE U G Q k0 s0 r kc V pc L st := AW.gets K.2.2.1 K.2.2.2.1 hx hw hdg kk
theorem LE.alenC {c0 N : Nat} {ty : FieldType} {f : Nat → Value} (K : lK U l G Q k0 s0 C r) (hT : va_T ty (am_ad U c0) N f (am_A U) (am_s0 U) (am_s0 U).heap) (hdg : decode cL_law pc = .ok (.arraylength, 1)) (kk : LE U G Q k0 s0 r kc V (pc + 1) L (.int (Int32.ofNat N) :: st)) : LE U G Q k0 s0 r kc V pc L (.ref c0 :: st) := AW.alenC K.2.2.1 K.2.2.2.1 hT hdg kk
theorem LE.aaldI {i : Int32} {m : am_R} (K : lK U l G Q k0 s0 C r) (B : am_cst U) (hdg : decode cL_law pc = .ok (.aaload, 1)) (h : rG (am_in i 28) m = some r) (kk : iN i < 39 → m = some r → LE U G Q k0 s0 r kc V (pc + 1) L (.ref (400 + iN i) :: st)) : LE U G Q k0 s0 r kc V pc L (.int i :: .ref 600 :: st) :=
  AW.aldC K.2.2.1 K.2.2.2.1 B.2.2.1 (am_in_ok (rG_t h).1) rfl hdg (kk (by have := am_in_lt (rG_t h).1; omega) (rG_t h).2)
theorem LE.zret {x : Int32} (K : lK U l G Q k0 s0 C r) (hc : kc ≤ C) (hdg : decode cL_law pc = .ok (.ireturn, 1)) (h : rG (am_nb x) (some (.inl (some (.int x)), V)) = some r) : LE U G Q k0 s0 r kc V pc L [.int x] := by
  obtain ⟨h1, h2⟩ := rG_t h
  have h3 := K.2.2.2.2.1
  cases h2
  cases h3
  exact K.2.2.2.2.2.2 kc V pc L hc hdg
theorem LE.dead {E : String} {V1 : am_V} {P : Prop} (K : lK U l G Q k0 s0 C r) (h : r = (.inr E, V1)) : P := by
  have h3 := K.2.2.2.2.1
  rw [h] at h3
  cases h3
theorem LE.cs {y : MethodName} {b : ByteArray} {nL' n index f' c' lo' : Nat} {ret' : Option FieldType} {As : List Value} {stk : List Value} {m mm : am_R} {tt : ((Option Value ⊕ String) × am_V) → Prop}
    (K : lK U l G Q k0 s0 C r) (_ : True) (hC : ∀ q : (Option Value ⊕ String) × am_V, m = some q → am_Ct xx U l y b nL' ret' (rk f' c' lo') As V (am_is q.1 q.2)) (hcv : am_cs xx RL index y b nL' ret' n) (hn : As.length = n) (hs : stk = As.reverse ++ st)
    (hst : (st.map fun v => v.category).sum ≤ 8) (hR : f' + 1 ≤ 22 ∧ 8 + (nL' + 11) + lo' ≤ 10940) (hf : kc + c' ≤ C) (hdg : decode cL_law pc = .ok (.invokestatic index, 3)) (_h : mm = some r) (hm : ∃ q, m = some q ∧ tt q) (kk : ∀ q, tt q → laft U G Q k0 s0 r (kc + c') (pc + 3) L st q) : LE U G Q k0 s0 r kc V pc L stk := by
  subst hs
  obtain ⟨q, hq, ht⟩ := hm
  have h1 := kk q ht
  have hRR : am_gR G = room_1 := K.2.1
  obtain ⟨b1, b2⟩ := K.2.2.2.2.2.1
  refine AW.callS (rm := rk f' c' lo') K.2.2.1 (by rw [K.1]; exact hC q hq) hcv hn hst (by rw [hRR]; exact hR) (by rw [hRR]; exact ⟨by show k0 + kc + c' ≤ 602232; omega, by show s0 + 6 * kc + 6 * c' ≤ 7283071; omega⟩) hdg (fun E W h => ?_) (fun q9 W h => ?_)
  · obtain ⟨e1, rfl⟩ := h
    obtain ⟨a, b⟩ := q
    cases e1
    exact LE.dead K h1
  · obtain ⟨e1, rfl⟩ := h
    obtain ⟨a, b⟩ := q
    cases e1
    have h2 : LE U G Q k0 s0 r (kc + c') b (pc + 3) L (q9.toList ++ st) := h1
    unfold LE at h2
    rw [Nat.mul_add, ← Nat.add_assoc, ← Nat.add_assoc] at h2
    exact h2
theorem LE.csW {y : MethodName} {b : ByteArray} {nL' n index f' c' lo' : Nat} {ret' : Option FieldType} {As : List Value} {stk : List Value} {m mm : am_R} {tt : ((Option Value ⊕ String) × am_V) → Prop}
    (K : lK U l G Q k0 s0 C r) (_ : True) (hC : ∀ q : (Option Value ⊕ String) × am_V, m = some q → am_CtW xx U l y b nL' ret' hh (rk f' c' lo') As V (am_is q.1 q.2)) (hcv : am_csW xx RL index y b nL' ret' hh n) (hn : As.length = n) (hs : stk = As.reverse ++ st)
    (hst : (st.map fun v => v.category).sum ≤ 8) (hR : f' + 1 ≤ 22 ∧ 8 + (nL' + 11) + lo' ≤ 10940) (hf : kc + c' ≤ C) (hdg : decode cL_law pc = .ok (.invokestatic index, 3)) (_h : mm = some r) (hm : ∃ q, m = some q ∧ tt q) (kk : ∀ q, tt q → laft U G Q k0 s0 r (kc + c') (pc + 3) L st q) : LE U G Q k0 s0 r kc V pc L stk := by
  subst hs
  obtain ⟨q, hq, ht⟩ := hm
  have h1 := kk q ht
  have hRR : am_gR G = room_1 := K.2.1
  obtain ⟨b1, b2⟩ := K.2.2.2.2.2.1
  refine AW.callSW (rm := rk f' c' lo') K.2.2.1 (by rw [K.1]; exact hC q hq) hcv hn hst (by rw [hRR]; exact hR) (by rw [hRR]; exact ⟨by show k0 + kc + c' ≤ 602232; omega, by show s0 + 6 * kc + 6 * c' ≤ 7283071; omega⟩) hdg (fun E W h => ?_) (fun q9 W h => ?_)
  · obtain ⟨e1, rfl⟩ := h
    obtain ⟨a, b⟩ := q
    cases e1
    exact LE.dead K h1
  · obtain ⟨e1, rfl⟩ := h
    obtain ⟨a, b⟩ := q
    cases e1
    have h2 : LE U G Q k0 s0 r (kc + c') b (pc + 3) L (q9.toList ++ st) := h1
    unfold LE at h2
    rw [Nat.mul_add, ← Nat.add_assoc, ← Nat.add_assoc] at h2
    exact h2
theorem LE.cv {y : MethodName} {b : ByteArray} {nL' n index ci c0 f' c' lo' : Nat} {ret' : Option FieldType} {As : List Value} {os : List (Option Nat)} {T : u_T} {N : Nat} {stk : List Value} {m mm : am_R} {tt : ((Option Value ⊕ String) × am_V) → Prop}
    (K : lK U l G Q k0 s0 C r) (_ : True) (hC : ∀ q : (Option Value ⊕ String) × am_V, m = some q → am_Ct xx U l y b nL' ret' (rk f' c' lo') (.ref c0 :: As) V (am_is q.1 q.2)) (hcv : am_cv xx RL index y b nL' ret' n) (hsh : am_sh xx c0 = some (.inl (ci, os))) (hcl : (am_cl xx)[ci]? = some (y.cls, T, N)) (hn : As.length = n) (hs : stk = As.reverse ++ .ref c0 :: st)
    (hst : (st.map fun v => v.category).sum ≤ 8) (hR : f' + 1 ≤ 22 ∧ 8 + (nL' + 11) + lo' ≤ 10940) (hf : kc + c' ≤ C) (hdg : decode cL_law pc = .ok (.invokevirtual index, 3)) (_h : mm = some r) (hm : ∃ q, m = some q ∧ tt q) (kk : ∀ q, tt q → laft U G Q k0 s0 r (kc + c') (pc + 3) L st q) : LE U G Q k0 s0 r kc V pc L stk := by
  subst hs
  obtain ⟨q, hq, ht⟩ := hm
  have h1 := kk q ht
  have hRR : am_gR G = room_1 := K.2.1
  obtain ⟨b1, b2⟩ := K.2.2.2.2.2.1
  refine AW.callV (rm := rk f' c' lo') K.2.2.1 (by rw [K.1]; exact hC q hq) hcv hsh hcl hn hst (by rw [hRR]; exact hR) (by rw [hRR]; exact ⟨by show k0 + kc + c' ≤ 602232; omega, by show s0 + 6 * kc + 6 * c' ≤ 7283071; omega⟩) hdg (fun E W h => ?_) (fun q9 W h => ?_)
  · obtain ⟨e1, rfl⟩ := h
    obtain ⟨a, b⟩ := q
    cases e1
    exact LE.dead K h1
  · obtain ⟨e1, rfl⟩ := h
    obtain ⟨a, b⟩ := q
    cases e1
    have h2 : LE U G Q k0 s0 r (kc + c') b (pc + 3) L (q9.toList ++ st) := h1
    unfold LE at h2
    rw [Nat.mul_add, ← Nat.add_assoc, ← Nat.add_assoc] at h2
    exact h2
end
