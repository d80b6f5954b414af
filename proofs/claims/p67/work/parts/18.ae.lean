/-! ===== AE: the walk of a method with its end told: r = (answer or exception, table); and the words of the models ===== -/
abbrev am_R : Type := Option ((Option Value ⊕ String) × am_V)
def rk (fr c lo : Nat) : Room := { frames := fr, cells := c, slots := 6 * c, locals := lo }
def iN (i : Int32) : Nat := i.toNatClampNeg
def am_in (i : Int32) (n : Nat) : Bool := decide (¬ (i < 0 ∨ n ≤ i.toNatClampNeg))
def am_nb (x : Int32) : Bool := decide (x = 0 ∨ x = 1)
def am_nc (x : Int32) : Bool := decide (narrow .char (.int x) = .int x)
def am_n32 (x : UInt32) : Bool := decide (x &&& 0x7fffffff ≤ 0x7f800000)
def am_n64 (x : UInt64) : Bool := decide (x &&& 0x7fffffffffffffff ≤ 0x7ff0000000000000)
def am_rm (x y : Int32) : Int32 := x - x / y * y
def am_mn (x y : Int32) : Int32 := if y < x then y else x
def am_mx (x y : Int32) : Int32 := if x < y then y else x
def am_us (x y : Int32) : Int32 := (x.toUInt32 >>> (y.toUInt32 &&& Int32.toUInt32 31)).toInt32
def am_i2c (x : Int32) : Int32 := (x.toUInt32 % 65536).toInt32
theorem am_nb_ok {x : Int32} (h : am_nb x = true) : narrow .boolean (.int x) = .int x ∧ fits .boolean (.int x) = true := by
  rcases of_decide_eq_true h with rfl | rfl <;> exact ⟨rfl, rfl⟩
theorem am_in_ok {i : Int32} {n : Nat} (h : am_in i n = true) : vp_in i n := by
  unfold am_in at h
  have q := of_decide_eq_true h
  exact q
theorem am_n32_ok {x : UInt32} (h : am_n32 x = true) : vf_n32 x := by
  unfold am_n32 at h
  have q := of_decide_eq_true h
  exact q
theorem am_n64_ok {x : UInt64} (h : am_n64 x = true) : vf_n64 x := by
  unfold am_n64 at h
  have q := of_decide_eq_true h
  exact q
/-! the models' words -/
def rV (V : am_V) (f : am_V → am_R) : am_R := f V
def rG (b : Bool) (m : am_R) : am_R := if b = true then m else none
def rB {T : Type} (j : T) (m : T → am_R) : am_R := m j
def rI (m : am_R) (f : Int32 → am_V → am_R) : am_R := match m with
  | some (.inl (some (.int x)), V) => f x V
  | some (.inr E, V) => some (.inr E, V)
  | _ => none
def rF (m : am_R) (f : UInt32 → am_V → am_R) : am_R := match m with
  | some (.inl (some (.float x)), V) => f x V
  | some (.inr E, V) => some (.inr E, V)
  | _ => none
def rJ (m : am_R) (f : Int64 → am_V → am_R) : am_R := match m with
  | some (.inl (some (.long x)), V) => f x V
  | some (.inr E, V) => some (.inr E, V)
  | _ => none
def rD (m : am_R) (f : UInt64 → am_V → am_R) : am_R := match m with
  | some (.inl (some (.double x)), V) => f x V
  | some (.inr E, V) => some (.inr E, V)
  | _ => none
def rA (c : Nat) (m : am_R) (f : am_V → am_R) : am_R := match m with
  | some (.inl (some (.ref d)), V) => if d = c then f V else none
  | some (.inr E, V) => some (.inr E, V)
  | _ => none
def rU (m : am_R) (f : am_V → am_R) : am_R := match m with
  | some (.inl none, V) => f V
  | some (.inr E, V) => some (.inr E, V)
  | _ => none
theorem rB_of {T : Type} {P : T → Prop} {G : Prop} {j : T} {m : T → am_R} {r : (Option Value ⊕ String) × am_V} (h : rB j m = some r) (hj : P j) (k : ∀ j, P j → m j = some r → G) : G := k j hj h
theorem rG_t {b : Bool} {m : am_R} {r : (Option Value ⊕ String) × am_V} (h : rG b m = some r) : b = true ∧ m = some r := by
  unfold rG at h
  by_cases hb : b = true
  · rw [if_pos hb] at h
    exact ⟨hb, h⟩
  · rw [if_neg hb] at h
    cases h
/-- what is left of a model behind a call: T: it goes on with the answer, or is done with the exception -/
def tI (f : Int32 → am_V → am_R) (r q : (Option Value ⊕ String) × am_V) : Prop := match q with
  | (.inl (some (.int x)), V) => f x V = some r
  | (.inr E, V) => r = (.inr E, V)
  | _ => False
def tF (f : UInt32 → am_V → am_R) (r q : (Option Value ⊕ String) × am_V) : Prop := match q with
  | (.inl (some (.float x)), V) => f x V = some r
  | (.inr E, V) => r = (.inr E, V)
  | _ => False
def tJ (f : Int64 → am_V → am_R) (r q : (Option Value ⊕ String) × am_V) : Prop := match q with
  | (.inl (some (.long x)), V) => f x V = some r
  | (.inr E, V) => r = (.inr E, V)
  | _ => False
def tD (f : UInt64 → am_V → am_R) (r q : (Option Value ⊕ String) × am_V) : Prop := match q with
  | (.inl (some (.double x)), V) => f x V = some r
  | (.inr E, V) => r = (.inr E, V)
  | _ => False
def tA (c : Nat) (f : am_V → am_R) (r q : (Option Value ⊕ String) × am_V) : Prop := match q with
  | (.inl (some (.ref d)), V) => d = c ∧ f V = some r
  | (.inr E, V) => r = (.inr E, V)
  | _ => False
def tU (f : am_V → am_R) (r q : (Option Value ⊕ String) × am_V) : Prop := match q with
  | (.inl none, V) => f V = some r
  | (.inr E, V) => r = (.inr E, V)
  | _ => False
theorem rI_some {m : am_R} {f : Int32 → am_V → am_R} {r} (h : rI m f = some r) : ∃ q, m = some q ∧ tI f r q := by
  unfold rI at h
  split at h
  · exact ⟨_, rfl, h⟩
  · exact ⟨_, rfl, (Option.some.inj h).symm⟩
  · cases h
theorem rF_some {m : am_R} {f : UInt32 → am_V → am_R} {r} (h : rF m f = some r) : ∃ q, m = some q ∧ tF f r q := by
  unfold rF at h
  split at h
  · exact ⟨_, rfl, h⟩
  · exact ⟨_, rfl, (Option.some.inj h).symm⟩
  · cases h
theorem rJ_some {m : am_R} {f : Int64 → am_V → am_R} {r} (h : rJ m f = some r) : ∃ q, m = some q ∧ tJ f r q := by
  unfold rJ at h
  split at h
  · exact ⟨_, rfl, h⟩
  · exact ⟨_, rfl, (Option.some.inj h).symm⟩
  · cases h
theorem rD_some {m : am_R} {f : UInt64 → am_V → am_R} {r} (h : rD m f = some r) : ∃ q, m = some q ∧ tD f r q := by
  unfold rD at h
  split at h
  · exact ⟨_, rfl, h⟩
  · exact ⟨_, rfl, (Option.some.inj h).symm⟩
  · cases h
theorem rA_some {c : Nat} {m : am_R} {f : am_V → am_R} {r} (h : rA c m f = some r) : ∃ q, m = some q ∧ tA c f r q := by
  unfold rA at h
  split at h
  · rename_i d V
    by_cases hd : d = c
    · rw [if_pos hd] at h
      exact ⟨_, rfl, hd, h⟩
    · rw [if_neg hd] at h
      cases h
  · exact ⟨_, rfl, (Option.some.inj h).symm⟩
  · cases h
theorem rU_some {m : am_R} {f : am_V → am_R} {r} (h : rU m f = some r) : ∃ q, m = some q ∧ tU f r q := by
  unfold rU at h
  split at h
  · exact ⟨_, rfl, h⟩
  · exact ⟨_, rfl, (Option.some.inj h).symm⟩
  · cases h
def AE (U : am_U) (G : am_G) (nL fr c lo : Nat) (r : (Option Value ⊕ String) × am_V) (kc : Nat) (V : am_V) (pc : Nat) (L : List (Option Value)) (st : List Value) : Prop :=
  AW xx U G nL kc (6 * kc) V (am_End xx U G (rk fr c lo) (am_is r.1 r.2)) pc L st
def aK (U : am_U) (l : Launch) (G : am_G) (own : String) (cc : ByteArray) (nL : Nat) (ret : Option FieldType) (fr c lo : Nat) : Prop :=
  am_gl G = l ∧ am_gR G = rk fr c lo ∧ (am_gt G).sig.returnType = ret ∧ am_ok xx U G own cc nL ∧ am_st0 U G
def am_nx (G : am_G) : Prop := ∀ x ∈ (am_gc G).exceptionTable.toList, False
/-- locals of which less is known -/
def am_sub : List (Option Value) → List (Option Value) → Bool
  | [], [] => true
  | none :: a, _ :: b => am_sub a b
  | some x :: a, some y :: b => decide (x = y) && am_sub a b
  | _, _ => false
def am_subP : List (Option Value) → List (Option Value) → Prop
  | [], [] => True
  | none :: a, _ :: b => am_subP a b
  | some x :: a, some y :: b => x = y ∧ am_subP a b
  | _, _ => False
theorem am_subP_get : ∀ (a b : List (Option Value)), am_subP a b → ∀ (i : Nat) (v : Value), am_get a i = some v → am_get b i = some v
  | [], [], _, i, v, h => h
  | [], _ :: _, hs, i, v, h => hs.elim
  | none :: a, [], hs, i, v, h => hs.elim
  | some _ :: a, [], hs, i, v, h => hs.elim
  | none :: a, y :: b, hs, 0, v, h => by cases h
  | none :: a, y :: b, hs, i + 1, v, h => am_subP_get a b hs i v h
  | some x :: a, none :: b, hs, i, v, h => hs.elim
  | some x :: a, some y :: b, hs, 0, v, h => by
    obtain ⟨rfl, _⟩ := hs
    exact h
  | some x :: a, some y :: b, hs, i + 1, v, h => am_subP_get a b hs.2 i v h
section AES
variable {U : am_U} {l : Launch} {G : am_G} {own : String} {cc : ByteArray} {nL fr c lo kc pc pc' : Nat} {ret : Option FieldType} {V V1 : am_V} {r : (Option Value ⊕ String) × am_V} {L L' : List (Option Value)} {st st' : List Value}
theorem AE.sub (hs : am_subP L' L) (k : AE U G nL fr c lo r kc V pc L' st) : AE U G nL fr c lo r kc V pc L st := by
  intro H locs ls hH hz hlo hl
  exact k H locs ls hH hz hlo ⟨hl.1, hl.2.1, fun i v hi => hl.2.2 i v (am_subP_get L' L hs i v hi)⟩
theorem AE.run {t : List (Nat × Instr × Nat)} (K : aK U l G own cc nL ret fr c lo) (hd : am_dec cc t) (a n : Nat) (h : am_run nL ((t.drop a).take n) pc L st = some (pc', L', st')) (k : AE U G nL fr c lo r kc V pc' L' st') : AE U G nL fr c lo r kc V pc L st :=
  AW.run K.2.2.2.1 hd a n h k
theorem AE.getR {c0 ci k index d : Nat} {os : List (Option Nat)} (K : aK U l G own cc nL ret fr c lo) (hf : am_gf xx own index ci k) (hsh : am_sh xx c0 = some (.inl (ci, os))) (ho : os[k]? = some (some d)) (hdg : decode cc pc = .ok (.getfield index, 3))
    (kk : AE U G nL fr c lo r kc V (pc + 3) L (.ref d :: st)) : AE U G nL fr c lo r kc V pc L (.ref c0 :: st) := AW.getR K.2.2.2.1 hf hsh ho hdg kk
theorem AE.getI {c0 ci k index : Nat} {os : List (Option Nat)} (K : aK U l G own cc nL ret fr c lo) (hf : am_gf xx own index ci k) (hsh : am_sh xx c0 = some (.inl (ci, os))) (ho : os[k]? = some none) (hdg : decode cc pc = .ok (.getfield index, 3))
    (kk : AE U G nL fr c lo r kc V (pc + 3) L (.int (V c0 k) :: st)) : AE U G nL fr c lo r kc V pc L (.ref c0 :: st) := AW.getI K.2.2.2.1 hf hsh ho rfl hdg kk
theorem AE.putI {c0 ci k index : Nat} {os : List (Option Nat)} {x : Int32} {f : am_V → am_R} (K : aK U l G own cc nL ret fr c lo) (hf : am_pf xx own index ci k .int) (hsh : am_sh xx c0 = some (.inl (ci, os))) (hw : am_wr xx c0 = true) (ho : os[k]? = some none) (hdg : decode cc pc = .ok (.putfield index, 3))
    (h : rV (am_set V c0 k x) f = some r) (kk : ∀ V1, f V1 = some r → AE U G nL fr c lo r kc V1 (pc + 3) L st) : AE U G nL fr c lo r kc V pc L (.int x :: .ref c0 :: st) := AW.putI K.2.2.2.1 hf hsh hw ho ⟨rfl, rfl⟩ hdg (kk _ h)
theorem AE.putZ {c0 ci k index : Nat} {os : List (Option Nat)} {x : Int32} {f : am_V → am_R} (K : aK U l G own cc nL ret fr c lo) (hf : am_pf xx own index ci k .boolean) (hsh : am_sh xx c0 = some (.inl (ci, os))) (hw : am_wr xx c0 = true) (ho : os[k]? = some none) (hdg : decode cc pc = .ok (.putfield index, 3))
    (h : rG (am_nb x) (rV (am_set V c0 k x) f) = some r) (kk : ∀ V1, f V1 = some r → AE U G nL fr c lo r kc V1 (pc + 3) L st) : AE U G nL fr c lo r kc V pc L (.int x :: .ref c0 :: st) :=
  AW.putI K.2.2.2.1 hf hsh hw ho (am_nb_ok (rG_t h).1) hdg (kk _ (rG_t h).2)
theorem AE.iald {c0 n : Nat} {i : Int32} {m : am_R} (K : aK U l G own cc nL ret fr c lo) (hsh : am_sh xx c0 = some (.inr (0, n, .inl false))) (hdg : decode cc pc = .ok (.iaload, 1)) (h : rG (am_in i n) m = some r)
    (kk : m = some r → AE U G nL fr c lo r kc V (pc + 1) L (.int (V c0 (iN i)) :: st)) : AE U G nL fr c lo r kc V pc L (.int i :: .ref c0 :: st) := AW.iald K.2.2.2.1 hsh (by decide) rfl (am_in_ok (rG_t h).1) hdg (kk (rG_t h).2)
theorem AE.cald {c0 n : Nat} {i : Int32} {m : am_R} (K : aK U l G own cc nL ret fr c lo) (hsh : am_sh xx c0 = some (.inr (1, n, .inl false))) (hdg : decode cc pc = .ok (.caload, 1)) (h : rG (am_in i n) m = some r)
    (kk : m = some r → AE U G nL fr c lo r kc V (pc + 1) L (.int (V c0 (iN i)) :: st)) : AE U G nL fr c lo r kc V pc L (.int i :: .ref c0 :: st) := AW.cald K.2.2.2.1 hsh (by decide) rfl (am_in_ok (rG_t h).1) hdg (kk (rG_t h).2)
theorem AE.fald {c0 n : Nat} {i : Int32} {m : am_R} (K : aK U l G own cc nL ret fr c lo) (hsh : am_sh xx c0 = some (.inr (2, n, .inl true))) (hdg : decode cc pc = .ok (.faload, 1)) (h : rG (am_in i n) m = some r)
    (kk : m = some r → AE U G nL fr c lo r kc V (pc + 1) L (.float (V c0 (iN i)).toUInt32 :: st)) : AE U G nL fr c lo r kc V pc L (.int i :: .ref c0 :: st) := AW.fald K.2.2.2.1 hsh (by decide) rfl (am_in_ok (rG_t h).1) hdg (kk (rG_t h).2)
theorem AE.iast {c0 n : Nat} {i x : Int32} {f : am_V → am_R} (K : aK U l G own cc nL ret fr c lo) (hsh : am_sh xx c0 = some (.inr (0, n, .inl false))) (hw : am_wr xx c0 = true) (hdg : decode cc pc = .ok (.iastore, 1)) (h : rG (am_in i n) (rV (am_set V c0 (iN i) x) f) = some r)
    (kk : ∀ V1, f V1 = some r → AE U G nL fr c lo r kc V1 (pc + 1) L st) : AE U G nL fr c lo r kc V pc L (.int x :: .int i :: .ref c0 :: st) := AW.iast K.2.2.2.1 hsh hw (by decide) rfl (am_in_ok (rG_t h).1) hdg (kk _ (rG_t h).2)
theorem AE.cast {c0 n : Nat} {i x : Int32} {f : am_V → am_R} (K : aK U l G own cc nL ret fr c lo) (hsh : am_sh xx c0 = some (.inr (1, n, .inl false))) (hw : am_wr xx c0 = true) (hdg : decode cc pc = .ok (.castore, 1)) (h : rG (am_in i n) (rG (am_nc x) (rV (am_set V c0 (iN i) x) f)) = some r)
    (kk : ∀ V1, f V1 = some r → AE U G nL fr c lo r kc V1 (pc + 1) L st) : AE U G nL fr c lo r kc V pc L (.int x :: .int i :: .ref c0 :: st) := AW.cast K.2.2.2.1 hsh hw (by decide) rfl (am_in_ok (rG_t h).1) (of_decide_eq_true (rG_t (rG_t h).2).1) hdg (kk _ (rG_t (rG_t h).2).2)
theorem AE.fast {c0 n : Nat} {i : Int32} {x : UInt32} {f : am_V → am_R} (K : aK U l G own cc nL ret fr c lo) (hsh : am_sh xx c0 = some (.inr (2, n, .inl true))) (hw : am_wr xx c0 = true) (hdg : decode cc pc = .ok (.fastore, 1)) (h : rG (am_in i n) (rV (am_set V c0 (iN i) x.toInt32) f) = some r)
    (kk : ∀ V1, f V1 = some r → AE U G nL fr c lo r kc V1 (pc + 1) L st) : AE U G nL fr c lo r kc V pc L (.float x :: .int i :: .ref c0 :: st) := AW.fast K.2.2.2.1 hsh hw (by decide) rfl (am_in_ok (rG_t h).1) hdg (kk _ (rG_t h).2)
theorem AE.irem {x y : Int32} {m : am_R} (K : aK U l G own cc nL ret fr c lo) (hdg : decode cc pc = .ok (.irem, 1)) (h : rG (decide (¬ y = 0)) m = some r) (kk : m = some r → AE U G nL fr c lo r kc V (pc + 1) L (.int (am_rm x y) :: st)) : AE U G nL fr c lo r kc V pc L (.int y :: .int x :: st) :=
  AW.irem K.2.2.2.1 (of_decide_eq_true (rG_t h).1) hdg (kk (rG_t h).2)
theorem AE.fmul {x y : UInt32} {m : am_R} (K : aK U l G own cc nL ret fr c lo) (hdg : decode cc pc = .ok (.fmul, 1)) (h : rG (am_n32 (FP.fmul x y)) m = some r) (kk : m = some r → AE U G nL fr c lo r kc V (pc + 1) L (.float (FP.fmul x y) :: st)) : AE U G nL fr c lo r kc V pc L (.float y :: .float x :: st) :=
  AW.fmul K.2.2.2.1 (am_n32_ok (rG_t h).1) hdg (kk (rG_t h).2)
theorem AE.fdiv {x y : UInt32} {m : am_R} (K : aK U l G own cc nL ret fr c lo) (hdg : decode cc pc = .ok (.fdiv, 1)) (h : rG (am_n32 (FP.fdiv x y)) m = some r) (kk : m = some r → AE U G nL fr c lo r kc V (pc + 1) L (.float (FP.fdiv x y) :: st)) : AE U G nL fr c lo r kc V pc L (.float y :: .float x :: st) :=
  AW.fdiv K.2.2.2.1 (am_n32_ok (rG_t h).1) hdg (kk (rG_t h).2)
theorem AE.ddiv {x y : UInt64} {m : am_R} (K : aK U l G own cc nL ret fr c lo) (hdg : decode cc pc = .ok (.ddiv, 1)) (h : rG (am_n64 (FP.ddiv x y)) m = some r) (kk : m = some r → AE U G nL fr c lo r kc V (pc + 1) L (.double (FP.ddiv x y) :: st)) : AE U G nL fr c lo r kc V pc L (.double y :: .double x :: st) :=
  AW.ddiv K.2.2.2.1 (am_n64_ok (rG_t h).1) hdg (kk (rG_t h).2)
theorem AE.ldcI {index : Nat} {v : Int32} (K : aK U l G own cc nL ret fr c lo) (hw : Jvm.Cond.constant own index v ∈ am_WS xx) (hdg : decode cc pc = .ok (.ldc index, 2)) (kk : AE U G nL fr c lo r kc V (pc + 2) L (.int v :: st)) : AE U G nL fr c lo r kc V pc L st := AW.ldcI K.2.2.2.1 hw hdg kk
theorem AE.ldcwI {index : Nat} {v : Int32} (K : aK U l G own cc nL ret fr c lo) (hw : Jvm.Cond.constant own index v ∈ am_WS xx) (hdg : decode cc pc = .ok (.ldc_w index, 3)) (kk : AE U G nL fr c lo r kc V (pc + 3) L (.int v :: st)) : AE U G nL fr c lo r kc V pc L st := AW.ldcwI K.2.2.2.1 hw hdg kk
theorem AE.ldcF {index : Nat} {v : UInt32} (K : aK U l G own cc nL ret fr c lo) (hw : Jvm.Cond.constantFloat own index v ∈ am_WS xx) (hdg : decode cc pc = .ok (.ldc index, 2)) (kk : AE U G nL fr c lo r kc V (pc + 2) L (.float v :: st)) : AE U G nL fr c lo r kc V pc L st := AW.ldcF K.2.2.2.1 hw hdg kk
theorem AE.ldcL {index : Nat} {v : Int64} (K : aK U l G own cc nL ret fr c lo) (hw : Jvm.Cond.constantLong own index v ∈ am_WS xx) (hdg : decode cc pc = .ok (.ldc2_w index, 3)) (kk : AE U G nL fr c lo r kc V (pc + 3) L (.long v :: st)) : AE U G nL fr c lo r kc V pc L st := AW.ldcL K.2.2.2.1 hw hdg kk
theorem AE.ldcD {index : Nat} {v : UInt64} (K : aK U l G own cc nL ret fr c lo) (hw : Jvm.Cond.constantDouble own index v ∈ am_WS xx) (hdg : decode cc pc = .ok (.ldc2_w index, 3)) (kk : AE U G nL fr c lo r kc V (pc + 3) L (.double v :: st)) : AE U G nL fr c lo r kc V pc L st := AW.ldcD K.2.2.2.1 hw hdg kk
theorem AE.fc0 (K : aK U l G own cc nL ret fr c lo) (hdg : decode cc pc = .ok (.fconst 0, 1)) (kk : AE U G nL fr c lo r kc V (pc + 1) L (.float FP.fconst0 :: st)) : AE U G nL fr c lo r kc V pc L st := AW.fc0 K.2.2.2.1 hdg kk
theorem AE.fc1 (K : aK U l G own cc nL ret fr c lo) (hdg : decode cc pc = .ok (.fconst 1, 1)) (kk : AE U G nL fr c lo r kc V (pc + 1) L (.float FP.fconst1 :: st)) : AE U G nL fr c lo r kc V pc L st := AW.fc1 K.2.2.2.1 hdg kk
theorem AE.alen {c0 t n : Nat} {b : Bool ⊕ (Nat → Int32 → Option Nat)} (K : aK U l G own cc nL ret fr c lo) (hsh : am_sh xx c0 = some (.inr (t, n, b))) (ht : t < 8) (hdg : decode cc pc = .ok (.arraylength, 1)) (kk : AE U G nL fr c lo r kc V (pc + 1) L (.int (Int32.ofNat n) :: st)) : AE U G nL fr c lo r kc V pc L (.ref c0 :: st) := AW.alen K.2.2.2.1 hsh ht hdg kk
theorem AE.nonnull {off : Int} {c0 : Nat} (K : aK U l G own cc nL ret fr c lo) (hdg : decode cc pc = .ok (.ifnull off, 3)) (kk : AE U G nL fr c lo r kc V (pc + 3) L st) : AE U G nL fr c lo r kc V pc L (.ref c0 :: st) := AW.ifnull K.2.2.2.1 hdg kk
theorem AE.ic {cond : Jvm.ClassFile.Cond} {off : Int} {x y : Int32} {C : Prop} {dC : Decidable C} {m1 m2 : am_R} (K : aK U l G own cc nL ret fr c lo) (tgt : Nat) (hdg : decode cc pc = .ok (.if_icmp cond off, 3)) (ht : (pc : Int) + off = (tgt : Int)) (hC : am_cnd cond x y = C) (h : (if C then m1 else m2) = some r)
    (kt : m1 = some r → AE U G nL fr c lo r kc V tgt L st) (kf : m2 = some r → AE U G nL fr c lo r kc V (pc + 3) L st) : AE U G nL fr c lo r kc V pc L (.int y :: .int x :: st) :=
  AW.icmp K.2.2.2.1 tgt hdg ht (fun hc => kt (by rw [if_pos (hC ▸ hc)] at h; exact h)) (fun hc => kf (by rw [if_neg (fun q => hc (hC ▸ q))] at h; exact h))
theorem AE.if0 {cond : Jvm.ClassFile.Cond} {off : Int} {x : Int32} {C : Prop} {dC : Decidable C} {m1 m2 : am_R} (K : aK U l G own cc nL ret fr c lo) (tgt : Nat) (hdg : decode cc pc = .ok (.ifCond cond off, 3)) (ht : (pc : Int) + off = (tgt : Int)) (hC : am_cnd cond x 0 = C) (h : (if C then m1 else m2) = some r)
    (kt : m1 = some r → AE U G nL fr c lo r kc V tgt L st) (kf : m2 = some r → AE U G nL fr c lo r kc V (pc + 3) L st) : AE U G nL fr c lo r kc V pc L (.int x :: st) :=
  AW.ifc K.2.2.2.1 tgt hdg ht (fun hc => kt (by rw [if_pos (hC ▸ hc)] at h; exact h)) (fun hc => kf (by rw [if_neg (fun q => hc (hC ▸ q))] at h; exact h))
/-- behind a call -/
def aft (U : am_U) (G : am_G) (nL fr c lo : Nat) (r : (Option Value ⊕ String) × am_V) (kc pc : Nat) (L : List (Option Value)) (st : List Value) (q : (Option Value ⊕ String) × am_V) : Prop := match q with
  | (.inl ro, V) => AE U G nL fr c lo r kc V pc L (ro.toList ++ st)
  | (.inr E, V) => r = (.inr E, V)
theorem bkI {f : Int32 → am_V → am_R} (k : ∀ (x : Int32) (V : am_V), f x V = some r → AE U G nL fr c lo r kc V pc L (.int x :: st)) : ∀ q, tI f r q → aft U G nL fr c lo r kc pc L st q := by
  intro q hq
  unfold tI at hq
  split at hq
  · exact k _ _ hq
  · exact hq
  · exact hq.elim
theorem bkF {f : UInt32 → am_V → am_R} (k : ∀ (x : UInt32) (V : am_V), f x V = some r → AE U G nL fr c lo r kc V pc L (.float x :: st)) : ∀ q, tF f r q → aft U G nL fr c lo r kc pc L st q := by
  intro q hq
  unfold tF at hq
  split at hq
  · exact k _ _ hq
  · exact hq
  · exact hq.elim
theorem bkJ {f : Int64 → am_V → am_R} (k : ∀ (x : Int64) (V : am_V), f x V = some r → AE U G nL fr c lo r kc V pc L (.long x :: st)) : ∀ q, tJ f r q → aft U G nL fr c lo r kc pc L st q := by
  intro q hq
  unfold tJ at hq
  split at hq
  · exact k _ _ hq
  · exact hq
  · exact hq.elim
theorem bkD {f : UInt64 → am_V → am_R} (k : ∀ (x : UInt64) (V : am_V), f x V = some r → AE U G nL fr c lo r kc V pc L (.double x :: st)) : ∀ q, tD f r q → aft U G nL fr c lo r kc pc L st q := by
  intro q hq
  unfold tD at hq
  split at hq
  · exact k _ _ hq
  · exact hq
  · exact hq.elim
theorem bkA {d : Nat} {f : am_V → am_R} (k : ∀ (V : am_V), f V = some r → AE U G nL fr c lo r kc V pc L (.ref d :: st)) : ∀ q, tA d f r q → aft U G nL fr c lo r kc pc L st q := by
  intro q hq
  unfold tA at hq
  split at hq
  · obtain ⟨rfl, h⟩ := hq
    exact k _ h
  · exact hq
  · exact hq.elim
theorem bkU {f : am_V → am_R} (k : ∀ (V : am_V), f V = some r → AE U G nL fr c lo r kc V pc L st) : ∀ q, tU f r q → aft U G nL fr c lo r kc pc L st q := by
  intro q hq
  unfold tU at hq
  split at hq
  · exact k _ hq
  · exact hq
  · exact hq.elim
theorem AE.out {E : String} {V1 : am_V} (K : aK U l G own cc nL ret fr c lo) (hex : am_nx G) (hc : kc ≤ c) (h : r = (.inr E, V1)) : AX xx U G nL kc (6 * kc) V1 (am_End xx U G (rk fr c lo) (am_is r.1 r.2)) E pc L := by
  subst h
  exact AX.out K.2.2.2.1 hex hc (Nat.mul_le_mul_left 6 hc) ⟨rfl, rfl⟩
theorem AE.cv {y : MethodName} {b : ByteArray} {nL' n index ci c0 f' c' lo' : Nat} {ret' : Option FieldType} {As : List Value} {os : List (Option Nat)} {T : u_T} {N : Nat} {stk : List Value} {m mm : am_R} {tt : ((Option Value ⊕ String) × am_V) → Prop}
    (K : aK U l G own cc nL ret fr c lo) (hex : am_nx G) (hC : ∀ q : (Option Value ⊕ String) × am_V, m = some q → am_Ct xx U l y b nL' ret' (rk f' c' lo') (.ref c0 :: As) V (am_is q.1 q.2)) (hcv : am_cv xx own index y b nL' ret' n) (hsh : am_sh xx c0 = some (.inl (ci, os))) (hcl : (am_cl xx)[ci]? = some (y.cls, T, N)) (hn : As.length = n) (hs : stk = As.reverse ++ .ref c0 :: st)
    (hst : (st.map fun v => v.category).sum ≤ 8) (hR : f' + 1 ≤ fr ∧ 8 + (nL' + 11) + lo' ≤ lo) (hf : kc + c' ≤ c) (hdg : decode cc pc = .ok (.invokevirtual index, 3)) (_h : mm = some r) (hm : ∃ q, m = some q ∧ tt q) (kk : ∀ q, tt q → aft U G nL fr c lo r (kc + c') (pc + 3) L st q) : AE U G nL fr c lo r kc V pc L stk := by
  subst hs
  obtain ⟨q, hq, ht⟩ := hm
  have h1 := kk q ht
  have hRR : am_gR G = rk fr c lo := K.2.1
  refine AW.callV (rm := rk f' c' lo') K.2.2.2.1 (by rw [K.1]; exact hC q hq) hcv hsh hcl hn hst (by rw [hRR]; exact hR) (by rw [hRR]; exact ⟨hf, by show 6 * kc + 6 * c' ≤ 6 * c; omega⟩) hdg (fun E W h => ?_) (fun q9 W h => ?_)
  · obtain ⟨e1, rfl⟩ := h
    obtain ⟨a, b⟩ := q
    cases e1
    have := AE.out (kc := kc + c') (pc := pc) (L := L) K hex hf h1
    rw [Nat.mul_add] at this
    exact this
  · obtain ⟨e1, rfl⟩ := h
    obtain ⟨a, b⟩ := q
    cases e1
    have h2 : AE U G nL fr c lo r (kc + c') b (pc + 3) L (q9.toList ++ st) := h1
    unfold AE at h2
    rw [Nat.mul_add] at h2
    exact h2
theorem AE.cs {y : MethodName} {b : ByteArray} {nL' n index f' c' lo' : Nat} {ret' : Option FieldType} {As : List Value} {stk : List Value} {m mm : am_R} {tt : ((Option Value ⊕ String) × am_V) → Prop}
    (K : aK U l G own cc nL ret fr c lo) (hex : am_nx G) (hC : ∀ q : (Option Value ⊕ String) × am_V, m = some q → am_Ct xx U l y b nL' ret' (rk f' c' lo') As V (am_is q.1 q.2)) (hcv : am_cs xx own index y b nL' ret' n) (hn : As.length = n) (hs : stk = As.reverse ++ st)
    (hst : (st.map fun v => v.category).sum ≤ 8) (hR : f' + 1 ≤ fr ∧ 8 + (nL' + 11) + lo' ≤ lo) (hf : kc + c' ≤ c) (hdg : decode cc pc = .ok (.invokestatic index, 3)) (_h : mm = some r) (hm : ∃ q, m = some q ∧ tt q) (kk : ∀ q, tt q → aft U G nL fr c lo r (kc + c') (pc + 3) L st q) : AE U G nL fr c lo r kc V pc L stk := by
  subst hs
  obtain ⟨q, hq, ht⟩ := hm
  have h1 := kk q ht
  have hRR : am_gR G = rk fr c lo := K.2.1
  refine AW.callS (rm := rk f' c' lo') K.2.2.2.1 (by rw [K.1]; exact hC q hq) hcv hn hst (by rw [hRR]; exact hR) (by rw [hRR]; exact ⟨hf, by show 6 * kc + 6 * c' ≤ 6 * c; omega⟩) hdg (fun E W h => ?_) (fun q9 W h => ?_)
  · obtain ⟨e1, rfl⟩ := h
    obtain ⟨a, b⟩ := q
    cases e1
    have := AE.out (kc := kc + c') (pc := pc) (L := L) K hex hf h1
    rw [Nat.mul_add] at this
    exact this
  · obtain ⟨e1, rfl⟩ := h
    obtain ⟨a, b⟩ := q
    cases e1
    have h2 : AE U G nL fr c lo r (kc + c') b (pc + 3) L (q9.toList ++ st) := h1
    unfold AE at h2
    rw [Nat.mul_add] at h2
    exact h2
theorem AE.cn {y : MethodName} {b : ByteArray} {nL' n index f' c' lo' : Nat} {host : String} {ret' : Option FieldType} {As : List Value} {stk : List Value} {m mm : am_R} {tt : ((Option Value ⊕ String) × am_V) → Prop}
    (K : aK U l G own cc nL ret fr c lo) (hex : am_nx G) (hC : ∀ q : (Option Value ⊕ String) × am_V, m = some q → am_Ct xx U l y b nL' ret' (rk f' c' lo') As V (am_is q.1 q.2)) (hcv : am_cn xx own index y host b nL' ret' n) (hn : As.length = n) (hs : stk = As.reverse ++ st)
    (hst : (st.map fun v => v.category).sum ≤ 8) (hR : f' + 1 ≤ fr ∧ 8 + (nL' + 11) + lo' ≤ lo) (hf : kc + c' ≤ c) (hdg : decode cc pc = .ok (.invokestatic index, 3)) (_h : mm = some r) (hm : ∃ q, m = some q ∧ tt q) (kk : ∀ q, tt q → aft U G nL fr c lo r (kc + c') (pc + 3) L st q) : AE U G nL fr c lo r kc V pc L stk := by
  subst hs
  obtain ⟨q, hq, ht⟩ := hm
  have h1 := kk q ht
  have hRR : am_gR G = rk fr c lo := K.2.1
  refine AW.callSN (rm := rk f' c' lo') K.2.2.2.1 (by rw [K.1]; exact hC q hq) hcv hn hst (by rw [hRR]; exact hR) (by rw [hRR]; exact ⟨hf, by show 6 * kc + 6 * c' ≤ 6 * c; omega⟩) hdg (fun E W h => ?_) (fun q9 W h => ?_)
  · obtain ⟨e1, rfl⟩ := h
    obtain ⟨a, b⟩ := q
    cases e1
    have := AE.out (kc := kc + c') (pc := pc) (L := L) K hex hf h1
    rw [Nat.mul_add] at this
    exact this
  · obtain ⟨e1, rfl⟩ := h
    obtain ⟨a, b⟩ := q
    cases e1
    have h2 : AE U G nL fr c lo r (kc + c') b (pc + 3) L (q9.toList ++ st) := h1
    unfold AE at h2
    rw [Nat.mul_add] at h2
    exact h2
theorem AE.cpy {index c0 c1 n0 n1 n : Nat} {f : am_V → am_R} (K : aK U l G own cc nL ret fr c lo) (hw : am_ac xx own index) (hs0 : am_sh xx c0 = some (.inr (0, n0, .inl false))) (hs1 : am_sh xx c1 = some (.inr (0, n1, .inl false))) (hw1 : am_wr xx c1 = true) (h0 : n ≤ n0) (h1 : n ≤ n1) (hn : n < 2147483648) (hframes : 1 ≤ fr) (hlocals : (st.map fun v => v.category).sum + (nativeFrameWords "java/lang/System" "arraycopy" 5 + 11) ≤ lo) (hdg : decode cc pc = .ok (.invokestatic index, 3))
    (h : rV (am_row V c1 (va_cpy (V c0) (V c1) 0 0 n)) f = some r) (kk : ∀ V1, f V1 = some r → AE U G nL fr c lo r kc V1 (pc + 3) L st) : AE U G nL fr c lo r kc V pc L (.int (nI n) :: .int (nI 0) :: .ref c1 :: .int (nI 0) :: .ref c0 :: st) :=
  AW.cpy K.2.2.2.1 hw hs0 hs1 hw1 h0 h1 hn (by rw [K.2.1]; exact hframes) (by rw [K.2.1]; exact hlocals) hdg (kk _ h)
theorem AE.mmin {index : Nat} {x y : Int32} (K : aK U l G own cc nL ret fr c lo) (hw : am_mm xx own index Lib.Math.min.name Lib.Math.min.code) (hf : 1 ≤ fr) (hlo9 : (st.map fun v => v.category).sum + 13 ≤ lo) (hc : kc ≤ c) (hdg : decode cc pc = .ok (.invokestatic index, 3))
    (kk : AE U G nL fr c lo r kc V (pc + 3) L (.int (am_mn x y) :: st)) : AE U G nL fr c lo r kc V pc L (.int y :: .int x :: st) :=
  AW.mmin K.2.2.2.1 hw (by rw [K.2.1]; exact hf) (by rw [K.2.1]; exact hlo9) (by rw [K.2.1]; exact hc) (by rw [K.2.1]; exact Nat.mul_le_mul_left 6 hc) hdg kk
theorem AE.mmax {index : Nat} {x y : Int32} (K : aK U l G own cc nL ret fr c lo) (hw : am_mm xx own index Lib.Math.max.name Lib.Math.max.code) (hf : 1 ≤ fr) (hlo9 : (st.map fun v => v.category).sum + 13 ≤ lo) (hc : kc ≤ c) (hdg : decode cc pc = .ok (.invokestatic index, 3))
    (kk : AE U G nL fr c lo r kc V (pc + 3) L (.int (am_mx x y) :: st)) : AE U G nL fr c lo r kc V pc L (.int y :: .int x :: st) :=
  AW.mmax K.2.2.2.1 hw (by rw [K.2.1]; exact hf) (by rw [K.2.1]; exact hlo9) (by rw [K.2.1]; exact hc) (by rw [K.2.1]; exact Nat.mul_le_mul_left 6 hc) hdg kk
theorem AE.throwS {ik is ic : Nat} {cls text : String} {names : List String} (K : aK U l G own cc nL ret fr c lo) (hex : am_nx G) (hth : am_th xx own ik is ic cls text names)
    (d0 : decode cc pc = .ok (.new ik, 3)) (d3 : decode cc (pc + 3) = .ok (.dup, 1)) (d4 : decode cc (pc + 4) = .ok (.ldc is, 2)) (d6 : decode cc (pc + 6) = .ok (.invokespecial ic, 3)) (d9 : decode cc (pc + 9) = .ok (.athrow, 1))
    (hRf : names.length + 3 < fr) (hRl : (st.map fun v => v.category).sum + (13 * (names.length + 1) + 43) ≤ lo) (hc : kc + 1 ≤ c) (h : some (.inr cls, V) = some r) : AE U G nL fr c lo r kc V pc L st := by
  cases h
  exact AW.throwS K.2.2.2.1 K.2.2.2.2 hex hth d0 d3 d4 d6 d9 (by rw [K.2.1]; exact hRf) (by rw [K.2.1]; exact hRl) (by rw [K.2.1]; exact hc) (by rw [K.2.1]; show 6 * kc + 6 ≤ 6 * c; omega) hc (by show 6 * kc + 6 ≤ 6 * c; omega) ⟨rfl, rfl⟩
theorem AE.throwSW {ik is ic : Nat} {cls text : String} {names : List String} (K : aK U l G own cc nL ret fr c lo) (hex : am_nx G) (hth : am_th xx own ik is ic cls text names)
    (d0 : decode cc pc = .ok (.new ik, 3)) (d3 : decode cc (pc + 3) = .ok (.dup, 1)) (d4 : decode cc (pc + 4) = .ok (.ldc_w is, 3)) (d7 : decode cc (pc + 7) = .ok (.invokespecial ic, 3)) (d10 : decode cc (pc + 10) = .ok (.athrow, 1))
    (hRf : names.length + 3 < fr) (hRl : (st.map fun v => v.category).sum + (13 * (names.length + 1) + 43) ≤ lo) (hc : kc + 1 ≤ c) (h : some (.inr cls, V) = some r) : AE U G nL fr c lo r kc V pc L st := by
  cases h
  exact AW.throwSW K.2.2.2.1 K.2.2.2.2 hex hth d0 d3 d4 d7 d10 (by rw [K.2.1]; exact hRf) (by rw [K.2.1]; exact hRl) (by rw [K.2.1]; exact hc) (by rw [K.2.1]; show 6 * kc + 6 ≤ 6 * c; omega) hc (by show 6 * kc + 6 ≤ 6 * c; omega) ⟨rfl, rfl⟩
theorem AE.throwT {ik is ic : Nat} {cls text Yc : String} {bb : ByteArray} {ix : Nat} {names : List String} (K : aK U l G own cc nL ret fr c lo) (hex : am_nx G) (hth : am_thT xx own ik is ic cls Yc bb ix text names)
    (d0 : decode cc pc = .ok (.new ik, 3)) (d3 : decode cc (pc + 3) = .ok (.dup, 1)) (d4 : decode cc (pc + 4) = .ok (.ldc is, 2)) (d6 : decode cc (pc + 6) = .ok (.invokespecial ic, 3)) (d9 : decode cc (pc + 9) = .ok (.athrow, 1))
    (hRf : names.length + 4 < fr) (hRl : (st.map fun v => v.category).sum + (13 * (names.length + 2) + 43) ≤ lo) (hc : kc + 1 ≤ c) (h : some (.inr cls, V) = some r) : AE U G nL fr c lo r kc V pc L st := by
  cases h
  exact AW.throwT K.2.2.2.1 K.2.2.2.2 hex hth d0 d3 d4 d6 d9 (by rw [K.2.1]; exact hRf) (by rw [K.2.1]; exact hRl) (by rw [K.2.1]; exact hc) (by rw [K.2.1]; show 6 * kc + 6 ≤ 6 * c; omega) hc (by show 6 * kc + 6 ≤ 6 * c; omega) ⟨rfl, rfl⟩
theorem AE.throwTW {ik is ic : Nat} {cls text Yc : String} {bb : ByteArray} {ix : Nat} {names : List String} (K : aK U l G own cc nL ret fr c lo) (hex : am_nx G) (hth : am_thT xx own ik is ic cls Yc bb ix text names)
    (d0 : decode cc pc = .ok (.new ik, 3)) (d3 : decode cc (pc + 3) = .ok (.dup, 1)) (d4 : decode cc (pc + 4) = .ok (.ldc_w is, 3)) (d7 : decode cc (pc + 7) = .ok (.invokespecial ic, 3)) (d10 : decode cc (pc + 10) = .ok (.athrow, 1))
    (hRf : names.length + 4 < fr) (hRl : (st.map fun v => v.category).sum + (13 * (names.length + 2) + 43) ≤ lo) (hc : kc + 1 ≤ c) (h : some (.inr cls, V) = some r) : AE U G nL fr c lo r kc V pc L st := by
  cases h
  exact AW.throwTW K.2.2.2.1 K.2.2.2.2 hex hth d0 d3 d4 d7 d10 (by rw [K.2.1]; exact hRf) (by rw [K.2.1]; exact hRl) (by rw [K.2.1]; exact hc) (by rw [K.2.1]; show 6 * kc + 6 ≤ 6 * c; omega) hc (by show 6 * kc + 6 ≤ 6 * c; omega) ⟨rfl, rfl⟩
end AES
section AER
variable {U : am_U} {l : Launch} {G : am_G} {own : String} {cc : ByteArray} {nL fr c lo kc pc pc' : Nat} {V V1 : am_V} {r : (Option Value ⊕ String) × am_V} {L L' : List (Option Value)} {st st' : List Value}
theorem AE.vret (K : aK U l G own cc nL none fr c lo) (hc : kc ≤ c) (hdg : decode cc pc = .ok (.return_, 1)) (h : some (.inl none, V) = some r) : AE U G nL fr c lo r kc V pc L [] := by
  cases h
  exact AW.vret K.2.2.2.1 ⟨rfl, rfl⟩ K.2.2.1 hc (Nat.mul_le_mul_left 6 hc) hdg
theorem AE.iret {x : Int32} (K : aK U l G own cc nL (some .int) fr c lo) (hc : kc ≤ c) (hdg : decode cc pc = .ok (.ireturn, 1)) (h : some (.inl (some (.int x)), V) = some r) : AE U G nL fr c lo r kc V pc L [.int x] := by
  cases h
  exact AW.iret K.2.2.2.1 ⟨rfl, rfl⟩ K.2.2.1 rfl hc (Nat.mul_le_mul_left 6 hc) hdg
theorem AE.zret {x : Int32} (K : aK U l G own cc nL (some .boolean) fr c lo) (hc : kc ≤ c) (hdg : decode cc pc = .ok (.ireturn, 1)) (h : rG (am_nb x) (some (.inl (some (.int x)), V)) = some r) : AE U G nL fr c lo r kc V pc L [.int x] := by
  obtain ⟨h1, h2⟩ := rG_t h
  cases h2
  exact AW.iret K.2.2.2.1 ⟨rfl, rfl⟩ K.2.2.1 (am_nb_ok h1).1 hc (Nat.mul_le_mul_left 6 hc) hdg
theorem AE.cret {x : Int32} (K : aK U l G own cc nL (some .char) fr c lo) (hc : kc ≤ c) (hdg : decode cc pc = .ok (.ireturn, 1)) (h : rG (am_nc x) (some (.inl (some (.int x)), V)) = some r) : AE U G nL fr c lo r kc V pc L [.int x] := by
  obtain ⟨h1, h2⟩ := rG_t h
  cases h2
  exact AW.iret K.2.2.2.1 ⟨rfl, rfl⟩ K.2.2.1 (of_decide_eq_true h1) hc (Nat.mul_le_mul_left 6 hc) hdg
theorem AE.fret {x : UInt32} (K : aK U l G own cc nL (some .float) fr c lo) (hc : kc ≤ c) (hdg : decode cc pc = .ok (.freturn, 1)) (h : some (.inl (some (.float x)), V) = some r) : AE U G nL fr c lo r kc V pc L [.float x] := by
  cases h
  exact AW.fret K.2.2.2.1 ⟨rfl, rfl⟩ K.2.2.1 hc (Nat.mul_le_mul_left 6 hc) hdg
theorem AE.lret {x : Int64} (K : aK U l G own cc nL (some .long) fr c lo) (hc : kc ≤ c) (hdg : decode cc pc = .ok (.lreturn, 1)) (h : some (.inl (some (.long x)), V) = some r) : AE U G nL fr c lo r kc V pc L [.long x] := by
  cases h
  exact AW.lret K.2.2.2.1 ⟨rfl, rfl⟩ K.2.2.1 hc (Nat.mul_le_mul_left 6 hc) hdg
theorem AE.dret {x : UInt64} (K : aK U l G own cc nL (some .double) fr c lo) (hc : kc ≤ c) (hdg : decode cc pc = .ok (.dreturn, 1)) (h : some (.inl (some (.double x)), V) = some r) : AE U G nL fr c lo r kc V pc L [.double x] := by
  cases h
  exact AW.dret K.2.2.2.1 ⟨rfl, rfl⟩ K.2.2.1 hc (Nat.mul_le_mul_left 6 hc) hdg
theorem AE.aret {d : Nat} {cn : String} (K : aK U l G own cc nL (some (.object cn)) fr c lo) (hc : kc ≤ c) (hdg : decode cc pc = .ok (.areturn, 1)) (h : some (.inl (some (.ref d)), V) = some r) : AE U G nL fr c lo r kc V pc L [.ref d] := by
  cases h
  exact AW.aret K.2.2.2.1 ⟨rfl, rfl⟩ K.2.2.1 (Or.inl ⟨_, rfl⟩) hc (Nat.mul_le_mul_left 6 hc) hdg
end AER
