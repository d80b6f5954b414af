/-! ===== AM2: the world as a table of numbers. V c k: what field k of the object c, or place k of the array c, holds; shapes and references are fixed ===== -/
/-- a cell's shape: an object (class number, for each field none: a number, some d: the object d), or an array (number of its class, length; numbers, floats (true), or references told by place and number) -/
abbrev am_Sh : Type := (Nat × List (Option Nat)) ⊕ (Nat × Nat × (Bool ⊕ (Nat → Int32 → Option Nat)))
def am_fv (ad : Nat → Nat) (x : Int32) : Option Nat → Value
  | none => .int x
  | some c => .ref (ad c)
/-- the same with cells' numbers for addresses -/
def am_fw (x : Int32) : Option Nat → Value
  | none => .int x
  | some c => .ref c
theorem am_fw_v (ad : Nat → Nat) (x : Int32) (o : Option Nat) : am_v ad (am_fw x o) = am_fv ad x o := by cases o <;> rfl
def am_fs (ad : Nat → Nat) (f : Nat → Int32) : Nat → List (Option Nat) → List Value
  | _, [] => []
  | j, o :: r => am_fv ad (f j) o :: am_fs ad f (j + 1) r
theorem am_fs_get (ad : Nat → Nat) (f : Nat → Int32) : ∀ (os : List (Option Nat)) (j k : Nat), (am_fs ad f j os)[k]? = (os[k]?).map (am_fv ad (f (j + k)))
  | [], _, _ => by simp [am_fs]
  | o :: r, j, 0 => by simp [am_fs]
  | o :: r, j, k + 1 => by
    simp only [am_fs, List.getElem?_cons_succ]
    rw [am_fs_get ad f r (j + 1) k, show j + 1 + k = j + (k + 1) by omega]
theorem am_fs_len (ad : Nat → Nat) (f : Nat → Int32) : ∀ (os : List (Option Nat)) (j : Nat), (am_fs ad f j os).length = os.length
  | [], _ => rfl
  | o :: r, j => by simp [am_fs, am_fs_len ad f r (j + 1)]
theorem am_fs_set {ad : Nat → Nat} {f : Nat → Int32} {os : List (Option Nat)} {k : Nat} (h : os[k]? = some none) (x : Int32) : (am_fs ad f 0 os).set k (.int x) = am_fs ad (upd f k x) 0 os := by
  apply List.ext_getElem?
  intro i
  rw [am_fs_get, List.getElem?_set, am_fs_len, am_fs_get]
  by_cases e : k = i
  · subst e
    have hl : k < os.length := (List.getElem?_eq_some_iff.mp h).1
    rw [if_pos rfl, if_pos hl, h]
    simp [am_fv, upd]
  · rw [if_neg e, Nat.zero_add]
    have : upd f k x i = f i := by simp [upd, Ne.symm e]
    rw [this]
def am_e (dA : Nat → ClassId) (ad : Nat → Nat) (f : Nat → Int32) : am_Sh → va_E
  | .inl (ci, os) => .inr (ci, am_fs ad f 0 os)
  | .inr (t, n, .inl false) => .inl (dA t, n, .inl f)
  | .inr (t, n, .inl true) => .inl (dA t, n, .inr (.inr (.inl (fun j => (f j).toUInt32))))
  | .inr (t, n, .inr g) => .inl (dA t, n, .inr (.inr (.inr (.inr (fun j => (g j (f j)).map ad)))))
abbrev am_V : Type := Nat → Nat → Int32
def am_set (V : am_V) (c k : Nat) (x : Int32) : am_V := fun d => if d = c then upd (V c) k x else V d
theorem am_set_at (V : am_V) (c k : Nat) (x : Int32) : am_set V c k x c = upd (V c) k x := if_pos rfl
theorem am_set_ne (V : am_V) {c d : Nat} (k : Nat) (x : Int32) (h : d ≠ c) : am_set V c k x d = V d := if_neg h
theorem am_set_get (V : am_V) (c k : Nat) (x : Int32) (d j : Nat) : am_set V c k x d j = if d = c ∧ j = k then x else V d j := by
  by_cases h : d = c
  · subst h
    rw [am_set_at]
    by_cases h2 : j = k <;> simp [upd, h2]
  · rw [am_set_ne _ _ _ h]
    simp [h]
/-- what is fixed for a claim: the classes, the words, the shapes, which cells may be written, the arrays' types -/
abbrev am_X : Type := List vw_C × List Cond × List Cond × (Nat → Option am_Sh) × (Nat → Bool) × (Nat → FieldType) × List (String × Nat × String) × List (String × String) × List (String × String × String × Value)
def am_cl (X : am_X) : List vw_C := X.1
def am_WS (X : am_X) : List Cond := X.2.1
def am_NS (X : am_X) : List Cond := X.2.2.1
def am_sh (X : am_X) : Nat → Option am_Sh := X.2.2.2.1
def am_wr (X : am_X) : Nat → Bool := X.2.2.2.2.1
def am_tA (X : am_X) : Nat → FieldType := X.2.2.2.2.2.1
def am_TS (X : am_X) : List (String × Nat × String) := X.2.2.2.2.2.2.1
def am_NC (X : am_X) : List (String × String) := X.2.2.2.2.2.2.2.1
def am_SF (X : am_X) : List (String × String × String × Value) := X.2.2.2.2.2.2.2.2
/-- the words that hold at every call: good ones, and links to nest mates -/
def am_words (X : am_X) : Prop := (∀ w ∈ am_WS X, (w.onTables && w.keeps) = true ∨ ∃ ty, w = .arrayClass ty) ∧ ∀ w ∈ am_NS X, (∃ (a : String) (i : Nat) (y : MethodName) (h : String), w = .methodLinkNest a i y h) ∨ (∃ (a : String) (i : Nat) (b n d h : String), w = .fieldLinkNest a i b n d h) ∨ (∃ a b : String, w = .castable a b) ∨ ∃ y : MethodName, w = .declares y
/-- what a run finds: the classes' numbers, the array classes', the addresses, the state at the law's start -/
abbrev am_U : Type := va_G × (Nat → ClassId) × (Nat → Nat) × State
def am_D (U : am_U) : va_G := U.1
def am_dA (U : am_U) : Nat → ClassId := U.2.1
def am_ad (U : am_U) : Nat → Nat := U.2.2.1
def am_s0 (U : am_U) : State := U.2.2.2
/-- a method's walk -/
abbrev am_G : Type := Launch × Program × Env × Room × State × MethodId × Array Value × List Frame × Method × Code
def am_gl (G : am_G) : Launch := G.1
def am_gp (G : am_G) : Program := G.2.1
def am_ge (G : am_G) : Env := G.2.2.1
def am_gR (G : am_G) : Room := G.2.2.2.1
def am_gs (G : am_G) : State := G.2.2.2.2.1
def am_gm (G : am_G) : MethodId := G.2.2.2.2.2.1
def am_ga (G : am_G) : Array Value := G.2.2.2.2.2.2.1
def am_gb (G : am_G) : List Frame := G.2.2.2.2.2.2.2.1
def am_gt (G : am_G) : Method := G.2.2.2.2.2.2.2.2.1
def am_gc (G : am_G) : Code := G.2.2.2.2.2.2.2.2.2
def am_H (X : am_X) (U : am_U) (V : am_V) (H : Heap) : Prop :=
  (∀ (c : Nat) (x : am_Sh), am_sh X c = some x → va_at (am_D U) (am_cl X) (am_ad U c, am_e (am_dA U) (am_ad U) (V c) x) H) ∧
  (am_s0 U).heap.size ≤ H.size ∧ ∀ q : Nat, q < (am_s0 U).heap.size → H[q]? = (am_s0 U).heap[q]?
def am_base (X : am_X) (U : am_U) : Prop :=
  (am_words X ∧ (∀ w ∈ am_NS X, va_Nw w (am_s0 U)) ∧ (∀ x ∈ am_TS X, ∃ a : Nat, vk_R x.1 x.2.1 x.2.2 a (am_s0 U)) ∧ (∀ x ∈ am_NC X, va_Nc x.1 x.2 (am_s0 U)) ∧
    vx_Zq Bundle.tN "UNASSIGNED_STACK" Bundle.steD (fun q => (am_s0 U).heap.size ≤ q) (am_s0 U) (am_s0 U).heap ∧ vx_Zq Bundle.tN "SUPPRESSED_SENTINEL" Bundle.listD (fun q => (am_s0 U).heap.size ≤ q) (am_s0 U) (am_s0 U).heap ∧
    ∀ x ∈ am_SF X, va_Z x.1 x.2.1 x.2.2.1 (am_v (am_ad U) x.2.2.2) (fun q => (am_s0 U).heap.size ≤ q) (am_s0 U) (am_s0 U).heap) ∧ va_K (am_D U) (am_cl X) [] (am_s0 U) ∧ (∀ t : Nat, t < 8 → ArrOfT (am_s0 U) (am_dA U t) (am_tA X t) ∧ va_RA (am_s0 U) (am_dA U t) (am_tA X t)) ∧
  (∀ (c d : Nat) (x y : am_Sh), am_sh X c = some x → am_sh X d = some y → am_wr X d = true → am_ad U c = am_ad U d → c = d) ∧
  (∀ (c : Nat) (x : am_Sh), am_sh X c = some x → am_wr X c = true → (am_s0 U).heap.size ≤ am_ad U c)
def am_ok (X : am_X) (U : am_U) (G : am_G) (own : String) (cc : ByteArray) (nL : Nat) : Prop :=
  (am_gp G).tables.exec = Jvm.exec ∧ (am_gc G).code = cc ∧ (am_gc G).maxLocals = nL ∧ (am_gs G).vm.findClass own = some (am_gm G).cls ∧ (∀ w ∈ am_WS X, w.before (am_ga G) (am_gs G) = true) ∧
  (am_s0 U).WarmedH (am_gs G).vm ∧ am_base X U ∧ (am_gt G).locks = false ∧ (am_gl G).stackTraces = false
def am_W (G : am_G) (H : Heap) (locs : List Loc) (kc ks : Nat) (Q : State → Prop) (g : JFrame) : Prop :=
  W (am_gp G) (am_gl G) (am_ge G) (am_gR G) (am_gs G) (am_gm G) (am_ga G) (am_gb G) (am_gt G) (am_gc G) H locs kc ks Q g
/-- the goal: from here, with these locals, this stack and this table, the machine comes to a state with Q -/
def AW (X : am_X) (U : am_U) (G : am_G) (nL kc ks : Nat) (V : am_V) (Q : State → Prop) (pc : Nat) (L : List (Option Value)) (st : List Value) : Prop :=
  ∀ (H : Heap) (locs : List Loc) (ls : Array Slot), am_H X U V H → (am_gs G).heap.size ≤ H.size → (∀ q ∈ locs, (am_s0 U).heap.size ≤ q.base) → am_l (am_ad U) nL L ls →
    am_W G H locs kc ks Q (F0 (am_gm G) pc ls (st.map (am_v (am_ad U))))
def am_dec (cc : ByteArray) (t : List (Nat × Instr × Nat)) : Prop := ∀ x ∈ t, decode cc x.1 = .ok (x.2.1, x.2.2)
def am_run (nL : Nat) : List (Nat × Instr × Nat) → Nat → List (Option Value) → List Value → Option (Nat × List (Option Value) × List Value)
  | [], pc, L, st => some (pc, L, st)
  | (q, i, n) :: r, pc, L, st => if (q == pc && n == am_len i) = true then (am_i nL i pc L st).bind (fun x => am_run nL r x.1 x.2.1 x.2.2) else none
section AMR
variable {X : am_X} {U : am_U} {G : am_G} {own : String} {cc : ByteArray} {nL kc ks pc pc' : Nat} {V : am_V} {Q : State → Prop} {L L' : List (Option Value)} {st st' : List Value}
theorem AW.step {i : Instr} {n : Nat} (ok : am_ok X U G own cc nL) (hdg : decode cc pc = .ok (i, n)) (hn : n = am_len i) (h : am_i nL i pc L st = some (pc', L', st')) (k : AW X U G nL kc ks V Q pc' L' st') : AW X U G nL kc ks V Q pc L st := by
  subst hn
  intro H locs ls hH hz hlo hl
  exact am_i_ok ok.1 ok.2.1 hdg h hl (fun ls' hl' => k H locs ls' hH hz hlo hl')
theorem AW.runs (ok : am_ok X U G own cc nL) : ∀ (t : List (Nat × Instr × Nat)), am_dec cc t → ∀ (pc : Nat) (L : List (Option Value)) (st : List Value), am_run nL t pc L st = some (pc', L', st') → AW X U G nL kc ks V Q pc' L' st' → AW X U G nL kc ks V Q pc L st
  | [], _, pc, L, st, h, k => by
    cases h
    exact k
  | (q, i, n) :: r, hd, pc, L, st, h, k => by
    simp only [am_run] at h
    by_cases hc : (q == pc && n == am_len i) = true
    · rw [if_pos hc] at h
      simp only [Bool.and_eq_true, beq_iff_eq] at hc
      cases hi : am_i nL i pc L st with
      | none => rw [hi] at h; cases h
      | some x =>
        obtain ⟨p1, L1, s1⟩ := x
        rw [hi] at h
        have hdg := hd (q, i, n) List.mem_cons_self
        rw [hc.1] at hdg
        exact AW.step ok hdg hc.2 hi (AW.runs ok r (fun x hx => hd x (List.mem_cons_of_mem _ hx)) p1 L1 s1 h k)
    · rw [if_neg hc] at h
      cases h
/-- a stretch of a method's table: n rows from the a-th on -/
theorem AW.run {t : List (Nat × Instr × Nat)} (ok : am_ok X U G own cc nL) (hd : am_dec cc t) (a n : Nat) (h : am_run nL ((t.drop a).take n) pc L st = some (pc', L', st')) (k : AW X U G nL kc ks V Q pc' L' st') : AW X U G nL kc ks V Q pc L st :=
  AW.runs ok _ (fun x hx => hd x (List.mem_of_mem_drop (List.mem_of_mem_take hx))) pc L st h k
/-- a row of the table -/
theorem am_at {t : List (Nat × Instr × Nat)} (hd : am_dec cc t) (a : Nat) {i : Instr} {n : Nat} (h : t[a]? = some (pc, i, n)) : decode cc pc = .ok (i, n) := hd (pc, i, n) (List.mem_of_getElem? h)
def am_cnd : Jvm.ClassFile.Cond → Int32 → Int32 → Prop
  | .eq, x, y => x = y
  | .ne, x, y => ¬ x = y
  | .lt, x, y => x < y
  | .ge, x, y => y ≤ x
  | .gt, x, y => y < x
  | .le, x, y => x ≤ y
theorem AW.icmp {cond : Jvm.ClassFile.Cond} {off : Int} {x y : Int32} (ok : am_ok X U G own cc nL) (tgt : Nat) (hdg : decode cc pc = .ok (.if_icmp cond off, 3)) (ht : (pc : Int) + off = (tgt : Int)) (kt : am_cnd cond x y → AW X U G nL kc ks V Q tgt L st) (kf : ¬ am_cnd cond x y → AW X U G nL kc ks V Q (pc + 3) L st) :
    AW X U G nL kc ks V Q pc L (.int y :: .int x :: st) := by
  intro H locs ls hH hz hlo hl
  have a1 := fun h => kt h H locs ls hH hz hlo hl
  have a2 := fun h => kf h H locs ls hH hz hlo hl
  cases cond
  · exact lv_icmp_eq ok.1 ok.2.1 hdg ht a1 a2
  · exact lv_icmp_ne ok.1 ok.2.1 hdg ht a1 (fun h => a2 (fun q => q h))
  · exact lv_icmp_lt ok.1 ok.2.1 hdg ht a1 a2
  · exact lv_icmp_ge ok.1 ok.2.1 hdg ht a1 a2
  · exact lv_icmp_gt ok.1 ok.2.1 hdg ht a1 a2
  · exact lv_icmp_le ok.1 ok.2.1 hdg ht a1 a2
theorem AW.ifc {cond : Jvm.ClassFile.Cond} {off : Int} {x : Int32} (ok : am_ok X U G own cc nL) (tgt : Nat) (hdg : decode cc pc = .ok (.ifCond cond off, 3)) (ht : (pc : Int) + off = (tgt : Int)) (kt : am_cnd cond x 0 → AW X U G nL kc ks V Q tgt L st) (kf : ¬ am_cnd cond x 0 → AW X U G nL kc ks V Q (pc + 3) L st) :
    AW X U G nL kc ks V Q pc L (.int x :: st) := by
  intro H locs ls hH hz hlo hl
  have a1 := fun h => kt h H locs ls hH hz hlo hl
  have a2 := fun h => kf h H locs ls hH hz hlo hl
  cases cond
  · exact lv_if_eq ok.1 ok.2.1 hdg ht a1 a2
  · exact lv_if_ne ok.1 ok.2.1 hdg ht a1 (fun h => a2 (fun q => q h))
  · exact lv_if_lt ok.1 ok.2.1 hdg ht a1 a2
  · exact lv_if_ge ok.1 ok.2.1 hdg ht a1 a2
  · exact lv_if_gt ok.1 ok.2.1 hdg ht a1 a2
  · exact lv_if_le ok.1 ok.2.1 hdg ht a1 a2
end AMR
