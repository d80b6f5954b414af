/-! ===== AM1: straight stretches of bytecode as one function of program counter, locals and stack ===== -/
/-- references are numbers of cells; ad gives their addresses -/
def am_v (ad : Nat → Nat) : Value → Value
  | .ref c => .ref (ad c)
  | v => v
def am_get (L : List (Option Value)) (i : Nat) : Option Value := match L[i]? with
  | some o => o
  | none => none
/-- the locals that are known -/
def am_l (ad : Nat → Nat) (nL : Nat) (L : List (Option Value)) (ls : Array Slot) : Prop := ls.size = nL ∧ lv_wf ls ∧ ∀ (i : Nat) (v : Value), am_get L i = some v → ls[i]? = some (.val (am_v ad v))
theorem am_v_cat (ad : Nat → Nat) (v : Value) : (am_v ad v).category = v.category := by cases v <;> rfl
theorem am_get_set (L : List (Option Value)) (i j : Nat) (o : Option Value) (v : Value) (h : am_get (L.set i o) j = some v) : (j = i ∧ o = some v) ∨ (j ≠ i ∧ am_get L j = some v) := by
  unfold am_get at h ⊢
  rw [List.getElem?_set] at h
  by_cases e : i = j
  · subst e
    rw [if_pos rfl] at h
    refine Or.inl ⟨rfl, ?_⟩
    by_cases hl : i < L.length
    · rw [if_pos hl] at h
      exact h
    · rw [if_neg hl] at h
      cases h
  · rw [if_neg e] at h
    exact Or.inr ⟨fun q => e q.symm, h⟩
/-- the local ahead of i holds no long and no double -/
def am_ok1 (L : List (Option Value)) (i : Nat) : Bool := match i with
  | 0 => true
  | j + 1 => match am_get L j with
    | some v => v.category == 1
    | none => true
theorem am_store1 {ad : Nat → Nat} {nL : Nat} {L : List (Option Value)} {ls : Array Slot} {i : Nat} {v : Value} (h : am_l ad nL L ls) (hi : i < nL) (hc : v.category = 1) (hok : am_ok1 L i = true) :
    ∃ ls', storeLocals ls i (am_v ad v) = some ls' ∧ am_l ad nL (L.set i (some v)) ls' := by
  obtain ⟨h1, h2, h3⟩ := h
  have hc' : (am_v ad v).category = 1 := by rw [am_v_cat]; exact hc
  obtain ⟨ls', e, h4⟩ := lv_store1 (l := []) (v := am_v ad v) ⟨h1, h2, fun q hq => by cases hq⟩ hi hc'
  refine ⟨ls', e, h4.1, h4.2.1, fun j w hw => ?_⟩
  rcases am_get_set L i j _ w hw with ⟨rfl, hv⟩ | ⟨hj, hg⟩
  · cases hv
    exact h4.2.2 _ List.mem_cons_self
  · obtain ⟨ls2, e2, h5⟩ := lv_store1 (l := [(j, am_v ad w)]) (v := am_v ad v) ⟨h1, h2, fun q hq => by
      rw [List.mem_singleton.mp hq]
      exact h3 j w hg⟩ hi hc'
    cases e.symm.trans e2
    refine h5.2.2 (j, am_v ad w) (List.mem_cons_of_mem _ (List.mem_filter.mpr ⟨List.mem_singleton.mpr rfl, ?_⟩))
    have hne : (j == i) = false := by simpa using hj
    have h6 : (j + 1 == i && (am_v ad w).category == 2) = false := by
      by_cases e1 : j + 1 = i
      · subst e1
        have h7 : w.category = 1 := by
          have h8 : (match am_get L j with | some v => v.category == 1 | none => true) = true := hok
          rw [hg] at h8
          exact eq_of_beq h8
        simp [am_v_cat, h7]
      · simp [e1]
    simp [hne, h6]
theorem am_store2 {ad : Nat → Nat} {nL : Nat} {L : List (Option Value)} {ls : Array Slot} {i : Nat} {v : Value} (h : am_l ad nL L ls) (hi : i + 1 < nL) (hc : v.category = 2) (hok : am_ok1 L i = true) :
    ∃ ls', storeLocals ls i (am_v ad v) = some ls' ∧ am_l ad nL ((L.set (i + 1) none).set i (some v)) ls' := by
  obtain ⟨h1, h2, h3⟩ := h
  have hc' : (am_v ad v).category = 2 := by rw [am_v_cat]; exact hc
  obtain ⟨ls', e, h4⟩ := lv_store2 (l := []) (v := am_v ad v) ⟨h1, h2, fun q hq => by cases hq⟩ hi hc'
  refine ⟨ls', e, h4.1, h4.2.1, fun j w hw => ?_⟩
  rcases am_get_set _ i j _ w hw with ⟨rfl, hv⟩ | ⟨hj, hg⟩
  · cases hv
    exact h4.2.2 _ List.mem_cons_self
  · rcases am_get_set L (i + 1) j _ w hg with ⟨_, hv⟩ | ⟨hj2, hg2⟩
    · cases hv
    clear hg
    rename am_get L j = some w => hg
    obtain ⟨ls2, e2, h5⟩ := lv_store2 (l := [(j, am_v ad w)]) (v := am_v ad v) ⟨h1, h2, fun q hq => by
      rw [List.mem_singleton.mp hq]
      exact h3 j w hg⟩ hi hc'
    cases e.symm.trans e2
    refine h5.2.2 (j, am_v ad w) (List.mem_cons_of_mem _ (List.mem_filter.mpr ⟨List.mem_singleton.mpr rfl, ?_⟩))
    have hne : (j == i) = false := by simpa using hj
    have hne2 : (j == i + 1) = false := by simpa using hj2
    have h6 : (j + 1 == i && (am_v ad w).category == 2) = false := by
      by_cases e1 : j + 1 = i
      · subst e1
        have h7 : w.category = 1 := by
          have h8 : (match am_get L j with | some v => v.category == 1 | none => true) = true := hok
          rw [hg] at h8
          exact eq_of_beq h8
        simp [am_v_cat, h7]
      · simp [e1]
    simp [hne, hne2, h6]
def am_len : Instr → Nat
  | .iload _ => 2
  | .fload _ => 2
  | .lload _ => 2
  | .dload _ => 2
  | .aload _ => 2
  | .istore _ => 2
  | .fstore _ => 2
  | .lstore _ => 2
  | .dstore _ => 2
  | .astore _ => 2
  | .bipush _ => 2
  | .sipush _ => 3
  | .iinc _ _ => 3
  | .goto _ => 3
  | _ => 1
def am_ld (L : List (Option Value)) (st : List Value) (pc n i : Nat) (p : Value → Bool) : Option (Nat × List (Option Value) × List Value) := match am_get L i with
  | some v => if p v then some (pc + n, L, v :: st) else none
  | none => none
def am_isI : Value → Bool
  | .int _ => true
  | _ => false
def am_isL : Value → Bool
  | .long _ => true
  | _ => false
def am_isF : Value → Bool
  | .float _ => true
  | _ => false
def am_isD : Value → Bool
  | .double _ => true
  | _ => false
def am_isA : Value → Bool
  | .ref _ => true
  | _ => false
def am_s1 (nL : Nat) (L : List (Option Value)) (st : List Value) (pc n i : Nat) (p : Value → Bool) : Option (Nat × List (Option Value) × List Value) := match st with
  | v :: r => if p v && decide (i < nL) && am_ok1 L i then some (pc + n, L.set i (some v), r) else none
  | [] => none
def am_s2 (nL : Nat) (L : List (Option Value)) (st : List Value) (pc n i : Nat) (p : Value → Bool) : Option (Nat × List (Option Value) × List Value) := match st with
  | v :: r => if p v && decide (i + 1 < nL) && am_ok1 L i then some (pc + n, (L.set (i + 1) none).set i (some v), r) else none
  | [] => none
def am_b (L : List (Option Value)) (st : List Value) (pc : Nat) (f : Int32 → Int32 → Int32) : Option (Nat × List (Option Value) × List Value) := match st with
  | .int y :: .int x :: r => some (pc + 1, L, .int (f x y) :: r)
  | _ => none
def am_bl (L : List (Option Value)) (st : List Value) (pc : Nat) (f : Int64 → Int64 → Int64) : Option (Nat × List (Option Value) × List Value) := match st with
  | .long y :: .long x :: r => some (pc + 1, L, .long (f x y) :: r)
  | _ => none
def am_u (L : List (Option Value)) (st : List Value) (pc : Nat) (f : Int32 → Value) : Option (Nat × List (Option Value) × List Value) := match st with
  | .int x :: r => some (pc + 1, L, f x :: r)
  | _ => none
/-- one straight instruction -/
def am_i (nL : Nat) (i : Instr) (pc : Nat) (L : List (Option Value)) (st : List Value) : Option (Nat × List (Option Value) × List Value) := match i with
  | .iload_n k => am_ld L st pc 1 k.val am_isI
  | .iload k => am_ld L st pc 2 k am_isI
  | .fload_n k => am_ld L st pc 1 k.val am_isF
  | .fload k => am_ld L st pc 2 k am_isF
  | .lload_n k => am_ld L st pc 1 k.val am_isL
  | .lload k => am_ld L st pc 2 k am_isL
  | .dload_n k => am_ld L st pc 1 k.val am_isD
  | .dload k => am_ld L st pc 2 k am_isD
  | .aload_n k => am_ld L st pc 1 k.val am_isA
  | .aload k => am_ld L st pc 2 k am_isA
  | .istore_n k => am_s1 nL L st pc 1 k.val am_isI
  | .istore k => am_s1 nL L st pc 2 k am_isI
  | .fstore_n k => am_s1 nL L st pc 1 k.val am_isF
  | .fstore k => am_s1 nL L st pc 2 k am_isF
  | .astore_n k => am_s1 nL L st pc 1 k.val am_isA
  | .astore k => am_s1 nL L st pc 2 k am_isA
  | .lstore_n k => am_s2 nL L st pc 1 k.val am_isL
  | .lstore k => am_s2 nL L st pc 2 k am_isL
  | .dstore_n k => am_s2 nL L st pc 1 k.val am_isD
  | .dstore k => am_s2 nL L st pc 2 k am_isD
  | .iconst n => some (pc + 1, L, .int (Int32.ofInt n) :: st)
  | .bipush n => some (pc + 2, L, .int (Int8.ofInt n).toInt32 :: st)
  | .sipush n => some (pc + 3, L, .int (Int16.ofInt n).toInt32 :: st)
  | .lconst n => some (pc + 1, L, .long (Int64.ofNat (n : Nat)) :: st)
  | .iadd => am_b L st pc (fun x y => x + y)
  | .isub => am_b L st pc (fun x y => x - y)
  | .imul => am_b L st pc (fun x y => x * y)
  | .iand => am_b L st pc (fun x y => x &&& y)
  | .ior => am_b L st pc (fun x y => x ||| y)
  | .ixor => am_b L st pc (fun x y => x ^^^ y)
  | .ishl => am_b L st pc (fun x y => x <<< (y &&& 31))
  | .ishr => am_b L st pc (fun x y => x >>> (y &&& 31))
  | .iushr => am_b L st pc (fun x y => (x.toUInt32 >>> (y.toUInt32 &&& Int32.toUInt32 31)).toInt32)
  | .ladd => am_bl L st pc (fun x y => x + y)
  | .lmul => am_bl L st pc (fun x y => x * y)
  | .i2l => am_u L st pc (fun x => .long x.toInt64)
  | .i2c => am_u L st pc (fun x => .int (x.toUInt32 % 65536).toInt32)
  | .i2f => am_u L st pc (fun x => .float (FP.i2f x))
  | .i2d => am_u L st pc (fun x => .double (FP.i2d x))
  | .lcmp => match st with
    | .long y :: .long x :: r => some (pc + 1, L, .int (lg_cmp x y) :: r)
    | _ => none
  | .fcmp op => match st with
    | .float y :: .float x :: r => some (pc + 1, L, .int (Op.cmpValue (FP.fcmp x y) op) :: r)
    | _ => none
  | .dcmp op => match st with
    | .double y :: .double x :: r => some (pc + 1, L, .int (Op.cmpValue (FP.dcmp x y) op) :: r)
    | _ => none
  | .dup => match st with
    | v :: r => if v.category == 1 then some (pc + 1, L, v :: v :: r) else none
    | _ => none
  | .dup2 => match st with
    | v :: w :: r => if v.category == 1 && w.category == 1 then some (pc + 1, L, v :: w :: v :: w :: r) else none
    | _ => none
  | .pop => match st with
    | v :: r => if v.category == 1 then some (pc + 1, L, r) else none
    | _ => none
  | .goto off => if 0 ≤ (pc : Int) + off then some (((pc : Int) + off).toNat, L, st) else none
  | .iinc k n => match am_get L k with
    | some (.int x) => if decide (k < nL) && am_ok1 L k then some (pc + 3, L.set k (some (.int (x + Int32.ofInt n))), st) else none
    | _ => none
  | _ => none
theorem am_ld_ok {L st pc n i p pc' L' st'} (h : am_ld L st pc n i p = some (pc', L', st')) : ∃ v, am_get L i = some v ∧ p v = true ∧ pc' = pc + n ∧ L' = L ∧ st' = v :: st := by
  unfold am_ld at h
  cases hg : am_get L i with
  | none => rw [hg] at h; cases h
  | some v =>
    rw [hg] at h
    by_cases hp : p v = true
    · simp only [hp, if_true, Option.some.injEq, Prod.mk.injEq] at h
      exact ⟨v, rfl, hp, h.1.symm, h.2.1.symm, h.2.2.symm⟩
    · simp [hp] at h
theorem am_s1_ok {nL L st pc n i p pc' L' st'} (h : am_s1 nL L st pc n i p = some (pc', L', st')) : ∃ v, st = v :: st' ∧ p v = true ∧ i < nL ∧ am_ok1 L i = true ∧ pc' = pc + n ∧ L' = L.set i (some v) := by
  cases st with
  | nil => cases h
  | cons v r =>
    simp only [am_s1] at h
    by_cases hc : (p v && decide (i < nL) && am_ok1 L i) = true
    · rw [if_pos hc] at h
      simp only [Bool.and_eq_true, decide_eq_true_eq] at hc
      cases h
      exact ⟨v, rfl, hc.1.1, hc.1.2, hc.2, rfl, rfl⟩
    · rw [if_neg hc] at h
      cases h
theorem am_s2_ok {nL L st pc n i p pc' L' st'} (h : am_s2 nL L st pc n i p = some (pc', L', st')) : ∃ v, st = v :: st' ∧ p v = true ∧ i + 1 < nL ∧ am_ok1 L i = true ∧ pc' = pc + n ∧ L' = (L.set (i + 1) none).set i (some v) := by
  cases st with
  | nil => cases h
  | cons v r =>
    simp only [am_s2] at h
    by_cases hc : (p v && decide (i + 1 < nL) && am_ok1 L i) = true
    · rw [if_pos hc] at h
      simp only [Bool.and_eq_true, decide_eq_true_eq] at hc
      cases h
      exact ⟨v, rfl, hc.1.1, hc.1.2, hc.2, rfl, rfl⟩
    · rw [if_neg hc] at h
      cases h
theorem am_b_ok {L st pc f pc' L' st'} (h : am_b L st pc f = some (pc', L', st')) : ∃ x y r, st = .int y :: .int x :: r ∧ pc' = pc + 1 ∧ L' = L ∧ st' = .int (f x y) :: r := by
  unfold am_b at h
  split at h
  · cases h
    exact ⟨_, _, _, rfl, rfl, rfl, rfl⟩
  · cases h
theorem am_bl_ok {L st pc f pc' L' st'} (h : am_bl L st pc f = some (pc', L', st')) : ∃ x y r, st = .long y :: .long x :: r ∧ pc' = pc + 1 ∧ L' = L ∧ st' = .long (f x y) :: r := by
  unfold am_bl at h
  split at h
  · cases h
    exact ⟨_, _, _, rfl, rfl, rfl, rfl⟩
  · cases h
theorem am_u_ok {L st pc f pc' L' st'} (h : am_u L st pc f = some (pc', L', st')) : ∃ x r, st = .int x :: r ∧ pc' = pc + 1 ∧ L' = L ∧ st' = f x :: r := by
  unfold am_u at h
  split at h
  · cases h
    exact ⟨_, _, rfl, rfl, rfl, rfl⟩
  · cases h
theorem am_isI_ok {v : Value} (h : am_isI v = true) : ∃ x, v = .int x := by cases v <;> first | exact ⟨_, rfl⟩ | cases h
theorem am_isL_ok {v : Value} (h : am_isL v = true) : ∃ x, v = .long x := by cases v <;> first | exact ⟨_, rfl⟩ | cases h
theorem am_isF_ok {v : Value} (h : am_isF v = true) : ∃ x, v = .float x := by cases v <;> first | exact ⟨_, rfl⟩ | cases h
theorem am_isD_ok {v : Value} (h : am_isD v = true) : ∃ x, v = .double x := by cases v <;> first | exact ⟨_, rfl⟩ | cases h
theorem am_isA_ok {v : Value} (h : am_isA v = true) : ∃ x, v = .ref x := by cases v <;> first | exact ⟨_, rfl⟩ | cases h
