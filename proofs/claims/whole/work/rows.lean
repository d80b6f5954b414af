section
/-! ===== AM1: straight stretches of bytecode as one function of program counter, locals and stack ===== -/
/-- references are numbers of cells; ad gives their addresses -/
def am_v (ad : Nat → Nat) : Value → Value
  | .ref c => .ref (ad c)
  | v => v
def am_get (L : List (Option Value)) (i : Nat) : Option Value := match L[i]? with
  | some o => o
  | none => none
/-- the locals that are known -/
def am_l (ad : Nat → Nat) (nL : Nat) (L : List (Option Value)) (ls : Array Slot) : Prop := ls.size = nL ∧ lv_wf ls ∧ ∀ (i : Nat) (v : Value), am_get L i = some v → ls[i]? = some (.val (am_v ad v))
theorem am_v_cat (ad : Nat → Nat) (v : Value) : (am_v ad v).category = v.category := by cases v <;> rfl
theorem am_get_set (L : List (Option Value)) (i j : Nat) (o : Option Value) (v : Value) (h : am_get (L.set i o) j = some v) : (j = i ∧ o = some v) ∨ (j ≠ i ∧ am_get L j = some v) := by
  unfold am_get at h ⊢
  rw [List.getElem?_set] at h
  by_cases e : i = j
  · subst e
    rw [if_pos rfl] at h
    refine Or.inl ⟨rfl, ?_⟩
    by_cases hl : i < L.length
    · rw [if_pos hl] at h
      exact h
    · rw [if_neg hl] at h
      cases h
  · rw [if_neg e] at h
    exact Or.inr ⟨fun q => e q.symm, h⟩
/-- the local ahead of i holds no long and no double -/
def am_ok1 (L : List (Option Value)) (i : Nat) : Bool := match i with
  | 0 => true
  | j + 1 => match am_get L j with
    | some v => v.category == 1
    | none => true
theorem am_store1 {ad : Nat → Nat} {nL : Nat} {L : List (Option Value)} {ls : Array Slot} {i : Nat} {v : Value} (h : am_l ad nL L ls) (hi : i < nL) (hc : v.category = 1) (hok : am_ok1 L i = true) :
    ∃ ls', storeLocals ls i (am_v ad v) = some ls' ∧ am_l ad nL (L.set i (some v)) ls' := by
  obtain ⟨h1, h2, h3⟩ := h
  have hc' : (am_v ad v).category = 1 := by rw [am_v_cat]; exact hc
  obtain ⟨ls', e, h4⟩ := lv_store1 (l := []) (v := am_v ad v) ⟨h1, h2, fun q hq => by cases hq⟩ hi hc'
  refine ⟨ls', e, h4.1, h4.2.1, fun j w hw => ?_⟩
  rcases am_get_set L i j _ w hw with ⟨rfl, hv⟩ | ⟨hj, hg⟩
  · cases hv
    exact h4.2.2 _ List.mem_cons_self
  · obtain ⟨ls2, e2, h5⟩ := lv_store1 (l := [(j, am_v ad w)]) (v := am_v ad v) ⟨h1, h2, fun q hq => by
      rw [List.mem_singleton.mp hq]
      exact h3 j w hg⟩ hi hc'
    cases e.symm.trans e2
    refine h5.2.2 (j, am_v ad w) (List.mem_cons_of_mem _ (List.mem_filter.mpr ⟨List.mem_singleton.mpr rfl, ?_⟩))
    have hne : (j == i) = false := by simpa using hj
    have h6 : (j + 1 == i && (am_v ad w).category == 2) = false := by
      by_cases e1 : j + 1 = i
      · subst e1
        have h7 : w.category = 1 := by
          have h8 : (match am_get L j with | some v => v.category == 1 | none => true) = true := hok
          rw [hg] at h8
          exact eq_of_beq h8
        simp [am_v_cat, h7]
      · simp [e1]
    simp [hne, h6]
theorem am_store2 {ad : Nat → Nat} {nL : Nat} {L : List (Option Value)} {ls : Array Slot} {i : Nat} {v : Value} (h : am_l ad nL L ls) (hi : i + 1 < nL) (hc : v.category = 2) (hok : am_ok1 L i = true) :
    ∃ ls', storeLocals ls i (am_v ad v) = some ls' ∧ am_l ad nL ((L.set (i + 1) none).set i (some v)) ls' := by
  obtain ⟨h1, h2, h3⟩ := h
  have hc' : (am_v ad v).category = 2 := by rw [am_v_cat]; exact hc
  obtain ⟨ls', e, h4⟩ := lv_store2 (l := []) (v := am_v ad v) ⟨h1, h2, fun q hq => by cases hq⟩ hi hc'
  refine ⟨ls', e, h4.1, h4.2.1, fun j w hw => ?_⟩
  rcases am_get_set _ i j _ w hw with ⟨rfl, hv⟩ | ⟨hj, hg⟩
  · cases hv
    exact h4.2.2 _ List.mem_cons_self
  · rcases am_get_set L (i + 1) j _ w hg with ⟨_, hv⟩ | ⟨hj2, hg2⟩
    · cases hv
    clear hg
    rename am_get L j = some w => hg
    obtain ⟨ls2, e2, h5⟩ := lv_store2 (l := [(j, am_v ad w)]) (v := am_v ad v) ⟨h1, h2, fun q hq => by
      rw [List.mem_singleton.mp hq]
      exact h3 j w hg⟩ hi hc'
    cases e.symm.trans e2
    refine h5.2.2 (j, am_v ad w) (List.mem_cons_of_mem _ (List.mem_filter.mpr ⟨List.mem_singleton.mpr rfl, ?_⟩))
    have hne : (j == i) = false := by simpa using hj
    have hne2 : (j == i + 1) = false := by simpa using hj2
    have h6 : (j + 1 == i && (am_v ad w).category == 2) = false := by
      by_cases e1 : j + 1 = i
      · subst e1
        have h7 : w.category = 1 := by
          have h8 : (match am_get L j with | some v => v.category == 1 | none => true) = true := hok
          rw [hg] at h8
          exact eq_of_beq h8
        simp [am_v_cat, h7]
      · simp [e1]
    simp [hne, hne2, h6]
def am_len : Instr → Nat
  | .iload _ => 2
  | .fload _ => 2
  | .lload _ => 2
  | .dload _ => 2
  | .aload _ => 2
  | .istore _ => 2
  | .fstore _ => 2
  | .lstore _ => 2
  | .dstore _ => 2
  | .astore _ => 2
  | .bipush _ => 2
  | .sipush _ => 3
  | .iinc _ _ => 3
  | .goto _ => 3
  | _ => 1
def am_ld (L : List (Option Value)) (st : List Value) (pc n i : Nat) (p : Value → Bool) : Option (Nat × List (Option Value) × List Value) := match am_get L i with
  | some v => if p v then some (pc + n, L, v :: st) else none
  | none => none
def am_isI : Value → Bool
  | .int _ => true
  | _ => false
def am_isL : Value → Bool
  | .long _ => true
  | _ => false
def am_isF : Value → Bool
  | .float _ => true
  | _ => false
def am_isD : Value → Bool
  | .double _ => true
  | _ => false
def am_isA : Value → Bool
  | .ref _ => true
  | _ => false
def am_s1 (nL : Nat) (L : List (Option Value)) (st : List Value) (pc n i : Nat) (p : Value → Bool) : Option (Nat × List (Option Value) × List Value) := match st with
  | v :: r => if p v && decide (i < nL) && am_ok1 L i then some (pc + n, L.set i (some v), r) else none
  | [] => none
def am_s2 (nL : Nat) (L : List (Option Value)) (st : List Value) (pc n i : Nat) (p : Value → Bool) : Option (Nat × List (Option Value) × List Value) := match st with
  | v :: r => if p v && decide (i + 1 < nL) && am_ok1 L i then some (pc + n, (L.set (i + 1) none).set i (some v), r) else none
  | [] => none
def am_b (L : List (Option Value)) (st : List Value) (pc : Nat) (f : Int32 → Int32 → Int32) : Option (Nat × List (Option Value) × List Value) := match st with
  | .int y :: .int x :: r => some (pc + 1, L, .int (f x y) :: r)
  | _ => none
def am_bl (L : List (Option Value)) (st : List Value) (pc : Nat) (f : Int64 → Int64 → Int64) : Option (Nat × List (Option Value) × List Value) := match st with
  | .long y :: .long x :: r => some (pc + 1, L, .long (f x y) :: r)
  | _ => none
def am_u (L : List (Option Value)) (st : List Value) (pc : Nat) (f : Int32 → Value) : Option (Nat × List (Option Value) × List Value) := match st with
  | .int x :: r => some (pc + 1, L, f x :: r)
  | _ => none
/-- one straight instruction -/
def am_i (nL : Nat) (i : Instr) (pc : Nat) (L : List (Option Value)) (st : List Value) : Option (Nat × List (Option Value) × List Value) := match i with
  | .iload_n k => am_ld L st pc 1 k.val am_isI
  | .iload k => am_ld L st pc 2 k am_isI
  | .fload_n k => am_ld L st pc 1 k.val am_isF
  | .fload k => am_ld L st pc 2 k am_isF
  | .lload_n k => am_ld L st pc 1 k.val am_isL
  | .lload k => am_ld L st pc 2 k am_isL
  | .dload_n k => am_ld L st pc 1 k.val am_isD
  | .dload k => am_ld L st pc 2 k am_isD
  | .aload_n k => am_ld L st pc 1 k.val am_isA
  | .aload k => am_ld L st pc 2 k am_isA
  | .istore_n k => am_s1 nL L st pc 1 k.val am_isI
  | .istore k => am_s1 nL L st pc 2 k am_isI
  | .fstore_n k => am_s1 nL L st pc 1 k.val am_isF
  | .fstore k => am_s1 nL L st pc 2 k am_isF
  | .astore_n k => am_s1 nL L st pc 1 k.val am_isA
  | .astore k => am_s1 nL L st pc 2 k am_isA
  | .lstore_n k => am_s2 nL L st pc 1 k.val am_isL
  | .lstore k => am_s2 nL L st pc 2 k am_isL
  | .dstore_n k => am_s2 nL L st pc 1 k.val am_isD
  | .dstore k => am_s2 nL L st pc 2 k am_isD
  | .iconst n => some (pc + 1, L, .int (Int32.ofInt n) :: st)
  | .bipush n => some (pc + 2, L, .int (Int8.ofInt n).toInt32 :: st)
  | .sipush n => some (pc + 3, L, .int (Int16.ofInt n).toInt32 :: st)
  | .lconst n => some (pc + 1, L, .long (Int64.ofNat (n : Nat)) :: st)
  | .iadd => am_b L st pc (fun x y => x + y)
  | .isub => am_b L st pc (fun x y => x - y)
  | .imul => am_b L st pc (fun x y => x * y)
  | .iand => am_b L st pc (fun x y => x &&& y)
  | .ior => am_b L st pc (fun x y => x ||| y)
  | .ixor => am_b L st pc (fun x y => x ^^^ y)
  | .ishl => am_b L st pc (fun x y => x <<< (y &&& 31))
  | .ishr => am_b L st pc (fun x y => x >>> (y &&& 31))
  | .ladd => am_bl L st pc (fun x y => x + y)
  | .lmul => am_bl L st pc (fun x y => x * y)
  | .i2l => am_u L st pc (fun x => .long x.toInt64)
  | .i2c => am_u L st pc (fun x => .int (x.toUInt32 % 65536).toInt32)
  | .i2f => am_u L st pc (fun x => .float (FP.i2f x))
  | .i2d => am_u L st pc (fun x => .double (FP.i2d x))
  | .lcmp => match st with
    | .long y :: .long x :: r => some (pc + 1, L, .int (lg_cmp x y) :: r)
    | _ => none
  | .fcmp op => match st with
    | .float y :: .float x :: r => some (pc + 1, L, .int (Op.cmpValue (FP.fcmp x y) op) :: r)
    | _ => none
  | .dcmp op => match st with
    | .double y :: .double x :: r => some (pc + 1, L, .int (Op.cmpValue (FP.dcmp x y) op) :: r)
    | _ => none
  | .dup => match st with
    | v :: r => if v.category == 1 then some (pc + 1, L, v :: v :: r) else none
    | _ => none
  | .dup2 => match st with
    | v :: w :: r => if v.category == 1 && w.category == 1 then some (pc + 1, L, v :: w :: v :: w :: r) else none
    | _ => none
  | .pop => match st with
    | v :: r => if v.category == 1 then some (pc + 1, L, r) else none
    | _ => none
  | .goto off => if 0 ≤ (pc : Int) + off then some (((pc : Int) + off).toNat, L, st) else none
  | .iinc k n => match am_get L k with
    | some (.int x) => if decide (k < nL) && am_ok1 L k then some (pc + 3, L.set k (some (.int (x + Int32.ofInt n))), st) else none
    | _ => none
  | _ => none
theorem am_ld_ok {L st pc n i p pc' L' st'} (h : am_ld L st pc n i p = some (pc', L', st')) : ∃ v, am_get L i = some v ∧ p v = true ∧ pc' = pc + n ∧ L' = L ∧ st' = v :: st := by
  unfold am_ld at h
  cases hg : am_get L i with
  | none => rw [hg] at h; cases h
  | some v =>
    rw [hg] at h
    by_cases hp : p v = true
    · simp only [hp, if_true, Option.some.injEq, Prod.mk.injEq] at h
      exact ⟨v, rfl, hp, h.1.symm, h.2.1.symm, h.2.2.symm⟩
    · simp [hp] at h
theorem am_s1_ok {nL L st pc n i p pc' L' st'} (h : am_s1 nL L st pc n i p = some (pc', L', st')) : ∃ v, st = v :: st' ∧ p v = true ∧ i < nL ∧ am_ok1 L i = true ∧ pc' = pc + n ∧ L' = L.set i (some v) := by
  cases st with
  | nil => cases h
  | cons v r =>
    simp only [am_s1] at h
    by_cases hc : (p v && decide (i < nL) && am_ok1 L i) = true
    · rw [if_pos hc] at h
      simp only [Bool.and_eq_true, decide_eq_true_eq] at hc
      cases h
      exact ⟨v, rfl, hc.1.1, hc.1.2, hc.2, rfl, rfl⟩
    · rw [if_neg hc] at h
      cases h
theorem am_s2_ok {nL L st pc n i p pc' L' st'} (h : am_s2 nL L st pc n i p = some (pc', L', st')) : ∃ v, st = v :: st' ∧ p v = true ∧ i + 1 < nL ∧ am_ok1 L i = true ∧ pc' = pc + n ∧ L' = (L.set (i + 1) none).set i (some v) := by
  cases st with
  | nil => cases h
  | cons v r =>
    simp only [am_s2] at h
    by_cases hc : (p v && decide (i + 1 < nL) && am_ok1 L i) = true
    · rw [if_pos hc] at h
      simp only [Bool.and_eq_true, decide_eq_true_eq] at hc
      cases h
      exact ⟨v, rfl, hc.1.1, hc.1.2, hc.2, rfl, rfl⟩
    · rw [if_neg hc] at h
      cases h
theorem am_b_ok {L st pc f pc' L' st'} (h : am_b L st pc f = some (pc', L', st')) : ∃ x y r, st = .int y :: .int x :: r ∧ pc' = pc + 1 ∧ L' = L ∧ st' = .int (f x y) :: r := by
  unfold am_b at h
  split at h
  · cases h
    exact ⟨_, _, _, rfl, rfl, rfl, rfl⟩
  · cases h
theorem am_bl_ok {L st pc f pc' L' st'} (h : am_bl L st pc f = some (pc', L', st')) : ∃ x y r, st = .long y :: .long x :: r ∧ pc' = pc + 1 ∧ L' = L ∧ st' = .long (f x y) :: r := by
  unfold am_bl at h
  split at h
  · cases h
    exact ⟨_, _, _, rfl, rfl, rfl, rfl⟩
  · cases h
theorem am_u_ok {L st pc f pc' L' st'} (h : am_u L st pc f = some (pc', L', st')) : ∃ x r, st = .int x :: r ∧ pc' = pc + 1 ∧ L' = L ∧ st' = f x :: r := by
  unfold am_u at h
  split at h
  · cases h
    exact ⟨_, _, rfl, rfl, rfl, rfl⟩
  · cases h
theorem am_isI_ok {v : Value} (h : am_isI v = true) : ∃ x, v = .int x := by cases v <;> first | exact ⟨_, rfl⟩ | cases h
theorem am_isL_ok {v : Value} (h : am_isL v = true) : ∃ x, v = .long x := by cases v <;> first | exact ⟨_, rfl⟩ | cases h
theorem am_isF_ok {v : Value} (h : am_isF v = true) : ∃ x, v = .float x := by cases v <;> first | exact ⟨_, rfl⟩ | cases h
theorem am_isD_ok {v : Value} (h : am_isD v = true) : ∃ x, v = .double x := by cases v <;> first | exact ⟨_, rfl⟩ | cases h
theorem am_isA_ok {v : Value} (h : am_isA v = true) : ∃ x, v = .ref x := by cases v <;> first | exact ⟨_, rfl⟩ | cases h
end
section
section AMS
variable {p : Program} {l : Launch} {e : Env} {R : Room} {s : State} {m : MethodId} {args : Array Value} {below : List Frame} {meth : Method} {c : Code} {H : Heap} {locs : List Loc} {cells slots : Nat} {Q : State → Prop}
variable {cc : ByteArray} {ad : Nat → Nat} {nL pc pc' : Nat} {L L' : List (Option Value)} {st st' : List Value} {ls : Array Slot}
set_option maxHeartbeats 4000000 in
set_option maxRecDepth 100000 in
theorem am_i_ok {i : Instr} (hx : p.tables.exec = Jvm.exec) (hb : c.code = cc) (hdg : decode cc pc = .ok (i, am_len i)) (h : am_i nL i pc L st = some (pc', L', st')) (hl : am_l ad nL L ls)
    (k : ∀ ls' : Array Slot, am_l ad nL L' ls' → W p l e R s m args below meth c H locs cells slots Q (F0 m pc' ls' (st'.map (am_v ad)))) : W p l e R s m args below meth c H locs cells slots Q (F0 m pc ls (st.map (am_v ad))) := by
  cases i
  case iload_n n =>
    obtain ⟨v, hg, hp, rfl, rfl, rfl⟩ := am_ld_ok h
    obtain ⟨x, rfl⟩ := am_isI_ok hp
    exact lv_iload_n hx hb hdg rfl (hl.2.2 _ _ hg) (k ls hl)
  case iload n =>
    obtain ⟨v, hg, hp, rfl, rfl, rfl⟩ := am_ld_ok h
    obtain ⟨x, rfl⟩ := am_isI_ok hp
    exact lv_iload hx hb hdg (hl.2.2 _ _ hg) (k ls hl)
  case fload_n n =>
    obtain ⟨v, hg, hp, rfl, rfl, rfl⟩ := am_ld_ok h
    obtain ⟨x, rfl⟩ := am_isF_ok hp
    exact lv_fload_n hx hb hdg rfl (hl.2.2 _ _ hg) (k ls hl)
  case fload n =>
    obtain ⟨v, hg, hp, rfl, rfl, rfl⟩ := am_ld_ok h
    obtain ⟨x, rfl⟩ := am_isF_ok hp
    exact lv_fload hx hb hdg (hl.2.2 _ _ hg) (k ls hl)
  case lload_n n =>
    obtain ⟨v, hg, hp, rfl, rfl, rfl⟩ := am_ld_ok h
    obtain ⟨x, rfl⟩ := am_isL_ok hp
    exact lv_lload_n hx hb hdg rfl (hl.2.2 _ _ hg) (k ls hl)
  case lload n =>
    obtain ⟨v, hg, hp, rfl, rfl, rfl⟩ := am_ld_ok h
    obtain ⟨x, rfl⟩ := am_isL_ok hp
    exact lv_lload hx hb hdg (hl.2.2 _ _ hg) (k ls hl)
  case dload_n n =>
    obtain ⟨v, hg, hp, rfl, rfl, rfl⟩ := am_ld_ok h
    obtain ⟨x, rfl⟩ := am_isD_ok hp
    exact lv_dload_n hx hb hdg rfl (hl.2.2 _ _ hg) (k ls hl)
  case dload n =>
    obtain ⟨v, hg, hp, rfl, rfl, rfl⟩ := am_ld_ok h
    obtain ⟨x, rfl⟩ := am_isD_ok hp
    exact lv_dload hx hb hdg (hl.2.2 _ _ hg) (k ls hl)
  case aload_n n =>
    obtain ⟨v, hg, hp, rfl, rfl, rfl⟩ := am_ld_ok h
    obtain ⟨x, rfl⟩ := am_isA_ok hp
    exact lv_aload_n hx hb hdg rfl (hl.2.2 _ _ hg) (k ls hl)
  case aload n =>
    obtain ⟨v, hg, hp, rfl, rfl, rfl⟩ := am_ld_ok h
    obtain ⟨x, rfl⟩ := am_isA_ok hp
    exact lv_aload hx hb hdg (hl.2.2 _ _ hg) (k ls hl)
  case istore_n n =>
    obtain ⟨v, rfl, hp, hi, hok, rfl, rfl⟩ := am_s1_ok h
    obtain ⟨x, rfl⟩ := am_isI_ok hp
    obtain ⟨ls', e', h'⟩ := am_store1 (v := .int x) hl hi rfl hok
    have e' : storeLocals ls n.val (.int x) = some ls' := e'
    intro T hT X
    obtain ⟨t, a, b⟩ := k ls' h' T hT X
    refine ⟨t, ?_, b⟩
    show Steps p.tables e below (T.setTop (F0 m pc ls (.int x :: st'.map (am_v ad)))) t
    jvm_step X.here [X.here.top, ↓top_set X.here.top, hx, hb, hdg, e']
    exact a
  case istore n =>
    obtain ⟨v, rfl, hp, hi, hok, rfl, rfl⟩ := am_s1_ok h
    obtain ⟨x, rfl⟩ := am_isI_ok hp
    obtain ⟨ls', e', h'⟩ := am_store1 (v := .int x) hl hi rfl hok
    have e' : storeLocals ls n (.int x) = some ls' := e'
    intro T hT X
    obtain ⟨t, a, b⟩ := k ls' h' T hT X
    refine ⟨t, ?_, b⟩
    show Steps p.tables e below (T.setTop (F0 m pc ls (.int x :: st'.map (am_v ad)))) t
    jvm_step X.here [X.here.top, ↓top_set X.here.top, hx, hb, hdg, e']
    exact a
  case fstore_n n =>
    obtain ⟨v, rfl, hp, hi, hok, rfl, rfl⟩ := am_s1_ok h
    obtain ⟨x, rfl⟩ := am_isF_ok hp
    obtain ⟨ls', e', h'⟩ := am_store1 (v := .float x) hl hi rfl hok
    have e' : storeLocals ls n.val (.float x) = some ls' := e'
    intro T hT X
    obtain ⟨t, a, b⟩ := k ls' h' T hT X
    refine ⟨t, ?_, b⟩
    show Steps p.tables e below (T.setTop (F0 m pc ls (.float x :: st'.map (am_v ad)))) t
    jvm_step X.here [X.here.top, ↓top_set X.here.top, hx, hb, hdg, e', Op.fstore_n.sem]
    exact a
  case fstore n =>
    obtain ⟨v, rfl, hp, hi, hok, rfl, rfl⟩ := am_s1_ok h
    obtain ⟨x, rfl⟩ := am_isF_ok hp
    obtain ⟨ls', e', h'⟩ := am_store1 (v := .float x) hl hi rfl hok
    have e' : storeLocals ls n (.float x) = some ls' := e'
    intro T hT X
    obtain ⟨t, a, b⟩ := k ls' h' T hT X
    refine ⟨t, ?_, b⟩
    show Steps p.tables e below (T.setTop (F0 m pc ls (.float x :: st'.map (am_v ad)))) t
    jvm_step X.here [X.here.top, ↓top_set X.here.top, hx, hb, hdg, e', Op.fstore.sem]
    exact a
  case lstore_n n =>
    obtain ⟨v, rfl, hp, hi, hok, rfl, rfl⟩ := am_s2_ok h
    obtain ⟨x, rfl⟩ := am_isL_ok hp
    obtain ⟨ls', e', h'⟩ := am_store2 (v := .long x) hl hi rfl hok
    have e' : storeLocals ls n.val (.long x) = some ls' := e'
    intro T hT X
    obtain ⟨t, a, b⟩ := k ls' h' T hT X
    refine ⟨t, ?_, b⟩
    show Steps p.tables e below (T.setTop (F0 m pc ls (.long x :: st'.map (am_v ad)))) t
    jvm_step X.here [X.here.top, ↓top_set X.here.top, hx, hb, hdg, e']
    exact a
  case lstore n =>
    obtain ⟨v, rfl, hp, hi, hok, rfl, rfl⟩ := am_s2_ok h
    obtain ⟨x, rfl⟩ := am_isL_ok hp
    obtain ⟨ls', e', h'⟩ := am_store2 (v := .long x) hl hi rfl hok
    have e' : storeLocals ls n (.long x) = some ls' := e'
    intro T hT X
    obtain ⟨t, a, b⟩ := k ls' h' T hT X
    refine ⟨t, ?_, b⟩
    show Steps p.tables e below (T.setTop (F0 m pc ls (.long x :: st'.map (am_v ad)))) t
    jvm_step X.here [X.here.top, ↓top_set X.here.top, hx, hb, hdg, e']
    exact a
  case dstore_n n =>
    obtain ⟨v, rfl, hp, hi, hok, rfl, rfl⟩ := am_s2_ok h
    obtain ⟨x, rfl⟩ := am_isD_ok hp
    obtain ⟨ls', e', h'⟩ := am_store2 (v := .double x) hl hi rfl hok
    have e' : storeLocals ls n.val (.double x) = some ls' := e'
    intro T hT X
    obtain ⟨t, a, b⟩ := k ls' h' T hT X
    refine ⟨t, ?_, b⟩
    show Steps p.tables e below (T.setTop (F0 m pc ls (.double x :: st'.map (am_v ad)))) t
    jvm_step X.here [X.here.top, ↓top_set X.here.top, hx, hb, hdg, e', Op.dstore_n.sem]
    exact a
  case dstore n =>
    obtain ⟨v, rfl, hp, hi, hok, rfl, rfl⟩ := am_s2_ok h
    obtain ⟨x, rfl⟩ := am_isD_ok hp
    obtain ⟨ls', e', h'⟩ := am_store2 (v := .double x) hl hi rfl hok
    have e' : storeLocals ls n (.double x) = some ls' := e'
    intro T hT X
    obtain ⟨t, a, b⟩ := k ls' h' T hT X
    refine ⟨t, ?_, b⟩
    show Steps p.tables e below (T.setTop (F0 m pc ls (.double x :: st'.map (am_v ad)))) t
    jvm_step X.here [X.here.top, ↓top_set X.here.top, hx, hb, hdg, e', Op.dstore.sem]
    exact a
  case astore_n n =>
    obtain ⟨v, rfl, hp, hi, hok, rfl, rfl⟩ := am_s1_ok h
    obtain ⟨x, rfl⟩ := am_isA_ok hp
    obtain ⟨ls', e', h'⟩ := am_store1 (v := .ref x) hl hi rfl hok
    have e' : storeLocals ls n.val (.ref (ad x)) = some ls' := e'
    intro T hT X
    obtain ⟨t, a, b⟩ := k ls' h' T hT X
    refine ⟨t, ?_, b⟩
    show Steps p.tables e below (T.setTop (F0 m pc ls (.ref (ad x) :: st'.map (am_v ad)))) t
    jvm_step X.here [X.here.top, ↓top_set X.here.top, hx, hb, hdg, e', Value.isRef]
    exact a
  case astore n =>
    obtain ⟨v, rfl, hp, hi, hok, rfl, rfl⟩ := am_s1_ok h
    obtain ⟨x, rfl⟩ := am_isA_ok hp
    obtain ⟨ls', e', h'⟩ := am_store1 (v := .ref x) hl hi rfl hok
    have e' : storeLocals ls n (.ref (ad x)) = some ls' := e'
    intro T hT X
    obtain ⟨t, a, b⟩ := k ls' h' T hT X
    refine ⟨t, ?_, b⟩
    show Steps p.tables e below (T.setTop (F0 m pc ls (.ref (ad x) :: st'.map (am_v ad)))) t
    jvm_step X.here [X.here.top, ↓top_set X.here.top, hx, hb, hdg, e', Value.isRef]
    exact a
  case iconst n =>
    cases h
    exact lv_iconst hx hb hdg rfl (k ls hl)
  case bipush n =>
    cases h
    exact lv_bipush hx hb hdg rfl (k ls hl)
  case sipush n =>
    cases h
    exact lv_sipush hx hb hdg rfl (k ls hl)
  case lconst n =>
    cases h
    exact lv_lconst hx hb hdg rfl (k ls hl)
  case iadd =>
    obtain ⟨x, y, r, rfl, rfl, rfl, rfl⟩ := am_b_ok h
    exact lv_iadd hx hb hdg (k ls hl)
  case isub =>
    obtain ⟨x, y, r, rfl, rfl, rfl, rfl⟩ := am_b_ok h
    exact lv_isub hx hb hdg (k ls hl)
  case imul =>
    obtain ⟨x, y, r, rfl, rfl, rfl, rfl⟩ := am_b_ok h
    exact lv_imul hx hb hdg (k ls hl)
  case iand =>
    obtain ⟨x, y, r, rfl, rfl, rfl, rfl⟩ := am_b_ok h
    exact lv_iand hx hb hdg (k ls hl)
  case ior =>
    obtain ⟨x, y, r, rfl, rfl, rfl, rfl⟩ := am_b_ok h
    exact lv_ior hx hb hdg (k ls hl)
  case ixor =>
    obtain ⟨x, y, r, rfl, rfl, rfl, rfl⟩ := am_b_ok h
    exact lv_ixor hx hb hdg (k ls hl)
  case ishl =>
    obtain ⟨x, y, r, rfl, rfl, rfl, rfl⟩ := am_b_ok h
    exact lv_ishl hx hb hdg (k ls hl)
  case ishr =>
    obtain ⟨x, y, r, rfl, rfl, rfl, rfl⟩ := am_b_ok h
    exact lv_ishr hx hb hdg (k ls hl)
  case ladd =>
    obtain ⟨x, y, r, rfl, rfl, rfl, rfl⟩ := am_bl_ok h
    exact lv_ladd hx hb hdg (k ls hl)
  case lmul =>
    obtain ⟨x, y, r, rfl, rfl, rfl, rfl⟩ := am_bl_ok h
    exact lv_lmul hx hb hdg (k ls hl)
  case i2l =>
    obtain ⟨x, r, rfl, rfl, rfl, rfl⟩ := am_u_ok h
    exact lv_i2l hx hb hdg rfl (k ls hl)
  case i2c =>
    obtain ⟨x, r, rfl, rfl, rfl, rfl⟩ := am_u_ok h
    exact lv_i2c hx hb hdg rfl (k ls hl)
  case i2f =>
    obtain ⟨x, r, rfl, rfl, rfl, rfl⟩ := am_u_ok h
    exact lv_i2f hx hb hdg (k ls hl)
  case i2d =>
    obtain ⟨x, r, rfl, rfl, rfl, rfl⟩ := am_u_ok h
    exact lv_i2d hx hb hdg (k ls hl)
  case lcmp =>
    simp only [am_i] at h
    split at h
    · cases h
      exact W.lcmp hx hb hdg (k ls hl)
    · cases h
  case fcmp op =>
    simp only [am_i] at h
    split at h
    · cases h
      exact lv_fcmp hx hb hdg (k ls hl)
    · cases h
  case dcmp op =>
    simp only [am_i] at h
    split at h
    · cases h
      exact lv_dcmp hx hb hdg (k ls hl)
    · cases h
  case dup =>
    simp only [am_i] at h
    split at h
    · rename_i v r
      by_cases hc : (v.category == 1) = true
      · rw [if_pos hc] at h
        cases h
        exact lv_dup hx hb hdg ((am_v_cat ad v).trans (eq_of_beq hc)) (k ls hl)
      · rw [if_neg hc] at h
        cases h
    · cases h
  case dup2 =>
    simp only [am_i] at h
    split at h
    · rename_i v w r
      by_cases hc : (v.category == 1 && w.category == 1) = true
      · rw [if_pos hc] at h
        simp only [Bool.and_eq_true] at hc
        cases h
        exact lv_dup2_11 hx hb hdg ((am_v_cat ad v).trans (eq_of_beq hc.1)) ((am_v_cat ad w).trans (eq_of_beq hc.2)) (k ls hl)
      · rw [if_neg hc] at h
        cases h
    · cases h
  case pop =>
    simp only [am_i] at h
    split at h
    · rename_i v r
      by_cases hc : (v.category == 1) = true
      · rw [if_pos hc] at h
        cases h
        exact lv_pop hx hb hdg ((am_v_cat ad v).trans (eq_of_beq hc)) (k ls hl)
      · rw [if_neg hc] at h
        cases h
    · cases h
  case goto off =>
    simp only [am_i] at h
    by_cases hc : 0 ≤ (pc : Int) + off
    · rw [if_pos hc] at h
      cases h
      exact lv_goto hx hb hdg (Int.toNat_of_nonneg hc).symm (k ls hl)
    · rw [if_neg hc] at h
      cases h
  case iinc q n =>
    simp only [am_i] at h
    split at h
    · rename_i x hg
      by_cases hc : (decide (q < nL) && am_ok1 L q) = true
      · rw [if_pos hc] at h
        simp only [Bool.and_eq_true, decide_eq_true_eq] at hc
        cases h
        obtain ⟨ls', e', h'⟩ := am_store1 (v := .int (x + Int32.ofInt n)) hl hc.1 rfl hc.2
        have e' : storeLocals ls q (.int (x + Int32.ofInt n)) = some ls' := e'
        have hg' : ls[q]? = some (.val (.int x)) := hl.2.2 q _ hg
        intro T hT X
        obtain ⟨t, a, b⟩ := k ls' h' T hT X
        refine ⟨t, ?_, b⟩
        jvm_step X.here [X.here.top, ↓top_set X.here.top, hx, hb, hdg, hg', e']
        exact a
      · rw [if_neg hc] at h
        cases h
    · cases h
  all_goals exact absurd (show (none : Option (Nat × List (Option Value) × List Value)) = some (pc', L', st') from h) (by intro q; cases q)
end AMS
end
section
/-! ===== AM2: the world as a table of numbers. V c k: what field k of the object c, or place k of the array c, holds; shapes and references are fixed ===== -/
/-- a cell's shape: an object (class number, for each field none: a number, some d: the object d), or an array (number of its class, length; numbers, floats (true), or references told by place and number) -/
abbrev am_Sh : Type := (Nat × List (Option Nat)) ⊕ (Nat × Nat × (Bool ⊕ (Nat → Int32 → Option Nat)))
def am_fv (ad : Nat → Nat) (x : Int32) : Option Nat → Value
  | none => .int x
  | some c => .ref (ad c)
/-- the same with cells' numbers for addresses -/
def am_fw (x : Int32) : Option Nat → Value
  | none => .int x
  | some c => .ref c
theorem am_fw_v (ad : Nat → Nat) (x : Int32) (o : Option Nat) : am_v ad (am_fw x o) = am_fv ad x o := by cases o <;> rfl
def am_fs (ad : Nat → Nat) (f : Nat → Int32) : Nat → List (Option Nat) → List Value
  | _, [] => []
  | j, o :: r => am_fv ad (f j) o :: am_fs ad f (j + 1) r
theorem am_fs_get (ad : Nat → Nat) (f : Nat → Int32) : ∀ (os : List (Option Nat)) (j k : Nat), (am_fs ad f j os)[k]? = (os[k]?).map (am_fv ad (f (j + k)))
  | [], _, _ => by simp [am_fs]
  | o :: r, j, 0 => by simp [am_fs]
  | o :: r, j, k + 1 => by
    simp only [am_fs, List.getElem?_cons_succ]
    rw [am_fs_get ad f r (j + 1) k, show j + 1 + k = j + (k + 1) by omega]
theorem am_fs_len (ad : Nat → Nat) (f : Nat → Int32) : ∀ (os : List (Option Nat)) (j : Nat), (am_fs ad f j os).length = os.length
  | [], _ => rfl
  | o :: r, j => by simp [am_fs, am_fs_len ad f r (j + 1)]
theorem am_fs_set {ad : Nat → Nat} {f : Nat → Int32} {os : List (Option Nat)} {k : Nat} (h : os[k]? = some none) (x : Int32) : (am_fs ad f 0 os).set k (.int x) = am_fs ad (upd f k x) 0 os := by
  apply List.ext_getElem?
  intro i
  rw [am_fs_get, List.getElem?_set, am_fs_len, am_fs_get]
  by_cases e : k = i
  · subst e
    have hl : k < os.length := (List.getElem?_eq_some_iff.mp h).1
    rw [if_pos rfl, if_pos hl, h]
    simp [am_fv, upd]
  · rw [if_neg e, Nat.zero_add]
    have : upd f k x i = f i := by simp [upd, Ne.symm e]
    rw [this]
def am_e (dA : Nat → ClassId) (ad : Nat → Nat) (f : Nat → Int32) : am_Sh → va_E
  | .inl (ci, os) => .inr (ci, am_fs ad f 0 os)
  | .inr (t, n, .inl false) => .inl (dA t, n, .inl f)
  | .inr (t, n, .inl true) => .inl (dA t, n, .inr (.inr (.inl (fun j => (f j).toUInt32))))
  | .inr (t, n, .inr g) => .inl (dA t, n, .inr (.inr (.inr (.inr (fun j => (g j (f j)).map ad)))))
abbrev am_V : Type := Nat → Nat → Int32
def am_set (V : am_V) (c k : Nat) (x : Int32) : am_V := fun d => if d = c then upd (V c) k x else V d
theorem am_set_at (V : am_V) (c k : Nat) (x : Int32) : am_set V c k x c = upd (V c) k x := if_pos rfl
theorem am_set_ne (V : am_V) {c d : Nat} (k : Nat) (x : Int32) (h : d ≠ c) : am_set V c k x d = V d := if_neg h
theorem am_set_get (V : am_V) (c k : Nat) (x : Int32) (d j : Nat) : am_set V c k x d j = if d = c ∧ j = k then x else V d j := by
  by_cases h : d = c
  · subst h
    rw [am_set_at]
    by_cases h2 : j = k <;> simp [upd, h2]
  · rw [am_set_ne _ _ _ h]
    simp [h]
/-- what is fixed for a claim: the classes, the words, the shapes, which cells may be written, the arrays' types -/
abbrev am_X : Type := List vw_C × List Cond × (Nat → Option am_Sh) × (Nat → Bool) × (Nat → FieldType)
def am_cl (X : am_X) : List vw_C := X.1
def am_WS (X : am_X) : List Cond := X.2.1
def am_sh (X : am_X) : Nat → Option am_Sh := X.2.2.1
def am_wr (X : am_X) : Nat → Bool := X.2.2.2.1
def am_tA (X : am_X) : Nat → FieldType := X.2.2.2.2
/-- what a run finds: the classes' numbers, the array classes', the addresses, the state at the law's start -/
abbrev am_U : Type := va_G × (Nat → ClassId) × (Nat → Nat) × State
def am_D (U : am_U) : va_G := U.1
def am_dA (U : am_U) : Nat → ClassId := U.2.1
def am_ad (U : am_U) : Nat → Nat := U.2.2.1
def am_s0 (U : am_U) : State := U.2.2.2
/-- a method's walk -/
abbrev am_G : Type := Launch × Program × Env × Room × State × MethodId × Array Value × List Frame × Method × Code
def am_gl (G : am_G) : Launch := G.1
def am_gp (G : am_G) : Program := G.2.1
def am_ge (G : am_G) : Env := G.2.2.1
def am_gR (G : am_G) : Room := G.2.2.2.1
def am_gs (G : am_G) : State := G.2.2.2.2.1
def am_gm (G : am_G) : MethodId := G.2.2.2.2.2.1
def am_ga (G : am_G) : Array Value := G.2.2.2.2.2.2.1
def am_gb (G : am_G) : List Frame := G.2.2.2.2.2.2.2.1
def am_gt (G : am_G) : Method := G.2.2.2.2.2.2.2.2.1
def am_gc (G : am_G) : Code := G.2.2.2.2.2.2.2.2.2
def am_H (X : am_X) (U : am_U) (V : am_V) (H : Heap) : Prop :=
  (∀ (c : Nat) (x : am_Sh), am_sh X c = some x → va_at (am_D U) (am_cl X) (am_ad U c, am_e (am_dA U) (am_ad U) (V c) x) H) ∧
  (am_s0 U).heap.size ≤ H.size ∧ ∀ q : Nat, q < (am_s0 U).heap.size → H[q]? = (am_s0 U).heap[q]?
def am_base (X : am_X) (U : am_U) : Prop :=
  va_K (am_D U) (am_cl X) [] (am_s0 U) ∧ (∀ t : Nat, t < 8 → ArrOfT (am_s0 U) (am_dA U t) (am_tA X t) ∧ va_RA (am_s0 U) (am_dA U t) (am_tA X t)) ∧
  (∀ (c d : Nat) (x y : am_Sh), am_sh X c = some x → am_sh X d = some y → am_wr X d = true → am_ad U c = am_ad U d → c = d) ∧
  (∀ (c : Nat) (x : am_Sh), am_sh X c = some x → am_wr X c = true → (am_s0 U).heap.size ≤ am_ad U c)
def am_ok (X : am_X) (U : am_U) (G : am_G) (own : String) (cc : ByteArray) (nL : Nat) : Prop :=
  (am_gp G).tables.exec = Jvm.exec ∧ (am_gc G).code = cc ∧ (am_gc G).maxLocals = nL ∧ (am_gs G).vm.findClass own = some (am_gm G).cls ∧ (∀ w ∈ am_WS X, w.before (am_ga G) (am_gs G) = true) ∧
  (am_s0 U).vm.Alike (am_gs G).vm ∧ am_base X U ∧ (am_gt G).locks = false
def am_W (G : am_G) (H : Heap) (locs : List Loc) (kc ks : Nat) (Q : State → Prop) (g : JFrame) : Prop :=
  W (am_gp G) (am_gl G) (am_ge G) (am_gR G) (am_gs G) (am_gm G) (am_ga G) (am_gb G) (am_gt G) (am_gc G) H locs kc ks Q g
/-- the goal: from here, with these locals, this stack and this table, the machine comes to a state with Q -/
def AW (X : am_X) (U : am_U) (G : am_G) (nL kc ks : Nat) (V : am_V) (Q : State → Prop) (pc : Nat) (L : List (Option Value)) (st : List Value) : Prop :=
  ∀ (H : Heap) (locs : List Loc) (ls : Array Slot), am_H X U V H → (am_gs G).heap.size ≤ H.size → (∀ q ∈ locs, (am_s0 U).heap.size ≤ q.base) → am_l (am_ad U) nL L ls →
    am_W G H locs kc ks Q (F0 (am_gm G) pc ls (st.map (am_v (am_ad U))))
def am_dec (cc : ByteArray) (t : List (Nat × Instr × Nat)) : Prop := ∀ x ∈ t, decode cc x.1 = .ok (x.2.1, x.2.2)
def am_run (nL : Nat) : List (Nat × Instr × Nat) → Nat → List (Option Value) → List Value → Option (Nat × List (Option Value) × List Value)
  | [], pc, L, st => some (pc, L, st)
  | (q, i, n) :: r, pc, L, st => if (q == pc && n == am_len i) = true then (am_i nL i pc L st).bind (fun x => am_run nL r x.1 x.2.1 x.2.2) else none
section AMR
variable {X : am_X} {U : am_U} {G : am_G} {own : String} {cc : ByteArray} {nL kc ks pc pc' : Nat} {V : am_V} {Q : State → Prop} {L L' : List (Option Value)} {st st' : List Value}
theorem AW.step {i : Instr} {n : Nat} (ok : am_ok X U G own cc nL) (hdg : decode cc pc = .ok (i, n)) (hn : n = am_len i) (h : am_i nL i pc L st = some (pc', L', st')) (k : AW X U G nL kc ks V Q pc' L' st') : AW X U G nL kc ks V Q pc L st := by
  subst hn
  intro H locs ls hH hz hlo hl
  exact am_i_ok ok.1 ok.2.1 hdg h hl (fun ls' hl' => k H locs ls' hH hz hlo hl')
theorem AW.runs (ok : am_ok X U G own cc nL) : ∀ (t : List (Nat × Instr × Nat)), am_dec cc t → ∀ (pc : Nat) (L : List (Option Value)) (st : List Value), am_run nL t pc L st = some (pc', L', st') → AW X U G nL kc ks V Q pc' L' st' → AW X U G nL kc ks V Q pc L st
  | [], _, pc, L, st, h, k => by
    cases h
    exact k
  | (q, i, n) :: r, hd, pc, L, st, h, k => by
    simp only [am_run] at h
    by_cases hc : (q == pc && n == am_len i) = true
    · rw [if_pos hc] at h
      simp only [Bool.and_eq_true, beq_iff_eq] at hc
      cases hi : am_i nL i pc L st with
      | none => rw [hi] at h; cases h
      | some x =>
        obtain ⟨p1, L1, s1⟩ := x
        rw [hi] at h
        have hdg := hd (q, i, n) List.mem_cons_self
        rw [hc.1] at hdg
        exact AW.step ok hdg hc.2 hi (AW.runs ok r (fun x hx => hd x (List.mem_cons_of_mem _ hx)) p1 L1 s1 h k)
    · rw [if_neg hc] at h
      cases h
/-- a stretch of a method's table: n rows from the a-th on -/
theorem AW.run {t : List (Nat × Instr × Nat)} (ok : am_ok X U G own cc nL) (hd : am_dec cc t) (a n : Nat) (h : am_run nL ((t.drop a).take n) pc L st = some (pc', L', st')) (k : AW X U G nL kc ks V Q pc' L' st') : AW X U G nL kc ks V Q pc L st :=
  AW.runs ok _ (fun x hx => hd x (List.mem_of_mem_drop (List.mem_of_mem_take hx))) pc L st h k
/-- a row of the table -/
theorem am_at {t : List (Nat × Instr × Nat)} (hd : am_dec cc t) (a : Nat) {i : Instr} {n : Nat} (h : t[a]? = some (pc, i, n)) : decode cc pc = .ok (i, n) := hd (pc, i, n) (List.mem_of_getElem? h)
def am_cnd : Jvm.ClassFile.Cond → Int32 → Int32 → Prop
  | .eq, x, y => x = y
  | .ne, x, y => ¬ x = y
  | .lt, x, y => x < y
  | .ge, x, y => y ≤ x
  | .gt, x, y => y < x
  | .le, x, y => x ≤ y
theorem AW.icmp {cond : Jvm.ClassFile.Cond} {off : Int} {x y : Int32} (ok : am_ok X U G own cc nL) (tgt : Nat) (hdg : decode cc pc = .ok (.if_icmp cond off, 3)) (ht : (pc : Int) + off = (tgt : Int)) (kt : am_cnd cond x y → AW X U G nL kc ks V Q tgt L st) (kf : ¬ am_cnd cond x y → AW X U G nL kc ks V Q (pc + 3) L st) :
    AW X U G nL kc ks V Q pc L (.int y :: .int x :: st) := by
  intro H locs ls hH hz hlo hl
  have a1 := fun h => kt h H locs ls hH hz hlo hl
  have a2 := fun h => kf h H locs ls hH hz hlo hl
  cases cond
  · exact lv_icmp_eq ok.1 ok.2.1 hdg ht a1 a2
  · exact lv_icmp_ne ok.1 ok.2.1 hdg ht a1 (fun h => a2 (fun q => q h))
  · exact lv_icmp_lt ok.1 ok.2.1 hdg ht a1 a2
  · exact lv_icmp_ge ok.1 ok.2.1 hdg ht a1 a2
  · exact lv_icmp_gt ok.1 ok.2.1 hdg ht a1 a2
  · exact lv_icmp_le ok.1 ok.2.1 hdg ht a1 a2
theorem AW.ifc {cond : Jvm.ClassFile.Cond} {off : Int} {x : Int32} (ok : am_ok X U G own cc nL) (tgt : Nat) (hdg : decode cc pc = .ok (.ifCond cond off, 3)) (ht : (pc : Int) + off = (tgt : Int)) (kt : am_cnd cond x 0 → AW X U G nL kc ks V Q tgt L st) (kf : ¬ am_cnd cond x 0 → AW X U G nL kc ks V Q (pc + 3) L st) :
    AW X U G nL kc ks V Q pc L (.int x :: st) := by
  intro H locs ls hH hz hlo hl
  have a1 := fun h => kt h H locs ls hH hz hlo hl
  have a2 := fun h => kf h H locs ls hH hz hlo hl
  cases cond
  · exact lv_if_eq ok.1 ok.2.1 hdg ht a1 a2
  · exact lv_if_ne ok.1 ok.2.1 hdg ht a1 (fun h => a2 (fun q => q h))
  · exact lv_if_lt ok.1 ok.2.1 hdg ht a1 a2
  · exact lv_if_ge ok.1 ok.2.1 hdg ht a1 a2
  · exact lv_if_gt ok.1 ok.2.1 hdg ht a1 a2
  · exact lv_if_le ok.1 ok.2.1 hdg ht a1 a2
end AMR
end
section
/-! ===== AM3: fields and arrays ===== -/
theorem am_one {D : va_G} {cl : List vw_C} {q : Nat × va_E} {H : Heap} (h : va_at D cl q H) : va_P D cl [q] H := by
  intro k x hx
  have hl : k < 1 := (List.getElem?_eq_some_iff.mp hx).1
  rw [show k = 0 by omega] at hx
  cases hx
  exact h
/-- a read of a field, by the pool's entry: class ci, field k -/
def am_gf (X : am_X) (own : String) (index ci k : Nat) : Prop := ∃ (C : String) (T : u_T) (N : Nat), (am_cl X)[ci]? = some (C, T, N) ∧ (∀ w ∈ u_ws C T N, w ∈ am_WS X) ∧ k < N ∧ Cond.fieldLink own index (T k).1 (T k).2.1 (T k).2.2.1 ∈ am_WS X
/-- .. and a write of a number, of type ty, the field not final -/
def am_pf (X : am_X) (own : String) (index ci k : Nat) (ty : FieldType) : Prop := ∃ (C : String) (T : u_T) (N : Nat) (ty0 : Nat → FieldType), (am_cl X)[ci]? = some (C, T, N) ∧ (∀ w ∈ u_ws C T N, w ∈ am_WS X) ∧ k < N ∧ Cond.fieldLink own index (T k).1 (T k).2.1 (T k).2.2.1 ∈ am_WS X ∧
  (∀ k, k < N → parseFieldDescriptor (T k).2.2.1 = some (ty0 k)) ∧ (∀ a, a < N → ∀ b, b < N → a ≠ b → (T a).2.1 ≠ (T b).2.1) ∧ (T k).2.2.2 = false ∧ parseFieldDescriptor (T k).2.2.1 = some ty
section AMH
variable {X : am_X} {U : am_U} {G : am_G} {own : String} {cc : ByteArray} {nL kc ks pc pc' : Nat} {V : am_V} {Q : State → Prop} {L L' : List (Option Value)} {st st' : List Value}
theorem am_ok.K (ok : am_ok X U G own cc nL) : va_K (am_D U) (am_cl X) [] (am_gs G) := va_K.moved ok.2.2.2.2.2.1 ok.2.2.2.2.2.2.1.1
theorem am_ok.A (ok : am_ok X U G own cc nL) {t : Nat} (ht : t < 8) : ArrOfT (am_gs G) (am_dA U t) (am_tA X t) := arrOfT_moved ok.2.2.2.2.2.1 (ok.2.2.2.2.2.2.1.2.1 t ht).1
theorem am_ok.RA (ok : am_ok X U G own cc nL) {t : Nat} (ht : t < 8) : va_RA (am_gs G) (am_dA U t) (am_tA X t) := (ok.2.2.2.2.2.2.1.2.1 t ht).2.moved ok.2.2.2.2.2.1
theorem AW.getf {c ci k index : Nat} {os : List (Option Nat)} {o : Option Nat} (ok : am_ok X U G own cc nL) (hf : am_gf X own index ci k) (hsh : am_sh X c = some (.inl (ci, os))) (ho : os[k]? = some o) (hdg : decode cc pc = .ok (.getfield index, 3))
    (kk : AW X U G nL kc ks V Q (pc + 3) L (am_fw (V c k) o :: st)) : AW X U G nL kc ks V Q pc L (.ref c :: st) := by
  intro H locs ls hH hz hlo hl
  obtain ⟨C, T, N, hc, hin, hk, hlink⟩ := hf
  have hP := am_one (hH.1 c _ hsh)
  have hv : (am_fs (am_ad U) (V c) 0 os)[k]? = some (am_fv (am_ad U) (V c k) o) := by rw [am_fs_get, ho, Nat.zero_add]; rfl
  have k2 := kk H locs ls hH hz hlo hl
  rw [List.map_cons, am_fw_v] at k2
  exact va_get (D := am_D U) (ci := ci) (C := C) (T := T) (N := N) (ws := [(am_ad U c, am_e (am_dA U) (am_ad U) (V c) (.inl (ci, os)))]) ok.1 ok.2.1 ok.2.2.2.2.1 hin ok.2.2.2.1 (am_ok.K ok) hP 0 rfl hc k hk (ok.2.2.2.2.1 _ hlink) (fun _ h9 => h9) hv hdg k2
theorem am_H.put {H H1 : Heap} {c : Nat} {x : am_Sh} {f : Nat → Int32} {V1 : am_V} (hb : am_base X U) (hH : am_H X U V H) (hx : am_sh X c = some x) (hw : am_wr X c = true) (hV : V1 c = f) (hV2 : ∀ d, d ≠ c → V1 d = V d)
    (he : va_at (am_D U) (am_cl X) (am_ad U c, am_e (am_dA U) (am_ad U) f x) H1) (hz : H1.size = H.size) (oq : ∀ q, q ≠ am_ad U c → H1[q]? = H[q]?) : am_H X U V1 H1 := by
  refine ⟨fun d y hy => ?_, by rw [hz]; exact hH.2.1, fun q hq => ?_⟩
  · by_cases e : d = c
    · subst e
      cases hx.symm.trans hy
      rw [hV]
      exact he
    · rw [hV2 d e]
      exact (hH.1 d y hy).kept (oq _ (fun q => e (hb.2.2.1 d c y x hy hx hw q)))
  · have h1 := hb.2.2.2 c x hx hw
    rw [oq q (by omega)]
    exact hH.2.2 q hq
theorem am_locs {locs : List Loc} {a i N0 : Nat} (h : ∀ q ∈ locs, N0 ≤ q.base) (ha : N0 ≤ a) : ∀ q ∈ locs ++ [(⟨a, i⟩ : Loc)], N0 ≤ q.base := by
  intro q hq
  rcases List.mem_append.mp hq with h1 | h1
  · exact h q h1
  · rw [List.mem_singleton.mp h1]
    exact ha
theorem AW.putf {c ci k index : Nat} {os : List (Option Nat)} {ty : FieldType} {x : Int32} (ok : am_ok X U G own cc nL) (hf : am_pf X own index ci k ty) (hsh : am_sh X c = some (.inl (ci, os))) (hw : am_wr X c = true) (ho : os[k]? = some none) (hn : narrow ty (.int x) = .int x) (hfit : fits ty (.int x) = true) (hdg : decode cc pc = .ok (.putfield index, 3))
    (kk : AW X U G nL kc ks (am_set V c k x) Q (pc + 3) L st) : AW X U G nL kc ks V Q pc L (.int x :: .ref c :: st) := by
  intro H locs ls hH hz hlo hl
  obtain ⟨C, T, N, ty0, hc, hin, hk, hlink, hty, hnm, hfin, hd⟩ := hf
  have hts := ok.2.2.2.2.1
  have hown := ok.2.2.2.1
  have hK := am_ok.K ok
  have hap := va_apart (own := own) hts hin ty0 hty hnm hK hc
  obtain ⟨r, h1, cell, q1, q2, q3, q4⟩ := hH.1 c _ hsh
  have hr : r = (C, T, N) := Option.some.inj (h1.symm.trans hc)
  subst hr
  obtain ⟨hS, hfc, kC, hkC, hkind⟩ := hK.1 ci _ hc
  obtain ⟨cf, kf, fi, f, hi, hsl⟩ := hS k hk
  have hlay := hts _ (hin _ (u_in_lay hk))
  unfold u_lay at hlay
  rw [if_neg (by rw [hfin]; decide)] at hlay
  have hst := (u_facts hfc hkC (u_lays hts hin hk) hi).1
  have h6 := u_store hfc hkC hkind hlay hi hd hn hfit
  have hle : k < (am_fs (am_ad U) (V c) 0 os).length := by rw [am_fs_len]; exact (List.getElem?_eq_some_iff.mp ho).1
  refine W.putK ok.1 ok.2.1 (f := f) ⟨hown, hts _ hlink, ⟨_, _, _, hi⟩, hst⟩ (by rw [q2]; exact h6) q1 q3 (by rw [hsl]; exact k2_hasslot (q4 k hk)) rfl rfl hdg fun H' e1 e2 e3 => ?_
  rw [hsl] at e1 ⊢
  have hat : va_at (am_D U) (am_cl X) (am_ad U c, am_e (am_dA U) (am_ad U) (upd (V c) k x) (.inl (ci, os))) H' := by
    refine ⟨_, hc, ?_⟩
    show t_OB (am_ad U c) _ _ _ H' (vp_V (am_fs (am_ad U) (upd (V c) k x) 0 os))
    rw [← am_fs_set ho x]
    exact t_OB.to (V := updV (vp_V (am_fs (am_ad U) (V c) 0 os)) k (.int x)) ⟨_, e1, q2, q3, t_set q4 hap hk (.int x)⟩ (fun j _ => vp_updV_set hle (.int x) j)
  exact kk H' _ ls (am_H.put ok.2.2.2.2.2.2.1 hH hsh hw (am_set_at V c k x) (fun d hd => am_set_ne V k x hd) hat e2 e3) (by rw [e2]; exact hz) (am_locs hlo (ok.2.2.2.2.2.2.1.2.2.2 c _ hsh hw)) hl
theorem AW.iald {c t n : Nat} {i : Int32} (ok : am_ok X U G own cc nL) (hsh : am_sh X c = some (.inr (t, n, .inl false))) (ht : t < 8) (hty : am_tA X t = .int) (hin : vp_in i n) (hdg : decode cc pc = .ok (.iaload, 1))
    (kk : AW X U G nL kc ks V Q (pc + 1) L (.int (V c i.toNatClampNeg) :: st)) : AW X U G nL kc ks V Q pc L (.int i :: .ref c :: st) := by
  intro H locs ls hH hz hlo hl
  have hA := am_ok.A ok ht
  rw [hty] at hA
  have hlt : i.toNatClampNeg < n := Nat.not_le.mp fun q => hin (Or.inr q)
  exact W.iald (v := .int (V c i.toNatClampNeg)) ok.1 ok.2.1 (hH.1 c _ hsh) (hA n (fun j => .int (V c j))) (fun q => by cases q) (by show ¬ (i < 0 ∨ (arrV _ _ _).slots.size ≤ _); rw [arrV_size]; exact hin) (by show (arrV _ _ _).slots[_]? = _; rw [arrV_read _ _ hlt]) rfl rfl hdg (kk H locs ls hH hz hlo hl)
theorem AW.cald {c t n : Nat} {i : Int32} (ok : am_ok X U G own cc nL) (hsh : am_sh X c = some (.inr (t, n, .inl false))) (ht : t < 8) (hty : am_tA X t = .char) (hin : vp_in i n) (hdg : decode cc pc = .ok (.caload, 1))
    (kk : AW X U G nL kc ks V Q (pc + 1) L (.int (V c i.toNatClampNeg) :: st)) : AW X U G nL kc ks V Q pc L (.int i :: .ref c :: st) := by
  intro H locs ls hH hz hlo hl
  have hA := am_ok.A ok ht
  rw [hty] at hA
  have hlt : i.toNatClampNeg < n := Nat.not_le.mp fun q => hin (Or.inr q)
  exact W.cald (v := .int (V c i.toNatClampNeg)) ok.1 ok.2.1 (hH.1 c _ hsh) (hA n (fun j => .int (V c j))) (fun q => by cases q) (by show ¬ (i < 0 ∨ (arrV _ _ _).slots.size ≤ _); rw [arrV_size]; exact hin) (by show (arrV _ _ _).slots[_]? = _; rw [arrV_read _ _ hlt]) rfl rfl hdg (kk H locs ls hH hz hlo hl)
theorem AW.fald {c t n : Nat} {i : Int32} (ok : am_ok X U G own cc nL) (hsh : am_sh X c = some (.inr (t, n, .inl true))) (ht : t < 8) (hty : am_tA X t = .float) (hin : vp_in i n) (hdg : decode cc pc = .ok (.faload, 1))
    (kk : AW X U G nL kc ks V Q (pc + 1) L (.float (V c i.toNatClampNeg).toUInt32 :: st)) : AW X U G nL kc ks V Q pc L (.int i :: .ref c :: st) := by
  intro H locs ls hH hz hlo hl
  have hA := am_ok.A ok ht
  rw [hty] at hA
  have hlt : i.toNatClampNeg < n := Nat.not_le.mp fun q => hin (Or.inr q)
  exact W.fald (v := .float (V c i.toNatClampNeg).toUInt32) ok.1 ok.2.1 (hH.1 c _ hsh) (hA n (fun j => .float (V c j).toUInt32)) (fun q => by cases q) (by show ¬ (i < 0 ∨ (arrV _ _ _).slots.size ≤ _); rw [arrV_size]; exact hin) (by show (arrV _ _ _).slots[_]? = _; rw [arrV_read _ _ hlt]) rfl rfl hdg (kk H locs ls hH hz hlo hl)
/-- a reference out of an array of references, not null -/
theorem AW.aald {c t n d : Nat} {i : Int32} {g : Nat → Int32 → Option Nat} {C : FieldType} (ok : am_ok X U G own cc nL) (hsh : am_sh X c = some (.inr (t, n, .inr g))) (ht : t < 8) (hty : am_tA X t = C) (hC : C.isReference = true) (hin : vp_in i n) (hg : g i.toNatClampNeg (V c i.toNatClampNeg) = some d) (hdg : decode cc pc = .ok (.aaload, 1))
    (kk : AW X U G nL kc ks V Q (pc + 1) L (.ref d :: st)) : AW X U G nL kc ks V Q pc L (.int i :: .ref c :: st) := by
  intro H locs ls hH hz hlo hl
  have hA := am_ok.A ok ht
  rw [hty] at hA
  have hlt : i.toNatClampNeg < n := Nat.not_le.mp fun q => hin (Or.inr q)
  exact W.aald (v := .ref (am_ad U d)) (ty := C) ok.1 ok.2.1 (hH.1 c _ hsh) (hA n (fun j => va_rf ((g j (V c j)).map (am_ad U)))) hC (fun q => by cases q) (by show ¬ (i < 0 ∨ (arrV _ _ _).slots.size ≤ _); rw [arrV_size]; exact hin) (by show (arrV _ _ _).slots[_]? = _; rw [arrV_read _ _ hlt]; show some (va_rf ((g i.toNatClampNeg (V c i.toNatClampNeg)).map (am_ad U))) = _; rw [hg]; rfl) rfl rfl hdg (kk H locs ls hH hz hlo hl)
theorem AW.iast {c t n : Nat} {i x : Int32} (ok : am_ok X U G own cc nL) (hsh : am_sh X c = some (.inr (t, n, .inl false))) (hw : am_wr X c = true) (ht : t < 8) (hty : am_tA X t = .int) (hin : vp_in i n) (hdg : decode cc pc = .ok (.iastore, 1))
    (kk : AW X U G nL kc ks (am_set V c i.toNatClampNeg x) Q (pc + 1) L st) : AW X U G nL kc ks V Q pc L (.int x :: .int i :: .ref c :: st) := by
  intro H locs ls hH hz hlo hl
  have hA := am_ok.A ok ht
  rw [hty] at hA
  refine W.iast ok.1 ok.2.1 (hH.1 c _ hsh) (hA n (fun j => .int (V c j))) (fun q => by cases q) (by show ¬ (i < 0 ∨ (arrV _ _ _).slots.size ≤ _); rw [arrV_size]; exact hin) rfl rfl hdg fun H1 e z oq => ?_
  have hat : va_at (am_D U) (am_cl X) (am_ad U c, am_e (am_dA U) (am_ad U) (upd (V c) i.toNatClampNeg x) (.inr (t, n, .inl false))) H1 := by
    show H1[am_ad U c]? = some (vp_cell (am_dA U t) (n, .inl (upd (V c) i.toNatClampNeg x)))
    have e : H1[am_ad U c]? = some ((vp_cell (am_dA U t) (n, .inl (V c))).setSlot i.toNatClampNeg (.int x)) := e
    rw [e, vp_cell_i, vp_cell_i, arrV_store]
    congr 2
    funext q
    by_cases hq : q = i.toNatClampNeg
    · subst hq
      simp [updV, upd]
    · simp [updV, upd, hq]
  exact kk H1 _ ls (am_H.put ok.2.2.2.2.2.2.1 hH hsh hw (am_set_at V c _ x) (fun d hd => am_set_ne V _ x hd) hat z oq) (by rw [z]; exact hz) (am_locs hlo (ok.2.2.2.2.2.2.1.2.2.2 c _ hsh hw)) hl
theorem AW.cast {c t n : Nat} {i x : Int32} (ok : am_ok X U G own cc nL) (hsh : am_sh X c = some (.inr (t, n, .inl false))) (hw : am_wr X c = true) (ht : t < 8) (hty : am_tA X t = .char) (hin : vp_in i n) (hx : narrow .char (.int x) = .int x) (hdg : decode cc pc = .ok (.castore, 1))
    (kk : AW X U G nL kc ks (am_set V c i.toNatClampNeg x) Q (pc + 1) L st) : AW X U G nL kc ks V Q pc L (.int x :: .int i :: .ref c :: st) := by
  intro H locs ls hH hz hlo hl
  have hA := am_ok.A ok ht
  rw [hty] at hA
  refine W.cast ok.1 ok.2.1 (hH.1 c _ hsh) (hA n (fun j => .int (V c j))) (fun q => by cases q) (by show ¬ (i < 0 ∨ (arrV _ _ _).slots.size ≤ _); rw [arrV_size]; exact hin) rfl rfl hdg fun H1 e z oq => ?_
  rw [hx] at e
  have hat : va_at (am_D U) (am_cl X) (am_ad U c, am_e (am_dA U) (am_ad U) (upd (V c) i.toNatClampNeg x) (.inr (t, n, .inl false))) H1 := by
    show H1[am_ad U c]? = some (vp_cell (am_dA U t) (n, .inl (upd (V c) i.toNatClampNeg x)))
    have e : H1[am_ad U c]? = some ((vp_cell (am_dA U t) (n, .inl (V c))).setSlot i.toNatClampNeg (.int x)) := e
    rw [e, vp_cell_i, vp_cell_i, arrV_store]
    congr 2
    funext q
    by_cases hq : q = i.toNatClampNeg
    · subst hq
      simp [updV, upd]
    · simp [updV, upd, hq]
  exact kk H1 _ ls (am_H.put ok.2.2.2.2.2.2.1 hH hsh hw (am_set_at V c _ x) (fun d hd => am_set_ne V _ x hd) hat z oq) (by rw [z]; exact hz) (am_locs hlo (ok.2.2.2.2.2.2.1.2.2.2 c _ hsh hw)) hl
theorem AW.fast {c t n : Nat} {i : Int32} {x : UInt32} (ok : am_ok X U G own cc nL) (hsh : am_sh X c = some (.inr (t, n, .inl true))) (hw : am_wr X c = true) (ht : t < 8) (hty : am_tA X t = .float) (hin : vp_in i n) (hdg : decode cc pc = .ok (.fastore, 1))
    (kk : AW X U G nL kc ks (am_set V c i.toNatClampNeg x.toInt32) Q (pc + 1) L st) : AW X U G nL kc ks V Q pc L (.float x :: .int i :: .ref c :: st) := by
  intro H locs ls hH hz hlo hl
  have hA := am_ok.A ok ht
  rw [hty] at hA
  refine W.fast ok.1 ok.2.1 (hH.1 c _ hsh) (hA n (fun j => .float (V c j).toUInt32)) (fun q => by cases q) (by show ¬ (i < 0 ∨ (arrV _ _ _).slots.size ≤ _); rw [arrV_size]; exact hin) rfl rfl hdg fun H1 e z oq => ?_
  have hat : va_at (am_D U) (am_cl X) (am_ad U c, am_e (am_dA U) (am_ad U) (upd (V c) i.toNatClampNeg x.toInt32) (.inr (t, n, .inl true))) H1 := by
    show H1[am_ad U c]? = some (vp_cell (am_dA U t) (n, .inr (.inr (.inl (fun j => (upd (V c) i.toNatClampNeg x.toInt32 j).toUInt32)))))
    have e : H1[am_ad U c]? = some ((vp_cell (am_dA U t) (n, .inr (.inr (.inl (fun j => (V c j).toUInt32))))).setSlot i.toNatClampNeg (.float x)) := e
    rw [e, vp_cell_f, vp_cell_f, arrV_store]
    congr 2
    funext q
    by_cases hq : q = i.toNatClampNeg
    · subst hq
      simp [updV, upd]
    · simp [updV, upd, hq]
  exact kk H1 _ ls (am_H.put ok.2.2.2.2.2.2.1 hH hsh hw (am_set_at V c _ _) (fun d hd => am_set_ne V _ _ hd) hat z oq) (by rw [z]; exact hz) (am_locs hlo (ok.2.2.2.2.2.2.1.2.2.2 c _ hsh hw)) hl
end AMH
end
