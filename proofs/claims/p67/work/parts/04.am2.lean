section AMS
variable {p : Program} {l : Launch} {e : Env} {R : Room} {s : State} {m : MethodId} {args : Array Value} {below : List Frame} {meth : Method} {c : Code} {H : Heap} {locs : List Loc} {cells slots : Nat} {Q : State → Prop}
variable {cc : ByteArray} {ad : Nat → Nat} {nL pc pc' : Nat} {L L' : List (Option Value)} {st st' : List Value} {ls : Array Slot}
set_option maxHeartbeats 4000000 in
set_option maxRecDepth 100000 in
theorem am_i_ok {i : Instr} (hx : p.tables.exec = Jvm.exec) (hb : c.code = cc) (hdg : decode cc pc = .ok (i, am_len i)) (h : am_i nL i pc L st = some (pc', L', st')) (hl : am_l ad nL L ls)
    (k : ∀ ls' : Array Slot, am_l ad nL L' ls' → W p l e R s m args below meth c H locs cells slots Q (F0 m pc' ls' (st'.map (am_v ad)))) : W p l e R s m args below meth c H locs cells slots Q (F0 m pc ls (st.map (am_v ad))) := by
  cases i
  case iload_n n =>
    obtain ⟨v, hg, hp, rfl, rfl, rfl⟩ := am_ld_ok h
    obtain ⟨x, rfl⟩ := am_isI_ok hp
    exact lv_iload_n hx hb hdg rfl (hl.2.2 _ _ hg) (k ls hl)
  case iload n =>
    obtain ⟨v, hg, hp, rfl, rfl, rfl⟩ := am_ld_ok h
    obtain ⟨x, rfl⟩ := am_isI_ok hp
    exact lv_iload hx hb hdg (hl.2.2 _ _ hg) (k ls hl)
  case fload_n n =>
    obtain ⟨v, hg, hp, rfl, rfl, rfl⟩ := am_ld_ok h
    obtain ⟨x, rfl⟩ := am_isF_ok hp
    exact lv_fload_n hx hb hdg rfl (hl.2.2 _ _ hg) (k ls hl)
  case fload n =>
    obtain ⟨v, hg, hp, rfl, rfl, rfl⟩ := am_ld_ok h
    obtain ⟨x, rfl⟩ := am_isF_ok hp
    exact lv_fload hx hb hdg (hl.2.2 _ _ hg) (k ls hl)
  case lload_n n =>
    obtain ⟨v, hg, hp, rfl, rfl, rfl⟩ := am_ld_ok h
    obtain ⟨x, rfl⟩ := am_isL_ok hp
    exact lv_lload_n hx hb hdg rfl (hl.2.2 _ _ hg) (k ls hl)
  case lload n =>
    obtain ⟨v, hg, hp, rfl, rfl, rfl⟩ := am_ld_ok h
    obtain ⟨x, rfl⟩ := am_isL_ok hp
    exact lv_lload hx hb hdg (hl.2.2 _ _ hg) (k ls hl)
  case dload_n n =>
    obtain ⟨v, hg, hp, rfl, rfl, rfl⟩ := am_ld_ok h
    obtain ⟨x, rfl⟩ := am_isD_ok hp
    exact lv_dload_n hx hb hdg rfl (hl.2.2 _ _ hg) (k ls hl)
  case dload n =>
    obtain ⟨v, hg, hp, rfl, rfl, rfl⟩ := am_ld_ok h
    obtain ⟨x, rfl⟩ := am_isD_ok hp
    exact lv_dload hx hb hdg (hl.2.2 _ _ hg) (k ls hl)
  case aload_n n =>
    obtain ⟨v, hg, hp, rfl, rfl, rfl⟩ := am_ld_ok h
    obtain ⟨x, rfl⟩ := am_isA_ok hp
    exact lv_aload_n hx hb hdg rfl (hl.2.2 _ _ hg) (k ls hl)
  case aload n =>
    obtain ⟨v, hg, hp, rfl, rfl, rfl⟩ := am_ld_ok h
    obtain ⟨x, rfl⟩ := am_isA_ok hp
    exact lv_aload hx hb hdg (hl.2.2 _ _ hg) (k ls hl)
  case istore_n n =>
    obtain ⟨v, rfl, hp, hi, hok, rfl, rfl⟩ := am_s1_ok h
    obtain ⟨x, rfl⟩ := am_isI_ok hp
    obtain ⟨ls', e', h'⟩ := am_store1 (v := .int x) hl hi rfl hok
    have e' : storeLocals ls n.val (.int x) = some ls' := e'
    intro T hT X
    obtain ⟨t, a, b⟩ := k ls' h' T hT X
    refine ⟨t, ?_, b⟩
    show Steps p.tables e below (T.setTop (F0 m pc ls (.int x :: st'.map (am_v ad)))) t
    jvm_step X.here [X.here.top, ↓top_set X.here.top, hx, hb, hdg, e']
    exact a
  case istore n =>
    obtain ⟨v, rfl, hp, hi, hok, rfl, rfl⟩ := am_s1_ok h
    obtain ⟨x, rfl⟩ := am_isI_ok hp
    obtain ⟨ls', e', h'⟩ := am_store1 (v := .int x) hl hi rfl hok
    have e' : storeLocals ls n (.int x) = some ls' := e'
    intro T hT X
    obtain ⟨t, a, b⟩ := k ls' h' T hT X
    refine ⟨t, ?_, b⟩
    show Steps p.tables e below (T.setTop (F0 m pc ls (.int x :: st'.map (am_v ad)))) t
    jvm_step X.here [X.here.top, ↓top_set X.here.top, hx, hb, hdg, e']
    exact a
  case fstore_n n =>
    obtain ⟨v, rfl, hp, hi, hok, rfl, rfl⟩ := am_s1_ok h
    obtain ⟨x, rfl⟩ := am_isF_ok hp
    obtain ⟨ls', e', h'⟩ := am_store1 (v := .float x) hl hi rfl hok
    have e' : storeLocals ls n.val (.float x) = some ls' := e'
    intro T hT X
    obtain ⟨t, a, b⟩ := k ls' h' T hT X
    refine ⟨t, ?_, b⟩
    show Steps p.tables e below (T.setTop (F0 m pc ls (.float x :: st'.map (am_v ad)))) t
    jvm_step X.here [X.here.top, ↓top_set X.here.top, hx, hb, hdg, e', Op.fstore_n.sem]
    exact a
  case fstore n =>
    obtain ⟨v, rfl, hp, hi, hok, rfl, rfl⟩ := am_s1_ok h
    obtain ⟨x, rfl⟩ := am_isF_ok hp
    obtain ⟨ls', e', h'⟩ := am_store1 (v := .float x) hl hi rfl hok
    have e' : storeLocals ls n (.float x) = some ls' := e'
    intro T hT X
    obtain ⟨t, a, b⟩ := k ls' h' T hT X
    refine ⟨t, ?_, b⟩
    show Steps p.tables e below (T.setTop (F0 m pc ls (.float x :: st'.map (am_v ad)))) t
    jvm_step X.here [X.here.top, ↓top_set X.here.top, hx, hb, hdg, e', Op.fstore.sem]
    exact a
  case lstore_n n =>
    obtain ⟨v, rfl, hp, hi, hok, rfl, rfl⟩ := am_s2_ok h
    obtain ⟨x, rfl⟩ := am_isL_ok hp
    obtain ⟨ls', e', h'⟩ := am_store2 (v := .long x) hl hi rfl hok
    have e' : storeLocals ls n.val (.long x) = some ls' := e'
    intro T hT X
    obtain ⟨t, a, b⟩ := k ls' h' T hT X
    refine ⟨t, ?_, b⟩
    show Steps p.tables e below (T.setTop (F0 m pc ls (.long x :: st'.map (am_v ad)))) t
    jvm_step X.here [X.here.top, ↓top_set X.here.top, hx, hb, hdg, e']
    exact a
  case lstore n =>
    obtain ⟨v, rfl, hp, hi, hok, rfl, rfl⟩ := am_s2_ok h
    obtain ⟨x, rfl⟩ := am_isL_ok hp
    obtain ⟨ls', e', h'⟩ := am_store2 (v := .long x) hl hi rfl hok
    have e' : storeLocals ls n (.long x) = some ls' := e'
    intro T hT X
    obtain ⟨t, a, b⟩ := k ls' h' T hT X
    refine ⟨t, ?_, b⟩
    show Steps p.tables e below (T.setTop (F0 m pc ls (.long x :: st'.map (am_v ad)))) t
    jvm_step X.here [X.here.top, ↓top_set X.here.top, hx, hb, hdg, e']
    exact a
  case dstore_n n =>
    obtain ⟨v, rfl, hp, hi, hok, rfl, rfl⟩ := am_s2_ok h
    obtain ⟨x, rfl⟩ := am_isD_ok hp
    obtain ⟨ls', e', h'⟩ := am_store2 (v := .double x) hl hi rfl hok
    have e' : storeLocals ls n.val (.double x) = some ls' := e'
    intro T hT X
    obtain ⟨t, a, b⟩ := k ls' h' T hT X
    refine ⟨t, ?_, b⟩
    show Steps p.tables e below (T.setTop (F0 m pc ls (.double x :: st'.map (am_v ad)))) t
    jvm_step X.here [X.here.top, ↓top_set X.here.top, hx, hb, hdg, e', Op.dstore_n.sem]
    exact a
  case dstore n =>
    obtain ⟨v, rfl, hp, hi, hok, rfl, rfl⟩ := am_s2_ok h
    obtain ⟨x, rfl⟩ := am_isD_ok hp
    obtain ⟨ls', e', h'⟩ := am_store2 (v := .double x) hl hi rfl hok
    have e' : storeLocals ls n (.double x) = some ls' := e'
    intro T hT X
    obtain ⟨t, a, b⟩ := k ls' h' T hT X
    refine ⟨t, ?_, b⟩
    show Steps p.tables e below (T.setTop (F0 m pc ls (.double x :: st'.map (am_v ad)))) t
    jvm_step X.here [X.here.top, ↓top_set X.here.top, hx, hb, hdg, e', Op.dstore.sem]
    exact a
  case astore_n n =>
    obtain ⟨v, rfl, hp, hi, hok, rfl, rfl⟩ := am_s1_ok h
    obtain ⟨x, rfl⟩ := am_isA_ok hp
    obtain ⟨ls', e', h'⟩ := am_store1 (v := .ref x) hl hi rfl hok
    have e' : storeLocals ls n.val (.ref (ad x)) = some ls' := e'
    intro T hT X
    obtain ⟨t, a, b⟩ := k ls' h' T hT X
    refine ⟨t, ?_, b⟩
    show Steps p.tables e below (T.setTop (F0 m pc ls (.ref (ad x) :: st'.map (am_v ad)))) t
    jvm_step X.here [X.here.top, ↓top_set X.here.top, hx, hb, hdg, e', Value.isRef]
    exact a
  case astore n =>
    obtain ⟨v, rfl, hp, hi, hok, rfl, rfl⟩ := am_s1_ok h
    obtain ⟨x, rfl⟩ := am_isA_ok hp
    obtain ⟨ls', e', h'⟩ := am_store1 (v := .ref x) hl hi rfl hok
    have e' : storeLocals ls n (.ref (ad x)) = some ls' := e'
    intro T hT X
    obtain ⟨t, a, b⟩ := k ls' h' T hT X
    refine ⟨t, ?_, b⟩
    show Steps p.tables e below (T.setTop (F0 m pc ls (.ref (ad x) :: st'.map (am_v ad)))) t
    jvm_step X.here [X.here.top, ↓top_set X.here.top, hx, hb, hdg, e', Value.isRef]
    exact a
  case iconst n =>
    cases h
    exact lv_iconst hx hb hdg rfl (k ls hl)
  case bipush n =>
    cases h
    exact lv_bipush hx hb hdg rfl (k ls hl)
  case sipush n =>
    cases h
    exact lv_sipush hx hb hdg rfl (k ls hl)
  case lconst n =>
    cases h
    exact lv_lconst hx hb hdg rfl (k ls hl)
  case iadd =>
    obtain ⟨x, y, r, rfl, rfl, rfl, rfl⟩ := am_b_ok h
    exact lv_iadd hx hb hdg (k ls hl)
  case isub =>
    obtain ⟨x, y, r, rfl, rfl, rfl, rfl⟩ := am_b_ok h
    exact lv_isub hx hb hdg (k ls hl)
  case imul =>
    obtain ⟨x, y, r, rfl, rfl, rfl, rfl⟩ := am_b_ok h
    exact lv_imul hx hb hdg (k ls hl)
  case iand =>
    obtain ⟨x, y, r, rfl, rfl, rfl, rfl⟩ := am_b_ok h
    exact lv_iand hx hb hdg (k ls hl)
  case ior =>
    obtain ⟨x, y, r, rfl, rfl, rfl, rfl⟩ := am_b_ok h
    exact lv_ior hx hb hdg (k ls hl)
  case ixor =>
    obtain ⟨x, y, r, rfl, rfl, rfl, rfl⟩ := am_b_ok h
    exact lv_ixor hx hb hdg (k ls hl)
  case ishl =>
    obtain ⟨x, y, r, rfl, rfl, rfl, rfl⟩ := am_b_ok h
    exact lv_ishl hx hb hdg (k ls hl)
  case ishr =>
    obtain ⟨x, y, r, rfl, rfl, rfl, rfl⟩ := am_b_ok h
    exact lv_ishr hx hb hdg (k ls hl)
  case iushr =>
    obtain ⟨x, y, r, rfl, rfl, rfl, rfl⟩ := am_b_ok h
    exact lv_iushr hx hb hdg rfl (k ls hl)
  case ladd =>
    obtain ⟨x, y, r, rfl, rfl, rfl, rfl⟩ := am_bl_ok h
    exact lv_ladd hx hb hdg (k ls hl)
  case lmul =>
    obtain ⟨x, y, r, rfl, rfl, rfl, rfl⟩ := am_bl_ok h
    exact lv_lmul hx hb hdg (k ls hl)
  case i2l =>
    obtain ⟨x, r, rfl, rfl, rfl, rfl⟩ := am_u_ok h
    exact lv_i2l hx hb hdg rfl (k ls hl)
  case i2c =>
    obtain ⟨x, r, rfl, rfl, rfl, rfl⟩ := am_u_ok h
    exact lv_i2c hx hb hdg rfl (k ls hl)
  case i2f =>
    obtain ⟨x, r, rfl, rfl, rfl, rfl⟩ := am_u_ok h
    exact lv_i2f hx hb hdg (k ls hl)
  case i2d =>
    obtain ⟨x, r, rfl, rfl, rfl, rfl⟩ := am_u_ok h
    exact lv_i2d hx hb hdg (k ls hl)
  case lcmp =>
    simp only [am_i] at h
    split at h
    · cases h
      exact W.lcmp hx hb hdg (k ls hl)
    · cases h
  case fcmp op =>
    simp only [am_i] at h
    split at h
    · cases h
      exact lv_fcmp hx hb hdg (k ls hl)
    · cases h
  case dcmp op =>
    simp only [am_i] at h
    split at h
    · cases h
      exact lv_dcmp hx hb hdg (k ls hl)
    · cases h
  case dup =>
    simp only [am_i] at h
    split at h
    · rename_i v r
      by_cases hc : (v.category == 1) = true
      · rw [if_pos hc] at h
        cases h
        exact lv_dup hx hb hdg ((am_v_cat ad v).trans (eq_of_beq hc)) (k ls hl)
      · rw [if_neg hc] at h
        cases h
    · cases h
  case dup2 =>
    simp only [am_i] at h
    split at h
    · rename_i v w r
      by_cases hc : (v.category == 1 && w.category == 1) = true
      · rw [if_pos hc] at h
        simp only [Bool.and_eq_true] at hc
        cases h
        exact lv_dup2_11 hx hb hdg ((am_v_cat ad v).trans (eq_of_beq hc.1)) ((am_v_cat ad w).trans (eq_of_beq hc.2)) (k ls hl)
      · rw [if_neg hc] at h
        cases h
    · cases h
  case pop =>
    simp only [am_i] at h
    split at h
    · rename_i v r
      by_cases hc : (v.category == 1) = true
      · rw [if_pos hc] at h
        cases h
        exact lv_pop hx hb hdg ((am_v_cat ad v).trans (eq_of_beq hc)) (k ls hl)
      · rw [if_neg hc] at h
        cases h
    · cases h
  case goto off =>
    simp only [am_i] at h
    by_cases hc : 0 ≤ (pc : Int) + off
    · rw [if_pos hc] at h
      cases h
      exact lv_goto hx hb hdg (Int.toNat_of_nonneg hc).symm (k ls hl)
    · rw [if_neg hc] at h
      cases h
  case iinc q n =>
    simp only [am_i] at h
    split at h
    · rename_i x hg
      by_cases hc : (decide (q < nL) && am_ok1 L q) = true
      · rw [if_pos hc] at h
        simp only [Bool.and_eq_true, decide_eq_true_eq] at hc
        cases h
        obtain ⟨ls', e', h'⟩ := am_store1 (v := .int (x + Int32.ofInt n)) hl hc.1 rfl hc.2
        have e' : storeLocals ls q (.int (x + Int32.ofInt n)) = some ls' := e'
        have hg' : ls[q]? = some (.val (.int x)) := hl.2.2 q _ hg
        intro T hT X
        obtain ⟨t, a, b⟩ := k ls' h' T hT X
        refine ⟨t, ?_, b⟩
        jvm_step X.here [X.here.top, ↓top_set X.here.top, hx, hb, hdg, hg', e']
        exact a
      · rw [if_neg hc] at h
        cases h
    · cases h
  all_goals exact absurd (show (none : Option (Nat × List (Option Value) × List Value)) = some (pc', L', st') from h) (by intro q; cases q)
end AMS
