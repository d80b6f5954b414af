/-! ===== a tree found in the order of costs ===== -/
section
variable {fs sn co : Nat → Nat} {E : Nat → Bool} {n m c j : Nat}
theorem done_skip (h : E j = false ∨ co j ≠ c) (q : Nat) : doneE co E c j q = doneE co E c (j + 1) q := by
  unfold doneE
  by_cases e : q = j
  · subst e
    rcases h with h | h
    · rw [h]; rfl
    · simp [h]
  · have : q < j ↔ q < j + 1 := by omega
    simp [this]
theorem done_add (h : E j = true) (h2 : co j = c) (q : Nat) : (doneE co E c j q || decide (q = j)) = doneE co E c (j + 1) q := by
  unfold doneE
  by_cases e : q = j
  · subst e
    simp [h, h2]
  · have : q < j ↔ q < j + 1 := by omega
    simp [this, e]
theorem done_bef {p : Nat} (h : co p = c) (q : Nat) : befE co E p q = doneE co E c p q := by
  unfold befE doneE
  rw [h]
theorem done_row (h : ∀ q, E q = true → q < m) (q : Nat) : doneE co E c m q = doneE co E (c + 1) 0 q := by
  unfold doneE
  cases e : E q with
  | false => rfl
  | true =>
    have := h q e
    have h1 : (co q < c ∨ co q = c ∧ q < m) ↔ (co q < c + 1 ∨ co q = c + 1 ∧ q < 0) := by omega
    rw [Bool.eq_iff_iff]
    simpa using h1
theorem done_0 (h : ∀ q, E q = true → 1 ≤ co q) (q : Nat) : doneE co E 1 0 q = false := by
  unfold doneE
  cases e : E q with
  | false => rfl
  | true =>
    have := h q e
    have h2 : ¬ co q < 1 := by omega
    simp [h2]
theorem done_all (h : ∀ q, E q = true → co q < c) (q : Nat) : doneE co E c 0 q = E q := by
  unfold doneE
  cases e : E q with
  | false => rfl
  | true => simp [h q e]
theorem doneE_le {q : Nat} (h : doneE co E c j q = true) : E q = true := by
  unfold doneE at h
  simp only [Bool.and_eq_true] at h
  exact h.1
theorem kru_ex (hE : ∀ q, E q = true → q < m ∧ fs q < n ∧ sn q < n ∧ 1 ≤ co q) : ∀ c, ∃ lab ch, kru fs sn co E n m (doneE co E (c + 1) 0) lab ch := by
  intro c
  induction c with
  | zero => exact ⟨_, _, kru_congr kru_0 fun q => (done_0 (fun q hq => (hE q hq).2.2.2) q).symm⟩
  | succ c ih =>
    have inner : ∀ j, ∃ lab ch, kru fs sn co E n m (doneE co E (c + 1) j) lab ch := by
      intro j
      induction j with
      | zero => exact ih
      | succ j ih2 =>
        obtain ⟨lab, ch, h⟩ := ih2
        by_cases e : E j = true ∧ co j = c + 1
        · have h1 := hE j e.1
          have := kru_step (lab' := fun v => if lab v = lab (sn j) then lab (fs j) else lab v) h1.1 e.1 h1.2.1 h1.2.2.1 (fun q => doneE_le) (done_bef e.2) h (fun v _ => rfl)
          exact ⟨_, _, kru_congr this (done_add e.1 e.2)⟩
        · refine ⟨lab, ch, kru_congr h (done_skip ?_)⟩
          by_cases e2 : E j = true
          · exact Or.inr fun k => e ⟨e2, k⟩
          · exact Or.inl (by simpa using e2)
    obtain ⟨lab, ch, h⟩ := inner m
    exact ⟨lab, ch, kru_congr h (done_row fun q hq => (hE q hq).1)⟩
end
/-- the paths of the tree of r -/
def trP (N : nT) (r p : Nat) : Prop := n_op N p = true ∧ ¬ conn (n_fs N) (n_sn N) (befE (n_co N) (n_op N) p) (n_fs N p) (n_sn N p) ∧ conn (n_fs N) (n_sn N) (n_op N) r (n_fs N p)
noncomputable def trB (N : nT) (r p : Nat) : Bool := @decide (trP N r p) (Classical.propDecidable _)
theorem trB_t {N : nT} {r p : Nat} : trB N r p = true ↔ trP N r p := by unfold trB; simp
theorem kru_N {N : nT} (hw : wN N) : ∃ lab ch, kru (n_fs N) (n_sn N) (n_co N) (n_op N) (n_ft N) (n_pt N) (n_op N) lab ch := by
  obtain ⟨lab, ch, h⟩ := kru_ex (fs := n_fs N) (sn := n_sn N) (co := n_co N) (E := n_op N) (n := n_ft N) (m := n_pt N) (fun q hq => by
    have h1 := n_opE hw q hq
    exact ⟨h1.1, h1.2.1, h1.2.2.1, (hw.2.2.2.2.1 q h1.1).2.2.2.1⟩) 9
  exact ⟨lab, ch, kru_congr h (done_all fun q hq => (hw.2.2.2.2.1 q (n_op_lt hq)).2.2.2.2.1)⟩
theorem kru_trB {N : nT} (hw : wN N) {r : Nat} (hr : r < n_ft N) {lab : Nat → Nat} {ch : Nat → Bool} (h : kru (n_fs N) (n_sn N) (n_co N) (n_op N) (n_ft N) (n_pt N) (n_op N) lab ch) (p : Nat) (hp : p < n_pt N) : trB N r p = true ↔ ch p = true ∧ lab (n_fs N p) = lab r := by
  have hk := kru_end (fun q hq => (n_opE hw q hq).2 |> fun x => ⟨x.1, x.2.1⟩) hr h
  have hb := hw.2.2.2.2.1 p hp
  rw [trB_t, h.2.2.1 p, hk.2 _ hb.1]
  exact ⟨fun q => ⟨⟨q.1, q.2.1⟩, q.2.2⟩, fun q => ⟨q.1.1, q.1.2, q.2⟩⟩
/-- the tree that is grown is the tree that is found in order -/
theorem tree_N {N : nT} (hw : wN N) {r : Nat} (hr : r < n_ft N) : (∀ v, v < n_ft N → (inT (treeF N r) v = true ↔ conn (n_fs N) (n_sn N) (n_op N) r v)) ∧
    (∀ v, inT (treeF N r) v = true → v ≠ r → t_pu (treeF N r) v < n_pt N ∧ trB N r (t_pu (treeF N r) v) = true ∧ inT (treeF N r) (t_pa (treeF N r) v) = true ∧ t_pa (treeF N r) v < n_ft N ∧ t_de (treeF N r) v = t_de (treeF N r) (t_pa (treeF N r) v) + 1 ∧
      ((n_sn N (t_pu (treeF N r) v) = v ∧ n_fs N (t_pu (treeF N r) v) = t_pa (treeF N r) v) ∨ (n_fs N (t_pu (treeF N r) v) = v ∧ n_sn N (t_pu (treeF N r) v) = t_pa (treeF N r) v))) ∧
    cnt (trB N r) (n_pt N) + 1 = cnt (inT (treeF N r)) (n_ft N) ∧
    sumN (fun v => if t_pu (treeF N r) v = 4294967295 then 0 else n_co N (t_pu (treeF N r) v)) (n_ft N) = sumN (fun p => if trB N r p = true then n_co N p else 0) (n_pt N) := by
  have w2 := hw.2.1
  have hg := gI_all hw hr (n_ft N - 1)
  rw [show growF N r (n_ft N - 1) = treeF N r from rfl] at hg
  obtain ⟨lab, ch, hk⟩ := kru_N hw
  obtain ⟨⟨P, hP⟩, g2, g3, g4, g5⟩ := hg
  obtain ⟨e1, e2⟩ := prim_end (fun q hq => ⟨(n_opE hw q hq).1, (n_opE hw q hq).2.1, (n_opE hw q hq).2.2.1⟩) hr hP (gI_end hw hr) hk
  have e3 : ∀ p, p < n_pt N → trB N r p = P p := fun p hp => by
    have h1 := kru_trB hw hr hk p hp
    have h2 := e2 p hp
    cases hb : P p with
    | true => rw [h1, ← h2, hb]
    | false =>
      cases hc : trB N r p with
      | false => rfl
      | true =>
        have := h2.mpr (h1.mp hc)
        rw [hb] at this; cases this
  refine ⟨e1, fun v hv hne => ?_, ?_, ?_⟩
  · obtain ⟨q1, q2, q3, q4, q5, q6, q7⟩ := hP.2.2.1 v (g4 v hv).1 hv hne
    exact ⟨q1, by rw [e3 _ q1]; exact q3, q4, q5, q6, q7⟩
  · rw [cnt_congr (q := P) (n_pt N) e3]
    exact hP.2.2.2.2.1
  · rw [sumN_congr (g := fun p => if P p = true then n_co N p else 0) (n_pt N) (fun p hp => by rw [e3 p hp]), ← hP.2.2.2.2.2.1]
    refine sumN_congr _ fun v hv => ?_
    cases hb : inT (treeF N r) v with
    | false => rw [if_pos (g3 v (Or.inl hb)).2, if_neg (by simp)]
    | true =>
      by_cases hvr : v = r
      · rw [if_pos (g3 v (Or.inr hvr)).2, if_neg (by simp [hvr])]
      · have := (hP.2.2.1 v hv hb hvr).1
        rw [if_neg (by omega), if_pos ⟨rfl, hvr⟩]
theorem sum10 {f : Nat → Nat} : ∀ n, (∀ j, j < n → f j < 10) → sumN f n ≤ 10 * n := by
  intro n
  induction n with
  | zero => exact fun _ => Nat.le_refl _
  | succ n ih =>
    intro h
    have h1 := ih fun j hj => h j (by omega)
    have h2 := h n (by omega)
    rw [sumN]
    omega
section
variable {V : am_V} {i t : Nat} {N : nT}
set_option maxHeartbeats 1000000 in
theorem s_costGrown (ht : t = 20 ∨ t = 30) (hN : vN V i N) (hw : wN N) {r : Nat} (hr : r < n_ft N) : TI (d_X7_costGrown t i (nI r) V) (fun x W => frT t V W ∧ x = nI (sumN (fun p => if trB N r p = true then n_co N p else 0) (n_pt N))) := by
  have w1 := hw.1
  have w2 := hw.2.1
  have tn := tree_N hw hr
  have hg := gI_all hw hr (n_ft N - 1)
  rw [show growF N r (n_ft N - 1) = treeF N r from rfl] at hg
  have hpu : ∀ v, t_pu (treeF N r) v = 4294967295 ∨ t_pu (treeF N r) v < n_pt N := fun v => by
    cases hb : inT (treeF N r) v with
    | false => exact Or.inl (hg.2.2.1 v (Or.inl hb)).2
    | true =>
      by_cases e : v = r
      · exact Or.inl (hg.2.2.1 v (Or.inr e)).2
      · exact Or.inr (tn.2.1 v hb e).1
  rw [← tn.2.2.2, TI.T]
  unfold d_X7_costGrown
  refine TT.U (s_grow ht hN hw hr) ?_
  rintro W ⟨f1, f2⟩
  have hN1 := vN_fT ht hN f1
  refine lr_X7_costGrown_11 (I := fun n9 a k V9 => V9 = W ∧ ∃ j, a = nI (sumN (fun v => if t_pu (treeF N r) v = 4294967295 then 0 else n_co N (t_pu (treeF N r) v)) j) ∧ k = nI j ∧ n9 = n_ft N - j ∧ j ≤ n_ft N) ?_ (n_ft N) 1000 (by omega) _ _ W ⟨rfl, 0, rfl, rfl, rfl, Nat.zero_le _⟩
  rintro n9 kr hkr a k V9 ⟨rfl, j, rfl, rfl, rfl, j1⟩
  unfold bd_X7_costGrown_11
  simp (disch := omega) only [hN1.2.1, i_leE]
  by_cases hj : n_ft N ≤ j
  · rw [if_pos hj]
    have e : j = n_ft N := by omega
    subst e
    exact TT.ret ⟨_, rfl, f1, rfl⟩
  · rw [if_neg hj]
    have es : sumN (fun v => if t_pu (treeF N r) v = 4294967295 then 0 else n_co N (t_pu (treeF N r) v)) (j + 1) = sumN (fun v => if t_pu (treeF N r) v = 4294967295 then 0 else n_co N (t_pu (treeF N r) v)) j + (if t_pu (treeF N r) j = 4294967295 then 0 else n_co N (t_pu (treeF N r) j)) := rfl
    simp (disch := omega) only [rGi, iNn, rB, i_add1, f2.2.1 j (by omega)]
    rcases hpu j with h | h
    · rw [h, if_pos m1_nI.symm]
      refine hkr (n_ft N - (j + 1)) (by omega) _ _ _ ⟨rfl, j + 1, ?_, rfl, rfl, by omega⟩
      rw [es, if_pos h]
      rfl
    · rw [if_neg (by rw [i_eqM (by omega)]; omega)]
      simp (disch := omega) only [rGi, iNn, hN1.2.2.2.2.2.2.1]
      rw [nI_add]
      refine hkr (n_ft N - (j + 1)) (by omega) _ _ _ ⟨rfl, j + 1, ?_, rfl, rfl, by omega⟩
      rw [es, if_neg (by omega)]
set_option maxHeartbeats 1000000 in
theorem s_join (ht : t = 20 ∨ t = 30) (hN : vN V i N) (hw : wN N) {lab : Nat → Nat} (hl : rowN V (t + 5) 9 lab) (hb : ∀ v, v < n_ft N → lab v < n_ft N) {p : Nat} (hp : p < n_pt N) :
    TI (d_X7_joinLabels t i (nI p) V) (fun x W => frT t V W ∧ x = bI (decide (lab (n_fs N p) ≠ lab (n_sn N p))) ∧ ∃ lab', rowN W (t + 5) 9 lab' ∧ joined (n_ft N) (lab (n_fs N p)) (lab (n_sn N p)) lab lab') := by
  have w1 := hw.1
  have w2 := hw.2.1
  obtain ⟨b1, b2, b3, b4, b5, b6⟩ := hw.2.2.2.2.1 p hp
  have l1 := hb _ b1
  have l2 := hb _ b2
  rw [TI.T]
  unfold d_X7_joinLabels
  simp (disch := omega) only [rGi, iNn, hN.2.2.2.2.1, hN.2.2.2.2.2.1, hl _ (show n_fs N p < 9 by omega), hl _ (show n_sn N p < 9 by omega), rB, i_eqE]
  refine lr_X7_joinLabels_28 (I := fun n9 k V9 => ∃ (j : Nat) (lab' : Nat → Nat), k = nI j ∧ n9 = n_ft N - j ∧ j ≤ n_ft N ∧ frT t V V9 ∧ rowN V9 (t + 5) 9 lab' ∧ (∀ v, v < j → lab' v = if lab v = lab (n_sn N p) then lab (n_fs N p) else lab v) ∧ ∀ v, j ≤ v → lab' v = lab v) ?_ (n_ft N) 1000 (by omega) _ V ⟨0, lab, rfl, rfl, Nat.zero_le _, frT.r t V, hl, fun v hv => by omega, fun v _ => rfl⟩
  rintro n9 kr hkr k V9 ⟨j, lab', rfl, rfl, j1, h0, h1, h2, h3⟩
  have hN9 := vN_fT ht hN h0
  unfold bd_X7_joinLabels_28
  simp (disch := omega) only [hN9.2.1, i_leE]
  by_cases hj : n_ft N ≤ j
  · rw [if_pos hj]
    have e : j = n_ft N := by omega
    subst e
    by_cases h : lab (n_fs N p) = lab (n_sn N p)
    · rw [if_pos h, nb0, rGt]
      exact TT.ret ⟨_, rfl, h0, by simp [h, bIf], lab', h1, h2⟩
    · rw [if_neg h, nb1, rGt]
      exact TT.ret ⟨_, rfl, h0, by simp [h, bIt], lab', h1, h2⟩
  · rw [if_neg hj]
    have lj := hb j (by omega)
    simp (disch := omega) only [rGi, iNn, rB, i_add1, hN.2.2.2.2.1, hN.2.2.2.2.2.1, h1 j (by omega), h3 j (Nat.le_refl _), hl _ (show n_fs N p < 9 by omega), hl _ (show n_sn N p < 9 by omega), i_eqE, rV]
    by_cases h : lab j = lab (n_sn N p)
    · rw [if_neg (by simp [h])]
      refine hkr (n_ft N - (j + 1)) (by omega) _ _ ⟨j + 1, fun x => if x = j then lab (n_fs N p) else lab' x, rfl, rfl, by omega, h0.t (frT.s (by omega)), rowN_set h1, fun v hv => ?_, fun v hv => ?_⟩
      · by_cases e : v = j
        · simp only [if_pos e]; rw [e, if_pos h]
        · simp only [if_neg e]; exact h2 v (by omega)
      · simp only [if_neg (show ¬ v = j by omega)]; exact h3 v (by omega)
    · rw [if_pos h]
      refine hkr (n_ft N - (j + 1)) (by omega) _ _ ⟨j + 1, lab', rfl, rfl, by omega, h0, h1, fun v hv => ?_, fun v hv => h3 v (by omega)⟩
      by_cases e : v = j
      · rw [e, if_neg h]; exact h3 j (Nat.le_refl _)
      · exact h2 v (by omega)
theorem pow16 {a : Nat} (h : a < 16) : 2 ^ a < 65536 := Nat.pow_lt_pow_right (n := 16) (by omega) h
theorem or16 {r a : Nat} (hr : r < 65536) (h : a < 16) : r ||| 2 ^ a < 65536 := Nat.or_lt_two_pow (n := 16) hr (pow16 h)
set_option maxHeartbeats 1000000 in
theorem s_only (hN : vN V i N) (hw : wN N) {lab : Nat → Nat} (hl : rowN V (t + 5) 9 lab) (hb : ∀ v, v < n_ft N → lab v < n_ft N) {r mk : Nat} (hr : r < n_ft N) (hm : mk < 65536) :
    TI (d_X7_onlyAround t i (nI r) (nI mk) V) (fun x W => W = V ∧ ∃ k, x = nI k ∧ k < 65536 ∧ ∀ p, k.testBit p = true ↔ p < n_pt N ∧ mk.testBit p = true ∧ lab (n_fs N p) = lab r) := by
  have w1 := hw.1
  have w2 := hw.2.1
  rw [TI.T]
  unfold d_X7_onlyAround
  refine lr_X7_onlyAround_6 (I := fun n9 a k V9 => V9 = V ∧ ∃ j o, a = nI o ∧ k = nI j ∧ n9 = n_pt N - j ∧ j ≤ n_pt N ∧ o < 65536 ∧ ∀ p, o.testBit p = true ↔ p < j ∧ mk.testBit p = true ∧ lab (n_fs N p) = lab r) ?_ (n_pt N) 1000 (by omega) _ _ V ⟨rfl, 0, 0, rfl, rfl, rfl, Nat.zero_le _, by omega, fun p => by simp⟩
  rintro n9 kr hkr a k V9 ⟨rfl, j, o, rfl, rfl, rfl, j1, o1, o2⟩
  unfold bd_X7_onlyAround_6
  simp (disch := omega) only [hN.2.2.1, i_leE]
  by_cases hj : n_pt N ≤ j
  · rw [if_pos hj]
    have e : j = n_pt N := by omega
    subst e
    exact TT.ret ⟨_, rfl, rfl, o, rfl, o1, o2⟩
  · rw [if_neg hj, q_hasBit V9 (by omega) (by omega)]
    have hjm : j < n_pt N := by omega
    obtain ⟨b1, b2, b3, b4, b5, b6⟩ := hw.2.2.2.2.1 j hjm
    have l1 := hb _ b1
    have l2 := hb _ hr
    simp (disch := omega) only [rI_ret, rB, bI0, i_add1, rGi, iNn, hN.2.2.2.2.1, hl _ (show n_fs N j < 9 by omega), hl _ (show r < 9 by omega), i_eqE, i_shl1, i_or]
    have stay : ¬ (mk.testBit j = true ∧ lab (n_fs N j) = lab r) → TT (kr (nI o) (nI (j + 1)) V9) (fun x W => ∃ y, x = .inl (some (.int y)) ∧ W = V9 ∧ ∃ k, y = nI k ∧ k < 65536 ∧ ∀ p, k.testBit p = true ↔ p < n_pt N ∧ mk.testBit p = true ∧ lab (n_fs N p) = lab r) := by
      intro hn
      refine hkr (n_pt N - (j + 1)) (by omega) _ _ _ ⟨rfl, j + 1, o, rfl, rfl, rfl, by omega, o1, fun p => ?_⟩
      rw [o2 p]
      by_cases e : p = j
      · rw [e]
        exact ⟨fun h => (hn h.2).elim, fun h => (hn h.2).elim⟩
      · have : p < j ↔ p < j + 1 := by omega
        rw [this]
    cases hbt : mk.testBit j with
    | false =>
      rw [if_pos rfl]
      exact stay (by simp [hbt])
    | true =>
      rw [if_neg (by decide)]
      by_cases h : lab (n_fs N j) = lab r
      · rw [if_neg (by simp [h])]
        refine hkr (n_pt N - (j + 1)) (by omega) _ _ _ ⟨rfl, j + 1, o ||| 2 ^ j, rfl, rfl, rfl, by omega, or16 o1 (by omega), fun p => ?_⟩
        rw [tb_or1, Bool.or_eq_true, o2 p, decide_eq_true_eq]
        by_cases e : p = j
        · rw [e]
          exact ⟨fun _ => ⟨by omega, hbt, h⟩, fun _ => Or.inr rfl⟩
        · have : p < j ↔ p < j + 1 := by omega
          rw [this]
          exact ⟨fun q => q.elim id fun q => (e q).elim, Or.inl⟩
      · rw [if_pos h]
        exact stay (by simp [h])
set_option maxHeartbeats 2000000 in
theorem s_choose (ht : t = 20 ∨ t = 30) (hN : vN V i N) (hw : wN N) {r : Nat} (hr : r < n_ft N) : TI (d_X7_chooseInOrder t i (nI r) V) (fun x W => frT t V W ∧ ∃ k, x = nI k ∧ k < 65536 ∧ ∀ p, p < n_pt N → k.testBit p = trB N r p) := by
  have w1 := hw.1
  have w2 := hw.2.1
  have hEn := n_opE hw
  rw [TI.T]
  unfold d_X7_chooseInOrder
  refine lr_X7_chooseInOrder_2 (I := fun n9 k V9 => ∃ j, k = nI j ∧ n9 = 9 - j ∧ j ≤ 9 ∧ frT t V V9 ∧ rowN V9 (t + 5) j (fun v => v)) ?_ 9 1000 (by omega) _ V ⟨0, rfl, rfl, by omega, frT.r t V, fun x hx => by omega⟩
  rintro n9 kr hkr k V9 ⟨j, rfl, rfl, j1, h0, h1⟩
  unfold bd_X7_chooseInOrder_2
  simp (disch := omega) only [i_leE, rGi, iNn, rV, i_add1]
  by_cases hj : 9 ≤ j
  · rw [if_pos hj]
    have e : j = 9 := by omega
    subst e
    refine lr_X7_chooseInOrder_26 (I := fun n9 a k V8 => ∃ (c mk : Nat) (lab : Nat → Nat) (ch : Nat → Bool), a = nI mk ∧ k = nI c ∧ n9 = 10 - c ∧ 1 ≤ c ∧ c ≤ 10 ∧ frT t V V8 ∧ rowN V8 (t + 5) 9 lab ∧ mk < 65536 ∧ (∀ p, p < n_pt N → mk.testBit p = ch p) ∧ kru (n_fs N) (n_sn N) (n_co N) (n_op N) (n_ft N) (n_pt N) (doneE (n_co N) (n_op N) c 0) lab ch) ?_ 9 1000 (by omega) _ _ V9
      ⟨1, 0, fun v => v, fun _ => false, rfl, rfl, rfl, by omega, by omega, h0, h1, by omega, fun p _ => by simp, kru_congr kru_0 fun q => (done_0 (fun q hq => (hw.2.2.2.2.1 q (n_op_lt hq)).2.2.2.1) q).symm⟩
    rintro n8 kr2 hkr2 a k V8 ⟨c, mk, lab, ch, rfl, rfl, rfl, c1, c2, g0, g1, g2, g3, g4⟩
    unfold bd_X7_chooseInOrder_26
    simp (disch := omega) only [i_ltE]
    by_cases hc : 9 < c
    · rw [if_pos hc]
      have e : c = 10 := by omega
      subst e
      have hk := kru_congr g4 (done_all fun q hq => (hw.2.2.2.2.1 q (n_op_lt hq)).2.2.2.2.1)
      refine TT.I (s_only (vN_fT ht hN g0) hw g1 (fun v hv => (hk.2.1 v hv).1) hr g2) ?_
      rintro x W ⟨rfl, o, rfl, o1, o2⟩
      refine TT.ret ⟨_, rfl, g0, o, rfl, o1, fun p hp => ?_⟩
      have q1 := kru_trB hw hr hk p hp
      have q2 := o2 p
      rw [g3 p hp] at q2
      cases hb : trB N r p with
      | true => exact q2.mpr ⟨hp, (q1.mp hb).1, (q1.mp hb).2⟩
      | false =>
        cases hb2 : o.testBit p with
        | false => rfl
        | true =>
          have := q1.mpr (q2.mp hb2).2
          rw [hb] at this; cases this
    · rw [if_neg hc]
      refine lr_X7_chooseInOrder_36 (I := fun n9 a k V7 => ∃ (j mk : Nat) (lab : Nat → Nat) (ch : Nat → Bool), a = nI mk ∧ k = nI j ∧ n9 = n_pt N - j ∧ j ≤ n_pt N ∧ frT t V V7 ∧ rowN V7 (t + 5) 9 lab ∧ mk < 65536 ∧ (∀ p, p < n_pt N → mk.testBit p = ch p) ∧ kru (n_fs N) (n_sn N) (n_co N) (n_op N) (n_ft N) (n_pt N) (doneE (n_co N) (n_op N) c j) lab ch) ?_ (n_pt N) 1000 (by omega) _ _ V8 ⟨0, mk, lab, ch, rfl, rfl, rfl, Nat.zero_le _, g0, g1, g2, g3, g4⟩
      rintro n7 kr3 hkr3 a k V7 ⟨j, mk', lab', ch', rfl, rfl, rfl, j2, k0, k1, k2, k3, k4⟩
      have hN7 := vN_fT ht hN k0
      unfold bd_X7_chooseInOrder_36
      simp (disch := omega) only [hN7.2.2.1, i_leE]
      by_cases hj : n_pt N ≤ j
      · rw [if_pos hj, i_add1]
        have e : j = n_pt N := by omega
        subst e
        exact hkr2 (10 - (c + 1)) (by omega) _ _ _ ⟨c + 1, mk', lab', ch', rfl, rfl, rfl, by omega, by omega, k0, k1, k2, k3, kru_congr k4 (done_row fun q hq => n_op_lt hq)⟩
      · rw [if_neg hj]
        have hjm : j < n_pt N := by omega
        obtain ⟨b1, b2, b3, b4, b5, b6⟩ := hw.2.2.2.2.1 j hjm
        simp (disch := omega) only [rGi, iNn, rB, i_add1, hN7.2.2.2.2.2.2.1, i_eqE, q_isOpen hN7 hw, rI_ret, bI0]
        have stay : n_op N j = false ∨ n_co N j ≠ c → TT (kr3 (nI mk') (nI (j + 1)) V7) (fun x W => ∃ y, x = .inl (some (.int y)) ∧ frT t V W ∧ ∃ k, y = nI k ∧ k < 65536 ∧ ∀ p, p < n_pt N → k.testBit p = trB N r p) := fun hs =>
          hkr3 (n_pt N - (j + 1)) (by omega) _ _ _ ⟨j + 1, mk', lab', ch', rfl, rfl, rfl, by omega, k0, k1, k2, k3, kru_congr k4 (done_skip hs)⟩
        by_cases hcj : n_co N j = c
        · rw [if_neg (by simp [hcj])]
          cases ho : n_op N j with
          | false =>
            rw [if_pos rfl]
            exact stay (Or.inl ho)
          | true =>
            rw [if_neg (by decide)]
            refine TT.I (s_join ht hN7 hw k1 (fun v hv => (k4.2.1 v hv).1) hjm) ?_
            rintro x W ⟨m0, rfl, lab2, m1, m2⟩
            have ks := kru_congr (kru_step hjm ho b1 b2 (fun q => doneE_le) (done_bef hcj) k4 m2) (done_add ho hcj)
            simp only [bI0, decide_eq_false_iff_not, i_shl1 (show j < 32 by omega), i_or, ne_eq, Classical.not_not]
            by_cases hl : lab' (n_fs N j) = lab' (n_sn N j)
            · rw [if_pos hl]
              refine hkr3 (n_pt N - (j + 1)) (by omega) _ _ _ ⟨j + 1, mk', lab2, _, rfl, rfl, rfl, by omega, k0.t m0, m1, k2, fun p hp => ?_, ks⟩
              rw [k3 p hp]
              simp [hl]
            · rw [if_neg hl]
              refine hkr3 (n_pt N - (j + 1)) (by omega) _ _ _ ⟨j + 1, mk' ||| 2 ^ j, lab2, _, rfl, rfl, rfl, by omega, k0.t m0, m1, or16 k2 (by omega), fun p hp => ?_, ks⟩
              rw [tb_or1, k3 p hp]
              simp [hl]
        · rw [if_pos hcj]
          exact stay (Or.inr hcj)
  · rw [if_neg hj]
    refine hkr (9 - (j + 1)) (by omega) _ _ ⟨j + 1, rfl, rfl, by omega, h0.t (frT.s (by omega)), fun x hx => ?_⟩
    rw [sg_c]
    by_cases h : x = j
    · rw [if_pos h, h]
    · rw [if_neg h]; exact h1 x (by omega)
set_option maxHeartbeats 1000000 in
theorem s_costInOrder (ht : t = 20 ∨ t = 30) (hN : vN V i N) (hw : wN N) {r : Nat} (hr : r < n_ft N) : TI (d_X7_costInOrder t i (nI r) V) (fun x W => frT t V W ∧ x = nI (sumN (fun p => if trB N r p = true then n_co N p else 0) (n_pt N))) := by
  have w1 := hw.1
  have w2 := hw.2.1
  rw [TI.T]
  unfold d_X7_costInOrder
  refine TT.I (s_choose ht hN hw hr) ?_
  rintro x W ⟨f1, mk, rfl, f2, f3⟩
  have hN1 := vN_fT ht hN f1
  refine lr_X7_costInOrder_13 (I := fun n9 a k V9 => V9 = W ∧ ∃ j, a = nI (sumN (fun p => if trB N r p = true then n_co N p else 0) j) ∧ k = nI j ∧ n9 = n_pt N - j ∧ j ≤ n_pt N) ?_ (n_pt N) 1000 (by omega) _ _ W ⟨rfl, 0, rfl, rfl, rfl, Nat.zero_le _⟩
  rintro n9 kr hkr a k V9 ⟨rfl, j, rfl, rfl, rfl, j1⟩
  unfold bd_X7_costInOrder_13
  simp (disch := omega) only [hN1.2.2.1, i_leE]
  by_cases hj : n_pt N ≤ j
  · rw [if_pos hj]
    have e : j = n_pt N := by omega
    subst e
    exact TT.ret ⟨_, rfl, f1, rfl⟩
  · rw [if_neg hj, q_hasBit V9 (by omega) (by omega)]
    have es : sumN (fun p => if trB N r p = true then n_co N p else 0) (j + 1) = sumN (fun p => if trB N r p = true then n_co N p else 0) j + (if trB N r j = true then n_co N j else 0) := rfl
    simp (disch := omega) only [rI_ret, rB, bI0, i_add1, rGi, iNn, hN1.2.2.2.2.2.2.1, nI_add]
    rw [f3 j (by omega)]
    cases hb : trB N r j with
    | false =>
      rw [if_pos rfl]
      refine hkr (n_pt N - (j + 1)) (by omega) _ _ _ ⟨rfl, j + 1, ?_, rfl, rfl, by omega⟩
      rw [es, hb]
      rfl
    | true =>
      rw [if_neg (by decide)]
      refine hkr (n_pt N - (j + 1)) (by omega) _ _ _ ⟨rfl, j + 1, ?_, rfl, rfl, by omega⟩
      rw [es, hb, if_pos rfl]
end
