/-! ===== one wind over the whole tree ===== -/
def rowF (N : nT) (T : tT) (d : Nat) (S : cT × aT) : Nat → (cT × aT) × Nat
  | 0 => (S, 0)
  | j + 1 => if t_de T j = d ∧ t_pa T j ≠ 4294967295 then ((sndF N T j (msk (rowF N T d S j).1.1 (t_pa T j) j) (rowF N T d S j).1 7).1, (rowF N T d S j).2 + (sndF N T j (msk (rowF N T d S j).1.1 (t_pa T j) j) (rowF N T d S j).1 7).2) else rowF N T d S j
def allF (N : nT) (T : tT) (S : cT × aT) : Nat → (cT × aT) × Nat
  | 0 => (S, 0)
  | d + 1 => ((rowF N T (d + 1) (allF N T S d).1 (n_ft N)).1, (allF N T S d).2 + (rowF N T (d + 1) (allF N T S d).1 (n_ft N)).2)
def fill (f all : Nat) (S : cT × aT) : cT × aT := ((S.1.1, fun y => if y = f then all else c_hd S.1 y), ((S.2.1.1, S.2.1.2.1, a_re S.2 + 1, S.2.1.2.2.2), S.2.2))
def rebF (T : tT) (all : Nat) (S : cT × aT) : Nat → cT × aT
  | 0 => S
  | j + 1 => if inT T j = true ∧ popc (all &&& (c_hd (rebF T all S j).1 j ^^^ 4294967295)) = 1 then fill j all (rebF T all S j) else rebF T all S j
noncomputable def ctB (N : nT) (T : tT) (C : cT) : Bool := @decide (∀ j, j < n_ft N → inT T j = true → covB C j = true) (Classical.propDecidable _)
theorem ctB_t {N : nT} {T : tT} {C : cT} : ctB N T C = true ↔ ∀ j, j < n_ft N → inT T j = true → covB C j = true := by unfold ctB; simp
noncomputable def endS (N : nT) (T : tT) (S : cT × aT) : cT × aT :=
  if ctB N T S.1 = true then (((S.1.1.1, false, S.1.1.2.2), S.1.2), ((S.2.1.1, S.2.1.2.1, S.2.1.2.2.1, S.2.1.2.2.2.1, a_fi S.2 + 1, S.2.1.2.2.2.2.2), S.2.2))
  else if 30 ≤ c_bl S.1 then (((S.1.1.1, false, S.1.1.2.2), S.1.2), ((S.2.1.1, S.2.1.2.1, S.2.1.2.2.1, S.2.1.2.2.2.1, S.2.1.2.2.2.2.1, a_fa S.2 + 1), S.2.2))
  else S
def blF (S : cT × aT) : cT × aT := (((S.1.1.1, S.1.1.2.1, S.1.1.2.2.1, S.1.1.2.2.2.1, S.1.1.2.2.2.2.1, c_bl S.1 + 1, S.1.1.2.2.2.2.2.2), S.1.2), S.2)
def midF (N : nT) (S : cT × aT) : cT × aT := (allF N (treeF N (c_og S.1)) S (n_ft N - 1)).1
def mid2 (N : nT) (S : cT × aT) : cT × aT := if c_pa (midF N S).1 = true then rebF (treeF N (c_og S.1)) (allP (midF N S).1) (midF N S) (n_ft N) else midF N S
noncomputable def blowS (N : nT) (S : cT × aT) : cT × aT := endS N (treeF N (c_og S.1)) (blF (mid2 N S))
def blowA (N : nT) (S : cT × aT) : Nat := (allF N (treeF N (c_og S.1)) S (n_ft N - 1)).2
theorem tree_pa {N : nT} (hw : wN N) {r : Nat} (hr : r < n_ft N) (v : Nat) : t_pa (treeF N r) v = 4294967295 ∨ (t_pa (treeF N r) v < n_ft N ∧ t_pu (treeF N r) v < n_pt N ∧ inT (treeF N r) v = true ∧ v ≠ r) := by
  have hg := gI_all hw hr (n_ft N - 1)
  rw [show growF N r (n_ft N - 1) = treeF N r from rfl] at hg
  have tn := tree_N hw hr
  cases hb : inT (treeF N r) v with
  | false => exact Or.inl (hg.2.2.1 v (Or.inl hb)).1
  | true =>
    by_cases e : v = r
    · exact Or.inl (hg.2.2.1 v (Or.inr e)).1
    · exact Or.inr ⟨(tn.2.1 v hb e).2.2.2.1, (tn.2.1 v hb e).1, rfl, e⟩
section
variable {N : nT} {S : cT × aT} {T : tT} {r : Nat}
theorem rl_row (hw : wN N) (hr : r < n_ft N) (hh : ∀ g, g < n_ft N → c_hd S.1 g < 2 ^ tot S.1) (d : Nat) : ∀ j, j ≤ n_ft N → rl N (7 * j) 0 S (rowF N (treeF N r) d S j).1 ∧ (rowF N (treeF N r) d S j).2 ≤ 7 * j := by
  intro j
  induction j with
  | zero => exact fun _ => ⟨rl_r, Nat.le_refl _⟩
  | succ j ih =>
    intro hj
    obtain ⟨i1, i2⟩ := ih (by omega)
    unfold rowF
    by_cases h : t_de (treeF N r) j = d ∧ t_pa (treeF N r) j ≠ 4294967295
    · rw [if_pos h]
      rcases tree_pa hw hr j with h2 | ⟨h2, h3, -, -⟩
      · exact (h.2 h2).elim
      have hh2 := (i1.2.2.1 hh).1 _ h2
      obtain ⟨k1, k2⟩ := rl_snd (S := (rowF N (treeF N r) d S j).1) (T := treeF N r) (f := j) (ms := msk (rowF N (treeF N r) d S j).1.1 (t_pa (treeF N r) j) j) hw h3 (fun z hz => by rw [rl_tot i1]; exact msk_lt hh2 hz) 7
      exact ⟨rl_m (rl_t i1 k1) (by omega) (by omega), by show _ + _ ≤ _; omega⟩
    · rw [if_neg h]
      exact ⟨rl_m i1 (by omega) (by omega), by omega⟩
theorem rl_all (hw : wN N) (hr : r < n_ft N) (hh : ∀ g, g < n_ft N → c_hd S.1 g < 2 ^ tot S.1) : ∀ d, rl N (63 * d) 0 S (allF N (treeF N r) S d).1 ∧ (allF N (treeF N r) S d).2 ≤ 63 * d := by
  have w1 := hw.1
  intro d
  induction d with
  | zero => exact ⟨rl_r, Nat.le_refl _⟩
  | succ d ih =>
    obtain ⟨i1, i2⟩ := ih
    obtain ⟨k1, k2⟩ := rl_row (S := (allF N (treeF N r) S d).1) hw hr (by rw [rl_tot i1]; exact (i1.2.2.1 hh).1) (d + 1) (n_ft N) (Nat.le_refl _)
    exact ⟨rl_m (rl_t i1 k1) (by omega) (by omega), by show _ + _ ≤ _; omega⟩
theorem rl_fill {j : Nat} (ht : ∀ g, g < n_ft N → c_hd S.1 g < 2 ^ tot S.1) : rl N 0 1 S (fill j (allP S.1) S) := by
  have p1 := pow_pos2 (tot S.1)
  refine ⟨⟨rfl, rfl, rfl, rfl, rfl, rfl, rfl, rfl⟩, id, fun h => ⟨fun g hg => ?_, fun g z hg hb => ?_⟩, Nat.le_refl _, Nat.le_refl _, Nat.le_refl _, ?_, Nat.le_refl _, rfl, rfl⟩
  · show (if g = j then allP S.1 else c_hd S.1 g) < _
    by_cases e : g = j
    · rw [if_pos e]; unfold allP; omega
    · rw [if_neg e]; exact h g hg
  · show (if g = j then allP S.1 else c_hd S.1 g).testBit z = true
    by_cases e : g = j
    · rw [if_pos e]
      unfold allP
      rw [Nat.testBit_two_pow_sub_one]
      exact decide_eq_true (bit_lt (h g hg) hb)
    · rw [if_neg e]; exact hb
  · show a_re S.2 + 1 ≤ _; omega
theorem rl_reb (ht : ∀ g, g < n_ft N → c_hd S.1 g < 2 ^ tot S.1) : ∀ j, rl N 0 j S (rebF T (allP S.1) S j) := by
  intro j
  induction j with
  | zero => exact rl_r
  | succ j ih =>
    unfold rebF
    split
    · have hp : allP S.1 = allP (rebF T (allP S.1) S j).1 := congrArg (fun z => 2 ^ z - 1) (rl_tot ih).symm
      have := rl_fill (S := rebF T (allP S.1) S j) (N := N) (j := j) (by rw [rl_tot ih]; exact (ih.2.2.1 ht).1)
      rw [← hp] at this
      exact rl_m (rl_t ih this) (by omega) (by omega)
    · exact rl_m ih (by omega) (by omega)
end
section
variable {V : am_V} {i : Nat} {N : nT} {S : cT × aT} {r : Nat}
set_option maxHeartbeats 4000000 in
theorem s_row (hw : wN N) (hr : r < n_ft N) {d b : Nat} (hd : d < 10) (hS : vS V i (N, S)) (hT1 : rowN V 31 9 (t_pa (treeF N r))) (hT2 : rowN V 32 9 (t_pu (treeF N r))) (hT3 : rowN V 33 9 (t_de (treeF N r))) (hs : c_sd S.1 < 512) (ht : tot S.1 ≤ 7) (hh : ∀ g, g < n_ft N → c_hd S.1 g < 2 ^ tot S.1)
    {kx : Int32 → Int32 → am_V → am_R} {P : am_P} (hk : ∀ W k, frS i V W → vS W i (N, (rowF N (treeF N r) d S (n_ft N)).1) → TT (kx (nI (b + (rowF N (treeF N r) d S (n_ft N)).2)) k W) P) : TT (lp_X10_blowOnce_36 i (nI d) kx 1000 (nI b) (nI 0) V) P := by
  have w1 := hw.1
  have w2 := hw.2.1
  have hg := gI_all hw hr (n_ft N - 1)
  rw [show growF N r (n_ft N - 1) = treeF N r from rfl] at hg
  refine lr_X10_blowOnce_36 (I := fun n9 a k V9 => ∃ j, a = nI (b + (rowF N (treeF N r) d S j).2) ∧ k = nI j ∧ n9 = n_ft N - j ∧ j ≤ n_ft N ∧ frS i V V9 ∧ vS V9 i (N, (rowF N (treeF N r) d S j).1)) ?_ (n_ft N) 1000 (by omega) _ _ V ⟨0, rfl, rfl, rfl, by omega, frS.r i V, hS⟩
  rintro n9 kr hkr a k V9 ⟨j, rfl, rfl, rfl, j1, h1, h2⟩
  obtain ⟨r1, r2⟩ := rl_row hw hr hh d j j1
  unfold bd_X10_blowOnce_36
  simp (disch := omega) only [h2.1.2.1, i_leE]
  by_cases hj : n_ft N ≤ j
  · rw [if_pos hj]
    have e : j = n_ft N := by omega
    subst e
    exact hk _ _ h1 h2
  · rw [if_neg hj]
    have es : rowF N (treeF N r) d S (j + 1) = if t_de (treeF N r) j = d ∧ t_pa (treeF N r) j ≠ 4294967295 then ((sndF N (treeF N r) j (msk (rowF N (treeF N r) d S j).1.1 (t_pa (treeF N r) j) j) (rowF N (treeF N r) d S j).1 7).1, (rowF N (treeF N r) d S j).2 + (sndF N (treeF N r) j (msk (rowF N (treeF N r) d S j).1.1 (t_pa (treeF N r) j) j) (rowF N (treeF N r) d S j).1 7).2) else rowF N (treeF N r) d S j := rfl
    have k1 : V9 31 j = nI (t_pa (treeF N r) j) := by rw [frS_lt h1 (by omega)]; exact hT1 j (by omega)
    have k3 : V9 33 j = nI (t_de (treeF N r) j) := by rw [frS_lt h1 (by omega)]; exact hT3 j (by omega)
    have d32 := gI_de32 hg j
    simp (disch := omega) only [rGi, iNn, rBe, k1, k3, i_add1, i_eqW]
    have stay : ¬ (t_de (treeF N r) j = d ∧ t_pa (treeF N r) j ≠ 4294967295) → TT (kr (nI (b + (rowF N (treeF N r) d S j).2)) (nI (j + 1)) V9) P := fun hn => hkr (n_ft N - (j + 1)) (by omega) _ _ _ ⟨j + 1, by rw [es, if_neg hn], rfl, rfl, by omega, h1, by rw [es, if_neg hn]; exact h2⟩
    by_cases e1 : t_de (treeF N r) j = d
    · rw [if_neg (by simp [e1])]
      rcases tree_pa hw hr j with e2 | ⟨e2, e3, -, -⟩
      · rw [e2, if_pos m1_nI.symm]
        exact stay (fun h => h.2 e2)
      · rw [if_neg (by rw [i_eqM (by omega)]; omega)]
        refine TT.I (s_sendDown (T := treeF N r) (f := j) h2 hw ?_ ?_ (by omega) e2 e3 (r1.2.1 hs) (by rw [rl_tot r1]; exact ht) (by rw [rl_tot r1]; exact (r1.2.2.1 hh).1)) ?_
        · intro x hx
          rw [frS_lt h1 (by omega)]; exact hT1 x hx
        · intro x hx
          rw [frS_lt h1 (by omega)]; exact hT2 x hx
        rintro x W ⟨rfl, f1, f2⟩
        rw [nI_add]
        have hn : t_de (treeF N r) j = d ∧ t_pa (treeF N r) j ≠ 4294967295 := ⟨e1, by omega⟩
        exact hkr (n_ft N - (j + 1)) (by omega) _ _ _ ⟨j + 1, by rw [es, if_pos hn, Nat.add_assoc], rfl, rfl, by omega, h1.t f1, by rw [es, if_pos hn]; exact f2⟩
    · rw [if_pos e1]
      exact stay (fun h => e1 h.1)
set_option maxHeartbeats 4000000 in
theorem s_reb {C : cT} (hw : wN N) (hr : r < n_ft N) (hS : vS V i (N, S)) (hT3 : rowN V 33 9 (t_de (treeF N r))) (ht : tot S.1 ≤ 7) (hh : ∀ g, g < n_ft N → c_hd S.1 g < 2 ^ tot S.1) :
    TU (d_X10_rebuildMissing i V) (fun W => frS i V W ∧ vS W i (N, rebF (treeF N r) (allP S.1) S (n_ft N))) := by
  have w1 := hw.1
  have p2 := pow_le7 ht
  have hg := gI_all hw hr (n_ft N - 1)
  rw [show growF N r (n_ft N - 1) = treeF N r from rfl] at hg
  rw [TU.T]
  unfold d_X10_rebuildMissing
  rw [q_all hS.2.1 ht, rIe]
  refine lr_X10_rebuildMissing_10 (I := fun n9 k V9 => ∃ j, k = nI j ∧ n9 = n_ft N - j ∧ j ≤ n_ft N ∧ frS i V V9 ∧ vS V9 i (N, rebF (treeF N r) (allP S.1) S j)) ?_ (n_ft N) 1000 (by omega) _ V ⟨0, rfl, rfl, by omega, frS.r i V, hS⟩
  rintro n9 kr hkr k V9 ⟨j, rfl, rfl, j1, h1, h2⟩
  have r1 := rl_reb (T := treeF N r) hh j
  unfold bd_X10_rebuildMissing_10
  simp (disch := omega) only [h2.1.2.1, i_leE]
  by_cases hj : n_ft N ≤ j
  · rw [if_pos hj]
    have e : j = n_ft N := by omega
    subst e
    exact TT.ret ⟨rfl, h1, h2⟩
  · rw [if_neg hj]
    have es : rebF (treeF N r) (allP S.1) S (j + 1) = if inT (treeF N r) j = true ∧ popc (allP S.1 &&& (c_hd (rebF (treeF N r) (allP S.1) S j).1 j ^^^ 4294967295)) = 1 then fill j (allP S.1) (rebF (treeF N r) (allP S.1) S j) else rebF (treeF N r) (allP S.1) S j := rfl
    have k3 : V9 33 j = nI (t_de (treeF N r) j) := by rw [frS_lt h1 (by omega)]; exact hT3 j (by omega)
    have d32 := gI_de32 hg j
    have hm : allP S.1 &&& (c_hd (rebF (treeF N r) (allP S.1) S j).1 j ^^^ 4294967295) < 128 := by
      have : allP S.1 &&& (c_hd (rebF (treeF N r) (allP S.1) S j).1 j ^^^ 4294967295) ≤ allP S.1 := Nat.and_le_left
      have h0 : allP S.1 < 128 := by have := pow_pos2 (tot S.1); unfold allP; omega
      omega
    have e3 : (nI (t_de (treeF N r) j) = -1) = (inT (treeF N r) j = false) := by rw [i_eqM d32, inT_f]
    have hpc : popc (allP S.1 &&& (c_hd (rebF (treeF N r) (allP S.1) S j).1 j ^^^ 4294967295)) ≤ 7 := cnt_le_n _ _
    simp (disch := omega) only [rGi, iNn, rBe, k3, i_add1, h2.2.1.2.2.2.2.2.2.2 j (show j < 9 by omega), nI_not, i_and, e3, q_bc, rIe, bc_128 _ hm, i_eqE]
    have stay : ¬ (inT (treeF N r) j = true ∧ popc (allP S.1 &&& (c_hd (rebF (treeF N r) (allP S.1) S j).1 j ^^^ 4294967295)) = 1) → TT (kr (nI (j + 1)) V9) (fun x W => x = .inl none ∧ frS i V W ∧ vS W i (N, rebF (treeF N r) (allP S.1) S (n_ft N))) := fun hn => hkr (n_ft N - (j + 1)) (by omega) _ _ ⟨j + 1, rfl, rfl, by omega, h1, by rw [es, if_neg hn]; exact h2⟩
    cases e1 : inT (treeF N r) j with
    | false =>
      rw [if_pos rfl]
      exact stay (by simp [e1])
    | true =>
      rw [if_neg (by decide)]
      by_cases e2 : popc (allP S.1 &&& (c_hd (rebF (treeF N r) (allP S.1) S j).1 j ^^^ 4294967295)) = 1
      · rw [if_neg (by simp [e2])]
        simp (disch := omega) only [rVe, sg_d, h2.2.2.2.2.1, i_add1]
        refine hkr (n_ft N - (j + 1)) (by omega) _ _ ⟨j + 1, rfl, rfl, by omega, (h1.t (frS.s (by omega))).t (frS.s (by omega)), ?_⟩
        rw [es, if_pos ⟨e1, e2⟩]
        exact ⟨vN_s (vN_s h2.1 (by omega)) (by omega), vC_s (vC_hd h2.2.1) (by omega), vA_re (vA_s h2.2.2 (by omega))⟩
      · rw [if_pos e2]
        exact stay (fun h => e2 h.2)
set_option maxHeartbeats 4000000 in
theorem q_coversTree (hw : wN N) (hr : r < n_ft N) (hS : vS V i (N, S)) (hT3 : rowN V 33 9 (t_de (treeF N r))) (h1 : c_st S.1 < 2147483648) (h2 : c_da S.1 ≤ 6) : d_X10_coversTree i V = some (.inl (some (.int (bI (ctB N (treeF N r) S.1)))), V) := by
  have w1 := hw.1
  have hg := gI_all hw hr (n_ft N - 1)
  rw [show growF N r (n_ft N - 1) = treeF N r from rfl] at hg
  refine TI.eq ?_
  rw [TI.T]
  unfold d_X10_coversTree
  refine lr_X10_coversTree_2 (I := fun n9 k V9 => V9 = V ∧ ∃ j, k = nI j ∧ n9 = n_ft N - j ∧ j ≤ n_ft N ∧ ∀ v, v < j → inT (treeF N r) v = true → covB S.1 v = true) ?_ (n_ft N) 1000 (by omega) _ V ⟨rfl, 0, rfl, rfl, by omega, fun v hv => by omega⟩
  rintro n9 kr hkr k V9 ⟨rfl, j, rfl, rfl, j1, j2⟩
  unfold bd_X10_coversTree_2
  simp (disch := omega) only [hS.1.2.1, i_leE]
  by_cases hj : n_ft N ≤ j
  · rw [if_pos hj]
    have e : j = n_ft N := by omega
    subst e
    rw [nb1, rGt]
    exact TT.ret ⟨_, rfl, rfl, by rw [ctB_t.mpr j2]; rfl⟩
  · rw [if_neg hj]
    have d32 := gI_de32 hg j
    have k3 : V9 33 j = nI (t_de (treeF N r) j) := hT3 j (by omega)
    have e3 : (nI (t_de (treeF N r) j) = -1) = (inT (treeF N r) j = false) := by rw [i_eqM d32, inT_f]
    simp (disch := omega) only [rGi, iNn, rBe, k3, i_add1, e3, q_covers hS.2.1 (show j < 9 by omega) h1 h2, rIe, bI0]
    cases e1 : inT (treeF N r) j with
    | false =>
      rw [if_pos rfl]
      refine hkr (n_ft N - (j + 1)) (by omega) _ _ ⟨rfl, j + 1, rfl, rfl, by omega, fun v hv hi => ?_⟩
      by_cases e : v = j
      · rw [e, e1] at hi; cases hi
      · exact j2 v (by omega) hi
    | true =>
      rw [if_neg (by decide)]
      cases e2 : covB S.1 j with
      | true =>
        rw [if_pos (by decide)]
        refine hkr (n_ft N - (j + 1)) (by omega) _ _ ⟨rfl, j + 1, rfl, rfl, by omega, fun v hv hi => ?_⟩
        by_cases e : v = j
        · rw [e]; exact e2
        · exact j2 v (by omega) hi
      | false =>
        rw [if_neg (by decide), nb0, rGt]
        refine TT.ret ⟨_, rfl, rfl, ?_⟩
        cases e4 : ctB N (treeF N r) S.1 with
        | false => rfl
        | true =>
          have := ctB_t.mp e4 j (by omega) e1
          rw [e2] at this; cases this
set_option maxHeartbeats 4000000 in
theorem s_endIfDue (hw : wN N) (hr : r < n_ft N) (hS : vS V i (N, S)) (hT3 : rowN V 33 9 (t_de (treeF N r))) (h1 : c_st S.1 < 2147483648) (h2 : c_da S.1 ≤ 6) (h3 : c_bl S.1 < 2147483648) : TU (d_X10_endIfDue i V) (fun W => frS i V W ∧ vS W i (N, endS N (treeF N r) S)) := by
  obtain ⟨hN, hC, hA⟩ := hS
  unfold d_X10_endIfDue
  rw [q_coversTree hw hr ⟨hN, hC, hA⟩ hT3 h1 h2]
  simp (disch := omega) only [rIe, rBe, bI0, hC.2.2.2.2.2.1, i_ltE, nb0, rGt, rVe, sg_d, hA.2.2.2.2.1, hA.2.2.2.2.2.1, i_add1]
  unfold endS
  cases e : ctB N (treeF N r) S.1 with
  | true =>
    rw [if_neg (show ¬ (true = false) by decide), if_pos (show true = true from rfl)]
    exact TU.ret ⟨(frS.s (by omega)).t (frS.s (by omega)), vN_s (vN_s hN (by omega)) (by omega), vC_s (vC_ru (x := false) hC) (by omega), vA_fi (vA_s hA (by omega))⟩
  | false =>
    rw [if_pos (show false = false from rfl), if_neg (show ¬ (false = true) by decide)]
    by_cases e2 : c_bl S.1 < 30
    · rw [if_pos e2, if_neg (by omega)]
      exact TU.ret ⟨frS.r i V, hN, hC, hA⟩
    · rw [if_neg e2, if_pos (by omega)]
      exact TU.ret ⟨(frS.s (by omega)).t (frS.s (by omega)), vN_s (vN_s hN (by omega)) (by omega), vC_s (vC_ru (x := false) hC) (by omega), vA_fa (vA_s hA (by omega))⟩
end
section
variable {V : am_V} {i : Nat} {N : nT} {S : cT × aT}
/-- the tables differ in the state i and in the tree of the winds at most -/
def frB (i : Nat) (V W : am_V) : Prop := ∀ c, ¬ (sS i ≤ c ∧ c < sS i + 16) → ¬ (30 < c ∧ c < 36) → W c = V c
theorem frB.r (i : Nat) (V : am_V) : frB i V V := fun _ _ _ => rfl
theorem frB.t {i : Nat} {V W X : am_V} (h : frB i V W) (k : frB i W X) : frB i V X := fun c hc h2 => (k c hc h2).trans (h c hc h2)
theorem frS.b {i : Nat} {V W : am_V} (h : frS i V W) : frB i V W := fun c hc _ => h c hc
theorem frT.b {i : Nat} {V W : am_V} (h : frT 30 V W) : frB i V W := fun c _ hc => h c hc
theorem vS_fT {t : Nat} {W : am_V} {s : sT} (ht : t = 20 ∨ t = 30) (h : vS V i s) (e : frT t V W) : vS W i s := vS_cg h fun c hc _ => e c (by have := sS_ge i; omega)
theorem rl_mid (hw : wN N) (hr : c_og S.1 < n_ft N) (hh : ∀ g, g < n_ft N → c_hd S.1 g < 2 ^ tot S.1) : rl N 504 0 S (midF N S) ∧ rl N 504 9 S (mid2 N S) ∧ blowA N S ≤ 504 := by
  have w1 := hw.1
  obtain ⟨r1, r2⟩ := rl_all (S := S) hw hr hh (n_ft N - 1)
  have r3 : rl N 504 0 S (midF N S) := rl_m r1 (by omega) (by omega)
  refine ⟨r3, ?_, by unfold blowA; omega⟩
  unfold mid2
  split
  · exact rl_m (rl_t r3 (rl_reb (by rw [rl_tot r3]; exact (r3.2.2.1 hh).1) (n_ft N))) (by omega) (by omega)
  · exact rl_m r3 (by omega) (by omega)
set_option maxHeartbeats 4000000 in
theorem s_blow (hw : wN N) (hr : c_og S.1 < n_ft N) (hS : vS V i (N, S)) (hs : c_sd S.1 < 512) (ht : tot S.1 ≤ 7) (hh : ∀ g, g < n_ft N → c_hd S.1 g < 2 ^ tot S.1) (h1 : c_st S.1 < 2147483648) (h2 : c_da S.1 ≤ 6) (h3 : c_bl S.1 < 2147483647) :
    TI (d_X10_blowOnce i V) (fun x W => x = nI (blowA N S) ∧ frB i V W ∧ vS W i (N, blowS N S)) := by
  have w1 := hw.1
  rw [TI.T]
  unfold d_X10_blowOnce
  rw [hS.2.1.2.2.1]
  refine TT.U (s_grow (Or.inr rfl) hS.1 hw hr) ?_
  rintro V1 ⟨f1, t1⟩
  have hS1 := vS_fT (Or.inr rfl) hS f1
  obtain ⟨r3, r4, -⟩ := rl_mid hw hr hh
  refine lr_X10_blowOnce_22 (I := fun n9 a k V9 => ∃ d, a = nI (allF N (treeF N (c_og S.1)) S d).2 ∧ k = nI (d + 1) ∧ n9 = n_ft N - (d + 1) ∧ d + 1 ≤ n_ft N ∧ frS i V1 V9 ∧ vS V9 i (N, (allF N (treeF N (c_og S.1)) S d).1)) ?_ (n_ft N - 1) 1000 (by omega) _ _ V1 ⟨0, rfl, rfl, rfl, by omega, frS.r i V1, hS1⟩
  rintro n9 kr hkr a k V9 ⟨d, rfl, rfl, rfl, d1, h4, h5⟩
  obtain ⟨r1, r2⟩ := rl_all (S := S) hw hr hh d
  have tr1 : rowN V9 31 9 (t_pa (treeF N (c_og S.1))) := fun x hx => by rw [frS_lt h4 (by omega)]; exact t1.1 x hx
  have tr2 : rowN V9 32 9 (t_pu (treeF N (c_og S.1))) := fun x hx => by rw [frS_lt h4 (by omega)]; exact t1.2.1 x hx
  have tr3 : rowN V9 33 9 (t_de (treeF N (c_og S.1))) := fun x hx => by rw [frS_lt h4 (by omega)]; exact t1.2.2.1 x hx
  unfold bd_X10_blowOnce_22
  simp (disch := omega) only [h5.1.2.1, i_leE]
  by_cases hj : n_ft N ≤ d + 1
  · rw [if_pos hj]
    have e : n_ft N - 1 = d := by omega
    have em : midF N S = (allF N (treeF N (c_og S.1)) S d).1 := by unfold midF; rw [e]
    have ea : blowA N S = (allF N (treeF N (c_og S.1)) S d).2 := by unfold blowA; rw [e]
    rw [← em] at h5
    rw [← ea]
    simp only [rBe, h5.2.1.2.2.2.2.1, bI0]
    have fin : ∀ V8, frS i V1 V8 → vS V8 i (N, mid2 N S) → TT (rV (am_set V8 (sS i + 2) 6 (V8 (sS i + 2) 6 + nI 1)) fun V5 => rU (d_X10_endIfDue i V5) fun V6 => some (.inl (some (.int (nI (blowA N S)))), V6)) (fun r W => ∃ x, r = .inl (some (.int x)) ∧ x = nI (blowA N S) ∧ frB i V W ∧ vS W i (N, blowS N S)) := by
      intro V8 f8 g8
      rw [g8.2.1.2.2.2.2.2.1, i_add1, rVe]
      have g9 : vS (am_set V8 (sS i + 2) 6 (nI (c_bl (mid2 N S).1 + 1))) i (N, blF (mid2 N S)) := ⟨vN_s g8.1 (by omega), vC_bl g8.2.1, vA_s g8.2.2 (by omega)⟩
      have q4 := r4.1
      refine TT.U (s_endIfDue hw hr g9 ?_ ?_ ?_ ?_) ?_
      · intro x hx
        rw [sg_d (by have := sS_ge i; omega), frS_lt f8 (by omega)]
        exact t1.2.2.1 x hx
      · show c_st (mid2 N S).1 < _
        rw [q4.1]; exact h1
      · show c_da (mid2 N S).1 ≤ _
        rw [q4.2.2.2.1]; exact h2
      · show c_bl (mid2 N S).1 + 1 < _
        rw [q4.2.2.2.2.2.1]; omega
      rintro W ⟨f9, k9⟩
      exact TT.ret ⟨_, rfl, rfl, f1.b.t ((f8.t ((frS.s (by omega)).t f9)).b), k9⟩
    cases ep : c_pa (midF N S).1 with
    | false =>
      rw [if_pos rfl]
      refine fin V9 h4 ?_
      unfold mid2
      rw [ep, if_neg (by decide)]
      exact h5
    | true =>
      rw [if_neg (by decide)]
      refine TT.U (s_reb (C := S.1) hw hr h5 tr3 (by rw [rl_tot r3]; exact ht) (by rw [rl_tot r3]; exact (r3.2.2.1 hh).1)) ?_
      rintro W ⟨f8, k8⟩
      refine fin W (h4.t f8) ?_
      unfold mid2
      rw [ep, if_pos rfl]
      exact k8
  · rw [if_neg hj]
    refine s_row hw hr (by omega) h5 tr1 tr2 tr3 (r1.2.1 hs) (by rw [rl_tot r1]; exact ht) (by rw [rl_tot r1]; exact (r1.2.2.1 hh).1) ?_
    intro W k g1 g2
    rw [i_add1]
    exact hkr (n_ft N - (d + 1 + 1)) (by omega) _ _ _ ⟨d + 1, rfl, rfl, rfl, by omega, h4.t g1, g2⟩
end
