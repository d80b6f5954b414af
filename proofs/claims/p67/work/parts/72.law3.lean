/-! ===== the law's checks: steps and trees ===== -/
theorem mx_sub : ∀ a, a < 10 → ∀ b, b < 10 → am_mx (nI 0) (nI a - nI b) = nI (a - b) := by decide +kernel
theorem f_same {x : UInt32} (h : FP.Core.fIsNaN x = false) : Op.cmpValue (FP.fcmp x x) .l = 0 := by
  rw [show FP.fcmp x x = some .eq from FP.Core.fcmp_refl h]
  rfl
theorem rFe {x : UInt32} {V : am_V} {f : UInt32 → am_V → am_R} : rF (some (.inl (some (.float x)), V)) f = f x V := id rfl
section
variable {w : Nat} {V : am_V} {s : sT}
theorem tree_ok (h : vK w V s) {r : Nat} (hr : r < n_ft s.1) : gI s.1 r (treeF s.1 r) (n_ft s.1 - 1) := gI_all h.wn hr (n_ft s.1 - 1)
theorem par_some (h : vK w V s) {r f : Nat} (hr : r < n_ft s.1) (hf : f < n_ft s.1) : parI s.1 r f ≠ -1000 ↔ f ≠ r ∧ connB s.1 r f = true := by
  have w1 := h.wn.1
  have tn := (tree_N h.wn hr).1 f hf
  have hg := tree_ok h hr
  unfold parI
  rcases tree_pa h.wn hr f with e | ⟨e1, e2, e3, e4⟩
  · rw [if_pos e]
    refine ⟨fun q => (q rfl).elim, fun ⟨q1, q2⟩ => ?_⟩
    have hin := tn.mpr (connB_t.mp q2)
    have := ((tree_N h.wn hr).2.1 f hin q1).2.2.2.1
    omega
  · rw [if_neg (by omega)]
    exact ⟨fun _ => ⟨e4, connB_t.mpr (tn.mp e3)⟩, fun _ => nI_neg (by omega) (by decide)⟩
set_option maxHeartbeats 2000000 in
theorem t_step (h : vK w V s) {r f : Nat} (hr : r < n_ft s.1) (hf : f < n_ft s.1) (hin : inT (treeF s.1 r) f = true) (hne : f ≠ r) : TI (d_L_isStep (nI r) (nI (t_pa (treeF s.1 r) f)) (nI f) V) (fun x W => frU V W ∧ x = nI 1) := by
  have w1 := h.wn.1
  have w2 := h.wn.2.1
  have hg := tree_ok h hr
  obtain ⟨p1, p2, p3, p4, p5, p6⟩ := (tree_N h.wn hr).2.1 f hin hne
  have hch := hg.2.2.2.2.2.2.2 f hin hne
  have hnn := hg.2.2.2.2.1
  obtain ⟨q1, q2, q3, q4, q5, q6⟩ := h.wn.2.2.2.2.1 _ p1
  have s1 := h.wn.2.2.2.1 f hf
  rw [TI.T]
  unfold d_L_isStep
  refine lr_L_isStep_3 (I := fun n9 k V9 => frU V V9 ∧ ∃ j, k = nI j ∧ n9 = n_pt s.1 - j ∧ j ≤ t_pu (treeF s.1 r) f) ?_ (n_pt s.1) 17 (by omega) _ V ⟨frU.r V, 0, rfl, rfl, by omega⟩
  rintro n9 kr hkr k V9 ⟨f9, j, rfl, rfl, j1⟩
  have h9 := vK_fU h f9
  have hj' : j < n_pt s.1 := by omega
  obtain ⟨b1, b2, b3, b4, b5, b6⟩ := h.wn.2.2.2.2.1 j hj'
  unfold bd_L_isStep_3
  rw [k_pc h9, rIe, if_neg (by rw [i_leE (by omega) (by omega)]; omega), k_fs h9 hj', rIe]
  refine TT.Bj (R := fun j' => ∀ b : Bool, (b = true ↔ j = t_pu (treeF s.1 r) f) → TT (j' (bI b) V9) (fun r W => ∃ x, r = .inl (some (.int x)) ∧ frU V W ∧ x = nI 1)) ?_ ?_
  · intro b hb
    simp only [rBe]
    cases b with
    | false =>
      rw [if_pos (by decide), i_add1]
      have : j ≠ t_pu (treeF s.1 r) f := fun q => by
        have := hb.mpr q
        cases this
      exact hkr (n_pt s.1 - (j + 1)) (by omega) _ _ ⟨f9, j + 1, rfl, rfl, by omega⟩
    | true =>
      have ej := hb.mp rfl
      subst ej
      rw [if_neg (by decide)]
      refine TT.I (t_inT h9 hr p1) ?_
      rintro x W1 ⟨f1, rfl⟩
      have h1 := vK_fU h9 f1
      rw [p2, if_neg (by decide), k_gu h1 p1, rIe, k_sh h1 hf, rIe]
      refine TT.F (t_rch h1 hr hf) ?_
      rintro x W2 ⟨f2, rfl⟩
      have h2 := vK_fU h1 f2
      refine TT.F (t_rch h2 hr p4) ?_
      rintro x W3 ⟨f3, rfl⟩
      unfold chaF
      rw [if_pos hin, if_pos p3, mx_sub _ q6 _ s1, i_sub (show n_gu s.1 (t_pu (treeF s.1 r) f) - n_sh s.1 f ≤ 10 by omega)]
      rw [show FP.fdiv (FP.i2f (nI (10 - (n_gu s.1 (t_pu (treeF s.1 r) f) - n_sh s.1 f)))) 1092616192 = facF (10 - (n_gu s.1 (t_pu (treeF s.1 r) f) - n_sh s.1 f)) from rfl]
      rw [fac_n (by omega) (by omega), rGt, f_n32 (fac_mul (hnn _) (by omega) (by omega)), rGt, ← hch, if_neg (by rw [f_same (hnn f)]; exact fun q => q rfl), nb1, rGt]
      exact TT.ret ⟨_, rfl, ((f9.t f1).t f2).t f3, rfl⟩
  · intro j' hj
    simp only [rBe]
    have key : ∀ b : Bool, (b = true ↔ (n_fs s.1 j = t_pa (treeF s.1 r) f ∧ n_sn s.1 j = f) ∨ (n_fs s.1 j = f ∧ n_sn s.1 j = t_pa (treeF s.1 r) f)) → TT (j' (bI b) V9) (fun r W => ∃ x, r = .inl (some (.int x)) ∧ frU V W ∧ x = nI 1) := by
      intro b hb
      refine hj b (hb.trans ⟨fun q => ?_, fun q => ?_⟩)
      · refine Classical.byContradiction fun hn => ?_
        apply h.wn.2.2.2.2.2 j _ hj' p1 hn
        rcases q with ⟨a1, a2⟩ | ⟨a1, a2⟩ <;> rcases p6 with ⟨c1, c2⟩ | ⟨c1, c2⟩
        · exact Or.inl ⟨by rw [a1, c2], by rw [a2, c1]⟩
        · exact Or.inr ⟨by rw [a1, c2], by rw [a2, c1]⟩
        · exact Or.inr ⟨by rw [a1, c1], by rw [a2, c2]⟩
        · exact Or.inl ⟨by rw [a1, c1], by rw [a2, c2]⟩
      · rw [q]
        rcases p6 with ⟨c1, c2⟩ | ⟨c1, c2⟩
        · exact Or.inl ⟨c2, c1⟩
        · exact Or.inr ⟨c1, c2⟩
    have second : ¬ (n_fs s.1 j = t_pa (treeF s.1 r) f ∧ n_sn s.1 j = f) → TT (rI (d_X11_firstOf (nI j) V9) fun y8 V7 => if ¬ y8 = nI f then j' (nI 0) V7 else rI (d_X11_secondOf (nI j) V7) fun y10 V9 => if ¬ y10 = nI (t_pa (treeF s.1 r) f) then j' (nI 0) V9 else j' (nI 1) V9) (fun r W => ∃ x, r = .inl (some (.int x)) ∧ frU V W ∧ x = nI 1) := by
      intro hn
      rw [k_fs h9 hj', rIe]
      by_cases e1 : n_fs s.1 j = f
      · rw [if_neg (fun q => q (by rw [e1])), k_sn h9 hj', rIe]
        by_cases e2 : n_sn s.1 j = t_pa (treeF s.1 r) f
        · rw [if_neg (fun q => q (by rw [e2]))]
          exact key true ⟨fun _ => Or.inr ⟨e1, e2⟩, fun _ => rfl⟩
        · rw [if_pos (by rw [i_eqE (by omega) (by omega)]; exact e2)]
          exact key false ⟨fun q => (by cases q), fun q => q.elim (fun q => (hn q).elim) fun q => (e2 q.2).elim⟩
      · rw [if_pos (by rw [i_eqE (by omega) (by omega)]; exact e1)]
        exact key false ⟨fun q => (by cases q), fun q => q.elim (fun q => (hn q).elim) fun q => (e1 q.1).elim⟩
    by_cases e1 : n_fs s.1 j = t_pa (treeF s.1 r) f
    · rw [if_neg (fun q => q (by rw [e1])), k_sn h9 hj', rIe]
      by_cases e2 : n_sn s.1 j = f
      · rw [if_pos (by rw [e2])]
        exact key true ⟨fun _ => Or.inl ⟨e1, e2⟩, fun _ => rfl⟩
      · rw [if_neg (by rw [i_eqE (by omega) (by omega)]; exact e2)]
        exact second (fun q => e2 q.2)
    · rw [if_pos (by rw [i_eqE (by omega) (by omega)]; exact e1)]
      exact second (fun q => e1 q.1)
theorem bI_10 (b : Bool) : (if bI b = 0 then nI 0 else nI 1) = nI (if b = true then 1 else 0) := by cases b <;> decide
set_option maxHeartbeats 2000000 in
theorem t_istree (h : vK w V s) {r : Nat} (hr : r < n_ft s.1) : TI (d_L_isTree (nI r) V) (fun x W => frU V W ∧ x = nI 1) := by
  have w1 := h.wn.1
  have w2 := h.wn.2.1
  have hg := tree_ok h hr
  have tn := tree_N h.wn hr
  rw [TI.T]
  unfold d_L_isTree
  refine lr_L_isTree_13 (I := fun n9 a b c k V9 => frU V V9 ∧ ∃ j, a = nI (sumN (fun p => if trB s.1 r p = true then n_co s.1 p else 0) j) ∧ b = nI (cnt (trB s.1 r) j) ∧ c = nI 1 ∧ k = nI j ∧ n9 = n_pt s.1 - j ∧ j ≤ n_pt s.1) ?_ (n_pt s.1) 17 (by omega) _ _ _ _ V ⟨frU.r V, 0, rfl, rfl, rfl, rfl, rfl, by omega⟩
  rintro n9 kr hkr a b c k V9 ⟨f9, j, rfl, rfl, rfl, rfl, rfl, j1⟩
  have h9 := vK_fU h f9
  unfold bd_L_isTree_13
  rw [k_pc h9, rIe]
  by_cases hj : n_pt s.1 ≤ j
  · rw [if_pos (by rw [i_leE (by omega) (by omega)]; exact hj)]
    have e : j = n_pt s.1 := by omega
    subst e
    refine lr_L_isTree_95 (I := fun n9 a b k V8 => frU V V8 ∧ ∃ l, a = nI (cnt (connB s.1 r) l) ∧ b = nI 1 ∧ k = nI l ∧ n9 = n_ft s.1 - l ∧ l ≤ n_ft s.1) ?_ (n_ft s.1) 17 (by omega) _ _ _ V9 ⟨f9, 0, rfl, rfl, rfl, rfl, by omega⟩
    rintro n8 kr2 hkr2 a b k V8 ⟨f8, l, rfl, rfl, rfl, rfl, l1⟩
    have h8 := vK_fU h f8
    unfold bd_L_isTree_95
    rw [if_neg (by decide), k_fc h8, rIe]
    by_cases hl : n_ft s.1 ≤ l
    · rw [if_pos (by rw [i_leE (by omega) (by omega)]; exact hl)]
      have e : l = n_ft s.1 := by omega
      subst e
      have ec : cnt (trB s.1 r) (n_pt s.1) = cnt (connB s.1 r) (n_ft s.1) - 1 := by
        have e2 : cnt (inT (treeF s.1 r)) (n_ft s.1) = cnt (connB s.1 r) (n_ft s.1) := cnt_congr _ fun v hv => by
          rw [Bool.eq_iff_iff, connB_t]
          exact tn.1 v hv
        have := tn.2.2.1
        omega
      have e1 : 1 ≤ cnt (connB s.1 r) (n_ft s.1) := cnt_pos _ r hr (connB_t.mpr (conn_refl r))
      simp only [rBe]
      rw [if_neg (by decide), i_sub e1, ← ec, if_neg (fun q => q rfl)]
      refine TT.I (t_tree h8 hr) ?_
      rintro x W1 ⟨f1, rfl⟩
      have h1 := vK_fU h8 f1
      unfold treeN
      rw [if_neg (fun q => q rfl)]
      refine TT.I (t_treeg h1 hr) ?_
      rintro x W2 ⟨f2, rfl⟩
      have h2 := vK_fU h1 f2
      unfold treeN
      rw [if_neg (fun q => q rfl)]
      refine TT.F (t_rch h2 hr hr) ?_
      rintro x W3 ⟨f3, rfl⟩
      have hin : inT (treeF s.1 r) r = true := (tn.1 r hr).mpr (conn_refl r)
      unfold chaF
      rw [if_pos hin, hg.2.2.2.2.2.1, if_neg (by rw [f_same f_c1]; exact fun q => q rfl), nb1, rGt]
      exact TT.ret ⟨_, rfl, ((f8.t f1).t f2).t f3, rfl⟩
    · have hl' : l < n_ft s.1 := by omega
      rw [if_neg (by rw [i_leE (by omega) (by omega)]; exact hl)]
      refine TT.I (t_par h8 hr hl') ?_
      rintro x W1 ⟨f1, rfl⟩
      have h1 := vK_fU h8 f1
      have ps := par_some h hr hl'
      rw [k_conn h1 hr hl', rIe]
      have next : ∀ W, frU V W → TT (kr2 (nI (cnt (connB s.1 r) l) + nI (if connB s.1 r l = true then 1 else 0)) (nI 1) (nI l + nI 1) W) (fun r W => ∃ x, r = .inl (some (.int x)) ∧ frU V W ∧ x = nI 1) := by
        intro W fW
        rw [nI_add, i_add1]
        exact hkr2 (n_ft s.1 - (l + 1)) (by omega) _ _ _ _ ⟨fW, l + 1, rfl, rfl, rfl, rfl, by omega⟩
      refine TT.Bj (R := fun j' => TT (j' (nI (if connB s.1 r l = true then 1 else 0)) W1) (fun r W => ∃ x, r = .inl (some (.int x)) ∧ frU V W ∧ x = nI 1)) ?_ ?_
      · try dsimp only
        refine TT.Bj (R := fun j' => TT (j' (if parI s.1 r l = -1000 then nI 0 else nI 1) W1) (fun r W => ∃ x, r = .inl (some (.int x)) ∧ frU V W ∧ x = nI 1)) ?_ ?_
        · try dsimp only
          refine TT.Bj (R := fun j' => TT (j' (if parI s.1 r l = -1000 then nI 0 else nI 1) W1) (fun r W => ∃ x, r = .inl (some (.int x)) ∧ frU V W ∧ x = nI 1)) ?_ ?_
          · simp only [rBe]
            rw [if_neg (fun q => q trivial)]
            by_cases e1 : parI s.1 r l = -1000
            · rw [if_pos e1]
              exact next W1 (f8.t f1)
            · rw [if_neg e1]
              obtain ⟨e2, e3⟩ := ps.mp e1
              have hin := (tn.1 l hl').mpr (connB_t.mp e3)
              have hpa : parI s.1 r l = nI (t_pa (treeF s.1 r) l) := by
                unfold parI
                have := (tn.2.1 l hin e2).2.2.2.1
                rw [if_neg (by omega)]
              rw [hpa]
              refine TT.I (t_step h1 hr hl' hin e2) ?_
              rintro x W2 ⟨f2, rfl⟩
              rw [if_neg (by decide)]
              exact next W2 ((f8.t f1).t f2)
          · intro j' hj'
            simp only [rBe]
            by_cases e1 : l = r
            · rw [if_pos (by rw [e1])]
              rw [if_pos (Classical.byContradiction fun q => (ps.mp q).1 e1)] at hj'
              exact hj'
            · rw [if_neg (by rw [i_eqE (by omega) (by omega)]; exact e1), k_conn h1 hr hl', rIe]
              cases hc : connB s.1 r l with
              | false =>
                rw [if_pos (Classical.byContradiction fun q => by have := (ps.mp q).2; rw [hc] at this; cases this)] at hj'
                rw [if_pos (by decide)]
                exact hj'
              | true =>
                rw [if_neg (ps.mpr ⟨e1, hc⟩)] at hj'
                rw [if_neg (by decide)]
                exact hj'
        · intro j' hj'
          by_cases e1 : parI s.1 r l = -1000
          · rw [if_pos e1] at hj'; rw [if_pos e1]; exact hj'
          · rw [if_neg e1] at hj'; rw [if_neg e1]; exact hj'
      · intro j' hj'
        cases hc : connB s.1 r l with
        | false => rw [hc] at hj'; rw [if_pos (by decide)]; exact hj'
        | true => rw [hc] at hj'; rw [if_neg (by decide)]; exact hj'
  · have hj' : j < n_pt s.1 := by omega
    rw [if_neg (by rw [i_leE (by omega) (by omega)]; exact hj)]
    refine TT.I (t_inT h9 hr hj') ?_
    rintro x W1 ⟨f1, rfl⟩
    have h1 := vK_fU h9 f1
    have next : ∀ W, frU V W → TT (kr (nI (sumN (fun p => if trB s.1 r p = true then n_co s.1 p else 0) j) + nI (if trB s.1 r j = true then n_co s.1 j else 0)) (nI (cnt (trB s.1 r) j) + nI (if trB s.1 r j = true then 1 else 0)) (nI 1 &&& nI 1) (nI j + nI 1) W) (fun r W => ∃ x, r = .inl (some (.int x)) ∧ frU V W ∧ x = nI 1) := by
      intro W fW
      rw [nI_add, nI_add, i_add1]
      exact hkr (n_pt s.1 - (j + 1)) (by omega) _ _ _ _ _ ⟨fW, j + 1, rfl, rfl, by decide, rfl, rfl, by omega⟩
    simp only [rBe]
    cases ht : trB s.1 r j with
    | false =>
      rw [ht] at next
      rw [if_pos (by decide), if_pos (by decide), if_pos (by decide)]
      exact next W1 (f9.t f1)
    | true =>
      rw [ht] at next
      have hop := (trB_t.mp ht).1
      rw [if_neg (by decide), if_neg (by decide), k_co h1 hj', rIe, if_neg (by decide), k_blk h1 hj', rIe, hop, if_neg (by decide)]
      exact next W1 (f9.t f1)
end
