/-! ===== the law's checks: the pairs ===== -/
section
variable {w : Nat} {V : am_V} {s : sT}
theorem dst_conn (h : vK w V s) {a b : Nat} (ha : a < n_ft s.1) (hb : b < n_ft s.1) : dst s.1 a b < 1000 ↔ connB s.1 a b = true := by
  obtain ⟨d1, d2, d3⟩ := dstP_ex h ha
  rw [connB_t]
  exact isD_conn (fun p hp => ⟨(n_opE h.wn p hp).2.1, (n_opE h.wn p hp).2.2.1⟩) (fun p hp => by have := (h.wn.2.2.2.2.1 p (n_op_lt hp)).2.2.2.2.1; omega) ha hb d1 d3
theorem dst_zero (h : vK w V s) {a b : Nat} (ha : a < n_ft s.1) (hb : b < n_ft s.1) : dst s.1 a b = 0 ↔ a = b :=
  isD_zero (fun p hp => (h.wn.2.2.2.2.1 p (n_op_lt hp)).2.2.2.1) hb (dstP_ex h ha).1
theorem dst_symm (h : vK w V s) {a b : Nat} (ha : a < n_ft s.1) (hb : b < n_ft s.1) : dst s.1 a b = dst s.1 b a :=
  isD_symm (fun p hp => ⟨(n_opE h.wn p hp).2.1, (n_opE h.wn p hp).2.2.1⟩) ha hb (dstP_ex h ha).1 (dstP_ex h hb).1
theorem way_none (h : vK w V s) {a b : Nat} (ha : a < n_ft s.1) (hb : b < n_ft s.1) : wayI s.1 a b = -1000 ↔ connB s.1 a b = false := by
  have h1 := dst_conn h ha hb
  unfold wayI
  by_cases e : dst s.1 a b < 1000
  · rw [if_pos e, h1.mp e]
    exact ⟨fun q => (nI_neg (by omega) (by decide) q).elim, fun q => by cases q⟩
  · rw [if_neg e]
    refine ⟨fun _ => ?_, fun _ => rfl⟩
    cases hc : connB s.1 a b with
    | false => rfl
    | true => exact (e (h1.mpr hc)).elim
theorem way_zero (h : vK w V s) {a b : Nat} (ha : a < n_ft s.1) (hb : b < n_ft s.1) : wayI s.1 a b = 0 ↔ a = b := by
  have h1 := dst_zero h ha hb
  unfold wayI
  by_cases e : dst s.1 a b < 1000
  · rw [if_pos e, i_eq0 (by omega)]
    exact h1
  · rw [if_neg e]
    refine ⟨fun q => absurd q (by decide), fun q => ?_⟩
    have := h1.mpr q
    omega
theorem way_symm (h : vK w V s) {a b : Nat} (ha : a < n_ft s.1) (hb : b < n_ft s.1) : wayI s.1 a b = wayI s.1 b a := by
  unfold wayI
  rw [dst_symm h ha hb]
theorem cut_conn (h : vK w V s) {a b : Nat} (ha : a < n_ft s.1) (hb : b < n_ft s.1) : 0 < cutN s.1 a b ↔ connB s.1 a b = true := by
  obtain ⟨c1, c2, c3⟩ := cut_ok h ha hb
  rw [connB_t]
  constructor
  · intro hpos
    refine Classical.byContradiction fun hn => ?_
    obtain ⟨S, s1, s2, s3⟩ := not_conn hn
    have hd : ∀ v, Decidable (S v) := fun v => Classical.propDecidable _
    have hc := c2 (fun v => decide (S v)) (decide_eq_true s2) (decide_eq_false s3)
    have : leav (n_fs s.1) (n_sn s.1) (n_op s.1) (n_pt s.1) (fun v => decide (S v)) = 0 := by
      unfold leav
      refine cnt_zero _ fun p hp => ?_
      cases ho : n_op s.1 p with
      | false => rfl
      | true =>
        have := s1 p ho
        simp [this]
    omega
  · intro hc
    refine Classical.byContradiction fun hn => ?_
    rcases c3 with c3 | ⟨S, s1, s2, s3⟩
    · omega
    · have hz : leav (n_fs s.1) (n_sn s.1) (n_op s.1) (n_pt s.1) S = 0 := by omega
      unfold leav at hz
      have hz := cnt_zero_of _ hz
      have := hc (fun v => S v = true) (fun p hp => by
        have := hz p (n_op_lt hp)
        rw [hp] at this
        have e : S (n_fs s.1 p) = S (n_sn s.1 p) := by simpa using this
        show S _ = true ↔ S _ = true
        rw [e]) s1
      rw [s2] at this
      cases this
noncomputable def nwB (N : nT) (a l : Nat) : Bool := @decide (∀ o, o < l → conn (n_fs N) (n_sn N) (n_op N) a o → a ≤ o) (Classical.propDecidable _)
theorem nwB_t {N : nT} {a l : Nat} : nwB N a l = true ↔ ∀ o, o < l → conn (n_fs N) (n_sn N) (n_op N) a o → a ≤ o := by unfold nwB; simp
theorem nwB_s {N : nT} {a l : Nat} : nwB N a (l + 1) = (nwB N a l && (!connB N a l || decide (a ≤ l))) := by
  rw [Bool.eq_iff_iff, Bool.and_eq_true, nwB_t, nwB_t, Bool.or_eq_true, decide_eq_true_eq, Bool.not_eq_true']
  constructor
  · intro h
    refine ⟨fun o ho => h o (by omega), ?_⟩
    cases hc : connB N a l with
    | false => exact Or.inl rfl
    | true => exact Or.inr (h l (by omega) (connB_t.mp hc))
  · rintro ⟨h1, h2⟩ o ho hc
    by_cases e : o = l
    · rcases h2 with h2 | h2
      · rw [e] at hc
        rw [connB_t.mpr hc] at h2
        cases h2
      · rw [e]; exact h2
    · exact h1 o (by omega) hc
theorem nwB_n {N : nT} {a n : Nat} (ha : a < n) : nwB N a n = @decide (newc (n_fs N) (n_sn N) (n_op N) a) (Classical.propDecidable _) := by
  rw [Bool.eq_iff_iff, nwB_t, @decide_eq_true_eq _ (Classical.propDecidable _)]
  constructor
  · intro h u hu hc
    have := h u (by omega) (conn_symm hc)
    omega
  · intro h o _ hc
    refine Classical.byContradiction fun hn => h o (by omega) (conn_symm hc)
theorem bI_and (a b : Bool) : bI a &&& bI b = bI (a && b) := by cases a <;> cases b <;> decide
set_option maxHeartbeats 2000000 in
theorem s_pairs24 (h : vK w V s) {a : Nat} (ha : a < n_ft s.1) {kx : Int32 → Int32 → Int32 → am_V → am_R} {P : am_P} {g : Int32} (hk : ∀ W k, frU V W → TT (kx (nI 1) (bI (nwB s.1 a (n_ft s.1))) k W) P) : TT (lp_L_arePairs_24 g (nI a) kx 17 (nI 1) (nI 1) (nI 0) V) P := by
  have w1 := h.wn.1
  have e0 : bI (nwB s.1 a 0) = nI 1 := by
    rw [nwB_t.mpr (fun o ho => by omega)]; rfl
  refine lr_L_arePairs_24 (I := fun n9 x y k V9 => frU V V9 ∧ ∃ l, x = nI 1 ∧ y = bI (nwB s.1 a l) ∧ k = nI l ∧ n9 = n_ft s.1 - l ∧ l ≤ n_ft s.1) ?_ (n_ft s.1) 17 (by omega) _ _ _ V ⟨frU.r V, 0, rfl, e0.symm, rfl, rfl, by omega⟩
  rintro n9 kr hkr x y k V9 ⟨f9, l, rfl, rfl, rfl, rfl, l1⟩
  have h9 := vK_fU h f9
  unfold bd_L_arePairs_24
  rw [if_neg (by decide), k_fc h9, rIe]
  by_cases hl : n_ft s.1 ≤ l
  · rw [if_pos (by rw [i_leE (by omega) (by omega)]; exact hl)]
    have e : l = n_ft s.1 := by omega
    subst e
    exact hk _ _ f9
  · have hl' : l < n_ft s.1 := by omega
    rw [if_neg (by rw [i_leE (by omega) (by omega)]; exact hl)]
    refine TT.I (t_way h9 ha hl') ?_
    rintro x W1 ⟨f1, rfl⟩
    have h1 := vK_fU h9 f1
    rw [k_conn h1 ha hl', rIe]
    have z1 := way_none h ha hl'
    have z2 := way_zero h ha hl'
    have z3 := way_symm h hl' ha
    have z4 := cut_conn h ha hl'
    refine TT.Bj (R := fun j' => TT (j' (bI (!connB s.1 a l || decide (a ≤ l))) W1) P) ?_ ?_
    · try dsimp only
      refine TT.I (t_way2 h1 ha hl') ?_
      rintro x W2 ⟨f2, rfl⟩
      have h2 := vK_fU h1 f2
      have next : ∀ W3, frU V W3 → TT (kr (nI 1) (bI (nwB s.1 a l) &&& bI (!connB s.1 a l || decide (a ≤ l))) (nI l + nI 1) W3) P := by
        intro W3 f3
        rw [bI_and, i_add1, ← nwB_s]
        exact hkr (n_ft s.1 - (l + 1)) (by omega) _ _ _ _ ⟨f3, l + 1, rfl, rfl, rfl, rfl, by omega⟩
      refine TT.Bj (R := fun j' => ∀ W3, frU V W3 → TT (j' (nI 1) W3) P) ?_ ?_
      · intro W3 f3
        have h3 := vK_fU h f3
        simp only [rBe]
        rw [if_neg (by decide)]
        by_cases e : a = l
        · rw [if_pos (by rw [e])]
          exact next W3 f3
        · rw [if_neg (by rw [i_eqE (by omega) (by omega)]; exact e)]
          refine TT.I (t_dis h3 ha hl' e) ?_
          rintro x W4 ⟨f4, rfl⟩
          have h4 := vK_fU h3 f4
          have hc := (cut_ok h ha hl').1
          rw [k_cut h4 ha hl' e, rIe, if_neg (fun q => q rfl), k_cut h4 ha hl' e, rIe]
          by_cases e2 : cutN s.1 a l = 0
          · have : connB s.1 a l = false := by
              cases hcb : connB s.1 a l with
              | false => rfl
              | true =>
                have := z4.mpr hcb
                omega
            rw [if_pos (by rw [i_le0 (by omega)]; exact e2), this, if_neg (fun q => q rfl)]
            rw [this] at next
            exact next W4 (f3.t f4)
          · have : connB s.1 a l = true := z4.mp (by omega)
            rw [if_neg (by rw [i_le0 (by omega)]; exact e2), this, if_neg (fun q => q rfl)]
            rw [this] at next
            exact next W4 (f3.t f4)
      · intro j' hj
        simp only [rBe]
        rw [if_neg (fun q => q trivial)]
        have e1 : (if wayI s.1 a l = -1000 then nI 0 else nI 1) = bI (connB s.1 a l) := by
          cases hcb : connB s.1 a l with
          | false => rw [if_pos (z1.mpr hcb)]; rfl
          | true => rw [if_neg (fun q => by rw [z1.mp q] at hcb; cases hcb)]; rfl
        have rest : TT (if ¬ wayI s.1 a l = 0 then (if ¬ nI a = nI l then (if ¬ nI 0 = nI 0 then j' (nI 0) W2 else rI (d_L_wayCost (nI l) (nI a) W2) fun y12 V11 => if ¬ y12 = wayI s.1 a l then j' (nI 0) V11 else j' (nI 1) V11) else (if ¬ nI 0 = nI 1 then j' (nI 0) W2 else rI (d_L_wayCost (nI l) (nI a) W2) fun y12 V11 => if ¬ y12 = wayI s.1 a l then j' (nI 0) V11 else j' (nI 1) V11)) else (if ¬ nI a = nI l then (if ¬ nI 1 = nI 0 then j' (nI 0) W2 else rI (d_L_wayCost (nI l) (nI a) W2) fun y12 V11 => if ¬ y12 = wayI s.1 a l then j' (nI 0) V11 else j' (nI 1) V11) else (if ¬ nI 1 = nI 1 then j' (nI 0) W2 else rI (d_L_wayCost (nI l) (nI a) W2) fun y12 V11 => if ¬ y12 = wayI s.1 a l then j' (nI 0) V11 else j' (nI 1) V11))) P := by
          have last : TT (rI (d_L_wayCost (nI l) (nI a) W2) fun y12 V11 => if ¬ y12 = wayI s.1 a l then j' (nI 0) V11 else j' (nI 1) V11) P := by
            refine TT.I (t_way h2 hl' ha) ?_
            rintro x W3 ⟨f3, rfl⟩
            rw [if_neg (fun q => q z3)]
            exact hj W3 (((f9.t f1).t f2).t f3)
          by_cases e2 : a = l
          · rw [if_neg (fun q => q (z2.mpr e2)), if_neg (fun q => q (by rw [e2])), if_neg (fun q => q rfl)]
            exact last
          · rw [if_pos (fun q => e2 (z2.mp q)), if_pos (by rw [i_eqE (by omega) (by omega)]; exact e2), if_neg (fun q => q rfl)]
            exact last
        cases hcb : connB s.1 a l with
        | false =>
          rw [if_pos (z1.mpr hcb), if_neg (fun q => q rfl)]
          exact rest
        | true =>
          rw [if_neg (fun q => by rw [z1.mp q] at hcb; cases hcb), if_neg (fun q => q rfl)]
          exact rest
    · intro j' hj
      simp only [rBe]
      cases hcb : connB s.1 a l with
      | false =>
        rw [hcb] at hj
        rw [if_pos (by decide)]
        exact hj
      | true =>
        rw [hcb] at hj
        rw [if_neg (by decide)]
        by_cases e : l < a
        · rw [if_pos (by rw [i_ltE (by omega) (by omega)]; exact e)]
          rw [decide_eq_false (by omega)] at hj
          exact hj
        · rw [if_neg (by rw [i_ltE (by omega) (by omega)]; exact e)]
          rw [decide_eq_true (by omega)] at hj
          exact hj
theorem t_pairs (h : vK w V s) : TI (d_L_arePairs V) (fun x W => frU V W ∧ x = nI 1) := by
  have w1 := h.wn.1
  rw [TI.T]
  unfold d_L_arePairs
  refine lr_L_arePairs_6 (I := fun n9 x y k V9 => frU V V9 ∧ ∃ a, x = nI (nGroups (n_fs s.1) (n_sn s.1) (n_op s.1) a) ∧ y = nI 1 ∧ k = nI a ∧ n9 = n_ft s.1 - a ∧ a ≤ n_ft s.1) ?_ (n_ft s.1) 17 (by omega) _ _ _ V ⟨frU.r V, 0, rfl, rfl, rfl, rfl, by omega⟩
  rintro n9 kr hkr x y k V9 ⟨f9, a, rfl, rfl, rfl, rfl, a1⟩
  have h9 := vK_fU h f9
  unfold bd_L_arePairs_6
  rw [if_neg (by decide), k_fc h9, rIe]
  by_cases hl : n_ft s.1 ≤ a
  · rw [if_pos (by rw [i_leE (by omega) (by omega)]; exact hl)]
    have e : a = n_ft s.1 := by omega
    subst e
    simp only [rBe]
    rw [if_neg (by decide), k_grp h9, rIe, if_neg (fun q => q rfl)]
    refine TT.I (t_edges h9) ?_
    rintro x W ⟨f1, rfl⟩
    rw [if_neg (by decide), nb1, rGt]
    exact TT.ret ⟨_, rfl, f9.t f1, rfl⟩
  · have hl' : a < n_ft s.1 := by omega
    rw [if_neg (by rw [i_leE (by omega) (by omega)]; exact hl)]
    refine s_pairs24 h9 hl' ?_
    intro W k f1
    have es : nGroups (n_fs s.1) (n_sn s.1) (n_op s.1) (a + 1) = nGroups (n_fs s.1) (n_sn s.1) (n_op s.1) a + (if nwB s.1 a (n_ft s.1) = true then 1 else 0) := by
      rw [nwB_n hl']
      rfl
    simp only [rBe]
    cases hb : nwB s.1 a (n_ft s.1) with
    | false =>
      rw [if_pos (by decide), nI_add, i_add1]
      exact hkr (n_ft s.1 - (a + 1)) (by omega) _ _ _ _ ⟨f9.t f1, a + 1, by rw [es, hb]; rfl, rfl, rfl, rfl, by omega⟩
    | true =>
      rw [if_neg (by decide), nI_add, i_add1]
      exact hkr (n_ft s.1 - (a + 1)) (by omega) _ _ _ _ ⟨f9.t f1, a + 1, by rw [es, hb]; rfl, rfl, rfl, rfl, by omega⟩
end
