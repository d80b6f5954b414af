/-! ===== groups ===== -/
theorem and_ends {r a b : Nat} : r &&& (2 ^ a ||| 2 ^ b) = 0 ↔ r.testBit a = false ∧ r.testBit b = false := by
  constructor
  · intro h
    have ha := congrArg (fun x => x.testBit a) h
    have hb := congrArg (fun x => x.testBit b) h
    simp [Nat.testBit_and, Nat.testBit_or, Nat.testBit_two_pow] at ha hb
    exact ⟨ha, hb⟩
  · rintro ⟨h1, h2⟩
    apply Nat.eq_of_testBit_eq
    intro i
    simp only [Nat.testBit_and, Nat.testBit_or, Nat.testBit_two_pow, Nat.zero_testBit]
    by_cases e1 : a = i
    · subst e1; simp [h1]
    · by_cases e2 : b = i
      · subst e2; simp [h2]
      · simp [e1, e2]
theorem tb_pow {a i : Nat} : (2 ^ a).testBit i = decide (i = a) := by
  rw [Nat.testBit_two_pow]
  by_cases e : a = i
  · simp [e]
  · simp [e, Ne.symm e]
theorem tb_or1 {r a i : Nat} : (r ||| 2 ^ a).testBit i = (r.testBit i || decide (i = a)) := by rw [Nat.testBit_or, tb_pow]
theorem tb_or2 {r a b i : Nat} : (r ||| (2 ^ a ||| 2 ^ b)).testBit i = (r.testBit i || (decide (i = a) || decide (i = b))) := by rw [Nat.testBit_or, Nat.testBit_or, tb_pow, tb_pow]
theorem pow9 {a : Nat} (h : a < 9) : 2 ^ a < 512 := Nat.pow_lt_pow_right (n := 9) (by omega) h
theorem or512 {r a : Nat} (hr : r < 512) (h : a < 9) : r ||| 2 ^ a < 512 := Nat.or_lt_two_pow (n := 9) hr (pow9 h)
theorem or512' {r a b : Nat} (hr : r < 512) (h : a < 9) (hb : b < 9) : r ||| (2 ^ a ||| 2 ^ b) < 512 := Nat.or_lt_two_pow (n := 9) hr (Nat.or_lt_two_pow (n := 9) (pow9 h) (pow9 hb))
theorem i_eqW {a b : Nat} (ha : a < 4294967296) (hb : b < 4294967296) : (nI a = nI b) = (a = b) := by
  refine propext ⟨fun h => ?_, fun h => by rw [h]⟩
  have h2 : BitVec.ofNat 32 a = BitVec.ofNat 32 b := congrArg Int32.toBitVec h
  have h3 := congrArg BitVec.toNat h2
  rw [BitVec.toNat_ofNat, BitVec.toNat_ofNat] at h3
  omega
theorem m1_nI : (-1 : Int32) = nI 4294967295 := by decide
set_option maxHeartbeats 1000000 in
theorem s_group {V : am_V} {i : Nat} {N : nT} (hN : vN V i N) (hw : wN N) {f sk : Nat} (hf : f < n_ft N) (hsk : sk < 4294967296) :
    TI (d_X9_groupAround i (nI f) (nI sk) V) (fun x W => W = V ∧ ∃ r, x = nI r ∧ r < 512 ∧ ∀ v, v < n_ft N → (r.testBit v = true ↔ conn (n_fs N) (n_sn N) (without (n_op N) sk) f v)) := by
  have w1 := hw.1
  have w2 := hw.2.1
  have hE : ∀ p, without (n_op N) sk p = true → p < n_pt N ∧ n_fs N p < n_ft N ∧ n_sn N p < n_ft N ∧ n_fs N p ≠ n_sn N p := fun p hp => n_opE hw p (without_le hp)
  rw [TI.T]
  unfold d_X9_groupAround
  rw [i_shl1 (by omega)]
  refine lr_X9_groupAround_8 (I := fun n9 a k V9 => V9 = V ∧ ∃ r j, a = nI r ∧ k = nI j ∧ n9 = n_ft N - j ∧ 1 ≤ j ∧ j ≤ n_ft N ∧ r < 512 ∧ r.testBit f = true ∧ (∀ v, v < n_ft N → r.testBit v = true → conn (n_fs N) (n_sn N) (without (n_op N) sk) f v) ∧
    (j ≤ cnt (fun v => r.testBit v) (n_ft N) ∨ ∀ p, without (n_op N) sk p = true → r.testBit (n_fs N p) = r.testBit (n_sn N p))) ?_ (n_ft N - 1) 1000 (by omega) _ _ V ⟨rfl, 2 ^ f, 1, rfl, rfl, rfl, Nat.le_refl _, by omega, pow9 (by omega), by simp [tb_pow], fun v _ hv => ?_, Or.inl ?_⟩
  · rintro n9 kr hkr a k V9 ⟨rfl, r, j, rfl, rfl, rfl, j1, j2, r1, r2, r3, r4⟩
    unfold bd_X9_groupAround_8
    simp (disch := omega) only [hN.2.1, i_leE]
    by_cases hj : n_ft N ≤ j
    · rw [if_pos hj]
      refine TT.ret ⟨_, rfl, rfl, r, rfl, r1, fun v hv => ⟨r3 v hv, fun hc => ?_⟩⟩
      have hcl : ∀ p, without (n_op N) sk p = true → r.testBit (n_fs N p) = r.testBit (n_sn N p) := by
        rcases r4 with q | q
        · intro p hp
          rw [cnt_full (p := fun v => r.testBit v) (n_ft N) (by omega) _ (hE p hp).2.1, cnt_full (p := fun v => r.testBit v) (n_ft N) (by omega) _ (hE p hp).2.2.1]
        · exact q
      exact hc (fun x => r.testBit x = true) (fun p hp => by show _ = true ↔ _ = true; rw [hcl p hp]) r2
    · rw [if_neg hj]
      refine lr_X9_groupAround_20 (I := fun n9 a k V9' => V9' = V9 ∧ ∃ r' q, a = nI r' ∧ k = nI q ∧ n9 = n_pt N - q ∧ q ≤ n_pt N ∧ r' < 512 ∧ r'.testBit f = true ∧ (∀ v, v < n_ft N → r'.testBit v = true → conn (n_fs N) (n_sn N) (without (n_op N) sk) f v) ∧ (∀ v, r.testBit v = true → r'.testBit v = true) ∧
        (cnt (fun v => r.testBit v) (n_ft N) < cnt (fun v => r'.testBit v) (n_ft N) ∨ ((∀ v, v < n_ft N → r'.testBit v = r.testBit v) ∧ ∀ p, p < q → without (n_op N) sk p = true → r.testBit (n_fs N p) = r.testBit (n_sn N p)))) ?_ (n_pt N) 1000 (by omega) _ _ V9 ⟨rfl, r, 0, rfl, rfl, rfl, Nat.zero_le _, r1, r2, r3, fun v h => h, Or.inr ⟨fun v _ => rfl, fun p hp => by omega⟩⟩
      rintro n8 kr2 hkr2 a k V8 ⟨rfl, r', q, rfl, rfl, rfl, q1, s1, s2, s3, s4, s5⟩
      unfold bd_X9_groupAround_20
      simp (disch := omega) only [hN.2.2.1, i_leE]
      by_cases hq : n_pt N ≤ q
      · rw [if_pos hq, i_add1]
        refine hkr (n_ft N - (j + 1)) (by omega) _ _ _ ⟨rfl, r', j + 1, rfl, rfl, rfl, by omega, by omega, s1, s2, s3, ?_⟩
        rcases s5 with s5 | ⟨s5, s6⟩
        · rcases r4 with r4 | r4
          · exact Or.inl (by omega)
          · refine Or.inr fun p hp => ?_
            have agree : ∀ v, v < n_ft N → r'.testBit v = r.testBit v := fun v hv => by
              cases hb : r.testBit v with
              | true => exact s4 v hb
              | false =>
                cases hb' : r'.testBit v with
                | false => rfl
                | true =>
                  have := s3 v hv hb' (fun x => r.testBit x = true) (fun p hp => by show _ = true ↔ _ = true; rw [r4 p hp]) r2
                  rw [hb] at this; cases this
            rw [agree _ (hE p hp).2.1, agree _ (hE p hp).2.2.1]
            exact r4 p hp
        · refine Or.inr fun p hp => ?_
          rw [s5 _ (hE p hp).2.1, s5 _ (hE p hp).2.2.1]
          exact s6 p (by have := (hE p hp).1; omega) hp
      · rw [if_neg hq]
        have hqm : q < n_pt N := by omega
        obtain ⟨b1, b2, b3, b4, b5, b6⟩ := hw.2.2.2.2.1 q hqm
        have hand : r' &&& (2 ^ n_fs N q ||| 2 ^ n_sn N q) < 2147483648 := Nat.lt_of_le_of_lt Nat.and_le_left (by omega)
        rw [q_endsOf hN hw hqm]
        simp (disch := omega) only [rI_ret, rB, i_eqW, i_add1, q_isOpen hN hw, bI0, i_and, i_or, i_eq0, and_ends]
        have stay : without (n_op N) sk q = false ∨ r'.testBit (n_fs N q) = r'.testBit (n_sn N q) → TT (kr2 (nI r') (nI (q + 1)) V8) (fun r V => ∃ x, r = .inl (some (.int x)) ∧ V = V8 ∧ ∃ r, x = nI r ∧ r < 512 ∧ ∀ v, v < n_ft N → (r.testBit v = true ↔ conn (n_fs N) (n_sn N) (without (n_op N) sk) f v)) := by
          intro hst
          refine hkr2 (n_pt N - (q + 1)) (by omega) _ _ _ ⟨rfl, r', q + 1, rfl, rfl, rfl, by omega, s1, s2, s3, s4, ?_⟩
          rcases s5 with s5 | ⟨s5, s6⟩
          · exact Or.inl s5
          · refine Or.inr ⟨s5, fun p hp hEp => ?_⟩
            by_cases e : p = q
            · rw [e] at hEp ⊢
              rcases hst with q9 | q9
              · rw [q9] at hEp; cases hEp
              · rw [← s5 _ b1, ← s5 _ b2]; exact q9
            · exact s6 p (by omega) hEp
        by_cases e1 : q = sk
        · rw [if_pos e1]
          exact stay (Or.inl (by simp [without, e1]))
        · rw [if_neg e1]
          cases e2 : n_op N q with
          | false =>
            rw [if_pos rfl]
            exact stay (Or.inl (by simp [without, e2]))
          | true =>
            rw [if_neg (by decide)]
            by_cases e3 : r'.testBit (n_fs N q) = false ∧ r'.testBit (n_sn N q) = false
            · rw [if_pos e3]
              exact stay (Or.inr (by rw [e3.1, e3.2]))
            · rw [if_neg e3]
              have hEq : without (n_op N) sk q = true := by simp [without, e1, e2]
              have hce := conn_edge (fs := n_fs N) (sn := n_sn N) hEq
              have up : ∀ v, r'.testBit v = true → (r' ||| (2 ^ n_fs N q ||| 2 ^ n_sn N q)).testBit v = true := fun v hv => by rw [tb_or2, hv]; rfl
              refine hkr2 (n_pt N - (q + 1)) (by omega) _ _ _ ⟨rfl, r' ||| (2 ^ n_fs N q ||| 2 ^ n_sn N q), q + 1, rfl, rfl, rfl, by omega, or512' s1 (by omega) (by omega), up f s2, fun v hv hb => ?_, fun v hv => up v (s4 v hv), ?_⟩
              · rw [tb_or2] at hb
                simp only [Bool.or_eq_true, decide_eq_true_eq] at hb
                rcases hb with hb | hb
                · exact s3 v hv hb
                · have hone : conn (n_fs N) (n_sn N) (without (n_op N) sk) f (n_fs N q) ∧ conn (n_fs N) (n_sn N) (without (n_op N) sk) f (n_sn N q) := by
                    cases h1 : r'.testBit (n_fs N q) with
                    | true => exact ⟨s3 _ b1 h1, conn_trans (s3 _ b1 h1) hce⟩
                    | false =>
                      cases h2 : r'.testBit (n_sn N q) with
                      | true => exact ⟨conn_trans (s3 _ b2 h2) (conn_symm hce), s3 _ b2 h2⟩
                      | false => exact (e3 ⟨h1, h2⟩).elim
                  rcases hb with rfl | rfl
                  · exact hone.1
                  · exact hone.2
              · have hle := cnt_mono (p := fun v => r'.testBit v) (q := fun v => (r' ||| (2 ^ n_fs N q ||| 2 ^ n_sn N q)).testBit v) (n_ft N) (fun v _ hv => up v hv)
                by_cases e4 : r'.testBit (n_fs N q) = true ∧ r'.testBit (n_sn N q) = true
                · rcases s5 with s5 | ⟨s5, s6⟩
                  · exact Or.inl (by omega)
                  · refine Or.inr ⟨fun v hv => ?_, fun p hp hEp => ?_⟩
                    · rw [tb_or2, ← s5 v hv]
                      by_cases h1 : v = n_fs N q
                      · rw [h1, e4.1]; rfl
                      · by_cases h2 : v = n_sn N q
                        · rw [h2, e4.2]; rfl
                        · simp [h1, h2]
                    · by_cases e : p = q
                      · rw [e, ← s5 _ b1, ← s5 _ b2, e4.1, e4.2]
                      · exact s6 p (by omega) hEp
                · have hlt : cnt (fun v => r'.testBit v) (n_ft N) < cnt (fun v => (r' ||| (2 ^ n_fs N q ||| 2 ^ n_sn N q)).testBit v) (n_ft N) := by
                    refine cnt_lt _ (fun v _ hv => up v hv) ?_
                    cases h1 : r'.testBit (n_fs N q) with
                    | false => exact ⟨n_fs N q, b1, by rw [tb_or2]; simp, h1⟩
                    | true =>
                      cases h2 : r'.testBit (n_sn N q) with
                      | false => exact ⟨n_sn N q, b2, by rw [tb_or2]; simp, h2⟩
                      | true => exact (e4 ⟨h1, h2⟩).elim
                  rcases s5 with s5 | ⟨s5, s6⟩
                  · exact Or.inl (by omega)
                  · refine Or.inl ?_
                    rw [cnt_congr (p := fun v => r.testBit v) (q := fun v => r'.testBit v) (n_ft N) (fun v hv => (s5 v hv).symm)]
                    exact hlt
  · rw [tb_pow] at hv
    rw [of_decide_eq_true hv]
    exact conn_refl f
  · exact cnt_pos (n_ft N) f hf (by simp [tb_pow])
/-- the groups are counted by their first fields -/
theorem s_groups {V : am_V} {i : Nat} {N : nT} (hN : vN V i N) (hw : wN N) {sk : Nat} (hsk : sk < 4294967296) :
    TI (d_X9_countGroups i (nI sk) V) (fun x W => W = V ∧ x = nI (nGroups (n_fs N) (n_sn N) (without (n_op N) sk) (n_ft N))) := by
  have w1 := hw.1
  rw [TI.T]
  unfold d_X9_countGroups
  refine lr_X9_countGroups_8 (I := fun n9 a b k V9 => V9 = V ∧ ∃ r j, a = nI r ∧ b = nI (nGroups (n_fs N) (n_sn N) (without (n_op N) sk) j) ∧ k = nI j ∧ n9 = n_ft N - j ∧ j ≤ n_ft N ∧ r < 512 ∧ ∀ v, v < n_ft N → (r.testBit v = true ↔ ∃ u, u < j ∧ conn (n_fs N) (n_sn N) (without (n_op N) sk) u v)) ?_ (n_ft N) 1000 (by omega) _ _ _ V ⟨rfl, 0, 0, rfl, rfl, rfl, rfl, Nat.zero_le _, by omega, fun v _ => by simp⟩
  rintro n9 kr hkr a b k V9 ⟨rfl, r, j, rfl, rfl, rfl, rfl, j1, r1, r2⟩
  unfold bd_X9_countGroups_8
  simp (disch := omega) only [hN.2.1, i_leE]
  have hle : nGroups (n_fs N) (n_sn N) (without (n_op N) sk) j ≤ j := cnt_le_n _ _
  by_cases hj : n_ft N ≤ j
  · rw [if_pos hj]
    have e : j = n_ft N := by omega
    subst e
    exact TT.ret ⟨_, rfl, rfl, rfl⟩
  · rw [if_neg hj, q_hasBit V9 (by omega) (by omega)]
    simp only [rI_ret, rB, bI0, i_add1]
    have hj' : j < n_ft N := by omega
    have hd : newc (n_fs N) (n_sn N) (without (n_op N) sk) j ↔ r.testBit j = false := by
      have := r2 j hj'
      unfold newc
      constructor
      · intro h
        cases hb : r.testBit j with
        | false => rfl
        | true =>
          obtain ⟨u, hu, hc⟩ := this.mp hb
          exact (h u hu hc).elim
      · intro h u hu hc
        rw [this.mpr ⟨u, hu, hc⟩] at h
        cases h
    cases hb : r.testBit j with
    | true =>
      rw [if_pos (by decide)]
      refine hkr (n_ft N - (j + 1)) (by omega) _ _ _ _ ⟨rfl, r, j + 1, rfl, ?_, rfl, rfl, by omega, r1, fun v hv => (r2 v hv).trans ⟨?_, ?_⟩⟩
      · have hn : ¬ newc (n_fs N) (n_sn N) (without (n_op N) sk) j := fun h => by rw [hd.mp h] at hb; cases hb
        unfold nGroups
        rw [cnt, if_neg (by simp [hn])]
        rfl
      · rintro ⟨u, hu, hc⟩
        exact ⟨u, by omega, hc⟩
      · rintro ⟨u, hu, hc⟩
        by_cases e : u = j
        · obtain ⟨u2, hu2, hc2⟩ := (r2 j hj').mp hb
          rw [e] at hc
          exact ⟨u2, hu2, conn_trans hc2 hc⟩
        · exact ⟨u, by omega, hc⟩
    | false =>
      rw [if_neg (by decide)]
      refine TT.I (s_group hN hw hj' hsk) ?_
      rintro x W ⟨rfl, g, rfl, g1, g2⟩
      simp only [i_or]
      refine hkr (n_ft N - (j + 1)) (by omega) _ _ _ _ ⟨rfl, r ||| g, j + 1, rfl, ?_, rfl, rfl, by omega, Nat.or_lt_two_pow (n := 9) r1 g1, fun v hv => ?_⟩
      · have hn : newc (n_fs N) (n_sn N) (without (n_op N) sk) j := hd.mpr hb
        unfold nGroups
        rw [cnt, if_pos (by simp [hn])]
      · rw [Nat.testBit_or, Bool.or_eq_true, r2 v hv, g2 v hv]
        constructor
        · rintro (⟨u, hu, hc⟩ | hc)
          · exact ⟨u, by omega, hc⟩
          · exact ⟨j, by omega, hc⟩
        · rintro ⟨u, hu, hc⟩
          by_cases e : u = j
          · rw [e] at hc; exact Or.inr hc
          · exact Or.inl ⟨u, by omega, hc⟩
