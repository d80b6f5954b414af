/-! ===== the law's checks: the packets ===== -/
theorem popc_full : ∀ t, t < 8 → popc (2 ^ t - 1) = t := by decide
theorem cnt_ext {p : Nat → Bool} : ∀ n k, k ≤ n → (∀ j, k ≤ j → p j = false) → cnt p n = cnt p k := by
  intro n
  induction n with
  | zero => intro k hk _; rw [show k = 0 by omega]
  | succ n ih =>
    intro k hk h
    by_cases e : k = n + 1
    · rw [e]
    · rw [cnt_s, h n (by omega), ih k (by omega) h]
      rfl
theorem d_same {x : UInt64} (h : FP.Core.dIsNaN x = false) : Op.cmpValue (FP.dcmp x x) .l = 0 := by
  rw [show FP.dcmp x x = some .eq from FP.Core.dcmp_self ((FP.Core.notNaN_iff x).mp h)]
  rfl
theorem rDe {x : UInt64} {V : am_V} {f : UInt64 → am_V → am_R} : rD (some (.inl (some (.double x)), V)) f = f x V := id rfl
theorem pos_nI {k : Nat} (hk : k < 2147483648) (h : 0 < k) : (0 : Int32) < nI k := by
  have := i_ltE (a := 0) (b := k) (by omega) hk
  rw [show (nI 0 : Int32) = 0 from rfl] at this
  rw [this]
  exact h
theorem sub_self32 (x : Int32) : x - x = 0 := by
  have : x = nI x.toBitVec.toNat := by
    rw [← Int32.toBitVec_inj]
    show x.toBitVec = BitVec.ofNat 32 _
    rw [BitVec.ofNat_toNat, BitVec.setWidth_eq]
  rw [this, i_sub (Nat.le_refl _), Nat.sub_self]
  rfl
section
variable {w : Nat} {V : am_V} {s : sT}
theorem loss_nn (h : vK w V s) : FP.Core.fIsNaN (lossF s) = false := by
  unfold lossF
  by_cases e : a_se s.2.2 = 0
  · rw [if_pos e]; decide
  · rw [if_neg e]; exact quo_f (se_lt h) e
theorem mean_nn (h : vK w V s) : FP.Core.dIsNaN (meanD s) = false := by
  unfold meanD
  by_cases e : a_se s.2.2 = 0
  · rw [if_pos e]; decide
  · rw [if_neg e]; exact quo_d (se_lt h) e
theorem tot_0 (h : vK w V s) (e : c_st s.2.1 = 0) : tot s.2.1 = 0 := by
  obtain ⟨a, b⟩ := h.c.2.2.2.2.1 e
  unfold tot
  rw [a, b]
  rfl
theorem hd_pop (h : vK w V s) {f : Nat} (hf : f < n_ft s.1) : cnt (fun p => (c_hd s.2.1 f).testBit p) (tot s.2.1) = popc (c_hd s.2.1 f) := by
  have t7 := wC_tot h.c
  have hl := h.c.2.2.2.2.2.2 f hf
  unfold popc
  refine (cnt_ext 7 _ t7 fun j hj => ?_).symm
  exact Nat.testBit_lt_two_pow (Nat.lt_of_lt_of_le hl (Nat.pow_le_pow_right (by omega) hj))
set_option maxHeartbeats 4000000 in
theorem t_packets (h : vK w V s) : TI (d_L_arePackets V) (fun x W => frU V W ∧ x = nI 1) := by
  have w1 := h.wn.1
  have w2 := h.wn.2.1
  have t7 := wC_tot h.c
  rw [TI.T]
  unfold d_L_arePackets
  rw [k_fc h, rIe, k_src h, rIe]
  refine TT.Bj (R := fun j => TT (j (if c_st s.2.1 = 0 then nI 0 else nI 1) V) (fun r W => ∃ x, r = .inl (some (.int x)) ∧ frU V W ∧ x = nI 1)) ?_ ?_
  · try dsimp only
    rw [k_fbp h (by omega), rIe]
    simp only [rBe]
    have e1 : fbI s (n_ft s.1) = -1000 := by unfold fbI; rw [if_neg (by omega)]
    have e2 : puI s (n_pt s.1) = -1000 := by unfold puI; rw [if_neg (by omega)]
    rw [e1, if_neg (fun q => q rfl), k_pc h, rIe, k_pbu h (by omega), rIe, e2, if_neg (fun q => q rfl), k_pbuN h, rIe, if_neg (fun q => q rfl)]
    refine lr_L_arePackets_69 (I := fun n9 a b k V9 => frU V V9 ∧ ∃ j, a = nI (cnt (covB s.2.1) j) ∧ b = nI 1 ∧ k = nI j ∧ n9 = n_ft s.1 - j ∧ j ≤ n_ft s.1) ?_ (n_ft s.1) 17 (by omega) _ _ _ V ⟨frU.r V, 0, rfl, rfl, rfl, rfl, by omega⟩
    rintro n9 kr hkr a b k V9 ⟨f9, j, rfl, rfl, rfl, rfl, j1⟩
    have h9 := vK_fU h f9
    unfold bd_L_arePackets_69
    rw [if_neg (by decide)]
    by_cases hj : n_ft s.1 ≤ j
    · rw [if_pos (by rw [i_leE (by omega) (by omega)]; exact hj)]
      have e : j = n_ft s.1 := by omega
      subst e
      refine lr_L_arePackets_222 (I := fun n9 b k V8 => frU V V8 ∧ ∃ l, b = nI 1 ∧ k = nI l ∧ n9 = 17 - l ∧ 1 ≤ l ∧ (l ≤ n_ft s.1 ∨ l = 1)) ?_ 16 17 (by omega) _ _ V9 ⟨f9, 1, rfl, rfl, rfl, by omega, by omega⟩
      rintro n8 kr2 hkr2 b k V8 ⟨f8, l, rfl, rfl, rfl, l1, l2⟩
      have h8 := vK_fU h f8
      unfold bd_L_arePackets_222
      rw [if_neg (by decide)]
      by_cases hl : n_ft s.1 ≤ l
      · rw [if_pos (by rw [i_leE (by omega) (by omega)]; exact hl)]
        refine lr_L_arePackets_324 (I := fun n9 b k V7 => frU V V7 ∧ ∃ q, b = nI 1 ∧ k = nI q ∧ n9 = 17 - q ∧ 1 ≤ q ∧ (q ≤ n_pt s.1 ∨ q = 1)) ?_ 16 17 (by omega) _ _ V8 ⟨f8, 1, rfl, rfl, rfl, by omega, by omega⟩
        rintro n7 kr3 hkr3 b k V7 ⟨f7, q, rfl, rfl, rfl, q1, q2⟩
        have h7 := vK_fU h f7
        unfold bd_L_arePackets_324
        rw [if_neg (by decide), k_pc h7, rIe]
        by_cases hq : n_pt s.1 ≤ q
        · rw [if_pos (by rw [i_leE (by omega) (by omega)]; exact hq)]
          simp only [rBe]
          rw [if_neg (by decide), k_cc h7, rIe, if_neg (fun z => z rfl), k_loss h7, rFe, k_se h7, rIe]
          have ls := f_same (loss_nn h)
          have ms := d_same (mean_nn h)
          by_cases e0 : a_se s.2.2 = 0
          · have el : lossF s = 3212836864 := by unfold lossF; rw [if_pos e0]
            have em : meanD s = 13830554455654793216 := by unfold meanD; rw [if_pos e0]
            rw [el] at ls ⊢
            rw [em] at ms
            rw [if_neg (by rw [e0]; decide), if_neg (fun z => z ls), k_mean h7, rDe, k_se h7, rIe, em, if_neg (by rw [e0]; decide), if_neg (fun z => z ms), nb1, rGt]
            exact TT.ret ⟨_, rfl, f7, rfl⟩
          · have el : lossF s = FP.fdiv (FP.i2f (nI (a_lo s.2.2))) (FP.i2f (nI (a_se s.2.2))) := by unfold lossF; rw [if_neg e0]
            have em : meanD s = FP.ddiv (FP.i2d (nI (a_sp s.2.2))) (FP.i2d (nI (a_se s.2.2))) := by unfold meanD; rw [if_neg e0]
            rw [if_pos (by rw [i_eq0 (se_lt h)]; exact e0), k_lo h7, rIe, k_se h7, rIe, ← el, f_n32 (loss_nn h), rGt, if_neg (fun z => z ls), k_mean h7, rDe, k_se h7, rIe, if_pos (by rw [i_eq0 (se_lt h)]; exact e0), k_sp h7, rIe, k_se h7, rIe, ← em, d_n64 (mean_nn h), rGt, if_neg (fun z => z ms), nb1, rGt]
            exact TT.ret ⟨_, rfl, f7, rfl⟩
        · have k1 : q - 1 < n_pt s.1 := by omega
          have k2 : q < n_pt s.1 := by omega
          obtain ⟨m1, m2⟩ := pbu_ok s k1
          obtain ⟨m3, m4⟩ := pbu_ok s k2
          have hah := (rank_lt (ahP_strict s (n_pt s.1)) m1 m3).mp (by omega)
          have c1 := (h.wn.2.2.2.2.1 _ m1).2.2.2.2.1
          have c2 := (h.wn.2.2.2.2.1 _ m3).2.2.2.2.1
          have u1 := us_lt h m1
          have u2 := us_lt h m3
          have b1 := h.wn.2.1
          rw [ahP_t] at hah
          have p1 : puI s (q - 1) = nI (pbu s (q - 1)) := by unfold puI; rw [if_pos k1]
          have p2 : puI s q = nI (pbu s q) := by unfold puI; rw [if_pos k2]
          rw [if_neg (by rw [i_leE (by omega) (by omega)]; exact hq), i_sub q1, k_pbu h7 (by omega), rIe, k_pbu h7 (by omega), rIe, p1, p2, k_us h7 m1, rIe, k_us h7 m3, rIe, k_co h7 m3, rIe, k_co h7 m1, rIe]
          simp only [rBe]
          have next : TT (kr3 (nI 1) (nI q + nI 1) V7) (fun r W => ∃ x, r = .inl (some (.int x)) ∧ frU V W ∧ x = nI 1) := by
            rw [i_add1]
            exact hkr3 (17 - (q + 1)) (by omega) _ _ _ ⟨f7, q + 1, rfl, rfl, rfl, by omega, by omega⟩
          by_cases z1 : a_us s.2.2 (pbu s q) < a_us s.2.2 (pbu s (q - 1))
          · rw [i_sub (show a_us s.2.2 (pbu s q) ≤ a_us s.2.2 (pbu s (q - 1)) by omega), if_pos (pos_nI (by omega) (by omega))]
            exact next
          · have z2 : a_us s.2.2 (pbu s (q - 1)) = a_us s.2.2 (pbu s q) := by omega
            rw [z2, sub_self32, if_neg (by decide), if_neg (fun z => z rfl)]
            by_cases z3 : n_co s.1 (pbu s (q - 1)) < n_co s.1 (pbu s q)
            · rw [i_sub (show n_co s.1 (pbu s (q - 1)) ≤ n_co s.1 (pbu s q) by omega), if_pos (pos_nI (by omega) (by omega))]
              exact next
            · have z4 : n_co s.1 (pbu s (q - 1)) = n_co s.1 (pbu s q) := by omega
              rw [z4, sub_self32, if_neg (by decide), if_neg (fun z => z rfl), if_neg (by rw [i_leE (by omega) (by omega)]; omega)]
              exact next
      · have k1 : l - 1 < n_ft s.1 := by omega
        have k2 : l < n_ft s.1 := by omega
        obtain ⟨m1, m2⟩ := fbp_ok s k1
        obtain ⟨m3, m4⟩ := fbp_ok s k2
        have hah := (rank_lt (ahF_strict s (n_ft s.1)) m1 m3).mp (by omega)
        have c1 := h.wn.2.2.2.1 _ m1
        have c2 := h.wn.2.2.2.1 _ m3
        have u1 := popc_le (c_hd s.2.1 (fbp s (l - 1)))
        have u2 := popc_le (c_hd s.2.1 (fbp s l))
        rw [ahF_t] at hah
        have p1 : fbI s (l - 1) = nI (fbp s (l - 1)) := by unfold fbI; rw [if_pos k1]
        have p2 : fbI s l = nI (fbp s l) := by unfold fbI; rw [if_pos k2]
        rw [if_neg (by rw [i_leE (by omega) (by omega)]; exact hl), i_sub l1, k_fbp h8 (by omega), rIe, k_fbp h8 (by omega), rIe, p1, p2, k_pk h8 m1, rIe, k_pk h8 m3, rIe, k_sh h8 m1, rIe, k_sh h8 m3, rIe]
        simp only [rBe]
        have next : TT (kr2 (nI 1) (nI l + nI 1) V8) (fun r W => ∃ x, r = .inl (some (.int x)) ∧ frU V W ∧ x = nI 1) := by
          rw [i_add1]
          exact hkr2 (17 - (l + 1)) (by omega) _ _ _ ⟨f8, l + 1, rfl, rfl, rfl, by omega, by omega⟩
        by_cases z1 : popc (c_hd s.2.1 (fbp s l)) < popc (c_hd s.2.1 (fbp s (l - 1)))
        · rw [i_sub (show popc (c_hd s.2.1 (fbp s l)) ≤ popc (c_hd s.2.1 (fbp s (l - 1))) by omega), if_pos (pos_nI (by omega) (by omega))]
          exact next
        · have z2 : popc (c_hd s.2.1 (fbp s (l - 1))) = popc (c_hd s.2.1 (fbp s l)) := by omega
          rw [z2, sub_self32, if_neg (by decide), if_neg (fun z => z rfl)]
          by_cases z3 : n_sh s.1 (fbp s l) < n_sh s.1 (fbp s (l - 1))
          · rw [i_sub (show n_sh s.1 (fbp s l) ≤ n_sh s.1 (fbp s (l - 1)) by omega), if_pos (pos_nI (by omega) (by omega))]
            exact next
          · have z4 : n_sh s.1 (fbp s (l - 1)) = n_sh s.1 (fbp s l) := by omega
            rw [z4, sub_self32, if_neg (by decide), if_neg (fun z => z rfl), if_neg (by rw [i_leE (by omega) (by omega)]; omega)]
            exact next
    · have hj' : j < n_ft s.1 := by omega
      rw [if_neg (by rw [i_leE (by omega) (by omega)]; exact hj)]
      refine TT.Bj (R := fun j' => TT (j' (nI (tot s.2.1)) V9) (fun r W => ∃ x, r = .inl (some (.int x)) ∧ frU V W ∧ x = nI 1)) ?_ ?_
      · try dsimp only
        refine lr_L_arePackets_104 (I := fun n9 a k V8 => V8 = V9 ∧ ∃ l, a = nI (cnt (fun p => (c_hd s.2.1 j).testBit p) l) ∧ k = nI l ∧ n9 = tot s.2.1 - l ∧ l ≤ tot s.2.1) ?_ (tot s.2.1) 17 (by omega) _ _ V9 ⟨rfl, 0, rfl, rfl, rfl, by omega⟩
        rintro n8 kr2 hkr2 a k V8 ⟨rfl, l, rfl, rfl, rfl, l1⟩
        unfold bd_L_arePackets_104
        by_cases hl : tot s.2.1 ≤ l
        · rw [if_pos (by rw [i_leE (by omega) (by omega)]; exact hl)]
          have e : l = tot s.2.1 := by omega
          subst e
          rw [hd_pop h hj']
          have next : ∀ W, frU V W → TT (kr (nI (cnt (covB s.2.1) j) + nI (if covB s.2.1 j = true then 1 else 0)) (nI 1) (nI j + nI 1) W) (fun r W => ∃ x, r = .inl (some (.int x)) ∧ frU V W ∧ x = nI 1) := by
            intro W fW
            rw [nI_add, i_add1]
            exact hkr (n_ft s.1 - (j + 1)) (by omega) _ _ _ _ ⟨fW, j + 1, rfl, rfl, rfl, rfl, by omega⟩
          refine TT.Bj (R := fun j' => TT (j' (bI (covB s.2.1 j)) V8) (fun r W => ∃ x, r = .inl (some (.int x)) ∧ frU V W ∧ x = nI 1)) ?_ ?_
          · try dsimp only
            refine TT.Bj (R := fun j' => TT (j' (nI (if covB s.2.1 j = true then 1 else 0)) V8) (fun r W => ∃ x, r = .inl (some (.int x)) ∧ frU V W ∧ x = nI 1)) ?_ ?_
            · try dsimp only
              rw [k_pk h9 hj', rIe]
              simp only [rBe]
              rw [if_neg (fun z => z trivial)]
              refine TT.I (t_wf h9 hj') ?_
              rintro x W ⟨f1, rfl⟩
              cases hc : covB s.2.1 j with
              | false =>
                have e4 : wfN s.2.1 j = 4 + tot s.2.1 + 0 := by unfold wfN; rw [hc]; rfl
                rw [if_pos (by decide), e4, nI_add, nI_add, if_neg (fun z => z rfl)]
                rw [hc] at next
                exact next W (f9.t f1)
              | true =>
                have e4 : wfN s.2.1 j = 4 + tot s.2.1 + 1 := by unfold wfN; rw [hc]; rfl
                rw [if_neg (by decide), e4, nI_add, nI_add, if_neg (fun z => z rfl)]
                rw [hc] at next
                exact next W (f9.t f1)
            · intro j' hj2
              cases hc : covB s.2.1 j with
              | false => rw [hc] at hj2; rw [if_pos (by decide)]; exact hj2
              | true => rw [hc] at hj2; rw [if_neg (by decide)]; exact hj2
          · intro j' hj2
            simp only [rBe]
            by_cases e0 : c_st s.2.1 = 0
            · have hc : covB s.2.1 j = false := by unfold covB; rw [e0]; rfl
              rw [hc] at hj2
              rw [if_pos e0, if_pos (show nI 0 = 0 from rfl)]
              exact hj2
            · rw [if_neg e0, if_neg (by decide), k_cov h9 hj' (by omega), rIe]
              cases hc : covB s.2.1 j with
              | false => rw [hc] at hj2; rw [if_pos (by decide)]; exact hj2
              | true => rw [hc] at hj2; rw [if_neg (by decide)]; exact hj2
        · have hst : 0 < c_st s.2.1 := by
            refine Classical.byContradiction fun q => ?_
            have := tot_0 h (by omega)
            omega
          rw [if_neg (by rw [i_leE (by omega) (by omega)]; exact hl), k_has h9 hj' hst (by omega), rIe]
          simp only [rBe]
          cases hb : (c_hd s.2.1 j).testBit l with
          | false =>
            rw [if_pos (by decide), nI_add, i_add1]
            exact hkr2 (tot s.2.1 - (l + 1)) (by omega) _ _ _ ⟨rfl, l + 1, by rw [cnt_s, hb]; rfl, rfl, rfl, by omega⟩
          | true =>
            rw [if_neg (by decide), nI_add, i_add1]
            exact hkr2 (tot s.2.1 - (l + 1)) (by omega) _ _ _ ⟨rfl, l + 1, by rw [cnt_s, hb]; rfl, rfl, rfl, by omega⟩
      · intro j' hj2
        by_cases e0 : c_st s.2.1 = 0
        · rw [if_pos e0, if_pos (show nI 0 = 0 from rfl)]
          rw [tot_0 h e0] at hj2
          exact hj2
        · obtain ⟨o1, o2, o3, o4⟩ := h.c.2.2.2.2.2.1 (by omega)
          rw [if_neg e0, if_neg (by decide), k_src h9, rIe]
          unfold srcI
          rw [if_neg e0, k_pk h9 o1, rIe, o4]
          unfold allP
          rw [popc_full _ (by omega)]
          exact hj2
  · intro j hj
    unfold srcI
    by_cases e0 : c_st s.2.1 = 0
    · rw [if_pos e0] at hj
      rw [if_pos e0, if_pos rfl]
      exact hj
    · obtain ⟨o1, o2, o3, o4⟩ := h.c.2.2.2.2.2.1 (by omega)
      rw [if_neg e0] at hj
      rw [if_neg e0, if_neg (nI_neg (by omega) (by decide))]
      exact hj
end
