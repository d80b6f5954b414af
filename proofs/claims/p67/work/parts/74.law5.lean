/-! ===== the law's checks: the end as foretold; fit ===== -/
theorem lg_same (x : Int64) : lg_cmp x x = 0 := by
  unfold lg_cmp
  rw [if_neg (Int64.lt_irrefl), if_pos rfl]
def hG (w : Nat) (V : am_V) (g : gT) : Prop := vG V g ∧ wG w g ∧ w ≤ 290000
/-- the object has the state s and the snapshot of g -/
def gE (w : Nat) (V : am_V) (g : gT) (W : am_V) (s : sT) (g' : gT) : Prop := frX V W ∧ hG w W g' ∧ g_s g' = s ∧ g_sn g' = g_sn g ∧ g_sv g' = g_sv g
section
variable {w : Nat} {V W : am_V} {g g' g2 : gT} {s s2 : sT}
theorem hG.k (h : hG w V g) : vK w V (g_s g) := vK_G h.1 h.2.1 (by have := h.2.2; omega)
theorem hG.u (h : hG w V g) (f : frU V W) : hG w W g := ⟨vG_fU h.1 f, h.2.1, h.2.2⟩
theorem gE.r (h : hG w V g) : gE w V g V (g_s g) g := ⟨frX.r V, h, rfl, rfl, rfl⟩
theorem gE.u {X : am_V} (h : gE w V g W s g') (f : frU W X) : gE w V g X s g' := ⟨h.1.t f.x, h.2.1.u f, h.2.2⟩
theorem gE.k (h : gE w V g W s g') : vK w W s := by
  have := h.2.1.k
  rw [h.2.2.1] at this
  exact this
theorem m_undo (h : gE w V g W s2 g2) (hk : 0 < g_kp g2) (hs : g_h g2 ((g_nx g2 + 8) % 9) = s) : TI (d_L_undo W) (fun x X => (∃ k, x = nI k ∧ k < 2147483648) ∧ ∃ g3, gE w V g X s g3) := by
  refine (s_L_undo h.2.1.1 h.2.1.2.1).mono ?_
  rintro x X ⟨f, ⟨h1, -⟩ | ⟨-, h2, h3⟩⟩
  · omega
  · have := h.2.1.2.1.2.1
    refine ⟨⟨_, h2, by omega⟩, _, h.1.t f, ⟨h3, ⟨Nat.mod_lt _ (by omega), ?_, ?_, h.2.1.2.1.2.2.2.1, h.2.1.2.1.2.2.2.2⟩, h.2.1.2.2⟩, hs, h.2.2.2⟩
    · show g_kp g2 - 1 ≤ 8
      omega
    · exact h.2.1.2.1.2.2.2.2 _ (Nat.mod_lt _ (by omega))
/-- a call that is refused: all as it was -/
theorem m_fail {m : am_R} {bad : Int32 → Prop} {R : Int32 → sT → Prop} (h : gE w V g W s g') (hm : TI m (lM w g' bad R W)) (hw : w + 30 ≤ 290000) (hn : ∀ x s', ¬ R x s') : TI m (fun x X => x = (-100000000 : Int32) ∧ ∃ g2, gE (w + 30) V g X s g2) := by
  refine hm.mono ?_
  rintro x X ⟨f, g2, h1, h2, h3, h4, ⟨h5, -, h6, h7⟩ | ⟨k, -, -, hR, -⟩⟩
  · exact ⟨h5, g2, h.1.t f, ⟨h1, h2, hw⟩, h6.trans h.2.2.1, h3.trans h.2.2.2.1, h4.trans h.2.2.2.2⟩
  · exact (hn _ _ hR).elim
theorem m_done {m : am_R} {bad : Int32 → Prop} {R : Int32 → sT → Prop} (h : gE w V g W s g') (hm : TI m (lM w g' bad R W)) (hw : w + 30 ≤ 290000) (hn : ¬ (bad (-1) ∨ bad (-2) ∨ bad (-3))) : TI m (fun x X => ∃ k s' g2, x = nI k ∧ k < 100000000 ∧ R (nI k) s' ∧ gE (w + 30) V g X s' g2 ∧ 0 < g_kp g2 ∧ g_h g2 ((g_nx g2 + 8) % 9) = s) := by
  refine hm.mono ?_
  rintro x X ⟨f, g2, h1, h2, h3, h4, ⟨-, h5, -⟩ | ⟨k, hk, hk2, hR, h6, h7⟩⟩
  · exact (hn h5).elim
  · exact ⟨k, g_s g2, g2, hk, hk2, hR, ⟨h.1.t f, ⟨h1, h2, hw⟩, rfl, h3.trans h.2.2.2.1, h4.trans h.2.2.2.2⟩, h6, h7.trans h.2.2.1⟩
theorem gE.m {w' : Nat} (h : gE w V g W s g') (hw : w ≤ w') (hb : w' ≤ 290000) : gE w' V g W s g' := ⟨h.1, ⟨h.2.1.1, h.2.1.2.1.m hw, hb⟩, h.2.2⟩
set_option maxHeartbeats 2000000 in
theorem t_ended (h : hG w V g) (hw : w + 100 ≤ 290000) : TI (d_L_isEnded V) (fun x W => x = nI 1 ∧ ∃ g', gE (w + 90) V g W (g_s g) g') := by
  have hk := h.k
  have e0 := gE.r h
  rw [TI.T]
  unfold d_L_isEnded
  refine TT.J (t_dig hk) ?_
  rintro x V1 ⟨f1, rfl⟩
  refine TT.I (t_wl (vK_fU hk f1)) ?_
  rintro x V3 ⟨f3, rfl⟩
  have f13 := f1.t f3
  have e3 := e0.u f13
  by_cases hr : c_ru (g_s g).2.1 = true
  · -- it runs
    obtain ⟨b1, b2, b3, b4, -⟩ := blow_ok (N := (g_s g).1) (S := (g_s g).2) hk.2.1 hr
    obtain ⟨o1, o2, o3, o4⟩ := endF_ok (N := (g_s g).1) 30 w (g_s g).2 hk.2.1
    have o3 := o3 (by omega)
    obtain ⟨o4, o5⟩ := o4 (by omega) hr
    have ef : endF (g_s g).1 30 (g_s g).2 = ((endF (g_s g).1 29 (blowS (g_s g).1 (g_s g).2)).1, (endF (g_s g).1 29 (blowS (g_s g).1 (g_s g).2)).2 + 1) := by
      rw [show (30 : Nat) = 29 + 1 from rfl, endF, if_pos hr]
    have eg := endF_fuel (N := (g_s g).1) 29 (w + 1) (blowS (g_s g).1 (g_s g).2) b1 (by rw [b2]; omega)
    have wl : wlI (g_s g) = nI (endF (g_s g).1 30 (g_s g).2).2 := by unfold wlI; rw [if_pos hr]
    have el : elI (g_s g) = nI (a_sp (endF (g_s g).1 30 (g_s g).2).1.2) - nI (a_sp (g_s g).2.2) := by unfold elI; rw [if_pos hr]
    rw [wl, if_pos (nI_neg (by omega) (by decide)), k_sp e3.k, rIe]
    refine TT.I (t_el e3.k) ?_
    rintro x V7 ⟨f7, rfl⟩
    have e7 := e3.u f7
    rw [el, k_fi e7.k, rIe, k_fa e7.k, rIe]
    refine TT.Bj (R := fun j => ∀ X g', gE (w + 30) V g X (g_s g) g' → TT (j (nI 1) X) (fun r W => ∃ x, r = .inl (some (.int x)) ∧ x = nI 1 ∧ ∃ g', gE (w + 90) V g W (g_s g) g')) ?_ ?_
    · intro X g15 e15
      try dsimp only
      refine TT.Bj (R := fun j => ∀ X g', gE (w + 60) V g X (g_s g) g' → TT (j (nI 1) X) (fun r W => ∃ x, r = .inl (some (.int x)) ∧ x = nI 1 ∧ ∃ g', gE (w + 90) V g W (g_s g) g')) ?_ ?_
      · intro X g20 e20
        try dsimp only
        refine TT.Bj (R := fun j => ∀ X g', gE (w + 90) V g X (g_s g) g' → TT (j (nI 1) X) (fun r W => ∃ x, r = .inl (some (.int x)) ∧ x = nI 1 ∧ ∃ g', gE (w + 90) V g W (g_s g) g')) ?_ ?_
        · intro X g25 e25
          simp only [rBe]
          rw [if_neg (by decide)]
          refine TT.J (t_dig e25.k) ?_
          rintro x V26 ⟨f26, rfl⟩
          rw [lg_same, if_neg (fun q => q rfl), nb1, rGt]
          exact TT.ret ⟨_, rfl, rfl, _, e25.u f26⟩
        · -- the winds until the end
          intro j258 hj
          simp only [rBe]
          rw [if_neg (by decide)]
          refine TT.I (m_done e20 (s_L_end e20.2.1.1 e20.2.1.2.1 (by omega)) (by omega) ?_) ?_
          · rintro (q | q | q)
            · exact absurd q.1 (by decide)
            · exact absurd q.1 (by decide)
            · have q2 : c_ru (g_s g20).2.1 = false := q.2
              rw [e20.2.2.1, hr] at q2; cases q2
          rintro x V27 ⟨k, s', g27, rfl, hk27, ⟨-, q2, rfl⟩, e27, kp27, h27⟩
          rw [e20.2.2.1] at e27 q2
          rw [q2, if_neg (fun q => q rfl), k_sp e27.k, rIe]
          rw [show nI (a_sp (g_s g).2.2) + (nI (a_sp (endF (g_s g).1 30 (g_s g).2).1.2) - nI (a_sp (g_s g).2.2)) = nI (a_sp (endF (g_s g).1 30 (g_s g).2).1.2) by rw [Int32.add_comm, Int32.sub_add_cancel]]
          rw [if_neg (fun q => q rfl), k_ru e27.k, rIe]
          rw [show c_ru ((g_s g).1, (endF (g_s g).1 30 (g_s g).2).1).2.1 = false from o3, if_neg (by decide), k_fi e27.k, rIe, k_fa e27.k, rIe]
          rw [if_neg (fun q => q (by rw [nI_add, nI_add, i_add1]; exact congrArg nI o5))]
          refine TT.I (t_edges e27.k) ?_
          rintro x V28 ⟨f28, rfl⟩
          have e28 := e27.u f28
          rw [if_neg (by decide)]
          refine TT.I (t_packets e28.k) ?_
          rintro x V29 ⟨f29, rfl⟩
          have e29 := e28.u f29
          rw [if_neg (by decide)]
          refine TT.I (m_undo e29 kp27 h27) ?_
          rintro x V30 ⟨⟨k2, rfl, hk2⟩, g30, e30⟩
          rw [if_neg (i_lt0 hk2)]
          exact hj V30 g30 e30
      · -- one wind
        intro j185 hj
        simp only [rBe]
        rw [if_neg (by decide)]
        refine TT.I (m_done e15 (s_L_wind e15.2.1.1 e15.2.1.2.1 (by omega)) (by omega) ?_) ?_
        · rintro (q | q | q)
          · exact absurd q.1 (by decide)
          · exact absurd q.1 (by decide)
          · have q2 : c_ru (g_s g15).2.1 = false := q.2
            rw [e15.2.2.1, hr] at q2; cases q2
        rintro x V17 ⟨k, s', g17, rfl, hk17, ⟨-, rfl⟩, e17, kp17, h17⟩
        rw [e15.2.2.1] at e17
        rw [if_neg (i_lt0 (by omega))]
        have back : ∀ V19, frU V17 V19 → TT (rI (d_L_arePackets V19) fun y24 V23 => if y24 = 0 then j185 (nI 0) V23 else rI (d_L_undo V23) fun y26 V25 => if y26 < 0 then j185 (nI 0) V25 else j185 (nI 1) V25) (fun r W => ∃ x, r = .inl (some (.int x)) ∧ x = nI 1 ∧ ∃ g', gE (w + 90) V g W (g_s g) g') := by
          intro V19 f19
          have e19 := e17.u f19
          refine TT.I (t_packets e19.k) ?_
          rintro x V29 ⟨f29, rfl⟩
          have e29 := e19.u f29
          rw [if_neg (by decide)]
          refine TT.I (m_undo e29 kp17 h17) ?_
          rintro x V30 ⟨⟨k2, rfl, hk2⟩, g30, e30⟩
          rw [if_neg (i_lt0 hk2)]
          exact hj V30 g30 e30
        rw [ef]
        show TT (if ¬ nI ((endF (g_s g).1 29 (blowS (g_s g).1 (g_s g).2)).2 + 1) = nI 1 then _ else _) _
        have o2' : (endF (g_s g).1 29 (blowS (g_s g).1 (g_s g).2)).2 ≤ 29 := (endF_ok (N := (g_s g).1) 29 (w + 1) _ b1).2.1
        by_cases ec : (endF (g_s g).1 29 (blowS (g_s g).1 (g_s g).2)).2 = 0
        · have hb : c_ru (blowS (g_s g).1 (g_s g).2).1 = false := by
            cases hb : c_ru (blowS (g_s g).1 (g_s g).2).1 with
            | false => rfl
            | true =>
              have := ((endF_ok (N := (g_s g).1) 29 (w + 1) _ b1).2.2.2 (by rw [b2]; omega) hb).1
              omega
          rw [if_neg (by rw [ec]; exact fun q => q rfl), k_ru e17.k, rIe]
          rw [show c_ru ((g_s g).1, blowS (g_s g).1 (g_s g).2).2.1 = false from hb, if_neg (by decide)]
          exact back V17 (frU.r V17)
        · have hb : c_ru (blowS (g_s g).1 (g_s g).2).1 = true := by
            cases hb : c_ru (blowS (g_s g).1 (g_s g).2).1 with
            | true => rfl
            | false =>
              rw [show (29 : Nat) = 28 + 1 from rfl, endF, if_neg (by rw [hb]; decide)] at ec
              exact (ec rfl).elim
          rw [if_pos (by rw [i_eqE (by omega) (by omega)]; omega)]
          refine TT.I (t_wl e17.k) ?_
          rintro x V19 ⟨f19, rfl⟩
          have wl2 : wlI ((g_s g).1, blowS (g_s g).1 (g_s g).2) = nI (endF (g_s g).1 29 (blowS (g_s g).1 (g_s g).2)).2 := by
            unfold wlI
            rw [if_pos hb]
            exact congrArg (fun z => nI z.2) eg
          rw [wl2, i_sub (by omega), Nat.add_sub_cancel, if_neg (fun q => q rfl)]
          exact back V19 f19
    · -- a second broadcast is refused
      intro j127 hj
      simp only [rBe]
      rw [if_neg (by rw [i_le0 (by omega)]; omega), if_neg (by rw [i_ltE (by omega) (by omega)]; omega)]
      refine TT.I (m_fail e7 (s_L_start (b := false) (x := nI 0) (y := nI 1) e7.2.1.1 e7.2.1.2.1 (by omega)) (by omega) ?_) ?_
      · intro x s' hR
        have hR : c_ru (g_s g).2.1 = false := hR
        rw [hr] at hR; cases hR
      rintro x V13 ⟨rfl, g13, e13⟩
      rw [if_neg (fun q => q rfl)]
      refine TT.J (t_dig e13.k) ?_
      rintro x V15 ⟨f15, rfl⟩
      rw [lg_same, if_neg (fun q => q rfl)]
      exact hj V15 g13 (e13.u f15)
  · -- nothing runs
    have hr2 : c_ru (g_s g).2.1 = false := by simpa using hr
    have wl : wlI (g_s g) = -1000 := by unfold wlI; rw [if_neg hr]
    have el : elI (g_s g) = -1000 := by unfold elI; rw [if_neg hr]
    rw [wl, if_neg (fun q => q rfl)]
    refine TT.I (m_fail e3 (s_L_wind e3.2.1.1 e3.2.1.2.1 (by omega)) (by omega) ?_) ?_
    · rintro x s' ⟨hR, -⟩
      rw [hr2] at hR; cases hR
    rintro x V4 ⟨rfl, g4, e4⟩
    simp only [rBe]
    rw [if_neg (fun q => q trivial)]
    refine TT.I (m_fail e4 (s_L_end e4.2.1.1 e4.2.1.2.1 (by omega)) (by omega) ?_) ?_
    · rintro x s' ⟨hR, -⟩
      rw [e4.2.2.1, hr2] at hR; cases hR
    rintro x V5 ⟨rfl, g5, e5⟩
    rw [if_neg (fun q => q rfl)]
    refine TT.I (m_fail e5 (s_L_abort e5.2.1.1 e5.2.1.2.1) (by omega) ?_) ?_
    · intro x s' hR
      have hR : c_ru (g_s g5).2.1 = true := hR
      rw [e5.2.2.1, hr2] at hR; cases hR
    rintro x V6 ⟨rfl, g6, e6⟩
    rw [if_neg (fun q => q rfl)]
    refine TT.I (t_el e6.k) ?_
    rintro x V7 ⟨f7, rfl⟩
    have e7 := e6.u f7
    rw [el, if_neg (fun q => q rfl)]
    refine TT.J (t_dig e7.k) ?_
    rintro x V8 ⟨f8, rfl⟩
    rw [lg_same, if_neg (fun q => q rfl), nb1, rGt]
    exact TT.ret ⟨_, rfl, rfl, g6, e7.u f8⟩
theorem t_fit (h : hG w V g) (hw : w + 100 ≤ 290000) : TI (d_L_isFit V) (fun x W => x = nI 1 ∧ ∃ g', gE (w + 90) V g W (g_s g) g') := by
  have hk := h.k
  have e0 := gE.r h
  have w1 := hk.wn.1
  rw [TI.T]
  unfold d_L_isFit
  refine TT.I (t_pairs hk) ?_
  rintro x V1 ⟨f1, rfl⟩
  have e1 := e0.u f1
  simp only [rBe]
  rw [if_neg (by decide)]
  refine TT.I (t_packets e1.k) ?_
  rintro x V2 ⟨f2, rfl⟩
  have e2 := e1.u f2
  rw [if_neg (by decide)]
  refine TT.I (t_ended e2.2.1 hw) ?_
  rintro x V3 ⟨rfl, g3, e3⟩
  rw [if_neg (by decide)]
  have e3' : gE (w + 90) V g V3 (g_s g) g3 := ⟨e2.1.t e3.1, e3.2.1, e3.2.2.1.trans e2.2.2.1, e3.2.2.2.1.trans e2.2.2.2.1, e3.2.2.2.2.trans e2.2.2.2.2⟩
  refine lr_L_isFit_29 (I := fun n9 a k V9 => a = nI 1 ∧ ∃ j, k = nI j ∧ n9 = 16 - j ∧ j ≤ 16 ∧ gE (w + 90) V g V9 (g_s g) g3) ?_ 16 17 (by omega) _ _ V3 ⟨rfl, 0, rfl, rfl, by omega, e3'⟩
  rintro n9 kr hkr a k V9 ⟨rfl, j, rfl, rfl, j1, e9⟩
  unfold bd_L_isFit_29
  rw [if_neg (by decide), k_fc e9.k, rIe]
  by_cases hj : n_ft (g_s g).1 ≤ j
  · rw [if_pos (by rw [i_leE (by omega) (by omega)]; exact hj)]
    dsimp only
    rw [nb1, rGt]
    exact TT.ret ⟨_, rfl, rfl, g3, e9⟩
  · rw [if_neg (by rw [i_leE (by omega) (by omega)]; exact hj)]
    refine TT.I (t_istree e9.k (show j < n_ft (g_s g).1 by omega)) ?_
    rintro x V10 ⟨f10, rfl⟩
    rw [nI_add]
    exact hkr (16 - (j + 2)) (by omega) _ _ _ ⟨rfl, j + 2, rfl, rfl, by omega, e9.u f10⟩
end
