/-! ===== the law answers 1, from a start like the constructor's ===== -/
theorem q_cell {sc : am_Sc} (hsc : sc.1 < 2147483648) (x : Int32) (V : am_V) : ∃ y, d_L_cell sc x V = some (.inl (some (.int y)), V) := by
  obtain ⟨n, f⟩ := sc
  change n < 2147483648 at hsc
  unfold d_L_cell
  simp only [rBe]
  by_cases e : n = 0
  · subst e
    rw [if_neg (fun q => q rfl)]
    exact ⟨_, rfl⟩
  · have e2 : ¬ Int32.ofNat n = 0 := by show ¬ nI n = 0; rw [i_eq0 hsc]; exact e
    rw [if_pos e2, decide_eq_true e2, rGt]
    obtain ⟨k, hk, ek⟩ := and64k x
    rw [ek, show Int32.ofNat n = nI n from rfl, i_rm (by omega) (by omega) hsc, rGi _ (Nat.mod_lt _ (by omega)) hsc]
    exact ⟨_, rfl⟩
section
variable {V W X : am_V} {w : Nat} {g : gT} {sc : am_Sc} {bad : Int32 → Prop} {R : Int32 → sT → Prop} {m : am_R}
theorem hP.u (h : hP w V g) (f : frU V W) : hP w W g := ⟨h.1.u f, h.2.x f.x⟩
theorem hP.le {w' : Nat} (h : hP w V g) (hw : w ≤ w') (hb : w' ≤ 290000) : hP w' V g := ⟨⟨h.1.1, h.1.2.1.m hw, hb⟩, h.2⟩
/-- what the end of the law has to know -/
def sR (w : Nat) (g : gT) (W : am_V) : Prop := ∃ g', hP w W g' ∧ g_sn g' = g_sn g ∧ g_sv g' = g_sv g
theorem b_lM (h : hP w V g) (hw : w + 360 ≤ 290000) (hm : TI m (lM w g bad R V)) : TI m (fun _ W => sR (w + 360) g W) := by
  refine hm.mono ?_
  rintro x W ⟨f, g', h1, h2, h3, h4, h5⟩
  exact ⟨g', ⟨⟨h1, h2.m (by omega), hw⟩, h.2.x f⟩, h3, h4⟩
theorem b_fit (h : hP w V g) (hw : w + 360 ≤ 290000) : TI (d_L_isFit V) (fun x W => x = nI 1 ∧ ∃ g', hP (w + 360) W g' ∧ g_s g' = g_s g ∧ g_sn g' = g_sn g ∧ g_sv g' = g_sv g) := by
  refine (t_fit h.1 (by omega)).mono ?_
  rintro x W ⟨rfl, g', f, h2, h3, h4, h5⟩
  exact ⟨rfl, g', ⟨⟨h2.1, h2.2.1.m (by omega), hw⟩, h.2.x f⟩, h3, h4, h5⟩
abbrev qL : am_P := fun r _ => r = .inl (some (.int (nI 1)))
set_option maxHeartbeats 8000000 in
theorem t_law (hsc : sc.1 < 2147483648) (h : hP 0 V g) : TT (d_L_law sc V) qL := by
  unfold d_L_law
  refine lr_L_law_10 (fun n a2 W => ∃ k g, a2 = nI k ∧ n + k = 5 ∧ hP (720 * k) W g) ?_ 5 6 (by omega) _ _ ⟨0, g, rfl, by omega, h⟩
  rintro n kr ih a2 W ⟨k, g, rfl, e, hp⟩
  unfold bd_L_law_10
  by_cases e1 : 5 ≤ k
  case neg =>
    rw [if_neg (by rw [i_leE (by omega) (by omega)]; exact e1)]
    obtain ⟨y2, h2⟩ := q_cell hsc (nI k) W
    rw [h2, rIe, dn10, rGt]
    refine TT.I (a_lM hp (by omega) (s_L_addField hp.1.1 hp.1.2.1)) ?_
    rintro y4 V3 ⟨g3, hp3, -⟩
    obtain ⟨y6, h6⟩ := q_cell hsc (nI k) V3
    rw [h6, rIe, i_add1, show decide (¬ nI (k + 1) = 0) = true from decide_eq_true (by rw [i_eq0 (by omega)]; omega), rGt, h6, rIe, h6, rIe, rGt]
    refine TT.I (a_lM hp3 (by omega) (s_L_addPath hp3.1.1 hp3.1.2.1)) ?_
    rintro y12 V11 ⟨g11, hp11, -⟩
    exact ih (n - 1) (by omega) _ _ ⟨k + 1, g11, rfl, by omega, hp11.le (by omega) (by omega)⟩
  rw [if_pos (by rw [i_leE (by omega) (by omega)]; exact e1)]
  try dsimp only
  refine TT.I (a_lM hp (by omega) (s_L_start (x := nI 0) (y := nI 3) (b := true) hp.1.1 hp.1.2.1 (by omega))) ?_
  rintro y14 V13 ⟨g13, hp13, -⟩
  have hp13 := hp13.le (w' := 3960) (by omega) (by omega)
  refine TT.Bj (R := fun j => ∀ m, m ≤ 30 → TT (j (nI m) V13) qL) ?_ ?_
  case refine_2 =>
    intro j107 hj
    try dsimp only
    rw [show Int32.ofNat sc.1 = nI sc.1 from rfl]
    by_cases e2 : 30 ≤ sc.1
    · rw [if_pos (by rw [i_leE (by omega) (by omega)]; exact e2)]
      exact hj 30 (by omega)
    · rw [if_neg (by rw [i_leE (by omega) (by omega)]; exact e2)]
      exact hj _ (by omega)
  intro m hm
  try dsimp only
  refine lr_L_law_110 (fun n a3 W => ∃ k g, a3 = nI k ∧ n + k = m ∧ hP (3960 + 360 * k) W g) ?_ m 31 (by omega) _ _ ⟨0, g13, rfl, by omega, hp13⟩
  clear ih e hp e1
  rintro n kr ih a3 W ⟨k, g, rfl, e, hp⟩
  unfold bd_L_law_110
  by_cases e1 : m ≤ k
  case neg =>
    rw [if_neg (by rw [i_leE (by omega) (by omega)]; exact e1)]
    refine TT.J (t_dig hp.1.k) ?_
    rintro y16 V15 ⟨f15, rfl⟩
    have hp15 := hp.u f15
    obtain ⟨y18, h18⟩ := q_cell hsc (nI k) V15
    rw [h18, rIe]
    refine TT.I (t_act y18 hp15 (by omega)) ?_
    rintro y20 V19 ⟨g19, hp19, hs⟩
    have kn : ∀ X, hP (3960 + 360 * k + 360) X g19 → TT (kr (nI k + nI 1) X) qL := fun X hX => by
      rw [i_add1]
      exact ih (n - 1) (by omega) _ _ ⟨k + 1, g19, rfl, by omega, hX.le (by omega) (by omega)⟩
    simp only [rBe]
    by_cases e2 : y20 = (-100000000 : Int32)
    · rw [if_neg (fun q => q e2)]
      refine TT.J (t_dig hp19.1.k) ?_
      rintro y22 V21 ⟨f21, rfl⟩
      rw [hs e2, lg_same, if_pos rfl]
      exact kn _ (hp19.u f21)
    · rw [if_pos e2]
      exact kn _ hp19
  rw [if_pos (by rw [i_leE (by omega) (by omega)]; exact e1)]
  try dsimp only
  refine TT.I (b_fit hp (by omega)) ?_
  rintro y24 V23 ⟨rfl, g23, hp23, -⟩
  obtain ⟨l, hl, el⟩ := hp23.2
  refine TT.I (a_lE (by omega) (s_L_execute hp23.1.1 hp23.1.2.1 (by omega) hl el)) ?_
  rintro y26 V25 ⟨g25, hp25, -⟩
  refine TT.J (t_dig hp25.1.k) ?_
  rintro y28 V27 ⟨f27, rfl⟩
  have hp27 := (hp25.u f27).le (w' := 16000) (by omega) (by omega)
  refine TT.I (s_save hp27.1.1) ?_
  rintro y30 V29 ⟨f29, rfl, k29⟩
  have w29 : wG 16000 (g_s g25, g_s g25, g_h g25, g_nx g25, g_kp g25, true) := ⟨hp27.1.2.1.1, hp27.1.2.1.2.1, hp27.1.2.1.2.2.1, hp27.1.2.1.2.2.1, hp27.1.2.1.2.2.2.2⟩
  have hp29 : hP 16000 V29 (g_s g25, g_s g25, g_h g25, g_nx g25, g_kp g25, true) := ⟨⟨k29, w29, by omega⟩, hp27.2.x f29⟩
  have hft : n_ft (g_s g25).1 ≤ 9 := hp27.1.2.1.2.2.1.1.1
  refine lr_L_law_178 (fun n a3 a7 W => ∃ k g, a3 = nI 1 ∧ a7 = nI k ∧ n + k = 28 ∧ hP (16000 + 360 * k) W g ∧ g_s g = g_s g25 ∧ g_sn g = g_s g25 ∧ g_sv g = true) ?_ 28 29 (by omega) _ _ _ ⟨0, _, rfl, rfl, by omega, hp29, rfl, rfl, rfl⟩
  clear ih e hp e1
  rintro n kr ih a3 a7 W ⟨k, g, rfl, rfl, e, hp, q1, q2, q3⟩
  unfold bd_L_law_178
  rw [if_neg (by decide)]
  by_cases e1 : 28 ≤ k
  case neg =>
    rw [if_neg (by show ¬ nI 28 ≤ nI k; rw [i_leE (by omega) (by omega)]; exact e1), rGi _ (by omega) (by omega), iNn (by omega)]
    obtain ⟨V31, hr, hE⟩ := m_typed hp (by omega) (z := k) (by omega)
    rw [hr, rAe]
    refine TT.I hE ?_
    rintro y33 V32 ⟨h0, g32, h1, h2, h3, h4, h5⟩
    have hp32 : hP (16000 + 360 * k + 360) V32 g32 := ⟨⟨h1, h2, by omega⟩, 0, by omega, h0⟩
    have q2 := h3.trans q2
    have q3 := h4.trans q3
    refine TT.Bj (R := fun j => ∀ X g, hP (16000 + 360 * k + 360) X g → g_s g = g_s g25 → g_sn g = g_s g25 → g_sv g = true → TT (j (nI 1) X) qL) ?_ ?_
    · intro X g hX a1 a2 a3
      try dsimp only
      rw [i_add1]
      exact ih (n - 1) (by omega) _ _ _ ⟨k + 1, g, rfl, rfl, by omega, hX.le (by omega) (by omega), a1, a2, a3⟩
    intro j242 h242
    simp only [rBe]
    rcases h5 with ⟨rfl, h6, -⟩ | ⟨d, rfl, hd, h6, h7⟩
    · rw [if_pos rfl]
      refine TT.J (t_dig hp32.1.k) ?_
      rintro y39 V38 ⟨f38, rfl⟩
      rw [h6, q1, lg_same, if_neg (fun q => q rfl)]
      exact h242 _ _ (hp32.u f38) (h6.trans q1) q2 q3
    · rw [if_neg (nI_fx (by omega))]
      refine TT.I (t_packets hp32.1.k) ?_
      rintro y35 V34 ⟨f34, rfl⟩
      have hp34 := hp32.u f34
      rw [if_neg (by decide)]
      refine TT.I (s_L_undo hp34.1.1 hp34.1.2.1) ?_
      rintro y37 V36 ⟨f36, ⟨h8, -⟩ | ⟨h8, rfl, h9⟩⟩
      · omega
      · have hk8 := hp34.1.2.1.2.1
        rw [if_neg (by rw [i_neg (by omega)]; exact id)]
        have l9 : (g_nx g32 + 8) % 9 < 9 := Nat.mod_lt _ (by omega)
        have hp36 : hP (16000 + 360 * k + 360) V36 (g_h g32 ((g_nx g32 + 8) % 9), g_sn g32, g_h g32, (g_nx g32 + 8) % 9, g_kp g32 - 1, g_sv g32) :=
          ⟨⟨h9, ⟨l9, by show g_kp g32 - 1 ≤ 8; omega, h2.2.2.2.2 _ l9, h2.2.2.2.1, h2.2.2.2.2⟩, by omega⟩, hp34.2.x f36⟩
        refine TT.J (t_dig hp36.1.k) ?_
        rintro y39 V38 ⟨f38, rfl⟩
        have e9 : g_s (g_h g32 ((g_nx g32 + 8) % 9), g_sn g32, g_h g32, (g_nx g32 + 8) % 9, g_kp g32 - 1, g_sv g32) = g_s g25 := h7.trans q1
        rw [e9, lg_same, if_neg (fun q => q rfl)]
        exact h242 _ _ (hp36.u f38) e9 q2 q3
  rw [if_pos (by show nI 28 ≤ nI k; rw [i_leE (by omega) (by omega)]; exact e1)]
  try dsimp only
  have hp := hp.le (w' := 30000) (by omega) (by omega)
  refine TT.I (b_lM hp (by omega) (s_L_abort hp.1.1 hp.1.2.1)) ?_
  rintro y41 V40 ⟨g40, hp40, a1, a2⟩
  have a1 := a1.trans q2
  have a2 := a2.trans q3
  refine TT.I (b_lM hp40 (by omega) (s_L_start (x := nI 1) (y := nI 4) (b := false) hp40.1.1 hp40.1.2.1 (by omega))) ?_
  rintro y43 V42 ⟨g42, hp42, b1, b2⟩
  have b1 := b1.trans a1
  have b2 := b2.trans a2
  refine TT.Bj (R := fun j => ∀ X g, hP 31080 X g → g_sn g = g_s g25 → g_sv g = true → TT (j (nI 1) X) qL) ?_ ?_
  case refine_2 =>
    intro j278 hj
    simp only [rBe]
    rw [if_neg (by decide)]
    refine TT.I (b_fit hp42 (by omega)) ?_
    rintro y45 V44 ⟨rfl, g44, hp44, -, c2, c3⟩
    rw [if_neg (by decide)]
    exact hj _ _ hp44 (c2.trans b1) (c3.trans b2)
  intro X g hX c1 c2
  try dsimp only
  simp only [rBe]
  rw [if_neg (by decide)]
  refine TT.I (s_L_restore hX.1.1) ?_
  rintro y47 V46 ⟨f46, ⟨h8, -⟩ | ⟨-, rfl, h9⟩⟩
  · rw [c2] at h8
    cases h8
  · rw [c1, if_neg (fun q => q rfl)]
    have hp46 : hP 31080 V46 (g_sn g, g_sn g, g_h g, g_nx g, 0, g_sv g) := ⟨⟨h9, ⟨hX.1.2.1.1, Nat.zero_le _, hX.1.2.1.2.2.2.1, hX.1.2.1.2.2.2.1, hX.1.2.1.2.2.2.2⟩, by omega⟩, hX.2.x f46⟩
    refine TT.J (t_dig hp46.1.k) ?_
    rintro y49 V48 ⟨f48, rfl⟩
    have e9 : g_s (g_sn g, g_sn g, g_h g, g_nx g, 0, g_sv g) = g_s g25 := c1
    rw [e9, lg_same, if_neg (fun q => q rfl)]
    have hp48 := hp46.u f48
    refine TT.I (s_L_undo hp48.1.1 hp48.1.2.1) ?_
    rintro y51 V50 ⟨f50, ⟨-, rfl, -⟩ | ⟨h10, -⟩⟩
    · rw [if_neg (fun q => q rfl), nb1, rGt]
      exact TT.ret rfl
    · exact absurd h10 (Nat.lt_irrefl 0)
end
