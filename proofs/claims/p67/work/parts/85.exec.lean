/-! ===== a call of execute: all of its commands are done, or none ===== -/
theorem TT.if2 {c1 c2 : Prop} [Decidable c1] [Decidable c2] {X Y : am_R} {P : am_P} (h : c1 ∨ c2 → TT X P) (k : ¬ c1 → ¬ c2 → TT Y P) : TT (if c1 then X else if c2 then X else Y) P := by
  by_cases e1 : c1
  · rw [if_pos e1]; exact h (Or.inl e1)
  · rw [if_neg e1]
    by_cases e2 : c2
    · rw [if_pos e2]; exact h (Or.inr e2)
    · rw [if_neg e2]; exact k e1 e2
theorem rAe {c : Nat} {V : am_V} {f : am_V → am_R} : rA c (some (.inl (some (.ref c)), V)) f = f V := if_pos rfl
theorem TI.id {m : am_R} {Q : Int32 → am_V → Prop} (h : TI m Q) : TI (rI m (fun y V => some (.inl (some (.int y)), V))) Q := by
  rw [TI.T]
  exact TT.I h (fun x V hq => TT.ret ⟨_, rfl, hq⟩)
def bad3 : Int32 → Prop := fun x => x = -1 ∨ x = -2 ∨ x = -3
section
variable {V W X : am_V} {w kd rw l i : Nat} {s : sT} {g : gT}
theorem mS.m {bad : Int32 → Prop} {x : Int32} (h : mS w i s bad V x W) (k : ∀ x, bad x → bad3 x) : mS w i s bad3 V x W := ⟨h.1, h.2.imp (fun q => ⟨k _ q.1, q.2⟩) id⟩
theorem mR.to {bad : Int32 → Prop} {R : Int32 → sT → Prop} {x : Int32} (h : mR w s bad R V x W) (k : ∀ x, bad x → bad3 x) : mS w 0 s bad3 V x W := ⟨h.1, h.2.imp (fun q => ⟨k _ q.1, q.2⟩) (fun ⟨k, s', a, b, c, d, _⟩ => ⟨k, s', a, b, c, d⟩)⟩
set_option maxHeartbeats 4000000 in
theorem s_perform (hS : vS V 0 s) (h : wS w s) (hw : w ≤ 300000) (hk : kd < 11) (hr : rw < 12) : TI (d_X11_perform kd rw V) (mS w 0 s bad3 V) := by
  obtain ⟨N, C, A⟩ := s
  unfold d_X11_perform
  rw [if_pos (by decide)]
  unfold d_Jx29ce0_ordinal_8abf5
  rw [rIe, rGi _ hk (by omega), iNn (by omega)]
  have hc : kd = 0 ∨ kd = 1 ∨ kd = 2 ∨ kd = 3 ∨ kd = 4 ∨ kd = 5 ∨ kd = 6 ∨ kd = 7 ∨ kd = 8 ∨ kd = 9 ∨ kd = 10 := by omega
  rcases hc with rfl | rfl | rfl | rfl | rfl | rfl | rfl | rfl | rfl | rfl | rfl
  · rw [if_pos (by decide), rGi _ (by decide) (by decide)]
    exact TI.id ((s_appendField hS h).mono fun x W q => q.m fun y hy => Or.inr hy)
  · rw [if_neg (by decide), if_pos (by decide), rGi _ (by decide) (by decide), rGi _ (by decide) (by decide), rGi _ (by decide) (by decide), rGi _ (by decide) (by decide)]
    exact TI.id ((s_appendPath hS h).mono fun x W q => q.m fun y hy => hy)
  · rw [if_neg (by decide), if_neg (by decide), if_pos (by decide), rGi _ (by decide) (by decide), rGi _ (by decide) (by decide)]
    exact TI.id ((s_replaceShield hS h).mono fun x W q => q.m fun y hy => hy.imp (fun a => a) Or.inl)
  · rw [if_neg (by decide), if_neg (by decide), if_neg (by decide), if_pos (by decide), rGi _ (by decide) (by decide), rGi _ (by decide) (by decide)]
    exact TI.id ((s_replaceGust hS h).mono fun x W q => q.m fun y hy => hy.imp (fun a => a) Or.inl)
  · rw [if_neg (by decide), if_neg (by decide), if_neg (by decide), if_neg (by decide), if_pos (by decide), rGi _ (by decide) (by decide)]
    exact TI.id ((s_replaceBlocked hS h).mono fun x W q => q.m fun y hy => hy.imp (fun a => a) Or.inr)
  · rw [if_neg (by decide), if_neg (by decide), if_neg (by decide), if_neg (by decide), if_neg (by decide), if_pos (by decide), rGi _ (by decide) (by decide)]
    exact TI.id ((s_replaceBlocked hS h).mono fun x W q => q.m fun y hy => hy.imp (fun a => a) Or.inr)
  · rw [if_neg (by decide), if_neg (by decide), if_neg (by decide), if_neg (by decide), if_neg (by decide), if_neg (by decide), if_pos (by decide), rGi _ (by decide) (by decide)]
    exact TI.id ((s_replaceSeed hS h).mono fun x W q => q.m fun y hy => Or.inr (Or.inl hy))
  · rw [if_neg (by decide), if_neg (by decide), if_neg (by decide), if_neg (by decide), if_neg (by decide), if_neg (by decide), if_neg (by decide), if_pos (by decide), rGi _ (by decide) (by decide), rGi _ (by decide) (by decide), rGi _ (by decide) (by decide)]
    simp only [rBe]
    by_cases e : V (40 + rw) (iN (nI 2)) = nI 1
    · rw [if_neg (fun q => q e)]
      exact TI.id ((s_begin (b := true) hS h (by omega)).mono fun x W q => q.1.m fun y hy => hy)
    · rw [if_pos e]
      exact TI.id ((s_begin (b := false) hS h (by omega)).mono fun x W q => q.1.m fun y hy => hy)
  · rw [if_neg (by decide), if_neg (by decide), if_neg (by decide), if_neg (by decide), if_neg (by decide), if_neg (by decide), if_neg (by decide), if_neg (by decide), if_pos (by decide)]
    exact TI.id ((m_wind hS h hw).mono fun x W q => mR.to q fun y hy => badR_1 hy)
  · rw [if_neg (by decide), if_neg (by decide), if_neg (by decide), if_neg (by decide), if_neg (by decide), if_neg (by decide), if_neg (by decide), if_neg (by decide), if_neg (by decide), if_pos (by decide)]
    exact TI.id ((m_end hS h hw).mono fun x W q => mR.to q fun y hy => badR_1 hy)
  · rw [if_neg (by decide), if_neg (by decide), if_neg (by decide), if_neg (by decide), if_neg (by decide), if_neg (by decide), if_neg (by decide), if_neg (by decide), if_neg (by decide), if_neg (by decide), if_pos (by decide)]
    exact TI.id ((s_stop hS h).mono fun x W q => q.1.m fun y hy => Or.inr (Or.inr hy))
theorem vG_fP (hG : vG V g) (f : frP V W) : vG W g := by
  obtain ⟨h1, h2, h3, h4, h5, h6⟩ := hG
  have e : ∀ i s, vS V i s → vS W i s := fun i s hs => vS_cg hs fun c hc hc2 => f c (by have := sS_ge i; omega) (by have := sS_ge i; omega)
  have e2 : ∀ c, c < 12 → W c = V c := fun c hc => f c (by omega) (by omega)
  refine ⟨e _ _ h1, e _ _ h2, fun j hj => e _ _ (h3 j hj), ?_, ?_, ?_⟩
  · rw [e2 2 (by omega)]; exact h4
  · rw [e2 2 (by omega)]; exact h5
  · rw [e2 1 (by omega)]; exact h6
/-- after a call of execute: refused with all as it was, or done -/
def pE (w : Nat) (g : gT) : am_P := fun r W => W 13 3 = nI 0 ∧ ∃ g', vG W g' ∧ wG (w + 360) g' ∧ g_sn g' = g_sn g ∧ g_sv g' = g_sv g ∧
    (((r = .inr "java/lang/IllegalArgumentException" ∨ r = .inr "java/lang/IllegalStateException" ∨ r = .inr "java/lang/UnsupportedOperationException") ∧ g_s g' = g_s g ∧ g_kp g' = g_kp g) ∨
     ∃ k, r = .inl (some (.int (nI k))) ∧ k < 100000000 ∧ 0 < g_kp g' ∧ g_h g' ((g_nx g' + 8) % 9) = g_s g)
set_option maxHeartbeats 4000000 in
theorem s_execute (hG : vG V g) (hW : wG w g) (hw : w + 360 ≤ 300000) (hl : l ≤ 60) (h : V 13 3 = nI l) : TT (d_X11_execute V) (pE w g) := by
  unfold d_X11_execute
  refine TT.I (s_read hl h) ?_
  rintro y V1 ⟨f1, h1, t, ht, h2, h3⟩
  have k1 := vG_fP hG f1
  by_cases e : y = -1
  · rw [if_pos e]
    refine TT.U (s_note k1 hW) ?_
    rintro V3 ⟨f3, -, k3⟩
    have w1 := hW.1
    have kh : ∀ j, j < 9 → wS (w + 360) (if j = g_nx g then g_s g else g_h g j) := fun j hj => by
      by_cases e : j = g_nx g
      · rw [if_pos e]; exact hW.2.2.1.m (by omega)
      · rw [if_neg e]; exact (hW.2.2.2.2 j hj).m (by omega)
    refine lr_X11_execute_44 (fun n a2 a3 W => ∃ d s', a2 = nI d ∧ n + d = t ∧ frX V3 W ∧ vG W (s', g_sn g, (fun j => if j = g_nx g then g_s g else g_h g j), g_nx g, g_kp g, g_sv g) ∧ wS (w + 30 * d) s' ∧ ((∃ k, a3 = nI k ∧ k < 100000000) ∨ bad3 a3)) ?_ t 1000 (by omega) _ _ _ ⟨0, g_s g, rfl, by omega, frX.r _, k3, hW.2.2.1, Or.inl ⟨0, rfl, by omega⟩⟩
    rintro n kr ih a2 a3 W ⟨d, s', rfl, hd, fX, kW, hs, ha⟩
    have e13 : W 13 = V1 13 := (f3.t fX) 13 (by omega)
    have e14 : W 14 = V1 14 := (f3.t fX) 14 (by omega)
    have e12 : W 13 2 = nI t := (congrFun e13 2).trans h2
    have e133 : W 13 3 = nI 0 := (congrFun e13 3).trans h1
    unfold bd_X11_execute_44
    rw [e12]
    refine TT.if2 ?_ ?_
    · -- the end of the loop
      intro _
      rcases ha with ⟨k, rfl, hk⟩ | hb
      · try dsimp only
        simp only [rBe]
        rw [if_pos (show (0 : Int32) ≤ nI k by show nI 0 ≤ nI k; rw [i_leE (by omega) (by omega)]; omega), if_pos (show ¬ nI k = (-3 : Int32) from nI_neg (by omega) (by decide)), if_pos (show (0 : Int32) ≤ nI k by show nI 0 ≤ nI k; rw [i_leE (by omega) (by omega)]; omega)]
        have kW' : wG (w + 360) (s', g_sn g, (fun j => if j = g_nx g then g_s g else g_h g j), g_nx g, g_kp g, g_sv g) := ⟨w1, hW.2.1, hs.m (by omega), hW.2.2.2.1.m (by omega), kh⟩
        refine TT.U (s_keep kW kW') ?_
        rintro X ⟨f4, k4⟩
        have e9 : ((g_nx g + 1) % 9 + 8) % 9 = g_nx g := by omega
        refine TT.ret ⟨(congrFun (f4 13 (by omega)) 3).trans e133, _, k4, ⟨Nat.mod_lt _ (by omega), Nat.min_le_right _ _, hs.m (by omega), hW.2.2.2.1.m (by omega), kh⟩, rfl, rfl, Or.inr ⟨d, rfl, by omega, ?_, ?_⟩⟩
        · show 0 < min (g_kp g + 1) 8
          omega
        · show (if ((g_nx g + 1) % 9 + 8) % 9 = g_nx g then g_s g else _) = _
          rw [if_pos e9]
      · try dsimp only
        have hn : ¬ (0 : Int32) ≤ a3 := by rcases hb with rfl | rfl | rfl <;> decide
        simp only [rBe]
        have en : W 2 1 = nI (g_nx g) := kW.2.2.2.1
        unfold d_X4_noted
        rw [if_neg hn, en, rGi _ w1 (by omega), rGi _ w1 (by omega), rAe, iNn (by omega)]
        have k5 := kW.2.2.1 (g_nx g) w1
        change vS W (3 + g_nx g) (if g_nx g = g_nx g then g_s g else g_h g (g_nx g)) at k5
        rw [if_pos rfl] at k5
        refine TT.U (s_copy (i := 0) (j := 3 + g_nx g) (by omega) k5) ?_
        rintro X ⟨f5, k6⟩
        have k7 : vG X (g_s g, g_sn g, (fun j => if j = g_nx g then g_s g else g_h g j), g_nx g, g_kp g, g_sv g) := by
          refine ⟨k6, vS_fS (by omega) kW.2.1 f5, fun j hj => vS_fS (by omega) (kW.2.2.1 j hj) f5, ?_, ?_, ?_⟩
          · rw [frS_c f5 (by omega)]; exact kW.2.2.2.1
          · rw [frS_c f5 (by omega)]; exact kW.2.2.2.2.1
          · rw [frS_c f5 (by omega)]; exact kW.2.2.2.2.2
        have kW' : wG (w + 360) (g_s g, g_sn g, (fun j => if j = g_nx g then g_s g else g_h g j), g_nx g, g_kp g, g_sv g) := ⟨w1, hW.2.1, hW.2.2.1.m (by omega), hW.2.2.2.1.m (by omega), kh⟩
        have e7 : X 13 3 = nI 0 := (congrFun (frS_c f5 (by omega)) 3).trans e133
        by_cases e3 : a3 = -3
        · rw [if_neg (fun q => q e3)]
          unfold d_X11_noteRejection
          simp only [rVe]
          rw [rUe]
          refine TT.ret ⟨?_, _, vG_1 (vG_1 (vG_1 k7 (by omega)) (by omega)) (by omega), kW', rfl, rfl, Or.inl ⟨Or.inr (Or.inr rfl), rfl, rfl⟩⟩
          rw [sg_d (by omega), sg_d (by omega), sg_d (by omega)]
          exact e7
        · rw [if_pos e3, if_neg hn]
          exact TT.ret ⟨e7, _, k7, kW', rfl, rfl, Or.inl ⟨Or.inr (Or.inl rfl), rfl, rfl⟩⟩
    · intro n1 n2
      have hdt : d < t := by
        rw [i_leE (by omega) (by omega)] at n1
        omega
      obtain ⟨k, hk, ek⟩ := h3 d hdt
      rw [rGi _ (by omega) (by omega), iNn (by omega), e14, ek, rGi _ (by omega) (by omega), iNn (by omega), Nat.add_sub_cancel,
        show decide (nI 1 ≤ nI (k + 1) ∧ nI (k + 1) ≤ nI 11) = true from decide_eq_true ⟨by rw [i_leE (by omega) (by omega)]; omega, by rw [i_leE (by omega) (by omega)]; omega⟩, rGt]
      refine TT.I (s_perform kW.1 hs (by omega) hk (by omega)) ?_
      rintro y X ⟨f4, ⟨hb, hv⟩ | ⟨k', s2, rfl, hk', hv, hw2⟩⟩
      · rw [i_add1]
        exact ih (n - 1) (by omega) _ _ _ ⟨d + 1, s', rfl, by omega, fX.t (f4.x (by omega)), vG_fM kW f4 hv, hs.m (by omega), Or.inr hb⟩
      · rw [i_add1]
        exact ih (n - 1) (by omega) _ _ _ ⟨d + 1, s2, rfl, by omega, fX.t (f4.x (by omega)), vG_fM kW f4 hv, hw2.m (by omega), Or.inl ⟨k', rfl, hk'⟩⟩
  · rw [if_neg e, rVe]
    refine TT.ret ⟨?_, g, vG_1 k1 (by omega), ⟨hW.1, hW.2.1, hW.2.2.1.m (by omega), hW.2.2.2.1.m (by omega), fun j hj => (hW.2.2.2.2 j hj).m (by omega)⟩, rfl, rfl, Or.inl ⟨Or.inl rfl, rfl, rfl⟩⟩
    rw [sg_d (by omega)]
    exact h1
/-- the law's call of execute -/
def lE (w : Nat) (g : gT) (x : Int32) (W : am_V) : Prop := W 13 3 = nI 0 ∧ ∃ g', vG W g' ∧ wG (w + 360) g' ∧ g_sn g' = g_sn g ∧ g_sv g' = g_sv g ∧
    ((x = (-100000000 : Int32) ∧ g_s g' = g_s g ∧ g_kp g' = g_kp g) ∨ ∃ k, x = nI k ∧ k < 100000000 ∧ 0 < g_kp g' ∧ g_h g' ((g_nx g' + 8) % 9) = g_s g)
theorem s_L_execute (hG : vG V g) (hW : wG w g) (hw : w + 360 ≤ 300000) (hl : l ≤ 60) (h : V 13 3 = nI l) : TI (d_L_execute V) (lE w g) := by
  unfold d_L_execute
  obtain ⟨r, W, hr, h1, g', k1, k2, k3, k4, h2⟩ := s_execute hG hW hw hl h
  rw [hr]
  rcases h2 with ⟨rfl | rfl | rfl, h3⟩ | ⟨k, rfl, hk, h3⟩
  · rw [rXn, if_pos rfl]
    exact TI.ret ⟨h1, g', k1, k2, k3, k4, Or.inl ⟨rfl, h3⟩⟩
  · rw [rXn, if_neg (by decide), if_pos rfl]
    exact TI.ret ⟨h1, g', k1, k2, k3, k4, Or.inl ⟨rfl, h3⟩⟩
  · rw [rXn, if_neg (by decide), if_neg (by decide), if_pos rfl]
    exact TI.ret ⟨h1, g', k1, k2, k3, k4, Or.inl ⟨rfl, h3⟩⟩
  · rw [rXe]
    exact TI.ret ⟨h1, g', k1, k2, k3, k4, Or.inr ⟨k, rfl, hk, h3⟩⟩
end
