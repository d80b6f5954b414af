/-! ===== the input and what is read from it: no reading fails ===== -/
theorem rXn {E : String} {V : am_V} {f : Int32 → am_V → am_R} {g : String → am_V → am_R} : rXI (some (.inr E, V)) f g = g E V := id rfl
def pC (V : am_V) (t l a : Nat) : Prop := V 13 2 = nI t ∧ V 13 3 = nI l ∧ V 13 5 = nI a ∧ t ≤ 12 ∧ a ≤ l ∧ l ≤ 60
/-- the kinds of the commands that were read -/
def pK (V : am_V) (t : Nat) : Prop := ∀ j, j < t → ∃ k, k < 11 ∧ V 14 j = nI (k + 1)
/-- what reading leaves as it is -/
def frP (V W : am_V) : Prop := ∀ c, ¬ (13 ≤ c ∧ c < 17) → ¬ (40 ≤ c ∧ c < 52) → W c = V c
theorem frP.r (V : am_V) : frP V V := fun _ _ _ => rfl
theorem frP.t {V W X : am_V} (h : frP V W) (k : frP W X) : frP V X := fun c a b => (k c a b).trans (h c a b)
theorem frP.s {V : am_V} {c k : Nat} {x : Int32} (h : (13 ≤ c ∧ c < 17) ∨ (40 ≤ c ∧ c < 52)) : frP V (am_set V c k x) := fun d _ _ => am_set_ne _ _ _ (by omega)
/-- a piece of the reading -/
def pS (V : am_V) (t l : Nat) (W : am_V) : Prop := frP V W ∧ W 14 = V 14 ∧ ∃ a, pC W t l a
abbrev qS (V : am_V) (t l : Nat) : am_P := fun r W => ∃ x, r = .inl (some (.int x)) ∧ pS V t l W
theorem x_len : ∀ z : Nat, z < 39 → xLEN.getD z 0 ≤ 25 := by decide
theorem x_txt : ∀ z : Fin 39, ∀ x : Fin 25, x.val < xLEN.getD z.val 0 → (txB.getD z.val []).getD x.val 0 &&& nI 255 = (txB.getD z.val []).getD x.val 0 ∧ ¬ (txB.getD z.val []).getD x.val 0 < nI 32 ∧ (txB.getD z.val []).getD x.val 0 ≤ nI 126 ∧
    am_i2c ((txB.getD z.val []).getD x.val 0) = (txB.getD z.val []).getD x.val 0 ∧ am_nc ((txB.getD z.val []).getD x.val 0) = true := by decide +kernel
section
variable {V W X : am_V} {t l a a' z x w : Nat}
theorem q_len (hz : z < 39) : d_J0_length_8abf5 z V = some (.inl (some (.int (nI (xLEN.getD z 0)))), V) := by
  unfold d_J0_length_8abf5 d_J0_coder_7d493
  simp only [rBe]
  rw [if_neg (by decide), show am_by 0 = true from by decide, rGt, rIe]
  have : ∀ z : Fin 39, Int32.ofNat (xLEN.getD z.val 0) >>> ((0 : Int32) &&& 31) = nI (xLEN.getD z.val 0) := by decide +kernel
  rw [this ⟨z, hz⟩]
theorem q_chr (hz : z < 39) (hx : x < xLEN.getD z 0) : d_J0_charAt_5068e z (nI x) V = some (.inl (some (.int ((txB.getD z []).getD x 0))), V) := by
  have hl := x_len z hz
  obtain ⟨h1, h2, h3, h4, h5⟩ := x_txt ⟨z, hz⟩ ⟨x, by omega⟩ hx
  dsimp only at h1 h4 h5
  unfold d_J0_charAt_5068e d_J0_isLatin1_aae02
  simp only [rBe]
  rw [if_neg (by decide), if_neg (by decide), nb1, rGt, rIe, if_neg (by decide)]
  unfold d_J1_charAt_3b067 d_J0_checkIndex_df160 d_J3_checkIndex_8e157
  rw [if_neg (by rw [i_neg (by omega)]; exact id), if_pos (by show nI x < nI _; rw [i_ltE (by omega) (by omega)]; exact hx), rIe, rUe, rGi _ hx (by omega), iNn (by omega), h1, h4, h5, rGt, rIe, h5, rGt]
theorem pS.i (h : pC V t l a) : pS V t l V := ⟨frP.r V, rfl, a, h⟩
theorem pS.tr (h : pS V t l W) (k : pS W t l X) : pS V t l X := ⟨h.1.t k.1, k.2.1.trans h.2.1, k.2.2⟩
theorem pC.at (h : pC V t l a) (ha : a' ≤ l) : pC (am_set V 13 5 (nI a')) t l a' := ⟨(sg_n (by decide)).trans h.1, (sg_n (by decide)).trans h.2.1, sg_e, h.2.2.2.1, ha, h.2.2.2.2.2⟩
theorem pS.at (h : pS V t l W) (ha : a' ≤ l) : pS V t l (am_set W 13 5 (nI a')) := by
  obtain ⟨f, e, a, hc⟩ := h
  exact ⟨f.t (frP.s (by omega)), (am_set_ne _ _ _ (by omega)).trans e, a', hc.at ha⟩
theorem pS.row {q : Nat} {y : Int32} (h : pS V t l W) (hw : w < 12) : pS V t l (am_set W (40 + w) q y) := by
  obtain ⟨f, e, a, h1, h2, h3, h4⟩ := h
  exact ⟨f.t (frP.s (by omega)), (am_set_ne _ _ _ (by omega)).trans e, a, (sg_d (by omega)).trans h1, (sg_d (by omega)).trans h2, (sg_d (by omega)).trans h3, h4⟩
theorem s_takeSign {y : Int32} (h : pC V t l a) : TI (d_X3_takeSign y V) (fun _ W => pS V t l W) := by
  have h0 := h
  obtain ⟨h1, h2, h3, h4, h5, h6⟩ := h
  unfold d_X3_takeSign
  simp only [rBe]
  rw [h2, h3]
  by_cases e : l ≤ a
  · rw [if_pos (by rw [i_leE (by omega) (by omega)]; exact e), nb0, rGt]
    exact TI.ret (pS.i h0)
  · rw [if_neg (by rw [i_leE (by omega) (by omega)]; exact e), rGi _ (by omega) (by omega), iNn (by omega)]
    by_cases e2 : V 16 a = y
    · rw [if_neg (fun q => q e2), rVe, nb1, rGt, i_add1]
      exact TI.ret ((pS.i h0).at (by omega))
    · rw [if_pos e2, nb0, rGt]
      exact TI.ret (pS.i h0)
theorem s_takeDigits {m : Nat} (hm : m ≤ 3) (h : pC V t l a) : TI (d_X3_takeDigits (nI m) V) (fun _ W => pS V t l W) := by
  rw [TI.T]
  show TT _ (qS V t l)
  unfold d_X3_takeDigits
  refine lr_X3_takeDigits_4 (fun n _ a3 W => ∃ k, a3 = nI k ∧ n + k = m ∧ pS V t l W) ?_ m 1000 (by omega) _ _ _ ⟨0, rfl, by omega, pS.i h⟩
  rintro n kr ih a2 a3 W ⟨k, rfl, e, hp⟩
  obtain ⟨a, c1, c2, c3, c4, c5, c6⟩ := hp.2.2
  unfold bd_X3_takeDigits_4
  by_cases e1 : m ≤ k
  · rw [if_pos (by rw [i_leE (by omega) (by omega)]; exact e1)]
    exact TT.ret ⟨_, rfl, hp⟩
  · rw [if_neg (by rw [i_leE (by omega) (by omega)]; exact e1)]
    refine TT.Bj (R := fun j => ∀ x X, pS V t l X → TT (j x X) (qS V t l)) (fun x X hX => ?_) (fun j hj => ?_)
    · try dsimp only
      rw [i_add1]
      exact ih (n - 1) (by omega) _ _ _ ⟨k + 1, rfl, by omega, hX⟩
    · rw [c2, c3]
      by_cases e2 : l ≤ a
      · rw [if_pos (by rw [i_leE (by omega) (by omega)]; exact e2)]
        exact hj _ _ hp
      · rw [if_neg (by rw [i_leE (by omega) (by omega)]; exact e2), rGi _ (by omega) (by omega), iNn (by omega)]
        by_cases e3 : W 16 a < nI 48
        · rw [if_pos e3]; exact hj _ _ hp
        · rw [if_neg e3, rGi _ (by omega) (by omega)]
          by_cases e4 : nI 57 < W 16 a
          · rw [if_pos e4]; exact hj _ _ hp
          · rw [if_neg e4, rGi _ (by omega) (by omega), rVe, i_add1]
            exact hj _ _ (hp.at (by omega))
theorem s_takeValue {y : Int32} (h : pC V t l a) : TI (d_X3_takeValue y V) (fun _ W => pS V t l W) := by
  rw [TI.T]
  show TT _ (qS V t l)
  unfold d_X3_takeValue
  by_cases e : y = nI 42
  · rw [if_neg (fun q => q e)]
    refine TT.I (s_takeSign h) (fun y4 X hX => ?_)
    simp only [rBe]
    by_cases e4 : y4 = 0
    · rw [if_pos e4]; exact TT.ret ⟨_, rfl, hX⟩
    · rw [if_neg e4]; exact TT.ret ⟨_, rfl, hX⟩
  · rw [if_pos e]
    simp only [rBe]
    by_cases e2 : y = nI 35
    · rw [if_neg (fun q => q e2)]
      exact TT.I (s_takeDigits (m := 1) (by omega) h) (fun x X hX => TT.ret ⟨_, rfl, hX⟩)
    · rw [if_pos e2]
      exact TT.I (s_takeDigits (m := 3) (by omega) h) (fun x X hX => TT.ret ⟨_, rfl, hX⟩)
theorem s_takeShape (hz : z < 39) (hw : w < 12) (h : pC V t l a) : TI (d_X3_takeShape z w V) (fun _ W => pS V t l W) := by
  have hl := x_len z hz
  rw [TI.T]
  show TT _ (qS V t l)
  unfold d_X3_takeShape
  refine lr_X3_takeShape_5 (fun n a3 a4 W => ∃ k x, a3 = nI x ∧ x ≤ 4 ∧ a4 = nI k ∧ n + k = xLEN.getD z 0 ∧ pS V t l W) ?_ (xLEN.getD z 0) 1000 (by omega) _ _ _ ⟨0, 0, rfl, by omega, rfl, by omega, pS.i h⟩
  rintro n kr ih a3 a4 W ⟨k, x, rfl, hx, rfl, e, hp⟩
  unfold bd_X3_takeShape_5
  rw [q_len hz, rIe]
  by_cases e1 : xLEN.getD z 0 ≤ k
  · rw [if_pos (by rw [i_leE (by omega) (by omega)]; exact e1)]
    show TT (rG (am_nb (nI 1)) _) _
    rw [nb1, rGt]
    exact TT.ret ⟨_, rfl, hp⟩
  · rw [if_neg (by rw [i_leE (by omega) (by omega)]; exact e1), q_chr hz (by omega), rIe]
    generalize (txB.getD z []).getD k 0 = y
    refine TT.Bj (R := fun j => ∀ x X, x ≤ 4 → pS V t l X → TT (j (nI x) X) (qS V t l)) (fun x X hx hX => ?_) (fun j86 hj => ?_)
    · try dsimp only
      rw [i_add1]
      exact ih (n - 1) (by omega) _ _ _ ⟨k + 1, x, rfl, hx, rfl, by omega, hX⟩
    · refine TT.Bj (R := fun j => TT (j W) (qS V t l)) ?_ (fun j43 h43 => ?_)
      · try dsimp only
        obtain ⟨a, hc⟩ := hp.2.2
        refine TT.I (s_takeValue hc) (fun y8 X hX => ?_)
        have hX := hp.tr hX
        refine TT.Bj (R := fun j => TT (j X) (qS V t l)) ?_ (fun j62 h62 => ?_)
        · try dsimp only
          rw [nb0, rGt]
          exact TT.ret ⟨_, rfl, hX⟩
        · by_cases e2 : y8 = -1
          · rw [if_pos e2]; exact h62
          · rw [if_neg e2]
            by_cases e3 : x < 4
            · rw [if_pos (by rw [i_ltE (by omega) (by omega)]; exact e3), rGi _ e3 (by omega), iNn (by omega), rVe, i_add1]
              exact hj (x + 1) _ (by omega) (hX.row hw)
            · rw [if_neg (by rw [i_ltE (by omega) (by omega)]; exact e3)]
              exact h62
      · by_cases e2 : y = nI 35
        · rw [if_pos e2]; exact h43
        · rw [if_neg e2]
          by_cases e3 : y = nI 64
          · rw [if_pos e3]; exact h43
          · rw [if_neg e3]
            by_cases e4 : y = nI 42
            · rw [if_neg (fun q => q e4)]; exact h43
            · rw [if_pos e4]
              obtain ⟨a, hc⟩ := hp.2.2
              refine TT.I (s_takeSign hc) (fun y6 X hX => ?_)
              have hX := hp.tr hX
              by_cases e5 : y6 = 0
              · rw [if_neg (fun q => q e5), nb0, rGt]
                exact TT.ret ⟨_, rfl, hX⟩
              · rw [if_pos e5]
                exact hj x _ hx hX
def qC (V : am_V) (t l : Nat) : am_P := fun r W => ∃ x, r = .inl (some (.int x)) ∧ frP V W ∧ (∀ j, j ≠ t → W 14 j = V 14 j) ∧ (∃ a, pC W t l a) ∧ (x = 0 ∨ ∃ k, k < 11 ∧ W 14 t = nI (k + 1))
theorem s_readCommand (h : pC V t l a) (ht : t < 12) : TT (d_X3_readCommand (nI a) V) (qC V t l) := by
  have hal := h.2.2.2.2.1
  have hl6 := h.2.2.2.2.2
  unfold d_X3_readCommand
  refine lr_X3_readCommand_4 (fun n a2 a3 W => ∃ k m, a3 = nI k ∧ a2 = nI m ∧ m ≤ l ∧ n + k = 11 ∧ pS V t l W) ?_ 11 1000 (by omega) _ _ _ ⟨0, a, rfl, rfl, hal, by omega, pS.i h⟩
  rintro n kr ih a2 a3 W ⟨k, m, rfl, rfl, hm, e, hp⟩
  unfold bd_X3_readCommand_4
  by_cases e1 : 11 ≤ k
  · rw [if_pos (by show nI 11 ≤ nI k; rw [i_leE (by omega) (by omega)]; exact e1)]
    show TT (rG (am_nb (nI 0)) _) _
    rw [nb0, rGt]
    obtain ⟨f, g, c⟩ := hp.at hm
    exact TT.ret ⟨_, rfl, f, fun j _ => congrFun g j, c, Or.inl rfl⟩
  · rw [if_neg (by show ¬ nI 11 ≤ nI k; rw [i_leE (by omega) (by omega)]; exact e1), rVe]
    have h1 := hp.at hal
    obtain ⟨a1, hc⟩ := h1.2.2
    rw [rGi _ (by omega) (by omega), hc.1, rGi _ ht (by omega), iNn (by omega), iNn (by omega)]
    refine TT.I (s_takeShape (by omega) ht hc) (fun y3 X hX => ?_)
    have hX := h1.tr hX
    obtain ⟨a2, hc2⟩ := hX.2.2
    have := hc2.2.2.2.2.1
    by_cases e3 : y3 = 0
    · rw [if_pos e3, hc2.2.2.1, mxE (by omega) (by omega), i_add1]
      exact ih (n - 1) (by omega) _ _ _ ⟨k + 1, _, rfl, rfl, by omega, by omega, hX⟩
    · rw [if_neg e3, rGi _ (by omega) (by omega), hc2.1, rGi _ ht (by omega), iNn (by omega), rVe, nb1, rGt]
      refine TT.ret ⟨_, rfl, hX.1.t (frP.s (by omega)), fun j hj => (sg_n hj).trans (congrFun hX.2.1 j), ⟨a2, (sg_d (by omega)).trans hc2.1, (sg_d (by omega)).trans hc2.2.1, (sg_d (by omega)).trans hc2.2.2.1, hc2.2.2.2⟩, Or.inr ⟨k, by omega, ?_⟩⟩
      exact sg_e.trans (i_add1 k)
def qA (V : am_V) : am_P := fun r W => ∃ x, r = .inl (some (.int x)) ∧ frP V W ∧ ∃ t, t ≤ 12 ∧ W 13 2 = nI t ∧ pK W t
theorem s_readAll (hl : l ≤ 60) (h : V 13 3 = nI l) : TT (d_X3_readAll V) (qA V) := by
  unfold d_X3_readAll
  rw [rVe, rVe]
  refine lr_X3_readAll_10 (fun n W => ∃ t a, n + t = 12 ∧ pC W t l a ∧ pK W t ∧ frP V W) ?_ 12 1000 (by omega) _ ⟨0, 0, by omega, ⟨(sg_n (by decide)).trans sg_e, (sg_n (by decide)).trans ((sg_n (by decide)).trans h), sg_e, by omega, by omega, hl⟩, fun j hj => absurd hj (Nat.not_lt_zero _), (frP.s (by omega)).t (frP.s (by omega))⟩
  rintro n kr ih W ⟨t, a, e, hc, hk, hf⟩
  unfold bd_X3_readAll_10
  refine TT.Bj (R := fun j => ∀ X, (∃ t, t ≤ 12 ∧ X 13 2 = nI t ∧ pK X t) → frP V X → TT (j X) (qA V)) (fun X hX fX => ?_) (fun j hj => ?_)
  · exact TT.ret ⟨_, rfl, fX, hX⟩
  · have ht12 : t ≤ 12 := hc.2.2.2.1
    rw [hc.1]
    by_cases e1 : 12 ≤ t
    · rw [if_pos (by rw [i_leE (by omega) (by omega)]; exact e1)]
      exact hj _ ⟨t, by omega, hc.1, hk⟩ hf
    · rw [if_neg (by rw [i_leE (by omega) (by omega)]; exact e1), hc.2.2.1]
      obtain ⟨r, X, hr, x, rfl, f1, g1, ⟨a1, c1⟩, hx⟩ := s_readCommand hc (by omega)
      rw [hr, rIe]
      have hkX : pK X t := fun j hj => by
        obtain ⟨k, hk1, hk2⟩ := hk j hj
        exact ⟨k, hk1, (g1 j (by omega)).trans hk2⟩
      by_cases e2 : x = 0
      · rw [if_pos e2]
        exact hj _ ⟨t, by omega, c1.1, hkX⟩ (hf.t f1)
      · rw [if_neg e2, rVe, c1.1, i_add1]
        have hx := hx.resolve_left e2
        have c2 : pC (am_set X 13 2 (nI (t + 1))) (t + 1) l a1 := ⟨sg_e, (sg_n (by decide)).trans c1.2.1, (sg_n (by decide)).trans c1.2.2.1, by omega, c1.2.2.2.2⟩
        have hk2 : pK (am_set X 13 2 (nI (t + 1))) (t + 1) := fun j hj => by
          rw [sg_d (by omega)]
          by_cases ej : j = t
          · rw [ej]; exact hx
          · exact hkX j (by omega)
        have f2 : frP V (am_set X 13 2 (nI (t + 1))) := (hf.t f1).t (frP.s (by omega))
        rw [c2.2.2.1, c2.2.1]
        have := c2.2.2.2.2.1
        by_cases e3 : a1 < l
        · rw [if_pos (by rw [i_ltE (by omega) (by omega)]; exact e3)]
          refine TT.I (s_takeSign c2) (fun y7 Y hY => ?_)
          obtain ⟨f3, g3, a3, c3⟩ := hY
          have hk3 : pK Y (t + 1) := fun j hj => by rw [g3]; exact hk2 j hj
          by_cases e4 : y7 = 0
          · rw [if_neg (fun q => q e4)]
            exact TT.ret ⟨_, rfl, f2.t f3, t + 1, by omega, c3.1, hk3⟩
          · rw [if_pos e4]
            exact ih (n - 1) (by omega) _ ⟨t + 1, a3, by omega, c3, hk3, f2.t f3⟩
        · rw [if_neg (by rw [i_ltE (by omega) (by omega)]; exact e3)]
          exact TT.ret ⟨_, rfl, f2, t + 1, by omega, c2.1, hk2⟩
theorem s_read (hl : l ≤ 60) (h : V 13 3 = nI l) : TI (d_X3_read V) (fun _ W => frP V W ∧ W 13 3 = nI 0 ∧ ∃ t, t ≤ 12 ∧ W 13 2 = nI t ∧ pK W t) := by
  rw [TI.T]
  unfold d_X3_read
  obtain ⟨r, X, hr, x, rfl, f1, t, ht, h1, h2⟩ := s_readAll hl h
  rw [hr, rIe, rVe]
  exact TT.ret ⟨_, rfl, f1.t (frP.s (by omega)), sg_e, t, ht, (sg_n (by decide)).trans h1, fun j hj => by rw [sg_d (by omega)]; exact h2 j hj⟩
/-- a character goes into the input, or there is no place for it -/
theorem s_type1 (hl : l ≤ 60) (h : V 13 3 = nI l) {y : Int32} (h1 : ¬ y < nI 32) (h2 : y ≤ nI 126) (h3 : am_nc y = true) : TI (d_L_put y V) (fun _ W => frP V W ∧ ∃ l', l' ≤ 60 ∧ W 13 3 = nI l') := by
  unfold d_L_put d_X11_appendInput
  simp only [rBe]
  rw [if_neg h1, if_pos h2, h]
  by_cases e : l < 60
  · rw [if_pos (by rw [i_ltE (by omega) (by omega)]; exact e)]
    unfold d_X3_append
    simp only [rBe]
    rw [h, if_neg (by rw [i_leE (by omega) (by omega)]; omega), rGi _ e (by omega), h3, rGt, rVe, rVe, iNn (by omega), rUe, rXe, nb1, rGt]
    refine TI.ret ⟨(frP.s (by omega)).t (frP.s (by omega)), l + 1, by omega, ?_⟩
    rw [sg_e, sg_d (by omega), h, i_add1]
  · rw [if_neg (by rw [i_ltE (by omega) (by omega)]; exact e)]
    rw [rXn, if_pos rfl, nb0, rGt]
    exact TI.ret ⟨frP.r V, l, hl, h⟩
theorem s_typed (hz : z < 39) (hl : l ≤ 60) (h : V 13 3 = nI l) : TT (d_L_typed z V) (fun r W => r = .inl (some (.ref 1)) ∧ frP V W ∧ ∃ l', l' ≤ 60 ∧ W 13 3 = nI l') := by
  have hx := x_len z hz
  unfold d_L_typed
  refine lr_L_typed_2 (fun n a2 W => ∃ k, a2 = nI k ∧ n + k = xLEN.getD z 0 ∧ frP V W ∧ ∃ l', l' ≤ 60 ∧ W 13 3 = nI l') ?_ (xLEN.getD z 0) 30 (by omega) _ _ ⟨0, rfl, by omega, frP.r V, l, hl, h⟩
  rintro n kr ih a2 W ⟨k, rfl, e, hf, l2, hl2, h2⟩
  unfold bd_L_typed_2
  rw [q_len hz, rIe]
  by_cases e1 : xLEN.getD z 0 ≤ k
  · rw [if_pos (by rw [i_leE (by omega) (by omega)]; exact e1)]
    exact TT.ret ⟨rfl, hf, l2, hl2, h2⟩
  · rw [if_neg (by rw [i_leE (by omega) (by omega)]; exact e1), q_chr hz (by omega), rIe]
    obtain ⟨-, t2, t3, -, t5⟩ := x_txt ⟨z, hz⟩ ⟨k, by omega⟩ (by show k < xLEN.getD z 0; omega)
    refine TT.I (s_type1 hl2 h2 t2 t3 t5) ?_
    rintro y X ⟨f, hX⟩
    rw [i_add1]
    exact ih (n - 1) (by omega) _ _ ⟨k + 1, rfl, by omega, hf.t f, hX⟩
end
