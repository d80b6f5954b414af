/-! ===== states that keep the document's bounds; w winds and broadcasts at most so far ===== -/
def wC (n w : Nat) (C : cT) : Prop := c_sd C < 512 ∧ c_bl C ≤ 30 ∧ (c_ru C = true → c_bl C < 30 ∧ 0 < c_st C) ∧ c_st C ≤ w ∧ (c_st C = 0 → c_da C = 0 ∧ c_pa C = false) ∧
  (0 < c_st C → c_og C < n ∧ 1 ≤ c_da C ∧ c_da C ≤ 6 ∧ c_hd C (c_og C) = allP C) ∧ ∀ g, g < n → c_hd C g < 2 ^ tot C
def wA (N : nT) (w : Nat) (A : aT) : Prop := a_se A ≤ 504 * w ∧ a_sp A ≤ 4536 * w ∧ a_re A ≤ 9 * w ∧ a_lo A ≤ a_se A ∧ a_fi A + a_fa A ≤ w ∧ sumN (a_us A) (n_pt N) = a_se A ∧ sumN (fun p => a_us A p * n_co N p) (n_pt N) = a_sp A
def wS (w : Nat) (s : sT) : Prop := wN s.1 ∧ wC (n_ft s.1) w s.2.1 ∧ wA s.1 w s.2.2
section
variable {w w' : Nat} {N : nT} {S : cT × aT} {C : cT} {A : aT} {s : sT}
theorem wC.m {n : Nat} (h : wC n w C) (hw : w ≤ w') : wC n w' C := ⟨h.1, h.2.1, h.2.2.1, Nat.le_trans h.2.2.2.1 hw, h.2.2.2.2⟩
theorem wA.m (h : wA N w A) (hw : w ≤ w') : wA N w' A := by
  obtain ⟨a, b, c, d, e, f⟩ := h
  exact ⟨by omega, by omega, by omega, d, by omega, f⟩
theorem wS.m (h : wS w s) (hw : w ≤ w') : wS w' s := ⟨h.1, h.2.1.m hw, h.2.2.m hw⟩
theorem wC_da {n : Nat} (h : wC n w C) : c_da C ≤ 6 := by
  by_cases e : c_st C = 0
  · have := (h.2.2.2.2.1 e).1; omega
  · exact (h.2.2.2.2.2.1 (by omega)).2.2.1
theorem wC_tot {n : Nat} (h : wC n w C) : tot C ≤ 7 := by
  have := wC_da h
  unfold tot
  split <;> omega
theorem allP_lt (h : tot C ≤ 7) : allP C < 128 := by
  have := pow_le7 h
  have := pow_pos2 (tot C)
  unfold allP
  omega
theorem endS_eq (N : nT) (T : tT) (S : cT × aT) : (c_st (endS N T S).1 = c_st S.1 ∧ c_og (endS N T S).1 = c_og S.1 ∧ c_da (endS N T S).1 = c_da S.1 ∧ c_pa (endS N T S).1 = c_pa S.1 ∧ c_bl (endS N T S).1 = c_bl S.1 ∧ c_sd (endS N T S).1 = c_sd S.1 ∧ c_hd (endS N T S).1 = c_hd S.1) ∧
    (a_se (endS N T S).2 = a_se S.2 ∧ a_lo (endS N T S).2 = a_lo S.2 ∧ a_re (endS N T S).2 = a_re S.2 ∧ a_sp (endS N T S).2 = a_sp S.2 ∧ a_us (endS N T S).2 = a_us S.2) ∧
    ((c_ru (endS N T S).1 = false ∧ a_fi (endS N T S).2 + a_fa (endS N T S).2 = a_fi S.2 + a_fa S.2 + 1) ∨ (c_ru (endS N T S).1 = c_ru S.1 ∧ c_bl S.1 < 30 ∧ a_fi (endS N T S).2 = a_fi S.2 ∧ a_fa (endS N T S).2 = a_fa S.2)) := by
  unfold endS
  by_cases h : ctB N T S.1 = true
  · rw [if_pos h]
    refine ⟨⟨rfl, rfl, rfl, rfl, rfl, rfl, rfl⟩, ⟨rfl, rfl, rfl, rfl, rfl⟩, Or.inl ⟨rfl, ?_⟩⟩
    show a_fi S.2 + 1 + a_fa S.2 = _
    omega
  · rw [if_neg h]
    by_cases h2 : 30 ≤ c_bl S.1
    · rw [if_pos h2]
      exact ⟨⟨rfl, rfl, rfl, rfl, rfl, rfl, rfl⟩, ⟨rfl, rfl, rfl, rfl, rfl⟩, Or.inl ⟨rfl, rfl⟩⟩
    · rw [if_neg h2]
      exact ⟨⟨rfl, rfl, rfl, rfl, rfl, rfl, rfl⟩, ⟨rfl, rfl, rfl, rfl, rfl⟩, Or.inr ⟨rfl, by omega, rfl, rfl⟩⟩
/-- a wind keeps the bounds; it ends the broadcast or leaves winds to come -/
theorem blow_ok (h : wS w (N, S)) (hr : c_ru S.1 = true) : wS (w + 1) (N, blowS N S) ∧ c_bl (blowS N S).1 = c_bl S.1 + 1 ∧ c_st (blowS N S).1 = c_st S.1 ∧
    ((c_ru (blowS N S).1 = false ∧ a_fi (blowS N S).2 + a_fa (blowS N S).2 = a_fi S.2 + a_fa S.2 + 1) ∨ (c_ru (blowS N S).1 = true ∧ a_fi (blowS N S).2 + a_fa (blowS N S).2 = a_fi S.2 + a_fa S.2)) ∧ blowA N S ≤ 504 := by
  obtain ⟨hw, hC, hA⟩ := h
  change wN N at hw
  change wC (n_ft N) w S.1 at hC
  change wA N w S.2 at hA
  obtain ⟨c1, c2, c3, c4, c5, c6, c7⟩ := hC
  obtain ⟨a1, a2, a3, a4, a5, a6, a7⟩ := hA
  obtain ⟨c8, c9⟩ := c3 hr
  obtain ⟨o1, o2, o3, o4⟩ := c6 c9
  obtain ⟨r3, r4, r5⟩ := rl_mid hw o1 c7
  have ht := rl_tot r4
  obtain ⟨⟨e1, e2, e3, e4, e5, e6, e7, e8⟩, b, c, d1, d2, d3, d4, d5, d6, d7⟩ := r4
  obtain ⟨k1, k2⟩ := c c7
  obtain ⟨⟨x1, x2, x3, x4, x5, x6, x7⟩, ⟨y1, y2, y3, y4, y5⟩, z⟩ := endS_eq N (treeF N (c_og S.1)) (blF (mid2 N S))
  have hbl : c_bl (blF (mid2 N S)).1 = c_bl S.1 + 1 := by
    show c_bl (mid2 N S).1 + 1 = _
    rw [e6]
  have htt : tot (blowS N S).1 = tot S.1 := by
    rw [← ht]
    show tot (endS N (treeF N (c_og S.1)) (blF (mid2 N S))).1 = _
    unfold tot
    rw [x3, x4]
    rfl
  have hst : c_st (blowS N S).1 = c_st S.1 := x1.trans e1
  have hog : c_og (blowS N S).1 = c_og S.1 := x2.trans e3
  have hda : c_da (blowS N S).1 = c_da S.1 := x3.trans e4
  have hpa : c_pa (blowS N S).1 = c_pa S.1 := x4.trans e5
  have hb : c_bl (blowS N S).1 = c_bl S.1 + 1 := x5.trans hbl
  have hhd : c_hd (blowS N S).1 = c_hd (mid2 N S).1 := x7
  have hse : a_se (blowS N S).2 = a_se (mid2 N S).2 := y1
  have hlo : a_lo (blowS N S).2 = a_lo (mid2 N S).2 := y2
  have hre : a_re (blowS N S).2 = a_re (mid2 N S).2 := y3
  have hsp : a_sp (blowS N S).2 = a_sp (mid2 N S).2 := y4
  have hus : a_us (blowS N S).2 = a_us (mid2 N S).2 := y5
  have z' : (c_ru (blowS N S).1 = false ∧ a_fi (blowS N S).2 + a_fa (blowS N S).2 = a_fi S.2 + a_fa S.2 + 1) ∨ (c_ru (blowS N S).1 = true ∧ c_bl S.1 + 1 < 30 ∧ a_fi (blowS N S).2 + a_fa (blowS N S).2 = a_fi S.2 + a_fa S.2) := by
    rcases z with ⟨z1, z2⟩ | ⟨z1, z2, z3, z4⟩
    · refine Or.inl ⟨z1, z2.trans ?_⟩
      show a_fi (mid2 N S).2 + a_fa (mid2 N S).2 + 1 = _
      rw [e7, e8]
    · refine Or.inr ⟨z1.trans (e2.trans hr), by rw [← hbl]; exact z2, ?_⟩
      have z3 : a_fi (blowS N S).2 = a_fi (mid2 N S).2 := z3
      have z4 : a_fa (blowS N S).2 = a_fa (mid2 N S).2 := z4
      rw [z3, z4, e7, e8]
  have gC : wC (n_ft N) (w + 1) (blowS N S).1 := by
    refine ⟨?_, by rw [hb]; omega, ?_, by rw [hst]; omega, ?_, ?_, ?_⟩
    · have : c_sd (blowS N S).1 = c_sd (mid2 N S).1 := x6
      rw [this]
      exact b c1
    · intro q
      rcases z' with ⟨z1, -⟩ | ⟨z1, z2, -⟩
      · rw [z1] at q; cases q
      · rw [hb, hst]; exact ⟨z2, c9⟩
    · intro q
      rw [hst] at q
      omega
    · intro _
      rw [hog, hda]
      refine ⟨o1, o2, o3, ?_⟩
      rw [hhd]
      unfold allP
      rw [htt]
      refine full_eq (k1 _ o1) fun j hj => k2 _ j o1 ?_
      rw [o4]
      unfold allP
      rw [Nat.testBit_two_pow_sub_one]
      exact decide_eq_true hj
    · intro g hg
      rw [htt, hhd]
      exact k1 g hg
  have gA : wA N (w + 1) (blowS N S).2 := by
    refine ⟨?_, ?_, ?_, ?_, ?_, ?_, ?_⟩
    · rw [hse]; omega
    · rw [hsp]; omega
    · rw [hre]; omega
    · rw [hse, hlo]; omega
    · rcases z' with ⟨-, z2⟩ | ⟨-, -, z2⟩ <;> omega
    · rw [hse, hus]; omega
    · rw [hsp, hus]; omega
  exact ⟨⟨hw, gC, gA⟩, hb, hst, z'.imp id fun q => ⟨q.1, q.2.2⟩, r5⟩
/-- the winds until the end, k at most, and their number -/
noncomputable def endF (N : nT) : Nat → cT × aT → (cT × aT) × Nat
  | 0, S => (S, 0)
  | k + 1, S => if c_ru S.1 = true then ((endF N k (blowS N S)).1, (endF N k (blowS N S)).2 + 1) else (S, 0)
theorem endF_fuel : ∀ (k w : Nat) (S : cT × aT), wS w (N, S) → 30 ≤ c_bl S.1 + k → endF N (k + 1) S = endF N k S := by
  intro k
  induction k with
  | zero =>
    intro w S h hk
    unfold endF
    rw [if_neg]
    intro q
    have : c_bl S.1 < 30 := (h.2.1.2.2.1 q).1
    omega
  | succ k ih =>
    intro w S h hk
    by_cases q : c_ru S.1 = true
    · obtain ⟨b1, b2, -⟩ := blow_ok h q
      have := ih (w + 1) (blowS N S) b1 (by rw [b2]; omega)
      rw [endF, if_pos q, this, endF, if_pos q]
    · rw [endF, if_neg q, endF, if_neg q]
theorem endF_ok : ∀ (k w : Nat) (S : cT × aT), wS w (N, S) → wS (w + k) (N, (endF N k S).1) ∧ (endF N k S).2 ≤ k ∧ (30 ≤ c_bl S.1 + k → c_ru (endF N k S).1.1 = false) ∧
    (30 ≤ c_bl S.1 + k → c_ru S.1 = true → 1 ≤ (endF N k S).2 ∧ a_fi (endF N k S).1.2 + a_fa (endF N k S).1.2 = a_fi S.2 + a_fa S.2 + 1) := by
  intro k
  induction k with
  | zero =>
    intro w S h
    refine ⟨h, Nat.le_refl _, fun hk => ?_, fun hk q => ?_⟩
    · cases q : c_ru S.1 with
      | false => exact q
      | true =>
        have := (h.2.1.2.2.1 q).1
        exact absurd this (by show ¬ c_bl S.1 < 30; omega)
    · have := (h.2.1.2.2.1 q).1
      exact absurd this (by show ¬ c_bl S.1 < 30; omega)
  | succ k ih =>
    intro w S h
    by_cases q : c_ru S.1 = true
    · obtain ⟨b1, b2, b3, b4, -⟩ := blow_ok h q
      obtain ⟨i1, i2, i3, i4⟩ := ih (w + 1) (blowS N S) b1
      rw [endF, if_pos q]
      refine ⟨i1.m (by omega), by show _ + 1 ≤ _; omega, fun hk => i3 (by rw [b2]; omega), fun hk _ => ⟨by show 1 ≤ _ + 1; omega, ?_⟩⟩
      show a_fi (endF N k (blowS N S)).1.2 + a_fa (endF N k (blowS N S)).1.2 = _
      rcases b4 with ⟨b4, b5⟩ | ⟨b4, b5⟩
      · have : (endF N k (blowS N S)).1 = blowS N S := by
          cases k with
          | zero => rfl
          | succ k => rw [endF, if_neg (by rw [b4]; decide)]
        rw [this, b5]
      · rw [(i4 (by rw [b2]; omega) b4).2, b5]
    · rw [endF, if_neg q]
      exact ⟨h.m (by omega), Nat.zero_le _, fun _ => by simpa using q, fun _ q2 => (q q2).elim⟩
end
section
variable {w : Nat} {V : am_V} {i : Nat} {N : nT} {S : cT × aT} {s : sT}
theorem s_blowW (hS : vS V i (N, S)) (h : wS w (N, S)) (hw : w ≤ 400000) (hr : c_ru S.1 = true) : TI (d_X10_blowOnce i V) (fun x W => x = nI (blowA N S) ∧ frB i V W ∧ vS W i (N, blowS N S)) := by
  obtain ⟨h1, h2, h3⟩ := h
  change wN N at h1
  change wC (n_ft N) w S.1 at h2
  have b1 := (h2.2.2.1 hr).1
  have b2 := h2.2.2.2.1
  have b3 := (h2.2.2.1 hr).2
  exact s_blow h1 (h2.2.2.2.2.2.1 b3).1 hS h2.1 (wC_tot h2) h2.2.2.2.2.2.2 (by omega) (wC_da h2) (by omega)
/-- the tables differ in the state i, the tree of the winds and the reasons of a rejection at most -/
def frM (i : Nat) (V W : am_V) : Prop := ∀ c, ¬ (sS i ≤ c ∧ c < sS i + 16) → ¬ (30 < c ∧ c < 36) → c ≠ 12 → W c = V c
theorem frM.r (i : Nat) (V : am_V) : frM i V V := fun _ _ _ _ => rfl
theorem frM.t {i : Nat} {V W X : am_V} (h : frM i V W) (k : frM i W X) : frM i V X := fun c hc h2 h3 => (k c hc h2 h3).trans (h c hc h2 h3)
theorem frB.m {i : Nat} {V W : am_V} (h : frB i V W) : frM i V W := fun c hc h2 _ => h c hc h2
theorem frS.m {i : Nat} {V W : am_V} (h : frS i V W) : frM i V W := fun c hc _ _ => h c hc
theorem s_reject {a b : Int32} : TI (d_X2_reject a b V) (fun x W => x = -3 ∧ frM i V W ∧ ∀ c, c ≠ 12 → W c = V c) := by
  unfold d_X2_reject
  simp only [rVe]
  have e : ∀ c, c ≠ 12 → (am_set (am_set V 12 0 a) 12 1 b) c = V c := fun c hc => by rw [am_set_ne _ _ _ hc, am_set_ne _ _ _ hc]
  exact TI.ret ⟨rfl, fun c _ _ hc => e c hc, e⟩
theorem vS_12 {W : am_V} (h : vS V i s) (e : ∀ c, c ≠ 12 → W c = V c) : vS W i s := vS_cg h fun c hc _ => e c (by have := sS_ge i; omega)
/-- one wind, as a change -/
theorem s_letOnce (hS : vS V i (N, S)) (h : wS w (N, S)) (hw : w ≤ 400000) : TI (d_X2_letBlowOnce i V) (fun x W => frM i V W ∧ ((c_ru S.1 = true ∧ x = nI (blowA N S) ∧ vS W i (N, blowS N S)) ∨ (c_ru S.1 = false ∧ x = -3 ∧ vS W i (N, S)))) := by
  rw [TI.T]
  unfold d_X2_letBlowOnce
  rw [hS.2.1.2.1]
  show TT (if ¬ bI (c_ru S.1) = 0 then _ else _) _
  cases hr : c_ru S.1 with
  | true =>
    rw [if_pos (by decide)]
    refine TT.I (s_blowW hS h hw hr) ?_
    rintro x W ⟨rfl, f1, f2⟩
    exact TT.ret ⟨_, rfl, f1.m, Or.inl ⟨rfl, rfl, f2⟩⟩
  | false =>
    rw [if_neg (by decide)]
    refine TT.I (s_reject (i := i)) ?_
    rintro x W ⟨rfl, f1, f2⟩
    exact TT.ret ⟨_, rfl, f1, Or.inr ⟨rfl, rfl, vS_12 hS f2⟩⟩
/-- the winds until the end, as a change -/
theorem s_letEnd (hS : vS V i (N, S)) (h : wS w (N, S)) (hw : w ≤ 300000) : TI (d_X2_letBlowToEnd i V) (fun x W => frM i V W ∧ ((c_ru S.1 = true ∧ x = nI (endF N 30 S).2 ∧ vS W i (N, (endF N 30 S).1)) ∨ (c_ru S.1 = false ∧ x = -3 ∧ vS W i (N, S)))) := by
  rw [TI.T]
  unfold d_X2_letBlowToEnd
  rw [hS.2.1.2.1]
  show TT (if ¬ bI (c_ru S.1) = 0 then _ else _) _
  by_cases hr : c_ru S.1 = true
  · rw [if_pos (by rw [hr]; decide)]
    refine lr_X2_letBlowToEnd_26 (I := fun n9 k V9 => ∃ (j : Nat) (S' : cT × aT), k = nI j ∧ n9 = 30 - j ∧ j ≤ 30 ∧ frB i V V9 ∧ vS V9 i (N, S') ∧ wS (w + j) (N, S') ∧ (endF N 30 S).1 = (endF N (30 - j) S').1 ∧ (endF N 30 S).2 = j + (endF N (30 - j) S').2) ?_ 30 1000 (by omega) _ V ⟨0, S, rfl, rfl, by omega, frB.r i V, hS, h, rfl, (Nat.zero_add _).symm⟩
    rintro n9 kr hkr k V9 ⟨j, S', rfl, rfl, j1, h1, h2, h3, h4, h5⟩
    unfold bd_X2_letBlowToEnd_26
    rw [h2.2.1.2.1]
    show TT (if nI 30 ≤ nI j then _ else if bI (c_ru S'.1) = 0 then _ else _) _
    simp (disch := omega) only [i_leE, bI0]
    by_cases hj : 30 ≤ j
    · rw [if_pos hj]
      have e : j = 30 := by omega
      subst e
      refine TT.ret ⟨_, rfl, h1.m, Or.inl ⟨hr, ?_, ?_⟩⟩
      · rw [h5]; rfl
      · rw [h4]; exact h2
    · rw [if_neg hj]
      cases hr' : c_ru S'.1 with
      | false =>
        rw [if_pos rfl]
        have e : endF N (30 - j) S' = (S', 0) := by
          rw [show 30 - j = (29 - j) + 1 by omega, endF, if_neg (by rw [hr']; decide)]
        rw [e] at h4 h5
        refine TT.ret ⟨_, rfl, h1.m, Or.inl ⟨hr, ?_, ?_⟩⟩
        · rw [h5]; rfl
        · rw [h4]; exact h2
      | true =>
        rw [if_neg (by decide)]
        refine TT.I (s_blowW h2 h3 (by omega) hr') ?_
        rintro x W ⟨-, f1, f2⟩
        rw [i_add1]
        have e : endF N (30 - j) S' = ((endF N (30 - (j + 1)) (blowS N S')).1, (endF N (30 - (j + 1)) (blowS N S')).2 + 1) := by
          rw [show 30 - j = (30 - (j + 1)) + 1 by omega, endF, if_pos hr']
        rw [e] at h4 h5
        exact hkr (30 - (j + 1)) (by omega) _ _ ⟨j + 1, blowS N S', rfl, rfl, by omega, h1.t f1, f2, (blow_ok h3 hr').1, h4, by rw [h5]; show _ = _; omega⟩
  · have hr2 : c_ru S.1 = false := by simpa using hr
    rw [if_neg (by rw [hr2]; decide)]
    refine TT.I (s_reject (i := i)) ?_
    rintro x W ⟨rfl, f1, f2⟩
    exact TT.ret ⟨_, rfl, f1, Or.inr ⟨hr2, rfl, vS_12 hS f2⟩⟩
end
