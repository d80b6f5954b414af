/-! ===== the object: the state now, the snapshot, the states ahead of the changes ===== -/
abbrev gT : Type := sT × sT × (Nat → sT) × Nat × Nat × Bool
def g_s (g : gT) : sT := g.1
def g_sn (g : gT) : sT := g.2.1
def g_h (g : gT) : Nat → sT := g.2.2.1
def g_nx (g : gT) : Nat := g.2.2.2.1
def g_kp (g : gT) : Nat := g.2.2.2.2.1
def g_sv (g : gT) : Bool := g.2.2.2.2.2
def vG (V : am_V) (g : gT) : Prop := vS V 0 (g_s g) ∧ vS V 2 (g_sn g) ∧ (∀ j, j < 9 → vS V (3 + j) (g_h g j)) ∧ V 2 1 = nI (g_nx g) ∧ V 2 2 = nI (g_kp g) ∧ V 1 11 = bI (g_sv g)
def wG (w : Nat) (g : gT) : Prop := g_nx g < 9 ∧ g_kp g ≤ 8 ∧ wS w (g_s g) ∧ wS w (g_sn g) ∧ ∀ j, j < 9 → wS w (g_h g j)
/-- what the calls, but for those of the input, leave as it is: the input, the commands, the texts -/
def frX (V W : am_V) : Prop := ∀ c, (13 ≤ c ∧ c < 17) ∨ (40 ≤ c ∧ c < 52) ∨ 292 ≤ c → W c = V c
theorem frX.r (V : am_V) : frX V V := fun _ _ => rfl
theorem frX.t {V W X : am_V} (h : frX V W) (k : frX W X) : frX V X := fun c hc => (k c hc).trans (h c hc)
theorem sS_le {i : Nat} (h : i < 12) : sS i + 16 ≤ 292 := by unfold sS; omega
theorem frS.x {i : Nat} {V W : am_V} (hi : i < 12) (h : frS i V W) : frX V W := fun c hc => h c (by have := sS_ge i; have := sS_le hi; omega)
theorem frM.x {i : Nat} {V W : am_V} (hi : i < 12) (h : frM i V W) : frX V W := fun c hc => h c (by have := sS_ge i; have := sS_le hi; omega) (by omega) (by omega)
theorem frX.s {V : am_V} {c k : Nat} {x : Int32} (h : c < 13 ∨ (17 ≤ c ∧ c < 40)) : frX V (am_set V c k x) := fun d hd => am_set_ne _ _ _ (by omega)
theorem wG.m {w w' : Nat} {g : gT} (h : wG w g) (hw : w ≤ w') : wG w' g := ⟨h.1, h.2.1, h.2.2.1.m hw, h.2.2.2.1.m hw, fun j hj => (h.2.2.2.2 j hj).m hw⟩
section
variable {V W : am_V} {w : Nat} {g : gT}
theorem vS_lo {i c k : Nat} {x : Int32} {s : sT} (h : vS V i s) (hc : c < 100) : vS (am_set V c k x) i s := vS_cg h fun d hd _ => am_set_ne _ _ _ (by have := sS_ge i; omega)
theorem vS_fS {i j : Nat} {s : sT} (hij : i ≠ j) (h : vS V j s) (e : frS i V W) : vS W j s := vS_cg h fun c h1 h2 => e c (by have := sS_far hij; omega)
theorem frS_c {i c : Nat} (e : frS i V W) (hc : c < 100) : W c = V c := e c (by have := sS_ge i; omega)
theorem s_note (hG : vG V g) (hW : wG w g) : TU (d_X4_note 0 V) (fun W => frX V W ∧ (∀ c, c < 100 → W c = V c) ∧ vG W (g_s g, g_sn g, (fun j => if j = g_nx g then g_s g else g_h g j), g_nx g, g_kp g, g_sv g)) := by
  obtain ⟨h1, h2, h3, h4, h5, h6⟩ := hG
  have w1 := hW.1
  rw [TU.T]
  unfold d_X4_note
  rw [h4]
  simp (disch := omega) only [rGi, iNn]
  refine TT.U (s_copy (i := 3 + g_nx g) (j := 0) (by omega) h1) ?_
  rintro W ⟨f1, f2⟩
  refine TT.ret ⟨rfl, f1.x (by omega), fun c hc => frS_c f1 hc, vS_fS (by omega) h1 f1, vS_fS (by omega) h2 f1, fun j hj => ?_, ?_, ?_, ?_⟩
  · show vS W (3 + j) (if j = g_nx g then g_s g else g_h g j)
    by_cases e : j = g_nx g
    · rw [if_pos e, e]; exact f2
    · rw [if_neg e]; exact vS_fS (by omega) (h3 j hj) f1
  · rw [frS_c f1 (by omega)]; exact h4
  · rw [frS_c f1 (by omega)]; exact h5
  · rw [frS_c f1 (by omega)]; exact h6
theorem s_keep (hG : vG V g) (hW : wG w g) : TU (d_X4_keep V) (fun W => frX V W ∧ vG W (g_s g, g_sn g, g_h g, (g_nx g + 1) % 9, min (g_kp g + 1) 8, g_sv g)) := by
  obtain ⟨h1, h2, h3, h4, h5, h6⟩ := hG
  have w1 := hW.1
  have w2 := hW.2.1
  unfold d_X4_keep
  rw [dn9, rGt]
  simp (disch := omega) only [rVe, h4, i_add1, i_rm, sg_n, h5, mnE]
  refine TU.ret ⟨(frX.s (by omega)).t (frX.s (by omega)), vS_lo (vS_lo h1 (by omega)) (by omega), vS_lo (vS_lo h2 (by omega)) (by omega), fun j hj => vS_lo (vS_lo (h3 j hj) (by omega)) (by omega), ?_, ?_, ?_⟩
  · rw [sg_n (by decide), sg_e]; rfl
  · rw [sg_e]; rfl
  · rw [sg_d (by decide), sg_d (by decide)]; exact h6
theorem s_forget (hG : vG V g) : TU (d_X4_forget V) (fun W => frX V W ∧ (∀ c, c ≠ 2 → W c = V c) ∧ vG W (g_s g, g_sn g, g_h g, g_nx g, 0, g_sv g)) := by
  obtain ⟨h1, h2, h3, h4, h5, h6⟩ := hG
  unfold d_X4_forget
  rw [rVe]
  refine TU.ret ⟨frX.s (by omega), fun c hc => am_set_ne _ _ _ hc, vS_lo h1 (by omega), vS_lo h2 (by omega), fun j hj => vS_lo (h3 j hj) (by omega), ?_, ?_, ?_⟩
  · rw [sg_n (by decide)]; exact h4
  · rw [sg_e]; rfl
  · rw [sg_d (by decide)]; exact h6
/-- undone: the state ahead of the latest change, if one is kept -/
theorem s_undo (hG : vG V g) (hW : wG w g) : TT (d_X11_undo V) (fun r W => frX V W ∧ ((g_kp g = 0 ∧ r = .inr "java/lang/IllegalStateException" ∧ W = V) ∨
    (0 < g_kp g ∧ r = .inl (some (.int (nI (g_kp g - 1)))) ∧ vG W (g_h g ((g_nx g + 8) % 9), g_sn g, g_h g, (g_nx g + 8) % 9, g_kp g - 1, g_sv g)))) := by
  obtain ⟨h1, h2, h3, h4, h5, h6⟩ := hG
  have w1 := hW.1
  have w2 := hW.2.1
  unfold d_X11_undo
  rw [h5]
  simp (disch := omega) only [i_eq0]
  by_cases e : g_kp g = 0
  · rw [if_neg (by simp [e])]
    exact TT.ret ⟨frX.r V, Or.inl ⟨e, rfl, rfl⟩⟩
  · rw [if_pos e]
    unfold d_X4_stepBack
    simp only [rBe]
    rw [h5]
    simp (disch := omega) only [i_le0]
    rw [if_neg e, dn9, rGt]
    simp (disch := omega) only [rVe, h4, nI_add, i_sub, i_rm, sg_n, sg_e, h5, rGi, iNn]
    have e8 : (g_nx g + 9 - 1) % 9 = (g_nx g + 8) % 9 := by omega
    rw [e8]
    have l9 : (g_nx g + 8) % 9 < 9 := Nat.mod_lt _ (by omega)
    have k1 := vS_lo (c := 2) (k := 2) (x := nI (g_kp g - 1)) (vS_lo (c := 2) (k := 1) (x := nI ((g_nx g + 8) % 9)) (h3 _ l9) (by omega)) (by omega)
    refine TT.U (Q := fun W => frX V W ∧ vG W (g_h g ((g_nx g + 8) % 9), g_sn g, g_h g, (g_nx g + 8) % 9, g_kp g - 1, g_sv g)) ?_ ?_
    · rw [TU.T]
      refine TT.U (s_copy (i := 0) (j := 3 + (g_nx g + 8) % 9) (by omega) k1) ?_
      rintro W ⟨f1, f2⟩
      refine TT.ret ⟨rfl, ((frX.s (by omega)).t (frX.s (by omega))).t (f1.x (by omega)), f2, vS_fS (by omega) (vS_lo (vS_lo h2 (by omega)) (by omega)) f1, fun j hj => vS_fS (by omega) (vS_lo (vS_lo (h3 j hj) (by omega)) (by omega)) f1, ?_, ?_, ?_⟩
      · rw [frS_c f1 (by omega), sg_n (by decide), sg_e]; rfl
      · rw [frS_c f1 (by omega), sg_e]; rfl
      · rw [frS_c f1 (by omega), sg_d (by decide), sg_d (by decide)]; exact h6
    · rintro W ⟨f1, f2⟩
      refine TT.ret ⟨f1, Or.inr ⟨by omega, ?_, f2⟩⟩
      rw [f2.2.2.2.2.1]
      rfl
theorem s_save (hG : vG V g) : TI (d_X11_saveSnapshot V) (fun x W => frX V W ∧ x = nI (n_ft (g_s g).1) ∧ vG W (g_s g, g_s g, g_h g, g_nx g, g_kp g, true)) := by
  obtain ⟨h1, h2, h3, h4, h5, h6⟩ := hG
  rw [TI.T]
  unfold d_X11_saveSnapshot
  refine TT.U (s_copy (i := 2) (j := 0) (by omega) h1) ?_
  rintro W ⟨f1, f2⟩
  rw [nb1, rGt, rVe]
  have k1 := vS_lo (c := 1) (k := 11) (x := nI 1) (vS_fS (by omega) h1 f1) (by omega)
  refine TT.ret ⟨_, rfl, (f1.x (by omega)).t (frX.s (by omega)), ?_, k1, vS_lo f2 (by omega), fun j hj => vS_lo (vS_fS (by omega) (h3 j hj) f1) (by omega), ?_, ?_, ?_⟩
  · exact k1.1.2.1
  · rw [sg_d (by decide), frS_c f1 (by omega)]; exact h4
  · rw [sg_d (by decide), frS_c f1 (by omega)]; exact h5
  · rw [sg_e]; rfl
theorem s_restore (hG : vG V g) : TT (d_X11_restoreSnapshot V) (fun r W => frX V W ∧ ((g_sv g = false ∧ r = .inr "java/lang/IllegalStateException" ∧ W = V) ∨
    (g_sv g = true ∧ r = .inl (some (.int (nI (n_ft (g_sn g).1)))) ∧ vG W (g_sn g, g_sn g, g_h g, g_nx g, 0, g_sv g)))) := by
  obtain ⟨h1, h2, h3, h4, h5, h6⟩ := hG
  unfold d_X11_restoreSnapshot
  rw [h6]
  by_cases e : g_sv g = true
  · rw [if_pos (by rw [e]; decide)]
    refine TT.U (s_copy (i := 0) (j := 2) (by omega) h2) ?_
    rintro W ⟨f1, f2⟩
    have k : vG W (g_sn g, g_sn g, g_h g, g_nx g, g_kp g, g_sv g) := by
      refine ⟨f2, vS_fS (by omega) h2 f1, fun j hj => vS_fS (by omega) (h3 j hj) f1, ?_, ?_, ?_⟩
      · rw [frS_c f1 (by omega)]; exact h4
      · rw [frS_c f1 (by omega)]; exact h5
      · rw [frS_c f1 (by omega)]; exact h6
    refine TT.U (s_forget k) ?_
    rintro W2 ⟨f3, f4, f5⟩
    refine TT.ret ⟨(f1.x (by omega)).t f3, Or.inr ⟨e, ?_, f5⟩⟩
    rw [f5.1.1.2.1]
    rfl
  · have e2 : g_sv g = false := by simpa using e
    rw [if_neg (by rw [e2]; decide)]
    exact TT.ret ⟨frX.r V, Or.inl ⟨e2, rfl, rfl⟩⟩
end
/-- a change: refused with the state as it was, or done, R of the answer and the state after it -/
def mR (w : Nat) (s : sT) (bad : Int32 → Prop) (R : Int32 → sT → Prop) (V : am_V) (x : Int32) (W : am_V) : Prop :=
  frM 0 V W ∧ ((bad x ∧ vS W 0 s) ∨ ∃ k s', x = nI k ∧ k < 100000000 ∧ vS W 0 s' ∧ wS (w + 30) s' ∧ R x s')
/-- the same of a call -/
def pM (w : Nat) (g : gT) (bad : Int32 → Prop) (R : Int32 → sT → Prop) (V : am_V) (r : Option Value ⊕ String) (W : am_V) : Prop :=
  frX V W ∧ ∃ g', vG W g' ∧ wG (w + 30) g' ∧ g_sn g' = g_sn g ∧ g_sv g' = g_sv g ∧
    (((∃ E, r = .inr E ∧ ((E = "java/lang/IndexOutOfBoundsException" ∧ bad (-1)) ∨ (E = "java/lang/IllegalArgumentException" ∧ bad (-2)) ∨ (E = "java/lang/UnsupportedOperationException" ∧ bad (-3)))) ∧ g_s g' = g_s g ∧ g_kp g' = g_kp g) ∨
     ∃ k, r = .inl (some (.int (nI k))) ∧ k < 100000000 ∧ R (nI k) (g_s g') ∧ 0 < g_kp g' ∧ g_h g' ((g_nx g' + 8) % 9) = g_s g)
section
variable {V W : am_V} {w : Nat} {g : gT} {bad : Int32 → Prop} {R : Int32 → sT → Prop}
theorem vG_fM {g : gT} {s' : sT} (hG : vG V g) (f : frM 0 V W) (h : vS W 0 s') : vG W (s', g.2) := by
  obtain ⟨h1, h2, h3, h4, h5, h6⟩ := hG
  have e : ∀ i, i ≠ 0 → ∀ s, vS V i s → vS W i s := fun i hi s hs => vS_cg hs fun c hc hc2 => f c (by have := sS_far (i := 0) (j := i) (Ne.symm hi); omega) (by have := sS_ge i; omega) (by have := sS_ge i; omega)
  have e2 : ∀ c, c < 12 → W c = V c := fun c hc => f c (by have := sS_ge 0; omega) (by omega) (by omega)
  refine ⟨h, e 2 (by omega) _ h2, fun j hj => e (3 + j) (by omega) _ (h3 j hj), ?_, ?_, ?_⟩
  · rw [e2 2 (by omega)]; exact h4
  · rw [e2 2 (by omega)]; exact h5
  · rw [e2 1 (by omega)]; exact h6
theorem nI_neg {k : Nat} {m : Int32} (hk : k < 2147483648) (hm : m < 0) : ¬ nI k = m := fun q => i_lt0 hk (q ▸ hm)
theorem nI_fx {k : Nat} (hk : k < 2147483648) : ¬ nI k = (-100000000 : Int32) := nI_neg hk (by decide)
theorem vG_1 {c k : Nat} {x : Int32} (hG : vG V g) (hc : (c = 1 ∧ k ≠ 11) ∨ (c ≠ 1 ∧ c ≠ 2 ∧ c < 100)) : vG (am_set V c k x) g := by
  obtain ⟨h1, h2, h3, h4, h5, h6⟩ := hG
  refine ⟨vS_lo h1 (by omega), vS_lo h2 (by omega), fun j hj => vS_lo (h3 j hj) (by omega), ?_, ?_, ?_⟩
  · rw [sg_d (by omega)]; exact h4
  · rw [sg_d (by omega)]; exact h5
  · rw [am_set_get, if_neg (by omega)]; exact h6
set_option maxHeartbeats 1000000 in
theorem s_mut {m : am_V → am_R} (hG : vG V g) (hW : wG w g) (hm : ∀ V1, vS V1 0 (g_s g) → TI (m V1) (mR w (g_s g) bad R V1)) (hb : ∀ x, bad x → x = -1 ∨ x = -2 ∨ x = -3) :
    TT (rU (d_X4_note 0 V) (fun V1 => rI (m V1) (fun y3 V2 => rI (d_X11_settle y3 V2) (fun y5 V4 => some (.inl (some (.int y5)), V4))))) (pM w g bad R V) := by
  refine TT.U (s_note hG hW) ?_
  rintro V1 ⟨f1, -, k1⟩
  refine TT.I (hm V1 k1.1) ?_
  rintro x V2 ⟨f2, h⟩
  have f12 := f1.t (f2.x (by omega))
  obtain ⟨w1, w2, w3, w4, w5⟩ := hW
  have w5' : ∀ j, j < 9 → wS (w + 30) (if j = g_nx g then g_s g else g_h g j) := fun j hj => by
    by_cases e : j = g_nx g
    · rw [if_pos e]; exact w3.m (by omega)
    · rw [if_neg e]; exact (w5 j hj).m (by omega)
  rcases h with ⟨hbad, hS⟩ | ⟨k, s', rfl, hk, hS, hw', hR⟩
  · have k2 := vG_fM k1 f2 hS
    have kW : wG (w + 30) (g_s g, g_sn g, (fun j => if j = g_nx g then g_s g else g_h g j), g_nx g, g_kp g, g_sv g) := ⟨w1, w2, w3.m (by omega), w4.m (by omega), w5'⟩
    unfold d_X11_settle
    rcases hb x hbad with rfl | rfl | rfl
    · rw [if_neg (by decide)]
      exact ⟨_, _, rfl, f12, _, k2, kW, rfl, rfl, Or.inl ⟨⟨_, rfl, Or.inl ⟨rfl, hbad⟩⟩, rfl, rfl⟩⟩
    · rw [if_pos (by decide), if_neg (by decide)]
      exact ⟨_, _, rfl, f12, _, k2, kW, rfl, rfl, Or.inl ⟨⟨_, rfl, Or.inr (Or.inl ⟨rfl, hbad⟩)⟩, rfl, rfl⟩⟩
    · rw [if_pos (by decide), if_pos (by decide), if_neg (by decide)]
      unfold d_X11_noteRejection
      simp only [rVe]
      refine ⟨_, _, rfl, f12.t (((frX.s (by omega)).t (frX.s (by omega))).t (frX.s (by omega))), _, vG_1 (vG_1 (vG_1 k2 (by omega)) (by omega)) (by omega), kW, rfl, rfl, Or.inl ⟨⟨_, rfl, Or.inr (Or.inr ⟨rfl, hbad⟩)⟩, rfl, rfl⟩⟩
  · have k2 := vG_fM k1 f2 hS
    have kW : wG (w + 30) (s', g_sn g, (fun j => if j = g_nx g then g_s g else g_h g j), g_nx g, g_kp g, g_sv g) := ⟨w1, w2, hw', w4.m (by omega), w5'⟩
    unfold d_X11_settle
    rw [if_pos (nI_neg (by omega) (by decide)), if_pos (nI_neg (by omega) (by decide)), if_pos (nI_neg (by omega) (by decide))]
    refine TT.I (Q := fun y W => y = nI k ∧ frX V2 W ∧ vG W (s', g_sn g, (fun j => if j = g_nx g then g_s g else g_h g j), (g_nx g + 1) % 9, min (g_kp g + 1) 8, g_sv g)) ?_ ?_
    · rw [TI.T]
      refine TT.U (s_keep k2 kW) ?_
      rintro W ⟨f3, f4⟩
      exact TT.ret ⟨_, rfl, rfl, f3, f4⟩
    · rintro y W ⟨rfl, f3, f4⟩
      have e9 : ((g_nx g + 1) % 9 + 8) % 9 = g_nx g := by omega
      refine TT.ret ⟨f12.t f3, _, f4, ⟨Nat.mod_lt _ (by omega), Nat.min_le_right _ _, hw', w4.m (by omega), w5'⟩, rfl, rfl, Or.inr ⟨k, rfl, hk, hR, ?_, ?_⟩⟩
      · show 0 < min (g_kp g + 1) 8
        omega
      · show (if ((g_nx g + 1) % 9 + 8) % 9 = g_nx g then g_s g else _) = _
        rw [if_pos e9]
end
