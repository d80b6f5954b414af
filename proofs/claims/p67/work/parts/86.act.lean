/-! ===== what a word of the script does ===== -/
def iP (V : am_V) : Prop := ∃ l, l ≤ 60 ∧ V 13 3 = nI l
def hP (w : Nat) (V : am_V) (g : gT) : Prop := hG w V g ∧ iP V
/-- after an act: where it answers that it failed, the state is as it was -/
def aR (w : Nat) (g : gT) (y : Int32) (W : am_V) : Prop := ∃ g', hP (w + 360) W g' ∧ (y = (-100000000 : Int32) → g_s g' = g_s g)
theorem and64k (y : Int32) : ∃ k, k < 65536 ∧ y &&& (65535 : Int32) = nI k := by
  refine ⟨y.toBitVec.toNat &&& 65535, Nat.lt_of_le_of_lt Nat.and_le_right (by omega), ?_⟩
  have : y = nI y.toBitVec.toNat := by
    show y = Int32.ofNat _
    rw [← Int32.toBitVec_inj]
    show y.toBitVec = BitVec.ofNat 32 _
    rw [BitVec.ofNat_toNat, BitVec.setWidth_eq]
  rw [show (65535 : Int32) = nI 65535 from rfl, this, i_and]
  rw [← this]
theorem dn7 : decide (¬ nI 7 = 0) = true := by decide
theorem dn11 : decide (¬ nI 11 = 0) = true := by decide
theorem dn8 : decide (¬ nI 8 = 0) = true := by decide
theorem dn520 : decide (¬ nI 520 = 0) = true := by decide
theorem dn28 : decide (¬ Int32.ofNat 28 = 0) = true := by decide
section
variable {V W X : am_V} {w z : Nat} {g : gT} {bad : Int32 → Prop} {R : Int32 → sT → Prop} {m : am_R}
theorem iP.x (h : iP V) (f : frX V W) : iP W := by
  obtain ⟨l, hl, e⟩ := h
  exact ⟨l, hl, (congrFun (f 13 (by omega)) 3).trans e⟩
theorem a_lM (h : hP w V g) (hw : w + 360 ≤ 290000) (hm : TI m (lM w g bad R V)) : TI m (aR w g) := by
  refine hm.mono ?_
  rintro x W ⟨f, g', h1, h2, h3, h4, h5⟩
  refine ⟨g', ⟨⟨h1, h2.m (by omega), hw⟩, h.2.x f⟩, fun e => ?_⟩
  rcases h5 with ⟨-, -, h6, -⟩ | ⟨k, rfl, hk, -⟩
  · exact h6
  · exact absurd e (nI_fx (by omega))
theorem a_undo (h : hP w V g) (hw : w + 360 ≤ 290000) : TI (d_L_undo V) (aR w g) := by
  obtain ⟨⟨h1, h2, -⟩, h4⟩ := h
  refine (s_L_undo h1 h2).mono ?_
  rintro x W ⟨f, ⟨-, rfl, rfl⟩ | ⟨h5, rfl, h6⟩⟩
  · exact ⟨g, ⟨⟨h1, h2.m (by omega), hw⟩, h4⟩, fun _ => rfl⟩
  · have := h2.2.1
    have l9 : (g_nx g + 8) % 9 < 9 := Nat.mod_lt _ (by omega)
    refine ⟨_, ⟨⟨h6, ⟨l9, ?_, (h2.2.2.2.2 _ l9).m (by omega), h2.2.2.2.1.m (by omega), fun j hj => (h2.2.2.2.2 j hj).m (by omega)⟩, hw⟩, h4.x f⟩, fun e => absurd e (nI_fx (by omega))⟩
    show g_kp g - 1 ≤ 8
    omega
theorem a_restore (h : hP w V g) (hw : w + 360 ≤ 290000) : TI (d_L_restore V) (aR w g) := by
  obtain ⟨⟨h1, h2, -⟩, h4⟩ := h
  refine (s_L_restore h1).mono ?_
  rintro x W ⟨f, ⟨-, rfl, rfl⟩ | ⟨h5, rfl, h6⟩⟩
  · exact ⟨g, ⟨⟨h1, h2.m (by omega), hw⟩, h4⟩, fun _ => rfl⟩
  · have h9 : n_ft (g_sn g).1 ≤ 9 := h2.2.2.2.1.1.1
    refine ⟨_, ⟨⟨h6, ⟨h2.1, Nat.zero_le _, h2.2.2.2.1.m (by omega), h2.2.2.2.1.m (by omega), fun j hj => (h2.2.2.2.2 j hj).m (by omega)⟩, hw⟩, h4.x f⟩, fun e => absurd e (nI_fx (by omega))⟩
theorem a_save (h : hP w V g) (hw : w + 360 ≤ 290000) : TI (d_X11_saveSnapshot V) (aR w g) := by
  obtain ⟨⟨h1, h2, -⟩, h4⟩ := h
  refine (s_save h1).mono ?_
  rintro x W ⟨f, rfl, h6⟩
  have h9 : n_ft (g_s g).1 ≤ 9 := h2.2.2.1.1.1
  exact ⟨_, ⟨⟨h6, ⟨h2.1, h2.2.1, h2.2.2.1.m (by omega), h2.2.2.1.m (by omega), fun j hj => (h2.2.2.2.2 j hj).m (by omega)⟩, hw⟩, h4.x f⟩, fun _ => rfl⟩
/-- a text typed into the input, and executed -/
theorem m_typed (h : hP w V g) (hw : w + 360 ≤ 290000) (hz : z < 39) : ∃ W, d_L_typed z V = some (.inl (some (.ref 1)), W) ∧ TI (d_L_execute W) (lE w g) := by
  obtain ⟨⟨h1, h2, h3⟩, l, hl, h4⟩ := h
  obtain ⟨r, W, hr, rfl, f1, l', hl', h5⟩ := s_typed hz hl h4
  exact ⟨W, hr, s_L_execute (vG_fP h1 f1) h2 (by omega) hl' h5⟩
theorem a_lE (hw : w + 360 ≤ 290000) (hm : TI m (lE w g)) : TI m (aR w g) := by
  refine hm.mono ?_
  rintro x W ⟨h0, g', h1, h2, h3, h4, h5⟩
  refine ⟨g', ⟨⟨h1, h2, hw⟩, 0, by omega, h0⟩, fun e => ?_⟩
  rcases h5 with ⟨-, h6, -⟩ | ⟨k, rfl, hk, -⟩
  · exact h6
  · exact absurd e (nI_fx (by omega))
set_option maxHeartbeats 4000000 in
theorem t_act (x : Int32) (h : hP w V g) (hw : w + 360 ≤ 290000) : TI (d_L_act x V) (aR w g) := by
  have hg := h.1.1
  have hW := h.1.2.1
  unfold d_L_act
  obtain ⟨y, hy, e⟩ := and64k (x >>> ((nI 4) &&& 31))
  rw [e]
  generalize x &&& nI 15 = q
  simp only [dn7, dn10, dn11, dn8, dn520, dn28, rGt, rBe]
  by_cases c0 : q = nI 0
  · rw [if_pos c0]
    exact TI.id (a_lM h hw (s_L_addField hg hW))
  rw [if_neg c0]
  by_cases c1 : q = nI 1 ∨ q = nI 2 ∨ q = nI 3
  · rw [if_pos c1]
    exact TI.id (a_lM h hw (s_L_addPath hg hW))
  rw [if_neg c1]
  by_cases c2 : q = nI 4
  · rw [if_pos c2]
    by_cases d : nI y &&& nI 64 = 0
    · rw [if_neg (fun k => k d)]
      exact TI.id (a_lM h hw (s_L_setShield hg hW))
    · rw [if_pos d]
      exact TI.id (a_lM h hw (s_L_setGust hg hW))
  rw [if_neg c2]
  by_cases c3 : q = nI 5
  · rw [if_pos c3]
    by_cases d : nI y &&& nI 64 = 0
    · rw [if_neg (fun k => k d)]
      exact TI.id (a_lM h hw (s_L_setBlocked hg hW))
    · rw [if_pos d]
      exact TI.id (a_lM h hw (s_L_setBlocked hg hW))
  rw [if_neg c3]
  by_cases c4 : q = nI 6
  · rw [if_pos c4]
    exact TI.id (a_lM h hw (s_L_setSeed hg hW))
  rw [if_neg c4]
  by_cases c5 : q = nI 7 ∨ q = nI 8
  · rw [if_pos c5]
    by_cases d : nI y &&& nI 64 = 0
    · rw [if_neg (fun k => k d)]
      exact TI.id (a_lM h hw (s_L_start (b := true) hg hW (by omega)))
    · rw [if_pos d]
      exact TI.id (a_lM h hw (s_L_start (b := false) hg hW (by omega)))
  rw [if_neg c5]
  by_cases c6 : q = nI 9 ∨ q = nI 10
  · rw [if_pos c6]
    exact TI.id (a_lM h hw (s_L_wind hg hW (by omega)))
  rw [if_neg c6]
  by_cases c7 : q = nI 11
  · rw [if_pos c7]
    by_cases d : nI y &&& nI 96 = 0
    · rw [if_neg (fun k => k d)]
      exact TI.id (a_lM h hw (s_L_abort hg hW))
    · rw [if_pos d]
      by_cases d2 : nI y &&& nI 96 = nI 32
      · rw [if_neg (fun k => k d2)]
        exact TI.id (a_lM h hw (s_L_end hg hW (by omega)))
      · rw [if_pos d2]
        exact TI.id (a_lM h hw (s_L_wind hg hW (by omega)))
  rw [if_neg c7]
  by_cases c8 : q = nI 12 ∨ q = nI 13 ∨ q = nI 14
  · rw [if_pos c8, show Int32.ofNat 28 = nI 28 from rfl, i_rm (by omega) (by omega) (by omega), rGi _ (Nat.mod_lt _ (by omega)) (by omega), iNn (by have := Nat.mod_lt y (show 0 < 28 by omega); omega)]
    obtain ⟨W, hr, hE⟩ := m_typed h hw (z := y % 28) (by have := Nat.mod_lt y (show 0 < 28 by omega); omega)
    rw [hr, rAe]
    exact TI.id (a_lE hw hE)
  rw [if_neg c8]
  by_cases d : nI y &&& nI 3 = 0
  · rw [if_neg (fun k => k d)]
    exact TI.id (a_save h hw)
  · rw [if_pos d]
    by_cases d2 : nI y &&& nI 3 = nI 1
    · rw [if_neg (fun k => k d2)]
      exact TI.id (a_restore h hw)
    · rw [if_pos d2]
      exact TI.id (a_undo h hw)
end
