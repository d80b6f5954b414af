/-! ===== the law's calls that change ===== -/
theorem TT.X {m : am_R} {f : Int32 → am_V → am_R} {g : String → am_V → am_R} {Q P : am_P} (h : TT m Q) (k1 : ∀ x V, Q (.inl (some (.int x))) V → TT (f x V) P) (k2 : ∀ E V, Q (.inr E) V → TT (g E V) P) (k3 : ∀ r V, Q r V → (∃ x, r = .inl (some (.int x))) ∨ ∃ E, r = .inr E) : TT (rXI m f g) P := by
  obtain ⟨r, V, rfl, hq⟩ := h
  rcases k3 r V hq with ⟨x, rfl⟩ | ⟨E, rfl⟩
  · exact k1 x V hq
  · exact k2 E V hq
def lM (w : Nat) (g : gT) (bad : Int32 → Prop) (R : Int32 → sT → Prop) (V : am_V) (x : Int32) (W : am_V) : Prop :=
  frX V W ∧ ∃ g', vG W g' ∧ wG (w + 30) g' ∧ g_sn g' = g_sn g ∧ g_sv g' = g_sv g ∧
    ((x = (-100000000 : Int32) ∧ (bad (-1) ∨ bad (-2) ∨ bad (-3)) ∧ g_s g' = g_s g ∧ g_kp g' = g_kp g) ∨
     ∃ k, x = nI k ∧ k < 100000000 ∧ R (nI k) (g_s g') ∧ 0 < g_kp g' ∧ g_h g' ((g_nx g' + 8) % 9) = g_s g)
section
variable {V W : am_V} {w : Nat} {g : gT} {bad : Int32 → Prop} {R : Int32 → sT → Prop}
theorem s_Lmut {m : am_R} {hd : String → am_V → am_R} (h : TT m (pM w g bad R V)) (hg : ∀ E W, ((E = "java/lang/IndexOutOfBoundsException" ∧ bad (-1)) ∨ (E = "java/lang/IllegalArgumentException" ∧ bad (-2)) ∨ (E = "java/lang/UnsupportedOperationException" ∧ bad (-3))) → hd E W = some (.inl (some (.int ((-100000000 : Int32)))), W)) :
    TI (rXI m (fun y V => some (.inl (some (.int y)), V)) hd) (lM w g bad R V) := by
  rw [TI.T]
  refine TT.X h ?_ ?_ ?_
  · rintro x W ⟨f, g', h1, h2, h3, h4, h5⟩
    rcases h5 with ⟨⟨E, hE, -⟩, -⟩ | ⟨k, hk, h6⟩
    · cases hE
    · exact TT.ret ⟨_, rfl, f, g', h1, h2, h3, h4, Or.inr ⟨k, by injection hk with q; injection q with q; injection q, h6⟩⟩
  · rintro E W ⟨f, g', h1, h2, h3, h4, h5⟩
    rcases h5 with ⟨⟨E', hE, h6⟩, h7⟩ | ⟨k, hk, -⟩
    · injection hE with hE
      subst hE
      rw [hg E W h6]
      exact TT.ret ⟨_, rfl, f, g', h1, h2, h3, h4, Or.inl ⟨rfl, h6.imp And.right (Or.imp And.right And.right), h7⟩⟩
    · cases hk
  · rintro r W ⟨f, g', h1, h2, h3, h4, h5⟩
    rcases h5 with ⟨⟨E', hE, -⟩, -⟩ | ⟨k, hk, -⟩
    · exact Or.inr ⟨E', hE⟩
    · exact Or.inl ⟨_, hk⟩
theorem mS_mR {s : sT} {x : Int32} (h : mS w 0 s bad V x W) : mR w s bad (fun _ _ => True) V x W :=
  ⟨h.1, h.2.imp id fun ⟨k, s', a, b, c, d⟩ => ⟨k, s', a, b, c, d, trivial⟩⟩
abbrev rT : Int32 → sT → Prop := fun _ _ => True
theorem s_L_addField {x : Int32} (hG : vG V g) (hW : wG w g) : TI (d_L_addField x V) (lM w g (fun x => x = -2 ∨ x = -3) rT V) := by
  unfold d_L_addField
  refine s_Lmut (bad := fun x => x = -2 ∨ x = -3) (R := rT) (s_mut hG hW (fun V1 h1 => (s_appendField (N := (g_s g).1) (C := (g_s g).2.1) (A := (g_s g).2.2) h1 hW.2.2.1).mono fun _ _ => mS_mR) (fun x h => h.elim (fun h => Or.inr (Or.inl h)) fun h => Or.inr (Or.inr h))) ?_
  rintro E W (⟨rfl, h⟩ | ⟨rfl, h⟩ | ⟨rfl, h⟩)
  · exact absurd h (by decide)
  · rw [if_pos rfl]
  · rw [if_neg (by decide), if_pos rfl]
theorem s_L_setShield {x y : Int32} (hG : vG V g) (hW : wG w g) : TI (d_L_setShield x y V) (lM w g (fun x => x = -1 ∨ x = -2) rT V) := by
  unfold d_L_setShield
  refine s_Lmut (bad := fun x => x = -1 ∨ x = -2) (R := rT) (s_mut hG hW (fun V1 h1 => (s_replaceShield (N := (g_s g).1) (C := (g_s g).2.1) (A := (g_s g).2.2) h1 hW.2.2.1).mono fun _ _ => mS_mR) (fun x h => h.elim Or.inl fun h => Or.inr (Or.inl h))) ?_
  rintro E W (⟨rfl, h⟩ | ⟨rfl, h⟩ | ⟨rfl, h⟩)
  · rw [if_pos rfl]
  · rw [if_neg (by decide), if_pos rfl]
  · exact absurd h (by decide)
theorem s_L_addPath {x y z u : Int32} (hG : vG V g) (hW : wG w g) : TI (d_L_addPath x y z u V) (lM w g (fun x => x = -1 ∨ x = -2 ∨ x = -3) rT V) := by
  unfold d_L_addPath
  refine s_Lmut (bad := fun x => x = -1 ∨ x = -2 ∨ x = -3) (R := rT) (s_mut hG hW (fun V1 h1 => (s_appendPath (N := (g_s g).1) (C := (g_s g).2.1) (A := (g_s g).2.2) h1 hW.2.2.1).mono fun _ _ => mS_mR) (fun x h => h)) ?_
  rintro E W (⟨rfl, h⟩ | ⟨rfl, h⟩ | ⟨rfl, h⟩)
  · rw [if_pos rfl]
  · rw [if_neg (by decide), if_pos rfl]
  · rw [if_neg (by decide), if_neg (by decide), if_pos rfl]
theorem s_L_setGust {x y : Int32} (hG : vG V g) (hW : wG w g) : TI (d_L_setGust x y V) (lM w g (fun x => x = -1 ∨ x = -2) rT V) := by
  unfold d_L_setGust
  refine s_Lmut (bad := fun x => x = -1 ∨ x = -2) (R := rT) (s_mut hG hW (fun V1 h1 => (s_replaceGust (N := (g_s g).1) (C := (g_s g).2.1) (A := (g_s g).2.2) h1 hW.2.2.1).mono fun _ _ => mS_mR) (fun x h => h.elim Or.inl fun h => Or.inr (Or.inl h))) ?_
  rintro E W (⟨rfl, h⟩ | ⟨rfl, h⟩ | ⟨rfl, h⟩)
  · rw [if_pos rfl]
  · rw [if_neg (by decide), if_pos rfl]
  · exact absurd h (by decide)
theorem s_L_setBlocked {x y : Int32} (hG : vG V g) (hW : wG w g) : TI (d_L_setBlocked x y V) (lM w g (fun x => x = -1 ∨ x = -3) rT V) := by
  unfold d_L_setBlocked
  refine s_Lmut (bad := fun x => x = -1 ∨ x = -3) (R := rT) (s_mut hG hW (fun V1 h1 => (s_replaceBlocked (N := (g_s g).1) (C := (g_s g).2.1) (A := (g_s g).2.2) h1 hW.2.2.1).mono fun _ _ => mS_mR) (fun x h => h.elim Or.inl fun h => Or.inr (Or.inr h))) ?_
  rintro E W (⟨rfl, h⟩ | ⟨rfl, h⟩ | ⟨rfl, h⟩)
  · rw [if_pos rfl]
  · exact absurd h (by decide)
  · rw [if_neg (by decide), if_pos rfl]
theorem s_L_setSeed {x : Int32} (hG : vG V g) (hW : wG w g) : TI (d_L_setSeed x V) (lM w g (fun x => x = -2) rT V) := by
  unfold d_L_setSeed
  refine s_Lmut (bad := fun x => x = -2) (R := rT) (s_mut hG hW (fun V1 h1 => (s_replaceSeed (N := (g_s g).1) (C := (g_s g).2.1) (A := (g_s g).2.2) h1 hW.2.2.1).mono fun _ _ => mS_mR) (fun x h => Or.inr (Or.inl h))) ?_
  rintro E W (⟨rfl, h⟩ | ⟨rfl, h⟩ | ⟨rfl, h⟩)
  · exact absurd h (by decide)
  · rw [if_pos rfl]
  · exact absurd h (by decide)
theorem bad_nI {x : Int32} (h : x = -1 ∨ x = -2 ∨ x = -3) {k : Nat} (hk : k < 2147483648) : x ≠ nI k := by
  intro q
  rcases h with h | h | h
  · exact nI_neg hk (m := -1) (by decide) (q.symm.trans h)
  · exact nI_neg hk (m := -2) (by decide) (q.symm.trans h)
  · exact nI_neg hk (m := -3) (by decide) (q.symm.trans h)
def badB : Int32 → Prop := fun x => x = -1 ∨ x = -2 ∨ x = -3
def rB0 (s : sT) : Int32 → sT → Prop := fun _ _ => c_ru s.2.1 = false
theorem m_begin {x y : Int32} {b : Bool} {s : sT} (hS : vS V 0 s) (h : wS w s) (hw : w ≤ 400000) : TI (d_X2_beginBroadcast 0 x y (bI b) V) (mR w s badB (rB0 s) V) := by
  refine (s_begin (N := s.1) (C := s.2.1) (A := s.2.2) (b := b) hS h hw).mono ?_
  rintro z W ⟨⟨f, h1⟩, h2⟩
  refine ⟨f, h1.imp id fun ⟨k, s', e, hk, h3, h4⟩ => ⟨k, s', e, hk, h3, h4, ?_⟩⟩
  show c_ru s.2.1 = false
  cases hr : c_ru s.2.1 with
  | false => rfl
  | true => exact (bad_nI (h2 hr) (k := k) (by omega) e).elim
theorem s_L_start {x y : Int32} {b : Bool} (hG : vG V g) (hW : wG w g) (hw : w ≤ 400000) : TI (d_L_startBroadcast x y (bI b) V) (lM w g badB (rB0 (g_s g)) V) := by
  unfold d_L_startBroadcast
  refine s_Lmut (s_mut hG hW (fun V1 h1 => m_begin h1 hW.2.2.1 hw) (fun x h => h)) ?_
  rintro E W (⟨rfl, h⟩ | ⟨rfl, h⟩ | ⟨rfl, h⟩)
  · rw [if_pos rfl]
  · rw [if_neg (by decide), if_pos rfl]
  · rw [if_neg (by decide), if_neg (by decide), if_pos rfl]
def badR (s : sT) : Int32 → Prop := fun x => x = -3 ∧ c_ru s.2.1 = false
def rW (s : sT) : Int32 → sT → Prop := fun _ s' => c_ru s.2.1 = true ∧ s' = (s.1, blowS s.1 s.2)
def rE (s : sT) : Int32 → sT → Prop := fun x s' => c_ru s.2.1 = true ∧ x = nI (endF s.1 30 s.2).2 ∧ s' = (s.1, (endF s.1 30 s.2).1)
def rA0 (s : sT) : Int32 → sT → Prop := fun _ _ => c_ru s.2.1 = true
theorem badR_1 {s : sT} {x : Int32} (h : badR s x) : x = -1 ∨ x = -2 ∨ x = -3 := Or.inr (Or.inr h.1)
theorem m_wind {s : sT} (hS : vS V 0 s) (h : wS w s) (hw : w ≤ 300000) : TI (d_X2_letBlowOnce 0 V) (mR w s (badR s) (rW s) V) := by
  refine (s_letOnce (N := s.1) (S := s.2) hS h (by omega)).mono ?_
  rintro x W ⟨f, ⟨hr, rfl, h2⟩ | ⟨hr, rfl, h2⟩⟩
  · have hb := blow_ok (N := s.1) (S := s.2) h hr
    exact ⟨f, Or.inr ⟨_, _, rfl, by omega, h2, hb.1.m (by omega), hr, rfl⟩⟩
  · exact ⟨f, Or.inl ⟨⟨rfl, hr⟩, h2⟩⟩
theorem m_end {s : sT} (hS : vS V 0 s) (h : wS w s) (hw : w ≤ 300000) : TI (d_X2_letBlowToEnd 0 V) (mR w s (badR s) (rE s) V) := by
  refine (s_letEnd (N := s.1) (S := s.2) hS h (by omega)).mono ?_
  rintro x W ⟨f, ⟨hr, rfl, h2⟩ | ⟨hr, rfl, h2⟩⟩
  · have hb := endF_ok (N := s.1) 30 w s.2 h
    exact ⟨f, Or.inr ⟨_, _, rfl, by omega, h2, hb.1, hr, rfl, rfl⟩⟩
  · exact ⟨f, Or.inl ⟨⟨rfl, hr⟩, h2⟩⟩
theorem m_stop {s : sT} (hS : vS V 0 s) (h : wS w s) : TI (d_X2_stopBroadcast 0 V) (mR w s (fun x => x = -3) (rA0 s) V) := by
  refine (s_stop (N := s.1) (C := s.2.1) (A := s.2.2) hS h).mono ?_
  rintro x W ⟨⟨f, h1⟩, h2⟩
  refine ⟨f, h1.imp id fun ⟨k, s', e, hk, h3, h4⟩ => ⟨k, s', e, hk, h3, h4, ?_⟩⟩
  show c_ru s.2.1 = true
  cases hr : c_ru s.2.1 with
  | true => rfl
  | false => exact (bad_nI (Or.inr (Or.inr (h2 hr))) (k := k) (by omega) e).elim
theorem s_L_wind (hG : vG V g) (hW : wG w g) (hw : w ≤ 300000) : TI (d_L_wind V) (lM w g (badR (g_s g)) (rW (g_s g)) V) := by
  unfold d_L_wind
  refine s_Lmut (s_mut hG hW (fun V1 h1 => m_wind h1 hW.2.2.1 hw) (fun x h => badR_1 h)) ?_
  rintro E W (⟨rfl, h⟩ | ⟨rfl, h⟩ | ⟨rfl, h⟩)
  · exact absurd h.1 (by decide)
  · exact absurd h.1 (by decide)
  · rw [if_pos rfl]
theorem s_L_end (hG : vG V g) (hW : wG w g) (hw : w ≤ 300000) : TI (d_L_windUntilEnd V) (lM w g (badR (g_s g)) (rE (g_s g)) V) := by
  unfold d_L_windUntilEnd
  refine s_Lmut (s_mut hG hW (fun V1 h1 => m_end h1 hW.2.2.1 hw) (fun x h => badR_1 h)) ?_
  rintro E W (⟨rfl, h⟩ | ⟨rfl, h⟩ | ⟨rfl, h⟩)
  · exact absurd h.1 (by decide)
  · exact absurd h.1 (by decide)
  · rw [if_pos rfl]
theorem s_L_abort (hG : vG V g) (hW : wG w g) : TI (d_L_abort V) (lM w g (fun x => x = -3) (rA0 (g_s g)) V) := by
  unfold d_L_abort
  refine s_Lmut (s_mut hG hW (fun V1 h1 => m_stop h1 hW.2.2.1) (fun x h => Or.inr (Or.inr h))) ?_
  rintro E W (⟨rfl, h⟩ | ⟨rfl, h⟩ | ⟨rfl, h⟩)
  · exact absurd h (by decide)
  · exact absurd h (by decide)
  · rw [if_pos rfl]
theorem s_L_undo (hG : vG V g) (hW : wG w g) : TI (d_L_undo V) (fun x W => frX V W ∧ ((g_kp g = 0 ∧ x = (-100000000 : Int32) ∧ W = V) ∨ (0 < g_kp g ∧ x = nI (g_kp g - 1) ∧ vG W (g_h g ((g_nx g + 8) % 9), g_sn g, g_h g, (g_nx g + 8) % 9, g_kp g - 1, g_sv g)))) := by
  rw [TI.T]
  unfold d_L_undo
  refine TT.X (s_undo hG hW) ?_ ?_ ?_
  · rintro x W ⟨f, ⟨-, q, -⟩ | ⟨h1, h2, h3⟩⟩
    · cases q
    · exact TT.ret ⟨_, rfl, f, Or.inr ⟨h1, by injection h2 with q; injection q with q; injection q, h3⟩⟩
  · rintro E W ⟨f, ⟨h1, h2, h3⟩ | ⟨-, q, -⟩⟩
    · injection h2 with h2
      subst h2
      rw [if_pos rfl]
      exact TT.ret ⟨_, rfl, f, Or.inl ⟨h1, rfl, h3⟩⟩
    · cases q
  · rintro r W ⟨f, ⟨h1, h2, h3⟩ | ⟨-, q, -⟩⟩
    · exact Or.inr ⟨_, h2⟩
    · exact Or.inl ⟨_, q⟩
theorem s_L_restore (hG : vG V g) : TI (d_L_restore V) (fun x W => frX V W ∧ ((g_sv g = false ∧ x = (-100000000 : Int32) ∧ W = V) ∨ (g_sv g = true ∧ x = nI (n_ft (g_sn g).1) ∧ vG W (g_sn g, g_sn g, g_h g, g_nx g, 0, g_sv g)))) := by
  rw [TI.T]
  unfold d_L_restore
  refine TT.X (s_restore hG) ?_ ?_ ?_
  · rintro x W ⟨f, ⟨-, q, -⟩ | ⟨h1, h2, h3⟩⟩
    · cases q
    · exact TT.ret ⟨_, rfl, f, Or.inr ⟨h1, by injection h2 with q; injection q with q; injection q, h3⟩⟩
  · rintro E W ⟨f, ⟨h1, h2, h3⟩ | ⟨-, q, -⟩⟩
    · injection h2 with h2
      subst h2
      rw [if_pos rfl]
      exact TT.ret ⟨_, rfl, f, Or.inl ⟨h1, rfl, h3⟩⟩
    · cases q
  · rintro r W ⟨f, ⟨h1, h2, h3⟩ | ⟨-, q, -⟩⟩
    · exact Or.inr ⟨_, h2⟩
    · exact Or.inl ⟨_, q⟩
end
