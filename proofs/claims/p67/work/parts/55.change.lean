/-! ===== changes ===== -/
section
variable {V W : am_V} {i : Nat} {N : nT}
theorem vN_cl {x : Nat} (h : vN V i N) : vN (am_set V (sS i + 1) 5 (nI x)) i ((n_ft N, n_pt N, x), N.2) := by
  obtain ⟨h1, h2, h3, h4, h5, h6, h7, h8⟩ := h
  exact ⟨sg_e, (sg_n (by decide)).trans h2, (sg_n (by decide)).trans h3, rowN_n h4 (by omega), rowN_n h5 (by omega), rowN_n h6 (by omega), rowN_n h7 (by omega), rowN_n h8 (by omega)⟩
theorem vN_ft {x : Nat} (h : vN V i N) : vN (am_set V (sS i + 1) 6 (nI x)) i ((x, N.1.2), N.2) := by
  obtain ⟨h1, h2, h3, h4, h5, h6, h7, h8⟩ := h
  exact ⟨(sg_n (by decide)).trans h1, sg_e, (sg_n (by decide)).trans h3, rowN_n h4 (by omega), rowN_n h5 (by omega), rowN_n h6 (by omega), rowN_n h7 (by omega), rowN_n h8 (by omega)⟩
theorem vN_pt {x : Nat} (h : vN V i N) : vN (am_set V (sS i + 1) 7 (nI x)) i ((n_ft N, x, n_cl N), N.2) := by
  obtain ⟨h1, h2, h3, h4, h5, h6, h7, h8⟩ := h
  exact ⟨(sg_n (by decide)).trans h1, (sg_n (by decide)).trans h2, sg_e, rowN_n h4 (by omega), rowN_n h5 (by omega), rowN_n h6 (by omega), rowN_n h7 (by omega), rowN_n h8 (by omega)⟩
theorem vN_sh {x f : Nat} (h : vN V i N) : vN (am_set V (sS i + 4) f (nI x)) i (N.1, (fun y => if y = f then x else n_sh N y), N.2.2) := by
  obtain ⟨h1, h2, h3, h4, h5, h6, h7, h8⟩ := h
  exact ⟨(sg_d (by omega)).trans h1, (sg_d (by omega)).trans h2, (sg_d (by omega)).trans h3, rowN_set h4, rowN_n h5 (by omega), rowN_n h6 (by omega), rowN_n h7 (by omega), rowN_n h8 (by omega)⟩
theorem vN_fs {x f : Nat} (h : vN V i N) : vN (am_set V (sS i + 5) f (nI x)) i (N.1, n_sh N, (fun y => if y = f then x else n_fs N y), N.2.2.2) := by
  obtain ⟨h1, h2, h3, h4, h5, h6, h7, h8⟩ := h
  exact ⟨(sg_d (by omega)).trans h1, (sg_d (by omega)).trans h2, (sg_d (by omega)).trans h3, rowN_n h4 (by omega), rowN_set h5, rowN_n h6 (by omega), rowN_n h7 (by omega), rowN_n h8 (by omega)⟩
theorem vN_sn {x f : Nat} (h : vN V i N) : vN (am_set V (sS i + 6) f (nI x)) i (N.1, n_sh N, n_fs N, (fun y => if y = f then x else n_sn N y), N.2.2.2.2) := by
  obtain ⟨h1, h2, h3, h4, h5, h6, h7, h8⟩ := h
  exact ⟨(sg_d (by omega)).trans h1, (sg_d (by omega)).trans h2, (sg_d (by omega)).trans h3, rowN_n h4 (by omega), rowN_n h5 (by omega), rowN_set h6, rowN_n h7 (by omega), rowN_n h8 (by omega)⟩
theorem vN_co {x f : Nat} (h : vN V i N) : vN (am_set V (sS i + 7) f (nI x)) i (N.1, n_sh N, n_fs N, n_sn N, (fun y => if y = f then x else n_co N y), N.2.2.2.2.2) := by
  obtain ⟨h1, h2, h3, h4, h5, h6, h7, h8⟩ := h
  exact ⟨(sg_d (by omega)).trans h1, (sg_d (by omega)).trans h2, (sg_d (by omega)).trans h3, rowN_n h4 (by omega), rowN_n h5 (by omega), rowN_n h6 (by omega), rowN_set h7, rowN_n h8 (by omega)⟩
theorem vN_gu {x f : Nat} (h : vN V i N) : vN (am_set V (sS i + 8) f (nI x)) i (N.1, n_sh N, n_fs N, n_sn N, n_co N, fun y => if y = f then x else n_gu N y) := by
  obtain ⟨h1, h2, h3, h4, h5, h6, h7, h8⟩ := h
  exact ⟨(sg_d (by omega)).trans h1, (sg_d (by omega)).trans h2, (sg_d (by omega)).trans h3, rowN_n h4 (by omega), rowN_n h5 (by omega), rowN_n h6 (by omega), rowN_n h7 (by omega), rowN_set h8⟩
theorem q_digit (x : Int32) (V : am_V) : ∃ b, d_X2_isDigit x V = some (.inl (some (.int (bI b))), V) ∧ (b = true → ∃ k, k < 10 ∧ x = nI k) := by
  unfold d_X2_isDigit
  simp only [rBe]
  by_cases h : x < 0
  · rw [if_pos h, nb0, rGt]
    exact ⟨false, rfl, fun q => by cases q⟩
  · rw [if_neg h]
    obtain ⟨k, hk, rfl⟩ := nI_of h
    simp (disch := omega) only [i_ltE]
    by_cases h2 : 9 < k
    · rw [if_pos h2, nb0, rGt]
      exact ⟨false, rfl, fun q => by cases q⟩
    · rw [if_neg h2, nb1, rGt]
      exact ⟨true, rfl, fun _ => ⟨k, by omega, rfl⟩⟩
theorem q_hasFieldX (hN : vN V i N) (hw : wN N) (x : Int32) : ∃ b, d_X6_hasField i x V = some (.inl (some (.int (bI b))), V) ∧ (b = true → ∃ k, k < n_ft N ∧ x = nI k) := by
  by_cases h : x < 0
  · refine ⟨false, ?_, fun q => by cases q⟩
    unfold d_X6_hasField
    simp only [rBe]
    rw [if_pos h, nb0, rGt]
    rfl
  · obtain ⟨k, hk, rfl⟩ := nI_of h
    exact ⟨_, q_hasField hN hw hk, fun q => ⟨k, of_decide_eq_true q, rfl⟩⟩
theorem q_hasPathX (hN : vN V i N) (hw : wN N) (x : Int32) : ∃ b, d_X6_hasPath i x V = some (.inl (some (.int (bI b))), V) ∧ (b = true → ∃ k, k < n_pt N ∧ x = nI k) := by
  by_cases h : x < 0
  · refine ⟨false, ?_, fun q => by cases q⟩
    unfold d_X6_hasPath
    simp only [rBe]
    rw [if_pos h, nb0, rGt]
    rfl
  · obtain ⟨k, hk, rfl⟩ := nI_of h
    exact ⟨_, q_hasPath hN hw hk, fun q => ⟨k, of_decide_eq_true q, rfl⟩⟩
end
/-- a change: refused with the state as it was, or done -/
def mS (w i : Nat) (s : sT) (bad : Int32 → Prop) (V : am_V) (x : Int32) (W : am_V) : Prop :=
  frM i V W ∧ ((bad x ∧ vS W i s) ∨ ∃ k s', x = nI k ∧ k < 100000000 ∧ vS W i s' ∧ wS (w + 30) s')
section
variable {V W : am_V} {w i : Nat} {N : nT} {C : cT} {A : aT}
theorem TT.Ie {x : Int32} {V : am_V} {f : Int32 → am_V → am_R} {P : am_P} (h : TT (f x V) P) : TT (rI (some (.inl (some (.int x)), V)) f) P := h
theorem s_rej {s : sT} {a b : Int32} {bad : Int32 → Prop} (hS : vS V i s) (hb : bad (-3)) : TI (rI (d_X2_reject a b V) (fun y W => some (.inl (some (.int y)), W))) (mS w i s bad V) := by
  rw [TI.T]
  refine TT.I (s_reject (i := i)) ?_
  rintro x W ⟨rfl, f1, f2⟩
  exact TT.ret ⟨_, rfl, f1, Or.inl ⟨hb, vS_12 hS f2⟩⟩
set_option maxHeartbeats 2000000 in
theorem s_appendField {x : Int32} (hS : vS V i (N, C, A)) (h : wS w (N, C, A)) : TI (d_X2_appendField i x V) (mS w i (N, C, A) (fun x => x = -2 ∨ x = -3) V) := by
  obtain ⟨hN, hC, hA⟩ := hS
  obtain ⟨g1, g2, g3⟩ := h
  change vN V i N at hN
  change vC V i C at hC
  change vA V i A at hA
  change wN N at g1
  change wC (n_ft N) w C at g2
  change wA N w A at g3
  have w1 := g1.1
  unfold d_X2_appendField
  obtain ⟨b, hb, hx⟩ := q_digit x V
  rw [hb, rIe]
  cases b with
  | false =>
    rw [if_neg (by decide)]
    exact TI.ret ⟨frM.r i V, Or.inl ⟨Or.inl rfl, hN, hC, hA⟩⟩
  | true =>
    rw [if_pos (by decide)]
    obtain ⟨k, hk, rfl⟩ := hx rfl
    simp (disch := omega) only [hN.2.1, i_ltE]
    by_cases h9 : n_ft N < 9
    · rw [if_pos h9]
      simp (disch := omega) only [rGi, iNn, rVe, sg_d, hN.2.1, i_add1, sg_e, i_sub]
      refine TI.ret ⟨((((frS.s (by omega)).t (frS.s (by omega))).t (frS.s (by omega))) : frS i V _).m, Or.inr ⟨n_ft N, (((n_ft N + 1, N.1.2), (fun y => if y = n_ft N then k else n_sh N y), N.2.2), (C.1, fun y => if y = n_ft N then 0 else c_hd C y), A), ?_, by omega, ⟨?_, ?_, ?_⟩, ?_⟩⟩
      · rw [show n_ft N + 1 - 1 = n_ft N by omega]
      · exact vN_ft (vN_s (vN_sh hN) (by omega))
      · exact vC_s (vC_hd (vC_s hC (by omega))) (by omega)
      · exact vA_s (vA_s (vA_s hA (by omega)) (by omega)) (by omega)
      · refine ⟨⟨?_, g1.2.1, g1.2.2.1, ?_, ?_, g1.2.2.2.2.2⟩, ?_, g3.m (by omega)⟩
        · show n_ft N + 1 ≤ 9; omega
        · intro j hj
          show (if j = n_ft N then k else n_sh N j) < 10
          have hj : j < n_ft N + 1 := hj
          by_cases e : j = n_ft N
          · rw [if_pos e]; exact hk
          · rw [if_neg e]; exact g1.2.2.2.1 j (by omega)
        · intro j hj
          obtain ⟨b1, b2, b3⟩ := g1.2.2.2.2.1 j hj
          exact ⟨Nat.lt_succ_of_lt b1, Nat.lt_succ_of_lt b2, b3⟩
        · obtain ⟨c1, c2, c3, c4, c5, c6, c7⟩ := g2
          refine ⟨c1, c2, c3, Nat.le_trans c4 (by omega), c5, fun hst => ?_, fun g hg => ?_⟩
          · obtain ⟨o1, o2, o3, o4⟩ := c6 hst
            refine ⟨Nat.lt_succ_of_lt o1, o2, o3, ?_⟩
            show (if c_og C = n_ft N then 0 else c_hd C (c_og C)) = _
            rw [if_neg (by omega)]
            exact o4
          · show (if g = n_ft N then 0 else c_hd C g) < 2 ^ tot C
            have hg : g < n_ft N + 1 := hg
            by_cases e : g = n_ft N
            · rw [if_pos e]; exact pow_pos2 _
            · rw [if_neg e]; exact c7 g (by omega)
    · rw [if_neg h9]
      exact s_rej ⟨hN, hC, hA⟩ (Or.inr rfl)
set_option maxHeartbeats 2000000 in
theorem s_replaceShield {x y : Int32} (hS : vS V i (N, C, A)) (h : wS w (N, C, A)) : TI (d_X2_replaceShield i x y V) (mS w i (N, C, A) (fun x => x = -1 ∨ x = -2) V) := by
  obtain ⟨hN, hC, hA⟩ := hS
  obtain ⟨g1, g2, g3⟩ := h
  change vN V i N at hN
  change vC V i C at hC
  change vA V i A at hA
  change wN N at g1
  change wC (n_ft N) w C at g2
  change wA N w A at g3
  have w1 := g1.1
  unfold d_X2_replaceShield
  obtain ⟨b, hb, hx⟩ := q_hasFieldX hN g1 x
  rw [hb, rIe]
  cases b with
  | false =>
    rw [if_neg (by decide)]
    exact TI.ret ⟨frM.r i V, Or.inl ⟨Or.inl rfl, hN, hC, hA⟩⟩
  | true =>
    rw [if_pos (by decide)]
    obtain ⟨f, hf, rfl⟩ := hx rfl
    obtain ⟨b2, hb2, hx2⟩ := q_digit y V
    rw [hb2, rIe]
    cases b2 with
    | false =>
      rw [if_neg (by decide)]
      exact TI.ret ⟨frM.r i V, Or.inl ⟨Or.inr rfl, hN, hC, hA⟩⟩
    | true =>
      rw [if_pos (by decide)]
      obtain ⟨k, hk, rfl⟩ := hx2 rfl
      have := g1.2.2.2.1 f hf
      simp (disch := omega) only [rGi, iNn, rVe, hN.2.2.2.1 f (show f < 9 by omega)]
      refine TI.ret ⟨((frS.s (by omega)) : frS i V _).m, Or.inr ⟨n_sh N f, ((N.1, (fun y => if y = f then k else n_sh N y), N.2.2), C, A), rfl, by omega, ⟨vN_sh hN, vC_s hC (by omega), vA_s hA (by omega)⟩, ⟨g1.1, g1.2.1, g1.2.2.1, fun j hj => ?_, g1.2.2.2.2⟩, g2.m (by omega), g3.m (by omega)⟩⟩
      show (if j = f then k else n_sh N j) < 10
      by_cases e : j = f
      · rw [if_pos e]; exact hk
      · rw [if_neg e]; exact g1.2.2.2.1 j hj
set_option maxHeartbeats 2000000 in
theorem s_replaceGust {x y : Int32} (hS : vS V i (N, C, A)) (h : wS w (N, C, A)) : TI (d_X2_replaceGust i x y V) (mS w i (N, C, A) (fun x => x = -1 ∨ x = -2) V) := by
  obtain ⟨hN, hC, hA⟩ := hS
  obtain ⟨g1, g2, g3⟩ := h
  change vN V i N at hN
  change vC V i C at hC
  change vA V i A at hA
  change wN N at g1
  change wC (n_ft N) w C at g2
  change wA N w A at g3
  have w2 := g1.2.1
  unfold d_X2_replaceGust
  obtain ⟨b, hb, hx⟩ := q_hasPathX hN g1 x
  rw [hb, rIe]
  cases b with
  | false =>
    rw [if_neg (by decide)]
    exact TI.ret ⟨frM.r i V, Or.inl ⟨Or.inl rfl, hN, hC, hA⟩⟩
  | true =>
    rw [if_pos (by decide)]
    obtain ⟨f, hf, rfl⟩ := hx rfl
    obtain ⟨b2, hb2, hx2⟩ := q_digit y V
    rw [hb2, rIe]
    cases b2 with
    | false =>
      rw [if_neg (by decide)]
      exact TI.ret ⟨frM.r i V, Or.inl ⟨Or.inr rfl, hN, hC, hA⟩⟩
    | true =>
      rw [if_pos (by decide)]
      obtain ⟨k, hk, rfl⟩ := hx2 rfl
      have := (g1.2.2.2.2.1 f hf).2.2.2.2.2
      simp (disch := omega) only [rGi, iNn, rVe, hN.2.2.2.2.2.2.2 f (show f < 16 by omega)]
      refine TI.ret ⟨((frS.s (by omega)) : frS i V _).m, Or.inr ⟨n_gu N f, ((N.1, n_sh N, n_fs N, n_sn N, n_co N, (fun y => if y = f then k else n_gu N y)), C, A), rfl, by omega, ⟨vN_gu hN, vC_s hC (by omega), vA_s hA (by omega)⟩, ⟨g1.1, g1.2.1, g1.2.2.1, g1.2.2.2.1, fun j hj => ?_, g1.2.2.2.2.2⟩, g2.m (by omega), g3.m (by omega)⟩⟩
      obtain ⟨b1, b2, b3, b4, b5, b6⟩ := g1.2.2.2.2.1 j hj
      refine ⟨b1, b2, b3, b4, b5, ?_⟩
      show (if j = f then k else n_gu N j) < 10
      by_cases e : j = f
      · rw [if_pos e]; exact hk
      · rw [if_neg e]; exact b6
set_option maxHeartbeats 2000000 in
theorem s_replaceSeed {x : Int32} (hS : vS V i (N, C, A)) (h : wS w (N, C, A)) : TI (d_X2_replaceSeed i x V) (mS w i (N, C, A) (fun x => x = -2) V) := by
  obtain ⟨hN, hC, hA⟩ := hS
  obtain ⟨g1, g2, g3⟩ := h
  change vN V i N at hN
  change vC V i C at hC
  change vA V i A at hA
  change wN N at g1
  change wC (n_ft N) w C at g2
  change wA N w A at g3
  unfold d_X2_replaceSeed
  simp only [rBe]
  by_cases h0 : x < 0
  · rw [if_pos h0]
    exact TI.ret ⟨frM.r i V, Or.inl ⟨rfl, hN, hC, hA⟩⟩
  · rw [if_neg h0]
    obtain ⟨k, hk, rfl⟩ := nI_of h0
    simp (disch := omega) only [i_ltE]
    by_cases h1 : k < 512
    · rw [if_pos h1, rVe, hC.2.2.2.2.2.2.1]
      have := g2.1
      exact TI.ret ⟨((frS.s (by omega)) : frS i V _).m, Or.inr ⟨c_sd C, (N, _, A), rfl, by omega, ⟨vN_s hN (by omega), vC_sd hC, vA_s hA (by omega)⟩, g1, ⟨h1, g2.2.1, g2.2.2.1, Nat.le_trans g2.2.2.2.1 (by omega), g2.2.2.2.2⟩, g3.m (by omega)⟩⟩
    · rw [if_neg h1]
      exact TI.ret ⟨frM.r i V, Or.inl ⟨rfl, hN, hC, hA⟩⟩
set_option maxHeartbeats 2000000 in
theorem s_replaceBlocked {x y : Int32} (hS : vS V i (N, C, A)) (h : wS w (N, C, A)) : TI (d_X2_replaceBlocked i x y V) (mS w i (N, C, A) (fun x => x = -1 ∨ x = -3) V) := by
  obtain ⟨hN, hC, hA⟩ := hS
  obtain ⟨g1, g2, g3⟩ := h
  change vN V i N at hN
  change vC V i C at hC
  change vA V i A at hA
  change wN N at g1
  change wC (n_ft N) w C at g2
  change wA N w A at g3
  have w2 := g1.2.1
  have w3 := g1.2.2.1
  unfold d_X2_replaceBlocked
  obtain ⟨b, hb, hx⟩ := q_hasPathX hN g1 x
  rw [hb, rIe]
  cases b with
  | false =>
    rw [if_neg (by decide)]
    exact TI.ret ⟨frM.r i V, Or.inl ⟨Or.inl rfl, hN, hC, hA⟩⟩
  | true =>
    rw [if_pos (by decide)]
    obtain ⟨f, hf, rfl⟩ := hx rfl
    rw [q_isOpen hN g1 (show f < 32 by omega), rIe]
    unfold d_X6_closedTotal
    simp only [q_bc, rIe]
    by_cases e : bI (n_op N f) = y
    · rw [if_pos e]
      simp (disch := omega) only [rVe, hN.1, i_shl1, i_xor]
      obtain ⟨k, hk, hk2⟩ := bc_any ((am_set V (sS i + 1) 5 (nI (n_cl N ^^^ 2 ^ f))) (sS i + 1) 5)
      rw [hk2]
      exact TI.ret ⟨((frS.s (by omega)) : frS i V _).m, Or.inr ⟨k, (((n_ft N, n_pt N, n_cl N ^^^ 2 ^ f), N.2), C, A), rfl, by omega, ⟨vN_cl hN, vC_s hC (by omega), vA_s hA (by omega)⟩, ⟨g1.1, g1.2.1, Nat.xor_lt_two_pow (n := 16) w3 (pow16 (by omega)), g1.2.2.2⟩, g2.m (by omega), g3.m (by omega)⟩⟩
    · rw [if_neg e]
      exact s_rej ⟨hN, hC, hA⟩ (Or.inr rfl)
theorem s_stop (hS : vS V i (N, C, A)) (h : wS w (N, C, A)) : TI (d_X2_stopBroadcast i V) (fun x W => mS w i (N, C, A) (fun x => x = -3) V x W ∧ (c_ru C = false → x = -3)) := by
  obtain ⟨hN, hC, hA⟩ := hS
  obtain ⟨g1, g2, g3⟩ := h
  change vN V i N at hN
  change vC V i C at hC
  change vA V i A at hA
  change wN N at g1
  change wC (n_ft N) w C at g2
  change wA N w A at g3
  rw [TI.T]
  unfold d_X2_stopBroadcast
  rw [hC.2.1]
  by_cases hr : c_ru C = true
  · rw [if_pos (by rw [hr]; decide), nb0, rGt, rVe, sg_n (by decide), hC.2.2.2.2.2.1]
    have := g2.2.1
    refine TT.ret ⟨_, rfl, ⟨((frS.s (by omega)) : frS i V _).m, Or.inr ⟨c_bl C, (N, _, A), rfl, by omega, ⟨vN_s hN (by omega), vC_ru (x := false) hC, vA_s hA (by omega)⟩, g1, ⟨g2.1, g2.2.1, fun (q : false = true) => absurd q (by decide), Nat.le_trans g2.2.2.2.1 (by omega), g2.2.2.2.2⟩, g3.m (by omega)⟩⟩, fun q => by rw [hr] at q; cases q⟩
  · have hr2 : c_ru C = false := by simpa using hr
    rw [if_neg (by rw [hr2]; decide)]
    refine TT.I (s_reject (i := i)) ?_
    rintro x W ⟨rfl, f1, f2⟩
    exact TT.ret ⟨_, rfl, ⟨f1, Or.inl ⟨rfl, vS_12 ⟨hN, hC, hA⟩ f2⟩⟩, fun _ => rfl⟩
theorem q_between (hN : vN V i N) (hw : wN N) {a b : Nat} (ha : a < n_ft N) (hb : b < n_ft N) : ∃ x, d_X6_pathBetween i (nI a) (nI b) V = some (.inl (some (.int x)), V) ∧ ((x = -1 ∧ ∀ p, p < n_pt N → ¬ ((n_fs N p = a ∧ n_sn N p = b) ∨ (n_fs N p = b ∧ n_sn N p = a))) ∨ ∃ p, p < n_pt N ∧ x = nI p) := by
  have w1 := hw.1
  have w2 := hw.2.1
  have hT : TI (d_X6_pathBetween i (nI a) (nI b) V) (fun x W => W = V ∧ ((x = -1 ∧ ∀ p, p < n_pt N → ¬ ((n_fs N p = a ∧ n_sn N p = b) ∨ (n_fs N p = b ∧ n_sn N p = a))) ∨ ∃ p, p < n_pt N ∧ x = nI p)) := by
    rw [TI.T]
    unfold d_X6_pathBetween
    refine lr_X6_pathBetween_11 (I := fun n9 k V9 => V9 = V ∧ ∃ j, k = nI j ∧ n9 = n_pt N - j ∧ j ≤ n_pt N ∧ ∀ p, p < j → ¬ ((n_fs N p = a ∧ n_sn N p = b) ∨ (n_fs N p = b ∧ n_sn N p = a))) ?_ (n_pt N) 1000 (by omega) _ V ⟨rfl, 0, rfl, rfl, by omega, fun p hp => by omega⟩
    rintro n9 kr hkr k V9 ⟨rfl, j, rfl, rfl, j1, j2⟩
    unfold bd_X6_pathBetween_11
    simp (disch := omega) only [hN.2.2.1, i_leE]
    by_cases hj : n_pt N ≤ j
    · rw [if_pos hj]
      exact TT.ret ⟨_, rfl, rfl, Or.inl ⟨rfl, fun p hp => j2 p (by omega)⟩⟩
    · rw [if_neg hj, q_endsOf hN hw (by omega), rIe]
      by_cases e : nI (2 ^ n_fs N j ||| 2 ^ n_sn N j) = (nI 1 <<< (nI a &&& 31)) ||| (nI 1 <<< (nI b &&& 31))
      · rw [if_neg (by simp [e])]
        exact TT.ret ⟨_, rfl, rfl, Or.inr ⟨j, by omega, rfl⟩⟩
      · rw [if_pos e, i_add1]
        refine hkr (n_pt N - (j + 1)) (by omega) _ _ ⟨rfl, j + 1, rfl, rfl, by omega, fun p hp => ?_⟩
        by_cases ep : p = j
        · rw [ep]
          intro q
          apply e
          rw [i_shl1 (by omega), i_shl1 (by omega), i_or]
          rcases q with ⟨q1, q2⟩ | ⟨q1, q2⟩
          · rw [q1, q2]
          · rw [q1, q2, Nat.or_comm]
        · exact j2 p (by omega)
  obtain ⟨x, W, e, rfl, h⟩ := hT
  exact ⟨x, e, h⟩
theorem sumN_cg1 {f g : Nat → Nat} {m : Nat} (h : ∀ j, j < m → g j = f j) (h2 : g m = 0) : sumN g (m + 1) = sumN f m := by
  rw [sumN, h2, sumN_congr m h]
  rfl
set_option maxHeartbeats 4000000 in
theorem s_appendPath {x y z u : Int32} (hS : vS V i (N, C, A)) (h : wS w (N, C, A)) : TI (d_X2_appendPath i x y z u V) (mS w i (N, C, A) (fun x => x = -1 ∨ x = -2 ∨ x = -3) V) := by
  obtain ⟨hN, hC, hA⟩ := hS
  obtain ⟨g1, g2, g3⟩ := h
  change vN V i N at hN
  change vC V i C at hC
  change vA V i A at hA
  change wN N at g1
  change wC (n_ft N) w C at g2
  change wA N w A at g3
  have w1 := g1.1
  have w2 := g1.2.1
  have w3 := g1.2.2.1
  have bad1 : TI (some (.inl (some (.int (-1))), V)) (mS w i (N, C, A) (fun x => x = -1 ∨ x = -2 ∨ x = -3) V) := TI.ret ⟨frM.r i V, Or.inl ⟨Or.inl rfl, hN, hC, hA⟩⟩
  have bad2 : TI (some (.inl (some (.int (-2))), V)) (mS w i (N, C, A) (fun x => x = -1 ∨ x = -2 ∨ x = -3) V) := TI.ret ⟨frM.r i V, Or.inl ⟨Or.inr (Or.inl rfl), hN, hC, hA⟩⟩
  unfold d_X2_appendPath
  obtain ⟨b1, hb1, hx1⟩ := q_hasFieldX hN g1 x
  rw [hb1, rIe, rBe]
  cases b1 with
  | false =>
    rw [if_pos (by decide)]
    exact bad1
  | true =>
    rw [if_neg (by decide)]
    obtain ⟨a, ha, rfl⟩ := hx1 rfl
    obtain ⟨b2, hb2, hx2⟩ := q_hasFieldX hN g1 y
    rw [hb2, rIe]
    cases b2 with
    | false =>
      rw [if_neg (by decide)]
      exact bad1
    | true =>
      rw [if_pos (by decide), rBe]
      obtain ⟨b, hb, rfl⟩ := hx2 rfl
      by_cases e1 : nI a = nI b
      · rw [if_pos e1]
        exact bad2
      · rw [if_neg e1]
        have e1' : a ≠ b := fun q => e1 (by rw [q])
        by_cases e2 : z = 0
        · rw [if_pos e2]
          exact bad2
        · rw [if_neg e2]
          obtain ⟨b3, hb3, hx3⟩ := q_digit z V
          rw [hb3, rIe]
          cases b3 with
          | false =>
            rw [if_pos (by decide)]
            exact bad2
          | true =>
            rw [if_neg (by decide)]
            obtain ⟨k, hk, rfl⟩ := hx3 rfl
            have hk0 : 1 ≤ k := by
              refine Classical.byContradiction fun q => e2 ?_
              rw [show k = 0 by omega]
              rfl
            obtain ⟨b4, hb4, hx4⟩ := q_digit u V
            rw [hb4, rIe]
            cases b4 with
            | false =>
              rw [if_neg (by decide)]
              exact bad2
            | true =>
              rw [if_pos (by decide)]
              obtain ⟨l, hl, rfl⟩ := hx4 rfl
              simp (disch := omega) only [hN.2.2.1, i_ltE]
              by_cases hm : n_pt N < 16
              · rw [if_pos hm]
                obtain ⟨x, hx, hx5⟩ := q_between hN g1 ha hb
                rw [hx, rIe]
                rcases hx5 with ⟨rfl, hno⟩ | ⟨p, hp, rfl⟩
                · rw [if_pos rfl]
                  simp (disch := omega) only [rGi, iNn, rVe, sg_d, hN.1, hN.2.2.1, i_shl1, nI_not, i_and, sg_e, sg_n, i_add1]
                  have f1 : frS i V _ := ((((((frS.s (V := V) (c := sS i + 5) (k := n_pt N) (x := nI a) (by omega)).t (frS.s (c := sS i + 6) (k := n_pt N) (x := nI b) (by omega))).t (frS.s (c := sS i + 7) (k := n_pt N) (x := nI k) (by omega))).t (frS.s (c := sS i + 8) (k := n_pt N) (x := nI l) (by omega))).t (frS.s (c := sS i + 1) (k := 5) (x := nI (n_cl N &&& (2 ^ n_pt N ^^^ 4294967295))) (by omega))).t (frS.s (c := sS i + 3) (k := n_pt N) (x := nI 0) (by omega))).t (frS.s (c := sS i + 1) (k := 7) (x := nI (n_pt N + 1)) (by omega))
                  have n1 := vN_pt (x := n_pt N + 1) (vN_s (c := sS i + 3) (k := n_pt N) (x := nI 0) (vN_cl (x := n_cl N &&& (2 ^ n_pt N ^^^ 4294967295)) (vN_gu (f := n_pt N) (x := l) (vN_co (f := n_pt N) (x := k) (vN_sn (f := n_pt N) (x := b) (vN_fs (f := n_pt N) (x := a) hN))))) (by omega))
                  have c1 := vC_s (c := sS i + 1) (k := 7) (x := nI (n_pt N + 1)) (vC_s (c := sS i + 3) (k := n_pt N) (x := nI 0) (vC_s (c := sS i + 1) (k := 5) (x := nI (n_cl N &&& (2 ^ n_pt N ^^^ 4294967295))) (vC_s (c := sS i + 8) (k := n_pt N) (x := nI l) (vC_s (c := sS i + 7) (k := n_pt N) (x := nI k) (vC_s (c := sS i + 6) (k := n_pt N) (x := nI b) (vC_s (c := sS i + 5) (k := n_pt N) (x := nI a) hC (by omega)) (by omega)) (by omega)) (by omega)) (by omega)) (by omega)) (by omega)
                  have a1 := vA_s (c := sS i + 1) (k := 7) (x := nI (n_pt N + 1)) (vA_us (f := n_pt N) (x := 0) (vA_s (c := sS i + 1) (k := 5) (x := nI (n_cl N &&& (2 ^ n_pt N ^^^ 4294967295))) (vA_s (c := sS i + 8) (k := n_pt N) (x := nI l) (vA_s (c := sS i + 7) (k := n_pt N) (x := nI k) (vA_s (c := sS i + 6) (k := n_pt N) (x := nI b) (vA_s (c := sS i + 5) (k := n_pt N) (x := nI a) hA (by omega)) (by omega)) (by omega)) (by omega)) (by omega))) (by omega)
                  refine TI.ret ⟨f1.m, Or.inr ⟨n_pt N, (((n_ft N, n_pt N + 1, n_cl N &&& (2 ^ n_pt N ^^^ 4294967295)), n_sh N, (fun y => if y = n_pt N then a else n_fs N y), (fun y => if y = n_pt N then b else n_sn N y), (fun y => if y = n_pt N then k else n_co N y), (fun y => if y = n_pt N then l else n_gu N y)), C, (A.1, fun y => if y = n_pt N then 0 else a_us A y)), rfl, by omega, ⟨n1, c1, a1⟩, ⟨w1, ?_, ?_, g1.2.2.2.1, ?_, ?_⟩, g2.m (by omega), ?_⟩⟩
                  · show n_pt N + 1 ≤ 16; omega
                  · exact Nat.lt_of_le_of_lt Nat.and_le_left w3
                  · intro j hj
                    have hj : j < n_pt N + 1 := hj
                    show (if j = n_pt N then a else n_fs N j) < n_ft N ∧ (if j = n_pt N then b else n_sn N j) < n_ft N ∧ (if j = n_pt N then a else n_fs N j) ≠ (if j = n_pt N then b else n_sn N j) ∧ 1 ≤ (if j = n_pt N then k else n_co N j) ∧ (if j = n_pt N then k else n_co N j) < 10 ∧ (if j = n_pt N then l else n_gu N j) < 10
                    by_cases e : j = n_pt N
                    · simp only [if_pos e]
                      exact ⟨ha, hb, e1', hk0, hk, hl⟩
                    · simp only [if_neg e]
                      exact g1.2.2.2.2.1 j (by omega)
                  · intro p q hp hq hne
                    have hp : p < n_pt N + 1 := hp
                    have hq : q < n_pt N + 1 := hq
                    show ¬ (((if p = n_pt N then a else n_fs N p) = (if q = n_pt N then a else n_fs N q) ∧ (if p = n_pt N then b else n_sn N p) = (if q = n_pt N then b else n_sn N q)) ∨ ((if p = n_pt N then a else n_fs N p) = (if q = n_pt N then b else n_sn N q) ∧ (if p = n_pt N then b else n_sn N p) = (if q = n_pt N then a else n_fs N q)))
                    by_cases e3 : p = n_pt N
                    · have e4 : ¬ q = n_pt N := by omega
                      simp only [if_pos e3, if_neg e4]
                      intro hh
                      apply hno q (by omega)
                      rcases hh with ⟨h1, h2⟩ | ⟨h1, h2⟩
                      · exact Or.inl ⟨h1.symm, h2.symm⟩
                      · exact Or.inr ⟨h2.symm, h1.symm⟩
                    · by_cases e4 : q = n_pt N
                      · simp only [if_neg e3, if_pos e4]
                        exact hno p (by omega)
                      · simp only [if_neg e3, if_neg e4]
                        exact g1.2.2.2.2.2 p q (by omega) (by omega) hne
                  · obtain ⟨a1, a2, a3, a4, a5, a6, a7⟩ := g3
                    refine ⟨Nat.le_trans a1 (by omega), Nat.le_trans a2 (by omega), Nat.le_trans a3 (by omega), a4, Nat.le_trans a5 (by omega), ?_, ?_⟩
                    · refine (sumN_cg1 (f := a_us A) (m := n_pt N) (fun j hj => ?_) ?_).trans a6
                      · show (if j = n_pt N then 0 else a_us A j) = _
                        rw [if_neg (by omega)]
                      · show (if n_pt N = n_pt N then 0 else a_us A (n_pt N)) = _
                        rw [if_pos rfl]
                    · refine (sumN_cg1 (f := fun p => a_us A p * n_co N p) (m := n_pt N) (fun j hj => ?_) ?_).trans a7
                      · show (if j = n_pt N then 0 else a_us A j) * (if j = n_pt N then k else n_co N j) = _
                        rw [if_neg (by omega), if_neg (by omega)]
                      · show (if n_pt N = n_pt N then 0 else a_us A (n_pt N)) * _ = _
                        rw [if_pos rfl, Nat.zero_mul]
                · rw [if_neg (by rw [i_n1 (by omega)]; exact id)]
                  exact s_rej ⟨hN, hC, hA⟩ (Or.inr (Or.inr rfl))
              · rw [if_neg hm]
                unfold d_X6_closedTotal
                simp only [q_bc, rIe]
                exact s_rej ⟨hN, hC, hA⟩ (Or.inr (Or.inr rfl))
set_option maxHeartbeats 4000000 in
theorem s_begin {x y : Int32} {b : Bool} (hS : vS V i (N, C, A)) (h : wS w (N, C, A)) (hw : w ≤ 400000) : TI (d_X2_beginBroadcast i x y (bI b) V) (fun z W => mS w i (N, C, A) (fun x => x = -1 ∨ x = -2 ∨ x = -3) V z W ∧ (c_ru C = true → z = -1 ∨ z = -2 ∨ z = -3)) := by
  obtain ⟨hN, hC, hA⟩ := hS
  obtain ⟨g1, g2, g3⟩ := h
  change vN V i N at hN
  change vC V i C at hC
  change vA V i A at hA
  change wN N at g1
  change wC (n_ft N) w C at g2
  change wA N w A at g3
  have w1 := g1.1
  have bad1 : TI (some (.inl (some (.int (-1))), V)) (fun z W => mS w i (N, C, A) (fun x => x = -1 ∨ x = -2 ∨ x = -3) V z W ∧ (c_ru C = true → z = -1 ∨ z = -2 ∨ z = -3)) := TI.ret ⟨⟨frM.r i V, Or.inl ⟨Or.inl rfl, hN, hC, hA⟩⟩, fun _ => Or.inl rfl⟩
  have bad2 : TI (some (.inl (some (.int (-2))), V)) (fun z W => mS w i (N, C, A) (fun x => x = -1 ∨ x = -2 ∨ x = -3) V z W ∧ (c_ru C = true → z = -1 ∨ z = -2 ∨ z = -3)) := TI.ret ⟨⟨frM.r i V, Or.inl ⟨Or.inr (Or.inl rfl), hN, hC, hA⟩⟩, fun _ => Or.inr (Or.inl rfl)⟩
  unfold d_X2_beginBroadcast
  obtain ⟨b1, hb1, hx1⟩ := q_hasFieldX hN g1 x
  rw [hb1, rIe]
  cases b1 with
  | false =>
    rw [if_neg (by decide)]
    exact bad1
  | true =>
    rw [if_pos (by decide), rBe]
    obtain ⟨f, hf, rfl⟩ := hx1 rfl
    by_cases h1 : y < nI 1
    · rw [if_pos h1]
      exact bad2
    · rw [if_neg h1]
      have hy : ¬ y < 0 := fun q => h1 (by
        rw [Int32.lt_iff_toInt_lt] at q ⊢
        have e1 : (nI 1 : Int32).toInt = 1 := rfl
        have e0 : (0 : Int32).toInt = 0 := rfl
        omega)
      obtain ⟨k, hk, rfl⟩ := nI_of hy
      rw [i_ltE hk (by omega)] at h1
      by_cases h2 : nI k ≤ nI 6
      · rw [if_pos h2]
        rw [i_leE hk (by omega)] at h2
        rw [hC.2.1]
        by_cases hr : c_ru C = true
        · rw [if_neg (by rw [hr]; decide), TI.T]
          refine TT.I (s_reject (i := i)) ?_
          rintro x W ⟨rfl, f1, f2⟩
          exact TT.ret ⟨_, rfl, ⟨f1, Or.inl ⟨Or.inr (Or.inr rfl), vS_12 ⟨hN, hC, hA⟩ f2⟩⟩, fun _ => Or.inr (Or.inr rfl)⟩
        · have hr2 : c_ru C = false := by simpa using hr
          rw [if_pos (by rw [hr2]; decide), nb1, rGt]
          simp only [rVe, nbB, rGt]
          have c1 := vC_bl (x := 0) (vC_pa (x := b) (vC_da (x := k) (vC_og (x := f) (vC_ru (x := true) hC))))
          have n1 := vN_s (c := sS i + 2) (k := 6) (x := nI 0) (vN_s (c := sS i + 2) (k := 5) (x := bI b) (vN_s (c := sS i + 2) (k := 4) (x := nI k) (vN_s (c := sS i + 2) (k := 3) (x := nI f) (vN_s (c := sS i + 2) (k := 2) (x := bI true) hN (by omega)) (by omega)) (by omega)) (by omega)) (by omega)
          have a1 := vA_s (c := sS i + 2) (k := 6) (x := nI 0) (vA_s (c := sS i + 2) (k := 5) (x := bI b) (vA_s (c := sS i + 2) (k := 4) (x := nI k) (vA_s (c := sS i + 2) (k := 3) (x := nI f) (vA_s (c := sS i + 2) (k := 2) (x := bI true) hA (by omega)) (by omega)) (by omega)) (by omega)) (by omega)
          have f1 : frS i V _ := ((((frS.s (V := V) (c := sS i + 2) (k := 2) (x := bI true) (by omega)).t (frS.s (c := sS i + 2) (k := 3) (x := nI f) (by omega))).t (frS.s (c := sS i + 2) (k := 4) (x := nI k) (by omega))).t (frS.s (c := sS i + 2) (k := 5) (x := bI b) (by omega))).t (frS.s (c := sS i + 2) (k := 6) (x := nI 0) (by omega))
          rw [bIt] at c1 n1 a1 f1
          have ht7 : ∀ hd : Nat → Nat, tot ((c_st C, true, f, k, b, 0, c_sd C), hd) ≤ 7 := fun hd => by
            show (if b = true then k + 1 else k) ≤ 7
            split <;> omega
          rw [TI.T]
          refine lr_X2_beginBroadcast_86 (I := fun n9 q V9 => ∃ (j : Nat) (hd : Nat → Nat), q = nI j ∧ n9 = 9 - j ∧ j ≤ 9 ∧ frS i V V9 ∧ vN V9 i N ∧ vC V9 i ((c_st C, true, f, k, b, 0, c_sd C), hd) ∧ vA V9 i A ∧ ∀ v, v < j → hd v = if v = f then allP ((c_st C, true, f, k, b, 0, c_sd C), hd) else 0) ?_ 9 1000 (by omega) _ _ ⟨0, c_hd C, rfl, rfl, by omega, f1, n1, c1, a1, fun v hv => by omega⟩
          rintro n9 kr hkr q V9 ⟨j, hd, rfl, rfl, j1, k1, k2, k3, k4, k5⟩
          unfold bd_X2_beginBroadcast_86
          simp (disch := omega) only [i_leE]
          by_cases hj : 9 ≤ j
          · rw [if_pos hj, k3.1, sg_e]
            have e : j = 9 := by omega
            subst e
            rw [show nI (c_st ((c_st C, true, f, k, b, 0, c_sd C), hd)) + nI 1 = nI (c_st C + 1) from i_add1 _]
            have hst := g2.2.2.2.1
            have k3' := vC_st (x := c_st C + 1) k3
            refine TT.ret ⟨_, rfl, ⟨(k1.t (frS.s (by omega)) : frS i V _).m, Or.inr ⟨c_st C + 1, (N, ((c_st C + 1, true, f, k, b, 0, c_sd C), hd), A), rfl, by omega, ⟨vN_s k2 (by omega), k3', vA_s k4 (by omega)⟩, g1, ⟨g2.1, by show 0 ≤ 30; omega, fun _ => ⟨by show 0 < 30; omega, by show 0 < c_st C + 1; omega⟩, by show c_st C + 1 ≤ w + 30; omega, fun (q : c_st C + 1 = 0) => by omega, fun _ => ⟨hf, by show 1 ≤ k; omega, by show k ≤ 6; omega, ?_⟩, fun v hv => ?_⟩, g3.m (by omega)⟩⟩, fun q => (hr q).elim⟩
            · show hd f = _
              rw [k5 f (by omega), if_pos rfl]
              rfl
            · show hd v < 2 ^ tot ((c_st C, true, f, k, b, 0, c_sd C), hd)
              have hv : v < n_ft N := hv
              have := pow_pos2 (tot ((c_st C, true, f, k, b, 0, c_sd C), hd))
              rw [k5 v (by omega)]
              split
              · unfold allP; omega
              · omega
          · rw [if_neg hj, rBe]
            have st : ∀ z, z = (if j = f then allP ((c_st C, true, f, k, b, 0, c_sd C), hd) else 0) → TT (rG (am_in (nI j) 9) (rV (am_set V9 (sS i + 9) (iN (nI j)) (nI z)) fun V10 => kr (nI j + nI 1) V10)) (fun r W => ∃ x, r = .inl (some (.int x)) ∧ mS w i (N, C, A) (fun x => x = -1 ∨ x = -2 ∨ x = -3) V x W ∧ (c_ru C = true → x = -1 ∨ x = -2 ∨ x = -3)) := by
              intro z hz
              simp (disch := omega) only [rGi, iNn, rVe, i_add1]
              refine hkr (9 - (j + 1)) (by omega) _ _ ⟨j + 1, fun v => if v = j then z else hd v, rfl, rfl, by omega, k1.t (frS.s (by omega)), vN_s k2 (by omega), vC_hd k3, vA_s k4 (by omega), fun v hv => ?_⟩
              show (if v = j then z else hd v) = if v = f then allP ((c_st C, true, f, k, b, 0, c_sd C), hd) else 0
              by_cases e : v = j
              · rw [if_pos e, e, hz]
              · rw [if_neg e]; exact k5 v (by omega)
            by_cases e : j = f
            · rw [if_neg (by simp [e]), q_all k3 (ht7 hd), rIe]
              exact st _ (by rw [if_pos e])
            · rw [if_pos (by rw [i_eqE (by omega) (by omega)]; exact e)]
              exact st 0 (by rw [if_neg e])
      · rw [if_neg h2]
        exact bad2
end
