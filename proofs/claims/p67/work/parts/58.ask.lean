/-! ===== what the calls that only ask answer ===== -/
def vK (w : Nat) (V : am_V) (s : sT) : Prop := vS V 0 s ∧ wS w s ∧ w ≤ 300000
/-- what a call that asks may change: the rows of the ways and of the trees, the state foreseen, the text -/
def frU (V W : am_V) : Prop := (∀ c, ¬ (c = 1 ∨ (4 ≤ c ∧ c ≤ 10) ∨ c = 12 ∨ (17 ≤ c ∧ c < 40) ∨ (116 ≤ c ∧ c < 132)) → W c = V c) ∧ ∀ k, k ≠ 10 → W 1 k = V 1 k
theorem frU.r (V : am_V) : frU V V := ⟨fun _ _ => rfl, fun _ _ => rfl⟩
theorem frU.t {V W X : am_V} (h : frU V W) (k : frU W X) : frU V X := ⟨fun c hc => (k.1 c hc).trans (h.1 c hc), fun j hj => (k.2 j hj).trans (h.2 j hj)⟩
theorem frU.x {V W : am_V} (h : frU V W) : frX V W := fun c hc => h.1 c (by omega)
theorem frQ.u {V W : am_V} (h : frQ V W) : frU V W := ⟨fun c hc => h c (by omega), fun k _ => congrFun (h 1 (by omega)) k⟩
theorem fr4.u {V W : am_V} (h : fr4 V W) : frU V W := ⟨fun c hc => h c (by omega) (by omega) (by omega) (by omega) (by omega), fun k _ => congrFun (h 1 (by omega) (by omega) (by omega) (by omega) (by omega)) k⟩
theorem frT.u {t : Nat} {V W : am_V} (ht : t = 20 ∨ t = 30) (h : frT t V W) : frU V W := ⟨fun c hc => h c (by omega), fun k _ => congrFun (h 1 (by omega)) k⟩
theorem frM.u {V W : am_V} (h : frM 1 V W) : frU V W := ⟨fun c hc => h c (by unfold sS; omega) (by omega) (by omega), fun k _ => congrFun (h 1 (by unfold sS; omega) (by omega) (by omega)) k⟩
theorem frU5 {V W : am_V} (h : ∀ d, d ≠ 5 → W d = V d) : frU V W := ⟨fun c hc => h c (by omega), fun k _ => congrFun (h 1 (by omega)) k⟩
theorem frU67 {V W : am_V} (h : ∀ d, d ≠ 6 → d ≠ 7 → W d = V d) : frU V W := ⟨fun c hc => h c (by omega) (by omega), fun k _ => congrFun (h 1 (by omega) (by omega)) k⟩
theorem vS_fU {V W : am_V} {i : Nat} {s : sT} (hi : i ≠ 1) (h : vS V i s) (e : frU V W) : vS W i s := vS_cg h fun c h1 h2 => e.1 c (by have := sS_far (i := 1) (j := i) (Ne.symm hi); unfold sS at *; omega)
theorem vK_fU {w : Nat} {V W : am_V} {s : sT} (h : vK w V s) (e : frU V W) : vK w W s := ⟨vS_fU (by omega) h.1 e, h.2⟩
theorem vG_fU {V W : am_V} {g : gT} (h : vG V g) (e : frU V W) : vG W g := by
  obtain ⟨h1, h2, h3, h4, h5, h6⟩ := h
  refine ⟨vS_fU (by omega) h1 e, vS_fU (by omega) h2 e, fun j hj => vS_fU (by omega) (h3 j hj) e, ?_, ?_, ?_⟩
  · rw [e.1 2 (by omega)]; exact h4
  · rw [e.1 2 (by omega)]; exact h5
  · rw [e.2 11 (by omega)]; exact h6
theorem vK_G {w : Nat} {V : am_V} {g : gT} (h : vG V g) (hw : wG w g) (hb : w ≤ 300000) : vK w V (g_s g) := ⟨h.1, hw.2.2.1, hb⟩
theorem rUe {V : am_V} {f : am_V → am_R} : rU (some (.inl none, V)) f = f V := id rfl
section
variable {w : Nat} {V : am_V} {s : sT}
theorem vK.N (h : vK w V s) : vN V 0 s.1 := h.1.1
theorem vK.C (h : vK w V s) : vC V 0 s.2.1 := h.1.2.1
theorem vK.A (h : vK w V s) : vA V 0 s.2.2 := h.1.2.2
theorem vK.wn (h : vK w V s) : wN s.1 := h.2.1.1
theorem vK.c (h : vK w V s) : wC (n_ft s.1) w s.2.1 := h.2.1.2.1
theorem vK.a (h : vK w V s) : wA s.1 w s.2.2 := h.2.1.2.2
theorem k_reqF (h : vK w V s) {f : Nat} (hf : f < n_ft s.1) : d_X11_requireField (nI f) V = some (.inl none, V) := by
  have w1 := h.wn.1
  unfold d_X11_requireField
  rw [q_hasField h.N h.wn (by omega), rIe, decide_eq_true hf, if_pos (by decide)]
theorem k_reqP (h : vK w V s) {p : Nat} (hp : p < n_pt s.1) : d_X11_requirePath (nI p) V = some (.inl none, V) := by
  have w2 := h.wn.2.1
  unfold d_X11_requirePath
  rw [q_hasPath h.N h.wn (by omega), rIe, decide_eq_true hp, if_pos (by decide)]
theorem k_req2 (h : vK w V s) {f g : Nat} (hf : f < n_ft s.1) (hg : g < n_ft s.1) (hne : f ≠ g) : d_X11_requireTwoFields (nI f) (nI g) V = some (.inl none, V) := by
  have w1 := h.wn.1
  unfold d_X11_requireTwoFields
  rw [k_reqF h hf, rUe, k_reqF h hg, rUe, if_pos (by rw [i_eqE (by omega) (by omega)]; exact hne)]
theorem k_fc (h : vK w V s) : d_X11_fieldCount V = some (.inl (some (.int (nI (n_ft s.1)))), V) := by
  unfold d_X11_fieldCount
  rw [h.N.2.1]
theorem k_pc (h : vK w V s) : d_X11_pathCount V = some (.inl (some (.int (nI (n_pt s.1)))), V) := by
  unfold d_X11_pathCount
  rw [h.N.2.2.1]
theorem k_sh (h : vK w V s) {f : Nat} (hf : f < n_ft s.1) : d_X11_shieldOf (nI f) V = some (.inl (some (.int (nI (n_sh s.1 f)))), V) := by
  have w1 := h.wn.1
  unfold d_X11_shieldOf
  rw [k_reqF h hf, rUe, rGi _ (show f < 9 by omega) (by omega), iNn (by omega), h.N.2.2.2.1 f (by omega)]
theorem k_fs (h : vK w V s) {p : Nat} (hp : p < n_pt s.1) : d_X11_firstOf (nI p) V = some (.inl (some (.int (nI (n_fs s.1 p)))), V) := by
  have w2 := h.wn.2.1
  unfold d_X11_firstOf
  rw [k_reqP h hp, rUe, rGi _ (show p < 16 by omega) (by omega), iNn (by omega), h.N.2.2.2.2.1 p (by omega)]
theorem k_sn (h : vK w V s) {p : Nat} (hp : p < n_pt s.1) : d_X11_secondOf (nI p) V = some (.inl (some (.int (nI (n_sn s.1 p)))), V) := by
  have w2 := h.wn.2.1
  unfold d_X11_secondOf
  rw [k_reqP h hp, rUe, rGi _ (show p < 16 by omega) (by omega), iNn (by omega), h.N.2.2.2.2.2.1 p (by omega)]
theorem k_co (h : vK w V s) {p : Nat} (hp : p < n_pt s.1) : d_X11_costOf (nI p) V = some (.inl (some (.int (nI (n_co s.1 p)))), V) := by
  have w2 := h.wn.2.1
  unfold d_X11_costOf
  rw [k_reqP h hp, rUe, rGi _ (show p < 16 by omega) (by omega), iNn (by omega), h.N.2.2.2.2.2.2.1 p (by omega)]
theorem k_gu (h : vK w V s) {p : Nat} (hp : p < n_pt s.1) : d_X11_gustOf (nI p) V = some (.inl (some (.int (nI (n_gu s.1 p)))), V) := by
  have w2 := h.wn.2.1
  unfold d_X11_gustOf
  rw [k_reqP h hp, rUe, rGi _ (show p < 16 by omega) (by omega), iNn (by omega), h.N.2.2.2.2.2.2.2 p (by omega)]
theorem k_us (h : vK w V s) {p : Nat} (hp : p < n_pt s.1) : d_X11_useOf (nI p) V = some (.inl (some (.int (nI (a_us s.2.2 p)))), V) := by
  have w2 := h.wn.2.1
  unfold d_X11_useOf
  rw [k_reqP h hp, rUe, rGi _ (show p < 16 by omega) (by omega), iNn (by omega), h.A.2.2.2.2.2.2 p (by omega)]
theorem k_blk (h : vK w V s) {p : Nat} (hp : p < n_pt s.1) : d_X11_isBlocked (nI p) V = some (.inl (some (.int (bI (!n_op s.1 p)))), V) := by
  have w2 := h.wn.2.1
  unfold d_X11_isBlocked
  rw [k_reqP h hp, rUe, q_isOpen h.N h.wn (by omega), rIe]
  simp only [rBe]
  cases n_op s.1 p with
  | true => rw [if_pos (by decide), nb0, rGt]; rfl
  | false => rw [if_neg (by decide), nb1, rGt]; rfl
theorem k_se (h : vK w V s) : d_X11_sentCount V = some (.inl (some (.int (nI (a_se s.2.2)))), V) := by unfold d_X11_sentCount; rw [h.A.1]
theorem k_lo (h : vK w V s) : d_X11_lostCount V = some (.inl (some (.int (nI (a_lo s.2.2)))), V) := by unfold d_X11_lostCount; rw [h.A.2.1]
theorem k_re (h : vK w V s) : d_X11_rebuiltCount V = some (.inl (some (.int (nI (a_re s.2.2)))), V) := by unfold d_X11_rebuiltCount; rw [h.A.2.2.1]
theorem k_sp (h : vK w V s) : d_X11_energy V = some (.inl (some (.int (nI (a_sp s.2.2)))), V) := by unfold d_X11_energy; rw [h.A.2.2.2.1]
theorem k_fi (h : vK w V s) : d_X11_finishedCount V = some (.inl (some (.int (nI (a_fi s.2.2)))), V) := by unfold d_X11_finishedCount; rw [h.A.2.2.2.2.1]
theorem k_fa (h : vK w V s) : d_X11_failedCount V = some (.inl (some (.int (nI (a_fa s.2.2)))), V) := by unfold d_X11_failedCount; rw [h.A.2.2.2.2.2.1]
theorem k_ru (h : vK w V s) : d_X11_isBroadcasting V = some (.inl (some (.int (bI (c_ru s.2.1)))), V) := by unfold d_X11_isBroadcasting; rw [h.C.2.1, nbB, rGt]
theorem hd_lt (h : vK w V s) {f : Nat} (hf : f < n_ft s.1) : c_hd s.2.1 f < 128 := Nat.lt_of_lt_of_le (h.c.2.2.2.2.2.2 f hf) (pow_le7 (wC_tot h.c))
theorem k_pk (h : vK w V s) {f : Nat} (hf : f < n_ft s.1) : d_X11_packetsOf (nI f) V = some (.inl (some (.int (nI (popc (c_hd s.2.1 f))))), V) := by
  have w1 := h.wn.1
  unfold d_X11_packetsOf
  rw [k_reqF h hf, rUe, rGi _ (show f < 9 by omega) (by omega), iNn (by omega), h.C.2.2.2.2.2.2.2 f (by omega), q_bc, rIe, bc_128 _ (hd_lt h hf)]
theorem st_lt (h : vK w V s) : c_st s.2.1 < 2147483648 := by have := h.c.2.2.2.1; have := h.2.2; omega
theorem k_reqS (h : vK w V s) (hs : 0 < c_st s.2.1) : d_X11_requireStarted V = some (.inl none, V) := by
  unfold d_X11_requireStarted
  rw [h.C.1, if_pos (by rw [i_eq0 (st_lt h)]; omega)]
theorem k_has (h : vK w V s) {f p : Nat} (hf : f < n_ft s.1) (hs : 0 < c_st s.2.1) (hp : p < tot s.2.1) : d_X11_hasPacket (nI f) (nI p) V = some (.inl (some (.int (bI ((c_hd s.2.1 f).testBit p)))), V) := by
  have w1 := h.wn.1
  have t7 := wC_tot h.c
  unfold d_X11_hasPacket
  rw [k_reqF h hf, rUe, k_reqS h hs, rUe]
  simp only [rBe]
  rw [if_neg (i_lt0 (by omega)), q_total h.C, rIe, if_pos (by rw [i_ltE (by omega) (by omega)]; exact hp), rGi _ (show f < 9 by omega) (by omega), iNn (by omega), h.C.2.2.2.2.2.2.2 f (by omega), q_hasBit V (by have := hd_lt h hf; omega) (by omega), rIe, nbB, rGt]
theorem k_cov (h : vK w V s) {f : Nat} (hf : f < n_ft s.1) (hs : 0 < c_st s.2.1) : d_X11_isCovered (nI f) V = some (.inl (some (.int (bI (covB s.2.1 f)))), V) := by
  have w1 := h.wn.1
  unfold d_X11_isCovered
  rw [k_reqF h hf, rUe, k_reqS h hs, rUe, q_covers h.C (by omega) (st_lt h) (wC_da h.c), rIe, nbB, rGt]
theorem k_cc (h : vK w V s) : d_X11_coveredCount V = some (.inl (some (.int (nI (cnt (covB s.2.1) (n_ft s.1))))), V) := by
  have w1 := h.wn.1
  refine TI.eq ?_
  rw [TI.T]
  unfold d_X11_coveredCount
  refine lr_X11_coveredCount_4 (I := fun n9 a k V9 => V9 = V ∧ ∃ j, a = nI (cnt (covB s.2.1) j) ∧ k = nI j ∧ n9 = n_ft s.1 - j ∧ j ≤ n_ft s.1) ?_ (n_ft s.1) 1000 (by omega) _ _ V ⟨rfl, 0, rfl, rfl, rfl, by omega⟩
  rintro n9 kr hkr a k V9 ⟨rfl, j, rfl, rfl, rfl, j1⟩
  unfold bd_X11_coveredCount_4
  simp (disch := omega) only [h.N.2.1, i_leE]
  by_cases hj : n_ft s.1 ≤ j
  · rw [if_pos hj]
    have e : j = n_ft s.1 := by omega
    subst e
    exact TT.ret ⟨_, rfl, rfl, rfl⟩
  · rw [if_neg hj, q_covers h.C (by omega) (st_lt h) (wC_da h.c), rIe]
    simp only [rBe, bI0, i_add1]
    have es : cnt (covB s.2.1) (j + 1) = cnt (covB s.2.1) j + (if covB s.2.1 j = true then 1 else 0) := rfl
    cases e : covB s.2.1 j with
    | false =>
      rw [if_pos rfl]
      exact hkr (n_ft s.1 - (j + 1)) (by omega) _ _ _ ⟨rfl, j + 1, by rw [es, e]; rfl, rfl, rfl, by omega⟩
    | true =>
      rw [if_neg (by decide)]
      exact hkr (n_ft s.1 - (j + 1)) (by omega) _ _ _ ⟨rfl, j + 1, by rw [es, e]; rfl, rfl, rfl, by omega⟩
theorem rXe {x : Int32} {V : am_V} {f : Int32 → am_V → am_R} {g : String → am_V → am_R} : rXI (some (.inl (some (.int x)), V)) f g = f x V := id rfl
theorem rXE {E : String} {V : am_V} {f : Int32 → am_V → am_R} {g : String → am_V → am_R} : rXI (some (.inr E, V)) f g = g E V := id rfl
theorem rUE {E : String} {V : am_V} {f : am_V → am_R} : rU (some (.inr E, V)) f = some (.inr E, V) := id rfl
theorem rIE {E : String} {V : am_V} {f : Int32 → am_V → am_R} : rI (some (.inr E, V)) f = some (.inr E, V) := id rfl
def srcI (C : cT) : Int32 := if c_st C = 0 then -1000 else nI (c_og C)
theorem k_src (h : vK w V s) : d_L_source V = some (.inl (some (.int (srcI s.2.1))), V) := by
  unfold d_L_source d_X11_source srcI
  by_cases e : c_st s.2.1 = 0
  · rw [if_pos e]
    unfold d_X11_requireStarted
    rw [h.C.1, e, if_neg (by decide), rUE, rXE, if_pos rfl]
  · rw [if_neg e, k_reqS h (by omega), rUe, rXe, h.C.2.2.1]
noncomputable def connB (N : nT) (a b : Nat) : Bool := @decide (conn (n_fs N) (n_sn N) (n_op N) a b) (Classical.propDecidable _)
theorem connB_t {N : nT} {a b : Nat} : connB N a b = true ↔ conn (n_fs N) (n_sn N) (n_op N) a b := by unfold connB; simp
theorem k_conn (h : vK w V s) {a b : Nat} (ha : a < n_ft s.1) (hb : b < n_ft s.1) : d_X11_isConnected (nI a) (nI b) V = some (.inl (some (.int (bI (connB s.1 a b)))), V) := by
  have w1 := h.wn.1
  refine TI.eq ?_
  rw [TI.T]
  unfold d_X11_isConnected
  rw [k_reqF h ha, rUe, k_reqF h hb, rUe, m1_nI]
  refine TT.I (s_group h.N h.wn ha (by omega)) ?_
  rintro x W ⟨rfl, r, rfl, r1, r2⟩
  rw [q_hasBit W (by omega) (by omega), rIe, nbB, rGt]
  refine TT.ret ⟨_, rfl, rfl, congrArg bI ?_⟩
  rw [Bool.eq_iff_iff, r2 b hb, without_none _ h.wn, connB_t]
theorem k_grp (h : vK w V s) : d_X11_groupCount V = some (.inl (some (.int (nI (nGroups (n_fs s.1) (n_sn s.1) (n_op s.1) (n_ft s.1))))), V) := by
  refine TI.eq ?_
  rw [TI.T]
  unfold d_X11_groupCount
  rw [m1_nI]
  refine TT.I (s_groups h.N h.wn (by omega)) ?_
  rintro x W ⟨rfl, rfl⟩
  rw [without_none _ h.wn]
  exact TT.ret ⟨_, rfl, rfl, rfl⟩
theorem dstP_ex (h : vK w V s) {u : Nat} (hu : u < n_ft s.1) : dstP s.1 u (dst s.1 u) := by
  obtain ⟨x, W, e, h⟩ := s_visiting h.N h.wn hu hu
  exact h.2.2
noncomputable def wayI (N : nT) (a b : Nat) : Int32 := if dst N a b < 1000 then nI (dst N a b) else -1000
theorem dst_le (h : vK w V s) {u v : Nat} (hu : u < n_ft s.1) (hv : v < n_ft s.1) : dst s.1 u v ≤ 1000 :=
  (dstP_ex h hu).1.2.2.1 v hv
theorem t_way (h : vK w V s) {a b : Nat} (ha : a < n_ft s.1) (hb : b < n_ft s.1) : TI (d_L_wayCost (nI a) (nI b) V) (fun x W => frU V W ∧ x = wayI s.1 a b) := by
  have dl := dst_le h ha hb
  rw [TI.T]
  unfold d_L_wayCost d_X11_wayCost wayI
  rw [k_reqF h ha, rUe, k_reqF h hb, rUe]
  obtain ⟨x, W, e, h1, rfl, -⟩ := s_visiting h.N h.wn ha hb
  rw [e, rIe]
  unfold d_X11_requireWay
  by_cases e2 : dst s.1 a b < 1000
  · rw [if_pos (by rw [i_ltE (by omega) (by omega)]; exact e2), rIe, rXe, if_pos e2]
    exact TT.ret ⟨_, rfl, frU5 h1, rfl⟩
  · rw [if_neg (by rw [i_ltE (by omega) (by omega)]; exact e2), rIE, rXE, if_neg (by decide), if_pos rfl, if_neg e2]
    exact TT.ret ⟨_, rfl, frU5 h1, rfl⟩
theorem t_way2 (h : vK w V s) {a b : Nat} (ha : a < n_ft s.1) (hb : b < n_ft s.1) : TI (d_L_wayCostByRounds (nI a) (nI b) V) (fun x W => frU V W ∧ x = wayI s.1 a b) := by
  have dl := dst_le h ha hb
  rw [TI.T]
  unfold d_L_wayCostByRounds d_X11_wayCostByRounds wayI
  rw [k_reqF h ha, rUe, k_reqF h hb, rUe]
  obtain ⟨x, W, e, h1, rfl⟩ := s_lowering h.N h.wn ha hb (dstP_ex h ha)
  rw [e, rIe]
  unfold d_X11_requireWay
  by_cases e2 : dst s.1 a b < 1000
  · rw [if_pos (by rw [i_ltE (by omega) (by omega)]; exact e2), rIe, rXe, if_pos e2]
    exact TT.ret ⟨_, rfl, frU5 h1, rfl⟩
  · rw [if_neg (by rw [i_ltE (by omega) (by omega)]; exact e2), rIE, rXE, if_neg (by decide), if_pos rfl, if_neg e2]
    exact TT.ret ⟨_, rfl, frU5 h1, rfl⟩
noncomputable def cutN (N : nT) (a b : Nat) : Nat := @Classical.epsilon Nat ⟨0⟩ (isCut N a b)
theorem cutN_eq {N : nT} {a b k : Nat} (h : isCut N a b k) : k = cutN N a b := isCut_eq h (@Classical.epsilon_spec Nat (isCut N a b) ⟨k, h⟩)
theorem k_cut (h : vK w V s) {a b : Nat} (ha : a < n_ft s.1) (hb : b < n_ft s.1) (hne : a ≠ b) : d_X11_smallestCut (nI a) (nI b) V = some (.inl (some (.int (nI (cutN s.1 a b)))), V) := by
  refine TI.eq ?_
  rw [TI.T]
  unfold d_X11_smallestCut
  rw [k_req2 h ha hb hne, rUe]
  refine TT.I (s_fewest h.N h.wn ha hb) ?_
  rintro x W ⟨rfl, k, rfl, hk⟩
  rw [cutN_eq hk]
  exact TT.ret ⟨_, rfl, rfl, rfl⟩
theorem cut_ok (h : vK w V s) {a b : Nat} (ha : a < n_ft s.1) (hb : b < n_ft s.1) : isCut s.1 a b (cutN s.1 a b) := by
  obtain ⟨x, W, e, -, k, -, hk⟩ := s_fewest h.N h.wn ha hb
  rw [← cutN_eq hk]
  exact hk
theorem t_dis (h : vK w V s) {a b : Nat} (ha : a < n_ft s.1) (hb : b < n_ft s.1) (hne : a ≠ b) : TI (d_X11_disjointWays (nI a) (nI b) V) (fun x W => frU V W ∧ x = nI (cutN s.1 a b)) := by
  rw [TI.T]
  unfold d_X11_disjointWays
  rw [k_req2 h ha hb hne, rUe]
  refine TT.I (s_disjoint h.N h.wn ha hb) ?_
  rintro x W ⟨f, k, rfl, hk⟩
  rw [cutN_eq hk]
  exact TT.ret ⟨_, rfl, frU67 f, rfl⟩
theorem k_br (h : vK w V s) {p : Nat} (hp : p < n_pt s.1) : d_X11_isBridge (nI p) V = some (.inl (some (.int (bI (brB s.1 p)))), V) := by
  refine TI.eq ?_
  rw [TI.T]
  unfold d_X11_isBridge
  rw [k_reqP h hp, rUe]
  refine TT.I (s_parts h.N h.wn hp) ?_
  rintro x W ⟨rfl, rfl⟩
  rw [nbB, rGt]
  exact TT.ret ⟨_, rfl, rfl, rfl⟩
noncomputable def brN (N : nT) : Nat := cnt (brB N) (n_pt N)
theorem t_brc (h : vK w V s) : TI (d_X11_bridgeCount V) (fun x W => frU V W ∧ x = nI (brN s.1)) := by
  rw [TI.T]
  unfold d_X11_bridgeCount
  refine TT.I (s_walk h.N h.wn) ?_
  rintro x W ⟨f, rfl⟩
  exact TT.ret ⟨_, rfl, f.u, rfl⟩
theorem k_brb (h : vK w V s) : d_X11_bridgeCountByBlocking V = some (.inl (some (.int (nI (brN s.1)))), V) := by
  refine TI.eq ?_
  rw [TI.T]
  unfold d_X11_bridgeCountByBlocking
  refine TT.I (s_byGroups h.N h.wn) ?_
  rintro x W ⟨rfl, rfl⟩
  exact TT.ret ⟨_, rfl, rfl, rfl⟩
noncomputable def treeN (N : nT) (r : Nat) : Nat := sumN (fun p => if trB N r p = true then n_co N p else 0) (n_pt N)
theorem t_tree (h : vK w V s) {r : Nat} (hr : r < n_ft s.1) : TI (d_X11_treeCost (nI r) V) (fun x W => frU V W ∧ x = nI (treeN s.1 r)) := by
  rw [TI.T]
  unfold d_X11_treeCost
  rw [k_reqF h hr, rUe]
  refine TT.I (s_costInOrder (Or.inl rfl) h.N h.wn hr) ?_
  rintro x W ⟨f, rfl⟩
  exact TT.ret ⟨_, rfl, f.u (Or.inl rfl), rfl⟩
theorem t_treeg (h : vK w V s) {r : Nat} (hr : r < n_ft s.1) : TI (d_X11_treeCostByGrowing (nI r) V) (fun x W => frU V W ∧ x = nI (treeN s.1 r)) := by
  rw [TI.T]
  unfold d_X11_treeCostByGrowing
  rw [k_reqF h hr, rUe]
  refine TT.I (s_costGrown (Or.inl rfl) h.N h.wn hr) ?_
  rintro x W ⟨f, rfl⟩
  exact TT.ret ⟨_, rfl, f.u (Or.inl rfl), rfl⟩
theorem t_inT (h : vK w V s) {r p : Nat} (hr : r < n_ft s.1) (hp : p < n_pt s.1) : TI (d_X11_isInTree (nI r) (nI p) V) (fun x W => frU V W ∧ x = bI (trB s.1 r p)) := by
  have w2 := h.wn.2.1
  rw [TI.T]
  unfold d_X11_isInTree
  rw [k_reqF h hr, rUe, k_reqP h hp, rUe]
  refine TT.I (s_choose (Or.inl rfl) h.N h.wn hr) ?_
  rintro x W ⟨f, k, rfl, k1, k2⟩
  rw [q_hasBit W (by omega) (by omega), rIe, nbB, rGt, k2 p hp]
  exact TT.ret ⟨_, rfl, f.u (Or.inl rfl), rfl⟩
def parI (N : nT) (r f : Nat) : Int32 := if t_pa (treeF N r) f = 4294967295 then -1000 else nI (t_pa (treeF N r) f)
theorem t_par (h : vK w V s) {r f : Nat} (hr : r < n_ft s.1) (hf : f < n_ft s.1) : TI (d_L_parentIn (nI r) (nI f) V) (fun x W => frU V W ∧ x = parI s.1 r f) := by
  have w1 := h.wn.1
  rw [TI.T]
  unfold d_L_parentIn d_X11_parentIn parI
  rw [k_reqF h hr, rUe, k_reqF h hf, rUe]
  obtain ⟨W, e, h1, h2⟩ := s_grow (Or.inl rfl) h.N h.wn hr
  rw [e, rUe, rGi _ (show f < 9 by omega) (by omega), iNn (by omega), h2.1 f (by omega)]
  rcases tree_pa h.wn hr f with e2 | ⟨e2, -⟩
  · rw [e2, if_neg (by rw [← m1_nI]; exact fun q => q rfl), rXE, if_neg (by decide), if_pos rfl, if_pos rfl]
    exact TT.ret ⟨_, rfl, h1.u (Or.inl rfl), rfl⟩
  · rw [if_pos (by rw [i_eqM (by omega)]; omega), rGi _ (show f < 9 by omega) (by omega), rXe, if_neg (by omega)]
    exact TT.ret ⟨_, rfl, h1.u (Or.inl rfl), rfl⟩
def chaF (N : nT) (r f : Nat) : UInt32 := if inT (treeF N r) f = true then t_ch (treeF N r) f else 3212836864
theorem t_rch (h : vK w V s) {r f : Nat} (hr : r < n_ft s.1) (hf : f < n_ft s.1) : TF (d_L_reachChance (nI r) (nI f) V) (fun x W => frU V W ∧ x = chaF s.1 r f) := by
  have w1 := h.wn.1
  have hg := gI_all h.wn hr (n_ft s.1 - 1)
  rw [show growF s.1 r (n_ft s.1 - 1) = treeF s.1 r from rfl] at hg
  unfold d_L_reachChance d_X11_reachChance chaF
  rw [k_reqF h hr, rUe, k_reqF h hf, rUe]
  obtain ⟨W, e, h1, h2⟩ := s_grow (Or.inl rfl) h.N h.wn hr
  rw [e, rUe, rGi _ (show f < 9 by omega) (by omega), iNn (by omega), h2.2.2.1 f (by omega)]
  have d32 := gI_de32 hg f
  cases e2 : inT (treeF s.1 r) f with
  | true =>
    rw [if_pos (by rw [i_eqM d32, ← inT_f, e2]; decide), rGi _ (show f < 9 by omega) (by omega), h2.2.2.2 f (by omega), if_pos rfl]
    exact ⟨_, _, rfl, h1.u (Or.inl rfl), rfl⟩
  | false =>
    rw [inT_f.mp e2, if_neg (by rw [← m1_nI]; exact fun q => q rfl), if_neg (by decide)]
    exact ⟨_, _, rfl, h1.u (Or.inl rfl), rfl⟩
noncomputable def wlI (s : sT) : Int32 := if c_ru s.2.1 = true then nI (endF s.1 30 s.2).2 else -1000
noncomputable def elI (s : sT) : Int32 := if c_ru s.2.1 = true then nI (a_sp (endF s.1 30 s.2).1.2) - nI (a_sp s.2.2) else -1000
theorem s_foresee (h : vK w V s) (hr : c_ru s.2.1 = true) : TI (rU (d_X8_copyFrom 1 0 V) (fun V2 => d_X2_letBlowToEnd 1 V2)) (fun x W => frU V W ∧ x = nI (endF s.1 30 s.2).2 ∧ vS W 1 (s.1, (endF s.1 30 s.2).1)) := by
  rw [TI.T]
  refine TT.U (s_copy (i := 1) (j := 0) (by omega) h.1) ?_
  rintro V2 ⟨f1, k1⟩
  obtain ⟨x, W, e, f2, k2⟩ := s_letEnd (N := s.1) (S := s.2) k1 h.2.1 h.2.2
  rcases k2 with ⟨-, rfl, k2⟩ | ⟨q, -⟩
  · exact ⟨_, _, e, _, rfl, (frM.u (f1.m.t f2)), rfl, k2⟩
  · have q : c_ru s.2.1 = false := q
    rw [hr] at q; cases q
theorem k_reqR (h : vK w V s) : d_X11_requireRunning V = if c_ru s.2.1 = true then some (.inl none, V) else some (.inr "java/util/NoSuchElementException", V) := by
  unfold d_X11_requireRunning
  rw [h.C.2.1]
  cases c_ru s.2.1 with
  | true => rw [if_pos (by decide), if_pos rfl]
  | false => rw [if_neg (by decide), if_neg (by decide)]
theorem t_wl (h : vK w V s) : TI (d_L_windsLeft V) (fun x W => frU V W ∧ x = wlI s) := by
  rw [TI.T]
  unfold d_L_windsLeft d_X11_windsLeft wlI
  rw [k_reqR h]
  by_cases hr : c_ru s.2.1 = true
  · rw [if_pos hr, rUe, if_pos hr]
    obtain ⟨x, W, e, f, rfl, -⟩ := s_foresee h hr
    obtain ⟨V2, e2, -⟩ := s_copy (i := 1) (j := 0) (by omega) h.1
    rw [e2, rUe] at e
    rw [e2, rUe, e, rIe, rXe]
    exact TT.ret ⟨_, rfl, f, rfl⟩
  · rw [if_neg hr, rUE, rXE, if_pos rfl, if_neg hr]
    exact TT.ret ⟨_, rfl, frU.r V, rfl⟩
theorem t_el (h : vK w V s) : TI (d_L_energyLeft V) (fun x W => frU V W ∧ x = elI s) := by
  rw [TI.T]
  unfold d_L_energyLeft d_X11_energyLeft elI
  rw [k_reqR h]
  by_cases hr : c_ru s.2.1 = true
  · rw [if_pos hr, rUe, if_pos hr]
    obtain ⟨x, W, e, f, rfl, k⟩ := s_foresee h hr
    obtain ⟨V2, e2, -⟩ := s_copy (i := 1) (j := 0) (by omega) h.1
    rw [e2, rUe] at e
    rw [e2, rUe, e, rIe, rXe, k.2.2.2.2.2.1, (vS_fU (by omega) h.1 f).2.2.2.2.2.1]
    exact TT.ret ⟨_, rfl, f, rfl⟩
  · rw [if_neg hr, rUE, rXE, if_pos rfl, if_neg hr]
    exact TT.ret ⟨_, rfl, frU.r V, rfl⟩
end
