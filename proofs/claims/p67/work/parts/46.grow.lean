/-! ===== a tree is grown ===== -/
def chld (N : nT) (T : tT) (p : Nat) : Nat := if inT T (n_sn N p) = true then n_fs N p else n_sn N p
def prnt (N : nT) (T : tT) (p : Nat) : Nat := if inT T (n_sn N p) = true then n_sn N p else n_fs N p
def att (N : nT) (T : tT) (p : Nat) : tT :=
  (fun x => if x = chld N T p then prnt N T p else t_pa T x, fun x => if x = chld N T p then p else t_pu T x, fun x => if x = chld N T p then t_de T (prnt N T p) + 1 else t_de T x, fun x => if x = chld N T p then FP.fmul (t_ch T (prnt N T p)) (facF (10 - (n_gu N p - n_sh N (chld N T p)))) else t_ch T x)
def t0 (r : Nat) : tT := (fun _ => 4294967295, fun _ => 4294967295, fun v => if v = r then 0 else 4294967295, fun v => if v = r then FP.fconst1 else FP.fconst0)
def growF (N : nT) (r : Nat) : Nat → tT
  | 0 => t0 r
  | k + 1 => if fo N (growF N r k) (n_pt N) = 4294967295 then growF N r k else att N (growF N r k) (fo N (growF N r k) (n_pt N))
/-- the tree of r -/
def treeF (N : nT) (r : Nat) : tT := growF N r (n_ft N - 1)
def gI (N : nT) (r : Nat) (T : tT) (k : Nat) : Prop :=
  (∃ P, prim (n_fs N) (n_sn N) (n_co N) (n_op N) (n_ft N) (n_pt N) r (inT T) (t_pa T) (t_pu T) (t_de T) P) ∧
  (k + 1 ≤ cnt (inT T) (n_ft N) ∨ ∀ p, n_op N p = true → inT T (n_fs N p) = inT T (n_sn N p)) ∧
  (∀ v, inT T v = false ∨ v = r → t_pa T v = 4294967295 ∧ t_pu T v = 4294967295) ∧ (∀ v, inT T v = true → v < n_ft N ∧ t_de T v < 9) ∧ (∀ v, FP.Core.fIsNaN (t_ch T v) = false) ∧ t_ch T r = FP.fconst1 ∧ t_de T r = 0 ∧
  ∀ v, inT T v = true → v ≠ r → t_ch T v = FP.fmul (t_ch T (t_pa T v)) (facF (10 - (n_gu N (t_pu T v) - n_sh N v)))
theorem gI_0 {N : nT} (hw : wN N) {r : Nat} (hr : r < n_ft N) : gI N r (t0 r) 0 := by
  have e : inT (t0 r) = fun v => decide (v = r) := by
    funext v
    unfold inT t_de t0
    by_cases h : v = r <;> simp [h]
  refine ⟨⟨_, by rw [e]; exact prim_0 hr _ _ _ (by simp [t0, t_de])⟩, Or.inl ?_, fun v _ => ⟨rfl, rfl⟩, fun v hv => ?_, fun v => ?_, ?_, ?_, fun v hv hne => ?_⟩
  · exact cnt_pos (n_ft N) r hr (by rw [e]; simp)
  · rw [e] at hv
    have := of_decide_eq_true hv
    subst this
    exact ⟨hr, by simp [t0, t_de]⟩
  · unfold t_ch t0
    by_cases h : v = r
    · simp only [if_pos h]; exact f_c1
    · simp only [if_neg h]; exact f_c0
  · simp [t0, t_ch]
  · simp [t0, t_de]
  · rw [e] at hv
    exact (hne (of_decide_eq_true hv)).elim
theorem gI_de {N : nT} {r k : Nat} {T : tT} (h : gI N r T k) (v : Nat) : t_de T v < 9 ∨ t_de T v = 4294967295 := by
  cases hb : inT T v with
  | true => exact Or.inl (h.2.2.2.1 v hb).2
  | false => exact Or.inr (inT_f.mp hb)
theorem gI_de32 {N : nT} {r k : Nat} {T : tT} (h : gI N r T k) (v : Nat) : t_de T v < 4294967296 := by have := gI_de h v; omega
theorem outB_t {N : nT} {T : tT} {p : Nat} (h : outB N T p = true) : n_op N p = true ∧ inT T (n_fs N p) ≠ inT T (n_sn N p) := by
  unfold outB at h
  simpa using h
theorem out_ends {N : nT} {T : tT} {p : Nat} (h : outB N T p = true) : inT T (chld N T p) = false ∧ inT T (prnt N T p) = true ∧ ((n_sn N p = chld N T p ∧ n_fs N p = prnt N T p) ∨ (n_fs N p = chld N T p ∧ n_sn N p = prnt N T p)) := by
  obtain ⟨h1, h2⟩ := outB_t h
  unfold chld prnt
  cases a : inT T (n_sn N p) with
  | true =>
    simp only [if_true]
    rw [a] at h2
    exact ⟨by simpa using h2, a, Or.inr ⟨trivial, trivial⟩⟩
  | false =>
    rw [a] at h2
    simp only [Bool.false_eq_true, if_false]
    exact ⟨a, by simpa using h2, Or.inl ⟨trivial, trivial⟩⟩
theorem gI_att {N : nT} (hw : wN N) {r k : Nat} {T : tT} (h : gI N r T k) (hf : fo N T (n_pt N) ≠ 4294967295) : gI N r (att N T (fo N T (n_pt N))) (k + 1) := by
  have w1 := hw.1
  have w2 := hw.2.1
  have hEn := n_opE hw
  rcases fo_spec (N := N) (T := T) (n_pt N) (by omega) with f0 | ⟨f1, f2, f3⟩
  · exact (hf f0.1).elim
  generalize hp : fo N T (n_pt N) = p at *
  obtain ⟨o1, o2⟩ := outB_t f2
  obtain ⟨v1, v2, v3⟩ := out_ends f2
  obtain ⟨⟨P, gp⟩, g2, g3, g4, g5, g6, g7, g8⟩ := h
  have hfo : firstOut (n_fs N) (n_sn N) (n_co N) (n_op N) (n_pt N) (inT T) p := ⟨f1, o1, o2, fun q hq hq2 hq3 => f3 q hq (by unfold outB; simp [hq2, hq3])⟩
  have dw := g4 _ v2
  have e : inT (att N T p) = fun x => inT T x || decide (x = chld N T p) := by
    funext x
    show decide ((if x = chld N T p then t_de T (prnt N T p) + 1 else t_de T x) ≠ 4294967295) = _
    by_cases h : x = chld N T p
    · rw [if_pos h]
      have : t_de T (prnt N T p) + 1 ≠ 4294967295 := by omega
      simp [h, this]
    · rw [if_neg h]
      simp [h, inT]
  have np := prim_step (fun q hq => ⟨(hEn q hq).1, (hEn q hq).2.1, (hEn q hq).2.2.1⟩) gp hfo v1 v2 v3
  have vn : chld N T p < n_ft N := by
    rcases v3 with ⟨a, _⟩ | ⟨a, _⟩
    · rw [← a]; exact (hEn p o1).2.2.1
    · rw [← a]; exact (hEn p o1).2.1
  have hcn : cnt (fun x => inT T x || decide (x = chld N T p)) (n_ft N) = cnt (inT T) (n_ft N) + 1 := cnt_add1 (n_ft N) _ vn v1 (by simp) (fun j _ hj => by simp [hj])
  have hrv : r ≠ chld N T p := fun q => by
    have := gp.1
    rw [q, v1] at this
    cases this
  have nev : ∀ x, inT T x = true → x ≠ chld N T p := fun x hx q => by rw [q, v1] at hx; cases hx
  refine ⟨⟨_, by rw [e]; exact np⟩, Or.inl ?_, fun x hx => ?_, fun x hx => ?_, fun x => ?_, ?_, ?_, fun x hx hne => ?_⟩
  · rw [e, hcn]
    rcases g2 with g2 | g2
    · omega
    · exact (o2 (g2 p o1)).elim
  · have hx2 : x ≠ chld N T p := by
      rcases hx with hx | rfl
      · rw [e] at hx
        intro q
        simp [q] at hx
      · exact hrv
    have hx3 : inT T x = false ∨ x = r := by
      rcases hx with hx | hx
      · rw [e] at hx
        simp only [Bool.or_eq_false_iff] at hx
        exact Or.inl hx.1
      · exact Or.inr hx
    have := g3 x hx3
    show (if x = chld N T p then _ else _) = _ ∧ (if x = chld N T p then _ else _) = _
    rw [if_neg hx2, if_neg hx2]
    exact this
  · have hc := np.2.2.2.2.2.2
    rw [e] at hx
    have hxn : x < n_ft N := by
      simp only [Bool.or_eq_true, decide_eq_true_eq] at hx
      rcases hx with hx | rfl
      · exact (g4 x hx).1
      · exact vn
    refine ⟨hxn, ?_⟩
    have h1 := hc x hxn hx
    have h2 := cnt_le_n (fun x => inT T x || decide (x = chld N T p)) (n_ft N)
    have h1 : t_de (att N T p) x < cnt (fun x => inT T x || decide (x = chld N T p)) (n_ft N) := h1
    omega
  · show FP.Core.fIsNaN (if x = chld N T p then _ else _) = false
    by_cases hx : x = chld N T p
    · rw [if_pos hx]
      have := (hw.2.2.2.2.1 p f1).2.2.2.2.2
      exact fac_mul (g5 _) (by omega) (by omega)
    · rw [if_neg hx]
      exact g5 x
  · show (if r = chld N T p then _ else _) = _
    rw [if_neg hrv]
    exact g6
  · show (if r = chld N T p then _ else _) = _
    rw [if_neg hrv]
    exact g7
  · show (if x = chld N T p then _ else _) = FP.fmul (t_ch (att N T p) (if x = chld N T p then _ else _)) (facF (10 - (n_gu N (if x = chld N T p then _ else _) - _)))
    by_cases hx2 : x = chld N T p
    · rw [if_pos hx2, if_pos hx2, if_pos hx2]
      show _ = FP.fmul (if prnt N T p = chld N T p then _ else _) _
      rw [if_neg (nev _ v2), hx2]
    · rw [if_neg hx2, if_neg hx2, if_neg hx2]
      rw [e] at hx
      have hx3 : inT T x = true := by simpa [hx2] using hx
      have hpa := (gp.2.2.1 x (g4 x hx3).1 hx3 hne).2.2.2.1
      show _ = FP.fmul (if t_pa T x = chld N T p then _ else _) _
      rw [if_neg (nev _ hpa)]
      exact g8 x hx3 hne
theorem gI_step {N : nT} (hw : wN N) {r k : Nat} (h : gI N r (growF N r k) k) : gI N r (growF N r (k + 1)) (k + 1) := by
  unfold growF
  by_cases hf : fo N (growF N r k) (n_pt N) = 4294967295
  · rw [if_pos hf]
    have w2 := hw.2.1
    refine ⟨h.1, Or.inr fun p hp => ?_, h.2.2⟩
    rcases fo_spec (N := N) (T := growF N r k) (n_pt N) (by omega) with ⟨f0, f1⟩ | ⟨f1, f2, f3⟩
    · have := f1 p (n_op_lt hp)
      unfold outB at this
      rw [hp] at this
      simpa using this
    · omega
  · rw [if_neg hf]
    exact gI_att hw h hf
theorem gI_all {N : nT} (hw : wN N) {r : Nat} (hr : r < n_ft N) : ∀ k, gI N r (growF N r k) k := by
  intro k
  induction k with
  | zero => exact gI_0 hw hr
  | succ k ih => exact gI_step hw ih
/-- what the tree of r is -/
theorem gI_end {N : nT} (hw : wN N) {r : Nat} (hr : r < n_ft N) : ∀ p, n_op N p = true → inT (treeF N r) (n_fs N p) = inT (treeF N r) (n_sn N p) := by
  have h := gI_all hw hr (n_ft N - 1)
  intro p hp
  have hE := n_opE hw p hp
  rcases h.2.1 with h2 | h2
  · have := cnt_full (p := inT (treeF N r)) (n_ft N) (by unfold treeF; omega)
    rw [this _ hE.2.1, this _ hE.2.2.1]
  · exact h2 p hp
section
variable {V : am_V} {i t : Nat} {N : nT} {T : tT}
set_option maxHeartbeats 2000000 in
theorem s_attach (ht : t = 20 ∨ t = 30) (hN : vN V i N) (hw : wN N) (hT : vT V t T) {p r k : Nat} (hg : gI N r T k) (ho : outB N T p = true) : TU (d_X7_attach t i (nI p) V) (fun W => frT t V W ∧ vT W t (att N T p)) := by
  have w1 := hw.1
  have w2 := hw.2.1
  obtain ⟨o1, o2⟩ := outB_t ho
  have hpm := n_op_lt o1
  obtain ⟨b1, b2, b3, b4, b5, b6⟩ := hw.2.2.2.2.1 p hpm
  obtain ⟨v1, v2, v3⟩ := out_ends ho
  obtain ⟨hT1, hT2, hT3, hT4⟩ := hT
  have e2 : (nI (t_de T (n_sn N p)) = -1) = (inT T (n_sn N p) = false) := by rw [i_eqM (gI_de32 hg _), inT_f]
  have cn : chld N T p < n_ft N := by rcases v3 with ⟨a, _⟩ | ⟨a, _⟩ <;> omega
  have pn : prnt N T p < n_ft N := by rcases v3 with ⟨_, a⟩ | ⟨_, a⟩ <;> omega
  have dp := (hg.2.2.2.1 _ v2).2
  unfold d_X7_attach
  simp (disch := omega) only [rGi, iNn, hN.2.2.2.2.1, hN.2.2.2.2.2.1, rB, hT3 _ (show n_sn N p < 9 by omega), e2]
  have fin : ∀ (ch pr : Nat), ch = chld N T p → pr = prnt N T p → TU (rV (am_set V (t + 1) ch (nI pr)) fun V1 => rV (am_set V1 (t + 2) ch (nI p)) fun V2 => rV (am_set V2 (t + 3) ch (V2 (t + 3) pr + nI 1)) fun V3 => rI (d_X6_dangerOf i (nI p) (nI ch) V3) fun y5 V4 => rG (am_n32 (FP.fdiv (FP.i2f (nI 10 - y5)) 1092616192)) (rG (am_n32 (FP.fmul (V3 (t + 4) pr).toUInt32 (FP.fdiv (FP.i2f (nI 10 - y5)) 1092616192))) (rV (am_set V4 (t + 4) ch (FP.fmul (V3 (t + 4) pr).toUInt32 (FP.fdiv (FP.i2f (nI 10 - y5)) 1092616192)).toInt32) fun V6 => some (.inl none, V6)))) (fun W => frT t V W ∧ vT W t (att N T p)) := by
    rintro ch pr rfl rfl
    simp only [rV]
    have f1 : frT t V (am_set V (t + 1) (chld N T p) (nI (prnt N T p))) := frT.s (by omega)
    have f2 := f1.t (frT.s (c := t + 2) (k := chld N T p) (x := nI p) (by omega))
    have f3 := f2.t (frT.s (c := t + 3) (k := chld N T p) (x := (am_set (am_set V (t + 1) (chld N T p) (nI (prnt N T p))) (t + 2) (chld N T p) (nI p)) (t + 3) (prnt N T p) + nI 1) (by omega))
    rw [q_dangerOf (vN_fT ht hN f3) hw hpm cn]
    simp only [rI_ret]
    have hd := b6
    rw [i_sub (show n_gu N p - n_sh N (chld N T p) ≤ 10 by omega)]
    have hc : (am_set (am_set (am_set V (t + 1) (chld N T p) (nI (prnt N T p))) (t + 2) (chld N T p) (nI p)) (t + 3) (chld N T p) ((am_set (am_set V (t + 1) (chld N T p) (nI (prnt N T p))) (t + 2) (chld N T p) (nI p)) (t + 3) (prnt N T p) + nI 1) (t + 4) (prnt N T p)).toUInt32 = t_ch T (prnt N T p) := by
      rw [am_set_ne _ _ _ (by omega), am_set_ne _ _ _ (by omega), am_set_ne _ _ _ (by omega), hT4 _ (by omega)]
      rfl
    rw [hc]
    rw [show FP.fdiv (FP.i2f (nI (10 - (n_gu N p - n_sh N (chld N T p))))) 1092616192 = facF (10 - (n_gu N p - n_sh N (chld N T p))) from rfl]
    rw [fac_n (by omega) (by omega), rGt, f_n32 (fac_mul (hg.2.2.2.2.1 _) (by omega) (by omega)), rGt]
    refine TU.ret ⟨f3.t (frT.s (by omega)), ?_, ?_, ?_, ?_⟩
    · intro x hx
      rw [am_set_ne _ _ _ (by omega), am_set_ne _ _ _ (by omega), am_set_ne _ _ _ (by omega), sg_c]
      show _ = nI (if x = chld N T p then _ else _)
      by_cases h : x = chld N T p
      · rw [if_pos h, if_pos h]
      · rw [if_neg h, if_neg h]; exact hT1 x hx
    · intro x hx
      rw [am_set_ne _ _ _ (by omega), am_set_ne _ _ _ (by omega), sg_c]
      show _ = nI (if x = chld N T p then _ else _)
      by_cases h : x = chld N T p
      · rw [if_pos h, if_pos h]
      · rw [if_neg h, if_neg h, am_set_ne _ _ _ (by omega)]; exact hT2 x hx
    · intro x hx
      rw [am_set_ne _ _ _ (by omega), sg_c]
      show _ = nI (if x = chld N T p then _ else _)
      by_cases h : x = chld N T p
      · rw [if_pos h, if_pos h, am_set_ne _ _ _ (by omega), am_set_ne _ _ _ (by omega), hT3 _ (by omega), i_add1]
      · rw [if_neg h, if_neg h, am_set_ne _ _ _ (by omega), am_set_ne _ _ _ (by omega)]; exact hT3 x hx
    · intro x hx
      rw [sg_c]
      show _ = (if x = chld N T p then _ else t_ch T x).toInt32
      by_cases h : x = chld N T p
      · rw [if_pos h, if_pos h]
      · rw [if_neg h, if_neg h, am_set_ne _ _ _ (by omega), am_set_ne _ _ _ (by omega), am_set_ne _ _ _ (by omega)]; exact hT4 x hx
  cases h2 : inT T (n_sn N p) with
  | true =>
    simp only [if_true, Bool.true_eq_false, not_false_eq_true, show (nI 0 = 0) = True from eq_true rfl]
    exact fin _ _ (by unfold chld; rw [h2, if_pos rfl]) (by unfold prnt; rw [h2, if_pos rfl])
  | false =>
    simp only [not_true_eq_false, if_false, show (nI 1 = 0) = False from eq_false (by decide)]
    exact fin _ _ (by unfold chld; rw [h2, if_neg (by decide)]) (by unfold prnt; rw [h2, if_neg (by decide)])
set_option maxHeartbeats 2000000 in
theorem s_grow (ht : t = 20 ∨ t = 30) (hN : vN V i N) (hw : wN N) {r : Nat} (hr : r < n_ft N) : TU (d_X7_grow t i (nI r) V) (fun W => frT t V W ∧ vT W t (treeF N r)) := by
  have w1 := hw.1
  have w2 := hw.2.1
  rw [TU.T]
  unfold d_X7_grow
  refine lr_X7_grow_2 (I := fun n9 k V9 => ∃ j, k = nI j ∧ n9 = 9 - j ∧ j ≤ 9 ∧ frT t V V9 ∧ rowN V9 (t + 1) j (t_pa (t0 r)) ∧ rowN V9 (t + 2) j (t_pu (t0 r)) ∧ rowN V9 (t + 3) j (t_de (t0 r)) ∧ ∀ v, v < j → V9 (t + 4) v = (t_ch (t0 r) v).toInt32) ?_ 9 1000 (by omega) _ V ⟨0, rfl, rfl, by omega, frT.r t V, fun x hx => by omega, fun x hx => by omega, fun x hx => by omega, fun x hx => by omega⟩
  rintro n9 kr hkr k V9 ⟨j, rfl, rfl, j1, h0, h1, h2, h3, h4⟩
  unfold bd_X7_grow_2
  simp (disch := omega) only [i_leE, rB, i_eqE, i_add1, rGi, iNn, rV]
  by_cases hj : 9 ≤ j
  · rw [if_pos hj]
    have e : j = 9 := by omega
    subst e
    have hT : vT V9 t (growF N r 0) := ⟨h1, h2, h3, h4⟩
    refine lr_X7_grow_62 (I := fun n9 k V8 => ∃ j, k = nI (j + 1) ∧ n9 = n_ft N - (j + 1) ∧ j + 1 ≤ n_ft N ∧ frT t V V8 ∧ vT V8 t (growF N r j)) ?_ (n_ft N - 1) 1000 (by omega) _ V9 ⟨0, rfl, rfl, by omega, h0, hT⟩
    rintro n8 kr2 hkr2 k V8 ⟨j, rfl, rfl, j2, g0, g1⟩
    have hN8 := vN_fT ht hN g0
    have hg := gI_all hw hr j
    unfold bd_X7_grow_62
    simp (disch := omega) only [hN8.2.1, i_leE]
    by_cases hj : n_ft N ≤ j + 1
    · rw [if_pos hj]
      refine TT.ret ⟨rfl, g0, ?_⟩
      unfold treeF
      rw [show n_ft N - 1 = j by omega]
      exact g1
    · rw [if_neg hj, q_firstOut hN8 hw g1.2.2.1 (fun v _ => gI_de32 hg v)]
      simp only [rI_ret, rB, i_add1]
      have eg : growF N r (j + 1) = if fo N (growF N r j) (n_pt N) = 4294967295 then growF N r j else att N (growF N r j) (fo N (growF N r j) (n_pt N)) := rfl
      rcases fo_spec (N := N) (T := growF N r j) (n_pt N) (by omega) with ⟨f0, f1⟩ | ⟨f1, f2, f3⟩
      · rw [f0, if_pos m1_nI.symm]
        refine hkr2 (n_ft N - (j + 1 + 1)) (by omega) _ _ ⟨j + 1, rfl, rfl, by omega, g0, ?_⟩
        rw [eg, if_pos f0]
        exact g1
      · rw [if_neg (by rw [i_eqM (by omega)]; omega)]
        refine TT.U (s_attach ht hN8 hw g1 hg f2) ?_
        rintro W ⟨k1, k2⟩
        refine hkr2 (n_ft N - (j + 1 + 1)) (by omega) _ _ ⟨j + 1, rfl, rfl, by omega, g0.t k1, ?_⟩
        rw [eg, if_neg (by omega)]
        exact k2
  · rw [if_neg hj]
    have st : ∀ (d : Int32) (c : UInt32), d = nI (t_de (t0 r) j) → c = t_ch (t0 r) j → TT (kr (nI (j + 1)) (am_set (am_set (am_set (am_set V9 (t + 1) j (-1)) (t + 2) j (-1)) (t + 3) j d) (t + 4) j c.toInt32)) (fun x W => x = .inl none ∧ frT t V W ∧ vT W t (treeF N r)) := by
      rintro d c rfl rfl
      refine hkr (9 - (j + 1)) (by omega) _ _ ⟨j + 1, rfl, rfl, by omega, (((h0.t (frT.s (by omega))).t (frT.s (by omega))).t (frT.s (by omega))).t (frT.s (by omega)), fun x hx => ?_, fun x hx => ?_, fun x hx => ?_, fun x hx => ?_⟩
      · rw [am_set_ne _ _ _ (by omega), am_set_ne _ _ _ (by omega), am_set_ne _ _ _ (by omega), sg_c]
        by_cases h : x = j
        · rw [if_pos h, h]; exact m1_nI
        · rw [if_neg h]; exact h1 x (by omega)
      · rw [am_set_ne _ _ _ (by omega), am_set_ne _ _ _ (by omega), sg_c]
        by_cases h : x = j
        · rw [if_pos h, h]; exact m1_nI
        · rw [if_neg h, am_set_ne _ _ _ (by omega)]; exact h2 x (by omega)
      · rw [am_set_ne _ _ _ (by omega), sg_c]
        by_cases h : x = j
        · rw [if_pos h, h]
        · rw [if_neg h, am_set_ne _ _ _ (by omega), am_set_ne _ _ _ (by omega)]; exact h3 x (by omega)
      · rw [sg_c]
        by_cases h : x = j
        · rw [if_pos h, h]
        · rw [if_neg h, am_set_ne _ _ _ (by omega), am_set_ne _ _ _ (by omega), am_set_ne _ _ _ (by omega)]; exact h4 x (by omega)
    by_cases h : j = r
    · simp only [eq_true h, not_true_eq_false, if_false]
      refine st (nI 0) FP.fconst1 ?_ ?_
      · simp [t0, t_de, h]
      · simp [t0, t_ch, h]
    · simp only [h, not_false_eq_true, if_true]
      refine st (-1) FP.fconst0 ?_ ?_
      · simp only [t0, t_de, h, if_false]; exact m1_nI
      · simp [t0, t_ch, h]
end
