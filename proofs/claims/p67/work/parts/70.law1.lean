/-! ===== the law's checks: the digest, the edges ===== -/
theorem TT.Bj {α : Type} {k : α} {f : α → am_R} {P : am_P} (R : α → Prop) (hk : R k) (hf : ∀ j, R j → TT (f j) P) : TT (rB k f) P := hf k hk
def dgB (s : sT) (ru : Int64) (wl : Int32) : Int64 := ((((31 : Int64)) * ((((((((((7 : Int64)) * (nI (a_se s.2.2)).toInt64) + (((11 : Int64)) * (nI (a_lo s.2.2)).toInt64)) + (((13 : Int64)) * (nI (a_re s.2.2)).toInt64)) + (((17 : Int64)) * (nI (a_sp s.2.2)).toInt64)) + (((19 : Int64)) * (nI (a_fi s.2.2)).toInt64)) + (((23 : Int64)) * (nI (a_fa s.2.2)).toInt64)) + ru) + (srcI s.2.1).toInt64)) + wl.toInt64)
def dgF (s : sT) (h : Int64) : Nat → Int64
  | 0 => h
  | k + 1 => ((((31 : Int64)) * ((((31 : Int64)) * ((((31 : Int64)) * dgF s h k) + (nI (n_sh s.1 k)).toInt64)) + (nI (popc (c_hd s.2.1 k))).toInt64)) + (nI (wfN s.2.1 k)).toInt64)
def dgP (s : sT) (h : Int64) : Nat → Int64
  | 0 => h
  | k + 1 => ((((31 : Int64)) * ((((31 : Int64)) * ((((31 : Int64)) * ((((31 : Int64)) * ((((31 : Int64)) * ((((31 : Int64)) * dgP s h k) + (nI (n_fs s.1 k)).toInt64)) + (nI (n_sn s.1 k)).toInt64)) + (nI (n_co s.1 k)).toInt64)) + (nI (n_gu s.1 k)).toInt64)) + (nI (a_us s.2.2 k)).toInt64)) + (bI (!n_op s.1 k)).toInt64)
noncomputable def dig (s : sT) : Int64 := dgP s (dgF s (dgB s (if c_ru s.2.1 = true then 29 else 0) (wlI s)) (n_ft s.1)) (n_pt s.1)
section
variable {w : Nat} {V : am_V} {s : sT}
set_option maxHeartbeats 1000000 in
theorem t_dig (h : vK w V s) : TJ (d_L_digest V) (fun x W => frU V W ∧ x = dig s) := by
  have w1 := h.wn.1
  have w2 := h.wn.2.1
  rw [TJ.T]
  unfold d_L_digest
  rw [k_se h, rIe, k_lo h, rIe, k_re h, rIe, k_sp h, rIe, k_fi h, rIe, k_fa h, rIe, k_ru h, rIe]
  refine TT.Bj (R := fun j => TT (j (if c_ru s.2.1 = true then 29 else 0) V) (fun r W => ∃ x, r = .inl (some (.long x)) ∧ frU V W ∧ x = dig s)) ?_ ?_
  · try dsimp only
    rw [k_src h, rIe]
    refine TT.I (t_wl h) ?_
    rintro x W ⟨f1, rfl⟩
    refine lr_L_digest_95 (I := fun n9 a k V9 => frU V V9 ∧ ∃ j, a = dgF s (dgB s (if c_ru s.2.1 = true then 29 else 0) (wlI s)) j ∧ k = nI j ∧ n9 = n_ft s.1 - j ∧ j ≤ n_ft s.1) ?_ (n_ft s.1) 17 (by omega) _ _ W ⟨f1, 0, rfl, rfl, rfl, by omega⟩
    rintro n9 kr hkr a k V9 ⟨f9, j, rfl, rfl, rfl, j1⟩
    have h9 := vK_fU h f9
    unfold bd_L_digest_95
    rw [k_fc h9, rIe]
    by_cases hj : n_ft s.1 ≤ j
    · rw [if_pos (by rw [i_leE (by omega) (by omega)]; exact hj)]
      have e : j = n_ft s.1 := by omega
      subst e
      refine lr_L_digest_146 (I := fun n9 a k V8 => frU V V8 ∧ ∃ j, a = dgP s (dgF s (dgB s (if c_ru s.2.1 = true then 29 else 0) (wlI s)) (n_ft s.1)) j ∧ k = nI j ∧ n9 = n_pt s.1 - j ∧ j ≤ n_pt s.1) ?_ (n_pt s.1) 17 (by omega) _ _ V9 ⟨f9, 0, rfl, rfl, rfl, by omega⟩
      rintro n8 kr2 hkr2 a k V8 ⟨f8, j, rfl, rfl, rfl, j2⟩
      have h8 := vK_fU h f8
      unfold bd_L_digest_146
      rw [k_pc h8, rIe]
      by_cases hj : n_pt s.1 ≤ j
      · rw [if_pos (by rw [i_leE (by omega) (by omega)]; exact hj)]
        have e : j = n_pt s.1 := by omega
        subst e
        exact TT.ret ⟨_, rfl, f8, rfl⟩
      · have hj' : j < n_pt s.1 := by omega
        rw [if_neg (by rw [i_leE (by omega) (by omega)]; exact hj), k_fs h8 hj', rIe, k_sn h8 hj', rIe, k_co h8 hj', rIe, k_gu h8 hj', rIe, k_us h8 hj', rIe, k_blk h8 hj', rIe, rBe]
        have go : ∀ x, x = bI (!n_op s.1 j) → TT (kr2 ((((31 : Int64)) * ((((31 : Int64)) * ((((31 : Int64)) * ((((31 : Int64)) * ((((31 : Int64)) * ((((31 : Int64)) * dgP s (dgF s (dgB s (if c_ru s.2.1 = true then 29 else 0) (wlI s)) (n_ft s.1)) j) + (nI (n_fs s.1 j)).toInt64)) + (nI (n_sn s.1 j)).toInt64)) + (nI (n_co s.1 j)).toInt64)) + (nI (n_gu s.1 j)).toInt64)) + (nI (a_us s.2.2 j)).toInt64)) + x.toInt64) (nI j + nI 1) V8) (fun r W => ∃ x, r = .inl (some (.long x)) ∧ frU V W ∧ x = dig s) := by
          rintro x rfl
          rw [i_add1]
          exact hkr2 (n_pt s.1 - (j + 1)) (by omega) _ _ _ ⟨f8, j + 1, rfl, rfl, rfl, by omega⟩
        cases hb : n_op s.1 j with
        | true => rw [if_pos (by decide)]; exact go _ (by rw [hb]; rfl)
        | false => rw [if_neg (by decide)]; exact go _ (by rw [hb]; rfl)
    · have hj' : j < n_ft s.1 := by omega
      rw [if_neg (by rw [i_leE (by omega) (by omega)]; exact hj), k_sh h9 hj', rIe, k_pk h9 hj', rIe]
      refine TT.I (t_wf h9 hj') ?_
      rintro x W2 ⟨f2, rfl⟩
      rw [i_add1]
      exact hkr (n_ft s.1 - (j + 1)) (by omega) _ _ _ ⟨f9.t f2, j + 1, rfl, rfl, rfl, by omega⟩
  · intro j hj
    cases hr : c_ru s.2.1 with
    | true => rw [hr, if_pos rfl] at hj; rw [if_neg (by decide)]; exact hj
    | false => rw [hr, if_neg (by decide)] at hj; rw [if_pos (by decide)]; exact hj
theorem cut_br (h : vK w V s) {p : Nat} (hp : p < n_pt s.1) (ho : n_op s.1 p = true) : cutN s.1 (n_fs s.1 p) (n_sn s.1 p) = 1 ↔ brB s.1 p = true := by
  have hE := n_opE h.wn p ho
  obtain ⟨c1, c2, c3⟩ := cut_ok h hE.2.1 hE.2.2.1
  have hm : ∀ q, n_op s.1 q = true → q < n_pt s.1 := fun q hq => n_op_lt hq
  rw [brB_t, br_cut hm ho hE.2.2.2]
  constructor
  · intro e
    rcases c3 with c3 | ⟨S, s1, s2, s3⟩
    · omega
    · exact ⟨S, s1, s2, by omega⟩
  · rintro ⟨S, s1, s2, s3⟩
    have := c2 S s1 s2
    rcases c3 with c3 | ⟨S', t1, t2, t3⟩
    · omega
    · have := leav_pos hm ho S' t1 t2
      omega
theorem br_tree (h : vK w V s) {p : Nat} (hb : brB s.1 p = true) : trB s.1 (n_fs s.1 p) p = true := by
  rw [brB_t] at hb
  rw [trB_t]
  refine ⟨hb.1, fun hc => hb.2 (conn_mono (fun q hq => ?_) hc), conn_refl _⟩
  have hq := befE_t.mp hq
  have : q ≠ p := fun e => by
    have := hq.2
    rw [e] at this
    unfold bef at this
    omega
  unfold without
  simp [hq.1, this]
theorem edge_cost (h : vK w V s) {p : Nat} (ho : n_op s.1 p = true) : dst s.1 (n_fs s.1 p) (n_sn s.1 p) ≤ n_co s.1 p := by
  have hE := n_opE h.wn p ho
  have hd := (dstP_ex h hE.2.1).1
  have h1 := (hd.1 p ho).2
  have h2 := hd.2.1
  omega
theorem cnt_s {p : Nat → Bool} {j : Nat} : cnt p (j + 1) = cnt p j + if p j = true then 1 else 0 := rfl
theorem sumN_s {f : Nat → Nat} {j : Nat} : sumN f (j + 1) = sumN f j + f j := rfl
set_option maxHeartbeats 2000000 in
theorem t_edges (h : vK w V s) : TI (d_L_areEdges V) (fun x W => frU V W ∧ x = nI 1) := by
  have w1 := h.wn.1
  have w2 := h.wn.2.1
  obtain ⟨a1, a2, a3, a4, a5, a6, a7⟩ := h.a
  rw [TI.T]
  unfold d_L_areEdges
  refine lr_L_areEdges_12 (I := fun n9 a b c d k V9 => frU V V9 ∧ ∃ j, a = nI (cnt (brB s.1) j) ∧ b = nI (sumN (a_us s.2.2) j) ∧ c = nI (sumN (fun p => a_us s.2.2 p * n_co s.1 p) j) ∧ d = nI 1 ∧ k = nI j ∧ n9 = n_pt s.1 - j ∧ j ≤ n_pt s.1) ?_ (n_pt s.1) 17 (by omega) _ _ _ _ _ V ⟨frU.r V, 0, rfl, rfl, rfl, rfl, rfl, rfl, by omega⟩
  rintro n9 kr hkr a b c d k V9 ⟨f9, j, rfl, rfl, rfl, rfl, rfl, rfl, j1⟩
  have h9 := vK_fU h f9
  unfold bd_L_areEdges_12
  rw [if_neg (by decide), k_pc h9, rIe]
  by_cases hj : n_pt s.1 ≤ j
  · rw [if_pos (by rw [i_leE (by omega) (by omega)]; exact hj)]
    have e : j = n_pt s.1 := by omega
    subst e
    simp only [rBe]
    rw [if_neg (by decide)]
    refine TT.I (t_brc h9) ?_
    rintro x V1 ⟨f1, rfl⟩
    have h1 := vK_fU h9 f1
    have hlo : a_lo s.2.2 < 2147483648 := by have := se_lt h; omega
    have hse := se_lt h
    rw [if_neg (fun q => q rfl), k_brb h1, rIe, if_neg (fun q => q rfl), k_se h1, rIe, a6, if_neg (fun q => q rfl), k_sp h1, rIe, a7, if_neg (fun q => q rfl), k_lo h1, rIe, if_neg (by rw [i_ltE hse hlo]; omega)]
    refine TT.I (t_cons h1) ?_
    rintro x V2 ⟨f2, rfl⟩
    rw [if_neg (by decide), nb1, rGt]
    exact TT.ret ⟨_, rfl, (f9.t f1).t f2, rfl⟩
  · have hj' : j < n_pt s.1 := by omega
    obtain ⟨b1, b2, b3, b4, b5, b6⟩ := h.wn.2.2.2.2.1 j hj'
    rw [if_neg (by rw [i_leE (by omega) (by omega)]; exact hj), k_fs h9 hj', rIe, k_sn h9 hj', rIe, k_blk h9 hj', rIe]
    have next : ∀ (b : Nat) V8, b = (if brB s.1 j = true then 1 else 0) → frU V V8 → TT (kr (nI (cnt (brB s.1) j) + nI b) (nI (sumN (a_us s.2.2) j) + nI (a_us s.2.2 j)) (nI (sumN (fun p => a_us s.2.2 p * n_co s.1 p) j) + nI (a_us s.2.2 j) * nI (n_co s.1 j)) (nI 1) (nI j + nI 1) V8) (fun r W => ∃ x, r = .inl (some (.int x)) ∧ frU V W ∧ x = nI 1) := by
      rintro b V8 rfl f8
      rw [nI_mulE, nI_add, nI_add, nI_add, i_add1]
      exact hkr (n_pt s.1 - (j + 1)) (by omega) _ _ _ _ _ _ ⟨f8, j + 1, rfl, rfl, rfl, rfl, rfl, rfl, by omega⟩
    refine TT.Bj (R := fun j' => TT (j' (bI (n_op s.1 j)) V9) (fun r W => ∃ x, r = .inl (some (.int x)) ∧ frU V W ∧ x = nI 1)) ?_ ?_
    · try dsimp only
      refine TT.Bj (R := fun j' => ∀ W, frU V W → TT (j' (bI (brB s.1 j)) W) (fun r W => ∃ x, r = .inl (some (.int x)) ∧ frU V W ∧ x = nI 1)) ?_ ?_
      · intro W fW
        have hW := vK_fU h fW
        try dsimp only
        refine TT.Bj (R := fun j' => TT (j' (nI (if brB s.1 j = true then 1 else 0)) W) (fun r W => ∃ x, r = .inl (some (.int x)) ∧ frU V W ∧ x = nI 1)) ?_ ?_
        · try dsimp only
          rw [k_us hW hj', rIe, k_us hW hj', rIe, k_co hW hj', rIe, k_br hW hj', rIe]
          simp only [rBe]
          rw [if_neg (fun q => q trivial)]
          cases ho : n_op s.1 j with
          | false =>
            have hbf : brB s.1 j = false := by
              cases hb : brB s.1 j with
              | false => rfl
              | true =>
                have := (brB_t.mp hb).1
                rw [ho] at this; cases this
            rw [hbf, if_pos (by decide), if_pos (by decide), ← hbf]
            exact next _ W rfl fW
          | true =>
            rw [if_neg (by decide)]
            refine TT.I (t_way hW b1 b2) ?_
            rintro x W2 ⟨f2, rfl⟩
            have hW2 := vK_fU hW f2
            have he := edge_cost h ho
            rw [k_co hW2 hj', rIe]
            unfold wayI
            rw [if_pos (show dst s.1 (n_fs s.1 j) (n_sn s.1 j) < 1000 by omega), if_neg (by rw [i_ltE (by omega) (by omega)]; omega)]
            cases hb : brB s.1 j with
            | false =>
              rw [if_pos (by decide), ← hb]
              exact next _ W2 rfl (fW.t f2)
            | true =>
              rw [if_neg (by decide)]
              refine TT.I (t_inT hW2 b1 hj') ?_
              rintro x W3 ⟨f3, rfl⟩
              rw [br_tree h hb, if_neg (by decide)]
              exact next _ W3 (by rw [hb]) ((fW.t f2).t f3)
        · intro j' hj2
          cases hb : brB s.1 j with
          | false => rw [hb] at hj2; rw [if_pos (by decide)]; exact hj2
          | true => rw [hb] at hj2; rw [if_neg (by decide)]; exact hj2
      · intro j' hj2
        simp only [rBe]
        cases ho : n_op s.1 j with
        | false =>
          have hbf : brB s.1 j = false := by
            cases hb : brB s.1 j with
            | false => rfl
            | true =>
              have := (brB_t.mp hb).1
              rw [ho] at this; cases this
          rw [if_pos (by decide)]
          rw [hbf] at hj2
          exact hj2 V9 f9
        | true =>
          have hk := cut_br h hj' ho
          rw [if_neg (by decide), k_cut h9 b1 b2 b3, rIe]
          have hc := (cut_ok h b1 b2).1
          by_cases hc1 : cutN s.1 (n_fs s.1 j) (n_sn s.1 j) = 1
          · rw [if_neg (by simp [hc1])]
            rw [hk.mp hc1] at hj2
            exact hj2 V9 f9
          · rw [if_pos (by rw [i_eqE (by omega) (by omega)]; exact hc1)]
            have : brB s.1 j = false := by
              cases hb : brB s.1 j with
              | false => rfl
              | true => exact (hc1 (hk.mpr hb)).elim
            rw [this] at hj2
            exact hj2 V9 f9
    · intro j' hj2
      cases ho : n_op s.1 j with
      | false => rw [ho] at hj2; rw [if_pos (by decide)]; exact hj2
      | true => rw [ho] at hj2; rw [if_neg (by decide)]; exact hj2
end
