/-! ===== orders, shares, consistency, the text of a field ===== -/
def ahF (s : sT) (a b : Nat) : Bool := if popc (c_hd s.2.1 a) = popc (c_hd s.2.1 b) then (if n_sh s.1 a = n_sh s.1 b then decide (a < b) else decide (n_sh s.1 b < n_sh s.1 a)) else decide (popc (c_hd s.2.1 b) < popc (c_hd s.2.1 a))
def ahP (s : sT) (a b : Nat) : Bool := if a_us s.2.2 a = a_us s.2.2 b then (if n_co s.1 a = n_co s.1 b then decide (a < b) else decide (n_co s.1 a < n_co s.1 b)) else decide (a_us s.2.2 b < a_us s.2.2 a)
theorem ahF_t {s : sT} {a b : Nat} : ahF s a b = true ↔ popc (c_hd s.2.1 b) < popc (c_hd s.2.1 a) ∨ (popc (c_hd s.2.1 a) = popc (c_hd s.2.1 b) ∧ (n_sh s.1 b < n_sh s.1 a ∨ (n_sh s.1 a = n_sh s.1 b ∧ a < b))) := by
  unfold ahF
  by_cases h1 : popc (c_hd s.2.1 a) = popc (c_hd s.2.1 b)
  · rw [if_pos h1]
    by_cases h2 : n_sh s.1 a = n_sh s.1 b
    · rw [if_pos h2, decide_eq_true_eq]; omega
    · rw [if_neg h2, decide_eq_true_eq]; omega
  · rw [if_neg h1, decide_eq_true_eq]; omega
theorem ahP_t {s : sT} {a b : Nat} : ahP s a b = true ↔ a_us s.2.2 b < a_us s.2.2 a ∨ (a_us s.2.2 a = a_us s.2.2 b ∧ (n_co s.1 a < n_co s.1 b ∨ (n_co s.1 a = n_co s.1 b ∧ a < b))) := by
  unfold ahP
  by_cases h1 : a_us s.2.2 a = a_us s.2.2 b
  · rw [if_pos h1]
    by_cases h2 : n_co s.1 a = n_co s.1 b
    · rw [if_pos h2, decide_eq_true_eq]; omega
    · rw [if_neg h2, decide_eq_true_eq]; omega
  · rw [if_neg h1, decide_eq_true_eq]; omega
theorem ahF_strict (s : sT) (n : Nat) : strict (ahF s) n := by
  refine ⟨fun a _ => ?_, fun a b c _ _ _ h1 h2 => ?_, fun a b _ _ hne => ?_⟩
  · cases h : ahF s a a with
    | false => rfl
    | true => rw [ahF_t] at h; omega
  · rw [ahF_t] at *; omega
  · rw [ahF_t, ahF_t]; omega
theorem ahP_strict (s : sT) (n : Nat) : strict (ahP s) n := by
  refine ⟨fun a _ => ?_, fun a b c _ _ _ h1 h2 => ?_, fun a b _ _ hne => ?_⟩
  · cases h : ahP s a a with
    | false => rfl
    | true => rw [ahP_t] at h; omega
  · rw [ahP_t] at *; omega
  · rw [ahP_t, ahP_t]; omega
theorem popc_le (k : Nat) : popc k ≤ 7 := cnt_le_n _ _
section
variable {w : Nat} {V : am_V} {s : sT}
theorem us_lt (h : vK w V s) {p : Nat} (hp : p < n_pt s.1) : a_us s.2.2 p < 2147483648 := by
  obtain ⟨a1, a2, a3, a4, a5, a6, a7⟩ := h.a
  have := sumN_ge (f := a_us s.2.2) (n_pt s.1) p hp
  have := h.2.2
  omega
theorem se_lt (h : vK w V s) : a_se s.2.2 < 2147483648 := by
  have := h.a.1
  have := h.2.2
  omega
theorem q_fAhead (h : vK w V s) {a b : Nat} (ha : a < n_ft s.1) (hb : b < n_ft s.1) : d_X8_fieldIsAhead 0 (nI a) (nI b) V = some (.inl (some (.int (bI (ahF s a b)))), V) := by
  have w1 := h.wn.1
  have s1 := h.wn.2.2.2.1 a ha
  have s2 := h.wn.2.2.2.1 b hb
  have p1 := popc_le (c_hd s.2.1 a)
  have p2 := popc_le (c_hd s.2.1 b)
  unfold d_X8_fieldIsAhead ahF
  rw [rGi _ (show a < 9 by omega) (by omega), iNn (by omega), h.C.2.2.2.2.2.2.2 a (by omega), q_bc, rIe, rGi _ (show b < 9 by omega) (by omega), iNn (by omega), h.C.2.2.2.2.2.2.2 b (by omega), q_bc, rIe, bc_128 _ (hd_lt h ha), bc_128 _ (hd_lt h hb)]
  simp (disch := omega) only [i_eqE, i_leE, rBe, rGi, iNn, h.N.2.2.2.1 a (show a < 9 by omega), h.N.2.2.2.1 b (show b < 9 by omega)]
  by_cases h1 : popc (c_hd s.2.1 a) = popc (c_hd s.2.1 b)
  · rw [if_pos h1, if_pos h1]
    by_cases h2 : n_sh s.1 a = n_sh s.1 b
    · rw [if_pos h2, if_pos h2]
      by_cases h3 : b ≤ a
      · rw [if_pos h3, nb0, rGt, decide_eq_false (by omega)]; rfl
      · rw [if_neg h3, nb1, rGt, decide_eq_true (by omega)]; rfl
    · rw [if_neg h2, if_neg h2]
      by_cases h3 : n_sh s.1 a ≤ n_sh s.1 b
      · rw [if_pos h3, nb0, rGt, decide_eq_false (by omega)]; rfl
      · rw [if_neg h3, nb1, rGt, decide_eq_true (by omega)]; rfl
  · rw [if_neg h1, if_neg h1]
    by_cases h3 : popc (c_hd s.2.1 a) ≤ popc (c_hd s.2.1 b)
    · rw [if_pos h3, nb0, rGt, decide_eq_false (by omega)]; rfl
    · rw [if_neg h3, nb1, rGt, decide_eq_true (by omega)]; rfl
theorem q_pAhead (h : vK w V s) {a b : Nat} (ha : a < n_pt s.1) (hb : b < n_pt s.1) : d_X8_pathIsAhead 0 (nI a) (nI b) V = some (.inl (some (.int (bI (ahP s a b)))), V) := by
  have w2 := h.wn.2.1
  have s1 := (h.wn.2.2.2.2.1 a ha).2.2.2.2.1
  have s2 := (h.wn.2.2.2.2.1 b hb).2.2.2.2.1
  have p1 := us_lt h ha
  have p2 := us_lt h hb
  unfold d_X8_pathIsAhead ahP
  simp (disch := omega) only [rGi, iNn, h.A.2.2.2.2.2.2 a (show a < 16 by omega), h.A.2.2.2.2.2.2 b (show b < 16 by omega), h.N.2.2.2.2.2.2.1 a (show a < 16 by omega), h.N.2.2.2.2.2.2.1 b (show b < 16 by omega), i_eqE, i_leE, rBe]
  by_cases h1 : a_us s.2.2 a = a_us s.2.2 b
  · rw [if_pos h1, if_pos h1]
    by_cases h2 : n_co s.1 a = n_co s.1 b
    · rw [if_pos h2, if_pos h2]
      by_cases h3 : b ≤ a
      · rw [if_pos h3, nb0, rGt, decide_eq_false (by omega)]; rfl
      · rw [if_neg h3, nb1, rGt, decide_eq_true (by omega)]; rfl
    · rw [if_neg h2, if_neg h2]
      by_cases h3 : n_co s.1 b ≤ n_co s.1 a
      · rw [if_pos h3, nb0, rGt, decide_eq_false (by omega)]; rfl
      · rw [if_neg h3, nb1, rGt, decide_eq_true (by omega)]; rfl
  · rw [if_neg h1, if_neg h1]
    by_cases h3 : a_us s.2.2 a ≤ a_us s.2.2 b
    · rw [if_pos h3, nb0, rGt, decide_eq_false (by omega)]; rfl
    · rw [if_neg h3, nb1, rGt, decide_eq_true (by omega)]; rfl
theorem q_fRank (h : vK w V s) {f : Nat} (hf : f < n_ft s.1) : d_X8_fieldsAheadOf 0 (nI f) V = some (.inl (some (.int (nI (rank (ahF s) (n_ft s.1) f)))), V) := by
  have w1 := h.wn.1
  refine TI.eq ?_
  rw [TI.T]
  unfold d_X8_fieldsAheadOf rank
  refine lr_X8_fieldsAheadOf_4 (I := fun n9 a k V9 => V9 = V ∧ ∃ j, a = nI (cnt (fun o => decide (o ≠ f) && ahF s o f) j) ∧ k = nI j ∧ n9 = n_ft s.1 - j ∧ j ≤ n_ft s.1) ?_ (n_ft s.1) 1000 (by omega) _ _ V ⟨rfl, 0, rfl, rfl, rfl, by omega⟩
  rintro n9 kr hkr a k V9 ⟨rfl, j, rfl, rfl, rfl, j1⟩
  unfold bd_X8_fieldsAheadOf_4
  simp (disch := omega) only [h.N.2.1, i_leE]
  by_cases hj : n_ft s.1 ≤ j
  · rw [if_pos hj]
    have e : j = n_ft s.1 := by omega
    subst e
    exact TT.ret ⟨_, rfl, rfl, rfl⟩
  · rw [if_neg hj]
    have es : cnt (fun o => decide (o ≠ f) && ahF s o f) (j + 1) = cnt (fun o => decide (o ≠ f) && ahF s o f) j + (if (decide (j ≠ f) && ahF s j f) = true then 1 else 0) := rfl
    simp (disch := omega) only [rBe, i_eqE, i_add1]
    by_cases e1 : j = f
    · rw [if_pos e1]
      exact hkr (n_ft s.1 - (j + 1)) (by omega) _ _ _ ⟨rfl, j + 1, by rw [es, if_neg (by simp [e1])]; rfl, rfl, rfl, by omega⟩
    · rw [if_neg e1, q_fAhead h (by omega) hf, rIe]
      cases e : ahF s j f with
      | false =>
        rw [if_pos (by decide)]
        exact hkr (n_ft s.1 - (j + 1)) (by omega) _ _ _ ⟨rfl, j + 1, by rw [es, if_neg (by simp [e])]; rfl, rfl, rfl, by omega⟩
      | true =>
        rw [if_neg (by decide)]
        exact hkr (n_ft s.1 - (j + 1)) (by omega) _ _ _ ⟨rfl, j + 1, by rw [es, if_pos (by simp [e, e1])], rfl, rfl, by omega⟩
theorem q_pRank (h : vK w V s) {f : Nat} (hf : f < n_pt s.1) : d_X8_pathsAheadOf 0 (nI f) V = some (.inl (some (.int (nI (rank (ahP s) (n_pt s.1) f)))), V) := by
  have w1 := h.wn.2.1
  refine TI.eq ?_
  rw [TI.T]
  unfold d_X8_pathsAheadOf rank
  refine lr_X8_pathsAheadOf_4 (I := fun n9 a k V9 => V9 = V ∧ ∃ j, a = nI (cnt (fun o => decide (o ≠ f) && ahP s o f) j) ∧ k = nI j ∧ n9 = n_pt s.1 - j ∧ j ≤ n_pt s.1) ?_ (n_pt s.1) 1000 (by omega) _ _ V ⟨rfl, 0, rfl, rfl, rfl, by omega⟩
  rintro n9 kr hkr a k V9 ⟨rfl, j, rfl, rfl, rfl, j1⟩
  unfold bd_X8_pathsAheadOf_4
  simp (disch := omega) only [h.N.2.2.1, i_leE]
  by_cases hj : n_pt s.1 ≤ j
  · rw [if_pos hj]
    have e : j = n_pt s.1 := by omega
    subst e
    exact TT.ret ⟨_, rfl, rfl, rfl⟩
  · rw [if_neg hj]
    have es : cnt (fun o => decide (o ≠ f) && ahP s o f) (j + 1) = cnt (fun o => decide (o ≠ f) && ahP s o f) j + (if (decide (j ≠ f) && ahP s j f) = true then 1 else 0) := rfl
    simp (disch := omega) only [rBe, i_eqE, i_add1]
    by_cases e1 : j = f
    · rw [if_pos e1]
      exact hkr (n_pt s.1 - (j + 1)) (by omega) _ _ _ ⟨rfl, j + 1, by rw [es, if_neg (by simp [e1])]; rfl, rfl, rfl, by omega⟩
    · rw [if_neg e1, q_pAhead h (by omega) hf, rIe]
      cases e : ahP s j f with
      | false =>
        rw [if_pos (by decide)]
        exact hkr (n_pt s.1 - (j + 1)) (by omega) _ _ _ ⟨rfl, j + 1, by rw [es, if_neg (by simp [e])]; rfl, rfl, rfl, by omega⟩
      | true =>
        rw [if_neg (by decide)]
        exact hkr (n_pt s.1 - (j + 1)) (by omega) _ _ _ ⟨rfl, j + 1, by rw [es, if_pos (by simp [e, e1])], rfl, rfl, by omega⟩
noncomputable def fbp (s : sT) (k : Nat) : Nat := @Classical.epsilon Nat ⟨0⟩ (fun x => x < n_ft s.1 ∧ rank (ahF s) (n_ft s.1) x = k)
noncomputable def pbu (s : sT) (k : Nat) : Nat := @Classical.epsilon Nat ⟨0⟩ (fun x => x < n_pt s.1 ∧ rank (ahP s) (n_pt s.1) x = k)
theorem fbp_ok (s : sT) {k : Nat} (hk : k < n_ft s.1) : fbp s k < n_ft s.1 ∧ rank (ahF s) (n_ft s.1) (fbp s k) = k := @Classical.epsilon_spec Nat (fun x => x < n_ft s.1 ∧ rank (ahF s) (n_ft s.1) x = k) (rank_ex (ahF_strict s _) hk)
theorem pbu_ok (s : sT) {k : Nat} (hk : k < n_pt s.1) : pbu s k < n_pt s.1 ∧ rank (ahP s) (n_pt s.1) (pbu s k) = k := @Classical.epsilon_spec Nat (fun x => x < n_pt s.1 ∧ rank (ahP s) (n_pt s.1) x = k) (rank_ex (ahP_strict s _) hk)
noncomputable def fbI (s : sT) (k : Nat) : Int32 := if k < n_ft s.1 then nI (fbp s k) else -1000
noncomputable def puI (s : sT) (k : Nat) : Int32 := if k < n_pt s.1 then nI (pbu s k) else -1000
theorem TTeq {m : am_R} {r : Option Value ⊕ String} {V : am_V} (h : TT m (fun x W => x = r ∧ W = V)) : m = some (r, V) := by
  obtain ⟨x, W, e, rfl, rfl⟩ := h
  exact e
theorem k_fbp (h : vK w V s) {k : Nat} (hk : k < 2147483648) : d_L_fieldByPackets (nI k) V = some (.inl (some (.int (fbI s k))), V) := by
  have w1 := h.wn.1
  unfold d_L_fieldByPackets
  have key : d_X11_fieldByPackets (nI k) V = if k < n_ft s.1 then some (.inl (some (.int (nI (fbp s k)))), V) else some (.inr "java/util/NoSuchElementException", V) := by
    have : TT (d_X11_fieldByPackets (nI k) V) (fun x W => x = (if k < n_ft s.1 then .inl (some (.int (nI (fbp s k)))) else .inr "java/util/NoSuchElementException") ∧ W = V) := by
      unfold d_X11_fieldByPackets
      refine lr_X11_fieldByPackets_2 (I := fun n9 q V9 => V9 = V ∧ ∃ j, q = nI j ∧ n9 = n_ft s.1 - j ∧ j ≤ n_ft s.1 ∧ ∀ x, x < j → rank (ahF s) (n_ft s.1) x ≠ k) ?_ (n_ft s.1) 1000 (by omega) _ V ⟨rfl, 0, rfl, rfl, by omega, fun x hx => by omega⟩
      rintro n9 kr hkr q V9 ⟨rfl, j, rfl, rfl, j1, j2⟩
      unfold bd_X11_fieldByPackets_2
      simp (disch := omega) only [h.N.2.1, i_leE]
      by_cases hj : n_ft s.1 ≤ j
      · rw [if_pos hj]
        refine TT.ret ⟨?_, rfl⟩
        rw [if_neg fun q => ?_]
        obtain ⟨x, hx, e⟩ := rank_ex (ahF_strict s (n_ft s.1)) q
        exact j2 x (by omega) e
      · rw [if_neg hj, q_fRank h (by omega), rIe]
        have hr := rank_lt_n (ahF_strict s (n_ft s.1)) (x := j) (by omega)
        simp (disch := omega) only [i_eqE, i_add1]
        by_cases e : rank (ahF s) (n_ft s.1) j = k
        · rw [if_neg (by simp [e])]
          have hk2 : k < n_ft s.1 := by omega
          have := fbp_ok s hk2
          have e2 : fbp s k = j := rank_inj (ahF_strict s (n_ft s.1)) this.1 (by omega) (this.2.trans e.symm)
          refine TT.ret ⟨?_, rfl⟩
          rw [if_pos hk2, e2]
        · rw [if_pos e]
          refine hkr (n_ft s.1 - (j + 1)) (by omega) _ _ ⟨rfl, j + 1, rfl, rfl, by omega, fun x hx => ?_⟩
          by_cases e2 : x = j
          · rw [e2]; exact e
          · exact j2 x (by omega)
    have := TTeq this
    rw [this]
    split <;> rfl
  rw [key]
  unfold fbI
  by_cases e : k < n_ft s.1
  · rw [if_pos e, rXe, if_pos e]
  · rw [if_neg e, rXE, if_pos rfl, if_neg e]
theorem k_pbu (h : vK w V s) {k : Nat} (hk : k < 2147483648) : d_L_pathByUse (nI k) V = some (.inl (some (.int (puI s k))), V) := by
  have w1 := h.wn.2.1
  unfold d_L_pathByUse
  have key : d_X11_pathByUse (nI k) V = if k < n_pt s.1 then some (.inl (some (.int (nI (pbu s k)))), V) else some (.inr "java/util/NoSuchElementException", V) := by
    have : TT (d_X11_pathByUse (nI k) V) (fun x W => x = (if k < n_pt s.1 then .inl (some (.int (nI (pbu s k)))) else .inr "java/util/NoSuchElementException") ∧ W = V) := by
      unfold d_X11_pathByUse
      refine lr_X11_pathByUse_2 (I := fun n9 q V9 => V9 = V ∧ ∃ j, q = nI j ∧ n9 = n_pt s.1 - j ∧ j ≤ n_pt s.1 ∧ ∀ x, x < j → rank (ahP s) (n_pt s.1) x ≠ k) ?_ (n_pt s.1) 1000 (by omega) _ V ⟨rfl, 0, rfl, rfl, by omega, fun x hx => by omega⟩
      rintro n9 kr hkr q V9 ⟨rfl, j, rfl, rfl, j1, j2⟩
      unfold bd_X11_pathByUse_2
      simp (disch := omega) only [h.N.2.2.1, i_leE]
      by_cases hj : n_pt s.1 ≤ j
      · rw [if_pos hj]
        refine TT.ret ⟨?_, rfl⟩
        rw [if_neg fun q => ?_]
        obtain ⟨x, hx, e⟩ := rank_ex (ahP_strict s (n_pt s.1)) q
        exact j2 x (by omega) e
      · rw [if_neg hj, q_pRank h (by omega), rIe]
        have hr := rank_lt_n (ahP_strict s (n_pt s.1)) (x := j) (by omega)
        simp (disch := omega) only [i_eqE, i_add1]
        by_cases e : rank (ahP s) (n_pt s.1) j = k
        · rw [if_neg (by simp [e])]
          have hk2 : k < n_pt s.1 := by omega
          have := pbu_ok s hk2
          have e2 : pbu s k = j := rank_inj (ahP_strict s (n_pt s.1)) this.1 (by omega) (this.2.trans e.symm)
          refine TT.ret ⟨?_, rfl⟩
          rw [if_pos hk2, e2]
        · rw [if_pos e]
          refine hkr (n_pt s.1 - (j + 1)) (by omega) _ _ ⟨rfl, j + 1, rfl, rfl, by omega, fun x hx => ?_⟩
          by_cases e2 : x = j
          · rw [e2]; exact e
          · exact j2 x (by omega)
    have := TTeq this
    rw [this]
    split <;> rfl
  rw [key]
  unfold puI
  by_cases e : k < n_pt s.1
  · rw [if_pos e, rXe, if_pos e]
  · rw [if_neg e, rXE, if_pos rfl, if_neg e]
theorem k_pbuN (h : vK w V s) : d_L_pathByUse (-1) V = some (.inl (some (.int (-1000))), V) := by
  have w1 := h.wn.2.1
  unfold d_L_pathByUse
  have : TT (d_X11_pathByUse (-1) V) (fun x W => x = .inr "java/util/NoSuchElementException" ∧ W = V) := by
    unfold d_X11_pathByUse
    refine lr_X11_pathByUse_2 (I := fun n9 q V9 => V9 = V ∧ ∃ j, q = nI j ∧ n9 = n_pt s.1 - j ∧ j ≤ n_pt s.1) ?_ (n_pt s.1) 1000 (by omega) _ V ⟨rfl, 0, rfl, rfl, by omega⟩
    rintro n9 kr hkr q V9 ⟨rfl, j, rfl, rfl, j1⟩
    unfold bd_X11_pathByUse_2
    simp (disch := omega) only [h.N.2.2.1, i_leE]
    by_cases hj : n_pt s.1 ≤ j
    · rw [if_pos hj]
      exact TT.ret ⟨rfl, rfl⟩
    · rw [if_neg hj, q_pRank h (by omega), rIe]
      have hr := rank_lt_n (ahP_strict s (n_pt s.1)) (x := j) (by omega)
      rw [if_pos (nI_neg (by omega) (by decide)), i_add1]
      exact hkr (n_pt s.1 - (j + 1)) (by omega) _ _ ⟨rfl, j + 1, rfl, rfl, by omega⟩
  rw [TTeq this, rXE, if_pos rfl]
end
theorem f_nn {x : UInt32} (h : FP.Core.FFin x) : FP.Core.fIsNaN x = false := by
  rw [FP.Core.fin_bits32] at h
  cases e : FP.Core.fIsNaN x with
  | false => rfl
  | true =>
    rw [FP.Core.isNaN_bits32] at e
    omega
theorem d_nn {x : UInt64} (h : FP.Core.DFin x) : FP.Core.dIsNaN x = false := by
  rw [FP.Core.fin_bits] at h
  cases e : FP.Core.dIsNaN x with
  | false => rfl
  | true =>
    rw [FP.Core.isNaN_bits] at e
    omega
theorem d_n64 {x : UInt64} (h : FP.Core.dIsNaN x = false) : am_n64 x = true := by
  unfold am_n64
  refine decide_eq_true ?_
  rw [UInt64.le_iff_toNat_le, UInt64.toNat_and]
  rw [show (0x7fffffffffffffff : UInt64).toNat = 2 ^ 63 - 1 from rfl, Nat.and_two_pow_sub_one_eq_mod]
  have h2 : ¬ (FP.Core.dIsNaN x = true) := by rw [h]; decide
  rw [FP.Core.isNaN_bits] at h2
  show x.toNat % 2 ^ 63 ≤ 9218868437227405312
  omega
theorem quo_f {a b : Nat} (hb : b < 2147483648) (h0 : b ≠ 0) : FP.Core.fIsNaN (FP.fdiv (FP.i2f (nI a)) (FP.i2f (nI b))) = false := by
  refine FP.Core.fdiv_out (f_nn (FP.Core.i2f_fin _)) (FP.Core.i2f_fin _) ?_
  rw [FP.Core.zero_bits232]
  exact FP.Core.i2f_ne_zero (by intro q; rw [i_eq0 hb] at q; exact h0 q)
theorem quo_d {a b : Nat} (hb : b < 2147483648) (h0 : b ≠ 0) : FP.Core.dIsNaN (FP.ddiv (FP.i2d (nI a)) (FP.i2d (nI b))) = false := by
  refine FP.Core.ddiv_out (d_nn (FP.Core.i2d_fin _)) (FP.Core.i2d_fin _) ?_
  rw [FP.Core.zero_bits2]
  exact FP.Core.i2d_ne_zero (by intro q; rw [i_eq0 hb] at q; exact h0 q)
def lossF (s : sT) : UInt32 := if a_se s.2.2 = 0 then 3212836864 else FP.fdiv (FP.i2f (nI (a_lo s.2.2))) (FP.i2f (nI (a_se s.2.2)))
def meanD (s : sT) : UInt64 := if a_se s.2.2 = 0 then 13830554455654793216 else FP.ddiv (FP.i2d (nI (a_sp s.2.2))) (FP.i2d (nI (a_se s.2.2)))
theorem rXFe {x : UInt32} {V : am_V} {f : UInt32 → am_V → am_R} {g : String → am_V → am_R} : rXF (some (.inl (some (.float x)), V)) f g = f x V := id rfl
theorem rXFE {E : String} {V : am_V} {f : UInt32 → am_V → am_R} {g : String → am_V → am_R} : rXF (some (.inr E, V)) f g = g E V := id rfl
theorem rXDe {x : UInt64} {V : am_V} {f : UInt64 → am_V → am_R} {g : String → am_V → am_R} : rXD (some (.inl (some (.double x)), V)) f g = f x V := id rfl
theorem rXDE {E : String} {V : am_V} {f : UInt64 → am_V → am_R} {g : String → am_V → am_R} : rXD (some (.inr E, V)) f g = g E V := id rfl
section
variable {w : Nat} {V : am_V} {s : sT}
theorem k_loss (h : vK w V s) : d_L_lossShare V = some (.inl (some (.float (lossF s))), V) := by
  unfold d_L_lossShare d_X11_lossShare d_X11_requireSent lossF
  rw [h.A.1]
  by_cases e : a_se s.2.2 = 0
  · rw [e, if_neg (by decide), rUE, rXFE, if_pos rfl, if_pos rfl]
  · rw [if_pos (by rw [i_eq0 (se_lt h)]; exact e), rUe, h.A.1, h.A.2.1, f_n32 (quo_f (se_lt h) e), rGt, rXFe, if_neg e]
theorem k_mean (h : vK w V s) : d_L_meanEnergy V = some (.inl (some (.double (meanD s))), V) := by
  unfold d_L_meanEnergy d_X11_meanEnergy d_X11_requireSent meanD
  rw [h.A.1]
  by_cases e : a_se s.2.2 = 0
  · rw [e, if_neg (by decide), rUE, rXDE, if_pos rfl, if_pos rfl]
  · rw [if_pos (by rw [i_eq0 (se_lt h)]; exact e), rUe, h.A.1, h.A.2.2.2.1, d_n64 (quo_d (se_lt h) e), rGt, rXDe, if_neg e]
theorem q_totals (h : vK w V s) : d_X8_totalsAgree 0 V = some (.inl (some (.int (nI 1))), V) := by
  have w2 := h.wn.2.1
  obtain ⟨a1, a2, a3, a4, a5, a6, a7⟩ := h.a
  refine TI.eq ?_
  rw [TI.T]
  unfold d_X8_totalsAgree
  refine lr_X8_totalsAgree_6 (I := fun n9 a b k V9 => V9 = V ∧ ∃ j, a = nI (sumN (a_us s.2.2) j) ∧ b = nI (sumN (fun p => a_us s.2.2 p * n_co s.1 p) j) ∧ k = nI j ∧ n9 = n_pt s.1 - j ∧ j ≤ n_pt s.1) ?_ (n_pt s.1) 1000 (by omega) _ _ _ V ⟨rfl, 0, rfl, rfl, rfl, rfl, by omega⟩
  rintro n9 kr hkr a b k V9 ⟨rfl, j, rfl, rfl, rfl, rfl, j1⟩
  unfold bd_X8_totalsAgree_6
  simp (disch := omega) only [h.N.2.2.1, i_leE]
  by_cases hj : n_pt s.1 ≤ j
  · rw [if_pos hj]
    have e : j = n_pt s.1 := by omega
    subst e
    simp only [rBe]
    rw [h.A.1, h.A.2.2.2.1, a6, a7, if_neg (fun q => q rfl), if_neg (fun q => q rfl), nb1, rGt]
    exact TT.ret ⟨_, rfl, rfl, rfl⟩
  · rw [if_neg hj]
    simp (disch := omega) only [rGi, iNn, h.A.2.2.2.2.2.2 j (show j < 16 by omega), h.N.2.2.2.2.2.2.1 j (show j < 16 by omega), nI_mulE, nI_add]
    exact hkr (n_pt s.1 - (j + 1)) (by omega) _ _ _ _ ⟨rfl, j + 1, rfl, rfl, rfl, rfl, by omega⟩
theorem t_trees (h : vK w V s) : TI (d_X11_treeCostsAgree V) (fun x W => frU V W ∧ x = nI 1) := by
  have w1 := h.wn.1
  rw [TI.T]
  unfold d_X11_treeCostsAgree
  refine lr_X11_treeCostsAgree_2 (I := fun n9 k V9 => frU V V9 ∧ ∃ j, k = nI j ∧ n9 = n_ft s.1 - j ∧ j ≤ n_ft s.1) ?_ (n_ft s.1) 1000 (by omega) _ V ⟨frU.r V, 0, rfl, rfl, by omega⟩
  rintro n9 kr hkr k V9 ⟨f9, j, rfl, rfl, j1⟩
  have h9 := vK_fU h f9
  unfold bd_X11_treeCostsAgree_2
  simp (disch := omega) only [h9.N.2.1, i_leE]
  by_cases hj : n_ft s.1 ≤ j
  · rw [if_pos hj, nb1, rGt]
    exact TT.ret ⟨_, rfl, f9, rfl⟩
  · rw [if_neg hj]
    refine TT.I (s_costInOrder (Or.inl rfl) h9.N h9.wn (r := j) (by omega)) ?_
    rintro x W ⟨f1, rfl⟩
    have h10 := vK_fU h9 (f1.u (Or.inl rfl))
    refine TT.I (s_costGrown (Or.inl rfl) h10.N h10.wn (r := j) (by omega)) ?_
    rintro x W2 ⟨f2, rfl⟩
    rw [if_pos rfl, i_add1]
    exact hkr (n_ft s.1 - (j + 1)) (by omega) _ _ ⟨(f9.t (f1.u (Or.inl rfl))).t (f2.u (Or.inl rfl)), j + 1, rfl, rfl, by omega⟩
theorem t_cuts (h : vK w V s) : TI (d_X11_waysAgreeWithCuts V) (fun x W => frU V W ∧ x = nI 1) := by
  have w1 := h.wn.1
  rw [TI.T]
  unfold d_X11_waysAgreeWithCuts
  refine lr_X11_waysAgreeWithCuts_2 (I := fun n9 k V9 => frU V V9 ∧ ∃ j, k = nI j ∧ n9 = n_ft s.1 - j ∧ j ≤ n_ft s.1) ?_ (n_ft s.1) 1000 (by omega) _ V ⟨frU.r V, 0, rfl, rfl, by omega⟩
  rintro n9 kr hkr k V9 ⟨f9, j, rfl, rfl, j1⟩
  have h9 := vK_fU h f9
  unfold bd_X11_waysAgreeWithCuts_2
  simp (disch := omega) only [h9.N.2.1, i_leE]
  by_cases hj : n_ft s.1 ≤ j
  · rw [if_pos hj, nb1, rGt]
    exact TT.ret ⟨_, rfl, f9, rfl⟩
  · rw [if_neg hj, i_add1]
    refine lr_X11_waysAgreeWithCuts_20 (I := fun n9 k V8 => frU V V8 ∧ ∃ l, k = nI l ∧ n9 = n_ft s.1 - l ∧ l ≤ n_ft s.1 ∧ j < l) ?_ (n_ft s.1 - (j + 1)) 1000 (by omega) _ V9 ⟨f9, j + 1, rfl, rfl, by omega, by omega⟩
    rintro n8 kr2 hkr2 k V8 ⟨f8, l, rfl, rfl, l1, l2⟩
    have h8 := vK_fU h f8
    unfold bd_X11_waysAgreeWithCuts_20
    simp (disch := omega) only [h8.N.2.1, i_leE]
    by_cases hl : n_ft s.1 ≤ l
    · rw [if_pos hl]
      exact hkr (n_ft s.1 - (j + 1)) (by omega) _ _ ⟨f8, j + 1, rfl, rfl, by omega⟩
    · rw [if_neg hl]
      refine TT.I (s_disjoint h8.N h8.wn (s := j) (t := l) (by omega) (by omega)) ?_
      rintro x W ⟨f1, k1, rfl, hk1⟩
      have h10 := vK_fU h8 (frU67 f1)
      refine TT.I (s_fewest h10.N h10.wn (s := j) (t := l) (by omega) (by omega)) ?_
      rintro x W2 ⟨rfl, k2, rfl, hk2⟩
      rw [isCut_eq hk1 hk2, if_pos rfl, i_add1]
      exact hkr2 (n_ft s.1 - (l + 1)) (by omega) _ _ ⟨f8.t (frU67 f1), l + 1, rfl, rfl, by omega, by omega⟩
theorem t_cons (h : vK w V s) : TI (d_X11_isConsistent V) (fun x W => frU V W ∧ x = nI 1) := by
  rw [TI.T]
  unfold d_X11_isConsistent
  refine TT.I (t_trees h) ?_
  rintro x V1 ⟨f1, rfl⟩
  have h1 := vK_fU h f1
  simp only [rBe]
  rw [if_neg (by decide)]
  refine TT.I (t_cuts h1) ?_
  rintro x V2 ⟨f2, rfl⟩
  have h2 := vK_fU h1 f2
  rw [if_neg (by decide)]
  refine TT.I (s_walk h2.N h2.wn) ?_
  rintro x V3 ⟨f3, rfl⟩
  have h3 := vK_fU h2 f3.u
  refine TT.I (s_byGroups h3.N h3.wn) ?_
  rintro x V4 ⟨rfl, rfl⟩
  rw [if_neg (fun q => q rfl), q_totals h3, rIe, if_neg (by decide), nb1, rGt]
  exact TT.ret ⟨_, rfl, (f1.t f2).t f3.u, rfl⟩
theorem nc_b : ∀ c, c < 128 → am_nc (nI c) = true := by decide +kernel
theorem i2c_b : ∀ c, c < 128 → am_i2c (nI c) = nI c := by decide +kernel
theorem frU_put {V : am_V} {j : Nat} {x y : Int32} : frU V (am_set (am_set V 17 j x) 1 10 y) :=
  ⟨fun c hc => by rw [am_set_ne _ _ _ (by omega), am_set_ne _ _ _ (by omega)], fun k hk => by rw [sg_n hk, sg_d (by decide)]⟩
theorem s_put {c l : Nat} (hc : c < 128) (hl : l < 12) (h : V 1 10 = nI l) : TU (d_X11_put (nI c) V) (fun W => frU V W ∧ W 1 10 = nI (l + 1)) := by
  unfold d_X11_put
  simp only [rBe]
  rw [h, if_neg (by rw [i_leE (by omega) (by omega)]; omega), rGi _ hl (by omega), nc_b c hc, rGt]
  simp (disch := omega) only [rVe, iNn, sg_d, h, i_add1]
  exact TU.ret ⟨frU_put, sg_e⟩
def wfN (C : cT) (f : Nat) : Nat := 4 + tot C + (if covB C f = true then 1 else 0)
theorem t_wf (h : vK w V s) {f : Nat} (hf : f < n_ft s.1) : TI (d_X11_writeField (nI f) V) (fun x W => frU V W ∧ x = nI (wfN s.2.1 f)) := by
  have w1 := h.wn.1
  have t7 := wC_tot h.c
  have s1 := h.wn.2.2.2.1 f hf
  rw [TI.T]
  unfold d_X11_writeField
  rw [k_reqF h hf, rUe, rVe, nI_add, i2c_b _ (show 48 + f < 128 by omega)]
  have f1 : frU V (am_set V 1 10 (nI 0)) := ⟨fun c hc => am_set_ne _ _ _ (by omega), fun k hk => sg_n hk⟩
  refine TT.U (s_put (l := 0) (show 48 + f < 128 by omega) (by omega) sg_e) ?_
  rintro V3 ⟨f3, e3⟩
  refine TT.U (s_put (by omega) (by omega) e3) ?_
  rintro V4 ⟨f4, e4⟩
  have h4 := vK_fU h ((f1.t f3).t f4)
  rw [rGi _ (show f < 9 by omega) (by omega), iNn (by omega), h4.N.2.2.2.1 f (by omega), nI_add, i2c_b _ (show 48 + n_sh s.1 f < 128 by omega)]
  refine TT.U (s_put (show 48 + n_sh s.1 f < 128 by omega) (by omega) e4) ?_
  rintro V5 ⟨f5, e5⟩
  refine TT.U (s_put (by omega) (by omega) e5) ?_
  rintro V6 ⟨f6, e6⟩
  have f06 := (((f1.t f3).t f4).t f5).t f6
  refine lr_X11_writeField_53 (I := fun n9 k V9 => frU V V9 ∧ ∃ j, k = nI j ∧ n9 = tot s.2.1 - j ∧ j ≤ tot s.2.1 ∧ V9 1 10 = nI (4 + j)) ?_ (tot s.2.1) 1000 (by omega) _ V6 ⟨f06, 0, rfl, rfl, by omega, e6⟩
  rintro n9 kr hkr k V9 ⟨f9, j, rfl, rfl, j1, e9⟩
  have h9 := vK_fU h f9
  unfold bd_X11_writeField_53
  rw [q_total h9.C, rIe]
  by_cases hj : tot s.2.1 ≤ j
  · rw [if_pos (by rw [i_leE (by omega) (by omega)]; exact hj)]
    have e : j = tot s.2.1 := by omega
    subst e
    dsimp only
    rw [q_covers h9.C (show f < 9 by omega) (st_lt h9) (wC_da h9.c), rIe, rBe]
    unfold wfN
    cases e : covB s.2.1 f with
    | false =>
      rw [if_pos (by decide)]
      dsimp only
      rw [e9]
      exact TT.ret ⟨_, rfl, f9, rfl⟩
    | true =>
      rw [if_neg (by decide)]
      refine TT.U (s_put (by omega) (by omega) e9) ?_
      rintro W ⟨f10, e10⟩
      dsimp only
      rw [e10]
      exact TT.ret ⟨_, rfl, f9.t f10, rfl⟩
  · rw [if_neg (by rw [i_leE (by omega) (by omega)]; exact hj), rGi _ (show f < 9 by omega) (by omega), iNn (by omega), h9.C.2.2.2.2.2.2.2 f (by omega), q_hasBit V9 (by have := hd_lt h9 hf; omega) (by omega), rIe, rBe]
    have st : ∀ c, c < 128 → TT (rU (d_X11_put (nI c) V9) fun V11 => kr (nI j + nI 1) V11) (fun r W => ∃ x, r = .inl (some (.int x)) ∧ frU V W ∧ x = nI (wfN s.2.1 f)) := by
      intro c hc
      refine TT.U (s_put hc (by omega) e9) ?_
      rintro W ⟨f10, e10⟩
      rw [i_add1]
      exact hkr (tot s.2.1 - (j + 1)) (by omega) _ _ ⟨f9.t f10, j + 1, rfl, rfl, by omega, by rw [e10, Nat.add_assoc]⟩
    cases (c_hd s.2.1 f).testBit j with
    | false => rw [if_pos (by decide)]; exact st 46 (by omega)
    | true => rw [if_neg (by decide)]; exact st 35 (by omega)
end
