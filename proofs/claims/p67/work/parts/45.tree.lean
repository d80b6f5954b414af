/-! ===== spread trees: floats that are no NaN ===== -/
theorem f_n32 {x : UInt32} (h : FP.Core.fIsNaN x = false) : am_n32 x = true := by
  unfold am_n32
  refine decide_eq_true ?_
  rw [UInt32.le_iff_toNat_le, UInt32.toNat_and]
  rw [show (0x7fffffff : UInt32).toNat = 2 ^ 31 - 1 from rfl, Nat.and_two_pow_sub_one_eq_mod]
  have h2 : ¬ (FP.Core.fIsNaN x = true) := by rw [h]; decide
  rw [FP.Core.isNaN_bits32] at h2
  show x.toNat % 2 ^ 31 ≤ 2139095040
  omega
/-- the share of the packets that pass at the danger 10 - k -/
def facF (k : Nat) : UInt32 := FP.fdiv (FP.i2f (nI k)) 1092616192
theorem fac_b : ∀ k, k < 11 → k = 0 ∨ (0 < (facF k).toNat % 2 ^ 31 ∧ (facF k).toNat % 2 ^ 31 < 2139095040) := by decide +kernel
theorem fac_n {k : Nat} (h1 : 1 ≤ k) (h2 : k ≤ 10) : am_n32 (facF k) = true := by
  refine f_n32 ?_
  have h3 : ¬ (FP.Core.fIsNaN (facF k) = true) := by
    rw [FP.Core.isNaN_bits32]
    have := fac_b k (by omega)
    omega
  cases h : FP.Core.fIsNaN (facF k) with
  | false => rfl
  | true => exact (h3 h).elim
theorem fac_mul {a : UInt32} {k : Nat} (ha : FP.Core.fIsNaN a = false) (h1 : 1 ≤ k) (h2 : k ≤ 10) : FP.Core.fIsNaN (FP.fmul a (facF k)) = false := by
  have h3 := fac_b k (by omega)
  refine FP.Core.fmul_out' ha ?_ ?_
  · rw [FP.Core.fin_bits32]; omega
  · rw [FP.Core.zero_bits232]; omega
theorem f_c0 : FP.Core.fIsNaN FP.fconst0 = false := by decide
theorem f_c1 : FP.Core.fIsNaN FP.fconst1 = false := by decide
theorem i_eqM {a : Nat} (ha : a < 4294967296) : (nI a = -1) = (a = 4294967295) := by
  rw [m1_nI]
  exact i_eqW ha (by omega)
/-! ===== a tree as numbers: parents, paths up, depths, chances; 4294967295 for none ===== -/
abbrev tT : Type := (Nat → Nat) × (Nat → Nat) × (Nat → Nat) × (Nat → UInt32)
def t_pa (T : tT) : Nat → Nat := T.1
def t_pu (T : tT) : Nat → Nat := T.2.1
def t_de (T : tT) : Nat → Nat := T.2.2.1
def t_ch (T : tT) : Nat → UInt32 := T.2.2.2
def vT (V : am_V) (t : Nat) (T : tT) : Prop := rowN V (t + 1) 9 (t_pa T) ∧ rowN V (t + 2) 9 (t_pu T) ∧ rowN V (t + 3) 9 (t_de T) ∧ ∀ v, v < 9 → V (t + 4) v = (t_ch T v).toInt32
def frT (t : Nat) (V W : am_V) : Prop := ∀ c, ¬ (t < c ∧ c < t + 6) → W c = V c
theorem frT.r (t : Nat) (V : am_V) : frT t V V := fun _ _ => rfl
theorem frT.t {t : Nat} {V W X : am_V} (h : frT t V W) (k : frT t W X) : frT t V X := fun c hc => (k c hc).trans (h c hc)
theorem frT.s {t : Nat} {V : am_V} {c k : Nat} {x : Int32} (h : t < c ∧ c < t + 6) : frT t V (am_set V c k x) := fun d hd => am_set_ne _ _ _ (by omega)
theorem vN_fT {t : Nat} {V W : am_V} {i : Nat} {N : nT} (ht : t = 20 ∨ t = 30) (h : vN V i N) (e : frT t V W) : vN W i N := vN_cg h fun d hd _ => e d (by have := sS_ge i; omega)
def inT (T : tT) (v : Nat) : Bool := decide (t_de T v ≠ 4294967295)
theorem inT_f {T : tT} {v : Nat} : inT T v = false ↔ t_de T v = 4294967295 := by simp [inT]
theorem inT_t {T : tT} {v : Nat} : inT T v = true ↔ t_de T v ≠ 4294967295 := by simp [inT]
def outB (N : nT) (T : tT) (q : Nat) : Bool := n_op N q && (inT T (n_fs N q) != inT T (n_sn N q))
/-- the first path out of the tree, among the first j -/
def fo (N : nT) (T : tT) : Nat → Nat
  | 0 => 4294967295
  | j + 1 => if outB N T j = true ∧ (fo N T j = 4294967295 ∨ n_co N j < n_co N (fo N T j)) then j else fo N T j
theorem fo_spec {N : nT} {T : tT} : ∀ j, j < 17 → (fo N T j = 4294967295 ∧ ∀ q, q < j → outB N T q = false) ∨ (fo N T j < j ∧ outB N T (fo N T j) = true ∧ ∀ q, q < j → outB N T q = true → ¬ bef (n_co N) q (fo N T j)) := by
  intro j
  induction j with
  | zero => exact fun _ => Or.inl ⟨rfl, fun q hq => by omega⟩
  | succ j ih =>
    intro hj
    have ih := ih (by omega)
    unfold fo
    by_cases h : outB N T j = true ∧ (fo N T j = 4294967295 ∨ n_co N j < n_co N (fo N T j))
    · rw [if_pos h]
      refine Or.inr ⟨by omega, h.1, fun q hq hb => ?_⟩
      unfold bef
      by_cases e : q = j
      · rw [e]; omega
      · rcases ih with ⟨i1, i2⟩ | ⟨i1, i2, i3⟩
        · rw [i2 q (by omega)] at hb; cases hb
        · have := i3 q (by omega) hb
          unfold bef at this
          have := h.2
          omega
    · rw [if_neg h]
      rcases ih with ⟨i1, i2⟩ | ⟨i1, i2, i3⟩
      · refine Or.inl ⟨i1, fun q hq => ?_⟩
        by_cases e : q = j
        · rw [e]
          cases hb : outB N T j with
          | false => rfl
          | true => exact (h ⟨hb, Or.inl i1⟩).elim
        · exact i2 q (by omega)
      · refine Or.inr ⟨by omega, i2, fun q hq hb => ?_⟩
        by_cases e : q = j
        · rw [e] at hb ⊢
          have : ¬ n_co N j < n_co N (fo N T j) := fun k => h ⟨hb, Or.inr k⟩
          unfold bef
          omega
        · exact i3 q (by omega) hb
theorem TI.eq {m : am_R} {a : Int32} {V : am_V} (h : TI m (fun x W => W = V ∧ x = a)) : m = some (.inl (some (.int a)), V) := by
  obtain ⟨x, W, e, rfl, rfl⟩ := h
  exact e
section
variable {V : am_V} {i t : Nat} {N : nT} {T : tT}
set_option maxHeartbeats 2000000 in
theorem q_firstOut (hN : vN V i N) (hw : wN N) (hT : rowN V (t + 3) 9 (t_de T)) (hd : ∀ v, v < 9 → t_de T v < 4294967296) : d_X7_firstPathOut t i V = some (.inl (some (.int (nI (fo N T (n_pt N))))), V) := by
  have w1 := hw.1
  have w2 := hw.2.1
  refine TI.eq ?_
  rw [TI.T]
  unfold d_X7_firstPathOut
  refine lr_X7_firstPathOut_4 (I := fun n9 a k V9 => V9 = V ∧ ∃ j, a = nI (fo N T j) ∧ k = nI j ∧ n9 = n_pt N - j ∧ j ≤ n_pt N) ?_ (n_pt N) 1000 (by omega) _ _ V ⟨rfl, 0, by rw [show fo N T 0 = 4294967295 from rfl]; exact m1_nI, rfl, rfl, Nat.zero_le _⟩
  rintro n9 kr hkr a k V9 ⟨rfl, j, rfl, rfl, rfl, j1⟩
  unfold bd_X7_firstPathOut_4
  simp (disch := omega) only [hN.2.2.1, i_leE]
  by_cases hj : n_pt N ≤ j
  · rw [if_pos hj]
    have e : j = n_pt N := by omega
    subst e
    exact TT.ret ⟨_, rfl, rfl, rfl⟩
  · rw [if_neg hj]
    have hjm : j < n_pt N := by omega
    obtain ⟨b1, b2, b3, b4, b5, b6⟩ := hw.2.2.2.2.1 j hjm
    have st : ∀ v, v = fo N T (j + 1) → TT (kr (nI v) (nI (j + 1)) V9) (fun r W => ∃ x, r = .inl (some (.int x)) ∧ W = V9 ∧ x = nI (fo N T (n_pt N))) := by
      rintro v rfl
      exact hkr (n_pt N - (j + 1)) (by omega) _ _ _ ⟨rfl, j + 1, rfl, rfl, rfl, by omega⟩
    have fs := fo_spec (N := N) (T := T) j (by omega)
    have e1 : (nI (t_de T (n_fs N j)) = -1) = (inT T (n_fs N j) = false) := by rw [i_eqM (hd _ (by omega)), inT_f]
    have e2 : (nI (t_de T (n_sn N j)) = -1) = (inT T (n_sn N j) = false) := by rw [i_eqM (hd _ (by omega)), inT_f]
    simp (config := {maxSteps := 2000000}) (disch := omega) only [rGi, iNn, hN.2.2.2.2.1, hN.2.2.2.2.2.1, hN.2.2.2.2.2.2.1, rB, hT _ (show n_fs N j < 9 by omega), hT _ (show n_sn N j < 9 by omega), e1, e2, q_isOpen hN hw (show j < 32 by omega), rI_ret, i_add1, bI0]
    have es : fo N T (j + 1) = if outB N T j = true ∧ (fo N T j = 4294967295 ∨ n_co N j < n_co N (fo N T j)) then j else fo N T j := rfl
    unfold outB at es
    have fin : ∀ x : Int32, (x = nI 0 ∧ (n_op N j && (inT T (n_fs N j) != inT T (n_sn N j))) = false) ∨ (x = nI 1 ∧ (n_op N j && (inT T (n_fs N j) != inT T (n_sn N j))) = n_op N j) → TT (if n_op N j = false then kr (nI (fo N T j)) (nI (j + 1)) V9 else if x = 0 then kr (nI (fo N T j)) (nI (j + 1)) V9 else if nI (fo N T j) = -1 then kr (nI j) (nI (j + 1)) V9 else rG (am_in (nI (fo N T j)) 16) (if V9 (sS i + 7) (iN (nI (fo N T j))) ≤ nI (n_co N j) then kr (nI (fo N T j)) (nI (j + 1)) V9 else kr (nI j) (nI (j + 1)) V9)) (fun r W => ∃ x, r = .inl (some (.int x)) ∧ W = V9 ∧ x = nI (fo N T (n_pt N))) := by
      intro x hx
      cases ho : n_op N j with
      | false =>
        rw [if_pos rfl]
        exact st _ (by rw [es, ho]; simp)
      | true =>
        rw [if_neg (by decide)]
        rcases hx with ⟨rfl, hx⟩ | ⟨rfl, hx⟩
        · rw [if_pos (show nI 0 = 0 from rfl)]
          exact st _ (by rw [es, hx]; simp)
        · rw [ho] at hx es
          rw [if_neg (by decide)]
          rcases fs with ⟨f1, f2⟩ | ⟨f1, f2, f3⟩
          · rw [f1, if_pos m1_nI.symm]
            exact st _ (by rw [es, hx, f1]; simp)
          · obtain ⟨c1, c2, c3, c4, c5, c6⟩ := hw.2.2.2.2.1 (fo N T j) (by omega)
            rw [if_neg (by rw [i_eqM (by omega)]; omega)]
            simp (disch := omega) only [rGi, iNn, hN.2.2.2.2.2.2.1, i_leE]
            by_cases h : n_co N (fo N T j) ≤ n_co N j
            · rw [if_pos h]
              exact st _ (by rw [es, if_neg (by omega)])
            · rw [if_neg h]
              exact st _ (by rw [es, hx, if_pos ⟨rfl, Or.inr (by omega)⟩])
    cases h1 : inT T (n_fs N j) <;> cases h2 : inT T (n_sn N j) <;> simp only [not_true_eq_false, if_false, if_true, Bool.true_eq_false, not_false_eq_true, show ¬ (nI 0 = nI 1) by decide, show ¬ (nI 1 = nI 0) by decide]
    · exact fin _ (Or.inl ⟨rfl, by rw [h1, h2]; simp⟩)
    · exact fin _ (Or.inr ⟨rfl, by rw [h1, h2]; simp⟩)
    · exact fin _ (Or.inr ⟨rfl, by rw [h1, h2]; simp⟩)
    · exact fin _ (Or.inl ⟨rfl, by rw [h1, h2]; simp⟩)
end
