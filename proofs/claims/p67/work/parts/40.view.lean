/-! ===== views: what the table holds of a state, as numbers ===== -/
theorem nb0 : am_nb (nI 0) = true := by decide
theorem nb1 : am_nb (nI 1) = true := by decide
theorem nbB (b : Bool) : am_nb (bI b) = true := by cases b <;> decide
theorem rGt (m : am_R) : rG true m = m := if_pos rfl
theorem bIt : bI true = nI 1 := rfl
theorem bIf : bI false = nI 0 := rfl
theorem rGi {k n : Nat} (m : am_R) (h : k < n) (hn : n < 2147483648) : rG (am_in (nI k) n) m = m := by
  have e : am_in (nI k) n = true := by
    unfold am_in
    exact decide_eq_true (vp_in_nI h hn)
  rw [e, rGt]
theorem iNn {k : Nat} (h : k < 2147483648) : iN (nI k) = k := i_clamp h
theorem i_neg {a : Nat} (ha : a < 2147483648) : (nI a < 0) = False := eq_false (i_lt0 ha)
theorem i_leE {a b : Nat} (ha : a < 2147483648) (hb : b < 2147483648) : (nI a ≤ nI b) = (a ≤ b) := propext (i_le ha hb)
theorem i_ltE {a b : Nat} (ha : a < 2147483648) (hb : b < 2147483648) : (nI a < nI b) = (a < b) := propext (i_lt ha hb)
theorem i_eqE {a b : Nat} (ha : a < 2147483648) (hb : b < 2147483648) : (nI a = nI b) = (a = b) := propext (i_eq ha hb)
theorem i_eq0 {a : Nat} (ha : a < 2147483648) : (nI a = 0) = (a = 0) := i_eqE (b := 0) ha (by omega)
theorem i_le0 {a : Nat} (ha : a < 2147483648) : (nI a ≤ 0) = (a = 0) := by
  have := i_leE (b := 0) ha (by omega)
  rw [show (nI 0 : Int32) = 0 from rfl] at this
  rw [this]
  exact propext (by omega)
theorem i_n1 {a : Nat} (ha : a < 2147483648) : (nI a = -1) = False := eq_false fun h => by
  have := i_lt0 ha
  rw [h] at this
  exact this (by decide)
theorem bI0 (b : Bool) : (bI b = 0) = (b = false) := by cases b <;> decide
theorem bI1 (b : Bool) : (bI b = nI 1) = (b = true) := by cases b <;> decide
theorem i_add1 (a : Nat) : nI a + nI 1 = nI (a + 1) := nI_add a 1
abbrev nT : Type := (Nat × Nat × Nat) × (Nat → Nat) × (Nat → Nat) × (Nat → Nat) × (Nat → Nat) × (Nat → Nat)
def n_ft (N : nT) : Nat := N.1.1
def n_pt (N : nT) : Nat := N.1.2.1
def n_cl (N : nT) : Nat := N.1.2.2
def n_sh (N : nT) : Nat → Nat := N.2.1
def n_fs (N : nT) : Nat → Nat := N.2.2.1
def n_sn (N : nT) : Nat → Nat := N.2.2.2.1
def n_co (N : nT) : Nat → Nat := N.2.2.2.2.1
def n_gu (N : nT) : Nat → Nat := N.2.2.2.2.2
/-- the table holds N at the state i -/
def vN (V : am_V) (i : Nat) (N : nT) : Prop := V (sS i + 1) 5 = nI (n_cl N) ∧ V (sS i + 1) 6 = nI (n_ft N) ∧ V (sS i + 1) 7 = nI (n_pt N) ∧ (∀ j, j < 9 → V (sS i + 4) j = nI (n_sh N j)) ∧ (∀ j, j < 16 → V (sS i + 5) j = nI (n_fs N j)) ∧ (∀ j, j < 16 → V (sS i + 6) j = nI (n_sn N j)) ∧ (∀ j, j < 16 → V (sS i + 7) j = nI (n_co N j)) ∧ ∀ j, j < 16 → V (sS i + 8) j = nI (n_gu N j)
/-- small everywhere; its paths lead between its fields, no two between the same -/
def wN (N : nT) : Prop := n_ft N ≤ 9 ∧ n_pt N ≤ 16 ∧ n_cl N < 65536 ∧ (∀ j, j < n_ft N → n_sh N j < 10) ∧ (∀ j, j < n_pt N → n_fs N j < n_ft N ∧ n_sn N j < n_ft N ∧ n_fs N j ≠ n_sn N j ∧ 1 ≤ n_co N j ∧ n_co N j < 10 ∧ n_gu N j < 10) ∧
  ∀ p q, p < n_pt N → q < n_pt N → p ≠ q → ¬ ((n_fs N p = n_fs N q ∧ n_sn N p = n_sn N q) ∨ (n_fs N p = n_sn N q ∧ n_sn N p = n_fs N q))
def n_op (N : nT) (p : Nat) : Bool := decide (p < n_pt N) && !(n_cl N).testBit p
theorem n_op_lt {N : nT} {p : Nat} (h : n_op N p = true) : p < n_pt N := by
  unfold n_op at h
  simp only [Bool.and_eq_true, decide_eq_true_eq] at h
  exact h.1
theorem n_opE {N : nT} (hw : wN N) : ∀ p, n_op N p = true → p < n_pt N ∧ n_fs N p < n_ft N ∧ n_sn N p < n_ft N ∧ n_fs N p ≠ n_sn N p := fun p hp =>
  ⟨n_op_lt hp, (hw.2.2.2.2.1 p (n_op_lt hp)).1, (hw.2.2.2.2.1 p (n_op_lt hp)).2.1, (hw.2.2.2.2.1 p (n_op_lt hp)).2.2.1⟩
/-- the two tables differ in the rows of the ways and the trees at most -/
def frQ (V W : am_V) : Prop := ∀ c, (c < 4 ∨ (10 < c ∧ c < 20) ∨ 40 ≤ c) → W c = V c
theorem frQ.r (V : am_V) : frQ V V := fun _ _ => rfl
theorem frQ.t {V W X : am_V} (h : frQ V W) (k : frQ W X) : frQ V X := fun c hc => (k c hc).trans (h c hc)
theorem vN_cg {V W : am_V} {i : Nat} {N : nT} (h : vN V i N) (e : ∀ c, sS i ≤ c → c < sS i + 16 → W c = V c) : vN W i N := by
  unfold vN at *
  rw [e (sS i + 1) (by omega) (by omega), e (sS i + 4) (by omega) (by omega), e (sS i + 5) (by omega) (by omega), e (sS i + 6) (by omega) (by omega), e (sS i + 7) (by omega) (by omega), e (sS i + 8) (by omega) (by omega)]
  exact h
theorem sS_ge (i : Nat) : 100 ≤ sS i := by unfold sS; omega
theorem vN_fr {V W : am_V} {i : Nat} {N : nT} (h : vN V i N) (e : frQ V W) : vN W i N := vN_cg h fun c hc _ => e c (Or.inr (Or.inr (by have := sS_ge i; omega)))
section
variable {V : am_V} {i : Nat} {N : nT}
theorem q_hasBit {a k : Nat} (V : am_V) (ha : a < 2147483648) (hk : k < 32) : d_X11_hasBit (nI a) (nI k) V = some (.inl (some (.int (bI (a.testBit k)))), V) := by
  unfold d_X11_hasBit
  simp only [rB]
  rw [i_bit ha hk]
  cases a.testBit k
  · rw [if_pos (by decide), nb0, rGt]; rfl
  · rw [if_neg (by decide), nb1, rGt]; rfl
theorem q_hasPath (hN : vN V i N) (hw : wN N) {p : Nat} (hp : p < 2147483648) : d_X6_hasPath i (nI p) V = some (.inl (some (.int (bI (decide (p < n_pt N))))), V) := by
  have w2 := hw.2.1
  unfold d_X6_hasPath
  simp (disch := omega) only [rB, hN.2.2.1, i_neg, if_false, i_leE]
  by_cases h : n_pt N ≤ p
  · have h2 : ¬ p < n_pt N := by omega
    simp only [if_pos h, decide_eq_false h2, nb0, rGt, bIf]
  · have h2 : p < n_pt N := by omega
    simp only [if_neg h, decide_eq_true h2, nb1, rGt, bIt]
theorem q_hasPathN : d_X6_hasPath i (-1) V = some (.inl (some (.int (bI false))), V) := by
  unfold d_X6_hasPath
  simp only [rB]
  rw [if_pos (by decide), nb0, rGt]
  rfl
theorem q_hasField (hN : vN V i N) (hw : wN N) {p : Nat} (hp : p < 2147483648) : d_X6_hasField i (nI p) V = some (.inl (some (.int (bI (decide (p < n_ft N))))), V) := by
  have w2 := hw.1
  unfold d_X6_hasField
  simp (disch := omega) only [rB, hN.2.1, i_neg, if_false, i_leE]
  by_cases h : n_ft N ≤ p
  · have h2 : ¬ p < n_ft N := by omega
    simp only [if_pos h, decide_eq_false h2, nb0, rGt, bIf]
  · have h2 : p < n_ft N := by omega
    simp only [if_neg h, decide_eq_true h2, nb1, rGt, bIt]
theorem q_isOpen (hN : vN V i N) (hw : wN N) {p : Nat} (hp : p < 32) : d_X6_isOpen i (nI p) V = some (.inl (some (.int (bI (n_op N p)))), V) := by
  have w2 := hw.2.1
  have w3 := hw.2.2.1
  unfold d_X6_isOpen n_op
  simp (disch := omega) only [rB, hN.2.2.1, hN.1, i_neg, if_false, i_leE, i_bitb, bI0]
  by_cases h : n_pt N ≤ p
  · have h2 : ¬ p < n_pt N := by omega
    simp only [if_pos h, decide_eq_false h2, nb0, rGt, bIf, Bool.false_and]
  · have h2 : p < n_pt N := by omega
    simp only [if_neg h, decide_eq_true h2, Bool.true_and]
    cases (n_cl N).testBit p
    · rw [if_neg (by simp), nb1, rGt]; rfl
    · rw [if_pos (by simp), nb0, rGt]; rfl
theorem q_farEnd (hN : vN V i N) (hw : wN N) {p f : Nat} (hp : p < 2147483648) (hf : f < 2147483648) : d_X6_farEnd i (nI p) (nI f) V = some (.inl (some (.int (if p < n_pt N then (if n_fs N p = f then nI (n_sn N p) else if n_sn N p = f then nI (n_fs N p) else -1) else -1))), V) := by
  have w2 := hw.2.1
  have w1 := hw.1
  unfold d_X6_farEnd
  rw [q_hasPath hN hw hp]
  simp only [rI_ret, bI0]
  by_cases h : p < n_pt N
  · obtain ⟨a1, a2, a3, a4, a5, a6⟩ := hw.2.2.2.2.1 p h
    simp (disch := omega) only [h, decide_true, Bool.true_eq_false, not_false_eq_true, if_true, rGi, iNn, hN.2.2.2.2.1, hN.2.2.2.2.2.1, i_eqE, rB]
    by_cases e1 : n_fs N p = f
    · simp only [e1, not_true_eq_false, if_false, if_true]
    · by_cases e2 : n_sn N p = f
      · simp only [e1, e2, not_true_eq_false, not_false_eq_true, if_false, if_true]
      · simp only [e1, e2, not_false_eq_true, if_false, if_true]
  · simp only [h, decide_false, not_true_eq_false, if_false]
theorem q_farEndN {x : Int32} : d_X6_farEnd i (-1) x V = some (.inl (some (.int (-1))), V) := by
  unfold d_X6_farEnd
  rw [q_hasPathN]
  simp only [rI_ret]
  rw [if_neg (by decide)]
theorem q_endsOf (hN : vN V i N) (hw : wN N) {p : Nat} (hp : p < n_pt N) : d_X6_endsOf i (nI p) V = some (.inl (some (.int (nI (2 ^ n_fs N p ||| 2 ^ n_sn N p)))), V) := by
  have w2 := hw.2.1
  have w1 := hw.1
  obtain ⟨a1, a2, a3, a4, a5, a6⟩ := hw.2.2.2.2.1 p hp
  unfold d_X6_endsOf
  simp (disch := omega) only [rGi, iNn, hN.2.2.2.2.1, hN.2.2.2.2.2.1, i_shl1, i_or]
theorem q_dangerOf (hN : vN V i N) (hw : wN N) {p f : Nat} (hp : p < n_pt N) (hf : f < n_ft N) : d_X6_dangerOf i (nI p) (nI f) V = some (.inl (some (.int (nI (n_gu N p - n_sh N f)))), V) := by
  have w2 := hw.2.1
  have w1 := hw.1
  obtain ⟨a1, a2, a3, a4, a5, a6⟩ := hw.2.2.2.2.1 p hp
  have a7 := hw.2.2.2.1 f hf
  unfold d_X6_dangerOf
  simp (disch := omega) only [rGi, iNn, hN.2.2.2.1, hN.2.2.2.2.2.2.2, i_leE, rB]
  by_cases h : n_gu N p ≤ n_sh N f
  · simp only [if_pos h]
    rw [show n_gu N p - n_sh N f = 0 by omega]
  · simp only [if_neg h]
    rw [i_sub (by omega)]
end
