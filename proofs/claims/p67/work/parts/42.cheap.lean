/-! ===== cheapest ways ===== -/
theorem mnE {a b : Nat} (ha : a < 2147483648) (hb : b < 2147483648) : am_mn (nI a) (nI b) = nI (min a b) := i_min ha hb
theorem mxE {a b : Nat} (ha : a < 2147483648) (hb : b < 2147483648) : am_mx (nI a) (nI b) = nI (max a b) := i_max ha hb
/-- a row of numbers: c holds f at the first k places -/
def rowN (V : am_V) (c k : Nat) (f : Nat → Nat) : Prop := ∀ x, x < k → V c x = nI (f x)
theorem rowN_set {V : am_V} {c k j v : Nat} {f : Nat → Nat} (h : rowN V c k f) : rowN (am_set V c j (nI v)) c k (fun x => if x = j then v else f x) := by
  intro x hx
  show am_set V c j (nI v) c x = nI (if x = j then v else f x)
  rw [am_set_get]
  by_cases e : x = j
  · rw [if_pos ⟨rfl, e⟩, if_pos e]
  · rw [if_neg (fun q => e q.2), if_neg e]
    exact h x hx
theorem rowN_ne {V : am_V} {c d k j : Nat} {v : Int32} {f : Nat → Nat} (h : rowN V c k f) (hd : c ≠ d) : rowN (am_set V d j v) c k f := by
  intro x hx
  rw [am_set_ne _ _ _ hd]
  exact h x hx
theorem vN_set {V : am_V} {i c j : Nat} {x : Int32} {N : nT} (h : vN V i N) (hc : c < 100) : vN (am_set V c j x) i N := vN_cg h fun d hd _ => am_set_ne _ _ _ (by have := sS_ge i; omega)
section
variable {fs sn co : Nat → Nat} {E E' : Nat → Bool} {n a : Nat} {c c' : Nat → Nat}
theorem lowered_0 : lowered fs sn co (fun _ => false) n a c c := ⟨rfl, fun _ _ => Nat.le_refl _, fun _ _ => Or.inl rfl, fun _ h => (by cases h)⟩
theorem lowered_cg (h : lowered fs sn co E n a c c') (e : ∀ p, E p = E' p) : lowered fs sn co E' n a c c' := by
  rw [← show E = E' from funext e]
  exact h
theorem lowered_skip {p : Nat} (h : lowered fs sn co E n a c c') (hp : ∀ q, E' q = true → E q = true ∨ q = p) (hp2 : ∀ q, E q = true → E' q = true) (h1 : fs p ≠ a) (h2 : sn p ≠ a) : lowered fs sn co E' n a c c' := by
  obtain ⟨l1, l2, l3, l4⟩ := h
  refine ⟨l1, l2, fun x hx => (l3 x hx).imp id fun ⟨q, q1, q2⟩ => ⟨q, hp2 q q1, q2⟩, fun q hq => ?_⟩
  rcases hp q hq with q1 | rfl
  · exact l4 q q1
  · exact ⟨fun e => (h1 e).elim, fun e => (h2 e).elim⟩
theorem lowered_add {p y : Nat} (h : lowered fs sn co E n a c c') (hp : ∀ q, E' q = true ↔ E q = true ∨ q = p) (hy : (fs p = a ∧ sn p = y) ∨ (sn p = a ∧ fs p = y)) (hya : y ≠ a) : lowered fs sn co E' n a c (fun x => if x = y then min (c' y) (c a + co p) else c' x) := by
  obtain ⟨l1, l2, l3, l4⟩ := h
  have hle : ∀ x, (if x = y then min (c' y) (c a + co p) else c' x) ≤ c' x := fun x => by
    by_cases e : x = y
    · simp only [if_pos e]; rw [e]; exact Nat.min_le_left _ _
    · simp only [if_neg e]; exact Nat.le_refl _
  refine ⟨by simp only [if_neg (Ne.symm hya)]; exact l1, fun x hx => Nat.le_trans (hle x) (l2 x hx), fun x hx => ?_, fun q hq => ?_⟩
  · by_cases e : x = y
    · simp only [if_pos e]
      by_cases e2 : c' y ≤ c a + co p
      · rw [Nat.min_eq_left e2, ← e]
        exact (l3 x hx).imp id fun ⟨q, q1, q2⟩ => ⟨q, (hp q).mpr (Or.inl q1), q2⟩
      · rw [Nat.min_eq_right (by omega)]
        refine Or.inr ⟨p, (hp p).mpr (Or.inr rfl), ?_, rfl⟩
        rw [e]; exact hy
    · simp only [if_neg e]
      exact (l3 x hx).imp id fun ⟨q, q1, q2⟩ => ⟨q, (hp q).mpr (Or.inl q1), q2⟩
  · rcases (hp q).mp hq with q1 | rfl
    · exact ⟨fun e => Nat.le_trans (hle _) ((l4 q q1).1 e), fun e => Nat.le_trans (hle _) ((l4 q q1).2 e)⟩
    · rcases hy with ⟨y1, y2⟩ | ⟨y1, y2⟩
      · refine ⟨fun _ => ?_, fun e => (hya (by rw [← y2, e])).elim⟩
        simp only [if_pos y2]; exact Nat.min_le_right _ _
      · refine ⟨fun e => (hya (by rw [← y2, e])).elim, fun _ => ?_⟩
        simp only [if_pos y2]; exact Nat.min_le_right _ _
end
/-- those of E below j -/
def upto (E : Nat → Bool) (j : Nat) : Nat → Bool := fun p => E p && decide (p < j)
theorem upto_t {E : Nat → Bool} {j p : Nat} : upto E j p = true ↔ E p = true ∧ p < j := by simp [upto]
theorem upto_f {E : Nat → Bool} {j : Nat} (h : E j = false) : ∀ p, upto E j p = upto E (j + 1) p := fun p => by
  unfold upto
  by_cases e : p = j
  · rw [e, h]; rfl
  · have : p < j ↔ p < j + 1 := by omega
    simp [this]
theorem upto_s {E : Nat → Bool} {j q : Nat} (h : E j = true) : upto E (j + 1) q = true ↔ upto E j q = true ∨ q = j := by
  rw [upto_t, upto_t]
  constructor
  · rintro ⟨h1, h2⟩
    by_cases e : q = j
    · exact Or.inr e
    · exact Or.inl ⟨h1, by omega⟩
  · rintro (⟨h1, h2⟩ | rfl)
    · exact ⟨h1, by omega⟩
    · exact ⟨h, by omega⟩
theorem upto_all {E : Nat → Bool} {m : Nat} (h : ∀ p, E p = true → p < m) : ∀ p, upto E m p = E p := fun p => by
  unfold upto
  cases e : E p with
  | false => rfl
  | true => simp [h p e]
section
variable {V : am_V} {i : Nat} {N : nT}
theorem s_startCosts {f : Nat} (hf : f < 2147483648) : TU (d_X9_startCosts (nI f) V) (fun W => (∀ c, c ≠ 5 → W c = V c) ∧ rowN W 5 9 (fun x => if x = f then 0 else 1000)) := by
  rw [TU.T]
  unfold d_X9_startCosts
  refine lr_X9_startCosts_2 (I := fun n9 k V9 => ∃ j, k = nI j ∧ n9 = 9 - j ∧ j ≤ 9 ∧ (∀ c, c ≠ 5 → V9 c = V c) ∧ rowN V9 5 j (fun x => if x = f then 0 else 1000)) ?_ 9 1000 (by omega) _ V ⟨0, rfl, rfl, by omega, fun _ _ => rfl, fun x hx => by omega⟩
  rintro n9 kr hkr k V9 ⟨j, rfl, rfl, j1, h1, h2⟩
  unfold bd_X9_startCosts_2
  simp (disch := omega) only [i_leE, rB, i_eqE, i_add1, rGi, iNn]
  by_cases hj : 9 ≤ j
  · rw [if_pos hj]
    have e : j = 9 := by omega
    subst e
    exact TT.ret ⟨rfl, h1, h2⟩
  · rw [if_neg hj]
    have st : ∀ v, v = (if j = f then 0 else 1000) → TT (rV (am_set V9 5 j (nI v)) (fun V1 => kr (nI (j + 1)) V1)) (fun r W => r = .inl none ∧ (∀ c, c ≠ 5 → W c = V c) ∧ rowN W 5 9 (fun x => if x = f then 0 else 1000)) := by
      rintro v rfl
      refine hkr (9 - (j + 1)) (by omega) _ _ ⟨j + 1, rfl, rfl, by omega, fun c hc => (am_set_ne _ _ _ hc).trans (h1 c hc), fun x hx => ?_⟩
      rw [am_set_get]
      by_cases e : x = j
      · rw [if_pos ⟨rfl, e⟩, e]
      · rw [if_neg (fun q => e q.2)]
        exact h2 x (by omega)
    by_cases e : j = f
    · rw [if_neg (fun q => q e)]
      exact st 0 (by rw [if_pos e])
    · rw [if_pos e]
      exact st 1000 (by rw [if_neg e])
set_option maxHeartbeats 1000000 in
theorem s_lowerAround (hN : vN V i N) (hw : wN N) {a : Nat} (ha : a < n_ft N) {c : Nat → Nat} (hc : rowN V 5 9 c) (hc2 : ∀ x, x < 9 → c x ≤ 1000) :
    TU (d_X9_lowerAround i (nI a) V) (fun W => (∀ d, d ≠ 5 → W d = V d) ∧ ∃ c', rowN W 5 9 c' ∧ (∀ x, x < 9 → c' x ≤ 1000) ∧ lowered (n_fs N) (n_sn N) (n_co N) (n_op N) (n_ft N) a c c') := by
  have w1 := hw.1
  have w2 := hw.2.1
  have ca := hc2 a (by omega)
  rw [TU.T]
  unfold d_X9_lowerAround
  refine lr_X9_lowerAround_2 (I := fun n9 k V9 => ∃ j c', k = nI j ∧ n9 = n_pt N - j ∧ j ≤ n_pt N ∧ (∀ d, d ≠ 5 → V9 d = V d) ∧ rowN V9 5 9 c' ∧ (∀ x, x < 9 → c' x ≤ 1000) ∧ lowered (n_fs N) (n_sn N) (n_co N) (upto (n_op N) j) (n_ft N) a c c') ?_ (n_pt N) 1000 (by omega) _ V ⟨0, c, rfl, rfl, Nat.zero_le _, fun _ _ => rfl, hc, hc2, lowered_cg lowered_0 fun p => by simp [upto]⟩
  rintro n9 kr hkr k V9 ⟨j, c', rfl, rfl, j1, h1, h2, h3, h4⟩
  have hN9 : vN V9 i N := vN_cg hN fun d hd _ => h1 d (by have := sS_ge i; omega)
  unfold bd_X9_lowerAround_2
  simp (disch := omega) only [hN9.2.2.1, i_leE]
  by_cases hj : n_pt N ≤ j
  · rw [if_pos hj]
    have e : j = n_pt N := by omega
    subst e
    exact TT.ret ⟨rfl, h1, c', h2, h3, lowered_cg h4 (upto_all fun p hp => n_op_lt hp)⟩
  · rw [if_neg hj]
    have hjm : j < n_pt N := by omega
    obtain ⟨b1, b2, b3, b4, b5, b6⟩ := hw.2.2.2.2.1 j hjm
    rw [q_isOpen hN9 hw (by omega)]
    simp (disch := omega) only [rI_ret, rB, bI0, i_add1]
    cases e2 : n_op N j with
    | false =>
      rw [if_pos rfl]
      simp only [if_true]
      exact hkr (n_pt N - (j + 1)) (by omega) _ _ ⟨j + 1, c', rfl, rfl, by omega, h1, h2, h3, lowered_cg h4 (upto_f e2)⟩
    | true =>
      rw [if_neg (by decide), q_farEnd hN9 hw (by omega) (by omega)]
      simp only [rI_ret, if_pos hjm]
      have go : ∀ y, ((n_fs N j = a ∧ n_sn N j = y) ∨ (n_sn N j = a ∧ n_fs N j = y)) → y < n_ft N → y ≠ a → TT (if nI y = -1 then kr (nI (j + 1)) V9 else rG (am_in (nI y) 9) (rG (am_in (nI a) 9) (rG (am_in (nI j) 16) (rG (am_in (nI y) 9) (rV (am_set V9 5 (iN (nI y)) (am_mn (V9 5 (iN (nI y))) ((V9 5 (iN (nI a))) + (V9 (sS i + 7) (iN (nI j)))))) (fun V5 => kr (nI (j + 1)) V5)))))) (fun r W => r = .inl none ∧ (∀ d, d ≠ 5 → W d = V d) ∧ ∃ c', rowN W 5 9 c' ∧ (∀ x, x < 9 → c' x ≤ 1000) ∧ lowered (n_fs N) (n_sn N) (n_co N) (n_op N) (n_ft N) a c c') := by
        intro y hy hyn hya
        have y1 := h3 y (by omega)
        have ca' : c' a = c a := h4.1
        simp (disch := omega) only [i_n1, if_false, rGi, iNn, h2 y (by omega), h2 a (by omega), hN9.2.2.2.2.2.2.1, nI_add, mnE]
        rw [ca']
        refine hkr (n_pt N - (j + 1)) (by omega) _ _ ⟨j + 1, _, rfl, rfl, by omega, fun d hd => (am_set_ne _ _ _ hd).trans (h1 d hd), rowN_set h2, fun x hx => ?_, lowered_add h4 (fun q => upto_s e2) hy hya⟩
        by_cases e : x = y
        · simp only [if_pos e]
          exact Nat.le_trans (Nat.min_le_left _ _) y1
        · simp only [if_neg e]
          exact h3 x hx
      by_cases e3 : n_fs N j = a
      · rw [if_pos e3]
        exact go _ (Or.inl ⟨e3, rfl⟩) b2 (fun q => b3 (e3.trans q.symm))
      · rw [if_neg e3]
        by_cases e4 : n_sn N j = a
        · rw [if_pos e4]
          exact go _ (Or.inr ⟨e4, rfl⟩) b1 e3
        · rw [if_neg e4, if_pos rfl]
          exact hkr (n_pt N - (j + 1)) (by omega) _ _ ⟨j + 1, c', rfl, rfl, by omega, h1, h2, h3, lowered_skip h4 (fun q hq => (upto_s e2).mp hq) (fun q hq => (upto_s e2).mpr (Or.inl hq)) e3 e4⟩
theorem s_nearest (hN : vN V i N) (hw : wN N) {r : Nat} (hr : r < 512) {c : Nat → Nat} (hc : rowN V 5 9 c) (hc2 : ∀ x, x < 9 → c x ≤ 1000) :
    TI (d_X9_nearestOutside i (nI r) V) (fun x W => W = V ∧ ((x = -1 ∧ ∀ y, y < n_ft N → r.testBit y = false → c y = 1000) ∨ ∃ a, x = nI a ∧ a < n_ft N ∧ r.testBit a = false ∧ c a < 1000 ∧ ∀ y, y < n_ft N → r.testBit y = false → c a ≤ c y)) := by
  have w1 := hw.1
  rw [TI.T]
  unfold d_X9_nearestOutside
  refine lr_X9_nearestOutside_10 (I := fun n9 a l k V9 => V9 = V ∧ ∃ j l', k = nI j ∧ l = nI l' ∧ l' ≤ 1000 ∧ n9 = n_ft N - j ∧ j ≤ n_ft N ∧ (∀ y, y < j → r.testBit y = false → l' ≤ c y) ∧ ((a = -1 ∧ l' = 1000) ∨ ∃ b, a = nI b ∧ b < j ∧ r.testBit b = false ∧ c b = l' ∧ l' < 1000)) ?_ (n_ft N) 1000 (by omega) _ _ _ V ⟨rfl, 0, 1000, rfl, rfl, by omega, rfl, by omega, fun y hy => by omega, Or.inl ⟨rfl, rfl⟩⟩
  rintro n9 kr hkr a l k V9 ⟨rfl, j, l', rfl, rfl, l1, rfl, j1, h1, h2⟩
  unfold bd_X9_nearestOutside_10
  simp (disch := omega) only [hN.2.1, i_leE]
  by_cases hj : n_ft N ≤ j
  · rw [if_pos hj]
    have e : j = n_ft N := by omega
    subst e
    refine TT.ret ⟨_, rfl, rfl, ?_⟩
    rcases h2 with ⟨e1, e2⟩ | ⟨b, e1, e2, e3, e4, e5⟩
    · refine Or.inl ⟨e1, fun y hy hb => ?_⟩
      have := h1 y hy hb
      have := hc2 y (by omega)
      omega
    · refine Or.inr ⟨b, e1, e2, e3, by omega, fun y hy hb => ?_⟩
      have := h1 y hy hb
      omega
  · rw [if_neg hj, q_hasBit V9 (by omega) (by omega)]
    have cj := hc2 j (by omega)
    simp (disch := omega) only [rI_ret, rB, bI0, i_add1, rGi, iNn, hc j (by omega), i_leE]
    cases hb : r.testBit j with
    | true =>
      rw [if_pos (by decide)]
      refine hkr (n_ft N - (j + 1)) (by omega) _ _ _ _ ⟨rfl, j + 1, l', rfl, rfl, l1, rfl, by omega, fun y hy hy2 => ?_, h2.imp id fun ⟨b, q1, q2, q3⟩ => ⟨b, q1, by omega, q3⟩⟩
      by_cases e : y = j
      · rw [e, hb] at hy2; cases hy2
      · exact h1 y (by omega) hy2
    | false =>
      rw [if_neg (by decide)]
      by_cases e : l' ≤ c j
      · rw [if_pos e]
        refine hkr (n_ft N - (j + 1)) (by omega) _ _ _ _ ⟨rfl, j + 1, l', rfl, rfl, l1, rfl, by omega, fun y hy hy2 => ?_, h2.imp id fun ⟨b, q1, q2, q3⟩ => ⟨b, q1, by omega, q3⟩⟩
        by_cases e2 : y = j
        · rw [e2]; exact e
        · exact h1 y (by omega) hy2
      · rw [if_neg e]
        refine hkr (n_ft N - (j + 1)) (by omega) _ _ _ _ ⟨rfl, j + 1, c j, rfl, rfl, cj, rfl, by omega, fun y hy hy2 => ?_, Or.inr ⟨j, rfl, by omega, hb, rfl, by omega⟩⟩
        by_cases e2 : y = j
        · rw [e2]; exact Nat.le_refl _
        · have := h1 y (by omega) hy2; omega
end
/-- the costs of the cheapest ways from u -/
def dstP (N : nT) (u : Nat) (D : Nat → Nat) : Prop := isD (n_fs N) (n_sn N) (n_co N) (n_op N) (n_ft N) u D ∧ tight (n_fs N) (n_sn N) (n_co N) (n_op N) (n_ft N) u D ∧ ∀ x, x < n_ft N → D x < 1000 → D x < 990
noncomputable def dst (N : nT) (u : Nat) : Nat → Nat := @Classical.epsilon (Nat → Nat) ⟨fun _ => 0⟩ (dstP N u)
theorem dst_of {N : nT} {u : Nat} {D : Nat → Nat} (h : dstP N u D) : dstP N u (dst N u) := @Classical.epsilon_spec (Nat → Nat) (dstP N u) ⟨D, h⟩
theorem dst_eq {N : nT} (hw : wN N) {u : Nat} (hu : u < n_ft N) {D : Nat → Nat} (h : dstP N u D) : ∀ x, x < n_ft N → D x = dst N u x :=
  isD_eq (fun p hp => ⟨(n_opE hw p hp).2.1, (n_opE hw p hp).2.2.1⟩) hu h.1 (dst_of h).1
theorem bfr_add {fs sn co : Nat → Nat} {E : Nat → Bool} {n u j : Nat} {D c c' : Nat → Nat} (h : bfr fs sn co E n u j D c c') (hu : u < n) (hD : isD fs sn co E n u D) (hE : E j = true) (h1 : fs j < n) (h2 : sn j < n) (hne : fs j ≠ sn j) :
    bfr fs sn co E n u (j + 1) D c (fun x => if x = fs j then min (c' (fs j)) (min (c' (sn j)) (c' (fs j) + co j) + co j) else if x = sn j then min (c' (sn j)) (c' (fs j) + co j) else c' x) := by
  obtain ⟨r1, r2, r3⟩ := h
  have hd := hD.1 j hE
  have ra := r2 _ h1
  have rb := r2 _ h2
  have hle : ∀ x, (if x = fs j then min (c' (fs j)) (min (c' (sn j)) (c' (fs j) + co j) + co j) else if x = sn j then min (c' (sn j)) (c' (fs j) + co j) else c' x) ≤ c' x := fun x => by
    by_cases e1 : x = fs j
    · simp only [if_pos e1]; rw [e1]; exact Nat.min_le_left _ _
    · by_cases e2 : x = sn j
      · simp only [if_neg e1, if_pos e2]; rw [e2]; exact Nat.min_le_left _ _
      · simp only [if_neg e1, if_neg e2]; exact Nat.le_refl _
  have hge : ∀ x, x < n → D x ≤ (if x = fs j then min (c' (fs j)) (min (c' (sn j)) (c' (fs j) + co j) + co j) else if x = sn j then min (c' (sn j)) (c' (fs j) + co j) else c' x) := fun x hx => by
    by_cases e1 : x = fs j
    · simp only [if_pos e1]; rw [e1]
      omega
    · by_cases e2 : x = sn j
      · simp only [if_neg e1, if_pos e2]; rw [e2]
        omega
      · simp only [if_neg e1, if_neg e2]; exact (r2 x hx).1
  refine ⟨?_, fun x hx => ⟨hge x hx, Nat.le_trans (hle x) (r2 x hx).2⟩, fun p hp hEp => ?_⟩
  · exact Nat.le_zero.mp (Nat.le_trans (hle u) (Nat.le_of_eq r1))
  · by_cases e : p = j
    · rw [e]
      constructor
      · simp only [if_neg (Ne.symm hne), if_true]; omega
      · simp only [if_true]; omega
    · have := r3 p (by omega) hEp
      exact ⟨Nat.le_trans (hle _) this.1, Nat.le_trans (hle _) this.2⟩
section
variable {V : am_V} {i : Nat} {N : nT}
set_option maxHeartbeats 1000000 in
theorem s_visiting (hN : vN V i N) (hw : wN N) {u t : Nat} (hu : u < n_ft N) (ht : t < n_ft N) :
    TI (d_X9_cheapestByVisiting i (nI u) (nI t) V) (fun x W => (∀ d, d ≠ 5 → W d = V d) ∧ x = nI (dst N u t) ∧ dstP N u (dst N u)) := by
  have w1 := hw.1
  have hE2 : ∀ p, n_op N p = true → n_fs N p < n_ft N ∧ n_sn N p < n_ft N := fun p hp => ⟨(n_opE hw p hp).2.1, (n_opE hw p hp).2.2.1⟩
  have hco : ∀ p, n_op N p = true → 1 ≤ n_co N p ∧ n_co N p ≤ 9 := fun p hp => by
    have := hw.2.2.2.2.1 p (n_op_lt hp); omega
  rw [TI.T]
  unfold d_X9_cheapestByVisiting
  refine TT.U (s_startCosts (f := u) (by omega)) ?_
  rintro V1 ⟨f1, c1⟩
  refine lr_X9_cheapestByVisiting_11 (I := fun n9 a k V9 => ∃ r j c, a = nI r ∧ k = nI j ∧ n9 = n_ft N - j ∧ j ≤ n_ft N ∧ r < 512 ∧ (∀ d, d ≠ 5 → V9 d = V d) ∧ rowN V9 5 9 c ∧ (∀ x, x < 9 → c x ≤ 1000) ∧ dij (n_fs N) (n_sn N) (n_co N) (n_op N) (n_ft N) u (fun v => r.testBit v) c j) ?_ (n_ft N) 1000 (by omega) _ _ V1 ⟨0, 0, _, rfl, rfl, rfl, by omega, by omega, f1, c1, fun x _ => by by_cases e : x = u <;> simp [e], ?_⟩
  · rintro n9 kr hkr a k V9 ⟨r, j, c, rfl, rfl, rfl, j1, r1, h1, h2, h3, h4⟩
    have hN9 : vN V9 i N := vN_cg hN fun d hd _ => h1 d (by have := sS_ge i; omega)
    unfold bd_X9_cheapestByVisiting_11
    simp (disch := omega) only [hN9.2.1, i_leE]
    by_cases hj : n_ft N ≤ j
    · rw [if_pos hj]
      have e : j = n_ft N := by omega
      subst e
      simp (disch := omega) only [rGi, iNn, h2 t (by omega)]
      have hP : dstP N u c := by
        have := dij_end hE2 h4 w1
        exact ⟨this.1, this.2.1, this.2.2⟩
      rw [dst_eq hw hu hP t ht]
      exact TT.ret ⟨_, rfl, h1, rfl, dst_of hP⟩
    · rw [if_neg hj]
      refine TT.I (s_nearest hN9 hw r1 h2 h3) ?_
      rintro x W ⟨rfl, ⟨rfl, q⟩ | ⟨b, rfl, q1, q2, q3, q4⟩⟩
      · simp only [rB, i_add1, if_true]
        exact hkr (n_ft N - (j + 1)) (by omega) _ _ _ ⟨r, j + 1, c, rfl, rfl, rfl, by omega, r1, h1, h2, h3, dij_stay h4 q⟩
      · simp (disch := omega) only [rB, i_add1, i_n1, if_false]
        refine TT.U (s_lowerAround hN9 hw q1 h2 h3) ?_
        rintro W2 ⟨g1, c', g2, g3, g4⟩
        rw [i_shl1 (by omega), i_or]
        have h5 := dij_step hE2 hco q1 h4 hu q2 q3 q4 g4
        refine hkr (n_ft N - (j + 1)) (by omega) _ _ _ ⟨r ||| 2 ^ b, j + 1, c', rfl, rfl, rfl, by omega, or512 r1 (by omega), fun d hd => (g1 d hd).trans (h1 d hd), g2, g3, ?_⟩
        rw [show (fun v => (r ||| 2 ^ b).testBit v) = (fun x => r.testBit x || decide (x = b)) from funext fun v => tb_or1]
        exact h5
  · rw [show (fun v => (0 : Nat).testBit v) = (fun _ => false) from funext fun v => Nat.zero_testBit v]
    exact dij_0 hu
set_option maxHeartbeats 1000000 in
theorem s_lowering (hN : vN V i N) (hw : wN N) {u t : Nat} (hu : u < n_ft N) (ht : t < n_ft N) (hP : dstP N u (dst N u)) :
    TI (d_X9_cheapestByLowering i (nI u) (nI t) V) (fun x W => (∀ d, d ≠ 5 → W d = V d) ∧ x = nI (dst N u t)) := by
  have w1 := hw.1
  have w2 := hw.2.1
  have hE2 : ∀ p, n_op N p = true → n_fs N p < n_ft N ∧ n_sn N p < n_ft N := fun p hp => ⟨(n_opE hw p hp).2.1, (n_opE hw p hp).2.2.1⟩
  have hco : ∀ p, n_op N p = true → 1 ≤ n_co N p := fun p hp => (hw.2.2.2.2.1 p (n_op_lt hp)).2.2.2.1
  rw [TI.T]
  unfold d_X9_cheapestByLowering
  refine TT.U (s_startCosts (f := u) (by omega)) ?_
  rintro V1 ⟨f1, c1⟩
  refine lr_X9_cheapestByLowering_8 (I := fun n9 k V9 => ∃ j c, k = nI j ∧ n9 = n_ft N - j ∧ 1 ≤ j ∧ j ≤ n_ft N ∧ (∀ d, d ≠ 5 → V9 d = V d) ∧ rowN V9 5 9 c ∧ (∀ x, x < 9 → c x ≤ 1000) ∧ bf (n_fs N) (n_sn N) (n_co N) (n_op N) (n_ft N) u (dst N u) c (j - 1)) ?_ (n_ft N - 1) 1000 (by omega) _ V1 ⟨1, _, rfl, rfl, by omega, by omega, f1, c1, fun x _ => by by_cases e : x = u <;> simp [e], bf_0 hu hP.1⟩
  rintro n9 kr hkr k V9 ⟨j, c, rfl, rfl, j1, j2, h1, h2, h3, h4⟩
  have hN9 : vN V9 i N := vN_cg hN fun d hd _ => h1 d (by have := sS_ge i; omega)
  unfold bd_X9_cheapestByLowering_8
  simp (disch := omega) only [hN9.2.1, i_leE]
  by_cases hj : n_ft N ≤ j
  · rw [if_pos hj]
    simp (disch := omega) only [rGi, iNn, h2 t (by omega)]
    rw [bf_end h4 (by omega) t ht]
    exact TT.ret ⟨_, rfl, h1, rfl⟩
  · rw [if_neg hj]
    refine lr_X9_cheapestByLowering_20 (I := fun n9 k V8 => ∃ q c', k = nI q ∧ n9 = n_pt N - q ∧ q ≤ n_pt N ∧ (∀ d, d ≠ 5 → V8 d = V d) ∧ rowN V8 5 9 c' ∧ (∀ x, x < 9 → c' x ≤ 1000) ∧ bfr (n_fs N) (n_sn N) (n_co N) (n_op N) (n_ft N) u q (dst N u) c c') ?_ (n_pt N) 1000 (by omega) _ V9 ⟨0, c, rfl, rfl, Nat.zero_le _, h1, h2, h3, h4.1, fun x hx => ⟨(h4.2.1 x hx).1, Nat.le_refl _⟩, fun p hp => by omega⟩
    rintro n8 kr2 hkr2 k V8 ⟨q, c', rfl, rfl, q1, g1, g2, g3, g4⟩
    have hN8 : vN V8 i N := vN_cg hN fun d hd _ => g1 d (by have := sS_ge i; omega)
    unfold bd_X9_cheapestByLowering_20
    simp (disch := omega) only [hN8.2.2.1, i_leE]
    by_cases hq : n_pt N ≤ q
    · rw [if_pos hq, i_add1]
      have e : q = n_pt N := by omega
      subst e
      have h5 := bf_step hE2 hco (fun p hp => n_op_lt hp) hP.1 hP.2.1 h4 g4
      rw [show j - 1 + 1 = j + 1 - 1 by omega] at h5
      exact hkr (n_ft N - (j + 1)) (by omega) _ _ ⟨j + 1, c', rfl, rfl, by omega, by omega, g1, g2, g3, h5⟩
    · rw [if_neg hq]
      have hqm : q < n_pt N := by omega
      obtain ⟨b1, b2, b3, b4, b5, b6⟩ := hw.2.2.2.2.1 q hqm
      rw [q_isOpen hN8 hw (by omega)]
      simp (disch := omega) only [rI_ret, rB, bI0, i_add1]
      cases e2 : n_op N q with
      | false =>
        rw [if_pos rfl]
        refine hkr2 (n_pt N - (q + 1)) (by omega) _ _ ⟨q + 1, c', rfl, rfl, by omega, g1, g2, g3, g4.1, g4.2.1, fun p hp hEp => ?_⟩
        refine g4.2.2 p (Nat.lt_of_le_of_ne (by omega) fun e => ?_) hEp
        rw [e, e2] at hEp; cases hEp
      | true =>
        rw [if_neg (by decide)]
        have y1 := g3 (n_fs N q) (by omega)
        have y2 := g3 (n_sn N q) (by omega)
        have ym : min (c' (n_sn N q)) (c' (n_fs N q) + n_co N q) ≤ 1000 := Nat.le_trans (Nat.min_le_left _ _) y2
        have k1 : rowN (am_set V8 5 (n_sn N q) (nI (min (c' (n_sn N q)) (c' (n_fs N q) + n_co N q)))) 5 9 _ := rowN_set g2
        have k2 := k1 (n_fs N q) (by omega)
        have k3 := k1 (n_sn N q) (by omega)
        simp only [if_neg b3] at k2
        simp only [if_true] at k3
        simp (disch := omega) only [rGi, iNn, hN8.2.2.2.2.1, hN8.2.2.2.2.2.1, hN8.2.2.2.2.2.2.1, g2 (n_fs N q) (by omega), g2 (n_sn N q) (by omega), nI_add, mnE, rV, am_set_ne _ _ _ (show sS i + 7 ≠ 5 by have := sS_ge i; omega), k2, k3]
        refine hkr2 (n_pt N - (q + 1)) (by omega) _ _ ⟨q + 1, _, rfl, rfl, by omega, fun d hd => (am_set_ne _ _ _ hd).trans ((am_set_ne _ _ _ hd).trans (g1 d hd)), rowN_set (rowN_set g2), fun x hx => ?_, ?_⟩
        · by_cases e1 : x = n_fs N q
          · simp only [if_pos e1]
            exact Nat.le_trans (Nat.min_le_left _ _) y1
          · by_cases e2 : x = n_sn N q
            · simp only [if_neg e1, if_pos e2]; exact ym
            · simp only [if_neg e1, if_neg e2]; exact g3 x hx
        · exact bfr_add g4 hu hP.1 e2 b1 b2 b3
end
