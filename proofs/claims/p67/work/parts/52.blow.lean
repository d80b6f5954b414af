/-! ===== one wind ===== -/
def msk (C : cT) (a f : Nat) : Nat := c_hd C a &&& (c_hd C f ^^^ 4294967295)
def hold (f k : Nat) (S : cT × aT) : cT × aT := ((S.1.1, fun y => if y = f then c_hd S.1 f ||| 2 ^ k else c_hd S.1 y), S.2)
def snd1 (N : nT) (T : tT) (f k : Nat) (S : cT × aT) : cT × aT := if okB N T f S.1 = true then hold f k (arrF N T f S) else arrF N T f S
def sndF (N : nT) (T : tT) (f ms : Nat) (S : cT × aT) : Nat → (cT × aT) × Nat
  | 0 => (S, 0)
  | k + 1 => if ms.testBit k = true then (snd1 N T f k (sndF N T f ms S k).1, if okB N T f (sndF N T f ms S k).1.1 = true then (sndF N T f ms S k).2 + 1 else (sndF N T f ms S k).2) else sndF N T f ms S k
/-- S' came of S by at most q packets sent and k rebuilt -/
def rl (N : nT) (q k : Nat) (S S' : cT × aT) : Prop :=
  (c_st S'.1 = c_st S.1 ∧ c_ru S'.1 = c_ru S.1 ∧ c_og S'.1 = c_og S.1 ∧ c_da S'.1 = c_da S.1 ∧ c_pa S'.1 = c_pa S.1 ∧ c_bl S'.1 = c_bl S.1 ∧ a_fi S'.2 = a_fi S.2 ∧ a_fa S'.2 = a_fa S.2) ∧ (c_sd S.1 < 512 → c_sd S'.1 < 512) ∧
  ((∀ g, g < n_ft N → c_hd S.1 g < 2 ^ tot S.1) → (∀ g, g < n_ft N → c_hd S'.1 g < 2 ^ tot S.1) ∧ ∀ g j, g < n_ft N → (c_hd S.1 g).testBit j = true → (c_hd S'.1 g).testBit j = true) ∧
  a_se S.2 ≤ a_se S'.2 ∧ a_se S'.2 ≤ a_se S.2 + q ∧ a_lo S'.2 + a_se S.2 ≤ a_lo S.2 + a_se S'.2 ∧ a_re S'.2 ≤ a_re S.2 + k ∧ a_sp S'.2 ≤ a_sp S.2 + 9 * q ∧
  sumN (a_us S'.2) (n_pt N) + a_se S.2 = sumN (a_us S.2) (n_pt N) + a_se S'.2 ∧ sumN (fun p => a_us S'.2 p * n_co N p) (n_pt N) + a_sp S.2 = sumN (fun p => a_us S.2 p * n_co N p) (n_pt N) + a_sp S'.2
section
variable {N : nT} {q k q2 k2 : Nat} {S S' S'' : cT × aT}
theorem rl_tot (h : rl N q k S S') : tot S'.1 = tot S.1 := by
  unfold tot
  rw [h.1.2.2.2.2.1, h.1.2.2.2.1]
theorem rl_r : rl N 0 0 S S := ⟨⟨rfl, rfl, rfl, rfl, rfl, rfl, rfl, rfl⟩, id, fun h => ⟨h, fun _ _ _ h => h⟩, Nat.le_refl _, Nat.le_refl _, Nat.le_refl _, Nat.le_refl _, Nat.le_refl _, rfl, rfl⟩
theorem rl_t (h : rl N q k S S') (h2 : rl N q2 k2 S' S'') : rl N (q + q2) (k + k2) S S'' := by
  have ht := rl_tot h
  obtain ⟨⟨a1, a2, a3, a4, a5, a6, a7, a8⟩, b, c, d1, d2, d3, d4, d5, d6, d7⟩ := h
  obtain ⟨⟨e1, e2, e3, e4, e5, e6, e7, e8⟩, f, g, i1, i2, i3, i4, i5, i6, i7⟩ := h2
  refine ⟨⟨e1.trans a1, e2.trans a2, e3.trans a3, e4.trans a4, e5.trans a5, e6.trans a6, e7.trans a7, e8.trans a8⟩, fun x => f (b x), fun x => ?_, by omega, by omega, by omega, by omega, by omega, by omega, by omega⟩
  obtain ⟨c1, c2⟩ := c x
  obtain ⟨g1, g2⟩ := g (by rw [ht]; exact c1)
  rw [ht] at g1
  exact ⟨g1, fun z j hz hb => g2 z j hz (c2 z j hz hb)⟩
theorem rl_m (h : rl N q k S S') (hq : q ≤ q2) (hk : k ≤ k2) : rl N q2 k2 S S' := by
  obtain ⟨a, b, c, d1, d2, d3, d4, d5, d6, d7⟩ := h
  exact ⟨a, b, c, d1, by omega, d3, by omega, by omega, d6, d7⟩
theorem rl_arr {T : tT} {f : Nat} (hw : wN N) (hp : t_pu T f < n_pt N) : rl N 1 0 S (arrF N T f S) := by
  have hc := (hw.2.2.2.2.1 _ hp).2.2.2.2.1
  have u1 := sumN_upd (f := a_us S.2) (g := fun y => if y = t_pu T f then a_us S.2 (t_pu T f) + 1 else a_us S.2 y) (n_pt N) _ hp (fun i _ hi => if_neg hi)
  have u2 := sumN_upd (f := fun p => a_us S.2 p * n_co N p) (g := fun p => (if p = t_pu T f then a_us S.2 (t_pu T f) + 1 else a_us S.2 p) * n_co N p) (n_pt N) _ hp (fun i _ hi => by show (if i = t_pu T f then _ else _) * _ = _; rw [if_neg hi])
  simp only [if_true, Nat.succ_mul] at u1 u2
  refine ⟨⟨rfl, rfl, rfl, rfl, rfl, rfl, rfl, rfl⟩, fun _ => Nat.mod_lt _ (by omega), fun h => ⟨h, fun _ _ _ h => h⟩, ?_, ?_, ?_, ?_, ?_, ?_, ?_⟩
  · show a_se S.2 ≤ a_se S.2 + 1; omega
  · show a_se S.2 + 1 ≤ a_se S.2 + 1; omega
  · show (if okB N T f S.1 = true then a_lo S.2 else a_lo S.2 + 1) + a_se S.2 ≤ a_lo S.2 + (a_se S.2 + 1)
    split <;> omega
  · exact Nat.le_refl _
  · show a_sp S.2 + n_co N (t_pu T f) ≤ _; omega
  · show sumN (fun y => if y = t_pu T f then a_us S.2 (t_pu T f) + 1 else a_us S.2 y) (n_pt N) + a_se S.2 = sumN (a_us S.2) (n_pt N) + (a_se S.2 + 1)
    omega
  · show sumN (fun p => (if p = t_pu T f then a_us S.2 (t_pu T f) + 1 else a_us S.2 p) * n_co N p) (n_pt N) + a_sp S.2 = sumN (fun p => a_us S.2 p * n_co N p) (n_pt N) + (a_sp S.2 + n_co N (t_pu T f))
    omega
theorem rl_hold {f j : Nat} (hj : j < tot S.1) : rl N 0 0 S (hold f j S) := by
  refine ⟨⟨rfl, rfl, rfl, rfl, rfl, rfl, rfl, rfl⟩, id, fun h => ⟨fun g hg => ?_, fun g z hg hb => ?_⟩, Nat.le_refl _, Nat.le_refl _, Nat.le_refl _, Nat.le_refl _, Nat.le_refl _, rfl, rfl⟩
  · show (if g = f then c_hd S.1 f ||| 2 ^ j else c_hd S.1 g) < _
    by_cases e : g = f
    · rw [if_pos e]
      exact Nat.or_lt_two_pow (by rw [← e]; exact h g hg) (Nat.pow_lt_pow_right (by omega) hj)
    · rw [if_neg e]; exact h g hg
  · show (if g = f then c_hd S.1 f ||| 2 ^ j else c_hd S.1 g).testBit z = true
    by_cases e : g = f
    · rw [if_pos e, tb_or1, ← e, hb]; rfl
    · rw [if_neg e]; exact hb
theorem rl_snd1 {T : tT} {f j : Nat} (hw : wN N) (hp : t_pu T f < n_pt N) (hj : j < tot S.1) : rl N 1 0 S (snd1 N T f j S) := by
  have h := rl_arr (S := S) hw hp
  unfold snd1
  split
  · exact rl_t h (rl_hold (by rw [rl_tot h]; exact hj))
  · exact h
theorem rl_snd {T : tT} {f ms : Nat} (hw : wN N) (hp : t_pu T f < n_pt N) (hj : ∀ j, ms.testBit j = true → j < tot S.1) : ∀ j, rl N j 0 S (sndF N T f ms S j).1 ∧ (sndF N T f ms S j).2 ≤ j := by
  intro j
  induction j with
  | zero => exact ⟨rl_r, Nat.le_refl _⟩
  | succ j ih =>
    obtain ⟨i1, i2⟩ := ih
    unfold sndF
    by_cases h : ms.testBit j = true
    · rw [if_pos h]
      refine ⟨rl_t i1 (rl_snd1 hw hp (by rw [rl_tot i1]; exact hj j h)), ?_⟩
      by_cases h2 : okB N T f (sndF N T f ms S j).1.1 = true
      · simp only [if_pos h2]; omega
      · simp only [if_neg h2]; omega
    · rw [if_neg h]
      exact ⟨rl_m i1 (by omega) (by omega), by omega⟩
theorem msk_t {C : cT} {a f j : Nat} (hj : j < 32) : (msk C a f).testBit j = ((c_hd C a).testBit j && !(c_hd C f).testBit j) := by
  unfold msk
  rw [Nat.testBit_and, tb_not hj]
theorem msk_lt {C : cT} {a f t j : Nat} (h : c_hd C a < 2 ^ t) (hb : (msk C a f).testBit j = true) : j < t := by
  refine bit_lt h ?_
  unfold msk at hb
  rw [Nat.testBit_and, Bool.and_eq_true] at hb
  exact hb.1
end
theorem rBe {α : Type} {k : α} {f : α → am_R} : rB k f = f k := id rfl
theorem rIe {x : Int32} {V : am_V} {f : Int32 → am_V → am_R} : rI (some (.inl (some (.int x)), V)) f = f x V := id rfl
section
variable {V : am_V} {i : Nat} {N : nT} {S : cT × aT} {T : tT}
theorem frS_lt {W : am_V} (h : frS i V W) {c : Nat} (hc : c < 100) : W c = V c := h c (by have := sS_ge i; omega)
set_option maxHeartbeats 4000000 in
theorem s_sendDown {f : Nat} (hS : vS V i (N, S)) (hw : wN N) (hT1 : rowN V 31 9 (t_pa T)) (hT2 : rowN V 32 9 (t_pu T)) (hf : f < n_ft N) (ha : t_pa T f < n_ft N) (hp : t_pu T f < n_pt N) (hs : c_sd S.1 < 512) (ht : tot S.1 ≤ 7) (hh : ∀ g, g < n_ft N → c_hd S.1 g < 2 ^ tot S.1) :
    TI (d_X10_sendDown i (nI f) V) (fun x W => x = nI (sndF N T f (msk S.1 (t_pa T f) f) S 7).2 ∧ frS i V W ∧ vS W i (N, (sndF N T f (msk S.1 (t_pa T f) f) S 7).1)) := by
  have w1 := hw.1
  have w2 := hw.2.1
  have p2 := pow_le7 ht
  have ha2 := hh _ ha
  have hf2 := hh _ hf
  have hmb : ∀ j, (msk S.1 (t_pa T f) f).testBit j = true → j < tot S.1 := fun j hj => msk_lt ha2 hj
  have hm : msk S.1 (t_pa T f) f < 2147483648 := by
    have : msk S.1 (t_pa T f) f ≤ c_hd S.1 (t_pa T f) := Nat.and_le_left
    omega
  rw [TI.T]
  unfold d_X10_sendDown
  simp (disch := omega) only [hT1 f (show f < 9 by omega), rGi, iNn]
  refine lr_X10_sendDown_33 (I := fun n9 a k V9 => ∃ j, a = nI (sndF N T f (msk S.1 (t_pa T f) f) S j).2 ∧ k = nI j ∧ n9 = 7 - j ∧ j ≤ 7 ∧ frS i V V9 ∧ vS V9 i (N, (sndF N T f (msk S.1 (t_pa T f) f) S j).1)) ?_ 7 1000 (by omega) _ _ V ⟨0, rfl, rfl, rfl, by omega, frS.r i V, hS⟩
  rintro n9 kr hkr a k V9 ⟨j, rfl, rfl, rfl, j1, h1, h2⟩
  obtain ⟨r1, r2⟩ := rl_snd (S := S) (T := T) (f := f) hw hp hmb j
  unfold bd_X10_sendDown_33
  simp (disch := omega) only [i_leE]
  by_cases hj : 7 ≤ j
  · rw [if_pos hj]
    have e : j = 7 := by omega
    subst e
    exact TT.ret ⟨_, rfl, rfl, h1, h2⟩
  · rw [if_neg hj]
    simp (disch := omega) only [hT1 f (show f < 9 by omega), iNn, hS.2.1.2.2.2.2.2.2.2 f (show f < 9 by omega), hS.2.1.2.2.2.2.2.2.2 (t_pa T f) (show t_pa T f < 9 by omega), nI_not, i_and]
    rw [show c_hd S.1 (t_pa T f) &&& (c_hd S.1 f ^^^ 4294967295) = msk S.1 (t_pa T f) f from rfl, q_hasBit V9 hm (by omega)]
    simp only [rIe, rBe, bI0, i_add1]
    have es : sndF N T f (msk S.1 (t_pa T f) f) S (j + 1) = if (msk S.1 (t_pa T f) f).testBit j = true then (snd1 N T f j (sndF N T f (msk S.1 (t_pa T f) f) S j).1, if okB N T f (sndF N T f (msk S.1 (t_pa T f) f) S j).1.1 = true then (sndF N T f (msk S.1 (t_pa T f) f) S j).2 + 1 else (sndF N T f (msk S.1 (t_pa T f) f) S j).2) else sndF N T f (msk S.1 (t_pa T f) f) S j := rfl
    cases hb : (msk S.1 (t_pa T f) f).testBit j with
    | false =>
      rw [if_pos rfl]
      refine hkr (7 - (j + 1)) (by omega) _ _ _ ⟨j + 1, ?_, rfl, rfl, by omega, h1, ?_⟩
      · rw [es, hb, if_neg (by decide)]
      · rw [es, hb, if_neg (by decide)]; exact h2
    | true =>
      rw [if_neg (by decide)]
      rw [hb, if_pos rfl] at es
      obtain ⟨n9, c9, a9⟩ := h2
      refine TT.I (s_arrives n9 hw c9 a9 (T := T) (f := f) ?_ hf hp (r1.2.1 hs)) ?_
      · intro x hx
        rw [frS_lt h1 (by omega)]
        exact hT2 x hx
      rintro x W ⟨rfl, f1, n1, c1, a1⟩
      have ho : okB N T f (sndF N T f (msk S.1 (t_pa T f) f) S j).1.1 = okB N T f (sndF N T f (msk S.1 (t_pa T f) f) S j).1.1 := rfl
      cases hok : okB N T f (sndF N T f (msk S.1 (t_pa T f) f) S j).1.1 with
      | false =>
        rw [if_pos (by rfl)]
        refine hkr (7 - (j + 1)) (by omega) _ _ _ ⟨j + 1, ?_, rfl, rfl, by omega, h1.t f1, ?_⟩
        · rw [es, hok, if_neg (by decide)]
        · rw [es]
          show vS W i (N, snd1 N T f j _)
          unfold snd1
          rw [hok, if_neg (by decide)]
          exact ⟨n1, c1, a1⟩
      | true =>
        rw [if_neg (by decide)]
        have c10 := c1.2.2.2.2.2.2.2 f (by omega)
        rw [show c_hd (arrF N T f (sndF N T f (msk S.1 (t_pa T f) f) S j).1).1 f = c_hd (sndF N T f (msk S.1 (t_pa T f) f) S j).1.1 f from rfl] at c10
        simp (disch := omega) only [rGi, iNn, rVe, c10, i_shl1, i_or]
        refine hkr (7 - (j + 1)) (by omega) _ _ _ ⟨j + 1, ?_, rfl, rfl, by omega, (h1.t f1).t (frS.s (by omega)), ?_⟩
        · rw [es, hok, if_pos rfl]
        · rw [es]
          show vS _ i (N, snd1 N T f j _)
          unfold snd1
          rw [hok, if_pos rfl]
          exact ⟨vN_s n1 (by omega), vC_hd c1, vA_s a1 (by omega)⟩
end
