/-! ===== bridges ===== -/
theorem sg_c (V : am_V) (c k : Nat) (x : Int32) (j : Nat) : am_set V c k x c j = if j = k then x else V c j := by
  rw [am_set_get]
  by_cases e : j = k <;> simp [e]
noncomputable def nP (P : Nat → Prop) (m : Nat) : Nat := cnt (fun p => @decide (P p) (Classical.propDecidable _)) m
theorem nP_cg {P Q : Nat → Prop} (m : Nat) (h : ∀ p, p < m → (P p ↔ Q p)) : nP P m = nP Q m := cnt_congr m fun p hp => by simp [h p hp]
theorem nP_add1 {P Q : Nat → Prop} (m x : Nat) (hx : x < m) (hp : ¬ P x) (hq : Q x) (h : ∀ p, p < m → p ≠ x → (Q p ↔ P p)) : nP Q m = nP P m + 1 :=
  cnt_add1 m x hx (by simp [hp]) (by simp [hq]) (fun p hp hne => by simp [h p hp hne])
theorem nP_split (P Q : Nat → Prop) (m : Nat) : nP P m = nP (fun p => P p ∧ Q p) m + nP (fun p => P p ∧ ¬ Q p) m := by
  have h := cnt_split (fun p => @decide (P p) (Classical.propDecidable _)) (fun p => @decide (Q p) (Classical.propDecidable _)) m
  unfold nP
  rw [h]
  congr 1
  · exact cnt_congr m fun p _ => by by_cases hP : P p <;> by_cases hQ : Q p <;> simp [hP, hQ]
  · exact cnt_congr m fun p _ => by by_cases hP : P p <;> by_cases hQ : Q p <;> simp [hP, hQ]
theorem nP_le (P : Nat → Prop) (m : Nat) : nP P m ≤ m := cnt_le_n _ _
theorem sumN_lt {f : Nat → Nat} {k : Nat} : ∀ n s, s < n → (∀ i, i < n → f i ≤ k + 1) → f s ≤ k → sumN f n + 1 ≤ (k + 1) * n
  | 0, s, hs, _, _ => by omega
  | n + 1, s, hs, h, h2 => by
    rw [sumN, Nat.mul_succ]
    by_cases e : s = n
    · subst e
      have : ∀ m, m ≤ s → sumN f m ≤ (k + 1) * m := by
        intro m
        induction m with
        | zero => intro _; exact Nat.zero_le _
        | succ m ih =>
          intro hm
          rw [sumN, Nat.mul_succ]
          have := ih (by omega)
          have := h m (by omega)
          omega
      have := this s (Nat.le_refl _)
      omega
    · have := sumN_lt n s (by omega) (fun i hi => h i (by omega)) h2
      have := h n (by omega)
      omega
/-- the rows of a walk: numbers of the entered ones; for those of this walk the rest -/
def dvw (V : am_V) (s : Nat) (e0 ent : Nat → Bool) (num ear arr nxt : Nat → Nat) (N : Nat) : Prop :=
  (∀ v, v < 9 → V 8 v = if ent v = true then nI (num v) else -1) ∧ (∀ v, v < 9 → run e0 ent v → V 9 v = nI (ear v) ∧ V 10 v = nI (nxt v) ∧ V 7 v = if v = s then -1 else nI (arr v)) ∧ V 4 6 = nI N
/-- those that a walk may write -/
def fr4 (V W : am_V) : Prop := ∀ c, c ≠ 4 → c ≠ 7 → c ≠ 8 → c ≠ 9 → c ≠ 10 → W c = V c
theorem fr4.t {V W X : am_V} (h : fr4 V W) (k : fr4 W X) : fr4 V X := fun c a b d e f => (k c a b d e f).trans (h c a b d e f)
theorem fr4.r (V : am_V) : fr4 V V := fun _ _ _ _ _ _ => rfl
theorem fr4.s {V : am_V} {c k : Nat} {x : Int32} (h : c = 4 ∨ c = 7 ∨ c = 8 ∨ c = 9 ∨ c = 10) : fr4 V (am_set V c k x) := fun d a b e f g => am_set_ne _ _ _ (by omega)
theorem vN_f4 {V W : am_V} {i : Nat} {N : nT} (h : vN V i N) (e : fr4 V W) : vN W i N := vN_cg h fun d hd _ => by have := sS_ge i; exact e d (by omega) (by omega) (by omega) (by omega) (by omega)
/-- how many steps the walk took -/
def prog (e0 ent A : Nat → Bool) (nxt : Nat → Nat) (z : Nat) : Nat := if (ent z && !e0 z) = true then nxt z + (if A z = true then 0 else 1) else 0
theorem prog_run {e0 ent A : Nat → Bool} {nxt : Nat → Nat} {z : Nat} (h : run e0 ent z) : prog e0 ent A nxt z = nxt z + (if A z = true then 0 else 1) := by
  unfold prog
  rw [if_pos (by simp [h.1, h.2])]
section
variable {V : am_V} {i : Nat} {N : nT}
theorem s_enter {y M : Nat} {p : Int32} (hy : y < 9) (h6 : V 4 6 = nI M) : TU (d_X9_enter (nI y) p V) (fun W => fr4 V W ∧ W 4 6 = nI (M + 1) ∧ W 8 = upd (V 8) y (nI M) ∧ W 9 = upd (V 9) y (nI M) ∧ W 7 = upd (V 7) y p ∧ W 10 = upd (V 10) y (nI 0)) := by
  unfold d_X9_enter
  simp (disch := omega) only [rGi, iNn, rV, h6, am_set_get, i_add1]
  refine TU.ret ⟨?_, ?_, ?_, ?_, ?_, ?_⟩
  · exact ((((fr4.s (by omega)).t (fr4.s (by omega))).t (fr4.s (by omega))).t (fr4.s (by omega))).t (fr4.s (by omega))
  · rw [am_set_get, if_pos ⟨rfl, rfl⟩]
    simp (disch := omega) only [if_neg, i_add1]
  · rw [am_set_ne _ _ _ (by omega), am_set_ne _ _ _ (by omega), am_set_ne _ _ _ (by omega), am_set_ne _ _ _ (by omega), am_set_at]
  · rw [am_set_ne _ _ _ (by omega), am_set_ne _ _ _ (by omega), am_set_ne _ _ _ (by omega), am_set_at]
    congr 1
  · rw [am_set_ne _ _ _ (by omega), am_set_ne _ _ _ (by omega), am_set_at]
    congr 1
  · rw [am_set_ne _ _ _ (by omega), am_set_at]
    congr 1
end
/-- in a walk from s, at x, k bridges found -/
def wk (N : nT) (s : Nat) (e0 ent A : Nat → Bool) (num ear arr nxt : Nat → Nat) (x M k : Nat) : Prop :=
  ∃ par lst, dfs (n_fs N) (n_sn N) (n_op N) (n_ft N) (n_pt N) s e0 ent A num ear arr par nxt x M ∧ dfsL (n_fs N) (n_sn N) (n_op N) e0 ent A num arr M lst ∧ M = cnt ent (n_ft N) ∧
    k = nP (fun p => isBr (n_fs N) (n_sn N) (n_op N) p ∧ ∃ z, run e0 ent z ∧ z ≠ s ∧ A z = false ∧ arr z = p) (n_pt N)
/-- a step of the walk: from x at this table to x' at that -/
def stp (N : nT) (s : Nat) (e0 : Nat → Bool) (V : am_V) (st k : Nat) (x' : Nat) (W : am_V) : Prop :=
  fr4 V W ∧ ∃ ent A num ear arr nxt M, dvw W s e0 ent num ear arr nxt M ∧ wk N s e0 ent A num ear arr nxt x' M k ∧ sumN (prog e0 ent A nxt) (n_ft N) = st + 1
theorem sum_step {f g : Nat → Nat} {n x : Nat} (hx : x < n) (h : ∀ z, z < n → z ≠ x → g z = f z) (h2 : g x = f x + 1) : sumN g n = sumN f n + 1 := by
  have := sumN_upd (f := f) (g := g) n x hx h
  omega
section
variable {V : am_V} {i : Nat} {N : nT}
set_option maxHeartbeats 2000000 in
theorem s_take (hN : vN V i N) (hw : wN N) {s : Nat} {e0 ent A : Nat → Bool} {num ear arr nxt : Nat → Nat} {x M k : Nat} (hv : dvw V s e0 ent num ear arr nxt M) (hk : wk N s e0 ent A num ear arr nxt x M k) (hx : nxt x < n_pt N) :
    TI (d_X9_takePath i (nI x) V) (fun y W => ∃ x', y = nI x' ∧ stp N s e0 V (sumN (prog e0 ent A nxt) (n_ft N)) k x' W) := by
  have w1 := hw.1
  have w2 := hw.2.1
  have hEn := n_opE hw
  obtain ⟨par, lst, hd, hL, hM, hkk⟩ := hk
  obtain ⟨v1, v2, v3⟩ := hv
  have hrx := hd.1.2.2.2 x hd.1.2.2.1
  have hxn := (hd.2.1.1 x hrx.1).1
  have hM9 : M ≤ 9 := by have := cnt_le_n ent (n_ft N); omega
  obtain ⟨x9, x10, x7⟩ := v2 x (by omega) hrx
  have hnum : ∀ z, ent z = true → num z < 9 := fun z hz => by have := (hd.2.1.1 z hz).2; omega
  have hear : ear x < 9 := by have := (hd.2.2.2.2.2.2.2 x hrx).1; have := hnum x hrx.1; omega
  have hpx : prog e0 ent A (fun z => if z = x then nxt x + 1 else nxt z) x = prog e0 ent A nxt x + 1 := by
    rw [prog_run hrx, prog_run hrx]; simp only [if_true]; omega
  have hpz : ∀ z, z < n_ft N → z ≠ x → prog e0 ent A (fun z => if z = x then nxt x + 1 else nxt z) z = prog e0 ent A nxt z := fun z _ hz => by
    unfold prog; simp only [if_neg hz]
  -- the next path leads nowhere
  have skip : (n_op N (nxt x) = true → (x = s ∨ nxt x ≠ arr x) → ∀ y, ¬ ends (n_fs N) (n_sn N) (nxt x) x y) → ∃ x', nI x = nI x' ∧ stp N s e0 V (sumN (prog e0 ent A nxt) (n_ft N)) k x' (am_set V 10 x (nI (nxt x + 1))) := by
    intro hn
    refine ⟨x, rfl, fr4.s (by omega), ent, A, num, ear, arr, _, M, ⟨fun v hv9 => ?_, fun v hv9 hr => ?_, ?_⟩, ⟨par, lst, dfs_skip hd hx hn, hL, hM, hkk⟩, sum_step hxn hpz hpx⟩
    · rw [am_set_ne _ _ _ (by omega)]; exact v1 v hv9
    · rw [am_set_ne _ _ _ (show (9 : Nat) ≠ 10 by omega), am_set_ne _ _ _ (show (7 : Nat) ≠ 10 by omega), sg_c]
      obtain ⟨q1, q2, q3⟩ := v2 v hv9 hr
      refine ⟨q1, ?_, q3⟩
      by_cases e : v = x
      · rw [if_pos e, if_pos e]
      · rw [if_neg e, if_neg e]; exact q2
    · rw [am_set_ne _ _ _ (by omega)]; exact v3
  -- it leads to y
  have go : ∀ y, n_op N (nxt x) = true → (x = s ∨ nxt x ≠ arr x) → ends (n_fs N) (n_sn N) (nxt x) x y → y < n_ft N →
      TI (if ¬ nI y = (-1) then rG (am_in (nI y) 9) ((if ¬ ((am_set V 10 x (nI (nxt x + 1))) 8 (iN (nI y))) = (-1) then rG (am_in (nI y) 9) (some (.inl (some (.int (nI x))), am_set (am_set V 10 x (nI (nxt x + 1))) 9 x (am_mn ((am_set V 10 x (nI (nxt x + 1))) 9 x) ((am_set V 10 x (nI (nxt x + 1))) 8 (iN (nI y)))))) else rU (d_X9_enter (nI y) (nI (nxt x)) (am_set V 10 x (nI (nxt x + 1)))) (fun V7 => some (.inl (some (.int (nI y))), V7)))) else some (.inl (some (.int (nI x))), am_set V 10 x (nI (nxt x + 1)))) (fun y W => ∃ x', y = nI x' ∧ stp N s e0 V (sumN (prog e0 ent A nxt) (n_ft N)) k x' W) := by
    intro y hop hal hey hyn
    have hne := (hEn _ hop).2.2.2
    have hyx : y ≠ x := fun e => by
      rw [e] at hey
      rcases hey with ⟨q1, q2⟩ | ⟨q1, q2⟩
      · exact hne (q1.trans q2.symm)
      · exact hne (q2.trans q1.symm)
    simp (disch := omega) only [i_n1, not_false_eq_true, if_true, rGi, iNn, am_set_ne _ _ _ (show (8 : Nat) ≠ 10 by omega), am_set_ne _ _ _ (show (9 : Nat) ≠ 10 by omega)]
    rw [v1 y (by omega), x9]
    cases hb : ent y with
    | true =>
      have := hnum y hb
      simp (disch := omega) only [if_true, i_n1, not_false_eq_true, mnE, rV]
      refine TI.ret ⟨x, rfl, (fr4.s (by omega)).t (fr4.s (by omega)), ent, A, num, _, arr, _, M, ⟨fun v hv9 => ?_, fun v hv9 hr => ?_, ?_⟩, ⟨par, lst, dfs_see hd hx hop hal hey hb hne, hL, hM, hkk⟩, sum_step hxn hpz hpx⟩
      · rw [am_set_ne _ _ _ (by omega), am_set_ne _ _ _ (by omega)]; exact v1 v hv9
      · rw [am_set_ne _ _ _ (show (10 : Nat) ≠ 9 by omega), am_set_ne _ _ _ (show (7 : Nat) ≠ 9 by omega), am_set_ne _ _ _ (show (7 : Nat) ≠ 10 by omega), sg_c, sg_c, am_set_ne _ _ _ (show (9 : Nat) ≠ 10 by omega)]
        obtain ⟨q1, q2, q3⟩ := v2 v hv9 hr
        refine ⟨?_, ?_, q3⟩
        · by_cases e : v = x
          · rw [if_pos e, if_pos e]
          · rw [if_neg e, if_neg e]; exact q1
        · by_cases e : v = x
          · rw [if_pos e, if_pos e]
          · rw [if_neg e, if_neg e]; exact q2
      · rw [am_set_ne _ _ _ (by omega), am_set_ne _ _ _ (by omega)]; exact v3
    | false =>
      simp only [Bool.false_eq_true, if_false, not_true_eq_false]
      obtain ⟨W, hW, f1, f2, f3, f4, f5, f6⟩ := s_enter (V := am_set V 10 x (nI (nxt x + 1))) (p := nI (nxt x)) (show y < 9 by omega) (show (am_set V 10 x (nI (nxt x + 1))) 4 6 = nI M by rw [am_set_ne _ _ _ (by omega)]; exact v3)
      rw [hW, rU_ret]
      have ney : ∀ z, ent z = true → z ≠ y := fun z hz e => by rw [e, hb] at hz; cases hz
      have hry : ∀ z, run e0 (fun z => ent z || decide (z = y)) z → z ≠ y → run e0 ent z := fun z hz e => ⟨by simpa [e] using hz.1, hz.2⟩
      refine TI.ret ⟨y, rfl, (fr4.s (by omega)).t f1, _, _, _, _, _, _, M + 1, ⟨fun v hv9 => ?_, fun v hv9 hr => ?_, f2⟩, ⟨_, lst, dfs_enter hd hEn hx hop hey hb, dfsL_enter hd hL hb _, ?_, ?_⟩, sum_step hxn (fun z hz hzx => ?_) ?_⟩
      · rw [f3, am_set_ne _ _ _ (by omega)]
        by_cases e : v = y
        · simp [upd, e]
        · simp only [upd, if_neg e]
          rw [v1 v hv9]
          simp [e]
      · rw [f4, f5, f6, am_set_ne _ _ _ (show (9 : Nat) ≠ 10 by omega), am_set_ne _ _ _ (show (7 : Nat) ≠ 10 by omega)]
        by_cases e : v = y
        · have hvs : ¬ y = s := fun q => by
            have := (hd.1.2.2.2 s hd.1.2.1).1
            rw [← q, hb] at this; cases this
          simp [upd, e, hvs]
        · obtain ⟨q1, q2, q3⟩ := v2 v hv9 (hry v hr e)
          simp only [upd, if_neg e]
          refine ⟨q1, ?_, q3⟩
          rw [sg_c]
          by_cases e2 : v = x
          · rw [if_pos e2, if_pos e2]
          · rw [if_neg e2, if_neg e2]; exact q2
      · rw [cnt_add1 (p := ent) (n_ft N) y hyn hb (by simp) (fun i _ hi => by simp [hi]), hM]
      · rw [hkk]
        refine nP_cg _ fun p _ => and_congr Iff.rfl ⟨?_, ?_⟩
        · rintro ⟨z, z1, z2, z3, z4⟩
          have := ney z z1.1
          exact ⟨z, ⟨by simp [z1.1], z1.2⟩, z2, by simp [z3, this], by simp [this, z4]⟩
        · rintro ⟨z, z1, z2, z3, z4⟩
          have e : z ≠ y := fun e => by simp [e] at z3
          exact ⟨z, hry z z1 e, z2, by simpa [e] using z3, by simpa [e] using z4⟩
      · by_cases e : z = y
        · rw [e]
          unfold prog
          simp [hb]
        · unfold prog
          simp [e, hzx]
      · unfold prog
        simp [Ne.symm hyx, hrx.1, hrx.2]
        omega
  unfold d_X9_takePath
  simp (disch := omega) only [rGi, iNn, rV, x10, i_add1]
  have hN1 : vN (am_set V 10 x (nI (nxt x + 1))) i N := vN_f4 hN (fr4.s (by omega))
  rw [q_isOpen hN1 hw (by omega)]
  simp only [rI_ret, rB, bI0]
  cases hop : n_op N (nxt x) with
  | false =>
    rw [if_pos rfl]
    rw [if_neg (by decide)]
    exact TI.ret (skip (fun h => by rw [hop] at h; cases h))
  | true =>
    rw [if_neg (by decide), am_set_ne _ _ _ (show (7 : Nat) ≠ 10 by omega), x7]
    have hcond : (nI (nxt x) = if x = s then -1 else nI (arr x)) ↔ ¬ (x = s ∨ nxt x ≠ arr x) := by
      by_cases e : x = s
      · rw [if_pos e]
        constructor
        · intro q
          have h9 := i_n1 (a := nxt x) (by omega)
          rw [h9] at q
          exact q.elim
        · intro q
          exact (q (Or.inl e)).elim
      · rw [if_neg e]
        have : arr x < n_pt N := (hd.2.2.1 x hrx e).1
        rw [i_eqE (by omega) (by omega)]
        constructor
        · rintro q (r | r)
          · exact e r
          · exact r q
        · intro q
          exact Classical.byContradiction fun r => q (Or.inr r)
    by_cases hal : x = s ∨ nxt x ≠ arr x
    · rw [if_neg (fun q => hcond.mp q hal), q_farEnd hN1 hw (by omega) (by omega)]
      simp only [rI_ret, if_pos hx]
      obtain ⟨b1, b2, b3, -⟩ := hw.2.2.2.2.1 _ hx
      by_cases e1 : n_fs N (nxt x) = x
      · rw [if_pos e1]
        exact go _ hop hal (Or.inl ⟨e1, rfl⟩) b2
      · rw [if_neg e1]
        by_cases e2 : n_sn N (nxt x) = x
        · rw [if_pos e2]
          exact go _ hop hal (Or.inr ⟨e2, rfl⟩) b1
        · rw [if_neg e2, if_neg (by decide)]
          exact TI.ret (skip (fun _ _ y hy => by
            rcases hy with ⟨q, _⟩ | ⟨q, _⟩
            · exact e1 q
            · exact e2 q))
    · rw [if_pos (hcond.mpr hal), if_neg (by decide)]
      exact TI.ret (skip (fun _ h => (hal h).elim))
end
section
variable {V : am_V} {i : Nat} {N : nT}
set_option maxHeartbeats 2000000 in
/-- one walk: what was entered is closed again, and its bridges are counted -/
theorem s_from (hN : vN V i N) (hw : wN N) {s M : Nat} {ent : Nat → Bool} {num : Nat → Nat} (hs : s < n_ft N) (he : ent s = false) (h1 : ∀ z, ent z = true → z < n_ft N ∧ num z < M) (h2 : ∀ y z, ent y = true → ent z = true → num y = num z → y = z) (h3 : ∀ p, n_op N p = true → ent (n_fs N p) = ent (n_sn N p))
    (hM : M = cnt ent (n_ft N)) (hv : ∀ v, v < 9 → V 8 v = if ent v = true then nI (num v) else -1) (hv2 : V 4 6 = nI M) :
    TI (d_X9_countBridgesFrom i (nI s) V) (fun x W => fr4 V W ∧ ∃ (ent' : Nat → Bool) (num' : Nat → Nat) (M' : Nat), (∀ z, ent z = true → ent' z = true) ∧ ent' s = true ∧ (∀ z, ent' z = true → z < n_ft N ∧ num' z < M') ∧ (∀ y z, ent' y = true → ent' z = true → num' y = num' z → y = z) ∧ (∀ p, n_op N p = true → ent' (n_fs N p) = ent' (n_sn N p)) ∧
      M' = cnt ent' (n_ft N) ∧ (∀ v, v < 9 → W 8 v = if ent' v = true then nI (num' v) else -1) ∧ W 4 6 = nI M' ∧ x = nI (nP (fun p => isBr (n_fs N) (n_sn N) (n_op N) p ∧ run ent ent' (n_fs N p)) (n_pt N))) := by
  have w1 := hw.1
  have w2 := hw.2.1
  have hEn := n_opE hw
  have nes : ∀ z, ent z = true → z ≠ s := fun z hz e => by rw [e, he] at hz; cases hz
  rw [TI.T]
  unfold d_X9_countBridgesFrom
  refine TT.U (s_enter (show s < 9 by omega) hv2) ?_
  rintro V1 ⟨f1, f2, f3, f4, f5, f6⟩
  obtain ⟨d1, d2⟩ := dfs_start (fs := n_fs N) (sn := n_sn N) (E := n_op N) (m := n_pt N) (ear := num) (arr := num) (par := num) (nxt := num) hs he h1 h2 h3
  refine lr_X9_countBridgesFrom_14 (I := fun n9 a f st V9 => ∃ k x j A e' num' ear arr nxt M', a = nI k ∧ f = nI x ∧ st = nI j ∧ n9 = 153 - j ∧ fr4 V V9 ∧ dvw V9 s ent e' num' ear arr nxt M' ∧ wk N s ent e' A num' ear arr nxt x M' k ∧ sumN (prog ent e' A nxt) (n_ft N) = j ∧ (∀ z, ent z = true → e' z = true)) ?_ 153 1000 (by omega) _ _ _ V1
    ⟨0, s, 0, _, _, _, _, num, _, M + 1, rfl, rfl, rfl, rfl, f1, ⟨fun v hv9 => ?_, fun v hv9 hr => ?_, f2⟩, ⟨num, fun _ => 0, d1, d2, ?_, ?_⟩, ?_, fun z hz => by simp [hz]⟩
  · rintro n9 kr hkr a f st V9 ⟨k, x, j, A, e', num', ear, arr, nxt, M', rfl, rfl, rfl, rfl, g1, g2, g3, g4, g5⟩
    have hN9 : vN V9 i N := vN_f4 hN g1
    have hg3 := g3
    obtain ⟨par, lst, hd, hL, hM', hkk⟩ := g3
    have hrx := hd.1.2.2.2 x hd.1.2.2.1
    have hrs := hd.1.2.2.2 s hd.1.2.1
    have hxn := (hd.2.1.1 x hrx.1).1
    obtain ⟨v1, v2, v3⟩ := g2
    obtain ⟨x9, x10, x7⟩ := v2 x (by omega) hrx
    have hnxm : ∀ z, run ent e' z → nxt z ≤ n_pt N := fun z hz => (hd.2.2.2.2.2.1 z hz).1
    have hnx := hnxm x hrx
    have hj : j < 153 := by
      have hb := sumN_lt (f := prog ent e' A nxt) (k := 16) (n_ft N) s hs (fun z hz => by
        by_cases hr : run ent e' z
        · rw [prog_run hr]
          have := hnxm z hr
          by_cases ha : A z = true
          · rw [if_pos ha]; omega
          · rw [if_neg ha]; omega
        · unfold prog
          rw [if_neg (fun q => hr (by simpa [run] using q))]; omega) (by
        rw [prog_run hrs, if_pos hd.1.2.1]
        have := hnxm s hrs; omega)
      omega
    have hM9 : M' ≤ 9 := by have := cnt_le_n e' (n_ft N); omega
    have hnum : ∀ z, e' z = true → num' z < 9 := fun z hz => by have := (hd.2.1.1 z hz).2; omega
    have hear : ∀ z, run ent e' z → ear z < 9 := fun z hz => by have := (hd.2.2.2.2.2.2.2 z hz).1; have := hnum z hz.1; omega
    have hkm : k ≤ n_pt N := by rw [hkk]; exact nP_le _ _
    unfold bd_X9_countBridgesFrom_14
    simp (disch := omega) only [i_leE, rGi, iNn, hN9.2.2.1, x10, x9, x7, rB, i_add1]
    rw [if_neg (by omega)]
    by_cases hm : n_pt N ≤ nxt x
    · rw [if_pos hm]
      have hxm : nxt x = n_pt N := by omega
      by_cases hxs : x = s
      · rw [if_pos hxs, q_farEndN]
        simp only [rI_ret]
        rw [if_neg (by decide)]
        rw [hxs] at hd hxm
        obtain ⟨c1, c2, c3⟩ := dfs_end hd hEn hxm
        refine TT.ret ⟨_, rfl, g1, e', num', M', g5, hrs.1, hd.2.1.1, hd.2.1.2.1, c1, hM', v1, v3, ?_⟩
        rw [hkk]
        refine congrArg nI (nP_cg _ fun p _ => and_congr_right fun hbr => ⟨?_, fun hr => ?_⟩)
        · rintro ⟨z, z1, z2, z3, z4⟩
          obtain ⟨-, -, q3, -, -⟩ := hd.2.2.1 z z1 z2
          rw [z4] at q3
          rcases q3 with ⟨r1, r2⟩ | ⟨r1, r2⟩
          · rw [r1]; exact z1
          · exact ⟨by rw [c1 p hbr.1, r1]; exact z1.1, by rw [h3 p hbr.1, r1]; exact z1.2⟩
        · exact c3 p hbr hr
      · rw [if_neg hxs]
        obtain ⟨b1, b2, b3, b4, b5⟩ := hd.2.2.1 x hrx hxs
        have hpn := (hd.2.1.1 _ b4.1).1
        rw [q_farEnd hN9 hw (by omega) (by omega)]
        simp only [rI_ret, if_pos b1]
        have hne := (hEn _ b2).2.2.2
        have hfar : (if n_fs N (arr x) = x then nI (n_sn N (arr x)) else if n_sn N (arr x) = x then nI (n_fs N (arr x)) else -1) = nI (par x) := by
          rcases b3 with ⟨r1, r2⟩ | ⟨r1, r2⟩
          · rw [if_pos r1, r2]
          · rw [if_neg (fun q => hne (q.trans r1.symm)), if_pos r1, r2]
        rw [hfar]
        obtain ⟨p9, p10, p7⟩ := v2 (par x) (by omega) b4
        have hn1 := hnum _ b4.1
        have he1 := hear x hrx
        have he2 := hear _ b4
        have hpx : par x ≠ x := fun e => by rw [e] at b5; omega
        simp (disch := omega) only [i_n1, not_false_eq_true, if_true, rGi, iNn, v1 (par x), b4.1, p9, x9, i_leE, mnE, rV]
        have hbr := dfs_br hd hL hxm hxs hEn
        have fin : ∀ k', k' = nP (fun p => isBr (n_fs N) (n_sn N) (n_op N) p ∧ ∃ z, run ent e' z ∧ z ≠ s ∧ (A z && decide (z ≠ x)) = false ∧ arr z = p) (n_pt N) → TT (kr (nI k') (nI (par x)) (nI (j + 1)) (am_set V9 9 (par x) (nI (min (ear (par x)) (ear x))))) (fun r V_1 => ∃ x_1, r = .inl (some (.int x_1)) ∧ fr4 V V_1 ∧ ∃ (ent' : Nat → Bool) (num' : Nat → Nat) (M' : Nat), (∀ z, ent z = true → ent' z = true) ∧ ent' s = true ∧ (∀ z, ent' z = true → z < n_ft N ∧ num' z < M') ∧ (∀ y z, ent' y = true → ent' z = true → num' y = num' z → y = z) ∧ (∀ p, n_op N p = true → ent' (n_fs N p) = ent' (n_sn N p)) ∧
            M' = cnt ent' (n_ft N) ∧ (∀ v, v < 9 → V_1 8 v = if ent' v = true then nI (num' v) else -1) ∧ V_1 4 6 = nI M' ∧ x_1 = nI (nP (fun p => isBr (n_fs N) (n_sn N) (n_op N) p ∧ run ent ent' (n_fs N p)) (n_pt N))) := by
          intro k' hk'
          refine hkr (153 - (j + 1)) (by omega) _ _ _ _ ⟨k', par x, j + 1, _, e', num', _, arr, nxt, M', rfl, rfl, rfl, rfl, g1.t (fr4.s (by omega)), ⟨fun v hv9 => ?_, fun v hv9 hr => ?_, ?_⟩, ⟨par, _, dfs_back hd hxm hxs, dfsL_back hd hL hEn hxm, hM', hk'⟩, ?_, g5⟩
          · rw [am_set_ne _ _ _ (by omega)]; exact v1 v hv9
          · rw [am_set_ne _ _ _ (show (10 : Nat) ≠ 9 by omega), am_set_ne _ _ _ (show (7 : Nat) ≠ 9 by omega), sg_c]
            obtain ⟨q1, q2, q3⟩ := v2 v hv9 hr
            refine ⟨?_, q2, q3⟩
            by_cases e : v = par x
            · rw [if_pos e, if_pos e]
            · rw [if_neg e, if_neg e]; exact q1
          · rw [am_set_ne _ _ _ (by omega)]; exact v3
          · rw [← g4]
            refine sum_step hxn (fun z hz hzx => ?_) ?_
            · unfold prog; simp [hzx]
            · rw [prog_run hrx, prog_run hrx]
              simp [hd.1.2.2.1]
        have iffB : ∀ p, (∃ z, run ent e' z ∧ z ≠ s ∧ (A z && decide (z ≠ x)) = false ∧ arr z = p) ↔ (∃ z, run ent e' z ∧ z ≠ s ∧ A z = false ∧ arr z = p) ∨ p = arr x := by
          intro p
          constructor
          · rintro ⟨z, z1, z2, z3, z4⟩
            by_cases e : z = x
            · exact Or.inr (by rw [← z4, e])
            · exact Or.inl ⟨z, z1, z2, by simpa [e] using z3, z4⟩
          · rintro (⟨z, z1, z2, z3, z4⟩ | rfl)
            · exact ⟨z, z1, z2, by simp [z3], z4⟩
            · exact ⟨x, hrx, hxs, by simp, rfl⟩
        have notyet : ¬ ∃ z, run ent e' z ∧ z ≠ s ∧ A z = false ∧ arr z = arr x := by
          rintro ⟨z, z1, z2, z3, z4⟩
          have := dfs_arr hd z1 hrx z2 hxs z4
          rw [this, hd.1.2.2.1] at z3; cases z3
        by_cases hle : ear x ≤ num' (par x)
        · rw [if_pos hle]
          refine fin k ?_
          rw [hkk]
          refine nP_cg _ fun p _ => ?_
          rw [iffB p]
          constructor
          · rintro ⟨q1, q2⟩; exact ⟨q1, Or.inl q2⟩
          · rintro ⟨q1, q2 | q2⟩
            · exact ⟨q1, q2⟩
            · rw [q2] at q1
              have := hbr.mp q1; omega
        · rw [if_neg hle]
          refine fin (k + 1) ?_
          rw [hkk]
          refine (nP_add1 _ (arr x) b1 (fun q => notyet q.2) ⟨hbr.mpr (by omega), (iffB _).mpr (Or.inr rfl)⟩ fun p _ hne => ?_).symm
          rw [iffB p]
          constructor
          · rintro ⟨q1, q2 | q2⟩
            · exact ⟨q1, q2⟩
            · exact (hne q2).elim
          · rintro ⟨q1, q2⟩; exact ⟨q1, Or.inl q2⟩
    · rw [if_neg hm]
      refine TT.I (s_take hN9 hw ⟨v1, v2, v3⟩ hg3 (by omega)) ?_
      rintro y W ⟨x', rfl, t1, e2, A2, num2, ear2, arr2, nxt2, M2, t2, t3, t4⟩
      refine hkr (153 - (j + 1)) (by omega) _ _ _ _ ⟨k, x', j + 1, A2, e2, num2, ear2, arr2, nxt2, M2, rfl, rfl, rfl, rfl, g1.t t1, t2, t3, by rw [t4, g4], fun z hz => ?_⟩
      obtain ⟨_, _, hd2, _⟩ := t3
      exact (hd2.2.1.2.2.1 z hz).1
  · rw [f3]
    by_cases e : v = s
    · simp [upd, e]
    · simp only [upd, if_neg e]
      rw [hv v hv9]
      simp [e]
  · have e : v = s := by
      obtain ⟨q1, q2⟩ := hr
      simpa [q2] using q1
    rw [f4, f5, f6]
    simp [upd, e]
  · rw [cnt_add1 (p := ent) (n_ft N) s hs he (by simp) (fun i _ hi => by simp [hi]), hM]
  · refine (cnt_zero _ fun p _ => ?_).symm
    simp only [decide_eq_false_iff_not]
    rintro ⟨-, z, z1, z2, z3, z4⟩
    have : z = s := by
      obtain ⟨q1, q2⟩ := z1
      simpa [q2] using q1
    exact z2 this
  · refine sumN_zero _ fun z _ => ?_
    unfold prog
    by_cases e : z = s
    · simp [e, he]
    · cases hb : ent z with
      | true => simp [hb]
      | false => simp [hb, e]
end
theorem without_none (N : nT) (hw : wN N) : without (n_op N) 4294967295 = n_op N := funext fun p => by
  have := hw.2.1
  unfold without
  cases h : n_op N p with
  | false => rfl
  | true =>
    have := n_op_lt h
    have h2 : p ≠ 4294967295 := by omega
    simp [h2]
section
variable {V : am_V} {i : Nat} {N : nT}
set_option maxHeartbeats 1000000 in
theorem s_walk (hN : vN V i N) (hw : wN N) : TI (d_X9_countBridgesByWalk i V) (fun x W => fr4 V W ∧ x = nI (nP (isBr (n_fs N) (n_sn N) (n_op N)) (n_pt N))) := by
  have w1 := hw.1
  have w2 := hw.2.1
  have hEn := n_opE hw
  rw [TI.T]
  unfold d_X9_countBridgesByWalk
  refine lr_X9_countBridgesByWalk_2 (I := fun n9 a V9 => ∃ j, a = nI j ∧ n9 = 9 - j ∧ j ≤ 9 ∧ fr4 V V9 ∧ ∀ v, v < j → V9 8 v = -1) ?_ 9 1000 (by omega) _ V ⟨0, rfl, rfl, by omega, fr4.r V, fun v hv => by omega⟩
  rintro n9 kr hkr a V9 ⟨j, rfl, rfl, j1, h1, h2⟩
  unfold bd_X9_countBridgesByWalk_2
  simp (disch := omega) only [i_leE, rGi, iNn, rV, i_add1]
  by_cases hj : 9 ≤ j
  · rw [if_pos hj]
    have e : j = 9 := by omega
    subst e
    refine lr_X9_countBridgesByWalk_30 (I := fun n9 a f V8 => ∃ (k j : Nat) (ent : Nat → Bool) (num : Nat → Nat) (M : Nat), a = nI k ∧ f = nI j ∧ n9 = n_ft N - j ∧ j ≤ n_ft N ∧ fr4 V V8 ∧ (∀ z, z < j → ent z = true) ∧ (∀ z, ent z = true → z < n_ft N ∧ num z < M) ∧ (∀ y z, ent y = true → ent z = true → num y = num z → y = z) ∧ (∀ p, n_op N p = true → ent (n_fs N p) = ent (n_sn N p)) ∧
      M = cnt ent (n_ft N) ∧ (∀ v, v < 9 → V8 8 v = if ent v = true then nI (num v) else -1) ∧ V8 4 6 = nI M ∧ k = nP (fun p => isBr (n_fs N) (n_sn N) (n_op N) p ∧ ent (n_fs N p) = true) (n_pt N)) ?_ (n_ft N) 1000 (by omega) _ _ _
      ⟨0, 0, fun _ => false, fun _ => 0, 0, rfl, rfl, rfl, by omega, h1.t (fr4.s (by omega)), fun z hz => by omega, fun z hz => (by cases hz), fun y z hy => (by cases hy), fun p _ => rfl, (cnt_zero _ fun _ _ => rfl).symm, fun v hv => ?_, ?_, ?_⟩
    · rintro n8 kr2 hkr2 a f V8 ⟨k, j, ent, num, M, rfl, rfl, rfl, j1, g1, g2, g3, g4, g5, g6, g7, g8, g9⟩
      have hN8 : vN V8 i N := vN_f4 hN g1
      have hM9 : M ≤ 9 := by have := cnt_le_n ent (n_ft N); omega
      unfold bd_X9_countBridgesByWalk_30
      simp (disch := omega) only [hN8.2.1, i_leE]
      by_cases hj : n_ft N ≤ j
      · rw [if_pos hj]
        have e : j = n_ft N := by omega
        subst e
        refine TT.ret ⟨_, rfl, g1, ?_⟩
        rw [g9]
        refine congrArg nI (nP_cg _ fun p _ => ⟨fun h => h.1, fun h => ⟨h, g2 _ (hEn p h.1).2.1⟩⟩)
      · rw [if_neg hj]
        have hjn : j < n_ft N := by omega
        simp (disch := omega) only [rGi, iNn, rB, i_add1]
        rw [g7 j (by omega)]
        cases hb : ent j with
        | true =>
          have := (g3 j hb).2
          simp (disch := omega) only [if_true, i_n1, not_false_eq_true]
          refine hkr2 (n_ft N - (j + 1)) (by omega) _ _ _ ⟨k, j + 1, ent, num, M, rfl, rfl, rfl, by omega, g1, fun z hz => ?_, g3, g4, g5, g6, g7, g8, g9⟩
          by_cases e : z = j
          · rw [e]; exact hb
          · exact g2 z (by omega)
        | false =>
          simp only [Bool.false_eq_true, if_false, not_true_eq_false]
          refine TT.I (s_from hN8 hw hjn hb g3 g4 g5 g6 g7 g8) ?_
          rintro x W ⟨f1, e', num', M', f2, f3, f4, f5, f6, f7, f8, f9, rfl⟩
          rw [nI_add]
          refine hkr2 (n_ft N - (j + 1)) (by omega) _ _ _ ⟨_, j + 1, e', num', M', rfl, rfl, rfl, by omega, g1.t f1, fun z hz => ?_, f4, f5, f6, f7, f8, f9, ?_⟩
          · by_cases e : z = j
            · rw [e]; exact f3
            · exact f2 z (g2 z (by omega))
          · rw [nP_split (fun p => isBr (n_fs N) (n_sn N) (n_op N) p ∧ e' (n_fs N p) = true) (fun p => ent (n_fs N p) = true), g9]
            congr 1
            · refine nP_cg _ fun p _ => ⟨fun h => ⟨⟨h.1, f2 _ h.2⟩, h.2⟩, fun h => ⟨h.1.1, h.2⟩⟩
            · refine nP_cg _ fun p _ => ⟨fun h => ⟨⟨h.1, h.2.1⟩, by rw [h.2.2]; decide⟩, fun h => ⟨h.1.1, h.1.2, by simpa using h.2⟩⟩
    · rw [am_set_ne _ _ _ (by omega)]
      exact h2 v hv
    · rw [sg_c, if_pos rfl]
    · refine (cnt_zero _ fun p _ => ?_).symm
      simp
  · rw [if_neg hj]
    refine hkr (9 - (j + 1)) (by omega) _ _ ⟨j + 1, rfl, rfl, by omega, h1.t (fr4.s (by omega)), fun v hv => ?_⟩
    rw [sg_c]
    by_cases e : v = j
    · rw [if_pos e]
    · rw [if_neg e]
      exact h2 v (by omega)
noncomputable def brB (N : nT) (p : Nat) : Bool := @decide (isBr (n_fs N) (n_sn N) (n_op N) p) (Classical.propDecidable _)
theorem brB_t {p : Nat} : brB N p = true ↔ isBr (n_fs N) (n_sn N) (n_op N) p := by unfold brB; simp
theorem s_parts (hN : vN V i N) (hw : wN N) {p : Nat} (hp : p < n_pt N) : TI (d_X9_partsGroups i (nI p) V) (fun x W => W = V ∧ x = bI (brB N p)) := by
  have w1 := hw.1
  have w2 := hw.2.1
  obtain ⟨b1, b2, b3, -⟩ := hw.2.2.2.2.1 p hp
  rw [TI.T]
  unfold d_X9_partsGroups
  rw [q_isOpen hN hw (by omega)]
  simp only [rI_ret, rB, bI0]
  have no : brB N p = false → TT (rG (am_nb (nI 0)) (some (.inl (some (.int (nI 0))), V))) (fun r V_1 => ∃ x, r = .inl (some (.int x)) ∧ V_1 = V ∧ x = bI (brB N p)) := by
    intro h
    rw [nb0, rGt, h]
    exact TT.ret ⟨_, rfl, rfl, rfl⟩
  cases hop : n_op N p with
  | false =>
    rw [if_pos rfl]
    refine no ?_
    cases hb : brB N p with
    | false => rfl
    | true => have := (brB_t.mp hb).1; rw [hop] at this; cases this
  | true =>
    rw [if_neg (by decide)]
    refine TT.I (s_groups hN hw (sk := p) (by omega)) ?_
    rintro x W ⟨rfl, rfl⟩
    rw [m1_nI]
    refine TT.I (s_groups hN hw (sk := 4294967295) (by omega)) ?_
    rintro x W2 ⟨rfl, rfl⟩
    have k1 : nGroups (n_fs N) (n_sn N) (without (n_op N) p) (n_ft N) ≤ n_ft N := cnt_le_n _ _
    have k2 : nGroups (n_fs N) (n_sn N) (without (n_op N) 4294967295) (n_ft N) ≤ n_ft N := cnt_le_n _ _
    simp (disch := omega) only [i_leE]
    have hm := groups_more (n := n_ft N) hop b1 b2
    rw [without_none N hw]
    by_cases hle : nGroups (n_fs N) (n_sn N) (without (n_op N) p) (n_ft N) ≤ nGroups (n_fs N) (n_sn N) (n_op N) (n_ft N)
    · rw [if_pos hle]
      refine no ?_
      cases hb : brB N p with
      | false => rfl
      | true =>
        have := hm.mpr (brB_t.mp hb).2
        omega
    · rw [if_neg hle, nb1, rGt, show brB N p = true from brB_t.mpr ⟨hop, hm.mp (by omega)⟩]
      exact TT.ret ⟨_, rfl, rfl, rfl⟩
theorem s_byGroups (hN : vN V i N) (hw : wN N) : TI (d_X9_countBridgesByGroups i V) (fun x W => W = V ∧ x = nI (nP (isBr (n_fs N) (n_sn N) (n_op N)) (n_pt N))) := by
  have w2 := hw.2.1
  rw [TI.T]
  unfold d_X9_countBridgesByGroups
  refine lr_X9_countBridgesByGroups_4 (I := fun n9 a k V9 => V9 = V ∧ ∃ j, a = nI (nP (isBr (n_fs N) (n_sn N) (n_op N)) j) ∧ k = nI j ∧ n9 = n_pt N - j ∧ j ≤ n_pt N) ?_ (n_pt N) 1000 (by omega) _ _ V ⟨rfl, 0, rfl, rfl, rfl, by omega⟩
  rintro n9 kr hkr a k V9 ⟨rfl, j, rfl, rfl, rfl, j1⟩
  unfold bd_X9_countBridgesByGroups_4
  simp (disch := omega) only [hN.2.2.1, i_leE]
  by_cases hj : n_pt N ≤ j
  · rw [if_pos hj]
    have e : j = n_pt N := by omega
    subst e
    exact TT.ret ⟨_, rfl, rfl, rfl⟩
  · rw [if_neg hj]
    refine TT.I (s_parts hN hw (show j < n_pt N by omega)) ?_
    rintro x W ⟨rfl, rfl⟩
    simp only [rB, bI0, i_add1]
    have e1 : nP (isBr (n_fs N) (n_sn N) (n_op N)) (j + 1) = nP (isBr (n_fs N) (n_sn N) (n_op N)) j + (if brB N j = true then 1 else 0) := rfl
    cases hb : brB N j with
    | true =>
      rw [if_neg (by decide)]
      refine hkr (n_pt N - (j + 1)) (by omega) _ _ _ ⟨rfl, j + 1, ?_, rfl, rfl, by omega⟩
      rw [e1, hb]; rfl
    | false =>
      rw [if_pos rfl]
      refine hkr (n_pt N - (j + 1)) (by omega) _ _ _ ⟨rfl, j + 1, ?_, rfl, rfl, by omega⟩
      rw [e1, hb]; rfl
end
