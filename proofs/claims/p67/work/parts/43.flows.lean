/-! ===== disjoint ways and cuts ===== -/
def zI (z : Int) : Int32 := Int32.ofInt z
theorem z_add1 (z : Int) : zI z + nI 1 = zI (z + 1) := (Int32.ofInt_add z 1).symm
theorem z_sub1 (z : Int) : zI z + -1 = zI (z - 1) := by
  show Int32.ofInt z + Int32.ofInt (-1) = Int32.ofInt (z - 1)
  rw [← Int32.ofInt_add]
  rfl
theorem z_three {z : Int} (h : -1 ≤ z ∧ z ≤ 1) : z = -1 ∨ z = 0 ∨ z = 1 := by omega
theorem z_ge1 {z : Int} (h : -1 ≤ z ∧ z ≤ 1) : (nI 1 ≤ zI z) = ¬ z < 1 := by
  rcases z_three h with rfl | rfl | rfl <;> decide
theorem z_lem1 {z : Int} (h : -1 ≤ z ∧ z ≤ 1) : (zI z ≤ -1) = ¬ -1 < z := by
  rcases z_three h with rfl | rfl | rfl <;> decide
def flo (V : am_V) (f : Nat → Int) : Prop := ∀ p, p < 16 → V 6 p = zI (f p)
theorem flo_set {V : am_V} {f : Nat → Int} {j : Nat} {z : Int} (h : flo V f) : flo (am_set V 6 j (zI z)) (fun p => if p = j then z else f p) := by
  intro p hp
  show am_set V 6 j (zI z) 6 p = zI (if p = j then z else f p)
  rw [am_set_get]
  by_cases e : p = j
  · rw [if_pos ⟨rfl, e⟩, if_pos e]
  · rw [if_neg (fun q => e q.2), if_neg e]
    exact h p hp
theorem flo_ne {V : am_V} {f : Nat → Int} {c j : Nat} {x : Int32} (h : flo V f) (hc : (6 : Nat) ≠ c) : flo (am_set V c j x) f := by
  intro p hp
  rw [am_set_ne _ _ _ hc]
  exact h p hp
theorem tf {b : Bool} (h : b = true) (h2 : b = false) : False := by rw [h] at h2; cases h2
section
variable {V : am_V} {i : Nat} {N : nT}
set_option maxHeartbeats 2000000 in
theorem s_reach (hN : vN V i N) (hw : wN N) {s : Nat} (hs : s < n_ft N) {f : Nat → Int} (hf : flo V f) (hf2 : ∀ p, p < n_pt N → -1 ≤ f p ∧ f p ≤ 1) :
    TI (d_X9_reachByFlows i (nI s) V) (fun x W => (∀ c, c ≠ 7 → W c = V c) ∧ ∃ r arr rk, x = nI r ∧ r < 512 ∧ reachI (n_fs N) (n_sn N) (n_op N) (n_pt N) (n_ft N) s f (fun v => r.testBit v) arr rk ∧ (∀ v, v < n_ft N → r.testBit v = true → v ≠ s → W 7 v = nI (arr v)) ∧ ∀ p, p < n_pt N → ¬ cross (n_fs N) (n_sn N) (n_op N) f (fun v => r.testBit v) p) := by
  have w1 := hw.1
  have w2 := hw.2.1
  have hE2 : ∀ p, n_op N p = true → n_fs N p < n_ft N ∧ n_sn N p < n_ft N := fun p hp => ⟨(n_opE hw p hp).2.1, (n_opE hw p hp).2.2.1⟩
  rw [TI.T]
  unfold d_X9_reachByFlows
  rw [i_shl1 (by omega)]
  refine lr_X9_reachByFlows_7 (I := fun n9 a k V9 => ∃ r arr rk j, a = nI r ∧ k = nI j ∧ n9 = n_ft N - j ∧ 1 ≤ j ∧ j ≤ n_ft N ∧ r < 512 ∧ (∀ c, c ≠ 7 → V9 c = V c) ∧ reachI (n_fs N) (n_sn N) (n_op N) (n_pt N) (n_ft N) s f (fun v => r.testBit v) arr rk ∧ (∀ v, v < n_ft N → r.testBit v = true → v ≠ s → V9 7 v = nI (arr v)) ∧
    (j ≤ cnt (fun v => r.testBit v) (n_ft N) ∨ ∀ p, p < n_pt N → ¬ cross (n_fs N) (n_sn N) (n_op N) f (fun v => r.testBit v) p)) ?_ (n_ft N - 1) 1000 (by omega) _ _ V ⟨2 ^ s, fun _ => 0, fun _ => 0, 1, rfl, rfl, rfl, Nat.le_refl _, by omega, pow9 (by omega), fun _ _ => rfl, ?_, fun v _ hv hne => ?_, Or.inl ?_⟩
  · rintro n9 kr hkr a k V9 ⟨r, arr, rk, j, rfl, rfl, rfl, j1, j2, r1, h1, h2, h3, h4⟩
    have hN9 : vN V9 i N := vN_cg hN fun d hd _ => h1 d (by have := sS_ge i; omega)
    unfold bd_X9_reachByFlows_7
    simp (disch := omega) only [hN9.2.1, i_leE]
    by_cases hj : n_ft N ≤ j
    · rw [if_pos hj]
      refine TT.ret ⟨_, rfl, h1, r, arr, rk, rfl, r1, h2, h3, ?_⟩
      rcases h4 with q | q
      · intro p hp hc
        have full := fun v hv => cnt_full (p := fun v => r.testBit v) (n_ft N) (by omega) v hv
        obtain ⟨c1, c2⟩ := hc
        have a1 := full _ (hE2 p c1).1
        have a2 := full _ (hE2 p c1).2
        rcases c2 with ⟨_, c3, _⟩ | ⟨_, c3, _⟩
        · exact tf a2 c3
        · exact tf a1 c3
      · exact q
    · rw [if_neg hj]
      refine lr_X9_reachByFlows_19 (I := fun n9 a k V8 => ∃ r' arr' rk' q, a = nI r' ∧ k = nI q ∧ n9 = n_pt N - q ∧ q ≤ n_pt N ∧ r' < 512 ∧ (∀ c, c ≠ 7 → V8 c = V c) ∧ reachI (n_fs N) (n_sn N) (n_op N) (n_pt N) (n_ft N) s f (fun v => r'.testBit v) arr' rk' ∧ (∀ v, v < n_ft N → r'.testBit v = true → v ≠ s → V8 7 v = nI (arr' v)) ∧ (cnt (fun v => r.testBit v) (n_ft N) ≤ cnt (fun v => r'.testBit v) (n_ft N)) ∧
        (cnt (fun v => r.testBit v) (n_ft N) < cnt (fun v => r'.testBit v) (n_ft N) ∨ (r' = r ∧ ∀ p, p < q → ¬ cross (n_fs N) (n_sn N) (n_op N) f (fun v => r.testBit v) p)) ∧ ((∀ p, p < n_pt N → ¬ cross (n_fs N) (n_sn N) (n_op N) f (fun v => r.testBit v) p) → r' = r)) ?_ (n_pt N) 1000 (by omega) _ _ V9 ⟨r, arr, rk, 0, rfl, rfl, rfl, Nat.zero_le _, r1, h1, h2, h3, Nat.le_refl _, Or.inr ⟨rfl, fun p hp => by omega⟩, fun _ => rfl⟩
      rintro n8 kr2 hkr2 a k V8 ⟨r', arr', rk', q, rfl, rfl, rfl, q1, r1', g1, g2, g3, g4, g5, g6⟩
      have hN8 : vN V8 i N := vN_cg hN fun d hd _ => g1 d (by have := sS_ge i; omega)
      unfold bd_X9_reachByFlows_19
      simp (disch := omega) only [hN8.2.2.1, i_leE]
      by_cases hq : n_pt N ≤ q
      · rw [if_pos hq, i_add1]
        have e : q = n_pt N := by omega
        subst e
        refine hkr (n_ft N - (j + 1)) (by omega) _ _ _ ⟨r', arr', rk', j + 1, rfl, rfl, rfl, by omega, by omega, r1', g1, g2, g3, ?_⟩
        rcases g5 with g5 | ⟨g5, g7⟩
        · rcases h4 with h4 | h4
          · exact Or.inl (by omega)
          · rw [g6 h4]; exact Or.inr h4
        · rw [g5]; exact Or.inr g7
      · rw [if_neg hq]
        have hqm : q < n_pt N := by omega
        obtain ⟨b1, b2, b3, b4, b5, b6⟩ := hw.2.2.2.2.1 q hqm
        have fq := hf2 q hqm
        have hfV : ∀ p, p < 16 → V8 6 p = zI (f p) := fun p hp => by rw [g1 6 (by omega)]; exact hf p hp
        rw [q_isOpen hN8 hw (by omega)]
        simp (config := { maxSteps := 2000000 }) (disch := omega) only [rI_ret, rB, bI0, i_add1, rGi, iNn, hN8.2.2.2.2.1, hN8.2.2.2.2.2.1, q_hasBit, hfV, i_shl1, i_or]
        simp only [z_ge1 fq, z_lem1 fq]
        have stay : ¬ cross (n_fs N) (n_sn N) (n_op N) f (fun v => r'.testBit v) q → TT (kr2 (nI r') (nI (q + 1)) V8) (fun r W => ∃ x, r = .inl (some (.int x)) ∧ (∀ c, c ≠ 7 → W c = V c) ∧ ∃ r arr rk, x = nI r ∧ r < 512 ∧ reachI (n_fs N) (n_sn N) (n_op N) (n_pt N) (n_ft N) s f (fun v => r.testBit v) arr rk ∧ (∀ v, v < n_ft N → r.testBit v = true → v ≠ s → W 7 v = nI (arr v)) ∧ ∀ p, p < n_pt N → ¬ cross (n_fs N) (n_sn N) (n_op N) f (fun v => r.testBit v) p) := by
          intro hst
          refine hkr2 (n_pt N - (q + 1)) (by omega) _ _ _ ⟨r', arr', rk', q + 1, rfl, rfl, rfl, by omega, r1', g1, g2, g3, g4, ?_, g6⟩
          rcases g5 with g5 | ⟨g5, g7⟩
          · exact Or.inl g5
          · refine Or.inr ⟨g5, fun p hp => ?_⟩
            by_cases e : p = q
            · rw [e, ← g5]; exact hst
            · exact g7 p (by omega)
        have add : ∀ v, ((n_sn N q = v ∧ r'.testBit (n_fs N q) = true ∧ f q < 1) ∨ (n_fs N q = v ∧ r'.testBit (n_sn N q) = true ∧ -1 < f q)) → n_op N q = true → r'.testBit v = false → v < n_ft N → TT (rV (am_set V8 7 v (nI q)) (fun V12 => kr2 (nI (r' ||| 2 ^ v)) (nI (q + 1)) V12)) (fun r W => ∃ x, r = .inl (some (.int x)) ∧ (∀ c, c ≠ 7 → W c = V c) ∧ ∃ r arr rk, x = nI r ∧ r < 512 ∧ reachI (n_fs N) (n_sn N) (n_op N) (n_pt N) (n_ft N) s f (fun v => r.testBit v) arr rk ∧ (∀ v, v < n_ft N → r.testBit v = true → v ≠ s → W 7 v = nI (arr v)) ∧ ∀ p, p < n_pt N → ¬ cross (n_fs N) (n_sn N) (n_op N) f (fun v => r.testBit v) p) := by
          intro v hv hop hb hvn
          have h5 := reachI_add hE2 g2 hqm hop hb hv
          have hcr : cross (n_fs N) (n_sn N) (n_op N) f (fun v => r'.testBit v) q := by
            refine ⟨hop, ?_⟩
            rcases hv with ⟨e, e2, e3⟩ | ⟨e, e2, e3⟩
            · exact Or.inl ⟨e2, by rw [e]; exact hb, e3⟩
            · exact Or.inr ⟨e2, by rw [e]; exact hb, e3⟩
          have ext : (fun x => (r' ||| 2 ^ v).testBit x) = (fun x => r'.testBit x || decide (x = v)) := funext fun x => tb_or1
          have hlt : cnt (fun x => (r' ||| 2 ^ v).testBit x) (n_ft N) = cnt (fun x => r'.testBit x) (n_ft N) + 1 := cnt_add1 (n_ft N) v hvn hb (by rw [tb_or1]; simp) (fun i _ hi => by rw [tb_or1]; simp [hi])
          refine hkr2 (n_pt N - (q + 1)) (by omega) _ _ _ ⟨r' ||| 2 ^ v, _, _, q + 1, rfl, rfl, rfl, by omega, or512 r1' (by omega), fun c hc => (am_set_ne _ _ _ hc).trans (g1 c hc), by rw [ext]; exact h5, fun x hx hbx hxs => ?_, by omega, Or.inl (by omega), fun hno => ?_⟩
          · rw [am_set_get]
            by_cases e : x = v
            · rw [if_pos ⟨rfl, e⟩, if_pos e]
            · rw [if_neg (fun q => e q.2), if_neg e]
              rw [tb_or1] at hbx
              exact g3 x hx (by simpa [e] using hbx) hxs
          · have e := g6 hno
            rw [e] at hcr
            exact (hno q hqm hcr).elim
        cases e2 : n_op N q with
        | false =>
          rw [if_pos rfl]
          exact stay (fun h => by rw [h.1] at e2; cases e2)
        | true =>
          rw [if_neg (by decide)]
          cases ha : r'.testBit (n_fs N q) with
          | true =>
            cases hb : r'.testBit (n_sn N q) with
            | true =>
              simp (disch := omega) only [Bool.true_eq_false, if_false, not_false_eq_true, if_true]
              exact stay (fun h => by
                rcases h.2 with ⟨_, c3, _⟩ | ⟨_, c3, _⟩
                · exact tf hb c3
                · exact tf ha c3)
            | false =>
              simp (disch := omega) only [Bool.true_eq_false, if_false, not_true_eq_false, if_true]
              by_cases e3 : f q < 1
              · rw [if_neg (fun h => h e3)]
                exact add _ (Or.inl ⟨rfl, ha, e3⟩) e2 hb b2
              · rw [if_pos e3]
                exact stay (fun h => by
                  rcases h.2 with ⟨_, _, c3⟩ | ⟨c3, _, _⟩
                  · exact e3 c3
                  · exact tf c3 hb)
          | false =>
            cases hb : r'.testBit (n_sn N q) with
            | true =>
              simp (disch := omega) only [Bool.true_eq_false, if_false, not_true_eq_false, if_true]
              by_cases e3 : -1 < f q
              · rw [if_neg (fun h => h e3)]
                exact add _ (Or.inr ⟨rfl, hb, e3⟩) e2 ha b1
              · rw [if_pos e3]
                exact stay (fun h => by
                  rcases h.2 with ⟨c3, _, _⟩ | ⟨_, _, c3⟩
                  · exact tf c3 ha
                  · exact e3 c3)
            | false =>
              simp (disch := omega) only [if_true]
              exact stay (fun h => by
                rcases h.2 with ⟨c3, _, _⟩ | ⟨c3, _, _⟩
                · exact tf c3 ha
                · exact tf c3 hb)
  · rw [show (fun v => (2 ^ s : Nat).testBit v) = (fun x => decide (x = s)) from funext fun v => tb_pow]
    exact reachI_0 hs _
  · rw [tb_pow] at hv
    exact (hne (of_decide_eq_true hv)).elim
  · exact cnt_pos (n_ft N) s hs (by simp [tb_pow])
set_option maxHeartbeats 2000000 in
theorem s_addWay (hN : vN V i N) (hw : wN N) {s t k : Nat} (hs : s < n_ft N) (ht : t < n_ft N) {f : Nat → Int} (hf : flo V f) (hF : isFlow (n_fs N) (n_sn N) (n_op N) (n_pt N) s t f k) :
    TI (d_X9_addWay i (nI s) (nI t) V) (fun x W => (∀ c, c ≠ 6 → c ≠ 7 → W c = V c) ∧ ((x = nI 1 ∧ ∃ g, flo W g ∧ isFlow (n_fs N) (n_sn N) (n_op N) (n_pt N) s t g (k + 1)) ∨ (x = nI 0 ∧ flo W f ∧ ∃ R : Nat → Bool, R s = true ∧ R t = false ∧ ∀ p, p < n_pt N → ¬ cross (n_fs N) (n_sn N) (n_op N) f R p))) := by
  have w1 := hw.1
  have w2 := hw.2.1
  have hE3 : ∀ p, n_op N p = true → n_fs N p < n_ft N ∧ n_sn N p < n_ft N ∧ n_fs N p ≠ n_sn N p := fun p hp => (n_opE hw p hp).2
  rw [TI.T]
  unfold d_X9_addWay
  refine TT.I (s_reach hN hw hs hf hF.1) ?_
  rintro x W ⟨h1, r, arr, rk, rfl, r1, h2, h3, h4⟩
  rw [q_hasBit W (by omega) (by omega)]
  simp only [rI_ret, bI0]
  have hfW : flo W f := fun p hp => by rw [h1 6 (by omega)]; exact hf p hp
  cases hb : r.testBit t with
  | false =>
    rw [if_neg (by decide), nb0, rGt]
    exact TT.ret ⟨_, rfl, fun c _ hc => h1 c hc, Or.inr ⟨rfl, hfW, fun v => r.testBit v, h2.1, hb, h4⟩⟩
  | true =>
    rw [if_pos (by decide)]
    have hcn : cnt (fun v => r.testBit v) (n_ft N) ≤ n_ft N := cnt_le_n _ _
    have hrt := h2.2.2.1 t ht hb
    refine lr_X9_addWay_21 (I := fun n9 a st V9 => ∃ x j g, a = nI x ∧ st = nI j ∧ n9 = rk x ∧ rk x + j ≤ rk t ∧ (∀ c, c ≠ 6 → V9 c = W c) ∧ flo V9 g ∧ backI (n_fs N) (n_sn N) (n_op N) (n_pt N) (n_ft N) s t k f g (fun v => r.testBit v) arr rk x) ?_ (rk t) 1000 (by omega) _ _ W ⟨t, 0, f, rfl, rfl, rfl, by omega, fun _ _ => rfl, hfW, backI_0 hF ht hb⟩
    rintro n9 kr hkr a st V9 ⟨x, j, g, rfl, rfl, rfl, j1, g1, g2, g3⟩
    have hN9 : vN V9 i N := vN_cg hN fun d hd _ => (g1 d (by have := sS_ge i; omega)).trans (h1 d (by have := sS_ge i; omega))
    have hxn := g3.2.2.1
    unfold bd_X9_addWay_21
    simp (disch := omega) only [hN9.2.1, i_leE, i_eqE]
    rw [if_neg (by omega)]
    by_cases hxs : x = s
    · rw [if_pos hxs, nb1, rGt]
      rw [hxs] at g3
      exact TT.ret ⟨_, rfl, fun c h6 h7 => (g1 c h6).trans (h1 c h7), Or.inl ⟨rfl, g, g2, back_end g3⟩⟩
    · rw [if_neg hxs]
      obtain ⟨a1, a2, a3⟩ := back_step hE3 h2 g3 hxs
      obtain ⟨b1, b2, b3, b4, b5, b6⟩ := hw.2.2.2.2.1 _ a1
      have harr : V9 7 x = nI (arr x) := by rw [g1 7 (by omega)]; exact h3 x hxn g3.2.1 hxs
      have hgx : V9 6 (arr x) = zI (g (arr x)) := g2 _ (by omega)
      have s6 : sS i + 6 ≠ 6 := by have := sS_ge i; omega
      have s5 : sS i + 5 ≠ 6 := by have := sS_ge i; omega
      simp (disch := omega) only [rGi, iNn, harr, rB, hN9.2.2.2.2.1, hN9.2.2.2.2.2.1, i_eqE, i_add1, rV, hgx, am_set_ne _ _ _ s6, am_set_ne _ _ _ s5]
      rcases a3 with ⟨c1, c2, c3⟩ | ⟨c1, c2, c3, c4⟩
      · rw [if_neg (fun q => q c1)]
        rw [if_neg (by decide), if_neg (by decide), z_add1]
        refine hkr (rk (n_fs N (arr x))) c2 _ _ _ ⟨_, j + 1, _, rfl, rfl, rfl, by omega, fun c hc => (am_set_ne _ _ _ hc).trans (g1 c hc), flo_set g2, ?_⟩
        have e : (fun p => if p = arr x then g (arr x) + 1 else g p) = (fun q => if q = arr x then g q + 1 else g q) := funext fun p => by
          by_cases e : p = arr x
          · rw [if_pos e, if_pos e, e]
          · rw [if_neg e, if_neg e]
        rw [e]; exact c3
      · rw [if_pos c1]
        rw [if_pos (by decide), if_pos (by decide), z_sub1]
        refine hkr (rk (n_sn N (arr x))) c3 _ _ _ ⟨_, j + 1, _, rfl, rfl, rfl, by omega, fun c hc => (am_set_ne _ _ _ hc).trans (g1 c hc), flo_set g2, ?_⟩
        have e : (fun p => if p = arr x then g (arr x) - 1 else g p) = (fun q => if q = arr x then g q - 1 else g q) := funext fun p => by
          by_cases e : p = arr x
          · rw [if_pos e, if_pos e, e]
          · rw [if_neg e, if_neg e]
        rw [e]; exact c4
/-- the smallest cut between s and t, or 16 -/
def isCut (N : nT) (s t k : Nat) : Prop := k ≤ 16 ∧ (∀ S : Nat → Bool, S s = true → S t = false → k ≤ leav (n_fs N) (n_sn N) (n_op N) (n_pt N) S) ∧ (k = 16 ∨ ∃ S : Nat → Bool, S s = true ∧ S t = false ∧ k = leav (n_fs N) (n_sn N) (n_op N) (n_pt N) S)
theorem isCut_eq {s t k l : Nat} (h : isCut N s t k) (h' : isCut N s t l) : k = l := by
  obtain ⟨a1, a2, a3⟩ := h
  obtain ⟨b1, b2, b3⟩ := h'
  refine Nat.le_antisymm ?_ ?_
  · rcases b3 with rfl | ⟨S, c1, c2, rfl⟩
    · exact a1
    · exact a2 S c1 c2
  · rcases a3 with rfl | ⟨S, c1, c2, rfl⟩
    · exact b1
    · exact b2 S c1 c2
set_option maxHeartbeats 1000000 in
theorem s_disjoint (hN : vN V i N) (hw : wN N) {s t : Nat} (hs : s < n_ft N) (ht : t < n_ft N) :
    TI (d_X9_mostDisjoint i (nI s) (nI t) V) (fun x W => (∀ c, c ≠ 6 → c ≠ 7 → W c = V c) ∧ ∃ k, x = nI k ∧ isCut N s t k) := by
  have w1 := hw.1
  have w2 := hw.2.1
  rw [TI.T]
  unfold d_X9_mostDisjoint
  refine lr_X9_mostDisjoint_3 (I := fun n9 a V9 => ∃ j, a = nI j ∧ n9 = 16 - j ∧ j ≤ 16 ∧ (∀ c, c ≠ 6 → c ≠ 7 → V9 c = V c) ∧ ∀ p, p < j → V9 6 p = zI 0) ?_ 16 1000 (by omega) _ V ⟨0, rfl, rfl, by omega, fun _ _ _ => rfl, fun p hp => by omega⟩
  rintro n9 kr hkr a V9 ⟨j, rfl, rfl, j1, h1, h2⟩
  unfold bd_X9_mostDisjoint_3
  simp (disch := omega) only [i_leE]
  by_cases hj : 16 ≤ j
  · rw [if_pos hj]
    have e : j = 16 := by omega
    subst e
    refine lr_X9_mostDisjoint_27 (I := fun n9 a V8 => ∃ k f, a = nI k ∧ n9 = 16 - k ∧ k ≤ 16 ∧ (∀ c, c ≠ 6 → c ≠ 7 → V8 c = V c) ∧ flo V8 f ∧ isFlow (n_fs N) (n_sn N) (n_op N) (n_pt N) s t f k) ?_ 16 1000 (by omega) _ V9 ⟨0, fun _ => 0, rfl, rfl, by omega, h1, h2, flow_0⟩
    rintro n8 kr2 hkr2 a V8 ⟨k, f, rfl, rfl, k1, g1, g2, g3⟩
    have hN8 : vN V8 i N := vN_cg hN fun d hd _ => g1 d (by have := sS_ge i; omega) (by have := sS_ge i; omega)
    unfold bd_X9_mostDisjoint_27
    simp (disch := omega) only [i_leE]
    by_cases hk : 16 ≤ k
    · rw [if_pos hk]
      exact TT.ret ⟨_, rfl, g1, k, rfl, k1, fun S h3 h4 => flow_le g3 S h3 h4, Or.inl (by omega)⟩
    · rw [if_neg hk]
      refine TT.I (s_addWay hN8 hw hs ht g2 g3) ?_
      rintro x W ⟨f1, ⟨rfl, g, f2, f3⟩ | ⟨rfl, f2, R, f3, f4, f5⟩⟩
      · rw [if_neg (by decide), i_add1]
        exact hkr2 (16 - (k + 1)) (by omega) _ _ ⟨k + 1, g, rfl, rfl, by omega, fun c c1 c2 => (f1 c c1 c2).trans (g1 c c1 c2), f2, f3⟩
      · rw [if_pos (by decide)]
        exact TT.ret ⟨_, rfl, fun c c1 c2 => (f1 c c1 c2).trans (g1 c c1 c2), k, rfl, k1, fun S h3 h4 => flow_le g3 S h3 h4, Or.inr ⟨R, f3, f4, flow_eq g3 R f3 f4 f5⟩⟩
  · rw [if_neg hj]
    simp (disch := omega) only [rGi, iNn, rV, i_add1]
    refine hkr (16 - (j + 1)) (by omega) _ _ ⟨j + 1, rfl, rfl, by omega, fun c hc hc2 => (am_set_ne _ _ _ hc).trans (h1 c hc hc2), fun p hp => ?_⟩
    rw [am_set_get]
    by_cases e : p = j
    · rw [if_pos ⟨rfl, e⟩]; rfl
    · rw [if_neg (fun q => e q.2)]
      exact h2 p (by omega)
theorem s_countLeaving (hN : vN V i N) (hw : wN N) {r : Nat} (hr : r < 512) :
    TI (d_X9_countLeaving i (nI r) V) (fun x W => W = V ∧ x = nI (leav (n_fs N) (n_sn N) (n_op N) (n_pt N) (fun v => r.testBit v))) := by
  have w1 := hw.1
  have w2 := hw.2.1
  rw [TI.T]
  unfold d_X9_countLeaving
  refine lr_X9_countLeaving_4 (I := fun n9 a k V9 => V9 = V ∧ ∃ j, a = nI (leav (n_fs N) (n_sn N) (n_op N) j (fun v => r.testBit v)) ∧ k = nI j ∧ n9 = n_pt N - j ∧ j ≤ n_pt N) ?_ (n_pt N) 1000 (by omega) _ _ V ⟨rfl, 0, rfl, rfl, rfl, by omega⟩
  rintro n9 kr hkr a k V9 ⟨rfl, j, rfl, rfl, rfl, j1⟩
  unfold bd_X9_countLeaving_4
  simp (disch := omega) only [hN.2.2.1, i_leE]
  by_cases hj : n_pt N ≤ j
  · rw [if_pos hj]
    have e : j = n_pt N := by omega
    subst e
    exact TT.ret ⟨_, rfl, rfl, rfl⟩
  · rw [if_neg hj]
    have hjm : j < n_pt N := by omega
    obtain ⟨b1, b2, b3, b4, b5, b6⟩ := hw.2.2.2.2.1 j hjm
    rw [q_isOpen hN hw (by omega)]
    simp (disch := omega) only [rI_ret, rB, bI0, i_add1, rGi, iNn, hN.2.2.2.2.1, hN.2.2.2.2.2.1, q_hasBit]
    have nx : ∀ k, k = leav (n_fs N) (n_sn N) (n_op N) (j + 1) (fun v => r.testBit v) → TT (kr (nI k) (nI (j + 1)) V9) (fun x W => ∃ x_1, x = .inl (some (.int x_1)) ∧ W = V9 ∧ x_1 = nI (leav (n_fs N) (n_sn N) (n_op N) (n_pt N) (fun v => r.testBit v))) := by
      rintro k rfl
      exact hkr (n_pt N - (j + 1)) (by omega) _ _ _ ⟨rfl, j + 1, rfl, rfl, rfl, by omega⟩
    cases e2 : n_op N j with
    | false =>
      rw [if_pos rfl]
      refine nx _ ?_
      unfold leav
      rw [cnt, if_neg (by simp [e2])]; rfl
    | true =>
      rw [if_neg (by decide)]
      cases ha : r.testBit (n_fs N j) <;> cases hb : r.testBit (n_sn N j)
      · rw [if_pos rfl]
        refine nx _ ?_
        unfold leav
        rw [cnt, if_neg (by simp [ha, hb])]; rfl
      · rw [if_neg (by decide)]
        refine nx _ ?_
        unfold leav
        rw [cnt, if_pos (by simp [e2, ha, hb])]
      · rw [if_neg (by decide)]
        refine nx _ ?_
        unfold leav
        rw [cnt, if_pos (by simp [e2, ha, hb])]
      · rw [if_pos rfl]
        refine nx _ ?_
        unfold leav
        rw [cnt, if_neg (by simp [ha, hb])]; rfl
theorem mask_ex (S : Nat → Bool) : ∀ n, ∃ r, r < 2 ^ n ∧ ∀ v, v < n → r.testBit v = S v
  | 0 => ⟨0, by simp, fun v hv => by omega⟩
  | n + 1 => by
    obtain ⟨r, h1, h2⟩ := mask_ex S n
    have h3 : 2 ^ (n + 1) = 2 * 2 ^ n := by rw [Nat.pow_succ]; omega
    cases hs : S n with
    | false =>
      refine ⟨r, by omega, fun v hv => ?_⟩
      by_cases e : v = n
      · rw [e, hs, Nat.testBit_lt_two_pow h1]
      · exact h2 v (by omega)
    | true =>
      refine ⟨r ||| 2 ^ n, Nat.or_lt_two_pow (by omega) (by omega), fun v hv => ?_⟩
      rw [tb_or1]
      by_cases e : v = n
      · rw [e, hs]; simp
      · rw [h2 v (by omega)]; simp [e]
theorem leav_cg (hw : wN N) {S S' : Nat → Bool} (h : ∀ v, v < n_ft N → S v = S' v) : leav (n_fs N) (n_sn N) (n_op N) (n_pt N) S = leav (n_fs N) (n_sn N) (n_op N) (n_pt N) S' := cnt_congr _ fun p hp => by
  have := hw.2.2.2.2.1 p hp
  rw [h _ this.1, h _ this.2.1]
set_option maxHeartbeats 1000000 in
theorem s_fewest (hN : vN V i N) (hw : wN N) {s t : Nat} (hs : s < n_ft N) (ht : t < n_ft N) :
    TI (d_X9_fewestLeaving i (nI s) (nI t) V) (fun x W => W = V ∧ ∃ k, x = nI k ∧ isCut N s t k) := by
  have w1 := hw.1
  have w2 := hw.2.1
  have hp9 : 2 ^ n_ft N ≤ 512 := show 2 ^ n_ft N ≤ 2 ^ 9 from Nat.pow_le_pow_right (by omega) w1
  rw [TI.T]
  unfold d_X9_fewestLeaving
  refine lr_X9_fewestLeaving_15 (I := fun n9 a k V9 => V9 = V ∧ ∃ l j, a = nI l ∧ k = nI j ∧ n9 = 2 ^ n_ft N - j ∧ j ≤ 2 ^ n_ft N ∧ l ≤ 16 ∧ (∀ r, r < j → r.testBit s = true → r.testBit t = false → l ≤ leav (n_fs N) (n_sn N) (n_op N) (n_pt N) (fun v => r.testBit v)) ∧ (l = 16 ∨ ∃ S : Nat → Bool, S s = true ∧ S t = false ∧ l = leav (n_fs N) (n_sn N) (n_op N) (n_pt N) S)) ?_ (2 ^ n_ft N) 1000 (by omega) _ _ V ⟨rfl, 16, 0, rfl, rfl, rfl, Nat.zero_le _, by omega, fun r hr => by omega, Or.inl rfl⟩
  rintro n9 kr hkr a k V9 ⟨rfl, l, j, rfl, rfl, rfl, j1, l1, h1, h2⟩
  unfold bd_X9_fewestLeaving_15
  rw [hN.2.1, i_shl1 (by omega)]
  simp (disch := omega) only [i_leE]
  by_cases hj : 2 ^ n_ft N ≤ j
  · rw [if_pos hj]
    refine TT.ret ⟨_, rfl, rfl, l, rfl, l1, fun S h3 h4 => ?_, h2⟩
    obtain ⟨r, r1, r2⟩ := mask_ex S (n_ft N)
    rw [leav_cg hw (fun v hv => (r2 v hv).symm)]
    exact h1 r (by omega) (by rw [r2 s hs]; exact h3) (by rw [r2 t ht]; exact h4)
  · rw [if_neg hj]
    simp (disch := omega) only [rI_ret, rB, bI0, i_add1, q_hasBit]
    have stay : ¬ (j.testBit s = true ∧ j.testBit t = false) → TT (kr (nI l) (nI (j + 1)) V9) (fun x W => ∃ x_1, x = .inl (some (.int x_1)) ∧ W = V9 ∧ ∃ k, x_1 = nI k ∧ isCut N s t k) := by
      intro hn
      refine hkr (2 ^ n_ft N - (j + 1)) (by omega) _ _ _ ⟨rfl, l, j + 1, rfl, rfl, rfl, by omega, l1, fun r hr h3 h4 => ?_, h2⟩
      by_cases e : r = j
      · rw [e] at h3 h4; exact (hn ⟨h3, h4⟩).elim
      · exact h1 r (by omega) h3 h4
    cases ha : j.testBit s with
    | false =>
      rw [if_pos rfl]
      exact stay (fun h => by rw [ha] at h; cases h.1)
    | true =>
      rw [if_neg (by decide)]
      cases hb : j.testBit t with
      | true =>
        rw [if_pos (by decide)]
        exact stay (fun h => by rw [hb] at h; cases h.2)
      | false =>
        rw [if_neg (by decide)]
        refine TT.I (s_countLeaving hN hw (by omega)) ?_
        rintro x W ⟨rfl, rfl⟩
        have hle : leav (n_fs N) (n_sn N) (n_op N) (n_pt N) (fun v => j.testBit v) ≤ n_pt N := cnt_le_n _ _
        simp (disch := omega) only [mnE]
        refine hkr (2 ^ n_ft N - (j + 1)) (by omega) _ _ _ ⟨rfl, _, j + 1, rfl, rfl, rfl, by omega, Nat.le_trans (Nat.min_le_left _ _) l1, fun r hr h3 h4 => ?_, ?_⟩
        · by_cases e : r = j
          · rw [e]; exact Nat.min_le_right _ _
          · exact Nat.le_trans (Nat.min_le_left _ _) (h1 r (by omega) h3 h4)
        · by_cases e : l ≤ leav (n_fs N) (n_sn N) (n_op N) (n_pt N) (fun v => j.testBit v)
          · rw [Nat.min_eq_left e]; exact h2
          · rw [Nat.min_eq_right (by omega)]
            exact Or.inr ⟨fun v => j.testBit v, ha, hb, rfl⟩
end
