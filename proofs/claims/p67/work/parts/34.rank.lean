/-! ===== orders ===== -/
def strict (ah : Nat → Nat → Bool) (n : Nat) : Prop := (∀ a, a < n → ah a a = false) ∧ (∀ a b c, a < n → b < n → c < n → ah a b = true → ah b c = true → ah a c = true) ∧ ∀ a b, a < n → b < n → a ≠ b → ah a b = true ∨ ah b a = true
def rank (ah : Nat → Nat → Bool) (n x : Nat) : Nat := cnt (fun o => decide (o ≠ x) && ah o x) n
section
variable {ah : Nat → Nat → Bool} {n : Nat}
theorem rank_lt1 (h : strict ah n) {x y : Nat} (hx : x < n) (hy : y < n) (hxy : ah x y = true) : rank ah n x < rank ah n y := by
  obtain ⟨h1, h2, h3⟩ := h
  have hne : x ≠ y := fun e => by rw [e, h1 y hy] at hxy; cases hxy
  refine cnt_lt n (fun i hi hp => ?_) ⟨x, hx, by simp [hne, hxy], by simp⟩
  simp only [Bool.and_eq_true, decide_eq_true_eq] at hp ⊢
  refine ⟨fun e => ?_, h2 i x y hi hx hy hp.2 hxy⟩
  have := h2 x i x hx hi hx (by rw [e]; exact hxy) hp.2
  rw [h1 x hx] at this
  cases this
theorem rank_lt (h : strict ah n) {x y : Nat} (hx : x < n) (hy : y < n) : rank ah n x < rank ah n y ↔ ah x y = true := by
  constructor
  · intro hl
    refine Classical.byContradiction fun hn => ?_
    by_cases e : x = y
    · rw [e] at hl; omega
    · have := rank_lt1 h hy hx ((h.2.2 x y hx hy e).resolve_left hn)
      omega
  · exact rank_lt1 h hx hy
theorem rank_inj (h : strict ah n) {x y : Nat} (hx : x < n) (hy : y < n) (e : rank ah n x = rank ah n y) : x = y := by
  refine Classical.byContradiction fun hne => ?_
  rcases h.2.2 x y hx hy hne with q | q
  · have := rank_lt1 h hx hy q; omega
  · have := rank_lt1 h hy hx q; omega
theorem cnt_inj {f : Nat → Nat} (n : Nat) (hf : ∀ x y, x < n → y < n → f x = f y → x = y) : ∀ k, cnt (fun o => decide (f o < k)) n ≤ k
  | 0 => by rw [cnt_zero n (fun i _ => by simp)]; exact Nat.le_refl _
  | k + 1 => by
    have h1 := cnt_inj n hf k
    have h2 : cnt (fun o => decide (f o = k)) n ≤ 1 := by
      rcases Nat.eq_zero_or_pos (cnt (fun o => decide (f o = k)) n) with e | e
      · omega
      · obtain ⟨x, hx, hp⟩ := cnt_ex n e
        have := cnt_one (p := fun o => decide (f o = k)) n x hx hp (fun i hi hq => hf i x hi hx ((of_decide_eq_true hq).trans (of_decide_eq_true hp).symm))
        omega
    have h3 := cnt_split (fun o => decide (f o < k + 1)) (fun o => decide (f o < k)) n
    rw [cnt_congr (p := fun i => decide (f i < k + 1) && decide (f i < k)) (q := fun o => decide (f o < k)) n (fun i _ => by
      by_cases e : f i < k
      · simp [e]; omega
      · simp [e]), cnt_congr (p := fun i => decide (f i < k + 1) && !decide (f i < k)) (q := fun o => decide (f o = k)) n (fun i _ => by
      by_cases e : f i = k
      · simp [e]
      · by_cases e2 : f i < k
        · simp [e2, e]
        · have : ¬ f i < k + 1 := by omega
          simp [e, this])] at h3
    omega
theorem rank_ex (h : strict ah n) {k : Nat} (hk : k < n) : ∃ x, x < n ∧ rank ah n x = k := by
  have hinj : ∀ x y, x < n → y < n → rank ah n x = rank ah n y → x = y := fun x y hx hy e => rank_inj h hx hy e
  have h1 := cnt_inj n hinj k
  have hex : ∃ x, x < n ∧ k ≤ rank ah n x := Classical.byContradiction fun hn => by
    have : cnt (fun o => decide (rank ah n o < k)) n = n := by
      have h2 := cnt_le_n (fun o => decide (rank ah n o < k)) n
      have h3 : cnt (fun _ => true) n ≤ cnt (fun o => decide (rank ah n o < k)) n := cnt_mono n (fun i hi _ => decide_eq_true (Nat.lt_of_not_le fun q => hn ⟨i, hi, q⟩))
      have h4 : ∀ n, cnt (fun _ => true) n = n := by
        intro n
        induction n with
        | zero => rfl
        | succ n ih => rw [cnt, ih, if_pos rfl]
      rw [h4] at h3
      omega
    omega
  obtain ⟨x, hx, hkx, hm⟩ := least_ex (rank ah n) (fun x => k ≤ rank ah n x) n hex
  refine ⟨x, hx, Nat.le_antisymm ?_ hkx⟩
  refine Nat.le_trans (cnt_mono n (fun i hi hp => ?_)) h1
  simp only [Bool.and_eq_true, decide_eq_true_eq] at hp ⊢
  have h2 := rank_lt1 h hi hx hp.2
  refine Nat.lt_of_not_le fun q => ?_
  have := hm i hi q
  omega
theorem rank_lt_n (h : strict ah n) {x : Nat} (hx : x < n) : rank ah n x < n := by
  have h1 := cnt_lt (p := fun o => decide (o ≠ x) && ah o x) (q := fun _ => true) n (fun _ _ _ => rfl) ⟨x, hx, rfl, by simp⟩
  have h2 := cnt_le_n (fun _ => true) n
  unfold rank
  omega
end
/-! ===== groups counted by their first fields; bridges ===== -/
def newc (fs sn : Nat → Nat) (E : Nat → Bool) (v : Nat) : Prop := ∀ u, u < v → ¬ conn fs sn E u v
noncomputable def nGroups (fs sn : Nat → Nat) (E : Nat → Bool) (n : Nat) : Nat := cnt (fun v => @decide (newc fs sn E v) (Classical.propDecidable _)) n
def without (E : Nat → Bool) (p : Nat) : Nat → Bool := fun q => E q && decide (q ≠ p)
section
variable {fs sn : Nat → Nat} {E : Nat → Bool} {n m p : Nat}
theorem without_le {q : Nat} (h : without E p q = true) : E q = true := by
  simp only [without, Bool.and_eq_true] at h
  exact h.1
theorem conn_without (hp : E p = true) {u v : Nat} : conn fs sn E u v ↔ conn fs sn (without E p) u v ∨ (conn fs sn (without E p) u (fs p) ∧ conn fs sn (without E p) (sn p) v) ∨ (conn fs sn (without E p) u (sn p) ∧ conn fs sn (without E p) (fs p) v) :=
  conn_add (p := p) (fun q => by
    by_cases e : q = p
    · simp [without, e, hp]
    · simp [without, e])
theorem first_ex (P : Nat → Prop) : ∀ v, P v → ∃ a, a ≤ v ∧ P a ∧ ∀ u, u < a → ¬ P u
  | 0, h => ⟨0, Nat.le_refl _, h, fun u hu => by omega⟩
  | v + 1, h => by
    by_cases hx : ∃ x, x ≤ v ∧ P x
    · obtain ⟨x, hxv, hx⟩ := hx
      have key : ∀ k, ∀ x, x ≤ k → P x → ∃ a, a ≤ x ∧ P a ∧ ∀ u, u < a → ¬ P u := by
        intro k
        induction k with
        | zero => intro x hx hp; exact ⟨x, Nat.le_refl _, hp, fun u hu => by omega⟩
        | succ k ih =>
          intro x hx hp
          by_cases hy : ∃ y, y < x ∧ P y
          · obtain ⟨y, hy1, hy2⟩ := hy
            obtain ⟨a, a1, a2, a3⟩ := ih y (by omega) hy2
            exact ⟨a, by omega, a2, a3⟩
          · exact ⟨x, Nat.le_refl _, hp, fun u hu hu2 => hy ⟨u, hu, hu2⟩⟩
      obtain ⟨a, a1, a2, a3⟩ := key x x (Nat.le_refl _) hx
      exact ⟨a, by omega, a2, a3⟩
    · exact ⟨v + 1, Nat.le_refl _, h, fun u hu hp => hx ⟨u, by omega, hp⟩⟩
theorem groups_more (hp : E p = true) (h1 : fs p < n) (h2 : sn p < n) : nGroups fs sn E n < nGroups fs sn (without E p) n ↔ ¬ conn fs sn (without E p) (fs p) (sn p) := by
  have mono : ∀ v, newc fs sn E v → newc fs sn (without E p) v := fun v h u hu hc => h u hu (conn_mono (fun _ => without_le) hc)
  constructor
  · intro hl hc
    have e : ∀ u v, conn fs sn E u v ↔ conn fs sn (without E p) u v := fun u v => by
      rw [conn_without hp]
      constructor
      · rintro (q | ⟨q1, q2⟩ | ⟨q1, q2⟩)
        · exact q
        · exact conn_trans q1 (conn_trans hc q2)
        · exact conn_trans q1 (conn_trans (conn_symm hc) q2)
      · exact Or.inl
    have : nGroups fs sn E n = nGroups fs sn (without E p) n := cnt_congr n (fun v _ => by
      have : newc fs sn E v ↔ newc fs sn (without E p) v := by
        unfold newc
        constructor
        · exact fun h u hu hq => h u hu ((e u v).mpr hq)
        · exact fun h u hu hq => h u hu ((e u v).mp hq)
      simp [this])
    omega
  · intro hc
    obtain ⟨a, a1, a2, a3⟩ := first_ex (fun x => conn fs sn (without E p) (fs p) x) (fs p) (conn_refl _)
    obtain ⟨b, b1, b2, b3⟩ := first_ex (fun x => conn fs sn (without E p) (sn p) x) (sn p) (conn_refl _)
    have hab : conn fs sn E a b := (conn_without hp).mpr (Or.inr (Or.inl ⟨conn_symm a2, b2⟩))
    have hne : a ≠ b := fun e => hc (conn_trans a2 (by rw [e]; exact conn_symm b2))
    have na : newc fs sn (without E p) a := fun u hu hq => a3 u hu (conn_trans a2 (conn_symm hq))
    have nb : newc fs sn (without E p) b := fun u hu hq => b3 u hu (conn_trans b2 (conn_symm hq))
    refine cnt_lt n (fun v _ hv => ?_) ?_
    · simp only [decide_eq_true_eq] at hv ⊢
      exact mono v hv
    · rcases Nat.lt_or_gt_of_ne hne with hlt | hlt
      · refine ⟨b, by omega, by simpa using nb, ?_⟩
        simp only [decide_eq_false_iff_not]
        exact fun h => h a hlt hab
      · refine ⟨a, by omega, by simpa using na, ?_⟩
        simp only [decide_eq_false_iff_not]
        exact fun h => h b hlt (conn_symm hab)
/-- a bridge: its ends part without it -/
def isBr (fs sn : Nat → Nat) (E : Nat → Bool) (p : Nat) : Prop := E p = true ∧ ¬ conn fs sn (without E p) (fs p) (sn p)
/-- .. just where one path leaves some set between its ends -/
theorem br_cut (hm : ∀ q, E q = true → q < m) (hp : E p = true) (hne : fs p ≠ sn p) : isBr fs sn E p ↔ ∃ S : Nat → Bool, S (fs p) = true ∧ S (sn p) = false ∧ leav fs sn E m S = 1 := by
  constructor
  · rintro ⟨-, h⟩
    obtain ⟨S, hS, h1, h2⟩ := not_conn h
    have hd : ∀ x, Decidable (S x) := fun x => Classical.propDecidable _
    refine ⟨fun x => decide (S x), by simp [h1], by simp [h2], ?_⟩
    refine cnt_one m p (hm p hp) (by simp [hp, h1, h2]) (fun i _ hi => ?_)
    refine Classical.byContradiction fun hne => ?_
    simp only [Bool.and_eq_true, bne_iff_ne] at hi
    have := hS i (by simp [without, hi.1, hne])
    exact hi.2 (by simp [this])
  · rintro ⟨S, h1, h2, h3⟩
    refine ⟨hp, fun hc => ?_⟩
    have := hc (fun x => S x = true) (fun q hq => ?_) h1
    · rw [h2] at this; cases this
    · have hEq := without_le hq
      have hqp : q ≠ p := by
        simp only [without, Bool.and_eq_true, decide_eq_true_eq] at hq
        exact hq.2
      refine Classical.byContradiction fun hn => hqp ?_
      refine cnt_one_of m q p h3 (hm q hEq) (hm p hp) ?_ (by simp [hp, h1, h2])
      simp only [hEq, Bool.true_and, bne_iff_ne]
      intro e
      exact hn (by show S (fs q) = true ↔ S (sn q) = true; rw [e])
theorem leav_pos (hm : ∀ q, E q = true → q < m) (hp : E p = true) (S : Nat → Bool) (h1 : S (fs p) = true) (h2 : S (sn p) = false) : 1 ≤ leav fs sn E m S :=
  cnt_pos m p (hm p hp) (by simp [hp, h1, h2])
end
