/-! ===== costs of ways by potentials: m paths with ends fs, sn < n, costs co ≥ 1, E usable; the cost 1000 stands for: no way ===== -/
/-- a potential: no usable path's ends differ by more than its cost -/
def pot (fs sn co : Nat → Nat) (E : Nat → Bool) (d : Nat → Nat) : Prop := ∀ p, E p = true → d (fs p) ≤ d (sn p) + co p ∧ d (sn p) ≤ d (fs p) + co p
/-- nothing below a potential that is 0 at u and at most 1000 -/
def above (fs sn co : Nat → Nat) (E : Nat → Bool) (n u : Nat) (c : Nat → Nat) : Prop := ∀ d, pot fs sn co E d → d u = 0 → (∀ x, d x ≤ 1000) → ∀ x, x < n → d x ≤ c x
/-- the costs of the cheapest ways from u: a potential, above all others, and each is reached by a path -/
def isD (fs sn co : Nat → Nat) (E : Nat → Bool) (n u : Nat) (c : Nat → Nat) : Prop :=
  (∀ p, E p = true → c (fs p) ≤ c (sn p) + co p ∧ c (sn p) ≤ c (fs p) + co p) ∧ c u = 0 ∧ (∀ x, x < n → c x ≤ 1000) ∧ above fs sn co E n u c
/-- each cost below 1000 is 0 at u, or by a path from elsewhere -/
def tight (fs sn co : Nat → Nat) (E : Nat → Bool) (n u : Nat) (c : Nat → Nat) : Prop :=
  ∀ v, v < n → v ≠ u → c v < 1000 → ∃ p, E p = true ∧ ((sn p = v ∧ c v = c (fs p) + co p) ∨ (fs p = v ∧ c v = c (sn p) + co p))
section
variable {fs sn co : Nat → Nat} {E : Nat → Bool} {n u v : Nat} {c c' : Nat → Nat}
/-- a row of costs as a potential for all numbers -/
theorem isD_pot (hE : ∀ p, E p = true → fs p < n ∧ sn p < n) (h : isD fs sn co E n u c) : pot fs sn co E (fun x => if x < n then c x else 1000) := by
  intro p hp
  obtain ⟨h1, h2⟩ := hE p hp
  have := h.1 p hp
  dsimp only
  rw [if_pos h1, if_pos h2]
  exact this
theorem isD_le (hE : ∀ p, E p = true → fs p < n ∧ sn p < n) (hu : u < n) (h : isD fs sn co E n u c) (h' : above fs sn co E n u c') : ∀ x, x < n → c x ≤ c' x := by
  intro x hx
  have := h' (fun x => if x < n then c x else 1000) (isD_pot hE h) (by rw [if_pos hu]; exact h.2.1) (fun y => by
    by_cases hy : y < n
    · rw [if_pos hy]; exact h.2.2.1 y hy
    · rw [if_neg hy]; omega) x hx
  rw [if_pos hx] at this
  exact this
theorem isD_eq (hE : ∀ p, E p = true → fs p < n ∧ sn p < n) (hu : u < n) (h : isD fs sn co E n u c) (h' : isD fs sn co E n u c') : ∀ x, x < n → c x = c' x := fun x hx =>
  Nat.le_antisymm (isD_le hE hu h h'.2.2.2 x hx) (isD_le hE hu h' h.2.2.2 x hx)
theorem isD_symm1 (hE : ∀ p, E p = true → fs p < n ∧ sn p < n) (hu : u < n) (hv : v < n) (h : isD fs sn co E n u c) (h' : isD fs sn co E n v c') : c v ≤ c' u := by
  have hx := h'.2.2.2 (fun x => c v - (if x < n then c x else 1000)) (fun p hp => by
    obtain ⟨h1, h2⟩ := hE p hp
    obtain ⟨h3, h4⟩ := h.1 p hp
    dsimp only
    rw [if_pos h1, if_pos h2]
    omega) (by rw [if_pos hv]; omega) (fun x => by have := h.2.2.1 v hv; omega) u hu
  rw [if_pos hu, h.2.1] at hx
  omega
theorem isD_symm (hE : ∀ p, E p = true → fs p < n ∧ sn p < n) (hu : u < n) (hv : v < n) (h : isD fs sn co E n u c) (h' : isD fs sn co E n v c') : c v = c' u :=
  Nat.le_antisymm (isD_symm1 hE hu hv h h') (isD_symm1 hE hv hu h' h)
theorem isD_zero (hco : ∀ p, E p = true → 1 ≤ co p) (hv : v < n) (h : isD fs sn co E n u c) : c v = 0 ↔ u = v := by
  constructor
  · intro h0
    refine Classical.byContradiction fun hne => ?_
    have := h.2.2.2 (fun x => if x = u then 0 else 1) (fun p hp => by
      have := hco p hp
      by_cases e1 : fs p = u <;> by_cases e2 : sn p = u <;> simp [e1, e2] <;> omega) (by simp) (fun x => by
      show (if x = u then 0 else 1) ≤ 1000
      by_cases e1 : x = u <;> simp [e1]) v hv
    simp [Ne.symm hne] at this
    omega
  · rintro rfl
    exact h.2.1
/-- below 1000 just where there is a way, if what is below 1000 is below 990 -/
theorem isD_conn (hE : ∀ p, E p = true → fs p < n ∧ sn p < n) (hco : ∀ p, E p = true → co p ≤ 9) (hu : u < n) (hv : v < n) (h : isD fs sn co E n u c) (hb : ∀ x, x < n → c x < 1000 → c x < 990) : c v < 1000 ↔ conn fs sn E u v := by
  constructor
  · intro hlt
    refine Classical.byContradiction fun hn => ?_
    obtain ⟨S, hS, hSu, hSv⟩ := not_conn hn
    have hd : ∀ x, Decidable (S x) := fun x => Classical.propDecidable _
    have := h.2.2.2 (fun x => if S x then 0 else 1000) (fun p hp => by
      have := hS p hp
      by_cases e1 : S (fs p)
      · simp [e1, this.mp e1]
      · have e2 : ¬ S (sn p) := fun q => e1 (this.mpr q)
        simp [e1, e2]) (by simp [hSu]) (fun x => by
      show (if S x then 0 else 1000) ≤ 1000
      by_cases e1 : S x <;> simp [e1]) v hv
    simp [hSv] at this
    omega
  · intro hc
    refine (hc (fun x => x < n → c x < 1000) ?_ (fun _ => by rw [h.2.1]; omega)) hv
    intro p hp
    obtain ⟨h1, h2⟩ := hE p hp
    obtain ⟨h3, h4⟩ := h.1 p hp
    have h5 := hco p hp
    constructor
    · intro q _
      have := hb _ h1 (q h1)
      omega
    · intro q _
      have := hb _ h2 (q h2)
      omega
end
/-! ===== Dijkstra: what holds between visits. vis: visited; k: so many visits ===== -/
def dij (fs sn co : Nat → Nat) (E : Nat → Bool) (n u : Nat) (vis : Nat → Bool) (c : Nat → Nat) (k : Nat) : Prop :=
  c u = 0 ∧ (∀ x, x < n → c x ≤ 1000) ∧ above fs sn co E n u c ∧
  (∀ v, v < n → v ≠ u → c v < 1000 → ∃ p, E p = true ∧ ((sn p = v ∧ vis (fs p) = true ∧ c v = c (fs p) + co p) ∨ (fs p = v ∧ vis (sn p) = true ∧ c v = c (sn p) + co p))) ∧
  (∀ x, x < n → c x < 1000 → c x ≤ 9 * k) ∧ (∀ x y, x < n → y < n → vis x = true → vis y = false → c x ≤ c y) ∧
  (∀ p, E p = true → (vis (fs p) = true → c (sn p) ≤ c (fs p) + co p) ∧ (vis (sn p) = true → c (fs p) ≤ c (sn p) + co p)) ∧
  (cnt vis n = k ∨ ∀ x, x < n → vis x = false → c x = 1000) ∧ ∀ x, x < n → vis x = true → c x < 1000
/-- what lowering around a leaves -/
def lowered (fs sn co : Nat → Nat) (E : Nat → Bool) (n a : Nat) (c c' : Nat → Nat) : Prop :=
  c' a = c a ∧ (∀ x, x < n → c' x ≤ c x) ∧ (∀ x, x < n → c' x = c x ∨ ∃ p, E p = true ∧ ((fs p = a ∧ sn p = x) ∨ (sn p = a ∧ fs p = x)) ∧ c' x = c a + co p) ∧
  ∀ p, E p = true → (fs p = a → c' (sn p) ≤ c a + co p) ∧ (sn p = a → c' (fs p) ≤ c a + co p)
section
variable {fs sn co : Nat → Nat} {E : Nat → Bool} {n u a k : Nat} {vis : Nat → Bool} {c c' D : Nat → Nat}
theorem dij_0 (hu : u < n) : dij fs sn co E n u (fun _ => false) (fun x => if x = u then 0 else 1000) 0 := by
  refine ⟨if_pos rfl, fun x _ => by by_cases e : x = u <;> simp [e], ?_, ?_, ?_, ?_, ?_, Or.inl (cnt_zero n fun _ _ => rfl), fun x _ h => by cases h⟩
  · intro d _ hd hb x _
    by_cases e : x = u
    · rw [e, hd]; simp
    · simp [e]; exact hb x
  · intro v _ hne hlt
    dsimp only at hlt
    rw [if_neg hne] at hlt
    omega
  · intro x _ hlt
    by_cases e : x = u
    · simp [e]
    · dsimp only at hlt; rw [if_neg e] at hlt; omega
  · intro x y _ _ h; cases h
  · intro p _; exact ⟨fun h => (by cases h), fun h => (by cases h)⟩
theorem dij_step (hE : ∀ p, E p = true → fs p < n ∧ sn p < n) (hco : ∀ p, E p = true → 1 ≤ co p ∧ co p ≤ 9) (ha : a < n) (h : dij fs sn co E n u vis c k) (hu : u < n) (hv : vis a = false) (hc : c a < 1000) (hmin : ∀ x, x < n → vis x = false → c a ≤ c x) (hl : lowered fs sn co E n a c c') :
    dij fs sn co E n u (fun x => vis x || decide (x = a)) c' (k + 1) := by
  obtain ⟨h1, h2, h3, h4, h5, h6, h7, h8, h9⟩ := h
  obtain ⟨l1, l2, l3, l4⟩ := hl
  have keep : ∀ x, x < n → vis x = true → c' x = c x := by
    intro x hx hvx
    rcases l3 x hx with e | ⟨p, hp, -, e⟩
    · exact e
    · have q1 := h6 x a hx ha hvx hv
      have q2 := l2 x hx
      have q3 := (hco p hp).1
      omega
  have vis' : ∀ x, (vis x || decide (x = a)) = true → vis x = true ∨ x = a := fun x hx => by
    rcases Bool.or_eq_true _ _ ▸ hx with q | q
    · exact Or.inl q
    · exact Or.inr (of_decide_eq_true q)
  have keep' : ∀ x, x < n → (vis x || decide (x = a)) = true → c' x = c x := fun x hx hq => by
    rcases vis' x hq with q | q
    · exact keep x hx q
    · rw [q]; exact l1
  refine ⟨?_, fun x hx => Nat.le_trans (l2 x hx) (h2 x hx), ?_, ?_, ?_, ?_, ?_, ?_, ?_⟩
  · have := l2 u hu; omega
  · intro d hd hd0 hb x hx
    rcases l3 x hx with e | ⟨p, hp, hpx, e⟩
    · rw [e]; exact h3 d hd hd0 hb x hx
    · rw [e]
      have q1 := h3 d hd hd0 hb a ha
      have q2 := hd p hp
      rcases hpx with ⟨e1, e2⟩ | ⟨e1, e2⟩
      · rw [e1, e2] at q2; omega
      · rw [e1, e2] at q2; omega
  · intro v hvn hne hlt
    rcases l3 v hvn with e | ⟨p, hp, hpx, e⟩
    · rw [e] at hlt
      obtain ⟨p, hp, q⟩ := h4 v hvn hne hlt
      refine ⟨p, hp, ?_⟩
      rcases q with ⟨e1, e2, e3⟩ | ⟨e1, e2, e3⟩
      · refine Or.inl ⟨e1, by simp [e2], ?_⟩
        rw [e, e3, keep _ (hE p hp).1 e2]
      · refine Or.inr ⟨e1, by simp [e2], ?_⟩
        rw [e, e3, keep _ (hE p hp).2 e2]
    · refine ⟨p, hp, ?_⟩
      rcases hpx with ⟨e1, e2⟩ | ⟨e1, e2⟩
      · exact Or.inl ⟨e2, by simp [e1], by rw [e, e1, l1]⟩
      · exact Or.inr ⟨e2, by simp [e1], by rw [e, e1, l1]⟩
  · intro x hx hlt
    rcases l3 x hx with e | ⟨p, hp, -, e⟩
    · rw [e] at hlt ⊢
      have := h5 x hx hlt
      omega
    · have q1 := h5 a ha hc
      have q2 := (hco p hp).2
      omega
  · intro x y hx hy hvx hvy
    have hvy' : vis y = false ∧ y ≠ a := by
      rw [Bool.or_eq_false_iff] at hvy
      exact ⟨hvy.1, of_decide_eq_false hvy.2⟩
    rw [keep' x hx hvx]
    have q0 : c x ≤ c a := by
      rcases vis' x hvx with q | q
      · exact h6 x a hx ha q hv
      · rw [q]; exact Nat.le_refl _
    have q1 : c x ≤ c y := by
      rcases vis' x hvx with q | q
      · exact h6 x y hx hy q hvy'.1
      · rw [q]; exact hmin y hy hvy'.1
    rcases l3 y hy with e | ⟨p, hp, -, e⟩ <;> omega
  · intro p hp
    obtain ⟨hp1, hp2⟩ := hE p hp
    constructor
    · intro hq
      rw [keep' _ hp1 hq]
      rcases vis' _ hq with q | q
      · exact Nat.le_trans (l2 _ hp2) ((h7 p hp).1 q)
      · rw [q]; exact (l4 p hp).1 q
    · intro hq
      rw [keep' _ hp2 hq]
      rcases vis' _ hq with q | q
      · exact Nat.le_trans (l2 _ hp1) ((h7 p hp).2 q)
      · rw [q]; exact (l4 p hp).2 q
  · rcases h8 with e | e
    · refine Or.inl ?_
      rw [cnt_add1 (p := vis) n a ha hv (by simp) (fun i _ hi => by simp [hi]), e]
    · have := e a ha hv
      omega
  · intro x hx hq
    rw [keep' x hx hq]
    rcases vis' x hq with q | q
    · exact h9 x hx q
    · rw [q]; exact hc
theorem dij_stay (h : dij fs sn co E n u vis c k) (hn : ∀ x, x < n → vis x = false → c x = 1000) : dij fs sn co E n u vis c (k + 1) := by
  obtain ⟨h1, h2, h3, h4, h5, h6, h7, h8, h9⟩ := h
  exact ⟨h1, h2, h3, h4, fun x hx hl => by have := h5 x hx hl; omega, h6, h7, Or.inr hn, h9⟩
theorem dij_end (hE : ∀ p, E p = true → fs p < n ∧ sn p < n) (h : dij fs sn co E n u vis c n) (hn : n ≤ 9) : isD fs sn co E n u c ∧ tight fs sn co E n u c ∧ ∀ x, x < n → c x < 1000 → c x < 990 := by
  obtain ⟨h1, h2, h3, h4, h5, h6, h7, h8, h9⟩ := h
  have hall : ∀ x, x < n → vis x = false → c x = 1000 := by
    rcases h8 with e | e
    · intro x hx hv
      rw [cnt_full n (Nat.le_of_eq e.symm) x hx] at hv
      cases hv
    · exact e
  refine ⟨⟨fun p hp => ?_, h1, h2, h3⟩, fun v hv hne hlt => ?_, fun x hx hl => by have := h5 x hx hl; omega⟩
  · obtain ⟨hp1, hp2⟩ := hE p hp
    have q1 := h2 _ hp1
    have q2 := h2 _ hp2
    constructor
    · cases hq : vis (sn p) with
      | true => exact (h7 p hp).2 hq
      | false => rw [hall _ hp2 hq]; omega
    · cases hq : vis (fs p) with
      | true => exact (h7 p hp).1 hq
      | false => rw [hall _ hp1 hq]; omega
  · obtain ⟨p, hp, q⟩ := h4 v hv hne hlt
    refine ⟨p, hp, ?_⟩
    rcases q with ⟨e1, -, e3⟩ | ⟨e1, -, e3⟩
    · exact Or.inl ⟨e1, e3⟩
    · exact Or.inr ⟨e1, e3⟩
/-- a least one of those with P -/
theorem least_ex (f : Nat → Nat) (P : Nat → Prop) : ∀ n, (∃ x, x < n ∧ P x) → ∃ x, x < n ∧ P x ∧ ∀ y, y < n → P y → f x ≤ f y
  | 0, ⟨x, hx, _⟩ => by omega
  | n + 1, ⟨x, hx, hp⟩ => by
    by_cases h : ∃ x, x < n ∧ P x
    · obtain ⟨z, hz, hpz, hm⟩ := least_ex f P n h
      by_cases hn : P n ∧ f n < f z
      · refine ⟨n, by omega, hn.1, fun y hy hpy => ?_⟩
        by_cases e : y = n
        · rw [e]; exact Nat.le_refl _
        · have := hm y (by omega) hpy; omega
      · refine ⟨z, by omega, hpz, fun y hy hpy => ?_⟩
        by_cases e : y = n
        · subst e
          have : ¬ f y < f z := fun q => hn ⟨hpy, q⟩
          omega
        · exact hm y (by omega) hpy
    · have e : x = n := Classical.byContradiction fun e => h ⟨x, by omega, hp⟩
      subst e
      refine ⟨x, by omega, hp, fun y hy hpy => ?_⟩
      have e : y = x := Classical.byContradiction fun e => h ⟨y, by omega, hpy⟩
      rw [e]; exact Nat.le_refl _
/-- Bellman and Ford: costs above D, of which r + 1 or all are D's -/
def bf (fs sn co : Nat → Nat) (E : Nat → Bool) (n u : Nat) (D c : Nat → Nat) (r : Nat) : Prop :=
  c u = 0 ∧ (∀ x, x < n → D x ≤ c x ∧ c x ≤ 1000) ∧ (r + 1 ≤ cnt (fun x => decide (c x = D x)) n ∨ ∀ x, x < n → c x = D x)
/-- what a round leaves: j paths are done -/
def bfr (fs sn co : Nat → Nat) (E : Nat → Bool) (n u j : Nat) (D c c' : Nat → Nat) : Prop :=
  c' u = 0 ∧ (∀ x, x < n → D x ≤ c' x ∧ c' x ≤ c x) ∧ ∀ p, p < j → E p = true → c' (sn p) ≤ c (fs p) + co p ∧ c' (fs p) ≤ c (sn p) + co p
theorem bf_0 (hu : u < n) (hD : isD fs sn co E n u D) : bf fs sn co E n u D (fun x => if x = u then 0 else 1000) 0 := by
  refine ⟨if_pos rfl, fun x hx => ?_, Or.inl ?_⟩
  · by_cases e : x = u
    · rw [e, hD.2.1]; simp
    · simp [e]; exact hD.2.2.1 x hx
  · exact cnt_pos n u hu (by simp [hD.2.1])
theorem bf_step {m r : Nat} (hE : ∀ p, E p = true → fs p < n ∧ sn p < n) (hco : ∀ p, E p = true → 1 ≤ co p) (hm : ∀ p, E p = true → p < m) (hD : isD fs sn co E n u D) (hT : tight fs sn co E n u D) (h : bf fs sn co E n u D c r) (hr : bfr fs sn co E n u m D c c') : bf fs sn co E n u D c' (r + 1) := by
  obtain ⟨h1, h2, h3⟩ := h
  obtain ⟨r1, r2, r3⟩ := hr
  refine ⟨r1, fun x hx => ⟨(r2 x hx).1, Nat.le_trans (r2 x hx).2 (h2 x hx).2⟩, ?_⟩
  have keep : ∀ x, x < n → c x = D x → c' x = D x := fun x hx e => by have := r2 x hx; omega
  by_cases hall : ∀ x, x < n → c x = D x
  · exact Or.inr fun x hx => keep x hx (hall x hx)
  · have hex : ∃ x, x < n ∧ c x ≠ D x := Classical.byContradiction fun hn => hall fun x hx => Classical.byContradiction fun q => hn ⟨x, hx, q⟩
    obtain ⟨v, hv, hvD, hmin⟩ := least_ex D (fun x => c x ≠ D x) n hex
    have h3' : r + 1 ≤ cnt (fun x => decide (c x = D x)) n := h3.resolve_right hall
    have hvu : v ≠ u := fun e => hvD (by rw [e, h1, hD.2.1])
    have hvl : D v < 1000 := by have := h2 v hv; omega
    obtain ⟨p, hp, hq⟩ := hT v hv hvu hvl
    have hvs : c' v = D v := by
      have q0 := r2 v hv
      have q1 := hco p hp
      rcases hq with ⟨e1, e2⟩ | ⟨e1, e2⟩
      · have e3 : c (fs p) = D (fs p) := Classical.byContradiction fun e => by have := hmin _ (hE p hp).1 e; omega
        have q2 := (r3 p (hm p hp) hp).1
        rw [e1] at q2
        omega
      · have e3 : c (sn p) = D (sn p) := Classical.byContradiction fun e => by have := hmin _ (hE p hp).2 e; omega
        have q2 := (r3 p (hm p hp) hp).2
        rw [e1] at q2
        omega
    refine Or.inl ?_
    have := cnt_lt (p := fun x => decide (c x = D x)) (q := fun x => decide (c' x = D x)) n (fun i hi q => decide_eq_true (keep i hi (of_decide_eq_true q))) ⟨v, hv, decide_eq_true hvs, decide_eq_false hvD⟩
    omega
theorem bf_end {r : Nat} (h : bf fs sn co E n u D c r) (hr : n ≤ r + 1) : ∀ x, x < n → c x = D x := by
  rcases h.2.2 with q | q
  · exact fun x hx => of_decide_eq_true (cnt_full n (Nat.le_trans hr q) x hx)
  · exact q
end
