/-! ===== one walk through a group, from s: ent entered (e0: before this walk), A on the way from s to x, num the turn, ear the earliest, arr the path by which, par from where, nxt the next path ===== -/
def run (e0 ent : Nat → Bool) (z : Nat) : Prop := ent z = true ∧ e0 z = false
def ends (fs sn : Nat → Nat) (p a b : Nat) : Prop := (fs p = a ∧ sn p = b) ∨ (sn p = a ∧ fs p = b)
/-- paths at z or at what was entered behind it, but the one by which z was entered -/
def dset (E : Nat → Bool) (fs sn : Nat → Nat) (s : Nat) (ent : Nat → Bool) (num arr : Nat → Nat) (z : Nat) : Nat → Bool := fun p =>
  E p && (decide (z = s) || decide (p ≠ arr z)) && ((ent (fs p) && decide (num z ≤ num (fs p))) || (ent (sn p) && decide (num z ≤ num (sn p))))
theorem dset_t {E : Nat → Bool} {fs sn : Nat → Nat} {s : Nat} {ent : Nat → Bool} {num arr : Nat → Nat} {z p : Nat} : dset E fs sn s ent num arr z p = true ↔ E p = true ∧ (z = s ∨ p ≠ arr z) ∧ ((ent (fs p) = true ∧ num z ≤ num (fs p)) ∨ (ent (sn p) = true ∧ num z ≤ num (sn p))) := by
  simp [dset, and_assoc]
def dfs (fs sn : Nat → Nat) (E : Nat → Bool) (n m s : Nat) (e0 ent A : Nat → Bool) (num ear arr par nxt : Nat → Nat) (x N : Nat) : Prop :=
  (s < n ∧ A s = true ∧ A x = true ∧ ∀ z, A z = true → run e0 ent z) ∧
  ((∀ z, ent z = true → z < n ∧ num z < N) ∧ (∀ y z, ent y = true → ent z = true → num y = num z → y = z) ∧ (∀ z, e0 z = true → ent z = true ∧ num z < num s) ∧ (∀ p, E p = true → e0 (fs p) = e0 (sn p)) ∧ ∀ z, run e0 ent z → num s ≤ num z) ∧
  (∀ z, run e0 ent z → z ≠ s → arr z < m ∧ E (arr z) = true ∧ ends fs sn (arr z) z (par z) ∧ run e0 ent (par z) ∧ num (par z) < num z) ∧
  (∀ a z, A a = true → run e0 ent z → z ≠ s → num a < num z → num a ≤ num (par z)) ∧
  ((∀ z, A z = true → z ≠ s → A (par z) = true) ∧ ∀ z, A z = true → num z ≤ num x) ∧
  (∀ z, run e0 ent z → nxt z ≤ m ∧ (A z = false → nxt z = m ∧ ear (par z) ≤ ear z)) ∧
  (∀ z, run e0 ent z → ∀ p, p < nxt z → E p = true → (z = s ∨ p ≠ arr z) → ∀ y, ends fs sn p z y → ent y = true ∧ ((y ≠ s ∧ arr y = p ∧ par y = z) ∨ ear z ≤ num y)) ∧
  ∀ z, run e0 ent z → ear z ≤ num z ∧ ∃ y, run e0 ent y ∧ num y = ear z ∧ conn fs sn (dset E fs sn s ent num arr z) z y
/-- lst: the last turn when a field was left -/
def dfsL (fs sn : Nat → Nat) (E e0 ent A : Nat → Bool) (num arr : Nat → Nat) (N : Nat) (lst : Nat → Nat) : Prop :=
  (∀ y, run e0 ent y → A y = false → lst y < N) ∧ (∀ y a, run e0 ent y → A y = false → A a = true → num y < num a → lst y < num a) ∧
  ∀ y, run e0 ent y → A y = false → ∀ p, E p = true → p ≠ arr y → ∀ w, ends fs sn p y w → ent w = true ∧ num w ≤ lst y
section
variable {fs sn : Nat → Nat} {E : Nat → Bool} {n m s x N : Nat} {e0 ent A : Nat → Bool} {num ear arr par nxt lst : Nat → Nat}
theorem ends_sym {p a b : Nat} (h : ends fs sn p a b) : ends fs sn p b a := h.elim (fun q => Or.inr ⟨q.2, q.1⟩) (fun q => Or.inl ⟨q.2, q.1⟩)
theorem ends_conn {F : Nat → Bool} {p a b : Nat} (h : ends fs sn p a b) (hp : F p = true) : conn fs sn F a b := by
  rcases h with ⟨rfl, rfl⟩ | ⟨rfl, rfl⟩
  · exact conn_edge hp
  · exact conn_symm (conn_edge hp)
theorem ends_e0 (he : ∀ p, E p = true → e0 (fs p) = e0 (sn p)) {p a b : Nat} (h : ends fs sn p a b) (hp : E p = true) : e0 a = e0 b := by
  rcases h with ⟨rfl, rfl⟩ | ⟨rfl, rfl⟩
  · exact he p hp
  · exact (he p hp).symm
/-- two entered fields don't share a path by which -/
theorem dfs_arr (h : dfs fs sn E n m s e0 ent A num ear arr par nxt x N) {y z : Nat} (hy : run e0 ent y) (hz : run e0 ent z) (hys : y ≠ s) (hzs : z ≠ s) (e : arr y = arr z) : y = z := by
  obtain ⟨-, -, h3, -⟩ := h
  obtain ⟨-, -, a3, -, a5⟩ := h3 y hy hys
  obtain ⟨-, -, b3, -, b5⟩ := h3 z hz hzs
  rw [e] at a3
  rcases a3 with ⟨q1, q2⟩ | ⟨q1, q2⟩ <;> rcases b3 with ⟨r1, r2⟩ | ⟨r1, r2⟩
  · exact q1.symm.trans r1
  · have e1 : y = par z := q1.symm.trans r2
    have e2 : par y = z := q2.symm.trans r1
    rw [e2, e1] at a5; omega
  · have e1 : y = par z := q1.symm.trans r2
    have e2 : par y = z := q2.symm.trans r1
    rw [e2, e1] at a5; omega
  · exact q1.symm.trans r1
/-- the next path leads nowhere -/
theorem dfs_skip (h : dfs fs sn E n m s e0 ent A num ear arr par nxt x N) (hx : nxt x < m) (hn : E (nxt x) = true → (x = s ∨ nxt x ≠ arr x) → ∀ y, ¬ ends fs sn (nxt x) x y) : dfs fs sn E n m s e0 ent A num ear arr par (fun z => if z = x then nxt x + 1 else nxt z) x N := by
  obtain ⟨h1, h2, h3, h4, h5, h6, h7, h8⟩ := h
  refine ⟨h1, h2, h3, h4, h5, fun z hz => ?_, fun z hz p hp hE ha y hy => ?_, h8⟩
  · by_cases e : z = x
    · simp only [if_pos e]
      exact ⟨hx, fun q => by rw [e, h1.2.2.1] at q; cases q⟩
    · simp only [if_neg e]
      exact h6 z hz
  · by_cases e : z = x
    · simp only [if_pos e] at hp
      by_cases e2 : p = nxt x
      · rw [e2] at hE ha hy
        rw [e] at ha hy
        exact (hn hE ha y hy).elim
      · exact h7 z hz p (by rw [e]; omega) hE ha y hy
    · simp only [if_neg e] at hp
      exact h7 z hz p hp hE ha y hy
/-- the next path leads to a field y that was entered already -/
theorem dfs_see (h : dfs fs sn E n m s e0 ent A num ear arr par nxt x N) (hx : nxt x < m) (hE : E (nxt x) = true) (ha : x = s ∨ nxt x ≠ arr x) {y : Nat} (hy : ends fs sn (nxt x) x y) (hey : ent y = true) (hne : fs (nxt x) ≠ sn (nxt x)) :
    dfs fs sn E n m s e0 ent A num (fun z => if z = x then min (ear x) (num y) else ear z) arr par (fun z => if z = x then nxt x + 1 else nxt z) x N := by
  obtain ⟨h1, h2, h3, h4, h5, h6, h7, h8⟩ := h
  have hrx := h1.2.2.2 x h1.2.2.1
  have hry : run e0 ent y := ⟨hey, by rw [← ends_e0 h2.2.2.2.1 hy hE]; exact hrx.2⟩
  have hle : ∀ z, (if z = x then min (ear x) (num y) else ear z) ≤ ear z := fun z => by
    by_cases e : z = x
    · rw [if_pos e, e]; exact Nat.min_le_left _ _
    · simp only [if_neg e]; exact Nat.le_refl _
  refine ⟨h1, h2, h3, h4, h5, fun z hz => ?_, fun z hz p hp hEp hap w hw => ?_, fun z hz => ?_⟩
  · by_cases e : z = x
    · simp only [if_pos e]
      exact ⟨hx, fun q => by rw [e, h1.2.2.1] at q; cases q⟩
    · simp only [if_neg e]
      exact ⟨(h6 z hz).1, fun q => ⟨((h6 z hz).2 q).1, Nat.le_trans (hle _) ((h6 z hz).2 q).2⟩⟩
  · by_cases e : z = x
    · simp only [if_pos e] at hp ⊢
      by_cases e2 : p = nxt x
      · rw [e2, e] at hw
        have : w = y := by
          rcases hy with ⟨q1, q2⟩ | ⟨q1, q2⟩ <;> rcases hw with ⟨r1, r2⟩ | ⟨r1, r2⟩
          · exact r2.symm.trans q2
          · exact (hne (q1.trans r1.symm)).elim
          · exact (hne (r1.trans q1.symm)).elim
          · exact r2.symm.trans q2
        rw [this]
        exact ⟨hey, Or.inr (Nat.min_le_right _ _)⟩
      · obtain ⟨q1, q2⟩ := h7 z hz p (by rw [e]; omega) hEp hap w hw
        refine ⟨q1, ?_⟩
        rcases q2 with ⟨a1, a2, a3⟩ | q
        · exact Or.inl ⟨a1, a2, a3⟩
        · rw [e] at q
          exact Or.inr (Nat.le_trans (Nat.min_le_left _ _) q)
    · simp only [if_neg e] at hp ⊢
      exact h7 z hz p hp hEp hap w hw
  · obtain ⟨g1, w, g2, g3, g4⟩ := h8 z hz
    refine ⟨Nat.le_trans (hle z) g1, ?_⟩
    by_cases e : z = x
    · simp only [if_pos e]
      by_cases e2 : ear x ≤ num y
      · rw [Nat.min_eq_left e2, ← e]
        exact ⟨w, g2, g3, g4⟩
      · rw [Nat.min_eq_right (by omega), e]
        refine ⟨y, hry, rfl, ends_conn hy (dset_t.mpr ⟨hE, ha, ?_⟩)⟩
        rcases hy with ⟨q1, _⟩ | ⟨q1, _⟩
        · exact Or.inl ⟨by rw [q1]; exact hrx.1, by rw [q1]; exact Nat.le_refl _⟩
        · exact Or.inr ⟨by rw [q1]; exact hrx.1, by rw [q1]; exact Nat.le_refl _⟩
    · simp only [if_neg e]
      exact ⟨w, g2, g3, g4⟩
/-- the next path leads to a field y that is entered now -/
theorem dfs_enter (h : dfs fs sn E n m s e0 ent A num ear arr par nxt x N) (hEn : ∀ p, E p = true → p < m ∧ fs p < n ∧ sn p < n ∧ fs p ≠ sn p) (hx : nxt x < m) (hE : E (nxt x) = true) {y : Nat} (hy : ends fs sn (nxt x) x y) (hey : ent y = false) :
    dfs fs sn E n m s e0 (fun z => ent z || decide (z = y)) (fun z => A z || decide (z = y)) (fun z => if z = y then N else num z) (fun z => if z = y then N else ear z) (fun z => if z = y then nxt x else arr z) (fun z => if z = y then x else par z) (fun z => if z = y then 0 else if z = x then nxt x + 1 else nxt z) y (N + 1) := by
  obtain ⟨h1, h2, h3, h4, h5, h6, h7, h8⟩ := h
  have hrx := h1.2.2.2 x h1.2.2.1
  have hrs := h1.2.2.2 s h1.2.1
  have hyn : y < n := by
    obtain ⟨-, q1, q2, -⟩ := hEn _ hE
    rcases hy with ⟨_, rfl⟩ | ⟨_, rfl⟩ <;> assumption
  have hy0 : e0 y = false := by rw [← ends_e0 h2.2.2.2.1 hy hE]; exact hrx.2
  have ney : ∀ z, ent z = true → z ≠ y := fun z hz e => by rw [e, hey] at hz; cases hz
  have hsy : s ≠ y := ney s hrs.1
  have hxy : x ≠ y := ney x hrx.1
  have run' : ∀ z, run e0 (fun z => ent z || decide (z = y)) z → run e0 ent z ∨ z = y := fun z hz => by
    obtain ⟨q1, q2⟩ := hz
    by_cases e : z = y
    · exact Or.inr e
    · exact Or.inl ⟨by simpa [e] using q1, q2⟩
  have runm : ∀ z, run e0 ent z → run e0 (fun z => ent z || decide (z = y)) z := fun z hz => ⟨by simp [hz.1], hz.2⟩
  have numz : ∀ z, ent z = true → num z < N := fun z hz => (h2.1 z hz).2
  have A' : ∀ z, (A z || decide (z = y)) = true → A z = true ∨ z = y := fun z hz => by
    by_cases e : z = y
    · exact Or.inr e
    · exact Or.inl (by simpa [e] using hz)
  have hAy : A y = false := by
    cases hb : A y with
    | false => rfl
    | true => have := (h1.2.2.2 y hb).1; rw [hey] at this; cases this
  refine ⟨⟨h1.1, by simp [h1.2.1], by simp, fun z hz => ?_⟩, ⟨fun z hz => ?_, fun a b ha hb e => ?_, fun z hz => ?_, h2.2.2.2.1, fun z hz => ?_⟩, fun z hz hzs => ?_, fun a z ha hz hzs hl => ?_, ⟨fun z hz hzs => ?_, fun z hz => ?_⟩, fun z hz => ?_, fun z hz p hp hEp hap w hw => ?_, fun z hz => ?_⟩
  · rcases A' z hz with q | q
    · exact runm z (h1.2.2.2 z q)
    · exact ⟨by simp [q], by rw [q]; exact hy0⟩
  · by_cases e : z = y
    · simp only [if_pos e]; exact ⟨by rw [e]; exact hyn, by omega⟩
    · simp only [if_neg e]
      have := h2.1 z (by simpa [e] using hz)
      exact ⟨this.1, by omega⟩
  · by_cases ea : a = y <;> by_cases eb : b = y
    · rw [ea, eb]
    · simp only [if_pos ea, if_neg eb] at e
      have := numz b (by simpa [eb] using hb); omega
    · simp only [if_neg ea, if_pos eb] at e
      have := numz a (by simpa [ea] using ha); omega
    · simp only [if_neg ea, if_neg eb] at e
      exact h2.2.1 a b (by simpa [ea] using ha) (by simpa [eb] using hb) e
  · have q := h2.2.2.1 z hz
    simp only [if_neg (ney z q.1), if_neg hsy]
    exact ⟨by simp [q.1], q.2⟩
  · rcases run' z hz with q | q
    · simp only [if_neg (ney z q.1), if_neg hsy]
      exact h2.2.2.2.2 z q
    · simp only [if_pos q, if_neg hsy]
      have := numz s hrs.1; omega
  · rcases run' z hz with q | q
    · obtain ⟨q1, q2, q3, q4, q5⟩ := h3 z q hzs
      simp only [if_neg (ney z q.1), if_neg (ney _ q4.1)]
      exact ⟨q1, q2, q3, runm _ q4, q5⟩
    · simp only [if_pos q, if_neg hxy]
      refine ⟨hx, hE, ?_, runm _ hrx, numz x hrx.1⟩
      rw [q]; exact ends_sym hy
  · rcases run' z hz with q | q
    · have q4 := (h3 z q hzs).2.2.2.1
      simp only [if_neg (ney z q.1), if_neg (ney _ q4.1)] at hl ⊢
      rcases A' a ha with r | r
      · simp only [if_neg (ney a (h1.2.2.2 a r).1)] at hl ⊢
        exact h4 a z r q hzs hl
      · simp only [if_pos r] at hl
        have := numz z q.1; omega
    · simp only [if_pos q, if_neg hxy] at hl ⊢
      rcases A' a ha with r | r
      · simp only [if_neg (ney a (h1.2.2.2 a r).1)] at hl ⊢
        exact h5.2 a r
      · simp only [if_pos r] at hl
        omega
  · rcases A' z hz with q | q
    · simp only [if_neg (ney z (h1.2.2.2 z q).1)]
      simp [h5.1 z q hzs]
    · simp only [if_pos q]
      simp [h1.2.2.1]
  · rcases A' z hz with q | q
    · simp only [if_neg (ney z (h1.2.2.2 z q).1), if_pos]
      have := numz z (h1.2.2.2 z q).1; omega
    · simp [q]
  · rcases run' z hz with q | q
    · have e := ney z q.1
      simp only [if_neg e]
      by_cases ex : z = x
      · simp only [if_pos ex]
        exact ⟨hx, fun r => by rw [ex] at r; simp [h1.2.2.1] at r⟩
      · simp only [if_neg ex]
        refine ⟨(h6 z q).1, fun r => ?_⟩
        have r' : A z = false := by
          simp only [Bool.or_eq_false_iff] at r
          exact r.1
        obtain ⟨g1, g2⟩ := (h6 z q).2 r'
        have hzs : z ≠ s := fun es => by rw [es, h1.2.1] at r'; cases r'
        simp only [if_neg (ney _ (h3 z q hzs).2.2.2.1.1)]
        exact ⟨g1, g2⟩
    · simp only [if_pos q]
      exact ⟨Nat.zero_le _, fun r => by rw [q] at r; simp at r⟩
  · rcases run' z hz with q | q
    · have e := ney z q.1
      simp only [if_neg e] at hp hap ⊢
      have old : p < nxt z → ((ent w || decide (w = y)) = true ∧ ((w ≠ s ∧ (if w = y then nxt x else arr w) = p ∧ (if w = y then x else par w) = z) ∨ ear z ≤ if w = y then N else num w)) := by
        intro hp'
        obtain ⟨g1, g2⟩ := h7 z q p hp' hEp hap w hw
        simp only [if_neg (ney w g1)]
        exact ⟨by simp [g1], g2⟩
      by_cases ex : z = x
      · simp only [if_pos ex] at hp
        by_cases e2 : p = nxt x
        · have hwy : w = y := by
            have hne := (hEn _ hE).2.2.2
            rw [e2, ex] at hw
            rcases hy with ⟨q1, q2⟩ | ⟨q1, q2⟩ <;> rcases hw with ⟨r1, r2⟩ | ⟨r1, r2⟩
            · exact r2.symm.trans q2
            · exact (hne (q1.trans r1.symm)).elim
            · exact (hne (r1.trans q1.symm)).elim
            · exact r2.symm.trans q2
          refine ⟨by simp [hwy], Or.inl ⟨by rw [hwy]; exact Ne.symm hsy, by simp [hwy, e2], by simp [hwy, ex]⟩⟩
        · exact old (by rw [ex]; omega)
      · simp only [if_neg ex] at hp
        exact old hp
    · simp only [if_pos q] at hp
      omega
  · have dm : ∀ z, run e0 ent z → ∀ p, dset E fs sn s ent num arr z p = true → dset E fs sn s (fun z => ent z || decide (z = y)) (fun z => if z = y then N else num z) (fun z => if z = y then nxt x else arr z) z p = true := by
      intro z hz p hp
      obtain ⟨d1, d2, d3⟩ := dset_t.mp hp
      refine dset_t.mpr ⟨d1, ?_, ?_⟩
      · simp only [if_neg (ney z hz.1)]; exact d2
      · simp only [if_neg (ney z hz.1)]
        rcases d3 with ⟨d4, d5⟩ | ⟨d4, d5⟩
        · exact Or.inl ⟨by simp [d4], by simp only [if_neg (ney _ d4)]; exact d5⟩
        · exact Or.inr ⟨by simp [d4], by simp only [if_neg (ney _ d4)]; exact d5⟩
    rcases run' z hz with q | q
    · obtain ⟨g1, w, g2, g3, g4⟩ := h8 z q
      simp only [if_neg (ney z q.1)]
      exact ⟨g1, w, runm w g2, by simp only [if_neg (ney w g2.1)]; exact g3, conn_mono (dm z q) g4⟩
    · simp only [if_pos q]
      exact ⟨Nat.le_refl _, y, ⟨by simp, hy0⟩, by simp, by rw [q]; exact conn_refl y⟩
/-- all paths of x are done: back to where it was entered from -/
theorem dfs_back (h : dfs fs sn E n m s e0 ent A num ear arr par nxt x N) (hx : nxt x = m) (hxs : x ≠ s) :
    dfs fs sn E n m s e0 ent (fun z => A z && decide (z ≠ x)) num (fun z => if z = par x then min (ear (par x)) (ear x) else ear z) arr par nxt (par x) N := by
  obtain ⟨h1, h2, h3, h4, h5, h6, h7, h8⟩ := h
  have hrx := h1.2.2.2 x h1.2.2.1
  obtain ⟨a1, a2, a3, a4, a5⟩ := h3 x hrx hxs
  have hpx : par x ≠ x := fun e => by rw [e] at a5; omega
  have hApx := h5.1 x h1.2.2.1 hxs
  have A' : ∀ z, (A z && decide (z ≠ x)) = true → A z = true ∧ z ≠ x := fun z hz => by simpa using hz
  have hle : ∀ z, (if z = par x then min (ear (par x)) (ear x) else ear z) ≤ ear z := fun z => by
    by_cases e : z = par x
    · rw [if_pos e, e]; exact Nat.min_le_left _ _
    · simp only [if_neg e]; exact Nat.le_refl _
  refine ⟨⟨h1.1, by simp [h1.2.1, Ne.symm hxs], by simp [hApx, hpx], fun z hz => h1.2.2.2 z (A' z hz).1⟩, h2, h3, fun a z ha hz hzs hl => h4 a z (A' a ha).1 hz hzs hl, ⟨fun z hz hzs => ?_, fun z hz => ?_⟩, fun z hz => ⟨(h6 z hz).1, fun hA => ?_⟩, fun z hz p hp hEp hap w hw => ?_, fun z hz => ?_⟩
  · obtain ⟨q1, q2⟩ := A' z hz
    have q3 := h5.1 z q1 hzs
    have q4 : par z ≠ x := fun e => by
      have := (h3 z (h1.2.2.2 z q1) hzs).2.2.2.2
      have := h5.2 z q1
      rw [e] at *; omega
    simp [q3, q4]
  · obtain ⟨q1, q2⟩ := A' z hz
    have q3 := h5.2 z q1
    have q4 : num z < num x := Nat.lt_of_le_of_ne q3 (fun e => q2 (h2.2.1 z x (h1.2.2.2 z q1).1 hrx.1 e))
    exact h4 z x q1 hrx hxs q4
  · by_cases e : z = x
    · rw [e]
      refine ⟨hx, ?_⟩
      simp only [if_true, if_neg (Ne.symm hpx)]
      exact Nat.min_le_right _ _
    · have hA' : A z = false := by
        cases hb : A z with
        | false => rfl
        | true => simp [hb, e] at hA
      obtain ⟨g1, g2⟩ := (h6 z hz).2 hA'
      refine ⟨g1, ?_⟩
      have e2 : z ≠ par x := fun e2 => by rw [e2, hApx] at hA'; cases hA'
      simp only [if_neg e2]
      exact Nat.le_trans (hle _) g2
  · obtain ⟨g1, g2⟩ := h7 z hz p hp hEp hap w hw
    refine ⟨g1, ?_⟩
    rcases g2 with g | g
    · exact Or.inl g
    · exact Or.inr (Nat.le_trans (hle z) g)
  · obtain ⟨g1, w, g2, g3, g4⟩ := h8 z hz
    refine ⟨Nat.le_trans (hle z) g1, ?_⟩
    by_cases e : z = par x
    · simp only [if_pos e]
      by_cases e2 : ear (par x) ≤ ear x
      · rw [Nat.min_eq_left e2, ← e]
        exact ⟨w, g2, g3, g4⟩
      · rw [Nat.min_eq_right (by omega), e]
        obtain ⟨_, w2, k2, k3, k4⟩ := h8 x hrx
        refine ⟨w2, k2, k3, ?_⟩
        -- the paths behind x are behind its parent too
        have low : ∀ q, (q = par x ∨ (par x ≠ s ∧ q = par (par x))) → run e0 ent q ∧ num q < num x := by
          rintro q (rfl | ⟨q1, rfl⟩)
          · exact ⟨a4, a5⟩
          · obtain ⟨-, -, -, c4, c5⟩ := h3 _ a4 q1
            exact ⟨c4, by omega⟩
        have sub : ∀ p, dset E fs sn s ent num arr x p = true → dset E fs sn s ent num arr (par x) p = true := by
          intro p hp
          obtain ⟨d1, d2, d3⟩ := dset_t.mp hp
          refine dset_t.mpr ⟨d1, ?_, ?_⟩
          · by_cases es : par x = s
            · exact Or.inl es
            · refine Or.inr fun ep => ?_
              obtain ⟨-, -, c3, c4, c5⟩ := h3 _ a4 es
              rw [← ep] at c3
              have : num (fs p) < num x ∧ num (sn p) < num x := by
                rcases c3 with ⟨r1, r2⟩ | ⟨r1, r2⟩
                · rw [r1, r2]; omega
                · rw [r1, r2]; omega
              rcases d3 with ⟨_, d5⟩ | ⟨_, d5⟩ <;> omega
          · rcases d3 with ⟨d4, d5⟩ | ⟨d4, d5⟩
            · exact Or.inl ⟨d4, by omega⟩
            · exact Or.inr ⟨d4, by omega⟩
        refine conn_trans (ends_conn (ends_sym a3) (dset_t.mpr ⟨a2, ?_, ?_⟩)) (conn_mono sub k4)
        · by_cases es : par x = s
          · exact Or.inl es
          · refine Or.inr fun ep => ?_
            obtain ⟨-, -, c3, c4, c5⟩ := h3 _ a4 es
            rw [← ep] at c3
            rcases a3 with ⟨r1, r2⟩ | ⟨r1, r2⟩ <;> rcases c3 with ⟨t1, t2⟩ | ⟨t1, t2⟩
            · exact hpx (t1.symm.trans r1)
            · have e9 : par (par x) = x := t2.symm.trans r1
              rw [e9] at c5; omega
            · have e9 : par (par x) = x := t2.symm.trans r1
              rw [e9] at c5; omega
            · exact hpx (t1.symm.trans r1)
        · rcases a3 with ⟨r1, r2⟩ | ⟨r1, r2⟩
          · exact Or.inl ⟨by rw [r1]; exact hrx.1, by rw [r1]; omega⟩
          · exact Or.inr ⟨by rw [r1]; exact hrx.1, by rw [r1]; omega⟩
    · simp only [if_neg e]
      exact ⟨w, g2, g3, g4⟩
/-- all entered in this walk hang together by the paths by which -/
theorem dfs_tree (h : dfs fs sn E n m s e0 ent A num ear arr par nxt x N) (F : Nat → Bool) : ∀ k z, run e0 ent z → num z ≤ k → (∀ y, run e0 ent y → y ≠ s → num y ≤ k → F (arr y) = true) → conn fs sn F s z := by
  intro k
  induction k with
  | zero =>
    intro z hz hk hF
    have hs := h.1.2.2.2 s h.1.2.1
    have : num s ≤ num z := h.2.1.2.2.2.2 z hz
    rw [h.2.1.2.1 s z hs.1 hz.1 (by omega)]
    exact conn_refl z
  | succ k ih =>
    intro z hz hk hF
    by_cases e : z = s
    · rw [e]; exact conn_refl s
    · obtain ⟨a1, a2, a3, a4, a5⟩ := h.2.2.1 z hz e
      exact conn_trans (ih (par z) a4 (by omega) (fun y hy hys hk => hF y hy hys (by omega))) (ends_conn (ends_sym a3) (hF z hz e hk))
/-- when x is left: its path is a bridge just if nothing behind it leads back ahead of it -/
theorem dfs_br (h : dfs fs sn E n m s e0 ent A num ear arr par nxt x N) (hL : dfsL fs sn E e0 ent A num arr N lst) (hx : nxt x = m) (hxs : x ≠ s) (hEn : ∀ p, E p = true → p < m ∧ fs p < n ∧ sn p < n ∧ fs p ≠ sn p) : isBr fs sn E (arr x) ↔ num (par x) < ear x := by
  have hh := h
  obtain ⟨h1, h2, h3, h4, h5, h6, h7, h8⟩ := h
  have hrx := h1.2.2.2 x h1.2.2.1
  obtain ⟨a1, a2, a3, a4, a5⟩ := h3 x hrx hxs
  have hends : conn fs sn (without E (arr x)) (fs (arr x)) (sn (arr x)) ↔ conn fs sn (without E (arr x)) (par x) x := by
    rcases a3 with ⟨r1, r2⟩ | ⟨r1, r2⟩
    · rw [r1, r2]; exact ⟨conn_symm, conn_symm⟩
    · rw [r1, r2]
  unfold isBr
  rw [hends]
  constructor
  · rintro ⟨-, hc⟩
    refine Classical.byContradiction fun hn => hc ?_
    obtain ⟨g1, y, g2, g3, g4⟩ := h8 x hrx
    have c1 : conn fs sn (without E (arr x)) x y := conn_mono (fun p hp => by
      obtain ⟨d1, d2, d3⟩ := dset_t.mp hp
      have : p ≠ arr x := d2.resolve_left hxs
      simp [without, d1, this]) g4
    have c2 : ∀ z, run e0 ent z → num z ≤ num (par x) → conn fs sn (without E (arr x)) s z := fun z hz hk => dfs_tree hh _ (num (par x)) z hz hk (fun w hw hws hk => by
      have hne : arr w ≠ arr x := fun e => by
        have := dfs_arr hh hw hrx hws hxs e
        rw [this] at hk; omega
      simp [without, (h3 w hw hws).2.1, hne])
    exact conn_trans (conn_symm (c2 (par x) a4 (Nat.le_refl _))) (conn_trans (c2 y g2 (by omega)) (conn_symm c1))
  · intro hl
    refine ⟨a2, fun hc => ?_⟩
    -- what was entered from x on
    have hS : ∀ k z, run e0 ent z → num z ≤ k → num x ≤ num z → ear x ≤ ear z := by
      intro k
      induction k with
      | zero =>
        intro z hz hk hxz
        rw [h2.2.1 x z hrx.1 hz.1 (by omega)]; exact Nat.le_refl _
      | succ k ih =>
        intro z hz hk hxz
        by_cases e : z = x
        · rw [e]; exact Nat.le_refl _
        · have hlt : num x < num z := Nat.lt_of_le_of_ne hxz (fun q => e (h2.2.1 z x hz.1 hrx.1 q.symm))
          have hzs : z ≠ s := fun q => by
            have := h2.2.2.2.2 x hrx
            rw [q] at hlt; omega
          have hA : A z = false := by
            cases hb : A z with
            | false => rfl
            | true => have := h5.2 z hb; omega
          obtain ⟨b1, b2, b3, b4, b5⟩ := h3 z hz hzs
          exact Nat.le_trans (ih (par z) b4 (by omega) (h4 x z h1.2.2.1 hz hzs hlt)) ((h6 z hz).2 hA).2
    have key : ∀ p z y, without E (arr x) p = true → ends fs sn p z y → run e0 ent z → num x ≤ num z → run e0 ent y ∧ num x ≤ num y := by
      intro p z y hp hpe hz hxz
      have hpE := without_le hp
      have hpx : p ≠ arr x := by
        simp only [without, Bool.and_eq_true, decide_eq_true_eq] at hp
        exact hp.2
      have hzs : z ≠ s := fun q => by
        have e1 := h2.2.2.2.2 x hrx
        rw [q] at hxz
        exact hxs (h2.2.1 x s hrx.1 (h1.2.2.2 s h1.2.1).1 (by omega))
      have hnx : nxt z = m := by
        by_cases e : z = x
        · rw [e]; exact hx
        · have hA : A z = false := by
            cases hb : A z with
            | false => rfl
            | true =>
              have := h5.2 z hb
              exact (e (h2.2.1 z x hz.1 hrx.1 (by omega))).elim
          exact ((h6 z hz).2 hA).1
      by_cases ep : p = arr z
      · have ezx : z ≠ x := fun q => hpx (by rw [ep, q])
        have hlt : num x < num z := Nat.lt_of_le_of_ne hxz (fun q => ezx (h2.2.1 z x hz.1 hrx.1 q.symm))
        obtain ⟨b1, b2, b3, b4, b5⟩ := h3 z hz hzs
        have : y = par z := by
          have hne := (hEn _ hpE).2.2.2
          rw [ep] at hpe hne
          rcases hpe with ⟨q1, q2⟩ | ⟨q1, q2⟩ <;> rcases b3 with ⟨r1, r2⟩ | ⟨r1, r2⟩
          · exact q2.symm.trans r2
          · exact (hne (q1.trans r1.symm)).elim
          · exact (hne (r1.trans q1.symm)).elim
          · exact q2.symm.trans r2
        rw [this]
        exact ⟨b4, h4 x z h1.2.2.1 hz hzs hlt⟩
      · obtain ⟨g1, g2⟩ := h7 z hz p (by rw [hnx]; exact (hEn p hpE).1) hpE (Or.inr ep) y hpe
        have hry : run e0 ent y := ⟨g1, by rw [← ends_e0 h2.2.2.2.1 hpe hpE]; exact hz.2⟩
        have ney1 : z ≠ y := fun e => by
          have hne := (hEn _ hpE).2.2.2
          rw [e] at hpe
          rcases hpe with ⟨q1, q2⟩ | ⟨q1, q2⟩
          · exact hne (q1.trans q2.symm)
          · exact hne (q2.trans q1.symm)
        refine ⟨hry, ?_⟩
        rcases g2 with ⟨q1, q2, q3⟩ | q
        · have := (h3 y hry q1).2.2.2.2
          rw [q3] at this; omega
        · have e1 := hS (num z) z hz (Nat.le_refl _) hxz
          refine Nat.le_of_not_lt fun hlt => ?_
          have e2 : num (par x) < num y := by omega
          cases hAy : A y with
          | true =>
            have := h4 y x hAy hrx hxs hlt
            omega
          | false =>
            have e3 := hL.2.1 y x hry hAy h1.2.2.1 hlt
            have e4 : p ≠ arr y := fun e => by
              have eys : y ≠ s := fun q => by
                have := h2.2.2.2.2 (par x) a4
                rw [q] at e2; omega
              obtain ⟨-, -, b3, -, b5⟩ := h3 y hry eys
              have hne := (hEn _ hpE).2.2.2
              rw [← e] at b3
              have : z = par y := by
                rcases hpe with ⟨q1, q2⟩ | ⟨q1, q2⟩ <;> rcases b3 with ⟨r1, r2⟩ | ⟨r1, r2⟩
                · exact (ney1 (q1.symm.trans r1)).elim
                · exact q1.symm.trans r2
                · exact q1.symm.trans r2
                · exact (ney1 (q1.symm.trans r1)).elim
              rw [← this] at b5
              omega
            have := (hL.2.2 y hry hAy p hpE e4 z (ends_sym hpe)).2
            omega
    have hfin := hc (fun z => ¬ (run e0 ent z ∧ num x ≤ num z)) (fun p hp => by
      constructor
      · intro q1 q2
        exact q1 (key p (sn p) (fs p) hp (Or.inr ⟨rfl, rfl⟩) q2.1 q2.2)
      · intro q1 q2
        exact q1 (key p (fs p) (sn p) hp (Or.inl ⟨rfl, rfl⟩) q2.1 q2.2)) (fun q => by omega)
    exact hfin ⟨hrx, Nat.le_refl _⟩
theorem dfsL_enter {y : Nat} (h : dfs fs sn E n m s e0 ent A num ear arr par nxt x N) (hL : dfsL fs sn E e0 ent A num arr N lst) (hey : ent y = false) (q : Nat) :
    dfsL fs sn E e0 (fun z => ent z || decide (z = y)) (fun z => A z || decide (z = y)) (fun z => if z = y then N else num z) (fun z => if z = y then q else arr z) (N + 1) lst := by
  have ney : ∀ z, ent z = true → z ≠ y := fun z hz e => by rw [e, hey] at hz; cases hz
  have old : ∀ z, run e0 (fun z => ent z || decide (z = y)) z → (A z || decide (z = y)) = false → run e0 ent z ∧ A z = false ∧ z ≠ y := fun z hz hA => by
    simp only [Bool.or_eq_false_iff, decide_eq_false_iff_not] at hA
    exact ⟨⟨by simpa [hA.2] using hz.1, hz.2⟩, hA.1, hA.2⟩
  refine ⟨fun z hz hA => ?_, fun z a hz hA ha hl => ?_, fun z hz hA p hp hpz w hw => ?_⟩
  · obtain ⟨q1, q2, q3⟩ := old z hz hA
    have := hL.1 z q1 q2; omega
  · obtain ⟨q1, q2, q3⟩ := old z hz hA
    simp only [if_neg q3] at hl
    by_cases e : a = y
    · simp only [if_pos e]
      exact hL.1 z q1 q2
    · simp only [if_neg e] at hl ⊢
      exact hL.2.1 z a q1 q2 (by simpa [e] using ha) hl
  · obtain ⟨q1, q2, q3⟩ := old z hz hA
    simp only [if_neg q3] at hpz
    obtain ⟨g1, g2⟩ := hL.2.2 z q1 q2 p hp hpz w hw
    simp only [if_neg (ney w g1)]
    exact ⟨by simp [g1], g2⟩
theorem dfsL_back (h : dfs fs sn E n m s e0 ent A num ear arr par nxt x N) (hL : dfsL fs sn E e0 ent A num arr N lst) (hEn : ∀ p, E p = true → p < m ∧ fs p < n ∧ sn p < n ∧ fs p ≠ sn p) (hx : nxt x = m) :
    dfsL fs sn E e0 ent (fun z => A z && decide (z ≠ x)) num arr N (fun z => if z = x then N - 1 else lst z) := by
  obtain ⟨h1, h2, h3, h4, h5, h6, h7, h8⟩ := h
  have hrx := h1.2.2.2 x h1.2.2.1
  have hN : 0 < N := by have := (h2.1 x hrx.1).2; omega
  have A' : ∀ z, z ≠ x → (A z && decide (z ≠ x)) = false → A z = false := fun z e hz => by simpa [e] using hz
  refine ⟨fun z hz hA => ?_, fun z a hz hA ha hl => ?_, fun z hz hA p hp hpz w hw => ?_⟩
  · by_cases e : z = x
    · simp only [if_pos e]; omega
    · simp only [if_neg e]; exact hL.1 z hz (A' z e hA)
  · have ha' : A a = true := by
      simp only [Bool.and_eq_true] at ha
      exact ha.1
    by_cases e : z = x
    · have := h5.2 a ha'
      rw [e] at hl; omega
    · simp only [if_neg e]; exact hL.2.1 z a hz (A' z e hA) ha' hl
  · by_cases e : z = x
    · simp only [if_pos e]
      have := (h7 z hz p (by rw [e, hx]; exact (hEn p hp).1) hp (Or.inr hpz) w hw).1
      have := (h2.1 w this).2
      exact ⟨by assumption, by omega⟩
    · simp only [if_neg e]; exact hL.2.2 z hz (A' z e hA) p hp hpz w hw
/-- the walk's begin -/
theorem dfs_start (hs : s < n) (he : ent s = false) (h1 : ∀ z, ent z = true → z < n ∧ num z < N) (h2 : ∀ y z, ent y = true → ent z = true → num y = num z → y = z) (h3 : ∀ p, E p = true → ent (fs p) = ent (sn p)) :
    dfs fs sn E n m s ent (fun z => ent z || decide (z = s)) (fun z => decide (z = s)) (fun z => if z = s then N else num z) (fun z => if z = s then N else ear z) arr par (fun z => if z = s then 0 else nxt z) s (N + 1) ∧
    dfsL fs sn E ent (fun z => ent z || decide (z = s)) (fun z => decide (z = s)) (fun z => if z = s then N else num z) arr (N + 1) (fun _ => 0) := by
  have nes : ∀ z, ent z = true → z ≠ s := fun z hz e => by rw [e, he] at hz; cases hz
  have rs : ∀ z, run ent (fun z => ent z || decide (z = s)) z → z = s := fun z hz => by
    obtain ⟨q1, q2⟩ := hz
    simpa [q2] using q1
  have rss : run ent (fun z => ent z || decide (z = s)) s := ⟨by simp, he⟩
  refine ⟨⟨⟨hs, by simp, by simp, fun z hz => by rw [of_decide_eq_true hz]; exact rss⟩, ⟨fun z hz => ?_, fun y z hy hz e => ?_, fun z hz => ?_, h3, fun z hz => by rw [rs z hz]; exact Nat.le_refl _⟩, fun z hz hzs => (hzs (rs z hz)).elim, fun a z ha hz hzs _ => (hzs (rs z hz)).elim, ⟨fun z hz hzs => (hzs (of_decide_eq_true hz)).elim, fun z hz => by rw [of_decide_eq_true hz]; exact Nat.le_refl _⟩, fun z hz => ?_, fun z hz p hp => ?_, fun z hz => ?_⟩, ⟨fun y hy hA => ?_, fun y a hy hA => ?_, fun y hy hA => ?_⟩⟩
  · by_cases e : z = s
    · simp only [if_pos e]; exact ⟨by rw [e]; exact hs, by omega⟩
    · simp only [if_neg e]
      have := h1 z (by simpa [e] using hz)
      exact ⟨this.1, by omega⟩
  · by_cases ea : y = s <;> by_cases eb : z = s
    · rw [ea, eb]
    · simp only [if_pos ea, if_neg eb] at e
      have := h1 z (by simpa [eb] using hz); omega
    · simp only [if_neg ea, if_pos eb] at e
      have := h1 y (by simpa [ea] using hy); omega
    · simp only [if_neg ea, if_neg eb] at e
      exact h2 y z (by simpa [ea] using hy) (by simpa [eb] using hz) e
  · have := h1 z hz
    simp only [if_neg (nes z hz), if_true]
    exact ⟨by simp [hz], this.2⟩
  · have e := rs z hz
    simp only [if_pos e]
    exact ⟨Nat.zero_le _, fun q => by rw [e] at q; simp at q⟩
  · have e := rs z hz
    simp only [if_pos e] at hp
    omega
  · have e := rs z hz
    simp only [if_pos e]
    exact ⟨Nat.le_refl _, s, rss, by simp, by rw [e]; exact conn_refl s⟩
  · rw [rs y hy] at hA; simp at hA
  · rw [rs y hy] at hA; simp at hA
  · rw [rs y hy] at hA; simp at hA
/-- the walk's end: what was entered is closed, and no path of it that isn't some field's is a bridge -/
theorem dfs_end (h : dfs fs sn E n m s e0 ent A num ear arr par nxt s N) (hEn : ∀ p, E p = true → p < m ∧ fs p < n ∧ sn p < n ∧ fs p ≠ sn p) (hx : nxt s = m) :
    (∀ p, E p = true → ent (fs p) = ent (sn p)) ∧ (∀ z, A z = true → z = s) ∧ ∀ p, isBr fs sn E p → run e0 ent (fs p) → ∃ z, run e0 ent z ∧ z ≠ s ∧ A z = false ∧ arr z = p := by
  have hh := h
  obtain ⟨h1, h2, h3, h4, h5, h6, h7, h8⟩ := h
  have hrs := h1.2.2.2 s h1.2.1
  have hA : ∀ z, A z = true → z = s := fun z hz => by
    have q1 := h1.2.2.2 z hz
    have q2 := h5.2 z hz
    have q3 := h2.2.2.2.2 z q1
    exact h2.2.1 z s q1.1 hrs.1 (by omega)
  have hnx : ∀ z, run e0 ent z → nxt z = m := fun z hz => by
    cases hb : A z with
    | true => rw [hA z hb]; exact hx
    | false => exact ((h6 z hz).2 hb).1
  have key : ∀ p z y, E p = true → ends fs sn p z y → run e0 ent z → run e0 ent y := fun p z y hp hpe hz => by
    refine ⟨?_, by rw [← ends_e0 h2.2.2.2.1 hpe hp]; exact hz.2⟩
    by_cases ha : z = s ∨ p ≠ arr z
    · exact (h7 z hz p (by rw [hnx z hz]; exact (hEn p hp).1) hp ha y hpe).1
    · have ezs : z ≠ s := fun e => ha (Or.inl e)
      have ep : p = arr z := Classical.byContradiction fun e => ha (Or.inr e)
      obtain ⟨b1, b2, b3, b4, b5⟩ := h3 z hz ezs
      have hne := (hEn _ hp).2.2.2
      rw [← ep] at b3
      have : y = par z := by
        rcases hpe with ⟨q1, q2⟩ | ⟨q1, q2⟩ <;> rcases b3 with ⟨r1, r2⟩ | ⟨r1, r2⟩
        · exact q2.symm.trans r2
        · exact (hne (q1.trans r1.symm)).elim
        · exact (hne (r1.trans q1.symm)).elim
        · exact q2.symm.trans r2
      rw [this]; exact b4.1
  refine ⟨fun p hp => ?_, hA, fun p hp hr => ?_⟩
  · have e := h2.2.2.2.1 p hp
    cases h0 : e0 (fs p) with
    | true =>
      rw [h0] at e
      rw [(h2.2.2.1 _ h0).1, (h2.2.2.1 _ e.symm).1]
    | false =>
      rw [h0] at e
      cases h9 : ent (fs p) with
      | true => exact (key p (fs p) (sn p) hp (Or.inl ⟨rfl, rfl⟩) ⟨h9, h0⟩).1.symm
      | false =>
        cases h10 : ent (sn p) with
        | false => rfl
        | true =>
          have := (key p (sn p) (fs p) hp (Or.inr ⟨rfl, rfl⟩) ⟨h10, e.symm⟩).1
          rw [h9] at this; cases this
  · refine Classical.byContradiction fun hn => hp.2 ?_
    have tr : ∀ z, run e0 ent z → conn fs sn (without E p) s z := fun z hz => dfs_tree hh _ (num z) z hz (Nat.le_refl _) (fun y hy hys _ => by
      have q1 := (h3 y hy hys).2.1
      have q2 : arr y ≠ p := fun e => hn ⟨y, hy, hys, by
        cases hb : A y with
        | false => rfl
        | true => exact (hys (hA y hb)).elim, e⟩
      simp [without, q1, q2])
    have hr2 := key p (fs p) (sn p) hp.1 (Or.inl ⟨rfl, rfl⟩) hr
    exact conn_trans (conn_symm (tr _ hr)) (tr _ hr2)
end
