/-! ===== counting and sums ===== -/
def cnt (p : Nat → Bool) : Nat → Nat
  | 0 => 0
  | n + 1 => cnt p n + (if p n = true then 1 else 0)
theorem cnt_congr {p q : Nat → Bool} : ∀ n, (∀ i, i < n → p i = q i) → cnt p n = cnt q n
  | 0, _ => rfl
  | n + 1, h => by rw [cnt, cnt, cnt_congr n (fun i hi => h i (by omega)), h n (by omega)]
theorem cnt_mono {p q : Nat → Bool} : ∀ n, (∀ i, i < n → p i = true → q i = true) → cnt p n ≤ cnt q n
  | 0, _ => Nat.le_refl _
  | n + 1, h => by
    have h1 := cnt_mono n (fun i hi => h i (by omega))
    have h2 := h n (by omega)
    rw [cnt, cnt]
    by_cases hp : p n = true
    · rw [if_pos hp, if_pos (h2 hp)]; omega
    · rw [if_neg hp]; omega
theorem cnt_lt {p q : Nat → Bool} : ∀ n, (∀ i, i < n → p i = true → q i = true) → (∃ x, x < n ∧ q x = true ∧ p x = false) → cnt p n < cnt q n
  | 0, _, ⟨x, hx, _⟩ => by omega
  | n + 1, h, ⟨x, hx, hq, hp⟩ => by
    rw [cnt, cnt]
    by_cases e : x = n
    · subst e
      have h1 := cnt_mono x (fun i hi => h i (by omega))
      rw [if_pos hq, hp, if_neg (by decide)]; omega
    · have h1 := cnt_lt n (fun i hi => h i (by omega)) ⟨x, by omega, hq, hp⟩
      have h2 := h n (by omega)
      by_cases hp : p n = true
      · rw [if_pos hp, if_pos (h2 hp)]; omega
      · rw [if_neg hp]; omega
theorem cnt_le_n (p : Nat → Bool) : ∀ n, cnt p n ≤ n
  | 0 => Nat.le_refl _
  | n + 1 => by
    have := cnt_le_n p n
    rw [cnt]
    by_cases hp : p n = true
    · rw [if_pos hp]; omega
    · rw [if_neg hp]; omega
theorem cnt_full {p : Nat → Bool} : ∀ n, n ≤ cnt p n → ∀ i, i < n → p i = true
  | 0, _, i, hi => by omega
  | n + 1, h, i, hi => by
    have h1 := cnt_le_n p n
    rw [cnt] at h
    by_cases hp : p n = true
    · rw [if_pos hp] at h
      by_cases e : i = n
      · rw [e]; exact hp
      · exact cnt_full n (by omega) i (by omega)
    · rw [if_neg hp] at h; omega
theorem cnt_zero {p : Nat → Bool} : ∀ n, (∀ i, i < n → p i = false) → cnt p n = 0
  | 0, _ => rfl
  | n + 1, h => by rw [cnt, cnt_zero n (fun i hi => h i (by omega)), h n (by omega), if_neg (by decide)]
theorem cnt_zero_of {p : Nat → Bool} : ∀ n, cnt p n = 0 → ∀ i, i < n → p i = false
  | 0, _, i, hi => by omega
  | n + 1, h, i, hi => by
    rw [cnt] at h
    by_cases e : i = n
    · subst e
      cases hp : p i with
      | true => rw [hp, if_pos rfl] at h; omega
      | false => rfl
    · exact cnt_zero_of n (by omega) i (by omega)
theorem cnt_pos {p : Nat → Bool} (n x : Nat) (hx : x < n) (hp : p x = true) : 0 < cnt p n := by
  rcases Nat.eq_zero_or_pos (cnt p n) with h | h
  · rw [cnt_zero_of n h x hx] at hp; cases hp
  · exact h
theorem cnt_ex {p : Nat → Bool} (n : Nat) (h : 0 < cnt p n) : ∃ x, x < n ∧ p x = true := by
  refine Classical.byContradiction fun hn => ?_
  rw [cnt_zero n (fun i hi => by
    cases hp : p i with
    | true => exact (hn ⟨i, hi, hp⟩).elim
    | false => rfl)] at h
  omega
/-- one element more -/
theorem cnt_add1 {p q : Nat → Bool} : ∀ n x, x < n → p x = false → q x = true → (∀ i, i < n → i ≠ x → q i = p i) → cnt q n = cnt p n + 1
  | 0, x, hx, _, _, _ => by omega
  | n + 1, x, hx, hp, hq, h => by
    rw [cnt, cnt]
    by_cases e : x = n
    · subst e
      rw [cnt_congr x (fun i hi => h i (by omega) (by omega)), hp, hq]; simp
    · rw [cnt_add1 n x (by omega) hp hq (fun i hi hx => h i (by omega) hx), h n (by omega) (by omega)]; omega
theorem cnt_split (p q : Nat → Bool) : ∀ n, cnt p n = cnt (fun i => p i && q i) n + cnt (fun i => p i && !q i) n
  | 0 => rfl
  | n + 1 => by
    rw [cnt, cnt, cnt, cnt_split p q n]
    cases p n <;> cases q n <;> simp <;> omega
theorem cnt_one {p : Nat → Bool} (n x : Nat) (hx : x < n) (hp : p x = true) (h : ∀ i, i < n → p i = true → i = x) : cnt p n = 1 := by
  have := cnt_add1 (p := fun _ => false) (q := p) n x hx rfl hp (fun i hi hne => by
    cases hq : p i with
    | true => exact (hne (h i hi hq)).elim
    | false => rfl)
  rw [this, cnt_zero n (fun _ _ => rfl)]
theorem cnt_one_of {p : Nat → Bool} (n x y : Nat) (h : cnt p n = 1) (hx : x < n) (hy : y < n) (px : p x = true) (py : p y = true) : x = y := by
  refine Classical.byContradiction fun hne => ?_
  have h1 := cnt_lt (p := fun i => decide (i = x)) (q := p) n (fun i hi hp => by rw [of_decide_eq_true hp]; exact px) ⟨y, hy, py, decide_eq_false (fun q => hne q.symm)⟩
  have h2 := cnt_one (p := fun i => decide (i = x)) n x hx (decide_eq_true rfl) (fun i _ hp => of_decide_eq_true hp)
  omega
def sumN (f : Nat → Nat) : Nat → Nat
  | 0 => 0
  | n + 1 => sumN f n + f n
theorem sumN_congr {f g : Nat → Nat} : ∀ n, (∀ i, i < n → f i = g i) → sumN f n = sumN g n
  | 0, _ => rfl
  | n + 1, h => by rw [sumN, sumN, sumN_congr n (fun i hi => h i (by omega)), h n (by omega)]
theorem sumN_upd {f g : Nat → Nat} : ∀ n x, x < n → (∀ i, i < n → i ≠ x → g i = f i) → sumN g n + f x = sumN f n + g x
  | 0, x, hx, _ => by omega
  | n + 1, x, hx, h => by
    rw [sumN, sumN]
    by_cases e : x = n
    · subst e
      rw [sumN_congr x (fun i hi => h i (by omega) (by omega))]; omega
    · have := sumN_upd n x (by omega) (fun i hi hx => h i (by omega) hx)
      rw [h n (by omega) (by omega)]; omega
theorem sumN_le {f g : Nat → Nat} : ∀ n, (∀ i, i < n → f i ≤ g i) → sumN f n ≤ sumN g n
  | 0, _ => Nat.le_refl _
  | n + 1, h => by
    have := sumN_le n (fun i hi => h i (by omega)); have := h n (by omega)
    rw [sumN, sumN]; omega
theorem sumN_zero {f : Nat → Nat} : ∀ n, (∀ i, i < n → f i = 0) → sumN f n = 0
  | 0, _ => rfl
  | n + 1, h => by rw [sumN, sumN_zero n (fun i hi => h i (by omega)), h n (by omega)]
theorem sumN_ge {f : Nat → Nat} : ∀ n x, x < n → f x ≤ sumN f n
  | 0, x, hx => by omega
  | n + 1, x, hx => by
    rw [sumN]
    by_cases e : x = n
    · subst e; omega
    · have := sumN_ge (f := f) n x (by omega); omega
def sumI (f : Nat → Int) : Nat → Int
  | 0 => 0
  | n + 1 => sumI f n + f n
theorem sumI_congr {f g : Nat → Int} : ∀ n, (∀ i, i < n → f i = g i) → sumI f n = sumI g n
  | 0, _ => rfl
  | n + 1, h => by rw [sumI, sumI, sumI_congr n (fun i hi => h i (by omega)), h n (by omega)]
theorem sumI_upd {f g : Nat → Int} : ∀ n x, x < n → (∀ i, i < n → i ≠ x → g i = f i) → sumI g n + f x = sumI f n + g x
  | 0, x, hx, _ => by omega
  | n + 1, x, hx, h => by
    rw [sumI, sumI]
    by_cases e : x = n
    · subst e
      rw [sumI_congr x (fun i hi => h i (by omega) (by omega))]; omega
    · have := sumI_upd n x (by omega) (fun i hi hx => h i (by omega) hx)
      rw [h n (by omega) (by omega)]; omega
theorem sumI_le {f : Nat → Int} {p : Nat → Bool} : ∀ n, (∀ i, i < n → f i ≤ if p i = true then 1 else 0) → sumI f n ≤ (cnt p n : Int)
  | 0, _ => Int.le_refl _
  | n + 1, h => by
    have h1 := sumI_le n (fun i hi => h i (by omega)); have h2 := h n (by omega)
    rw [sumI, cnt]
    by_cases e : p n = true
    · rw [if_pos e] at h2 ⊢; omega
    · rw [if_neg e] at h2 ⊢; omega
theorem sumI_eq {f : Nat → Int} {p : Nat → Bool} : ∀ n, (∀ i, i < n → f i = if p i = true then 1 else 0) → sumI f n = (cnt p n : Int)
  | 0, _ => rfl
  | n + 1, h => by
    have h1 := sumI_eq n (fun i hi => h i (by omega)); have h2 := h n (by omega)
    rw [sumI, cnt]
    by_cases e : p n = true
    · rw [if_pos e] at h2 ⊢; omega
    · rw [if_neg e] at h2 ⊢; omega
theorem sumI_zero {f : Nat → Int} : ∀ n, (∀ i, i < n → f i = 0) → sumI f n = 0
  | 0, _ => rfl
  | n + 1, h => by rw [sumI, sumI_zero n (fun i hi => h i (by omega)), h n (by omega)]; rfl
/-- sets that grow until they are good -/
theorem lt_of_all {n : Nat} {P : Nat → Prop} (h : ∀ i, i < n → P i) : ∀ i, i < n → P i := h
/-! ===== graphs: n fields, paths by fs and sn, E: which paths may be used; conn: in every closed set ===== -/
def closed (fs sn : Nat → Nat) (E : Nat → Bool) (S : Nat → Prop) : Prop := ∀ p, E p = true → (S (fs p) ↔ S (sn p))
def conn (fs sn : Nat → Nat) (E : Nat → Bool) (u v : Nat) : Prop := ∀ S : Nat → Prop, closed fs sn E S → S u → S v
section
variable {fs sn : Nat → Nat} {E F : Nat → Bool} {u v w : Nat}
theorem conn_refl (u : Nat) : conn fs sn E u u := fun _ _ h => h
theorem conn_trans (h1 : conn fs sn E u v) (h2 : conn fs sn E v w) : conn fs sn E u w := fun S hS h => h2 S hS (h1 S hS h)
theorem closed_not {S : Nat → Prop} (h : closed fs sn E S) : closed fs sn E (fun x => ¬ S x) := fun p hp => not_congr (h p hp)
theorem conn_symm (h : conn fs sn E u v) : conn fs sn E v u := fun S hS hv => Classical.byContradiction fun hu => h (fun x => ¬ S x) (closed_not hS) hu hv
theorem conn_edge {p : Nat} (h : E p = true) : conn fs sn E (fs p) (sn p) := fun _ hS h1 => (hS p h).mp h1
theorem conn_mono (hEF : ∀ p, E p = true → F p = true) (h : conn fs sn E u v) : conn fs sn F u v := fun S hS hu => h S (fun p hp => hS p (hEF p hp)) hu
theorem conn_closed (u : Nat) : closed fs sn E (conn fs sn E u) := fun _ hp => ⟨fun h => conn_trans h (conn_edge hp), fun h => conn_trans h (conn_symm (conn_edge hp))⟩
theorem not_conn (h : ¬ conn fs sn E u v) : ∃ S, closed fs sn E S ∧ S u ∧ ¬ S v := by
  refine ⟨conn fs sn E u, conn_closed u, conn_refl u, h⟩
theorem conn_congr (h : ∀ p, E p = F p) : conn fs sn E u v ↔ conn fs sn F u v := by
  rw [show E = F from funext h]
/-- one path more -/
theorem conn_add {p : Nat} (hF : ∀ q, F q = true ↔ E q = true ∨ q = p) : conn fs sn F u v ↔ conn fs sn E u v ∨ (conn fs sn E u (fs p) ∧ conn fs sn E (sn p) v) ∨ (conn fs sn E u (sn p) ∧ conn fs sn E (fs p) v) := by
  have hEF : ∀ q, E q = true → F q = true := fun q hq => (hF q).mpr (Or.inl hq)
  constructor
  · intro h
    refine Classical.byContradiction fun hn => ?_
    refine absurd (h (fun x => conn fs sn E u x ∨ (conn fs sn E u (fs p) ∧ conn fs sn E (sn p) x) ∨ (conn fs sn E u (sn p) ∧ conn fs sn E (fs p) x)) ?_ (Or.inl (conn_refl u))) hn
    intro q hq
    rcases (hF q).mp hq with hq | rfl
    · have e : ∀ a, conn fs sn E a (fs q) ↔ conn fs sn E a (sn q) := fun a => conn_closed a q hq
      show (_ ∨ _ ∧ _ ∨ _ ∧ _) ↔ (_ ∨ _ ∧ _ ∨ _ ∧ _)
      rw [e u, e (sn p), e (fs p)]
    · constructor
      · rintro (h1 | ⟨h1, h2⟩ | ⟨h1, h2⟩)
        · exact Or.inr (Or.inl ⟨h1, conn_refl _⟩)
        · exact Or.inr (Or.inl ⟨h1, conn_refl _⟩)
        · exact Or.inl h1
      · rintro (h1 | ⟨h1, h2⟩ | ⟨h1, h2⟩)
        · exact Or.inr (Or.inr ⟨h1, conn_refl _⟩)
        · exact Or.inl h1
        · exact Or.inr (Or.inr ⟨h1, conn_refl _⟩)
  · have hp : conn fs sn F (fs p) (sn p) := conn_edge ((hF p).mpr (Or.inr rfl))
    rintro (h1 | ⟨h1, h2⟩ | ⟨h1, h2⟩)
    · exact conn_mono hEF h1
    · exact conn_trans (conn_mono hEF h1) (conn_trans hp (conn_mono hEF h2))
    · exact conn_trans (conn_mono hEF h1) (conn_trans (conn_symm hp) (conn_mono hEF h2))
end
