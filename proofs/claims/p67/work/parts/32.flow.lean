/-! ===== flows: f p is 1, 0 or -1; val: what leaves a set ===== -/
def ind (b : Bool) : Int := if b = true then 1 else 0
theorem ind_t : ind true = 1 := rfl
theorem ind_f : ind false = 0 := rfl
def val (fs sn : Nat → Nat) (m : Nat) (f : Nat → Int) (S : Nat → Bool) : Int := sumI (fun p => f p * (ind (S (fs p)) - ind (S (sn p)))) m
def leav (fs sn : Nat → Nat) (E : Nat → Bool) (m : Nat) (S : Nat → Bool) : Nat := cnt (fun p => E p && (S (fs p) != S (sn p))) m
def isFlow (fs sn : Nat → Nat) (E : Nat → Bool) (m s t : Nat) (f : Nat → Int) (k : Nat) : Prop :=
  (∀ p, p < m → -1 ≤ f p ∧ f p ≤ 1) ∧ (∀ p, p < m → E p = false → f p = 0) ∧ ∀ S : Nat → Bool, val fs sn m f S = (k : Int) * (ind (S s) - ind (S t))
section
variable {fs sn : Nat → Nat} {E : Nat → Bool} {m n s t k : Nat} {f g : Nat → Int}
theorem flow_0 : isFlow fs sn E m s t (fun _ => 0) 0 := ⟨fun p _ => ⟨(by decide : (-1 : Int) ≤ 0), (by decide : (0 : Int) ≤ 1)⟩, fun _ _ _ => rfl, fun S => by
  rw [val, sumI_zero m (fun i _ => by simp)]
  simp⟩
theorem flow_le (h : isFlow fs sn E m s t f k) (S : Nat → Bool) (hs : S s = true) (ht : S t = false) : k ≤ leav fs sn E m S := by
  have h1 := h.2.2 S
  rw [hs, ht, ind_t, ind_f] at h1
  have h2 := sumI_le (f := fun p => f p * (ind (S (fs p)) - ind (S (sn p)))) (p := fun p => E p && (S (fs p) != S (sn p))) m (fun p hp => by
    have q1 := h.1 p hp
    have q2 := h.2.1 p hp
    cases hE : E p with
    | false => rw [q2 hE]; simp
    | true => cases hS : S (fs p) <;> cases hT : S (sn p) <;> simp [ind] <;> omega)
  have h3 : val fs sn m f S ≤ (leav fs sn E m S : Int) := h2
  rw [h1] at h3
  omega
/-- a path that may be taken further out of R -/
def cross (fs sn : Nat → Nat) (E : Nat → Bool) (f : Nat → Int) (R : Nat → Bool) (p : Nat) : Prop :=
  E p = true ∧ ((R (fs p) = true ∧ R (sn p) = false ∧ f p < 1) ∨ (R (sn p) = true ∧ R (fs p) = false ∧ -1 < f p))
theorem flow_eq (h : isFlow fs sn E m s t f k) (R : Nat → Bool) (hs : R s = true) (ht : R t = false) (hc : ∀ p, p < m → ¬ cross fs sn E f R p) : k = leav fs sn E m R := by
  have h1 := h.2.2 R
  rw [hs, ht, ind_t, ind_f] at h1
  have h2 := sumI_eq (f := fun p => f p * (ind (R (fs p)) - ind (R (sn p)))) (p := fun p => E p && (R (fs p) != R (sn p))) m (fun p hp => by
    have q1 := h.1 p hp
    have q2 := h.2.1 p hp
    have q3 := hc p hp
    unfold cross at q3
    cases hE : E p with
    | false => rw [q2 hE]; simp
    | true => cases hS : R (fs p) <;> cases hT : R (sn p) <;> simp [ind, hE, hS, hT] at q3 ⊢ <;> omega)
  have h3 : val fs sn m f R = (leav fs sn E m R : Int) := h2
  rw [h1] at h3
  omega
/-- what is reached from s: arr the path by which, rk the turn at which -/
def reachI (fs sn : Nat → Nat) (E : Nat → Bool) (m n s : Nat) (f : Nat → Int) (R : Nat → Bool) (arr rk : Nat → Nat) : Prop :=
  R s = true ∧ rk s = 0 ∧ (∀ v, v < n → R v = true → rk v < cnt R n) ∧
  ∀ v, v < n → R v = true → v ≠ s → arr v < m ∧ E (arr v) = true ∧ ((sn (arr v) = v ∧ R (fs (arr v)) = true ∧ rk (fs (arr v)) < rk v ∧ f (arr v) < 1) ∨ (fs (arr v) = v ∧ R (sn (arr v)) = true ∧ rk (sn (arr v)) < rk v ∧ -1 < f (arr v)))
theorem reachI_0 (hs : s < n) (arr : Nat → Nat) : reachI fs sn E m n s f (fun x => decide (x = s)) arr (fun _ => 0) :=
  ⟨decide_eq_true rfl, rfl, fun v _ _ => cnt_pos n s hs (decide_eq_true rfl), fun _ _ h hne => (hne (of_decide_eq_true h)).elim⟩
theorem reachI_add {R : Nat → Bool} {arr rk : Nat → Nat} {p v : Nat} (hE : ∀ p, E p = true → fs p < n ∧ sn p < n) (h : reachI fs sn E m n s f R arr rk) (hp : p < m) (hEp : E p = true) (hv : R v = false)
    (hq : (sn p = v ∧ R (fs p) = true ∧ f p < 1) ∨ (fs p = v ∧ R (sn p) = true ∧ -1 < f p)) : reachI fs sn E m n s f (fun x => R x || decide (x = v)) (fun x => if x = v then p else arr x) (fun x => if x = v then cnt R n else rk x) := by
  obtain ⟨h1, h2, h3, h4⟩ := h
  have hsv : s ≠ v := fun e => by rw [e, hv] at h1; cases h1
  have hvn : v < n := by
    rcases hq with ⟨rfl, _⟩ | ⟨rfl, _⟩
    · exact (hE p hEp).2
    · exact (hE p hEp).1
  have hc : cnt (fun x => R x || decide (x = v)) n = cnt R n + 1 := cnt_add1 n v hvn hv (by simp) (fun i _ hi => by simp [hi])
  have nev : ∀ x, R x = true → x ≠ v := fun x hx e => by rw [e, hv] at hx; cases hx
  refine ⟨by simp [h1], by simp only [if_neg hsv]; exact h2, fun w hw hR => ?_, fun w hw hR hws => ?_⟩
  · rw [hc]
    by_cases e : w = v
    · simp only [if_pos e]; omega
    · simp only [if_neg e]
      have hR' : R w = true := by simpa [e] using hR
      have := h3 w hw hR'; omega
  · by_cases e : w = v
    · simp only [if_pos e]
      refine ⟨hp, hEp, ?_⟩
      rcases hq with ⟨q1, q2, q3⟩ | ⟨q1, q2, q3⟩
      · refine Or.inl ⟨q1.trans e.symm, by simp [q2], ?_, q3⟩
        simp only [if_neg (nev _ q2)]
        exact h3 _ (hE p hEp).1 q2
      · refine Or.inr ⟨q1.trans e.symm, by simp [q2], ?_, q3⟩
        simp only [if_neg (nev _ q2)]
        exact h3 _ (hE p hEp).2 q2
    · have hR' : R w = true := by simpa [e] using hR
      obtain ⟨q1, q2, q3⟩ := h4 w hw hR' hws
      simp only [if_neg e]
      refine ⟨q1, q2, ?_⟩
      rcases q3 with ⟨q3, q4, q5, q6⟩ | ⟨q3, q4, q5, q6⟩
      · exact Or.inl ⟨q3, by simp [q4], by simp only [if_neg (nev _ q4)]; exact q5, q6⟩
      · exact Or.inr ⟨q3, by simp [q4], by simp only [if_neg (nev _ q4)]; exact q5, q6⟩
/-- on the way back from t: at x, the flow g -/
def backI (fs sn : Nat → Nat) (E : Nat → Bool) (m n s t k : Nat) (f g : Nat → Int) (R : Nat → Bool) (arr rk : Nat → Nat) (x : Nat) : Prop :=
  (∀ S : Nat → Bool, val fs sn m g S = (k : Int) * (ind (S s) - ind (S t)) + (ind (S x) - ind (S t))) ∧ R x = true ∧ x < n ∧ (∀ p, p < m → -1 ≤ g p ∧ g p ≤ 1) ∧ (∀ p, p < m → E p = false → g p = 0) ∧
  ∀ v, v < n → R v = true → v ≠ s → rk v ≤ rk x → g (arr v) = f (arr v)
theorem backI_0 {R : Nat → Bool} {arr rk : Nat → Nat} (h : isFlow fs sn E m s t f k) (ht : t < n) (hR : R t = true) : backI fs sn E m n s t k f f R arr rk t :=
  ⟨fun S => by rw [h.2.2 S]; omega, hR, ht, h.1, h.2.1, fun _ _ _ _ _ => rfl⟩
theorem back_end {R : Nat → Bool} {arr rk : Nat → Nat} (h : backI fs sn E m n s t k f g R arr rk s) : isFlow fs sn E m s t g (k + 1) :=
  ⟨h.2.2.2.1, h.2.2.2.2.1, fun S => by rw [h.1 S, Int.natCast_add, Int.add_mul]; simp⟩
theorem val_upd {f g : Nat → Int} (S : Nat → Bool) (p : Nat) (hp : p < m) (h : ∀ q, q < m → q ≠ p → g q = f q) : val fs sn m g S = val fs sn m f S + (g p - f p) * (ind (S (fs p)) - ind (S (sn p))) := by
  have := sumI_upd (f := fun p => f p * (ind (S (fs p)) - ind (S (sn p)))) (g := fun p => g p * (ind (S (fs p)) - ind (S (sn p)))) m p hp (fun i hi hne => by rw [h i hi hne])
  unfold val
  rw [Int.sub_mul]
  omega
theorem back_step {R : Nat → Bool} {arr rk : Nat → Nat} {x : Nat} (hE : ∀ p, E p = true → fs p < n ∧ sn p < n ∧ fs p ≠ sn p) (hr : reachI fs sn E m n s f R arr rk) (h : backI fs sn E m n s t k f g R arr rk x) (hx : x ≠ s) :
    arr x < m ∧ E (arr x) = true ∧ ((sn (arr x) = x ∧ rk (fs (arr x)) < rk x ∧ backI fs sn E m n s t k f (fun q => if q = arr x then g q + 1 else g q) R arr rk (fs (arr x))) ∨
      (sn (arr x) ≠ x ∧ fs (arr x) = x ∧ rk (sn (arr x)) < rk x ∧ backI fs sn E m n s t k f (fun q => if q = arr x then g q - 1 else g q) R arr rk (sn (arr x)))) := by
  obtain ⟨b1, b2, b3, b4, b5, b6⟩ := h
  obtain ⟨h1, h2, h3, h4⟩ := hr
  obtain ⟨q1, q2, q3⟩ := h4 x b3 b2 hx
  obtain ⟨e1, e2, e3⟩ := hE _ q2
  have hg : g (arr x) = f (arr x) := b6 x b3 b2 hx (Nat.le_refl _)
  -- no other field of a turn before has the same path
  have uniq : ∀ y, (sn (arr x) = x ∧ y = fs (arr x)) ∨ (fs (arr x) = x ∧ y = sn (arr x)) → rk y < rk x → ∀ v, v < n → R v = true → v ≠ s → rk v ≤ rk y → arr v ≠ arr x := by
    intro y hy hlt v hv hRv hvs hle e
    obtain ⟨-, -, r3⟩ := h4 v hv hRv hvs
    rw [e] at r3
    rcases hy with ⟨y1, y2⟩ | ⟨y1, y2⟩ <;> rcases r3 with ⟨z1, -, z3, -⟩ | ⟨z1, -, z3, -⟩
    · rw [← z1, y1] at hle; omega
    · rw [← z1, ← y2] at z3
      rw [y1] at z3; omega
    · rw [← z1, ← y2] at z3
      rw [y1] at z3; omega
    · rw [← z1, y1] at hle; omega
  refine ⟨q1, q2, ?_⟩
  rcases q3 with ⟨q3, q4, q5, q6⟩ | ⟨q3, q4, q5, q6⟩
  · refine Or.inl ⟨q3, q5, fun S => ?_, q4, e1, fun p hp => ?_, fun p hp hEp => ?_, fun v hv hRv hvs hle => ?_⟩
    · rw [val_upd (f := g) S (arr x) q1 (fun q _ hq => if_neg hq), b1 S, if_pos rfl, q3]
      have : g (arr x) + 1 - g (arr x) = 1 := by omega
      rw [this]; omega
    · by_cases e : p = arr x
      · have := b4 p hp
        rw [e] at this ⊢
        simp only [if_pos]; omega
      · simp only [if_neg e]; exact b4 p hp
    · have e : p ≠ arr x := fun e => by rw [e, q2] at hEp; cases hEp
      simp only [if_neg e]; exact b5 p hp hEp
    · have e := uniq (fs (arr x)) (Or.inl ⟨q3, rfl⟩) q5 v hv hRv hvs hle
      simp only [if_neg e]; exact b6 v hv hRv hvs (by omega)
  · refine Or.inr ⟨fun e => e3 (q3.trans e.symm), q3, q5, fun S => ?_, q4, e2, fun p hp => ?_, fun p hp hEp => ?_, fun v hv hRv hvs hle => ?_⟩
    · rw [val_upd (f := g) S (arr x) q1 (fun q _ hq => if_neg hq), b1 S, if_pos rfl, q3]
      have : g (arr x) - 1 - g (arr x) = -1 := by omega
      rw [this]; omega
    · by_cases e : p = arr x
      · have := b4 p hp
        rw [e] at this ⊢
        simp only [if_pos]; omega
      · simp only [if_neg e]; exact b4 p hp
    · have e : p ≠ arr x := fun e => by rw [e, q2] at hEp; cases hEp
      simp only [if_neg e]; exact b5 p hp hEp
    · have e := uniq (sn (arr x)) (Or.inr ⟨q3, rfl⟩) q5 v hv hRv hvs hle
      simp only [if_neg e]; exact b6 v hv hRv hvs (by omega)
end
