/-! ===== spread trees. Paths in order: by costs, then by ids ===== -/
def bef (co : Nat → Nat) (q p : Nat) : Prop := co q < co p ∨ (co q = co p ∧ q < p)
/-- the usable paths ahead of p -/
def befE (co : Nat → Nat) (E : Nat → Bool) (p : Nat) : Nat → Bool := fun q => E q && (decide (co q < co p) || (decide (co q = co p) && decide (q < p)))
theorem befE_t {co : Nat → Nat} {E : Nat → Bool} {p q : Nat} : befE co E p q = true ↔ E q = true ∧ bef co q p := by
  simp [befE, bef]
/-- those that are done when the turn is at the cost c and the path j -/
def doneE (co : Nat → Nat) (E : Nat → Bool) (c j : Nat) : Nat → Bool := fun q => E q && (decide (co q < c) || (decide (co q = c) && decide (q < j)))
/-- labels and chosen paths when those of Q are done -/
def kru (fs sn co : Nat → Nat) (E : Nat → Bool) (n m : Nat) (Q : Nat → Bool) (lab : Nat → Nat) (ch : Nat → Bool) : Prop :=
  (∀ a b, a < n → b < n → (lab a = lab b ↔ conn fs sn Q a b)) ∧ (∀ a, a < n → lab a < n ∧ lab (lab a) = lab a) ∧ (∀ p, ch p = true ↔ Q p = true ∧ ¬ conn fs sn (befE co E p) (fs p) (sn p)) ∧
  ∀ C : Nat → Bool, (∀ p, E p = true → C (fs p) = C (sn p)) → cnt (fun v => C v && decide (lab v = v)) n + cnt (fun p => ch p && C (fs p)) m = cnt C n
section
variable {fs sn co : Nat → Nat} {E Q : Nat → Bool} {n m c j : Nat} {lab : Nat → Nat} {ch : Nat → Bool}
theorem kru_0 : kru fs sn co E n m (fun _ => false) (fun v => v) (fun _ => false) := by
  refine ⟨fun a b _ _ => ⟨fun h => by have h : a = b := h; rw [h]; exact conn_refl b, fun h => h (fun x => a = x) (fun p hp => (by cases hp)) rfl⟩, fun a ha => ⟨ha, rfl⟩, fun p => ⟨fun h => (by cases h), fun h => (by cases h.1)⟩, fun C _ => ?_⟩
  rw [cnt_zero (p := fun p => false && C (fs p)) m (fun _ _ => rfl), cnt_congr (q := C) n (fun i _ => by simp)]
  rfl
theorem kru_congr {Q' : Nat → Bool} (h : kru fs sn co E n m Q lab ch) (e : ∀ p, Q p = Q' p) : kru fs sn co E n m Q' lab ch := by
  rw [show Q' = Q from (funext e).symm]
  exact h
/-- what joining the ends of p leaves of the labels -/
def joined (n : Nat) (k r : Nat) (lab lab' : Nat → Nat) : Prop := ∀ v, v < n → lab' v = if lab v = r then k else lab v
theorem kru_step {p : Nat} {lab' : Nat → Nat} (hp : p < m) (hE : E p = true) (h1 : fs p < n) (h2 : sn p < n) (hQE : ∀ q, Q q = true → E q = true) (hQ : ∀ q, befE co E p q = Q q) (h : kru fs sn co E n m Q lab ch) (hj : joined n (lab (fs p)) (lab (sn p)) lab lab') :
    kru fs sn co E n m (fun q => Q q || decide (q = p)) lab' (fun q => ch q || (decide (q = p) && decide (lab (fs p) ≠ lab (sn p)))) := by
  obtain ⟨k1, k2, k3, k4⟩ := h
  have hQp : Q p = false := by
    rw [← hQ p]
    cases hb : befE co E p p with
    | false => rfl
    | true =>
      have := (befE_t.mp hb).2
      unfold bef at this
      omega
  have hchp : ch p = false := by
    cases hb : ch p with
    | false => rfl
    | true => rw [((k3 p).mp hb).1] at hQp; cases hQp
  have hcp : lab (fs p) ≠ lab (sn p) ↔ ¬ conn fs sn (befE co E p) (fs p) (sn p) := by
    rw [show befE co E p = Q from funext hQ]
    exact not_congr (k1 _ _ h1 h2)
  refine ⟨fun a b ha hb => ?_, fun a ha => ?_, fun q => ?_, fun C hC => ?_⟩
  · rw [conn_add (E := Q) (p := p) (fun q => by simp), ← k1 a b ha hb, ← k1 a _ ha h1, ← k1 _ b h2 hb, ← k1 a _ ha h2, ← k1 _ b h1 hb, hj a ha, hj b hb]
    by_cases e1 : lab a = lab (sn p) <;> by_cases e2 : lab b = lab (sn p)
    · simp [e1, e2]
    · rw [if_pos e1, if_neg e2]
      constructor
      · intro q; exact Or.inr (Or.inr ⟨e1, q⟩)
      · rintro (q | ⟨_, q⟩ | ⟨_, q⟩)
        · exact absurd (q.symm.trans e1) e2
        · exact absurd q.symm e2
        · exact q
    · rw [if_neg e1, if_pos e2]
      constructor
      · intro q; exact Or.inr (Or.inl ⟨q, e2.symm⟩)
      · rintro (q | ⟨q, _⟩ | ⟨q, _⟩)
        · exact absurd (q.trans e2) e1
        · exact q
        · exact absurd q e1
    · rw [if_neg e1, if_neg e2]
      constructor
      · intro q; exact Or.inl q
      · rintro (q | ⟨_, q⟩ | ⟨q, _⟩)
        · exact q
        · exact absurd q.symm e2
        · exact absurd q e1
  · have g1 := k2 a ha
    have g2 := k2 _ h1
    rw [hj a ha]
    by_cases e1 : lab a = lab (sn p)
    · rw [if_pos e1, hj _ g2.1, g2.2]
      refine ⟨g2.1, ?_⟩
      by_cases e2 : lab (fs p) = lab (sn p)
      · simp only [if_pos e2]
      · simp only [if_neg e2]
    · rw [if_neg e1, hj _ g1.1, g1.2, if_neg e1]
      exact ⟨g1.1, rfl⟩
  · simp only [Bool.or_eq_true, Bool.and_eq_true, decide_eq_true_eq]
    rw [k3 q]
    constructor
    · rintro (⟨a, b⟩ | ⟨rfl, b⟩)
      · exact ⟨Or.inl a, b⟩
      · exact ⟨Or.inr rfl, hcp.mp b⟩
    · rintro ⟨a | rfl, b⟩
      · exact Or.inl ⟨a, b⟩
      · exact Or.inr ⟨rfl, hcp.mpr b⟩
  · have hk := k4 C hC
    by_cases e : lab (fs p) = lab (sn p)
    · rw [← hk, cnt_congr (q := fun p => ch p && C (fs p)) m (fun i _ => by simp [e]), cnt_congr (q := fun v => C v && decide (lab v = v)) n (fun v hv => by
        have : lab' v = lab v := by
          rw [hj v hv]
          by_cases e1 : lab v = lab (sn p)
          · rw [if_pos e1, e, e1]
          · simp only [if_neg e1]
        simp [this])]
    · have hr := k2 _ h2
      have hCr : C (lab (sn p)) = C (sn p) := by
        have hcn : conn fs sn Q (sn p) (lab (sn p)) := (k1 _ _ h2 hr.1).mp hr.2.symm
        have := hcn (fun x => C x = C (sn p)) (fun q hq => by show C (fs q) = _ ↔ C (sn q) = _; rw [hC q (hQE q hq)]) rfl
        exact this
      have root : ∀ v, v < n → (lab' v = v ↔ lab v = v ∧ v ≠ lab (sn p)) := by
        intro v hv
        rw [hj v hv]
        by_cases e1 : lab v = lab (sn p)
        · simp only [if_pos e1]
          constructor
          · intro q
            have h5 := (k2 _ h1).2
            rw [q] at h5
            exact absurd (q.trans (h5.symm.trans e1)) e
          · rintro ⟨q1, q2⟩
            exact absurd (q1.symm.trans e1) q2
        · simp only [if_neg e1]
          constructor
          · intro q
            exact ⟨q, fun q2 => e1 (by rw [q2]; exact hr.2)⟩
          · exact fun q => q.1
      cases hCp : C (fs p) with
      | true =>
        have hC2 : C (lab (sn p)) = true := by rw [hCr, ← hC p hE]; exact hCp
        have a1 := cnt_add1 (p := fun v => C v && decide (lab' v = v)) (q := fun v => C v && decide (lab v = v)) n (lab (sn p)) hr.1 (by
          have : ¬ lab' (lab (sn p)) = lab (sn p) := fun q => ((root _ hr.1).mp q).2 rfl
          simp [this]) (by simp [hC2, hr.2]) (fun i hi hne => by
          have : (lab' i = i) ↔ (lab i = i) := (root i hi).trans ⟨fun q => q.1, fun q => ⟨q, hne⟩⟩
          simp [this])
        have a2 := cnt_add1 (p := fun q => ch q && C (fs q)) (q := fun q => (ch q || (decide (q = p) && decide (lab (fs p) ≠ lab (sn p)))) && C (fs q)) m p hp (by simp [hchp]) (by simp [e, hCp]) (fun i _ hne => by simp [hne])
        dsimp only at a1 a2 ⊢
        omega
      | false =>
        have hC2 : C (lab (sn p)) = false := by rw [hCr, ← hC p hE]; exact hCp
        have a1 := cnt_congr (p := fun v => C v && decide (lab' v = v)) (q := fun v => C v && decide (lab v = v)) n (fun i hi => by
          by_cases e3 : i = lab (sn p)
          · rw [e3, hC2]; rfl
          · have : (lab' i = i) ↔ (lab i = i) := (root i hi).trans ⟨fun q => q.1, fun q => ⟨q, e3⟩⟩
            simp [this])
        have a2 := cnt_congr (p := fun q => (ch q || (decide (q = p) && decide (lab (fs p) ≠ lab (sn p)))) && C (fs q)) (q := fun q => ch q && C (fs q)) m (fun i _ => by
          by_cases e3 : i = p
          · rw [e3, hCp]; simp
          · simp [e3])
        dsimp only at a1 a2 ⊢
        omega
/-- when all are done: the paths of the tree of r are those chosen in its group, one less than its fields -/
theorem kru_end {r : Nat} (hE : ∀ p, E p = true → fs p < n ∧ sn p < n) (hr : r < n) (h : kru fs sn co E n m E lab ch) : cnt (fun p => ch p && decide (lab (fs p) = lab r)) m + 1 = cnt (fun v => decide (lab v = lab r)) n ∧ ∀ v, v < n → (lab v = lab r ↔ conn fs sn E r v) := by
  obtain ⟨k1, k2, k3, k4⟩ := h
  have hc : ∀ v, v < n → (lab v = lab r ↔ conn fs sn E r v) := fun v hv => eq_comm.trans (k1 r v hr hv)
  refine ⟨?_, hc⟩
  have hd : ∀ v, Decidable (conn fs sn E r v) := fun v => Classical.propDecidable _
  have hk := k4 (fun v => decide (conn fs sn E r v)) (fun p hp => by
    have := conn_closed (fs := fs) (sn := sn) (E := E) r p hp
    simp [this])
  have e1 : cnt (fun v => decide (conn fs sn E r v) && decide (lab v = v)) n = 1 := by
    refine cnt_one n (lab r) (k2 r hr).1 ?_ (fun i hi hq => ?_)
    · have := (hc _ (k2 r hr).1).mp (k2 r hr).2
      simp [this, (k2 r hr).2]
    · simp only [Bool.and_eq_true, decide_eq_true_eq] at hq
      exact hq.2.symm.trans ((hc i hi).mpr hq.1)
  have e2 : cnt (fun v => decide (conn fs sn E r v)) n = cnt (fun v => decide (lab v = lab r)) n := cnt_congr n (fun i hi => by simp [hc i hi])
  rw [← e2, ← hk, e1, cnt_congr (p := fun p => ch p && decide (conn fs sn E r (fs p))) (q := fun p => ch p && decide (lab (fs p) = lab r)) m (fun p hp => by
    cases hcp : ch p with
    | false => rfl
    | true => simp [hc _ (hE p ((k3 p).mp hcp).1).1])]
  omega
/-! Prim: R reached from r, pu the path, pa the parent, de the depth, P the paths taken -/
def prim (fs sn co : Nat → Nat) (E : Nat → Bool) (n m r : Nat) (R : Nat → Bool) (pa pu de : Nat → Nat) (P : Nat → Bool) : Prop :=
  R r = true ∧ (∀ v, v < n → R v = true → conn fs sn E r v) ∧
  (∀ v, v < n → R v = true → v ≠ r → pu v < m ∧ E (pu v) = true ∧ P (pu v) = true ∧ R (pa v) = true ∧ pa v < n ∧ de v = de (pa v) + 1 ∧ ((sn (pu v) = v ∧ fs (pu v) = pa v) ∨ (fs (pu v) = v ∧ sn (pu v) = pa v))) ∧
  (∀ p, P p = true → p < m ∧ E p = true ∧ R (fs p) = true ∧ R (sn p) = true ∧ ¬ conn fs sn (befE co E p) (fs p) (sn p)) ∧
  cnt P m + 1 = cnt R n ∧ sumN (fun v => if R v = true ∧ v ≠ r then co (pu v) else 0) n = sumN (fun p => if P p = true then co p else 0) m ∧ (∀ v, v < n → R v = true → de v < cnt R n)
theorem prim_0 {r : Nat} (hr : r < n) (pa pu de : Nat → Nat) (hde : de r = 0) : prim fs sn co E n m r (fun v => decide (v = r)) pa pu de (fun _ => false) := by
  refine ⟨decide_eq_true rfl, fun v _ hv => by rw [of_decide_eq_true hv]; exact conn_refl r, fun v _ hv hne => (hne (of_decide_eq_true hv)).elim, fun p hp => (by cases hp), ?_, ?_, fun v _ hv => by rw [of_decide_eq_true hv, hde]; exact cnt_pos n r hr (decide_eq_true rfl)⟩
  · rw [cnt_zero m (fun _ _ => rfl), cnt_one n r hr (decide_eq_true rfl) (fun i _ hi => of_decide_eq_true hi)]
  · rw [sumN_zero n (fun i _ => by simp), sumN_zero m (fun i _ => by simp)]
/-- a path that leaves R, the first in order -/
def firstOut (fs sn co : Nat → Nat) (E : Nat → Bool) (m : Nat) (R : Nat → Bool) (p : Nat) : Prop :=
  p < m ∧ E p = true ∧ R (fs p) ≠ R (sn p) ∧ ∀ q, q < m → E q = true → R (fs q) ≠ R (sn q) → ¬ bef co q p
theorem prim_step {r p v w : Nat} {R P : Nat → Bool} {pa pu de : Nat → Nat} (hE : ∀ p, E p = true → p < m ∧ fs p < n ∧ sn p < n) (h : prim fs sn co E n m r R pa pu de P) (hf : firstOut fs sn co E m R p) (hv : R v = false) (hw : R w = true) (hpv : (sn p = v ∧ fs p = w) ∨ (fs p = v ∧ sn p = w)) :
    prim fs sn co E n m r (fun x => R x || decide (x = v)) (fun x => if x = v then w else pa x) (fun x => if x = v then p else pu x) (fun x => if x = v then de w + 1 else de x) (fun q => P q || decide (q = p)) := by
  obtain ⟨p1, p2, p3, p4, p5, p6, p7⟩ := h
  obtain ⟨f1, f2, f3, f4⟩ := hf
  obtain ⟨-, g1, g2⟩ := hE p f2
  have hvn : v < n := by rcases hpv with ⟨rfl, _⟩ | ⟨rfl, _⟩ <;> assumption
  have hwn : w < n := by rcases hpv with ⟨_, rfl⟩ | ⟨_, rfl⟩ <;> assumption
  have hrv : r ≠ v := fun e => by rw [e, hv] at p1; cases p1
  have hwv : w ≠ v := fun e => by rw [e, hv] at hw; cases hw
  have nev : ∀ x, R x = true → x ≠ v := fun x hx e => by rw [e, hv] at hx; cases hx
  have hcn : cnt (fun x => R x || decide (x = v)) n = cnt R n + 1 := cnt_add1 n v hvn hv (by simp) (fun i _ hi => by simp [hi])
  have hPp : P p = false := by
    cases hb : P p with
    | false => rfl
    | true => exact (f3 (by rw [(p4 p hb).2.2.1, (p4 p hb).2.2.2.1])).elim
  have hend : (R (fs p) || decide (fs p = v)) = true ∧ (R (sn p) || decide (sn p = v)) = true := by
    rcases hpv with ⟨e1, e2⟩ | ⟨e1, e2⟩
    · rw [e1, e2]; simp [hw]
    · rw [e1, e2]; simp [hw]
  refine ⟨by simp [p1], fun x hx hRx => ?_, fun x hx hRx hxr => ?_, fun q hq => ?_, ?_, ?_, fun x hx hRx => ?_⟩
  · by_cases e : x = v
    · have h1 := p2 w hwn hw
      have h2 := conn_edge (fs := fs) (sn := sn) (E := E) f2
      rw [e]
      rcases hpv with ⟨e1, e2⟩ | ⟨e1, e2⟩
      · rw [e1, e2] at h2; exact conn_trans h1 h2
      · rw [e1, e2] at h2; exact conn_trans h1 (conn_symm h2)
    · exact p2 x hx (by simpa [e] using hRx)
  · by_cases e : x = v
    · simp only [if_pos e, if_neg hwv]
      refine ⟨f1, f2, by simp, by simp [hw], hwn, trivial, ?_⟩
      rw [e]
      exact hpv
    · have hRx' : R x = true := by simpa [e] using hRx
      obtain ⟨q1, q2, q3, q4, q5, q6, q7⟩ := p3 x hx hRx' hxr
      simp only [if_neg e, if_neg (nev _ q4)]
      exact ⟨q1, q2, by simp [q3], by simp [q4], q5, q6, q7⟩
  · by_cases e : q = p
    · rw [e]
      refine ⟨f1, f2, hend.1, hend.2, fun hc => ?_⟩
      have hcl := hc (fun x => R x = R (fs p)) (fun q hq => by
        have hb := befE_t.mp hq
        have : R (fs q) = R (sn q) := Classical.byContradiction fun hne => f4 q (hE q hb.1).1 hb.1 hne hb.2
        show R (fs q) = _ ↔ R (sn q) = _
        rw [this]) rfl
      exact f3 hcl.symm
    · have hq' : P q = true := by simpa [e] using hq
      obtain ⟨q1, q2, q3, q4, q5⟩ := p4 q hq'
      exact ⟨q1, q2, by simp [q3], by simp [q4], q5⟩
  · rw [hcn, cnt_add1 (p := P) m p f1 hPp (by simp) (fun i _ hi => by simp [hi])]
    omega
  · have a1 := sumN_upd (f := fun x => if R x = true ∧ x ≠ r then co (pu x) else 0) (g := fun x => if (R x || decide (x = v)) = true ∧ x ≠ r then co (if x = v then p else pu x) else 0) n v hvn (fun i _ hi => by simp [hi])
    have a2 := sumN_upd (f := fun q => if P q = true then co q else 0) (g := fun q => if (P q || decide (q = p)) = true then co q else 0) m p f1 (fun i _ hi => by simp [hi])
    have b1 : (if R v = true ∧ v ≠ r then co (pu v) else 0) = 0 := by simp [hv]
    have b2 : (if (R v || decide (v = v)) = true ∧ v ≠ r then co (if v = v then p else pu v) else 0) = co p := by simp [Ne.symm hrv]
    have b3 : (if P p = true then co p else 0) = 0 := by simp [hPp]
    have b4 : (if (P p || decide (p = p)) = true then co p else 0) = co p := by simp
    dsimp only at a1 a2 ⊢
    rw [b1, b2] at a1
    rw [b3, b4] at a2
    omega
  · rw [hcn]
    by_cases e : x = v
    · simp only [if_pos e]
      have := p7 w hwn hw
      omega
    · simp only [if_neg e]
      have := p7 x hx (by simpa [e] using hRx)
      omega
/-- grown to the end: the group of r; the paths taken are those of the tree found in order -/
theorem prim_end {r : Nat} {R P : Nat → Bool} {pa pu de : Nat → Nat} (hE : ∀ p, E p = true → p < m ∧ fs p < n ∧ sn p < n) (hr : r < n) (h : prim fs sn co E n m r R pa pu de P) (hcl : ∀ p, E p = true → R (fs p) = R (sn p)) (hk : kru fs sn co E n m E lab ch) :
    (∀ v, v < n → (R v = true ↔ conn fs sn E r v)) ∧ ∀ p, p < m → (P p = true ↔ ch p = true ∧ lab (fs p) = lab r) := by
  obtain ⟨p1, p2, p3, p4, p5, p6, p7⟩ := h
  obtain ⟨c1, c2⟩ := kru_end (fun p hp => (hE p hp).2) hr hk
  have hR : ∀ v, v < n → (R v = true ↔ conn fs sn E r v) := fun v hv => ⟨p2 v hv, fun hc => hc (fun x => R x = true) (fun p hp => by show R (fs p) = true ↔ R (sn p) = true; rw [hcl p hp]) p1⟩
  refine ⟨hR, ?_⟩
  have hsub : ∀ p, p < m → P p = true → (ch p && decide (lab (fs p) = lab r)) = true := by
    intro p _ hp
    obtain ⟨q1, q2, q3, q4, q5⟩ := p4 p hp
    have h1 := (hk.2.2.1 p).mpr ⟨q2, q5⟩
    have h2 := (c2 _ (hE p q2).2.1).mpr ((hR _ (hE p q2).2.1).mp q3)
    simp [h1, h2]
  have hcnt : cnt (fun v => decide (lab v = lab r)) n = cnt R n := cnt_congr n (fun v hv => by
    cases hb : R v with
    | true => simp [(c2 v hv).mpr ((hR v hv).mp hb)]
    | false =>
      have : ¬ lab v = lab r := fun q => by
        have := (hR v hv).mpr ((c2 v hv).mp q)
        rw [hb] at this; cases this
      simp [this])
  intro p hp
  constructor
  · intro q
    have := hsub p hp q
    simpa using this
  · rintro ⟨q1, q2⟩
    refine Classical.byContradiction fun hn => ?_
    have := cnt_lt (p := P) (q := fun p => ch p && decide (lab (fs p) = lab r)) m hsub ⟨p, hp, by simp [q1, q2], by simpa using hn⟩
    omega
end
