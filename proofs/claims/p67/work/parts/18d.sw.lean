/-! ===== switches, cases ===== -/
theorem sw_def {x : Int32} {lo n : Nat} {loI hiI : Int} (h1 : loI = (lo : Int)) (h2 : hiI = (lo : Int) + (n : Int) - 1) (h : ∀ c, c < n → x = nI (lo + c) → False) : x.toInt < loI ∨ hiI < x.toInt := by
  refine Classical.byContradiction fun hn => ?_
  have h3 : loI ≤ x.toInt ∧ x.toInt ≤ hiI := by omega
  refine h (x.toInt.toNat - lo) (by omega) ?_
  rw [show lo + (x.toInt.toNat - lo) = x.toInt.toNat by omega]
  have h4 : ¬ x < 0 := by
    intro q
    have := Int32.lt_iff_toInt_lt.mp q
    have e : (0 : Int32).toInt = 0 := rfl
    omega
  obtain ⟨j, hj, rfl⟩ := nI_of h4
  rw [nI_toInt hj]
  rfl
section
variable {U : am_U} {l : Launch} {G : am_G} {own : String} {cc : ByteArray} {nL fr c lo kc pc pc' : Nat} {ret : Option FieldType} {V V1 : am_V} {r : (Option Value ⊕ String) × am_V} {L L' : List (Option Value)} {st st' : List Value}
theorem AE.cse {C : Prop} {dC : Decidable C} {m1 m2 : am_R} (h : (if C then m1 else m2) = some r) (k1 : C → m1 = some r → AE U G nL fr c lo r kc V pc L st) (k2 : ¬ C → m2 = some r → AE U G nL fr c lo r kc V pc L st) : AE U G nL fr c lo r kc V pc L st := by
  by_cases e : C
  · rw [if_pos e] at h
    exact k1 e h
  · rw [if_neg e] at h
    exact k2 e h
theorem AE.tswIn {dflt l1 hi off : Int} {offs : Array Int} {len : Nat} {x : Int32} (K : aK U l G own cc nL ret fr c lo) (tgt : Nat) (hdg : decode cc pc = .ok (.tableswitch dflt l1 hi offs, len)) (h1 : ¬ x.toInt < l1) (h2 : ¬ hi < x.toInt) (ho : offs[(x.toInt - l1).toNat]? = some off) (ht : (pc : Int) + off = (tgt : Int)) (kk : AE U G nL fr c lo r kc V tgt L st) : AE U G nL fr c lo r kc V pc L (.int x :: st) := AW.tswIn K.2.2.2.1 tgt hdg h1 h2 ho ht kk
theorem AE.tswOut {dflt l1 hi : Int} {offs : Array Int} {len : Nat} {x : Int32} (K : aK U l G own cc nL ret fr c lo) (tgt : Nat) (hdg : decode cc pc = .ok (.tableswitch dflt l1 hi offs, len)) (h : x.toInt < l1 ∨ hi < x.toInt) (ht : (pc : Int) + dflt = (tgt : Int)) (kk : AE U G nL fr c lo r kc V tgt L st) : AE U G nL fr c lo r kc V pc L (.int x :: st) := AW.tswOut K.2.2.2.1 tgt hdg h ht kk
end
/-! ===== what a model comes to ===== -/
def TT (m : am_R) (P : am_P) : Prop := ∃ x V, m = some (x, V) ∧ P x V
theorem TT.ret {x : Option Value ⊕ String} {V : am_V} {P : am_P} (h : P x V) : TT (some (x, V)) P := ⟨x, V, rfl, h⟩
theorem TT.mono {m : am_R} {P Q : am_P} (h : TT m P) (k : ∀ x V, P x V → Q x V) : TT m Q := by
  obtain ⟨x, V, e, hp⟩ := h
  exact ⟨x, V, e, k x V hp⟩
theorem TT.G {b : Bool} {m : am_R} {P : am_P} (h : b = true) (k : TT m P) : TT (rG b m) P := by
  unfold rG
  rw [if_pos h]
  exact k
theorem TT.V {V : am_V} {f : am_V → am_R} {P : am_P} (k : TT (f V) P) : TT (rV V f) P := k
theorem TT.ite {C : Prop} {dC : Decidable C} {m1 m2 : am_R} {P : am_P} (k1 : C → TT m1 P) (k2 : ¬ C → TT m2 P) : TT (if C then m1 else m2) P := by
  by_cases e : C
  · rw [if_pos e]; exact k1 e
  · rw [if_neg e]; exact k2 e
def TI (m : am_R) (Q : Int32 → am_V → Prop) : Prop := ∃ x V, m = some (.inl (some (.int x)), V) ∧ Q x V
def TF (m : am_R) (Q : UInt32 → am_V → Prop) : Prop := ∃ x V, m = some (.inl (some (.float x)), V) ∧ Q x V
def TJ (m : am_R) (Q : Int64 → am_V → Prop) : Prop := ∃ x V, m = some (.inl (some (.long x)), V) ∧ Q x V
def TD (m : am_R) (Q : UInt64 → am_V → Prop) : Prop := ∃ x V, m = some (.inl (some (.double x)), V) ∧ Q x V
def TU (m : am_R) (Q : am_V → Prop) : Prop := ∃ V, m = some (.inl none, V) ∧ Q V
def TE (m : am_R) (E : String) (Q : am_V → Prop) : Prop := ∃ V, m = some (.inr E, V) ∧ Q V
theorem TI.T {m : am_R} {Q : Int32 → am_V → Prop} : TI m Q ↔ TT m (fun r V => ∃ x, r = .inl (some (.int x)) ∧ Q x V) := by
  constructor
  · rintro ⟨x, V, e, h⟩; exact ⟨_, V, e, x, rfl, h⟩
  · rintro ⟨_, V, e, x, rfl, h⟩; exact ⟨x, V, e, h⟩
theorem TF.T {m : am_R} {Q : UInt32 → am_V → Prop} : TF m Q ↔ TT m (fun r V => ∃ x, r = .inl (some (.float x)) ∧ Q x V) := by
  constructor
  · rintro ⟨x, V, e, h⟩; exact ⟨_, V, e, x, rfl, h⟩
  · rintro ⟨_, V, e, x, rfl, h⟩; exact ⟨x, V, e, h⟩
theorem TJ.T {m : am_R} {Q : Int64 → am_V → Prop} : TJ m Q ↔ TT m (fun r V => ∃ x, r = .inl (some (.long x)) ∧ Q x V) := by
  constructor
  · rintro ⟨x, V, e, h⟩; exact ⟨_, V, e, x, rfl, h⟩
  · rintro ⟨_, V, e, x, rfl, h⟩; exact ⟨x, V, e, h⟩
theorem TD.T {m : am_R} {Q : UInt64 → am_V → Prop} : TD m Q ↔ TT m (fun r V => ∃ x, r = .inl (some (.double x)) ∧ Q x V) := by
  constructor
  · rintro ⟨x, V, e, h⟩; exact ⟨_, V, e, x, rfl, h⟩
  · rintro ⟨_, V, e, x, rfl, h⟩; exact ⟨x, V, e, h⟩
theorem TU.T {m : am_R} {Q : am_V → Prop} : TU m Q ↔ TT m (fun r V => r = .inl none ∧ Q V) := by
  constructor
  · rintro ⟨V, e, h⟩; exact ⟨_, V, e, rfl, h⟩
  · rintro ⟨_, V, e, rfl, h⟩; exact ⟨V, e, h⟩
theorem TT.I {m : am_R} {f : Int32 → am_V → am_R} {Q : Int32 → am_V → Prop} {P : am_P} (h : TI m Q) (k : ∀ x V, Q x V → TT (f x V) P) : TT (rI m f) P := by
  obtain ⟨x, V, rfl, hq⟩ := h
  exact k x V hq
theorem TT.F {m : am_R} {f : UInt32 → am_V → am_R} {Q : UInt32 → am_V → Prop} {P : am_P} (h : TF m Q) (k : ∀ x V, Q x V → TT (f x V) P) : TT (rF m f) P := by
  obtain ⟨x, V, rfl, hq⟩ := h
  exact k x V hq
theorem TT.J {m : am_R} {f : Int64 → am_V → am_R} {Q : Int64 → am_V → Prop} {P : am_P} (h : TJ m Q) (k : ∀ x V, Q x V → TT (f x V) P) : TT (rJ m f) P := by
  obtain ⟨x, V, rfl, hq⟩ := h
  exact k x V hq
theorem TT.D {m : am_R} {f : UInt64 → am_V → am_R} {Q : UInt64 → am_V → Prop} {P : am_P} (h : TD m Q) (k : ∀ x V, Q x V → TT (f x V) P) : TT (rD m f) P := by
  obtain ⟨x, V, rfl, hq⟩ := h
  exact k x V hq
theorem TT.U {m : am_R} {f : am_V → am_R} {Q : am_V → Prop} {P : am_P} (h : TU m Q) (k : ∀ V, Q V → TT (f V) P) : TT (rU m f) P := by
  obtain ⟨V, rfl, hq⟩ := h
  exact k V hq
theorem TI.ret {x : Int32} {V : am_V} {Q : Int32 → am_V → Prop} (h : Q x V) : TI (some (.inl (some (.int x)), V)) Q := ⟨x, V, rfl, h⟩
theorem TI.mono {m : am_R} {P Q : Int32 → am_V → Prop} (h : TI m P) (k : ∀ x V, P x V → Q x V) : TI m Q := by
  obtain ⟨x, V, e, hp⟩ := h
  exact ⟨x, V, e, k x V hp⟩
theorem TU.ret {V : am_V} {Q : am_V → Prop} (h : Q V) : TU (some (.inl none, V)) Q := ⟨V, rfl, h⟩
theorem rI_ret {x : Int32} {V : am_V} {f : Int32 → am_V → am_R} : rI (some (.inl (some (.int x)), V)) f = f x V := rfl
theorem rU_ret {V : am_V} {f : am_V → am_R} : rU (some (.inl none, V)) f = f V := rfl
theorem rI_exc {E : String} {V : am_V} {f : Int32 → am_V → am_R} : rI (some (.inr E, V)) f = some (.inr E, V) := rfl
theorem rU_exc {E : String} {V : am_V} {f : am_V → am_R} : rU (some (.inr E, V)) f = some (.inr E, V) := rfl
