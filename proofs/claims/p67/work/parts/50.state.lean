/-! ===== states as numbers: the net, the broadcast, the counts ===== -/
abbrev cT : Type := (Nat × Bool × Nat × Nat × Bool × Nat × Nat) × (Nat → Nat)
def c_st (C : cT) : Nat := C.1.1
def c_ru (C : cT) : Bool := C.1.2.1
def c_og (C : cT) : Nat := C.1.2.2.1
def c_da (C : cT) : Nat := C.1.2.2.2.1
def c_pa (C : cT) : Bool := C.1.2.2.2.2.1
def c_bl (C : cT) : Nat := C.1.2.2.2.2.2.1
def c_sd (C : cT) : Nat := C.1.2.2.2.2.2.2
def c_hd (C : cT) : Nat → Nat := C.2
abbrev aT : Type := (Nat × Nat × Nat × Nat × Nat × Nat) × (Nat → Nat)
def a_se (A : aT) : Nat := A.1.1
def a_lo (A : aT) : Nat := A.1.2.1
def a_re (A : aT) : Nat := A.1.2.2.1
def a_sp (A : aT) : Nat := A.1.2.2.2.1
def a_fi (A : aT) : Nat := A.1.2.2.2.2.1
def a_fa (A : aT) : Nat := A.1.2.2.2.2.2
def a_us (A : aT) : Nat → Nat := A.2
abbrev sT : Type := nT × cT × aT
def vC (V : am_V) (i : Nat) (C : cT) : Prop := V (sS i + 2) 1 = nI (c_st C) ∧ V (sS i + 2) 2 = bI (c_ru C) ∧ V (sS i + 2) 3 = nI (c_og C) ∧ V (sS i + 2) 4 = nI (c_da C) ∧ V (sS i + 2) 5 = bI (c_pa C) ∧ V (sS i + 2) 6 = nI (c_bl C) ∧ V (sS i + 2) 7 = nI (c_sd C) ∧ rowN V (sS i + 9) 9 (c_hd C)
def vA (V : am_V) (i : Nat) (A : aT) : Prop := V (sS i) 3 = nI (a_se A) ∧ V (sS i) 4 = nI (a_lo A) ∧ V (sS i) 5 = nI (a_re A) ∧ V (sS i) 6 = nI (a_sp A) ∧ V (sS i) 7 = nI (a_fi A) ∧ V (sS i) 8 = nI (a_fa A) ∧ rowN V (sS i + 3) 16 (a_us A)
def vS (V : am_V) (i : Nat) (s : sT) : Prop := vN V i s.1 ∧ vC V i s.2.1 ∧ vA V i s.2.2
def frS (i : Nat) (V W : am_V) : Prop := ∀ c, ¬ (sS i ≤ c ∧ c < sS i + 16) → W c = V c
theorem frS.r (i : Nat) (V : am_V) : frS i V V := fun _ _ => rfl
theorem frS.t {i : Nat} {V W X : am_V} (h : frS i V W) (k : frS i W X) : frS i V X := fun c hc => (k c hc).trans (h c hc)
theorem frS.s {i : Nat} {V : am_V} {c k : Nat} {x : Int32} (h : sS i ≤ c ∧ c < sS i + 16) : frS i V (am_set V c k x) := fun d hd => am_set_ne _ _ _ (fun e => hd (e ▸ h))
section
variable {V W : am_V} {i : Nat} {N : nT} {C : cT} {A : aT}
theorem vC_cg (h : vC V i C) (e1 : W (sS i + 2) = V (sS i + 2)) (e2 : W (sS i + 9) = V (sS i + 9)) : vC W i C := by
  unfold vC rowN at *
  rw [e1, e2]
  exact h
theorem vA_cg (h : vA V i A) (e1 : W (sS i) = V (sS i)) (e2 : W (sS i + 3) = V (sS i + 3)) : vA W i A := by
  unfold vA rowN at *
  rw [e1, e2]
  exact h
theorem vN_o (h : vN V i N) (e1 : W (sS i + 1) = V (sS i + 1)) (e4 : W (sS i + 4) = V (sS i + 4)) (e5 : W (sS i + 5) = V (sS i + 5)) (e6 : W (sS i + 6) = V (sS i + 6)) (e7 : W (sS i + 7) = V (sS i + 7)) (e8 : W (sS i + 8) = V (sS i + 8)) : vN W i N := by
  unfold vN at *
  rw [e1, e4, e5, e6, e7, e8]
  exact h
theorem vS_cg {s : sT} (h : vS V i s) (e : ∀ c, sS i ≤ c → c < sS i + 16 → W c = V c) : vS W i s :=
  ⟨vN_cg h.1 e, vC_cg h.2.1 (e _ (by omega) (by omega)) (e _ (by omega) (by omega)), vA_cg h.2.2 (e _ (by omega) (by omega)) (e _ (by omega) (by omega))⟩
theorem vS_frQ {s : sT} (h : vS V i s) (e : frQ V W) : vS W i s := vS_cg h fun c hc _ => e c (Or.inr (Or.inr (by have := sS_ge i; omega)))
theorem vN_s {c k : Nat} {x : Int32} (h : vN V i N) (hc : c ≠ sS i + 1 ∧ c ≠ sS i + 4 ∧ c ≠ sS i + 5 ∧ c ≠ sS i + 6 ∧ c ≠ sS i + 7 ∧ c ≠ sS i + 8) : vN (am_set V c k x) i N :=
  vN_o h (am_set_ne _ _ _ (Ne.symm hc.1)) (am_set_ne _ _ _ (Ne.symm hc.2.1)) (am_set_ne _ _ _ (Ne.symm hc.2.2.1)) (am_set_ne _ _ _ (Ne.symm hc.2.2.2.1)) (am_set_ne _ _ _ (Ne.symm hc.2.2.2.2.1)) (am_set_ne _ _ _ (Ne.symm hc.2.2.2.2.2))
theorem vC_s {c k : Nat} {x : Int32} (h : vC V i C) (hc : c ≠ sS i + 2 ∧ c ≠ sS i + 9) : vC (am_set V c k x) i C := vC_cg h (am_set_ne _ _ _ (Ne.symm hc.1)) (am_set_ne _ _ _ (Ne.symm hc.2))
theorem vA_s {c k : Nat} {x : Int32} (h : vA V i A) (hc : c ≠ sS i ∧ c ≠ sS i + 3) : vA (am_set V c k x) i A := vA_cg h (am_set_ne _ _ _ (Ne.symm hc.1)) (am_set_ne _ _ _ (Ne.symm hc.2))
theorem sg_n {c k j : Nat} {x : Int32} (h : j ≠ k) : am_set V c k x c j = V c j := by rw [sg_c, if_neg h]
theorem sg_e {c k : Nat} {x : Int32} : am_set V c k x c k = x := by rw [sg_c, if_pos rfl]
theorem sg_d {c d k j : Nat} {x : Int32} (h : d ≠ c) : am_set V c k x d j = V d j := by rw [am_set_ne _ _ _ h]
theorem rowN_n {c k d j : Nat} {x : Int32} {f : Nat → Nat} (h : rowN V c k f) (e : c ≠ d) : rowN (am_set V d j x) c k f := rowN_ne h e
/-! one field is written -/
theorem vC_st {x : Nat} (h : vC V i C) : vC (am_set V (sS i + 2) 1 (nI x)) i ((x, C.1.2), C.2) := by
  obtain ⟨h1, h2, h3, h4, h5, h6, h7, h8⟩ := h
  exact ⟨sg_e, (sg_n (by decide)).trans h2, (sg_n (by decide)).trans h3, (sg_n (by decide)).trans h4, (sg_n (by decide)).trans h5, (sg_n (by decide)).trans h6, (sg_n (by decide)).trans h7, rowN_n h8 (by omega)⟩
theorem vC_ru {x : Bool} (h : vC V i C) : vC (am_set V (sS i + 2) 2 (bI x)) i ((C.1.1, x, C.1.2.2), C.2) := by
  obtain ⟨h1, h2, h3, h4, h5, h6, h7, h8⟩ := h
  exact ⟨(sg_n (by decide)).trans h1, sg_e, (sg_n (by decide)).trans h3, (sg_n (by decide)).trans h4, (sg_n (by decide)).trans h5, (sg_n (by decide)).trans h6, (sg_n (by decide)).trans h7, rowN_n h8 (by omega)⟩
theorem vC_og {x : Nat} (h : vC V i C) : vC (am_set V (sS i + 2) 3 (nI x)) i ((C.1.1, C.1.2.1, x, C.1.2.2.2), C.2) := by
  obtain ⟨h1, h2, h3, h4, h5, h6, h7, h8⟩ := h
  exact ⟨(sg_n (by decide)).trans h1, (sg_n (by decide)).trans h2, sg_e, (sg_n (by decide)).trans h4, (sg_n (by decide)).trans h5, (sg_n (by decide)).trans h6, (sg_n (by decide)).trans h7, rowN_n h8 (by omega)⟩
theorem vC_da {x : Nat} (h : vC V i C) : vC (am_set V (sS i + 2) 4 (nI x)) i ((C.1.1, C.1.2.1, C.1.2.2.1, x, C.1.2.2.2.2), C.2) := by
  obtain ⟨h1, h2, h3, h4, h5, h6, h7, h8⟩ := h
  exact ⟨(sg_n (by decide)).trans h1, (sg_n (by decide)).trans h2, (sg_n (by decide)).trans h3, sg_e, (sg_n (by decide)).trans h5, (sg_n (by decide)).trans h6, (sg_n (by decide)).trans h7, rowN_n h8 (by omega)⟩
theorem vC_pa {x : Bool} (h : vC V i C) : vC (am_set V (sS i + 2) 5 (bI x)) i ((C.1.1, C.1.2.1, C.1.2.2.1, C.1.2.2.2.1, x, C.1.2.2.2.2.2), C.2) := by
  obtain ⟨h1, h2, h3, h4, h5, h6, h7, h8⟩ := h
  exact ⟨(sg_n (by decide)).trans h1, (sg_n (by decide)).trans h2, (sg_n (by decide)).trans h3, (sg_n (by decide)).trans h4, sg_e, (sg_n (by decide)).trans h6, (sg_n (by decide)).trans h7, rowN_n h8 (by omega)⟩
theorem vC_bl {x : Nat} (h : vC V i C) : vC (am_set V (sS i + 2) 6 (nI x)) i ((C.1.1, C.1.2.1, C.1.2.2.1, C.1.2.2.2.1, C.1.2.2.2.2.1, x, C.1.2.2.2.2.2.2), C.2) := by
  obtain ⟨h1, h2, h3, h4, h5, h6, h7, h8⟩ := h
  exact ⟨(sg_n (by decide)).trans h1, (sg_n (by decide)).trans h2, (sg_n (by decide)).trans h3, (sg_n (by decide)).trans h4, (sg_n (by decide)).trans h5, sg_e, (sg_n (by decide)).trans h7, rowN_n h8 (by omega)⟩
theorem vC_sd {x : Nat} (h : vC V i C) : vC (am_set V (sS i + 2) 7 (nI x)) i ((C.1.1, C.1.2.1, C.1.2.2.1, C.1.2.2.2.1, C.1.2.2.2.2.1, C.1.2.2.2.2.2.1, x), C.2) := by
  obtain ⟨h1, h2, h3, h4, h5, h6, h7, h8⟩ := h
  exact ⟨(sg_n (by decide)).trans h1, (sg_n (by decide)).trans h2, (sg_n (by decide)).trans h3, (sg_n (by decide)).trans h4, (sg_n (by decide)).trans h5, (sg_n (by decide)).trans h6, sg_e, rowN_n h8 (by omega)⟩
theorem vC_hd {x f : Nat} (h : vC V i C) : vC (am_set V (sS i + 9) f (nI x)) i (C.1, fun y => if y = f then x else c_hd C y) := by
  obtain ⟨h1, h2, h3, h4, h5, h6, h7, h8⟩ := h
  exact ⟨(sg_d (by omega)).trans h1, (sg_d (by omega)).trans h2, (sg_d (by omega)).trans h3, (sg_d (by omega)).trans h4, (sg_d (by omega)).trans h5, (sg_d (by omega)).trans h6, (sg_d (by omega)).trans h7, rowN_set h8⟩
theorem vA_se {x : Nat} (h : vA V i A) : vA (am_set V (sS i) 3 (nI x)) i ((x, A.1.2), A.2) := by
  obtain ⟨h1, h2, h3, h4, h5, h6, h7⟩ := h
  exact ⟨sg_e, (sg_n (by decide)).trans h2, (sg_n (by decide)).trans h3, (sg_n (by decide)).trans h4, (sg_n (by decide)).trans h5, (sg_n (by decide)).trans h6, rowN_n h7 (by omega)⟩
theorem vA_lo {x : Nat} (h : vA V i A) : vA (am_set V (sS i) 4 (nI x)) i ((A.1.1, x, A.1.2.2), A.2) := by
  obtain ⟨h1, h2, h3, h4, h5, h6, h7⟩ := h
  exact ⟨(sg_n (by decide)).trans h1, sg_e, (sg_n (by decide)).trans h3, (sg_n (by decide)).trans h4, (sg_n (by decide)).trans h5, (sg_n (by decide)).trans h6, rowN_n h7 (by omega)⟩
theorem vA_re {x : Nat} (h : vA V i A) : vA (am_set V (sS i) 5 (nI x)) i ((A.1.1, A.1.2.1, x, A.1.2.2.2), A.2) := by
  obtain ⟨h1, h2, h3, h4, h5, h6, h7⟩ := h
  exact ⟨(sg_n (by decide)).trans h1, (sg_n (by decide)).trans h2, sg_e, (sg_n (by decide)).trans h4, (sg_n (by decide)).trans h5, (sg_n (by decide)).trans h6, rowN_n h7 (by omega)⟩
theorem vA_sp {x : Nat} (h : vA V i A) : vA (am_set V (sS i) 6 (nI x)) i ((A.1.1, A.1.2.1, A.1.2.2.1, x, A.1.2.2.2.2), A.2) := by
  obtain ⟨h1, h2, h3, h4, h5, h6, h7⟩ := h
  exact ⟨(sg_n (by decide)).trans h1, (sg_n (by decide)).trans h2, (sg_n (by decide)).trans h3, sg_e, (sg_n (by decide)).trans h5, (sg_n (by decide)).trans h6, rowN_n h7 (by omega)⟩
theorem vA_fi {x : Nat} (h : vA V i A) : vA (am_set V (sS i) 7 (nI x)) i ((A.1.1, A.1.2.1, A.1.2.2.1, A.1.2.2.2.1, x, A.1.2.2.2.2.2), A.2) := by
  obtain ⟨h1, h2, h3, h4, h5, h6, h7⟩ := h
  exact ⟨(sg_n (by decide)).trans h1, (sg_n (by decide)).trans h2, (sg_n (by decide)).trans h3, (sg_n (by decide)).trans h4, sg_e, (sg_n (by decide)).trans h6, rowN_n h7 (by omega)⟩
theorem vA_fa {x : Nat} (h : vA V i A) : vA (am_set V (sS i) 8 (nI x)) i ((A.1.1, A.1.2.1, A.1.2.2.1, A.1.2.2.2.1, A.1.2.2.2.2.1, x), A.2) := by
  obtain ⟨h1, h2, h3, h4, h5, h6, h7⟩ := h
  exact ⟨(sg_n (by decide)).trans h1, (sg_n (by decide)).trans h2, (sg_n (by decide)).trans h3, (sg_n (by decide)).trans h4, (sg_n (by decide)).trans h5, sg_e, rowN_n h7 (by omega)⟩
theorem vA_us {x f : Nat} (h : vA V i A) : vA (am_set V (sS i + 3) f (nI x)) i (A.1, fun y => if y = f then x else a_us A y) := by
  obtain ⟨h1, h2, h3, h4, h5, h6, h7⟩ := h
  exact ⟨(sg_d (by omega)).trans h1, (sg_d (by omega)).trans h2, (sg_d (by omega)).trans h3, (sg_d (by omega)).trans h4, (sg_d (by omega)).trans h5, (sg_d (by omega)).trans h6, rowN_set h7⟩
end
/-! ===== a state is copied ===== -/
section
variable {V : am_V} {i j : Nat} {s : sT}
theorem sS_ne {i j a b : Nat} (h : i ≠ j) (ha : a < 16) (hb : b < 16) : sS i + a ≠ sS j + b := by unfold sS; omega
theorem frS.w {i : Nat} {V : am_V} {c : Nat} {f : Nat → Int32} (h : sS i ≤ c ∧ c < sS i + 16) : frS i V (am_row V c f) := fun d hd => am_row_ne _ _ (fun e => hd (e ▸ h))
theorem sS_far {i j : Nat} (h : i ≠ j) : sS j + 16 ≤ sS i ∨ sS i + 16 ≤ sS j := by unfold sS; omega
set_option maxHeartbeats 4000000 in
theorem s_copyNet {N : nT} (hij : i ≠ j) (hN : vN V j N) : TU (d_X6_copyFrom i j V) (fun W => frS i V W ∧ vN W i N ∧ (∀ c, c = sS i ∨ c = sS i + 2 ∨ c = sS i + 3 ∨ c = sS i + 9 → W c = V c)) := by
  obtain ⟨h1, h2, h3, h4, h5, h6, h7, h8⟩ := hN
  have hf := sS_far hij
  unfold d_X6_copyFrom
  simp only [rV]
  refine TU.ret ⟨?_, ⟨?_, ?_, ?_, ?_, ?_, ?_, ?_, ?_⟩, ?_⟩
  · exact (((((((frS.w (by omega)).t (frS.w (by omega))).t (frS.w (by omega))).t (frS.w (by omega))).t (frS.w (by omega))).t (frS.s (by omega))).t (frS.s (by omega))).t (frS.s (by omega))
  · simp (config := {decide := true}) (disch := omega) only [am_set_ne, am_row_ne, sg_e, sg_n]
    exact h1
  · simp (config := {decide := true}) (disch := omega) only [am_set_ne, am_row_ne, sg_e, sg_n]
    exact h2
  · simp (config := {decide := true}) (disch := omega) only [am_set_ne, am_row_ne, sg_e, sg_n]
    exact h3
  · intro x hx
    simp (disch := omega) only [am_set_ne, am_row_ne, am_row_at, sb_cpy0 hx]
    exact h4 x hx
  · intro x hx
    simp (disch := omega) only [am_set_ne, am_row_ne, am_row_at, sb_cpy0 hx]
    exact h5 x hx
  · intro x hx
    simp (disch := omega) only [am_set_ne, am_row_ne, am_row_at, sb_cpy0 hx]
    exact h6 x hx
  · intro x hx
    simp (disch := omega) only [am_set_ne, am_row_ne, am_row_at, sb_cpy0 hx]
    exact h7 x hx
  · intro x hx
    simp (disch := omega) only [am_set_ne, am_row_ne, am_row_at, sb_cpy0 hx]
    exact h8 x hx
  · intro c hc
    simp (disch := omega) only [am_set_ne, am_row_ne]
set_option maxHeartbeats 4000000 in
theorem s_copyCast {C : cT} (hij : i ≠ j) (hC : vC V j C) : TU (d_X1_copyFrom i j V) (fun W => frS i V W ∧ vC W i C ∧ (∀ c, c ≠ sS i + 2 → c ≠ sS i + 9 → W c = V c)) := by
  obtain ⟨h1, h2, h3, h4, h5, h6, h7, h8⟩ := hC
  have hf := sS_far hij
  unfold d_X1_copyFrom
  simp (config := {decide := true}) (disch := omega) only [rV, am_set_ne, am_row_ne, h1, h2, h3, h4, h5, h6, h7, nbB, rGt]
  refine TU.ret ⟨?_, ⟨?_, ?_, ?_, ?_, ?_, ?_, ?_, ?_⟩, ?_⟩
  · exact (((((((frS.w (by omega)).t (frS.s (by omega))).t (frS.s (by omega))).t (frS.s (by omega))).t (frS.s (by omega))).t (frS.s (by omega))).t (frS.s (by omega))).t (frS.s (by omega))
  · simp (config := {decide := true}) (disch := omega) only [sg_e, sg_n]
  · simp (config := {decide := true}) (disch := omega) only [sg_e, sg_n]
  · simp (config := {decide := true}) (disch := omega) only [sg_e, sg_n]
  · simp (config := {decide := true}) (disch := omega) only [sg_e, sg_n]
  · simp (config := {decide := true}) (disch := omega) only [sg_e, sg_n]
  · simp (config := {decide := true}) (disch := omega) only [sg_e, sg_n]
  · simp (config := {decide := true}) (disch := omega) only [sg_e, sg_n]
  · intro x hx
    simp (disch := omega) only [am_set_ne, am_row_ne, am_row_at, sb_cpy0 hx]
    exact h8 x hx
  · intro c hc hc2
    simp (disch := omega) only [am_set_ne, am_row_ne]
set_option maxHeartbeats 4000000 in
theorem s_copy {s : sT} (hij : i ≠ j) (h : vS V j s) : TU (d_X8_copyFrom i j V) (fun W => frS i V W ∧ vS W i s) := by
  obtain ⟨hN, hC, h1, h2, h3, h4, h5, h6, h7⟩ := h
  have hf := sS_far hij
  rw [TU.T]
  unfold d_X8_copyFrom
  refine TT.U (s_copyNet hij hN) ?_
  rintro V1 ⟨f1, n1, -⟩
  refine TT.U (s_copyCast hij (vC_cg hC (f1 _ (by omega)) (f1 _ (by omega)))) ?_
  rintro V2 ⟨f2, c1, c2⟩
  have e : ∀ c, ¬ (sS i ≤ c ∧ c < sS i + 16) → V2 c = V c := f1.t f2
  have n2 : vN V2 i s.1 := vN_o n1 (c2 _ (by omega) (by omega)) (c2 _ (by omega) (by omega)) (c2 _ (by omega) (by omega)) (c2 _ (by omega) (by omega)) (c2 _ (by omega) (by omega)) (c2 _ (by omega) (by omega))
  simp (config := {decide := true}) (disch := omega) only [rV, am_set_ne, am_row_ne, e (sS j) (by omega), e (sS j + 3) (by omega), h1, h2, h3, h4, h5, h6]
  refine TT.ret ⟨rfl, ?_, ?_, ?_, ?_, ?_, ?_, ?_, ?_, ?_, ?_⟩
  · exact (f1.t f2).t (((((((frS.w (by omega)).t (frS.s (by omega))).t (frS.s (by omega))).t (frS.s (by omega))).t (frS.s (by omega))).t (frS.s (by omega))).t (frS.s (by omega)))
  · refine vN_o n2 ?_ ?_ ?_ ?_ ?_ ?_ <;> simp (disch := omega) only [am_set_ne, am_row_ne]
  · refine vC_cg c1 ?_ ?_ <;> simp (disch := omega) only [am_set_ne, am_row_ne]
  · simp (config := {decide := true}) (disch := omega) only [sg_e, sg_n]
  · simp (config := {decide := true}) (disch := omega) only [sg_e, sg_n]
  · simp (config := {decide := true}) (disch := omega) only [sg_e, sg_n]
  · simp (config := {decide := true}) (disch := omega) only [sg_e, sg_n]
  · simp (config := {decide := true}) (disch := omega) only [sg_e, sg_n]
  · simp (config := {decide := true}) (disch := omega) only [sg_e, sg_n]
  · intro x hx
    simp (disch := omega) only [am_set_ne, am_row_ne, am_row_at, sb_cpy0 hx]
    exact h7 x hx
end
