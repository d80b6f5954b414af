def rXI (m : am_R) (f : Int32 → am_V → am_R) (g : String → am_V → am_R) : am_R := match m with
  | some (.inl (some (.int x)), V) => f x V
  | some (.inr E, V) => g E V
  | _ => none
def rXF (m : am_R) (f : UInt32 → am_V → am_R) (g : String → am_V → am_R) : am_R := match m with
  | some (.inl (some (.float x)), V) => f x V
  | some (.inr E, V) => g E V
  | _ => none
def rXD (m : am_R) (f : UInt64 → am_V → am_R) (g : String → am_V → am_R) : am_R := match m with
  | some (.inl (some (.double x)), V) => f x V
  | some (.inr E, V) => g E V
  | _ => none
def tXI (f : Int32 → am_V → am_R) (g : String → am_V → am_R) (r q : (Option Value ⊕ String) × am_V) : Prop := match q with
  | (.inl (some (.int x)), V) => f x V = some r
  | (.inr E, V) => g E V = some r
  | _ => False
def tXF (f : UInt32 → am_V → am_R) (g : String → am_V → am_R) (r q : (Option Value ⊕ String) × am_V) : Prop := match q with
  | (.inl (some (.float x)), V) => f x V = some r
  | (.inr E, V) => g E V = some r
  | _ => False
def tXD (f : UInt64 → am_V → am_R) (g : String → am_V → am_R) (r q : (Option Value ⊕ String) × am_V) : Prop := match q with
  | (.inl (some (.double x)), V) => f x V = some r
  | (.inr E, V) => g E V = some r
  | _ => False
theorem rXI_some {m : am_R} {f : Int32 → am_V → am_R} {g : String → am_V → am_R} {r} (h : rXI m f g = some r) : ∃ q, m = some q ∧ tXI f g r q := by
  unfold rXI at h
  split at h
  · exact ⟨_, rfl, h⟩
  · exact ⟨_, rfl, h⟩
  · cases h
theorem rXF_some {m : am_R} {f : UInt32 → am_V → am_R} {g : String → am_V → am_R} {r} (h : rXF m f g = some r) : ∃ q, m = some q ∧ tXF f g r q := by
  unfold rXF at h
  split at h
  · exact ⟨_, rfl, h⟩
  · exact ⟨_, rfl, h⟩
  · cases h
theorem rXD_some {m : am_R} {f : UInt64 → am_V → am_R} {g : String → am_V → am_R} {r} (h : rXD m f g = some r) : ∃ q, m = some q ∧ tXD f g r q := by
  unfold rXD at h
  split at h
  · exact ⟨_, rfl, h⟩
  · exact ⟨_, rfl, h⟩
  · cases h
def am_hpl (X : am_X) (own E : String) (pc : Nat) : List ExceptionTableEntry → Prop
  | [] => True
  | z :: r => am_hp X own E pc z ∧ am_hpl X own E pc r
theorem am_hpl_mem {X : am_X} {own E : String} {pc : Nat} : ∀ {l : List ExceptionTableEntry}, am_hpl X own E pc l → ∀ z ∈ l, am_hp X own E pc z
  | [], _, z, hz => by cases hz
  | y :: r, h, z, hz => by
    rcases List.mem_cons.mp hz with rfl | hz
    · exact h.1
    · exact am_hpl_mem h.2 z hz
section
variable {U : am_U} {l : Launch} {G : am_G} {own : String} {cc : ByteArray} {nL fr c lo kc pc pc' : Nat} {ret : Option FieldType} {V V1 : am_V} {r : (Option Value ⊕ String) × am_V} {L L' : List (Option Value)} {st st' : List Value} {hh : List (Nat × Nat × Nat × Nat)}
/-- an exception of class E over the frame -/
def AEx (U : am_U) (G : am_G) (nL fr c lo : Nat) (r : (Option Value ⊕ String) × am_V) (kc : Nat) (V : am_V) (E : String) (pc : Nat) (L : List (Option Value)) : Prop :=
  AX xx U G nL kc (6 * kc) V (am_End xx U G (rk fr c lo) (am_is r.1 r.2)) E pc L
def aftX (U : am_U) (G : am_G) (nL fr c lo : Nat) (r : (Option Value ⊕ String) × am_V) (kc pc : Nat) (L : List (Option Value)) (st : List Value) (q : (Option Value ⊕ String) × am_V) : Prop := match q with
  | (.inl ro, V) => AE U G nL fr c lo r kc V (pc + 3) L (ro.toList ++ st)
  | (.inr E, V) => AEx U G nL fr c lo r kc V E pc L
theorem bkXI {f : Int32 → am_V → am_R} {g : String → am_V → am_R} (k : ∀ (x : Int32) (V : am_V), f x V = some r → AE U G nL fr c lo r kc V (pc + 3) L (.int x :: st)) (kx : ∀ (E : String) (V : am_V), g E V = some r → AEx U G nL fr c lo r kc V E pc L) : ∀ q, tXI f g r q → aftX U G nL fr c lo r kc pc L st q := by
  intro q hq
  unfold tXI at hq
  split at hq
  · exact k _ _ hq
  · exact kx _ _ hq
  · exact hq.elim
theorem bkXF {f : UInt32 → am_V → am_R} {g : String → am_V → am_R} (k : ∀ (x : UInt32) (V : am_V), f x V = some r → AE U G nL fr c lo r kc V (pc + 3) L (.float x :: st)) (kx : ∀ (E : String) (V : am_V), g E V = some r → AEx U G nL fr c lo r kc V E pc L) : ∀ q, tXF f g r q → aftX U G nL fr c lo r kc pc L st q := by
  intro q hq
  unfold tXF at hq
  split at hq
  · exact k _ _ hq
  · exact kx _ _ hq
  · exact hq.elim
theorem bkXD {f : UInt64 → am_V → am_R} {g : String → am_V → am_R} (k : ∀ (x : UInt64) (V : am_V), f x V = some r → AE U G nL fr c lo r kc V (pc + 3) L (.double x :: st)) (kx : ∀ (E : String) (V : am_V), g E V = some r → AEx U G nL fr c lo r kc V E pc L) : ∀ q, tXD f g r q → aftX U G nL fr c lo r kc pc L st q := by
  intro q hq
  unfold tXD at hq
  split at hq
  · exact k _ _ hq
  · exact kx _ _ hq
  · exact hq.elim
/-- a virtual call in a method with handlers -/
theorem AE.cvX {y : MethodName} {b : ByteArray} {nL' n index ci c0 f' c' lo' : Nat} {ret' : Option FieldType} {As : List Value} {os : List (Option Nat)} {T : u_T} {N : Nat} {stk : List Value} {m mm : am_R} {tt : ((Option Value ⊕ String) × am_V) → Prop}
    (K : aK U l G own cc nL ret fr c lo) (hC : ∀ q : (Option Value ⊕ String) × am_V, m = some q → am_Ct xx U l y b nL' ret' (rk f' c' lo') (.ref c0 :: As) V (am_is q.1 q.2)) (hcv : am_cv xx own index y b nL' ret' n) (hsh : am_sh xx c0 = some (.inl (ci, os))) (hcl : (am_cl xx)[ci]? = some (y.cls, T, N)) (hn : As.length = n) (hs : stk = As.reverse ++ .ref c0 :: st)
    (hst : (st.map fun v => v.category).sum ≤ 8) (hR : f' + 1 ≤ fr ∧ 8 + (nL' + 11) + lo' ≤ lo) (hf : kc + c' ≤ c) (hdg : decode cc pc = .ok (.invokevirtual index, 3)) (_h : mm = some r) (hm : ∃ q, m = some q ∧ tt q) (kk : ∀ q, tt q → aftX U G nL fr c lo r (kc + c') pc L st q) : AE U G nL fr c lo r kc V pc L stk := by
  subst hs
  obtain ⟨q, hq, ht⟩ := hm
  have h1 := kk q ht
  have hRR : am_gR G = rk fr c lo := K.2.1
  refine AW.callV (rm := rk f' c' lo') K.2.2.2.1 (by rw [K.1]; exact hC q hq) hcv hsh hcl hn hst (by rw [hRR]; exact hR) (by rw [hRR]; exact ⟨hf, by show 6 * kc + 6 * c' ≤ 6 * c; omega⟩) hdg (fun E W h => ?_) (fun q9 W h => ?_)
  · obtain ⟨e1, rfl⟩ := h
    obtain ⟨a, b⟩ := q
    cases e1
    have h2 : AEx U G nL fr c lo r (kc + c') b E pc L := h1
    unfold AEx at h2
    rw [Nat.mul_add] at h2
    exact h2
  · obtain ⟨e1, rfl⟩ := h
    obtain ⟨a, b⟩ := q
    cases e1
    have h2 : AE U G nL fr c lo r (kc + c') b (pc + 3) L (q9.toList ++ st) := h1
    unfold AE at h2
    rw [Nat.mul_add] at h2
    exact h2
/-- a static call of a method with handlers -/
theorem AE.csW {y : MethodName} {b : ByteArray} {nL' n index f' c' lo' : Nat} {ret' : Option FieldType} {As : List Value} {stk : List Value} {m mm : am_R} {tt : ((Option Value ⊕ String) × am_V) → Prop}
    (K : aK U l G own cc nL ret fr c lo) (hex : am_nx G) (hC : ∀ q : (Option Value ⊕ String) × am_V, m = some q → am_CtW xx U l y b nL' ret' hh (rk f' c' lo') As V (am_is q.1 q.2)) (hcv : am_csW xx own index y b nL' ret' hh n) (hn : As.length = n) (hs : stk = As.reverse ++ st)
    (hst : (st.map fun v => v.category).sum ≤ 8) (hR : f' + 1 ≤ fr ∧ 8 + (nL' + 11) + lo' ≤ lo) (hf : kc + c' ≤ c) (hdg : decode cc pc = .ok (.invokestatic index, 3)) (_h : mm = some r) (hm : ∃ q, m = some q ∧ tt q) (kk : ∀ q, tt q → aft U G nL fr c lo r (kc + c') (pc + 3) L st q) : AE U G nL fr c lo r kc V pc L stk := by
  subst hs
  obtain ⟨q, hq, ht⟩ := hm
  have h1 := kk q ht
  have hRR : am_gR G = rk fr c lo := K.2.1
  refine AW.callSW (rm := rk f' c' lo') K.2.2.2.1 (by rw [K.1]; exact hC q hq) hcv hn hst (by rw [hRR]; exact hR) (by rw [hRR]; exact ⟨hf, by show 6 * kc + 6 * c' ≤ 6 * c; omega⟩) hdg (fun E W h => ?_) (fun q9 W h => ?_)
  · obtain ⟨e1, rfl⟩ := h
    obtain ⟨a, b⟩ := q
    cases e1
    have := AE.out (kc := kc + c') (pc := pc) (L := L) K hex hf h1
    rw [Nat.mul_add] at this
    exact this
  · obtain ⟨e1, rfl⟩ := h
    obtain ⟨a, b⟩ := q
    cases e1
    have h2 : AE U G nL fr c lo r (kc + c') b (pc + 3) L (q9.toList ++ st) := h1
    unfold AE at h2
    rw [Nat.mul_add] at h2
    exact h2
/-- the handlers, one by one -/
theorem AEx.cse {E A : String} {m1 m2 : am_R} (h : (if E = A then m1 else m2) = some r) (k1 : m1 = some r → AEx U G nL fr c lo r kc V A pc L) (k2 : m2 = some r → AEx U G nL fr c lo r kc V E pc L) : AEx U G nL fr c lo r kc V E pc L := by
  by_cases e : E = A
  · rw [if_pos e] at h
    rw [e]
    exact k1 h
  · rw [if_neg e] at h
    exact k2 h
theorem AEx.catch {E name : String} {k n j : Nat} {x : ExceptionTableEntry} (K : aK U l G own cc nL ret fr c lo) (hex : (am_gc G).exceptionTable.toList = tableOf hh) (hj : (tableOf hh)[j]? = some x) (hpass : am_hpl xx own E pc ((tableOf hh).take j)) (hx : covers x pc = true) (h0 : x.catchType ≠ 0)
    (hlink : Cond.classLink own x.catchType name ∈ am_WS xx) (hcast : Cond.castable E name ∈ am_NS xx) (hk : k < nL) (hok : am_ok1 L k = true) (hd : (∃ q : Fin 4, q.val = k ∧ n = 1 ∧ decode cc x.handlerPc = .ok (.astore_n q, 1)) ∨ (n = 2 ∧ decode cc x.handlerPc = .ok (.astore k, 2)))
    (kk : AE U G nL fr c lo r kc V (x.handlerPc + n) (L.set k none) []) : AEx U G nL fr c lo r kc V E pc L := by
  obtain ⟨hlt, hj2⟩ := List.getElem?_eq_some_iff.mp hj
  have hs : (am_gc G).exceptionTable.toList = (tableOf hh).take j ++ x :: (tableOf hh).drop (j + 1) := by
    rw [hex, ← hj2, List.getElem_cons_drop, List.take_append_drop]
  exact AX.catch K.2.2.2.1 _ x _ hs (am_hpl_mem hpass) hx h0 hlink hcast hk hok hd kk
end
