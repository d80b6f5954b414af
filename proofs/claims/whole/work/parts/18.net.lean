/-! ===== the view of a Net: fields, paths, closed paths as bits; shields, firsts, seconds, costs, gusts ===== -/
abbrev nT : Type := (Nat × Nat × Nat) × (Nat → Nat) × (Nat → Nat) × (Nat → Nat) × (Nat → Nat) × (Nat → Nat)
def n_ft (N : nT) : Nat := N.1.1
def n_pt (N : nT) : Nat := N.1.2.1
def n_cl (N : nT) : Nat := N.1.2.2
def n_sh (N : nT) : Nat → Nat := N.2.1
def n_fs (N : nT) : Nat → Nat := N.2.2.1
def n_sn (N : nT) : Nat → Nat := N.2.2.2.1
def n_co (N : nT) : Nat → Nat := N.2.2.2.2.1
def n_gu (N : nT) : Nat → Nat := N.2.2.2.2.2
/-- the table holds N at the state i -/
def vN (V : am_V) (i : Nat) (N : nT) : Prop := V (sS i + 1) 5 = nI (n_cl N) ∧ V (sS i + 1) 6 = nI (n_ft N) ∧ V (sS i + 1) 7 = nI (n_pt N) ∧ (∀ j, j < 9 → V (sS i + 4) j = nI (n_sh N j)) ∧ (∀ j, j < 16 → V (sS i + 5) j = nI (n_fs N j)) ∧ (∀ j, j < 16 → V (sS i + 6) j = nI (n_sn N j)) ∧ (∀ j, j < 16 → V (sS i + 7) j = nI (n_co N j)) ∧ ∀ j, j < 16 → V (sS i + 8) j = nI (n_gu N j)
/-- small everywhere; its paths lead between its fields -/
def wN (N : nT) : Prop := n_ft N ≤ 9 ∧ n_pt N ≤ 16 ∧ n_cl N < 65536 ∧ (∀ j, j < 9 → n_sh N j < 10) ∧ (∀ j, j < 16 → n_fs N j < 9 ∧ n_sn N j < 9 ∧ n_co N j < 10 ∧ n_gu N j < 10) ∧ ∀ j, j < n_pt N → n_fs N j < n_ft N ∧ n_sn N j < n_ft N ∧ n_fs N j ≠ n_sn N j ∧ 1 ≤ n_co N j
def n_op (N : nT) (p : Nat) : Bool := decide (p < n_pt N) && !(n_cl N).testBit p
def n_en (N : nT) (p : Nat) : Nat := 2 ^ n_fs N p ||| 2 ^ n_sn N p
def n_dg (N : nT) (p f : Nat) : Nat := n_gu N p - n_sh N f

set_option maxHeartbeats 4000000 in
theorem kX6_hasField {U : am_U} {l : Launch} (B : am_base xx U) (hfl : l.stackTraces = false) {V : am_V} {i : Nat} (hi : i < 12) {N : nT} (hN : vN V i N) (hw : wN N) (x : Int32) : am_Ct xx U l yX6_hasField cX6_hasField 2 (some .boolean) { frames := 0, cells := 0, slots := 0, locals := 0 } [.ref (sS i + 1), .int (x)] V (.inl (some (.int (bI (decide (0 ≤ x ∧ x < nI (n_ft N))))))) V := by
  refine am_Ct.of B hfl (by decide) (Nat.le_of_ble_eq_true rfl) ?_
  intro G hgl hgR hr ok h0 hex
  obtain ⟨hw1, hw2, hw3, hw4, hw5, hw6⟩ := id hw
  show AW xx U G 2 0 0 V _ 0 [some (.ref (sS i + 1)), some (.int (x))] []
  refine AW.run ok eX6_hasField 0 1 (show am_run 2 ((tX6_hasField.drop 0).take 1) 0 [some (.ref (sS i + 1)), some (.int (x))] [] = some (1, [some (.ref (sS i + 1)), some (.int (x))], [.int (x)]) from rfl) ?_
  refine AW.ifc ok 16 (am_at eX6_hasField 1 rfl) (by decide) (fun h1 => ?_) (fun h1 => ?_)
  · -- x < 0
    have h1 : x < 0 := h1
    refine AW.run ok eX6_hasField 8 1 (show am_run 2 ((tX6_hasField.drop 8).take 1) 16 [some (.ref (sS i + 1)), some (.int (x))] [] = some (17, [some (.ref (sS i + 1)), some (.int (x))], [.int (nI (0))]) from rfl) ?_
    exact AW.ri (by have hq : (decide (0 ≤ x ∧ x < nI (n_ft N))) = false := decide_eq_false (by simp only [Int32.lt_iff_toInt_lt, Int32.le_iff_toInt_le, Int32.toInt_zero] at *; omega); rw [hq]; rfl) ok hr (rfl) (Nat.zero_le _) (Nat.zero_le _) (am_at eX6_hasField 9 rfl)
  · -- not x < 0
    have h1 : ¬ (x < 0) := h1
    refine AW.run ok eX6_hasField 2 2 (show am_run 2 ((tX6_hasField.drop 2).take 2) 4 [some (.ref (sS i + 1)), some (.int (x))] [] = some (6, [some (.ref (sS i + 1)), some (.int (x))], [.ref (sS i + 1), .int (x)]) from rfl) ?_
    refine AW.getI ok gf_X6_31 (sh_S1 hi) rfl hN.2.1 (am_at eX6_hasField 4 rfl) ?_
    refine AW.icmp ok 16 (am_at eX6_hasField 5 rfl) (by decide) (fun h2 => ?_) (fun h2 => ?_)
    · -- x ≥ n_ft N
      have h2 : nI (n_ft N) ≤ x := h2
      refine AW.run ok eX6_hasField 8 1 (show am_run 2 ((tX6_hasField.drop 8).take 1) 16 [some (.ref (sS i + 1)), some (.int (x))] [] = some (17, [some (.ref (sS i + 1)), some (.int (x))], [.int (nI (0))]) from rfl) ?_
      exact AW.ri (by have hq : (decide (0 ≤ x ∧ x < nI (n_ft N))) = false := decide_eq_false (by simp only [Int32.lt_iff_toInt_lt, Int32.le_iff_toInt_le, Int32.toInt_zero] at *; omega); rw [hq]; rfl) ok hr (rfl) (Nat.zero_le _) (Nat.zero_le _) (am_at eX6_hasField 9 rfl)
    · -- not x ≥ n_ft N
      have h2 : ¬ (nI (n_ft N) ≤ x) := h2
      refine AW.run ok eX6_hasField 6 2 (show am_run 2 ((tX6_hasField.drop 6).take 2) 12 [some (.ref (sS i + 1)), some (.int (x))] [] = some (17, [some (.ref (sS i + 1)), some (.int (x))], [.int (nI (1))]) from rfl) ?_
      exact AW.ri (by have hq : (decide (0 ≤ x ∧ x < nI (n_ft N))) = true := decide_eq_true (by simp only [Int32.lt_iff_toInt_lt, Int32.le_iff_toInt_le, Int32.toInt_zero] at *; omega); rw [hq]; rfl) ok hr (rfl) (Nat.zero_le _) (Nat.zero_le _) (am_at eX6_hasField 9 rfl)
set_option maxHeartbeats 4000000 in
theorem kX6_hasPath {U : am_U} {l : Launch} (B : am_base xx U) (hfl : l.stackTraces = false) {V : am_V} {i : Nat} (hi : i < 12) {N : nT} (hN : vN V i N) (hw : wN N) (x : Int32) : am_Ct xx U l yX6_hasPath cX6_hasPath 2 (some .boolean) { frames := 0, cells := 0, slots := 0, locals := 0 } [.ref (sS i + 1), .int (x)] V (.inl (some (.int (bI (decide (0 ≤ x ∧ x < nI (n_pt N))))))) V := by
  refine am_Ct.of B hfl (by decide) (Nat.le_of_ble_eq_true rfl) ?_
  intro G hgl hgR hr ok h0 hex
  obtain ⟨hw1, hw2, hw3, hw4, hw5, hw6⟩ := id hw
  show AW xx U G 2 0 0 V _ 0 [some (.ref (sS i + 1)), some (.int (x))] []
  refine AW.run ok eX6_hasPath 0 1 (show am_run 2 ((tX6_hasPath.drop 0).take 1) 0 [some (.ref (sS i + 1)), some (.int (x))] [] = some (1, [some (.ref (sS i + 1)), some (.int (x))], [.int (x)]) from rfl) ?_
  refine AW.ifc ok 16 (am_at eX6_hasPath 1 rfl) (by decide) (fun h1 => ?_) (fun h1 => ?_)
  · -- x < 0
    have h1 : x < 0 := h1
    refine AW.run ok eX6_hasPath 8 1 (show am_run 2 ((tX6_hasPath.drop 8).take 1) 16 [some (.ref (sS i + 1)), some (.int (x))] [] = some (17, [some (.ref (sS i + 1)), some (.int (x))], [.int (nI (0))]) from rfl) ?_
    exact AW.ri (by have hq : (decide (0 ≤ x ∧ x < nI (n_pt N))) = false := decide_eq_false (by simp only [Int32.lt_iff_toInt_lt, Int32.le_iff_toInt_le, Int32.toInt_zero] at *; omega); rw [hq]; rfl) ok hr (rfl) (Nat.zero_le _) (Nat.zero_le _) (am_at eX6_hasPath 9 rfl)
  · -- not x < 0
    have h1 : ¬ (x < 0) := h1
    refine AW.run ok eX6_hasPath 2 2 (show am_run 2 ((tX6_hasPath.drop 2).take 2) 4 [some (.ref (sS i + 1)), some (.int (x))] [] = some (6, [some (.ref (sS i + 1)), some (.int (x))], [.ref (sS i + 1), .int (x)]) from rfl) ?_
    refine AW.getI ok gf_X6_34 (sh_S1 hi) rfl hN.2.2.1 (am_at eX6_hasPath 4 rfl) ?_
    refine AW.icmp ok 16 (am_at eX6_hasPath 5 rfl) (by decide) (fun h2 => ?_) (fun h2 => ?_)
    · -- x ≥ n_pt N
      have h2 : nI (n_pt N) ≤ x := h2
      refine AW.run ok eX6_hasPath 8 1 (show am_run 2 ((tX6_hasPath.drop 8).take 1) 16 [some (.ref (sS i + 1)), some (.int (x))] [] = some (17, [some (.ref (sS i + 1)), some (.int (x))], [.int (nI (0))]) from rfl) ?_
      exact AW.ri (by have hq : (decide (0 ≤ x ∧ x < nI (n_pt N))) = false := decide_eq_false (by simp only [Int32.lt_iff_toInt_lt, Int32.le_iff_toInt_le, Int32.toInt_zero] at *; omega); rw [hq]; rfl) ok hr (rfl) (Nat.zero_le _) (Nat.zero_le _) (am_at eX6_hasPath 9 rfl)
    · -- not x ≥ n_pt N
      have h2 : ¬ (nI (n_pt N) ≤ x) := h2
      refine AW.run ok eX6_hasPath 6 2 (show am_run 2 ((tX6_hasPath.drop 6).take 2) 12 [some (.ref (sS i + 1)), some (.int (x))] [] = some (17, [some (.ref (sS i + 1)), some (.int (x))], [.int (nI (1))]) from rfl) ?_
      exact AW.ri (by have hq : (decide (0 ≤ x ∧ x < nI (n_pt N))) = true := decide_eq_true (by simp only [Int32.lt_iff_toInt_lt, Int32.le_iff_toInt_le, Int32.toInt_zero] at *; omega); rw [hq]; rfl) ok hr (rfl) (Nat.zero_le _) (Nat.zero_le _) (am_at eX6_hasPath 9 rfl)
set_option maxHeartbeats 4000000 in
theorem kX6_isOpen {U : am_U} {l : Launch} (B : am_base xx U) (hfl : l.stackTraces = false) {V : am_V} {i : Nat} (hi : i < 12) {N : nT} (hN : vN V i N) (hw : wN N) {p : Nat} (hp : p < 16) : am_Ct xx U l yX6_isOpen cX6_isOpen 2 (some .boolean) { frames := 0, cells := 0, slots := 0, locals := 0 } [.ref (sS i + 1), .int (nI (p))] V (.inl (some (.int (bI (n_op N p))))) V := by
  refine am_Ct.of B hfl (by decide) (Nat.le_of_ble_eq_true rfl) ?_
  intro G hgl hgR hr ok h0 hex
  obtain ⟨hw1, hw2, hw3, hw4, hw5, hw6⟩ := id hw
  show AW xx U G 2 0 0 V _ 0 [some (.ref (sS i + 1)), some (.int (nI (p)))] []
  refine AW.run ok eX6_isOpen 0 1 (show am_run 2 ((tX6_isOpen.drop 0).take 1) 0 [some (.ref (sS i + 1)), some (.int (nI (p)))] [] = some (1, [some (.ref (sS i + 1)), some (.int (nI (p)))], [.int (nI (p))]) from rfl) ?_
  refine AW.ifc ok 27 (am_at eX6_isOpen 1 rfl) (by decide) (fun h1 => ?_) (fun h1 => ?_)
  · -- p < 0
    have h1 : p < 0 := (i_lt (by omega) (by omega)).mp h1
    refine AW.run ok eX6_isOpen 15 1 (show am_run 2 ((tX6_isOpen.drop 15).take 1) 27 [some (.ref (sS i + 1)), some (.int (nI (p)))] [] = some (28, [some (.ref (sS i + 1)), some (.int (nI (p)))], [.int (nI (0))]) from rfl) ?_
    exact AW.ri (by have hq : (n_op N p) = false := (by have hb := i_bit (a := n_cl N) (k := p) (by omega) (by omega); simp only [hb] at *; unfold n_op; cases hc : (n_cl N).testBit p <;> simp_all [nI_0, i_10]); rw [hq]; rfl) ok hr (rfl) (Nat.zero_le _) (Nat.zero_le _) (am_at eX6_isOpen 16 rfl)
  · -- not p < 0
    have h1 : ¬ p < 0 := fun z => h1 ((i_lt (by omega) (by omega)).mpr z)
    refine AW.run ok eX6_isOpen 2 2 (show am_run 2 ((tX6_isOpen.drop 2).take 2) 4 [some (.ref (sS i + 1)), some (.int (nI (p)))] [] = some (6, [some (.ref (sS i + 1)), some (.int (nI (p)))], [.ref (sS i + 1), .int (nI (p))]) from rfl) ?_
    refine AW.getI ok gf_X6_34 (sh_S1 hi) rfl hN.2.2.1 (am_at eX6_isOpen 4 rfl) ?_
    refine AW.icmp ok 27 (am_at eX6_isOpen 5 rfl) (by decide) (fun h2 => ?_) (fun h2 => ?_)
    · -- p ≥ n_pt N
      have h2 : n_pt N ≤ p := (i_le (by omega) (by omega)).mp h2
      refine AW.run ok eX6_isOpen 15 1 (show am_run 2 ((tX6_isOpen.drop 15).take 1) 27 [some (.ref (sS i + 1)), some (.int (nI (p)))] [] = some (28, [some (.ref (sS i + 1)), some (.int (nI (p)))], [.int (nI (0))]) from rfl) ?_
      exact AW.ri (by have hq : (n_op N p) = false := (by have hb := i_bit (a := n_cl N) (k := p) (by omega) (by omega); simp only [hb] at *; unfold n_op; cases hc : (n_cl N).testBit p <;> simp_all [nI_0, i_10]); rw [hq]; rfl) ok hr (rfl) (Nat.zero_le _) (Nat.zero_le _) (am_at eX6_isOpen 16 rfl)
    · -- not p ≥ n_pt N
      have h2 : ¬ n_pt N ≤ p := fun z => h2 ((i_le (by omega) (by omega)).mpr z)
      refine AW.run ok eX6_isOpen 6 1 (show am_run 2 ((tX6_isOpen.drop 6).take 1) 12 [some (.ref (sS i + 1)), some (.int (nI (p)))] [] = some (13, [some (.ref (sS i + 1)), some (.int (nI (p)))], [.ref (sS i + 1)]) from rfl) ?_
      refine AW.getI ok gf_X6_27 (sh_S1 hi) rfl hN.1 (am_at eX6_isOpen 7 rfl) ?_
      refine AW.run ok eX6_isOpen 8 4 (show am_run 2 ((tX6_isOpen.drop 8).take 4) 16 [some (.ref (sS i + 1)), some (.int (nI (p)))] [.int (nI (n_cl N))] = some (20, [some (.ref (sS i + 1)), some (.int (nI (p)))], [.int (((nI (n_cl N)) >>> ((nI (p)) &&& 31)) &&& (nI (1)))]) from rfl) ?_
      refine AW.ifc ok 27 (am_at eX6_isOpen 12 rfl) (by decide) (fun h3 => ?_) (fun h3 => ?_)
      · -- ((nI (n_cl N)) >>> ((nI (p)) &&& 31)) &&& (nI (1)) ≠ 0
        have h3 : ¬ ((nI (n_cl N)) >>> ((nI (p)) &&& 31)) &&& (nI (1)) = 0 := h3
        refine AW.run ok eX6_isOpen 15 1 (show am_run 2 ((tX6_isOpen.drop 15).take 1) 27 [some (.ref (sS i + 1)), some (.int (nI (p)))] [] = some (28, [some (.ref (sS i + 1)), some (.int (nI (p)))], [.int (nI (0))]) from rfl) ?_
        exact AW.ri (by have hq : (n_op N p) = false := (by have hb := i_bit (a := n_cl N) (k := p) (by omega) (by omega); simp only [hb] at *; unfold n_op; cases hc : (n_cl N).testBit p <;> simp_all [nI_0, i_10]); rw [hq]; rfl) ok hr (rfl) (Nat.zero_le _) (Nat.zero_le _) (am_at eX6_isOpen 16 rfl)
      · -- not ((nI (n_cl N)) >>> ((nI (p)) &&& 31)) &&& (nI (1)) ≠ 0
        have h3 : ¬ (¬ ((nI (n_cl N)) >>> ((nI (p)) &&& 31)) &&& (nI (1)) = 0) := h3
        refine AW.run ok eX6_isOpen 13 2 (show am_run 2 ((tX6_isOpen.drop 13).take 2) 23 [some (.ref (sS i + 1)), some (.int (nI (p)))] [] = some (28, [some (.ref (sS i + 1)), some (.int (nI (p)))], [.int (nI (1))]) from rfl) ?_
        exact AW.ri (by have hq : (n_op N p) = true := (by have hb := i_bit (a := n_cl N) (k := p) (by omega) (by omega); simp only [hb] at *; unfold n_op; cases hc : (n_cl N).testBit p <;> simp_all [nI_0, i_10]); rw [hq]; rfl) ok hr (rfl) (Nat.zero_le _) (Nat.zero_le _) (am_at eX6_isOpen 16 rfl)
set_option maxHeartbeats 4000000 in
theorem kX6_endsOf {U : am_U} {l : Launch} (B : am_base xx U) (hfl : l.stackTraces = false) {V : am_V} {i : Nat} (hi : i < 12) {N : nT} (hN : vN V i N) (hw : wN N) {p : Nat} (hp : p < 16) : am_Ct xx U l yX6_endsOf cX6_endsOf 2 (some .int) { frames := 0, cells := 0, slots := 0, locals := 0 } [.ref (sS i + 1), .int (nI (p))] V (.inl (some (.int (nI (n_en N p))))) V := by
  refine am_Ct.of B hfl (by decide) (Nat.le_of_ble_eq_true rfl) ?_
  intro G hgl hgR hr ok h0 hex
  obtain ⟨hw1, hw2, hw3, hw4, hw5, hw6⟩ := id hw
  show AW xx U G 2 0 0 V _ 0 [some (.ref (sS i + 1)), some (.int (nI (p)))] []
  refine AW.run ok eX6_endsOf 0 2 (show am_run 2 ((tX6_endsOf.drop 0).take 2) 0 [some (.ref (sS i + 1)), some (.int (nI (p)))] [] = some (2, [some (.ref (sS i + 1)), some (.int (nI (p)))], [.ref (sS i + 1), .int (nI (1))]) from rfl) ?_
  refine AW.getR ok gf_X6_15 (sh_S1 hi) rfl (am_at eX6_endsOf 2 rfl) ?_
  refine AW.run ok eX6_endsOf 3 1 (show am_run 2 ((tX6_endsOf.drop 3).take 1) 5 [some (.ref (sS i + 1)), some (.int (nI (p)))] [.ref (sS i + 5), .int (nI (1))] = some (6, [some (.ref (sS i + 1)), some (.int (nI (p)))], [.int (nI (p)), .ref (sS i + 5), .int (nI (1))]) from rfl) ?_
  refine AW.aldI ok (sh_S5 hi) (by omega : p < 16) (by decide) (hN.2.2.2.2.1 _ (by omega : p < 16)) (am_at eX6_endsOf 4 rfl) ?_
  refine AW.run ok eX6_endsOf 5 3 (show am_run 2 ((tX6_endsOf.drop 5).take 3) 7 [some (.ref (sS i + 1)), some (.int (nI (p)))] [.int (nI (n_fs N (p))), .int (nI (1))] = some (10, [some (.ref (sS i + 1)), some (.int (nI (p)))], [.ref (sS i + 1), .int (nI (1)), .int ((nI (1)) <<< ((nI (n_fs N (p))) &&& 31))]) from rfl) ?_
  refine AW.getR ok gf_X6_18 (sh_S1 hi) rfl (am_at eX6_endsOf 8 rfl) ?_
  refine AW.run ok eX6_endsOf 9 1 (show am_run 2 ((tX6_endsOf.drop 9).take 1) 13 [some (.ref (sS i + 1)), some (.int (nI (p)))] [.ref (sS i + 6), .int (nI (1)), .int ((nI (1)) <<< ((nI (n_fs N (p))) &&& 31))] = some (14, [some (.ref (sS i + 1)), some (.int (nI (p)))], [.int (nI (p)), .ref (sS i + 6), .int (nI (1)), .int ((nI (1)) <<< ((nI (n_fs N (p))) &&& 31))]) from rfl) ?_
  refine AW.aldI ok (sh_S6 hi) (by omega : p < 16) (by decide) (hN.2.2.2.2.2.1 _ (by omega : p < 16)) (am_at eX6_endsOf 10 rfl) ?_
  refine AW.run ok eX6_endsOf 11 2 (show am_run 2 ((tX6_endsOf.drop 11).take 2) 15 [some (.ref (sS i + 1)), some (.int (nI (p)))] [.int (nI (n_sn N (p))), .int (nI (1)), .int ((nI (1)) <<< ((nI (n_fs N (p))) &&& 31))] = some (17, [some (.ref (sS i + 1)), some (.int (nI (p)))], [.int (((nI (1)) <<< ((nI (n_fs N (p))) &&& 31)) ||| ((nI (1)) <<< ((nI (n_sn N (p))) &&& 31)))]) from rfl) ?_
  exact AW.ri (by have := hw5 p hp; rw [i_shl1 (by omega), i_shl1 (by omega), i_or]; rfl) ok hr (rfl) (Nat.zero_le _) (Nat.zero_le _) (am_at eX6_endsOf 13 rfl)
set_option maxHeartbeats 4000000 in
theorem kX6_dangerOf {U : am_U} {l : Launch} (B : am_base xx U) (hfl : l.stackTraces = false) {V : am_V} {i : Nat} (hi : i < 12) {N : nT} (hN : vN V i N) (hw : wN N) {p f : Nat} (hp : p < 16) (hf : f < 9) : am_Ct xx U l yX6_dangerOf cX6_dangerOf 3 (some .int) { frames := 0, cells := 0, slots := 0, locals := 0 } [.ref (sS i + 1), .int (nI (p)), .int (nI (f))] V (.inl (some (.int (nI (n_dg N p f))))) V := by
  refine am_Ct.of B hfl (by decide) (Nat.le_of_ble_eq_true rfl) ?_
  intro G hgl hgR hr ok h0 hex
  obtain ⟨hw1, hw2, hw3, hw4, hw5, hw6⟩ := id hw
  have h50 := hw5 p hp
  have h40 := hw4 f hf
  show AW xx U G 3 0 0 V _ 0 [some (.ref (sS i + 1)), some (.int (nI (p))), some (.int (nI (f)))] []
  refine AW.run ok eX6_dangerOf 0 1 (show am_run 3 ((tX6_dangerOf.drop 0).take 1) 0 [some (.ref (sS i + 1)), some (.int (nI (p))), some (.int (nI (f)))] [] = some (1, [some (.ref (sS i + 1)), some (.int (nI (p))), some (.int (nI (f)))], [.ref (sS i + 1)]) from rfl) ?_
  refine AW.getR ok gf_X6_24 (sh_S1 hi) rfl (am_at eX6_dangerOf 1 rfl) ?_
  refine AW.run ok eX6_dangerOf 2 1 (show am_run 3 ((tX6_dangerOf.drop 2).take 1) 4 [some (.ref (sS i + 1)), some (.int (nI (p))), some (.int (nI (f)))] [.ref (sS i + 8)] = some (5, [some (.ref (sS i + 1)), some (.int (nI (p))), some (.int (nI (f)))], [.int (nI (p)), .ref (sS i + 8)]) from rfl) ?_
  refine AW.aldI ok (sh_S8 hi) (by omega : p < 16) (by decide) (hN.2.2.2.2.2.2.2 _ (by omega : p < 16)) (am_at eX6_dangerOf 3 rfl) ?_
  refine AW.run ok eX6_dangerOf 4 1 (show am_run 3 ((tX6_dangerOf.drop 4).take 1) 6 [some (.ref (sS i + 1)), some (.int (nI (p))), some (.int (nI (f)))] [.int (nI (n_gu N (p)))] = some (7, [some (.ref (sS i + 1)), some (.int (nI (p))), some (.int (nI (f)))], [.ref (sS i + 1), .int (nI (n_gu N (p)))]) from rfl) ?_
  refine AW.getR ok gf_X6_9 (sh_S1 hi) rfl (am_at eX6_dangerOf 5 rfl) ?_
  refine AW.run ok eX6_dangerOf 6 1 (show am_run 3 ((tX6_dangerOf.drop 6).take 1) 10 [some (.ref (sS i + 1)), some (.int (nI (p))), some (.int (nI (f)))] [.ref (sS i + 4), .int (nI (n_gu N (p)))] = some (11, [some (.ref (sS i + 1)), some (.int (nI (p))), some (.int (nI (f)))], [.int (nI (f)), .ref (sS i + 4), .int (nI (n_gu N (p)))]) from rfl) ?_
  refine AW.aldI ok (sh_S4 hi) (by omega : f < 9) (by decide) (hN.2.2.2.1 _ (by omega : f < 9)) (am_at eX6_dangerOf 7 rfl) ?_
  refine AW.icmp ok 31 (am_at eX6_dangerOf 8 rfl) (by decide) (fun h1 => ?_) (fun h1 => ?_)
  · -- n_gu N (p) ≤ n_sh N (f)
    have h1 : n_gu N (p) ≤ n_sh N (f) := (i_le (by omega) (by omega)).mp h1
    refine AW.run ok eX6_dangerOf 19 1 (show am_run 3 ((tX6_dangerOf.drop 19).take 1) 31 [some (.ref (sS i + 1)), some (.int (nI (p))), some (.int (nI (f)))] [] = some (32, [some (.ref (sS i + 1)), some (.int (nI (p))), some (.int (nI (f)))], [.int (nI (0))]) from rfl) ?_
    exact AW.ri (by have := hw5 p hp; have := hw4 f hf; first | (rw [i_sub (by omega)]; rfl) | (exact congrArg nI (by unfold n_dg; omega))) ok hr (rfl) (Nat.zero_le _) (Nat.zero_le _) (am_at eX6_dangerOf 20 rfl)
  · -- not n_gu N (p) ≤ n_sh N (f)
    have h1 : ¬ n_gu N (p) ≤ n_sh N (f) := fun z => h1 ((i_le (by omega) (by omega)).mpr z)
    refine AW.run ok eX6_dangerOf 9 1 (show am_run 3 ((tX6_dangerOf.drop 9).take 1) 15 [some (.ref (sS i + 1)), some (.int (nI (p))), some (.int (nI (f)))] [] = some (16, [some (.ref (sS i + 1)), some (.int (nI (p))), some (.int (nI (f)))], [.ref (sS i + 1)]) from rfl) ?_
    refine AW.getR ok gf_X6_24 (sh_S1 hi) rfl (am_at eX6_dangerOf 10 rfl) ?_
    refine AW.run ok eX6_dangerOf 11 1 (show am_run 3 ((tX6_dangerOf.drop 11).take 1) 19 [some (.ref (sS i + 1)), some (.int (nI (p))), some (.int (nI (f)))] [.ref (sS i + 8)] = some (20, [some (.ref (sS i + 1)), some (.int (nI (p))), some (.int (nI (f)))], [.int (nI (p)), .ref (sS i + 8)]) from rfl) ?_
    refine AW.aldI ok (sh_S8 hi) (by omega : p < 16) (by decide) (hN.2.2.2.2.2.2.2 _ (by omega : p < 16)) (am_at eX6_dangerOf 12 rfl) ?_
    refine AW.run ok eX6_dangerOf 13 1 (show am_run 3 ((tX6_dangerOf.drop 13).take 1) 21 [some (.ref (sS i + 1)), some (.int (nI (p))), some (.int (nI (f)))] [.int (nI (n_gu N (p)))] = some (22, [some (.ref (sS i + 1)), some (.int (nI (p))), some (.int (nI (f)))], [.ref (sS i + 1), .int (nI (n_gu N (p)))]) from rfl) ?_
    refine AW.getR ok gf_X6_9 (sh_S1 hi) rfl (am_at eX6_dangerOf 14 rfl) ?_
    refine AW.run ok eX6_dangerOf 15 1 (show am_run 3 ((tX6_dangerOf.drop 15).take 1) 25 [some (.ref (sS i + 1)), some (.int (nI (p))), some (.int (nI (f)))] [.ref (sS i + 4), .int (nI (n_gu N (p)))] = some (26, [some (.ref (sS i + 1)), some (.int (nI (p))), some (.int (nI (f)))], [.int (nI (f)), .ref (sS i + 4), .int (nI (n_gu N (p)))]) from rfl) ?_
    refine AW.aldI ok (sh_S4 hi) (by omega : f < 9) (by decide) (hN.2.2.2.1 _ (by omega : f < 9)) (am_at eX6_dangerOf 16 rfl) ?_
    refine AW.run ok eX6_dangerOf 17 2 (show am_run 3 ((tX6_dangerOf.drop 17).take 2) 27 [some (.ref (sS i + 1)), some (.int (nI (p))), some (.int (nI (f)))] [.int (nI (n_sh N (f))), .int (nI (n_gu N (p)))] = some (32, [some (.ref (sS i + 1)), some (.int (nI (p))), some (.int (nI (f)))], [.int ((nI (n_gu N (p))) - (nI (n_sh N (f))))]) from rfl) ?_
    exact AW.ri (by have := hw5 p hp; have := hw4 f hf; first | (rw [i_sub (by omega)]; rfl) | (exact congrArg nI (by unfold n_dg; omega))) ok hr (rfl) (Nat.zero_le _) (Nat.zero_le _) (am_at eX6_dangerOf 20 rfl)
