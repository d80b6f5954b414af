/-! ===== the view of a Net: fields, paths, closed paths as bits; shields, firsts, seconds, costs, gusts ===== -/
abbrev nT : Type := (Nat × Nat × Nat) × (Nat → Nat) × (Nat → Nat) × (Nat → Nat) × (Nat → Nat) × (Nat → Nat)
def n_ft (N : nT) : Nat := N.1.1
def n_pt (N : nT) : Nat := N.1.2.1
def n_cl (N : nT) : Nat := N.1.2.2
def n_sh (N : nT) : Nat → Nat := N.2.1
def n_fs (N : nT) : Nat → Nat := N.2.2.1
def n_sn (N : nT) : Nat → Nat := N.2.2.2.1
def n_co (N : nT) : Nat → Nat := N.2.2.2.2.1
def n_gu (N : nT) : Nat → Nat := N.2.2.2.2.2
/-- the table holds N at the state i -/
def vN (V : am_V) (i : Nat) (N : nT) : Prop := V (sS i + 1) 5 = nI (n_cl N) ∧ V (sS i + 1) 6 = nI (n_ft N) ∧ V (sS i + 1) 7 = nI (n_pt N) ∧ (∀ j, j < 9 → V (sS i + 4) j = nI (n_sh N j)) ∧ (∀ j, j < 16 → V (sS i + 5) j = nI (n_fs N j)) ∧ (∀ j, j < 16 → V (sS i + 6) j = nI (n_sn N j)) ∧ (∀ j, j < 16 → V (sS i + 7) j = nI (n_co N j)) ∧ ∀ j, j < 16 → V (sS i + 8) j = nI (n_gu N j)
/-- small everywhere; its paths lead between its fields -/
def wN (N : nT) : Prop := n_ft N ≤ 9 ∧ n_pt N ≤ 16 ∧ n_cl N < 65536 ∧ (∀ j, j < 9 → n_sh N j < 10) ∧ (∀ j, j < 16 → n_fs N j < 9 ∧ n_sn N j < 9 ∧ n_co N j < 10 ∧ n_gu N j < 10) ∧ ∀ j, j < n_pt N → n_fs N j < n_ft N ∧ n_sn N j < n_ft N ∧ n_fs N j ≠ n_sn N j ∧ 1 ≤ n_co N j
def n_op (N : nT) (p : Nat) : Bool := decide (p < n_pt N) && !(n_cl N).testBit p
def n_en (N : nT) (p : Nat) : Nat := 2 ^ n_fs N p ||| 2 ^ n_sn N p
def n_dg (N : nT) (p f : Nat) : Nat := n_gu N p - n_sh N f

set_option maxHeartbeats 4000000 in
theorem kX6_hasField {U : am_U} {l : Launch} (B : am_base xx U) (hfl : l.stackTraces = false) {V : am_V} {i : Nat} (hi : i < 12) {N : nT} (hN : vN V i N) (hw : wN N) (x : Int32) : am_Ct xx U l yX6_hasField cX6_hasField 2 (some .boolean) { frames := 0, cells := 0, slots := 0, locals := 0 } [.ref (sS i + 1), .int (x)] V (am_is (.inl (some (.int (bI (decide (0 ≤ x ∧ x < nI (n_ft N))))))) V) := by
  refine am_Ct.of B hfl (by decide) (Nat.le_of_ble_eq_true rfl) ?_
  intro G hgl hgR hr ok h0 hex
  obtain ⟨hw1, hw2, hw3, hw4, hw5, hw6⟩ := id hw
  show AW xx U G 2 0 0 V _ 0 [some (.ref (sS i + 1)), some (.int (x))] []
  refine AW.run ok eX6_hasField 0 1 (show am_run 2 ((tX6_hasField.drop 0).take 1) 0 [some (.ref (sS i + 1)), some (.int (x))] [] = some (1, [some (.ref (sS i + 1)), some (.int (x))], [.int (x)]) from rfl) ?_
  refine AW.ifc ok 16 (am_at eX6_hasField 1 rfl) (by decide) (fun h1 => ?_) (fun h1 => ?_)
  · -- x < 0
    have h1 : x < 0 := h1
    refine AW.run ok eX6_hasField 8 1 (show am_run 2 ((tX6_hasField.drop 8).take 1) 16 [some (.ref (sS i + 1)), some (.int (x))] [] = some (17, [some (.ref (sS i + 1)), some (.int (x))], [.int (nI (0))]) from rfl) ?_
    exact AW.ri (by have hq : (decide (0 ≤ x ∧ x < nI (n_ft N))) = false := decide_eq_false (by simp only [Int32.lt_iff_toInt_lt, Int32.le_iff_toInt_le, Int32.toInt_zero] at *; omega); rw [hq]; rfl) rfl ok hr (rfl) (Nat.zero_le _) (Nat.zero_le _) (am_at eX6_hasField 9 rfl)
  · -- not x < 0
    have h1 : ¬ (x < 0) := h1
    refine AW.run ok eX6_hasField 2 2 (show am_run 2 ((tX6_hasField.drop 2).take 2) 4 [some (.ref (sS i + 1)), some (.int (x))] [] = some (6, [some (.ref (sS i + 1)), some (.int (x))], [.ref (sS i + 1), .int (x)]) from rfl) ?_
    refine AW.getI (x := nI (n_ft N)) ok gf_X6_31 (sh_S1 hi) rfl hN.2.1 (am_at eX6_hasField 4 rfl) ?_
    refine AW.icmp ok 16 (am_at eX6_hasField 5 rfl) (by decide) (fun h2 => ?_) (fun h2 => ?_)
    · -- x ≥ n_ft N
      have h2 : nI (n_ft N) ≤ x := h2
      refine AW.run ok eX6_hasField 8 1 (show am_run 2 ((tX6_hasField.drop 8).take 1) 16 [some (.ref (sS i + 1)), some (.int (x))] [] = some (17, [some (.ref (sS i + 1)), some (.int (x))], [.int (nI (0))]) from rfl) ?_
      exact AW.ri (by have hq : (decide (0 ≤ x ∧ x < nI (n_ft N))) = false := decide_eq_false (by simp only [Int32.lt_iff_toInt_lt, Int32.le_iff_toInt_le, Int32.toInt_zero] at *; omega); rw [hq]; rfl) rfl ok hr (rfl) (Nat.zero_le _) (Nat.zero_le _) (am_at eX6_hasField 9 rfl)
    · -- not x ≥ n_ft N
      have h2 : ¬ (nI (n_ft N) ≤ x) := h2
      refine AW.run ok eX6_hasField 6 2 (show am_run 2 ((tX6_hasField.drop 6).take 2) 12 [some (.ref (sS i + 1)), some (.int (x))] [] = some (17, [some (.ref (sS i + 1)), some (.int (x))], [.int (nI (1))]) from rfl) ?_
      exact AW.ri (by have hq : (decide (0 ≤ x ∧ x < nI (n_ft N))) = true := decide_eq_true (by simp only [Int32.lt_iff_toInt_lt, Int32.le_iff_toInt_le, Int32.toInt_zero] at *; omega); rw [hq]; rfl) rfl ok hr (rfl) (Nat.zero_le _) (Nat.zero_le _) (am_at eX6_hasField 9 rfl)
set_option maxHeartbeats 4000000 in
theorem kX6_hasPath {U : am_U} {l : Launch} (B : am_base xx U) (hfl : l.stackTraces = false) {V : am_V} {i : Nat} (hi : i < 12) {N : nT} (hN : vN V i N) (hw : wN N) (x : Int32) : am_Ct xx U l yX6_hasPath cX6_hasPath 2 (some .boolean) { frames := 0, cells := 0, slots := 0, locals := 0 } [.ref (sS i + 1), .int (x)] V (am_is (.inl (some (.int (bI (decide (0 ≤ x ∧ x < nI (n_pt N))))))) V) := by
  refine am_Ct.of B hfl (by decide) (Nat.le_of_ble_eq_true rfl) ?_
  intro G hgl hgR hr ok h0 hex
  obtain ⟨hw1, hw2, hw3, hw4, hw5, hw6⟩ := id hw
  show AW xx U G 2 0 0 V _ 0 [some (.ref (sS i + 1)), some (.int (x))] []
  refine AW.run ok eX6_hasPath 0 1 (show am_run 2 ((tX6_hasPath.drop 0).take 1) 0 [some (.ref (sS i + 1)), some (.int (x))] [] = some (1, [some (.ref (sS i + 1)), some (.int (x))], [.int (x)]) from rfl) ?_
  refine AW.ifc ok 16 (am_at eX6_hasPath 1 rfl) (by decide) (fun h1 => ?_) (fun h1 => ?_)
  · -- x < 0
    have h1 : x < 0 := h1
    refine AW.run ok eX6_hasPath 8 1 (show am_run 2 ((tX6_hasPath.drop 8).take 1) 16 [some (.ref (sS i + 1)), some (.int (x))] [] = some (17, [some (.ref (sS i + 1)), some (.int (x))], [.int (nI (0))]) from rfl) ?_
    exact AW.ri (by have hq : (decide (0 ≤ x ∧ x < nI (n_pt N))) = false := decide_eq_false (by simp only [Int32.lt_iff_toInt_lt, Int32.le_iff_toInt_le, Int32.toInt_zero] at *; omega); rw [hq]; rfl) rfl ok hr (rfl) (Nat.zero_le _) (Nat.zero_le _) (am_at eX6_hasPath 9 rfl)
  · -- not x < 0
    have h1 : ¬ (x < 0) := h1
    refine AW.run ok eX6_hasPath 2 2 (show am_run 2 ((tX6_hasPath.drop 2).take 2) 4 [some (.ref (sS i + 1)), some (.int (x))] [] = some (6, [some (.ref (sS i + 1)), some (.int (x))], [.ref (sS i + 1), .int (x)]) from rfl) ?_
    refine AW.getI (x := nI (n_pt N)) ok gf_X6_34 (sh_S1 hi) rfl hN.2.2.1 (am_at eX6_hasPath 4 rfl) ?_
    refine AW.icmp ok 16 (am_at eX6_hasPath 5 rfl) (by decide) (fun h2 => ?_) (fun h2 => ?_)
    · -- x ≥ n_pt N
      have h2 : nI (n_pt N) ≤ x := h2
      refine AW.run ok eX6_hasPath 8 1 (show am_run 2 ((tX6_hasPath.drop 8).take 1) 16 [some (.ref (sS i + 1)), some (.int (x))] [] = some (17, [some (.ref (sS i + 1)), some (.int (x))], [.int (nI (0))]) from rfl) ?_
      exact AW.ri (by have hq : (decide (0 ≤ x ∧ x < nI (n_pt N))) = false := decide_eq_false (by simp only [Int32.lt_iff_toInt_lt, Int32.le_iff_toInt_le, Int32.toInt_zero] at *; omega); rw [hq]; rfl) rfl ok hr (rfl) (Nat.zero_le _) (Nat.zero_le _) (am_at eX6_hasPath 9 rfl)
    · -- not x ≥ n_pt N
      have h2 : ¬ (nI (n_pt N) ≤ x) := h2
      refine AW.run ok eX6_hasPath 6 2 (show am_run 2 ((tX6_hasPath.drop 6).take 2) 12 [some (.ref (sS i + 1)), some (.int (x))] [] = some (17, [some (.ref (sS i + 1)), some (.int (x))], [.int (nI (1))]) from rfl) ?_
      exact AW.ri (by have hq : (decide (0 ≤ x ∧ x < nI (n_pt N))) = true := decide_eq_true (by simp only [Int32.lt_iff_toInt_lt, Int32.le_iff_toInt_le, Int32.toInt_zero] at *; omega); rw [hq]; rfl) rfl ok hr (rfl) (Nat.zero_le _) (Nat.zero_le _) (am_at eX6_hasPath 9 rfl)
set_option maxHeartbeats 4000000 in
theorem kX6_isOpen {U : am_U} {l : Launch} (B : am_base xx U) (hfl : l.stackTraces = false) {V : am_V} {i : Nat} (hi : i < 12) {N : nT} (hN : vN V i N) (hw : wN N) {p : Nat} (hp : p < 16) : am_Ct xx U l yX6_isOpen cX6_isOpen 2 (some .boolean) { frames := 0, cells := 0, slots := 0, locals := 0 } [.ref (sS i + 1), .int (nI (p))] V (am_is (.inl (some (.int (bI (n_op N p))))) V) := by
  refine am_Ct.of B hfl (by decide) (Nat.le_of_ble_eq_true rfl) ?_
  intro G hgl hgR hr ok h0 hex
  obtain ⟨hw1, hw2, hw3, hw4, hw5, hw6⟩ := id hw
  show AW xx U G 2 0 0 V _ 0 [some (.ref (sS i + 1)), some (.int (nI (p)))] []
  refine AW.run ok eX6_isOpen 0 1 (show am_run 2 ((tX6_isOpen.drop 0).take 1) 0 [some (.ref (sS i + 1)), some (.int (nI (p)))] [] = some (1, [some (.ref (sS i + 1)), some (.int (nI (p)))], [.int (nI (p))]) from rfl) ?_
  refine AW.ifc ok 27 (am_at eX6_isOpen 1 rfl) (by decide) (fun h1 => ?_) (fun h1 => ?_)
  · -- p < 0
    have h1 : p < 0 := (i_lt (a := p) (b := 0) (by omega) (by omega)).mp h1
    refine AW.run ok eX6_isOpen 15 1 (show am_run 2 ((tX6_isOpen.drop 15).take 1) 27 [some (.ref (sS i + 1)), some (.int (nI (p)))] [] = some (28, [some (.ref (sS i + 1)), some (.int (nI (p)))], [.int (nI (0))]) from rfl) ?_
    exact AW.ri (by have hq : (n_op N p) = false := (by (simp_all [n_op]) <;> (intros; omega)); rw [hq]; rfl) rfl ok hr (rfl) (Nat.zero_le _) (Nat.zero_le _) (am_at eX6_isOpen 16 rfl)
  · -- not p < 0
    have h1 : ¬ p < 0 := fun z => h1 ((i_lt (a := p) (b := 0) (by omega) (by omega)).mpr z)
    refine AW.run ok eX6_isOpen 2 2 (show am_run 2 ((tX6_isOpen.drop 2).take 2) 4 [some (.ref (sS i + 1)), some (.int (nI (p)))] [] = some (6, [some (.ref (sS i + 1)), some (.int (nI (p)))], [.ref (sS i + 1), .int (nI (p))]) from rfl) ?_
    refine AW.getI (x := nI (n_pt N)) ok gf_X6_34 (sh_S1 hi) rfl hN.2.2.1 (am_at eX6_isOpen 4 rfl) ?_
    refine AW.icmp ok 27 (am_at eX6_isOpen 5 rfl) (by decide) (fun h2 => ?_) (fun h2 => ?_)
    · -- p ≥ n_pt N
      have h2 : n_pt N ≤ p := (i_le (a := n_pt N) (b := p) (by omega) (by omega)).mp h2
      refine AW.run ok eX6_isOpen 15 1 (show am_run 2 ((tX6_isOpen.drop 15).take 1) 27 [some (.ref (sS i + 1)), some (.int (nI (p)))] [] = some (28, [some (.ref (sS i + 1)), some (.int (nI (p)))], [.int (nI (0))]) from rfl) ?_
      exact AW.ri (by have hq : (n_op N p) = false := (by (simp_all [n_op]) <;> (intros; omega)); rw [hq]; rfl) rfl ok hr (rfl) (Nat.zero_le _) (Nat.zero_le _) (am_at eX6_isOpen 16 rfl)
    · -- not p ≥ n_pt N
      have h2 : ¬ n_pt N ≤ p := fun z => h2 ((i_le (a := n_pt N) (b := p) (by omega) (by omega)).mpr z)
      refine AW.run ok eX6_isOpen 6 1 (show am_run 2 ((tX6_isOpen.drop 6).take 1) 12 [some (.ref (sS i + 1)), some (.int (nI (p)))] [] = some (13, [some (.ref (sS i + 1)), some (.int (nI (p)))], [.ref (sS i + 1)]) from rfl) ?_
      refine AW.getI (x := nI (n_cl N)) ok gf_X6_27 (sh_S1 hi) rfl hN.1 (am_at eX6_isOpen 7 rfl) ?_
      refine AW.run ok eX6_isOpen 8 4 (show am_run 2 ((tX6_isOpen.drop 8).take 4) 16 [some (.ref (sS i + 1)), some (.int (nI (p)))] [.int (nI (n_cl N))] = some (20, [some (.ref (sS i + 1)), some (.int (nI (p)))], [.int ((nI (n_cl N) >>> (nI (p) &&& 31)) &&& nI 1)]) from rfl) ?_
      refine AW.top (show (nI (n_cl N) >>> (nI (p) &&& 31)) &&& nI 1 = bI (((n_cl N)).testBit p) from i_bitb (by omega) (by omega)) ?_
      refine AW.ifc ok 27 (am_at eX6_isOpen 12 rfl) (by decide) (fun h3 => ?_) (fun h3 => ?_)
      · -- ((n_cl N)).testBit p ≠ 0
        have h3 : ((n_cl N)).testBit p = true := bI_t h3
        refine AW.run ok eX6_isOpen 15 1 (show am_run 2 ((tX6_isOpen.drop 15).take 1) 27 [some (.ref (sS i + 1)), some (.int (nI (p)))] [] = some (28, [some (.ref (sS i + 1)), some (.int (nI (p)))], [.int (nI (0))]) from rfl) ?_
        exact AW.ri (by have hq : (n_op N p) = false := (by (simp_all [n_op]) <;> (intros; omega)); rw [hq]; rfl) rfl ok hr (rfl) (Nat.zero_le _) (Nat.zero_le _) (am_at eX6_isOpen 16 rfl)
      · -- not ((n_cl N)).testBit p ≠ 0
        have h3 : ((n_cl N)).testBit p = false := bI_f (Classical.not_not.mp h3)
        refine AW.run ok eX6_isOpen 13 2 (show am_run 2 ((tX6_isOpen.drop 13).take 2) 23 [some (.ref (sS i + 1)), some (.int (nI (p)))] [] = some (28, [some (.ref (sS i + 1)), some (.int (nI (p)))], [.int (nI (1))]) from rfl) ?_
        exact AW.ri (by have hq : (n_op N p) = true := (by (simp_all [n_op]) <;> (intros; omega)); rw [hq]; rfl) rfl ok hr (rfl) (Nat.zero_le _) (Nat.zero_le _) (am_at eX6_isOpen 16 rfl)
set_option maxHeartbeats 4000000 in
theorem kX6_endsOf {U : am_U} {l : Launch} (B : am_base xx U) (hfl : l.stackTraces = false) {V : am_V} {i : Nat} (hi : i < 12) {N : nT} (hN : vN V i N) (hw : wN N) {p : Nat} (hp : p < 16) : am_Ct xx U l yX6_endsOf cX6_endsOf 2 (some .int) { frames := 0, cells := 0, slots := 0, locals := 0 } [.ref (sS i + 1), .int (nI (p))] V (am_is (.inl (some (.int (nI (n_en N p))))) V) := by
  refine am_Ct.of B hfl (by decide) (Nat.le_of_ble_eq_true rfl) ?_
  intro G hgl hgR hr ok h0 hex
  obtain ⟨hw1, hw2, hw3, hw4, hw5, hw6⟩ := id hw
  have h50 := hw5 p hp
  show AW xx U G 2 0 0 V _ 0 [some (.ref (sS i + 1)), some (.int (nI (p)))] []
  refine AW.run ok eX6_endsOf 0 2 (show am_run 2 ((tX6_endsOf.drop 0).take 2) 0 [some (.ref (sS i + 1)), some (.int (nI (p)))] [] = some (2, [some (.ref (sS i + 1)), some (.int (nI (p)))], [.ref (sS i + 1), .int (nI (1))]) from rfl) ?_
  refine AW.getR ok gf_X6_15 (sh_S1 hi) rfl (am_at eX6_endsOf 2 rfl) ?_
  refine AW.run ok eX6_endsOf 3 1 (show am_run 2 ((tX6_endsOf.drop 3).take 1) 5 [some (.ref (sS i + 1)), some (.int (nI (p)))] [.ref (sS i + 5), .int (nI (1))] = some (6, [some (.ref (sS i + 1)), some (.int (nI (p)))], [.int (nI (p)), .ref (sS i + 5), .int (nI (1))]) from rfl) ?_
  refine AW.aldI (x := nI (n_fs N (p))) ok (sh_S5 hi) (by omega : p < 16) (by decide) (hN.2.2.2.2.1 _ (by omega : p < 16)) (am_at eX6_endsOf 4 rfl) ?_
  refine AW.run ok eX6_endsOf 5 1 (show am_run 2 ((tX6_endsOf.drop 5).take 1) 7 [some (.ref (sS i + 1)), some (.int (nI (p)))] [.int (nI (n_fs N (p))), .int (nI (1))] = some (8, [some (.ref (sS i + 1)), some (.int (nI (p)))], [.int (nI (1) <<< (nI (n_fs N (p)) &&& 31))]) from rfl) ?_
  refine AW.top (show nI (1) <<< (nI (n_fs N (p)) &&& 31) = nI (2 ^ (n_fs N (p))) from i_shl1 (by omega)) ?_
  refine AW.run ok eX6_endsOf 6 2 (show am_run 2 ((tX6_endsOf.drop 6).take 2) 8 [some (.ref (sS i + 1)), some (.int (nI (p)))] [.int (nI (2 ^ (n_fs N (p))))] = some (10, [some (.ref (sS i + 1)), some (.int (nI (p)))], [.ref (sS i + 1), .int (nI (1)), .int (nI (2 ^ (n_fs N (p))))]) from rfl) ?_
  refine AW.getR ok gf_X6_18 (sh_S1 hi) rfl (am_at eX6_endsOf 8 rfl) ?_
  refine AW.run ok eX6_endsOf 9 1 (show am_run 2 ((tX6_endsOf.drop 9).take 1) 13 [some (.ref (sS i + 1)), some (.int (nI (p)))] [.ref (sS i + 6), .int (nI (1)), .int (nI (2 ^ (n_fs N (p))))] = some (14, [some (.ref (sS i + 1)), some (.int (nI (p)))], [.int (nI (p)), .ref (sS i + 6), .int (nI (1)), .int (nI (2 ^ (n_fs N (p))))]) from rfl) ?_
  refine AW.aldI (x := nI (n_sn N (p))) ok (sh_S6 hi) (by omega : p < 16) (by decide) (hN.2.2.2.2.2.1 _ (by omega : p < 16)) (am_at eX6_endsOf 10 rfl) ?_
  refine AW.run ok eX6_endsOf 11 1 (show am_run 2 ((tX6_endsOf.drop 11).take 1) 15 [some (.ref (sS i + 1)), some (.int (nI (p)))] [.int (nI (n_sn N (p))), .int (nI (1)), .int (nI (2 ^ (n_fs N (p))))] = some (16, [some (.ref (sS i + 1)), some (.int (nI (p)))], [.int (nI (1) <<< (nI (n_sn N (p)) &&& 31)), .int (nI (2 ^ (n_fs N (p))))]) from rfl) ?_
  refine AW.top (show nI (1) <<< (nI (n_sn N (p)) &&& 31) = nI (2 ^ (n_sn N (p))) from i_shl1 (by omega)) ?_
  refine AW.run ok eX6_endsOf 12 1 (show am_run 2 ((tX6_endsOf.drop 12).take 1) 16 [some (.ref (sS i + 1)), some (.int (nI (p)))] [.int (nI (2 ^ (n_sn N (p)))), .int (nI (2 ^ (n_fs N (p))))] = some (17, [some (.ref (sS i + 1)), some (.int (nI (p)))], [.int (nI (2 ^ (n_fs N (p))) ||| nI (2 ^ (n_sn N (p))))]) from rfl) ?_
  refine AW.top (show nI (2 ^ (n_fs N (p))) ||| nI (2 ^ (n_sn N (p))) = nI ((2 ^ (n_fs N (p))) ||| (2 ^ (n_sn N (p)))) from i_or _ _) ?_
  exact AW.ri (by rfl) rfl ok hr (rfl) (Nat.zero_le _) (Nat.zero_le _) (am_at eX6_endsOf 13 rfl)
set_option maxHeartbeats 4000000 in
theorem kX6_dangerOf {U : am_U} {l : Launch} (B : am_base xx U) (hfl : l.stackTraces = false) {V : am_V} {i : Nat} (hi : i < 12) {N : nT} (hN : vN V i N) (hw : wN N) {p f : Nat} (hp : p < 16) (hf : f < 9) : am_Ct xx U l yX6_dangerOf cX6_dangerOf 3 (some .int) { frames := 0, cells := 0, slots := 0, locals := 0 } [.ref (sS i + 1), .int (nI (p)), .int (nI (f))] V (am_is (.inl (some (.int (nI (n_dg N p f))))) V) := by
  refine am_Ct.of B hfl (by decide) (Nat.le_of_ble_eq_true rfl) ?_
  intro G hgl hgR hr ok h0 hex
  obtain ⟨hw1, hw2, hw3, hw4, hw5, hw6⟩ := id hw
  have h50 := hw5 p hp
  have h40 := hw4 f hf
  show AW xx U G 3 0 0 V _ 0 [some (.ref (sS i + 1)), some (.int (nI (p))), some (.int (nI (f)))] []
  refine AW.run ok eX6_dangerOf 0 1 (show am_run 3 ((tX6_dangerOf.drop 0).take 1) 0 [some (.ref (sS i + 1)), some (.int (nI (p))), some (.int (nI (f)))] [] = some (1, [some (.ref (sS i + 1)), some (.int (nI (p))), some (.int (nI (f)))], [.ref (sS i + 1)]) from rfl) ?_
  refine AW.getR ok gf_X6_24 (sh_S1 hi) rfl (am_at eX6_dangerOf 1 rfl) ?_
  refine AW.run ok eX6_dangerOf 2 1 (show am_run 3 ((tX6_dangerOf.drop 2).take 1) 4 [some (.ref (sS i + 1)), some (.int (nI (p))), some (.int (nI (f)))] [.ref (sS i + 8)] = some (5, [some (.ref (sS i + 1)), some (.int (nI (p))), some (.int (nI (f)))], [.int (nI (p)), .ref (sS i + 8)]) from rfl) ?_
  refine AW.aldI (x := nI (n_gu N (p))) ok (sh_S8 hi) (by omega : p < 16) (by decide) (hN.2.2.2.2.2.2.2 _ (by omega : p < 16)) (am_at eX6_dangerOf 3 rfl) ?_
  refine AW.run ok eX6_dangerOf 4 1 (show am_run 3 ((tX6_dangerOf.drop 4).take 1) 6 [some (.ref (sS i + 1)), some (.int (nI (p))), some (.int (nI (f)))] [.int (nI (n_gu N (p)))] = some (7, [some (.ref (sS i + 1)), some (.int (nI (p))), some (.int (nI (f)))], [.ref (sS i + 1), .int (nI (n_gu N (p)))]) from rfl) ?_
  refine AW.getR ok gf_X6_9 (sh_S1 hi) rfl (am_at eX6_dangerOf 5 rfl) ?_
  refine AW.run ok eX6_dangerOf 6 1 (show am_run 3 ((tX6_dangerOf.drop 6).take 1) 10 [some (.ref (sS i + 1)), some (.int (nI (p))), some (.int (nI (f)))] [.ref (sS i + 4), .int (nI (n_gu N (p)))] = some (11, [some (.ref (sS i + 1)), some (.int (nI (p))), some (.int (nI (f)))], [.int (nI (f)), .ref (sS i + 4), .int (nI (n_gu N (p)))]) from rfl) ?_
  refine AW.aldI (x := nI (n_sh N (f))) ok (sh_S4 hi) (by omega : f < 9) (by decide) (hN.2.2.2.1 _ (by omega : f < 9)) (am_at eX6_dangerOf 7 rfl) ?_
  refine AW.icmp ok 31 (am_at eX6_dangerOf 8 rfl) (by decide) (fun h1 => ?_) (fun h1 => ?_)
  · -- n_gu N (p) ≤ n_sh N (f)
    have h1 : n_gu N (p) ≤ n_sh N (f) := (i_le (a := n_gu N (p)) (b := n_sh N (f)) (by omega) (by omega)).mp h1
    refine AW.run ok eX6_dangerOf 19 1 (show am_run 3 ((tX6_dangerOf.drop 19).take 1) 31 [some (.ref (sS i + 1)), some (.int (nI (p))), some (.int (nI (f)))] [] = some (32, [some (.ref (sS i + 1)), some (.int (nI (p))), some (.int (nI (f)))], [.int (nI (0))]) from rfl) ?_
    exact AW.ri (by have := hw5 p hp; have := hw4 f hf; first | (rw [i_sub (by omega)]; rfl) | (exact congrArg nI (by unfold n_dg; omega))) rfl ok hr (rfl) (Nat.zero_le _) (Nat.zero_le _) (am_at eX6_dangerOf 20 rfl)
  · -- not n_gu N (p) ≤ n_sh N (f)
    have h1 : ¬ n_gu N (p) ≤ n_sh N (f) := fun z => h1 ((i_le (a := n_gu N (p)) (b := n_sh N (f)) (by omega) (by omega)).mpr z)
    refine AW.run ok eX6_dangerOf 9 1 (show am_run 3 ((tX6_dangerOf.drop 9).take 1) 15 [some (.ref (sS i + 1)), some (.int (nI (p))), some (.int (nI (f)))] [] = some (16, [some (.ref (sS i + 1)), some (.int (nI (p))), some (.int (nI (f)))], [.ref (sS i + 1)]) from rfl) ?_
    refine AW.getR ok gf_X6_24 (sh_S1 hi) rfl (am_at eX6_dangerOf 10 rfl) ?_
    refine AW.run ok eX6_dangerOf 11 1 (show am_run 3 ((tX6_dangerOf.drop 11).take 1) 19 [some (.ref (sS i + 1)), some (.int (nI (p))), some (.int (nI (f)))] [.ref (sS i + 8)] = some (20, [some (.ref (sS i + 1)), some (.int (nI (p))), some (.int (nI (f)))], [.int (nI (p)), .ref (sS i + 8)]) from rfl) ?_
    refine AW.aldI (x := nI (n_gu N (p))) ok (sh_S8 hi) (by omega : p < 16) (by decide) (hN.2.2.2.2.2.2.2 _ (by omega : p < 16)) (am_at eX6_dangerOf 12 rfl) ?_
    refine AW.run ok eX6_dangerOf 13 1 (show am_run 3 ((tX6_dangerOf.drop 13).take 1) 21 [some (.ref (sS i + 1)), some (.int (nI (p))), some (.int (nI (f)))] [.int (nI (n_gu N (p)))] = some (22, [some (.ref (sS i + 1)), some (.int (nI (p))), some (.int (nI (f)))], [.ref (sS i + 1), .int (nI (n_gu N (p)))]) from rfl) ?_
    refine AW.getR ok gf_X6_9 (sh_S1 hi) rfl (am_at eX6_dangerOf 14 rfl) ?_
    refine AW.run ok eX6_dangerOf 15 1 (show am_run 3 ((tX6_dangerOf.drop 15).take 1) 25 [some (.ref (sS i + 1)), some (.int (nI (p))), some (.int (nI (f)))] [.ref (sS i + 4), .int (nI (n_gu N (p)))] = some (26, [some (.ref (sS i + 1)), some (.int (nI (p))), some (.int (nI (f)))], [.int (nI (f)), .ref (sS i + 4), .int (nI (n_gu N (p)))]) from rfl) ?_
    refine AW.aldI (x := nI (n_sh N (f))) ok (sh_S4 hi) (by omega : f < 9) (by decide) (hN.2.2.2.1 _ (by omega : f < 9)) (am_at eX6_dangerOf 16 rfl) ?_
    refine AW.run ok eX6_dangerOf 17 2 (show am_run 3 ((tX6_dangerOf.drop 17).take 2) 27 [some (.ref (sS i + 1)), some (.int (nI (p))), some (.int (nI (f)))] [.int (nI (n_sh N (f))), .int (nI (n_gu N (p)))] = some (32, [some (.ref (sS i + 1)), some (.int (nI (p))), some (.int (nI (f)))], [.int ((nI (n_gu N (p))) - (nI (n_sh N (f))))]) from rfl) ?_
    exact AW.ri (by have := hw5 p hp; have := hw4 f hf; first | (rw [i_sub (by omega)]; rfl) | (exact congrArg nI (by unfold n_dg; omega))) rfl ok hr (rfl) (Nat.zero_le _) (Nat.zero_le _) (am_at eX6_dangerOf 20 rfl)
theorem i_lit {k : Nat} (h : k < 2147483648) : ¬ nI k < nI 0 := i_lt0 h
def n_far (N : nT) (p f : Nat) : Int32 := if p < n_pt N then (if n_fs N p = f then nI (n_sn N p) else if n_sn N p = f then nI (n_fs N p) else -1) else -1
theorem hasP {N : nT} {p : Nat} (h2 : n_pt N ≤ 16) (hp : p < 16) (b : Bool) (h : decide (0 ≤ nI p ∧ nI p < nI (n_pt N)) = b) : decide (p < n_pt N) = b := by
  rw [← h]
  have e1 : (0 ≤ nI p) := nI_pos' (by omega)
  have e2 := i_lt (a := p) (b := n_pt N) (by omega) (by omega)
  simp [e1, e2]
theorem n_en_lt {N : nT} (hw : wN N) {p : Nat} (hp : p < 16) : n_en N p < 512 := by
  have h := hw.2.2.2.2.1 p hp
  have h1 : 2 ^ n_fs N p < 2 ^ 9 := Nat.pow_lt_pow_right (by omega) h.1
  have h2 : 2 ^ n_sn N p < 2 ^ 9 := Nat.pow_lt_pow_right (by omega) h.2.1
  exact Nat.or_lt_two_pow (n := 9) h1 h2
set_option maxHeartbeats 4000000 in
theorem kX6_farEnd {U : am_U} {l : Launch} (B : am_base xx U) (hfl : l.stackTraces = false) {V : am_V} {i : Nat} (hi : i < 12) {N : nT} (hN : vN V i N) (hw : wN N) {p f : Nat} (hp : p < 16) (hf : f < 9) : am_Ct xx U l yX6_farEnd cX6_farEnd 3 (some .int) { frames := 1, cells := 0, slots := 0, locals := 21 } [.ref (sS i + 1), .int (nI (p)), .int (nI (f))] V (am_is (.inl (some (.int (n_far N p f)))) V) := by
  refine am_Ct.of B hfl (by decide) (Nat.le_of_ble_eq_true rfl) ?_
  intro G hgl hgR hr ok h0 hex
  obtain ⟨hw1, hw2, hw3, hw4, hw5, hw6⟩ := id hw
  have h50 := hw5 p hp
  show AW xx U G 3 0 0 V _ 0 [some (.ref (sS i + 1)), some (.int (nI (p))), some (.int (nI (f)))] []
  refine AW.run ok eX6_farEnd 0 2 (show am_run 3 ((tX6_farEnd.drop 0).take 2) 0 [some (.ref (sS i + 1)), some (.int (nI (p))), some (.int (nI (f)))] [] = some (2, [some (.ref (sS i + 1)), some (.int (nI (p))), some (.int (nI (f)))], [.int (nI (p)), .ref (sS i + 1)]) from rfl) ?_
  refine AW.cv1 (rm := { frames := 0, cells := 0, slots := 0, locals := 0 }) (st := []) (As := [.int (nI (p))]) ok (by rw [hgl]; exact kX6_hasPath B hfl hi hN hw (nI (p))) cv_X6_43 (sh_S1 hi) (T := TX6) (N := 8) rfl rfl rfl (Nat.le_of_ble_eq_true rfl) (by rw [hgR]; exact ⟨Nat.le_of_ble_eq_true rfl, Nat.le_of_ble_eq_true rfl⟩) (by rw [hgR]; exact ⟨Nat.le_of_ble_eq_true rfl, Nat.le_of_ble_eq_true rfl⟩) (am_at eX6_farEnd 2 rfl) ?_
  refine AW.ifc ok 10 (am_at eX6_farEnd 3 rfl) (by decide) (fun h1 => ?_) (fun h1 => ?_)
  · -- decide (0 ≤ nI (p) ∧ nI (p) < nI (n_pt N)) ≠ 0
    have h1 : decide (0 ≤ nI (p) ∧ nI (p) < nI (n_pt N)) = true := bI_t h1
    have h1 : p < n_pt N := of_decide_eq_true (hasP hw2 (by omega) true h1)
    refine AW.run ok eX6_farEnd 6 1 (show am_run 3 ((tX6_farEnd.drop 6).take 1) 10 [some (.ref (sS i + 1)), some (.int (nI (p))), some (.int (nI (f)))] [] = some (11, [some (.ref (sS i + 1)), some (.int (nI (p))), some (.int (nI (f)))], [.ref (sS i + 1)]) from rfl) ?_
    refine AW.getR ok gf_X6_15 (sh_S1 hi) rfl (am_at eX6_farEnd 7 rfl) ?_
    refine AW.run ok eX6_farEnd 8 1 (show am_run 3 ((tX6_farEnd.drop 8).take 1) 14 [some (.ref (sS i + 1)), some (.int (nI (p))), some (.int (nI (f)))] [.ref (sS i + 5)] = some (15, [some (.ref (sS i + 1)), some (.int (nI (p))), some (.int (nI (f)))], [.int (nI (p)), .ref (sS i + 5)]) from rfl) ?_
    refine AW.aldI (x := nI (n_fs N (p))) ok (sh_S5 hi) (by omega : p < 16) (by decide) (hN.2.2.2.2.1 _ (by omega : p < 16)) (am_at eX6_farEnd 9 rfl) ?_
    refine AW.run ok eX6_farEnd 10 1 (show am_run 3 ((tX6_farEnd.drop 10).take 1) 16 [some (.ref (sS i + 1)), some (.int (nI (p))), some (.int (nI (f)))] [.int (nI (n_fs N (p)))] = some (17, [some (.ref (sS i + 1)), some (.int (nI (p))), some (.int (nI (f)))], [.int (nI (f)), .int (nI (n_fs N (p)))]) from rfl) ?_
    refine AW.icmp ok 27 (am_at eX6_farEnd 11 rfl) (by decide) (fun h2 => ?_) (fun h2 => ?_)
    · -- n_fs N (p) ≠ f
      have h2 : ¬ n_fs N (p) = f := fun z => h2 ((i_eq (a := n_fs N (p)) (b := f) (by omega) (by omega)).mpr z)
      refine AW.run ok eX6_farEnd 17 1 (show am_run 3 ((tX6_farEnd.drop 17).take 1) 27 [some (.ref (sS i + 1)), some (.int (nI (p))), some (.int (nI (f)))] [] = some (28, [some (.ref (sS i + 1)), some (.int (nI (p))), some (.int (nI (f)))], [.ref (sS i + 1)]) from rfl) ?_
      refine AW.getR ok gf_X6_18 (sh_S1 hi) rfl (am_at eX6_farEnd 18 rfl) ?_
      refine AW.run ok eX6_farEnd 19 1 (show am_run 3 ((tX6_farEnd.drop 19).take 1) 31 [some (.ref (sS i + 1)), some (.int (nI (p))), some (.int (nI (f)))] [.ref (sS i + 6)] = some (32, [some (.ref (sS i + 1)), some (.int (nI (p))), some (.int (nI (f)))], [.int (nI (p)), .ref (sS i + 6)]) from rfl) ?_
      refine AW.aldI (x := nI (n_sn N (p))) ok (sh_S6 hi) (by omega : p < 16) (by decide) (hN.2.2.2.2.2.1 _ (by omega : p < 16)) (am_at eX6_farEnd 20 rfl) ?_
      refine AW.run ok eX6_farEnd 21 1 (show am_run 3 ((tX6_farEnd.drop 21).take 1) 33 [some (.ref (sS i + 1)), some (.int (nI (p))), some (.int (nI (f)))] [.int (nI (n_sn N (p)))] = some (34, [some (.ref (sS i + 1)), some (.int (nI (p))), some (.int (nI (f)))], [.int (nI (f)), .int (nI (n_sn N (p)))]) from rfl) ?_
      refine AW.icmp ok 46 (am_at eX6_farEnd 22 rfl) (by decide) (fun h3 => ?_) (fun h3 => ?_)
      · -- n_sn N (p) ≠ f
        have h3 : ¬ n_sn N (p) = f := fun z => h3 ((i_eq (a := n_sn N (p)) (b := f) (by omega) (by omega)).mpr z)
        refine AW.run ok eX6_farEnd 28 1 (show am_run 3 ((tX6_farEnd.drop 28).take 1) 46 [some (.ref (sS i + 1)), some (.int (nI (p))), some (.int (nI (f)))] [] = some (47, [some (.ref (sS i + 1)), some (.int (nI (p))), some (.int (nI (f)))], [.int (-1)]) from rfl) ?_
        exact AW.ri (by unfold n_far; (repeat (first | split)) <;> first | rfl | omega) rfl ok hr (rfl) (Nat.zero_le _) (Nat.zero_le _) (am_at eX6_farEnd 29 rfl)
      · -- not n_sn N (p) ≠ f
        have h3 : n_sn N (p) = f := (i_eq (a := n_sn N (p)) (b := f) (by omega) (by omega)).mp (Classical.not_not.mp h3)
        refine AW.run ok eX6_farEnd 23 1 (show am_run 3 ((tX6_farEnd.drop 23).take 1) 37 [some (.ref (sS i + 1)), some (.int (nI (p))), some (.int (nI (f)))] [] = some (38, [some (.ref (sS i + 1)), some (.int (nI (p))), some (.int (nI (f)))], [.ref (sS i + 1)]) from rfl) ?_
        refine AW.getR ok gf_X6_15 (sh_S1 hi) rfl (am_at eX6_farEnd 24 rfl) ?_
        refine AW.run ok eX6_farEnd 25 1 (show am_run 3 ((tX6_farEnd.drop 25).take 1) 41 [some (.ref (sS i + 1)), some (.int (nI (p))), some (.int (nI (f)))] [.ref (sS i + 5)] = some (42, [some (.ref (sS i + 1)), some (.int (nI (p))), some (.int (nI (f)))], [.int (nI (p)), .ref (sS i + 5)]) from rfl) ?_
        refine AW.aldI (x := nI (n_fs N (p))) ok (sh_S5 hi) (by omega : p < 16) (by decide) (hN.2.2.2.2.1 _ (by omega : p < 16)) (am_at eX6_farEnd 26 rfl) ?_
        refine AW.run ok eX6_farEnd 27 1 (show am_run 3 ((tX6_farEnd.drop 27).take 1) 43 [some (.ref (sS i + 1)), some (.int (nI (p))), some (.int (nI (f)))] [.int (nI (n_fs N (p)))] = some (47, [some (.ref (sS i + 1)), some (.int (nI (p))), some (.int (nI (f)))], [.int (nI (n_fs N (p)))]) from rfl) ?_
        exact AW.ri (by unfold n_far; (repeat (first | split)) <;> first | rfl | omega) rfl ok hr (rfl) (Nat.zero_le _) (Nat.zero_le _) (am_at eX6_farEnd 29 rfl)
    · -- not n_fs N (p) ≠ f
      have h2 : n_fs N (p) = f := (i_eq (a := n_fs N (p)) (b := f) (by omega) (by omega)).mp (Classical.not_not.mp h2)
      refine AW.run ok eX6_farEnd 12 1 (show am_run 3 ((tX6_farEnd.drop 12).take 1) 20 [some (.ref (sS i + 1)), some (.int (nI (p))), some (.int (nI (f)))] [] = some (21, [some (.ref (sS i + 1)), some (.int (nI (p))), some (.int (nI (f)))], [.ref (sS i + 1)]) from rfl) ?_
      refine AW.getR ok gf_X6_18 (sh_S1 hi) rfl (am_at eX6_farEnd 13 rfl) ?_
      refine AW.run ok eX6_farEnd 14 1 (show am_run 3 ((tX6_farEnd.drop 14).take 1) 24 [some (.ref (sS i + 1)), some (.int (nI (p))), some (.int (nI (f)))] [.ref (sS i + 6)] = some (25, [some (.ref (sS i + 1)), some (.int (nI (p))), some (.int (nI (f)))], [.int (nI (p)), .ref (sS i + 6)]) from rfl) ?_
      refine AW.aldI (x := nI (n_sn N (p))) ok (sh_S6 hi) (by omega : p < 16) (by decide) (hN.2.2.2.2.2.1 _ (by omega : p < 16)) (am_at eX6_farEnd 15 rfl) ?_
      exact AW.ri (by unfold n_far; (repeat (first | split)) <;> first | rfl | omega) rfl ok hr (rfl) (Nat.zero_le _) (Nat.zero_le _) (am_at eX6_farEnd 16 rfl)
  · -- not decide (0 ≤ nI (p) ∧ nI (p) < nI (n_pt N)) ≠ 0
    have h1 : decide (0 ≤ nI (p) ∧ nI (p) < nI (n_pt N)) = false := bI_f (Classical.not_not.mp h1)
    have h1 : ¬ p < n_pt N := of_decide_eq_false (hasP hw2 (by omega) false h1)
    refine AW.run ok eX6_farEnd 4 1 (show am_run 3 ((tX6_farEnd.drop 4).take 1) 8 [some (.ref (sS i + 1)), some (.int (nI (p))), some (.int (nI (f)))] [] = some (9, [some (.ref (sS i + 1)), some (.int (nI (p))), some (.int (nI (f)))], [.int (-1)]) from rfl) ?_
    exact AW.ri (by unfold n_far; (repeat (first | split)) <;> first | rfl | omega) rfl ok hr (rfl) (Nat.zero_le _) (Nat.zero_le _) (am_at eX6_farEnd 5 rfl)
def n_fst (P : Nat → Bool) : Nat → Nat → Int32
  | 0, _ => -1
  | n + 1, p => if P p = true then nI p else n_fst P n (p + 1)
set_option maxHeartbeats 4000000 in
theorem lX6_pathBetween {U : am_U} {l : Launch} (B : am_base xx U) (hfl : l.stackTraces = false) {V : am_V} {i : Nat} (hi : i < 12) {N : nT} (hN : vN V i N) (hw : wN N) {G : am_G} (hgl : am_gl G = l) (hgR : am_gR G = { frames := 1, cells := 0, slots := 0, locals := 21 }) (hr : (am_gt G).sig.returnType = (some .int)) (ok : am_ok xx U G (yX6_pathBetween).cls cX6_pathBetween 5) (h0 : am_st0 U G) {x1 x2 : Int32} {ee : Nat} (he : ee < 512) : ∀ (n p : Nat), p + n = n_pt N → AW xx U G 5 0 0 V (am_End xx U G { frames := 1, cells := 0, slots := 0, locals := 21 } (am_is (.inl (some (.int (n_fst (fun q => n_en N q == ee) n p)))) V)) 11 [some (.ref (sS i + 1)), some (.int (x1)), some (.int (x2)), some (.int (nI (ee))), some (.int (nI (p)))] [] := by
  obtain ⟨hw1, hw2, hw3, hw4, hw5, hw6⟩ := id hw
  intro n
  induction n with
  | zero =>
    intro p hpn
    refine AW.run ok eX6_pathBetween 10 2 (show am_run 5 ((tX6_pathBetween.drop 10).take 2) 11 [some (.ref (sS i + 1)), some (.int (x1)), some (.int (x2)), some (.int (nI (ee))), some (.int (nI (p)))] [] = some (14, [some (.ref (sS i + 1)), some (.int (x1)), some (.int (x2)), some (.int (nI (ee))), some (.int (nI (p)))], [.ref (sS i + 1), .int (nI (p))]) from rfl) ?_
    refine AW.getI (x := nI (n_pt N)) ok gf_X6_34 (sh_S1 hi) rfl hN.2.2.1 (am_at eX6_pathBetween 12 rfl) ?_
    refine AW.icmp ok 39 (am_at eX6_pathBetween 13 rfl) (by decide) (fun h1 => ?_) (fun h1 => ?_)
    · -- p ≥ n_pt N
      have h1 : n_pt N ≤ p := (i_le (a := n_pt N) (b := p) (by omega) (by omega)).mp h1
      refine AW.run ok eX6_pathBetween 23 1 (show am_run 5 ((tX6_pathBetween.drop 23).take 1) 39 [some (.ref (sS i + 1)), some (.int (x1)), some (.int (x2)), some (.int (nI (ee))), some (.int (nI (p)))] [] = some (40, [some (.ref (sS i + 1)), some (.int (x1)), some (.int (x2)), some (.int (nI (ee))), some (.int (nI (p)))], [.int (-1)]) from rfl) ?_
      exact AW.ri (by rfl) rfl ok hr rfl (Nat.zero_le _) (Nat.zero_le _) (am_at eX6_pathBetween 24 rfl)
    · -- not p ≥ n_pt N
      have h1 : ¬ n_pt N ≤ p := fun z => h1 ((i_le (a := n_pt N) (b := p) (by omega) (by omega)).mpr z)
      exact absurd hpn (by omega)
  | succ n ih =>
    intro p hpn
    have hen := n_en_lt hw (p := p) (by omega)
    refine AW.run ok eX6_pathBetween 10 2 (show am_run 5 ((tX6_pathBetween.drop 10).take 2) 11 [some (.ref (sS i + 1)), some (.int (x1)), some (.int (x2)), some (.int (nI (ee))), some (.int (nI (p)))] [] = some (14, [some (.ref (sS i + 1)), some (.int (x1)), some (.int (x2)), some (.int (nI (ee))), some (.int (nI (p)))], [.ref (sS i + 1), .int (nI (p))]) from rfl) ?_
    refine AW.getI (x := nI (n_pt N)) ok gf_X6_34 (sh_S1 hi) rfl hN.2.2.1 (am_at eX6_pathBetween 12 rfl) ?_
    refine AW.icmp ok 39 (am_at eX6_pathBetween 13 rfl) (by decide) (fun h1 => ?_) (fun h1 => ?_)
    · -- p ≥ n_pt N
      have h1 : n_pt N ≤ p := (i_le (a := n_pt N) (b := p) (by omega) (by omega)).mp h1
      exact absurd hpn (by omega)
    · -- not p ≥ n_pt N
      have h1 : ¬ n_pt N ≤ p := fun z => h1 ((i_le (a := n_pt N) (b := p) (by omega) (by omega)).mpr z)
      refine AW.run ok eX6_pathBetween 14 2 (show am_run 5 ((tX6_pathBetween.drop 14).take 2) 20 [some (.ref (sS i + 1)), some (.int (x1)), some (.int (x2)), some (.int (nI (ee))), some (.int (nI (p)))] [] = some (23, [some (.ref (sS i + 1)), some (.int (x1)), some (.int (x2)), some (.int (nI (ee))), some (.int (nI (p)))], [.int (nI (p)), .ref (sS i + 1)]) from rfl) ?_
      refine AW.cv1 (rm := { frames := 0, cells := 0, slots := 0, locals := 0 }) (st := []) (As := [.int (nI (p))]) ok (by rw [hgl]; exact kX6_endsOf B hfl hi hN hw (p := p) (by omega)) cv_X6_47 (sh_S1 hi) (T := TX6) (N := 8) rfl rfl rfl (Nat.le_of_ble_eq_true rfl) (by rw [hgR]; exact ⟨Nat.le_of_ble_eq_true rfl, Nat.le_of_ble_eq_true rfl⟩) (by rw [hgR]; exact ⟨Nat.le_of_ble_eq_true rfl, Nat.le_of_ble_eq_true rfl⟩) (am_at eX6_pathBetween 16 rfl) ?_
      refine AW.run ok eX6_pathBetween 17 1 (show am_run 5 ((tX6_pathBetween.drop 17).take 1) 26 [some (.ref (sS i + 1)), some (.int (x1)), some (.int (x2)), some (.int (nI (ee))), some (.int (nI (p)))] [.int (nI (n_en N (p)))] = some (27, [some (.ref (sS i + 1)), some (.int (x1)), some (.int (x2)), some (.int (nI (ee))), some (.int (nI (p)))], [.int (nI (ee)), .int (nI (n_en N (p)))]) from rfl) ?_
      refine AW.icmp ok 33 (am_at eX6_pathBetween 18 rfl) (by decide) (fun h2 => ?_) (fun h2 => ?_)
      · -- n_en N (p) ≠ ee
        have h2 : ¬ n_en N (p) = ee := fun z => h2 ((i_eq (a := n_en N (p)) (b := ee) (by omega) (by omega)).mpr z)
        refine AW.run ok eX6_pathBetween 21 1 (show am_run 5 ((tX6_pathBetween.drop 21).take 1) 33 [some (.ref (sS i + 1)), some (.int (x1)), some (.int (x2)), some (.int (nI (ee))), some (.int (nI (p)))] [] = some (36, [some (.ref (sS i + 1)), some (.int (x1)), some (.int (x2)), some (.int (nI (ee))), some (.int (nI (p) + nI 1))], []) from rfl) ?_
        refine AW.loc (show ([some (.ref (sS i + 1)), some (.int (x1)), some (.int (x2)), some (.int (nI (ee))), some (.int (nI (p) + nI 1))] : List (Option Value)) = [some (.ref (sS i + 1)), some (.int (x1)), some (.int (x2)), some (.int (nI (ee))), some (.int (nI (p + 1)))] by rw [show nI (p) + nI 1 = nI (p + 1) from nI_add _ _]) ?_
        refine AW.run ok eX6_pathBetween 22 1 (show am_run 5 ((tX6_pathBetween.drop 22).take 1) 36 [some (.ref (sS i + 1)), some (.int (x1)), some (.int (x2)), some (.int (nI (ee))), some (.int (nI (p + 1)))] [] = some (11, [some (.ref (sS i + 1)), some (.int (x1)), some (.int (x2)), some (.int (nI (ee))), some (.int (nI (p + 1)))], []) from rfl) ?_
        rw [show n_fst (fun q => n_en N q == ee) (n + 1) p = n_fst (fun q => n_en N q == ee) n (p + 1) from by rw [n_fst, if_neg (fun z => h2 (beq_iff_eq.mp z))]]
        exact ih (p + 1) (by omega)
      · -- not n_en N (p) ≠ ee
        have h2 : n_en N (p) = ee := (i_eq (a := n_en N (p)) (b := ee) (by omega) (by omega)).mp (Classical.not_not.mp h2)
        refine AW.run ok eX6_pathBetween 19 1 (show am_run 5 ((tX6_pathBetween.drop 19).take 1) 30 [some (.ref (sS i + 1)), some (.int (x1)), some (.int (x2)), some (.int (nI (ee))), some (.int (nI (p)))] [] = some (32, [some (.ref (sS i + 1)), some (.int (x1)), some (.int (x2)), some (.int (nI (ee))), some (.int (nI (p)))], [.int (nI (p))]) from rfl) ?_
        exact AW.ri (by rw [n_fst, if_pos (beq_iff_eq.mpr h2)]) rfl ok hr rfl (Nat.zero_le _) (Nat.zero_le _) (am_at eX6_pathBetween 20 rfl)
theorem pbl {a b : Nat} (ha : a < 9) (hb : b < 9) : 2 ^ a ||| 2 ^ b < 512 := by
  have h1 : 2 ^ a < 2 ^ 9 := Nat.pow_lt_pow_right (by omega) ha
  have h2 : 2 ^ b < 2 ^ 9 := Nat.pow_lt_pow_right (by omega) hb
  exact Nat.or_lt_two_pow (n := 9) h1 h2
set_option maxHeartbeats 4000000 in
theorem kX6_pathBetween {U : am_U} {l : Launch} (B : am_base xx U) (hfl : l.stackTraces = false) {V : am_V} {i : Nat} (hi : i < 12) {N : nT} (hN : vN V i N) (hw : wN N) {a b : Nat} (ha : a < 9) (hb : b < 9) : am_Ct xx U l yX6_pathBetween cX6_pathBetween 5 (some .int) { frames := 1, cells := 0, slots := 0, locals := 21 } [.ref (sS i + 1), .int (nI (a)), .int (nI (b))] V (am_is (.inl (some (.int (n_fst (fun q => n_en N q == 2 ^ a ||| 2 ^ b) (n_pt N) 0)))) V) := by
  refine am_Ct.of B hfl (by decide) (Nat.le_of_ble_eq_true rfl) ?_
  intro G hgl hgR hr ok h0 hex
  obtain ⟨hw1, hw2, hw3, hw4, hw5, hw6⟩ := id hw
  show AW xx U G 5 0 0 V _ 0 [some (.ref (sS i + 1)), some (.int (nI (a))), some (.int (nI (b))), none, none] []
  refine AW.run ok eX6_pathBetween 0 3 (show am_run 5 ((tX6_pathBetween.drop 0).take 3) 0 [some (.ref (sS i + 1)), some (.int (nI (a))), some (.int (nI (b))), none, none] [] = some (3, [some (.ref (sS i + 1)), some (.int (nI (a))), some (.int (nI (b))), none, none], [.int (nI (1) <<< (nI (a) &&& 31))]) from rfl) ?_
  refine AW.top (show nI (1) <<< (nI (a) &&& 31) = nI (2 ^ a) from i_shl1 (by omega)) ?_
  refine AW.run ok eX6_pathBetween 3 3 (show am_run 5 ((tX6_pathBetween.drop 3).take 3) 3 [some (.ref (sS i + 1)), some (.int (nI (a))), some (.int (nI (b))), none, none] [.int (nI (2 ^ a))] = some (6, [some (.ref (sS i + 1)), some (.int (nI (a))), some (.int (nI (b))), none, none], [.int (nI (1) <<< (nI (b) &&& 31)), .int (nI (2 ^ a))]) from rfl) ?_
  refine AW.top (show nI (1) <<< (nI (b) &&& 31) = nI (2 ^ b) from i_shl1 (by omega)) ?_
  refine AW.run ok eX6_pathBetween 6 1 (show am_run 5 ((tX6_pathBetween.drop 6).take 1) 6 [some (.ref (sS i + 1)), some (.int (nI (a))), some (.int (nI (b))), none, none] [.int (nI (2 ^ b)), .int (nI (2 ^ a))] = some (7, [some (.ref (sS i + 1)), some (.int (nI (a))), some (.int (nI (b))), none, none], [.int (nI (2 ^ a) ||| nI (2 ^ b))]) from rfl) ?_
  refine AW.top (show nI (2 ^ a) ||| nI (2 ^ b) = nI ((2 ^ a) ||| (2 ^ b)) from i_or _ _) ?_
  refine AW.run ok eX6_pathBetween 7 3 (show am_run 5 ((tX6_pathBetween.drop 7).take 3) 7 [some (.ref (sS i + 1)), some (.int (nI (a))), some (.int (nI (b))), none, none] [.int (nI ((2 ^ a) ||| (2 ^ b)))] = some (11, [some (.ref (sS i + 1)), some (.int (nI (a))), some (.int (nI (b))), some (.int (nI ((2 ^ a) ||| (2 ^ b)))), some (.int (nI (0)))], []) from rfl) ?_
  exact lX6_pathBetween B hfl hi hN hw hgl hgR hr ok h0 (by exact pbl ha hb) (n_pt N) 0 (by omega)
