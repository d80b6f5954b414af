/-! ===== a broadcast's packets ===== -/
def tot (C : cT) : Nat := if c_pa C = true then c_da C + 1 else c_da C
def allP (C : cT) : Nat := 2 ^ tot C - 1
def covB (C : cT) (f : Nat) : Bool := decide (0 < c_st C) && decide (c_hd C f &&& (2 ^ c_da C - 1) = 2 ^ c_da C - 1)
def popc (k : Nat) : Nat := cnt (fun j => k.testBit j) 7
def bcE (x : Int32) : Int32 := match d_J6_bitCount_0f7a4 x (fun _ _ => 0) with
  | some (.inl (some (.int y)), _) => y
  | _ => 0
theorem q_bc (x : Int32) (V : am_V) : d_J6_bitCount_0f7a4 x V = some (.inl (some (.int (bcE x))), V) := rfl
theorem bc_128 : ∀ k, k < 128 → bcE (nI k) = nI (popc k) := by decide +kernel
theorem and63 (y : Int32) : ∃ k, k < 64 ∧ y &&& nI 63 = nI k := by
  refine ⟨y.toBitVec.toNat &&& 63, Nat.lt_of_le_of_lt Nat.and_le_right (by omega), ?_⟩
  have : y = nI y.toBitVec.toNat := by
    show y = Int32.ofNat _
    rw [← Int32.toBitVec_inj]
    show y.toBitVec = BitVec.ofNat 32 _
    rw [BitVec.ofNat_toNat, BitVec.setWidth_eq]
  rw [this, i_and]
  rw [← this]
theorem bc_any (x : Int32) : ∃ k, k < 64 ∧ bcE x = nI k := and63 _
theorem nI_mulE (a b : Nat) : nI a * nI b = nI (a * b) := (Int32.ofNat_mul a b).symm
theorem i_rm {a d : Nat} (ha : a < 2147483648) (h0 : 0 < d) (hd : d < 2147483648) : am_rm (nI a) (nI d) = nI (a % d) := i_rem ha h0 hd
theorem dn512 : decide (¬ nI 512 = 0) = true := by decide
theorem dn10 : decide (¬ nI 10 = 0) = true := by decide
theorem dn9 : decide (¬ nI 9 = 0) = true := by decide
theorem nI_not (b : Nat) : nI b ^^^ -1 = nI (b ^^^ 4294967295) := by rw [m1_nI, i_xor]
theorem tb_not {b k : Nat} (hk : k < 32) : (b ^^^ 4294967295).testBit k = !b.testBit k := by
  rw [Nat.testBit_xor, show (4294967295 : Nat) = 2 ^ 32 - 1 from rfl, Nat.testBit_two_pow_sub_one]
  simp [hk]
theorem pow_le7 {t : Nat} (h : t ≤ 7) : 2 ^ t ≤ 128 := Nat.pow_le_pow_right (n := 2) (by omega) h
theorem pow_pos2 (t : Nat) : 1 ≤ 2 ^ t := Nat.one_le_two_pow
theorem full_eq {x t : Nat} (h : x < 2 ^ t) (hb : ∀ j, j < t → x.testBit j = true) : x = 2 ^ t - 1 := by
  apply Nat.eq_of_testBit_eq
  intro j
  rw [Nat.testBit_two_pow_sub_one]
  by_cases e : j < t
  · rw [hb j e]; simp [e]
  · rw [Nat.testBit_lt_two_pow (Nat.lt_of_lt_of_le h (Nat.pow_le_pow_right (by omega) (by omega)))]
    simp [e]
theorem bit_lt {x t j : Nat} (h : x < 2 ^ t) (hb : x.testBit j = true) : j < t := by
  refine Classical.byContradiction fun hn => ?_
  rw [Nat.testBit_lt_two_pow (Nat.lt_of_lt_of_le h (Nat.pow_le_pow_right (by omega) (by omega)))] at hb
  cases hb
section
variable {V : am_V} {i : Nat} {N : nT} {C : cT} {A : aT}
theorem q_total (hC : vC V i C) : d_X1_packetTotal i V = some (.inl (some (.int (nI (tot C)))), V) := by
  unfold d_X1_packetTotal tot
  simp only [rB, hC.2.2.2.1, hC.2.2.2.2.1, bI0, i_add1]
  cases c_pa C <;> rfl
theorem q_all (hC : vC V i C) (ht : tot C ≤ 7) : d_X1_allPackets i V = some (.inl (some (.int (nI (allP C)))), V) := by
  unfold d_X1_allPackets allP
  rw [q_total hC, rI_ret, i_shl1 (by omega), i_sub (pow_pos2 _)]
theorem q_covers (hC : vC V i C) {f : Nat} (hf : f < 9) (h1 : c_st C < 2147483648) (h2 : c_da C ≤ 6) : d_X1_covers i (nI f) V = some (.inl (some (.int (bI (covB C f)))), V) := by
  have p1 := pow_pos2 (c_da C)
  have p2 := pow_le7 (t := c_da C) (by omega)
  have p3 : c_hd C f &&& (2 ^ c_da C - 1) ≤ 2 ^ c_da C - 1 := Nat.and_le_right
  unfold d_X1_covers covB
  simp (disch := omega) only [rB, hC.1, hC.2.2.2.1, i_le0, rGi, iNn, hC.2.2.2.2.2.2.2 f hf, i_shl1, i_sub, i_and, i_eqE]
  by_cases e1 : c_st C = 0
  · rw [if_pos e1, nb0, rGt, e1]
    rfl
  · rw [if_neg e1]
    have e3 : 0 < c_st C := by omega
    by_cases e2 : c_hd C f &&& (2 ^ c_da C - 1) = 2 ^ c_da C - 1
    · rw [if_neg (by simp [e2]), nb1, rGt]
      simp [e3, e2, bIt]
    · rw [if_pos e2, nb0, rGt, decide_eq_false e2, Bool.and_false]
      rfl
theorem rVe {V : am_V} {f : am_V → am_R} : rV V f = f V := id rfl
/-! one packet is sent to f -/
def sdN (C : cT) : Nat := (c_sd C * 61 + 17) % 512
def okB (N : nT) (T : tT) (f : Nat) (C : cT) : Bool := decide (n_gu N (t_pu T f) - n_sh N f ≤ sdN C % 10)
def arrF (N : nT) (T : tT) (f : Nat) (S : cT × aT) : cT × aT :=
  (((S.1.1.1, S.1.1.2.1, S.1.1.2.2.1, S.1.1.2.2.2.1, S.1.1.2.2.2.2.1, S.1.1.2.2.2.2.2.1, sdN S.1), S.1.2),
   (a_se S.2 + 1, if okB N T f S.1 = true then a_lo S.2 else a_lo S.2 + 1, a_re S.2, a_sp S.2 + n_co N (t_pu T f), a_fi S.2, a_fa S.2), fun y => if y = t_pu T f then a_us S.2 (t_pu T f) + 1 else a_us S.2 y)
set_option maxHeartbeats 4000000 in
theorem s_arrives {T : tT} {f : Nat} (hN : vN V i N) (hw : wN N) (hC : vC V i C) (hA : vA V i A) (hT : rowN V 32 9 (t_pu T)) (hf : f < n_ft N) (hp : t_pu T f < n_pt N) (hs : c_sd C < 512) :
    TI (d_X10_arrives i (nI f) V) (fun x W => x = bI (okB N T f C) ∧ frS i V W ∧ vN W i N ∧ vC W i (arrF N T f (C, A)).1 ∧ vA W i (arrF N T f (C, A)).2) := by
  have w1 := hw.1
  have w2 := hw.2.1
  obtain ⟨b1, b2, b3, b4, b5, b6⟩ := hw.2.2.2.2.1 _ hp
  have n1 := vN_s (c := sS i + 3) (k := t_pu T f) (x := nI (a_us A (t_pu T f) + 1)) hN (by omega)
  have n2 := vN_s (c := sS i) (k := 3) (x := nI (a_se A + 1)) n1 (by omega)
  have n3 := vN_s (c := sS i) (k := 6) (x := nI (a_sp A + n_co N (t_pu T f))) n2 (by omega)
  have n4 := vN_s (c := sS i + 2) (k := 7) (x := nI (sdN C)) n3 (by omega)
  have c1 := vC_s (c := sS i + 3) (k := t_pu T f) (x := nI (a_us A (t_pu T f) + 1)) hC (by omega)
  have c2 := vC_s (c := sS i) (k := 3) (x := nI (a_se A + 1)) c1 (by omega)
  have c3 := vC_s (c := sS i) (k := 6) (x := nI (a_sp A + n_co N (t_pu T f))) c2 (by omega)
  have c4 := vC_sd (x := sdN C) c3
  have a1 := vA_us (x := a_us A (t_pu T f) + 1) (f := t_pu T f) hA
  have a2 := vA_se (x := a_se A + 1) a1
  have a3 := vA_sp (x := a_sp A + n_co N (t_pu T f)) a2
  have a4 := vA_s (c := sS i + 2) (k := 7) (x := nI (sdN C)) a3 (by omega)
  have f4 : frS i V _ := (((frS.s (V := V) (c := sS i + 3) (k := t_pu T f) (x := nI (a_us A (t_pu T f) + 1)) (by omega)).t (frS.s (c := sS i) (k := 3) (x := nI (a_se A + 1)) (by omega))).t (frS.s (c := sS i) (k := 6) (x := nI (a_sp A + n_co N (t_pu T f))) (by omega))).t (frS.s (c := sS i + 2) (k := 7) (x := nI (sdN C)) (by omega))
  unfold d_X10_arrives
  simp (config := {decide := true}) (disch := omega) only [hT f (show f < 9 by omega), rGi, iNn, rVe, sg_d, hA.2.2.2.2.2.2 (t_pu T f) (show t_pu T f < 16 by omega), hA.1, hA.2.2.2.1, hN.2.2.2.2.2.2.1 (t_pu T f) (show t_pu T f < 16 by omega), hC.2.2.2.2.2.2.1, sg_e, sg_n, i_add1, nI_add, nI_mulE, i_rm, dn512, dn10, rGt]
  rw [show (c_sd C * 61 + 17) % 512 = sdN C from rfl]
  rw [q_dangerOf n4 hw hp hf]
  simp (disch := omega) only [rI_ret, i_leE]
  by_cases h : n_gu N (t_pu T f) - n_sh N f ≤ sdN C % 10
  · rw [if_pos h, nb1, rGt]
    have ho : okB N T f C = true := decide_eq_true h
    refine TI.ret ⟨by rw [ho]; rfl, f4, n4, c4, ?_⟩
    unfold arrF
    rw [if_pos ho]
    exact a4
  · rw [if_neg h, nb0, rGt]
    have ho : okB N T f C = false := decide_eq_false h
    have n5 := vN_s (c := sS i) (k := 4) (x := nI (a_lo A + 1)) n4 (by omega)
    have c5 := vC_s (c := sS i) (k := 4) (x := nI (a_lo A + 1)) c4 (by omega)
    have a5 := vA_lo (x := a_lo A + 1) a4
    have f5 := f4.t (frS.s (c := sS i) (k := 4) (x := nI (a_lo A + 1)) (by omega))
    simp (config := {decide := true}) (disch := omega) only [rVe, sg_d, sg_n, hA.2.1, i_add1]
    refine TI.ret ⟨by rw [ho]; rfl, f5, n5, c5, ?_⟩
    unfold arrF
    rw [if_neg (by rw [ho]; decide)]
    exact a5
end
