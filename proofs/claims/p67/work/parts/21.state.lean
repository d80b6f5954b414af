def d_X8_fieldIsAhead (i : Nat) (x1 : Int32) (x2 : Int32) (V : am_V) : am_R := rG (am_in x1 9) (rI (d_J6_bitCount_0f7a4 (V (sS i + 9) (iN x1)) V) (fun (y2 : Int32) (V1 : am_V) => rG (am_in x2 9) (rI (d_J6_bitCount_0f7a4 (V1 (sS i + 9) (iN x2)) V1) (fun (y4 : Int32) (V3 : am_V) => (if y2 = y4 then rG (am_in x1 9) (rG (am_in x2 9) ((if (V3 (sS i + 4) (iN x1)) = (V3 (sS i + 4) (iN x2)) then rB (fun (bs0_103 : Int32) (V_103 : am_V) => rG (am_nb bs0_103) (some (.inl (some (.int (bs0_103))), V_103))) (fun (j103 : Int32 → am_V → am_R) => (if x2 ≤ x1 then j103 (nI 0) V3 else j103 (nI 1) V3)) else rG (am_in x1 9) (rG (am_in x2 9) (rB (fun (bs0_92 : Int32) (V_92 : am_V) => rG (am_nb bs0_92) (some (.inl (some (.int (bs0_92))), V_92))) (fun (j92 : Int32 → am_V → am_R) => (if (V3 (sS i + 4) (iN x1)) ≤ (V3 (sS i + 4) (iN x2)) then j92 (nI 0) V3 else j92 (nI 1) V3))))))) else rB (fun (bs0_44 : Int32) (V_44 : am_V) => rG (am_nb bs0_44) (some (.inl (some (.int (bs0_44))), V_44))) (fun (j44 : Int32 → am_V → am_R) => (if y2 ≤ y4 then j44 (nI 0) V3 else j44 (nI 1) V3)))))))
set_option maxRecDepth 100000 in
set_option maxHeartbeats 4000000 in
theorem kX8_fieldIsAhead {U : am_U} {l : Launch} (B : am_base xx U) (hfl : l.stackTraces = false) {V : am_V} {i : Nat} {x1 : Int32} {x2 : Int32} (hi : i < 12) {r : (Option Value ⊕ String) × am_V} (h : d_X8_fieldIsAhead i x1 x2 V = some r) : am_Ct xx U l yX8_fieldIsAhead cX8_fieldIsAhead 5 (some .boolean) (rk 2 0 60) [.ref (sS i), .int (x1), .int (x2)] V (am_is r.1 r.2) := by
  refine am_Ct.of B hfl (by decide) (Nat.le_of_ble_eq_true rfl) ?_
  intro G hgl hgR hr ok h0 hex
  have K : aK U l G RX8 cX8_fieldIsAhead 5 (some .boolean) 2 0 60 := ⟨hgl, hgR, hr, ok, h0⟩
  unfold d_X8_fieldIsAhead at h
  show AE U G 5 2 0 60 r 0 V 0 [some (.ref (sS i)), some (.int (x1)), some (.int (x2)), none, none] []
  refine AE.run K eX8_fieldIsAhead 0 1 (show am_run 5 ((tX8_fieldIsAhead.drop 0).take 1) 0 [some (.ref (sS i)), some (.int (x1)), some (.int (x2)), none, none] [] = some (1, [some (.ref (sS i)), some (.int (x1)), some (.int (x2)), none, none], [.ref (sS i)]) from rfl) ?_
  refine AE.getR K gf_X8_21 (sh_S0 hi) rfl (am_at eX8_fieldIsAhead 1 rfl) ?_
  refine AE.getR K gf_X8_55 (sh_S2 hi) rfl (am_at eX8_fieldIsAhead 2 rfl) ?_
  refine AE.run K eX8_fieldIsAhead 3 1 (show am_run 5 ((tX8_fieldIsAhead.drop 3).take 1) 7 [some (.ref (sS i)), some (.int (x1)), some (.int (x2)), none, none] [.ref (sS i + 9)] = some (8, [some (.ref (sS i)), some (.int (x1)), some (.int (x2)), none, none], [.int (x1), .ref (sS i + 9)]) from rfl) ?_
  refine AE.iald K (sh_S9 hi) (am_at eX8_fieldIsAhead 4 rfl) h (fun h => ?_)
  refine AE.cs (f' := 0) (c' := 0) (lo' := 0) (st := []) (As := [.int (V (sS i + 9) (iN x1))]) (m := d_J6_bitCount_0f7a4 (V (sS i + 9) (iN x1)) V) K hex (fun q hq => kJ6_bitCount_0f7a4 B hfl hq) cs_X8_58 rfl rfl (Nat.le_of_ble_eq_true rfl) ⟨Nat.le_of_ble_eq_true rfl, Nat.le_of_ble_eq_true rfl⟩ (by omega) (am_at eX8_fieldIsAhead 5 rfl) h (rI_some h) (bkI (fun y2 V1 h => ?_))
  refine AE.run K eX8_fieldIsAhead 6 2 (show am_run 5 ((tX8_fieldIsAhead.drop 6).take 2) 12 [some (.ref (sS i)), some (.int (x1)), some (.int (x2)), none, none] [.int (y2)] = some (14, [some (.ref (sS i)), some (.int (x1)), some (.int (x2)), some (.int (y2)), none], [.ref (sS i)]) from rfl) ?_
  refine AE.getR K gf_X8_21 (sh_S0 hi) rfl (am_at eX8_fieldIsAhead 8 rfl) ?_
  refine AE.getR K gf_X8_55 (sh_S2 hi) rfl (am_at eX8_fieldIsAhead 9 rfl) ?_
  refine AE.run K eX8_fieldIsAhead 10 1 (show am_run 5 ((tX8_fieldIsAhead.drop 10).take 1) 20 [some (.ref (sS i)), some (.int (x1)), some (.int (x2)), some (.int (y2)), none] [.ref (sS i + 9)] = some (21, [some (.ref (sS i)), some (.int (x1)), some (.int (x2)), some (.int (y2)), none], [.int (x2), .ref (sS i + 9)]) from rfl) ?_
  refine AE.iald K (sh_S9 hi) (am_at eX8_fieldIsAhead 11 rfl) h (fun h => ?_)
  refine AE.cs (f' := 0) (c' := 0) (lo' := 0) (st := []) (As := [.int (V1 (sS i + 9) (iN x2))]) (m := d_J6_bitCount_0f7a4 (V1 (sS i + 9) (iN x2)) V1) K hex (fun q hq => kJ6_bitCount_0f7a4 B hfl hq) cs_X8_58 rfl rfl (Nat.le_of_ble_eq_true rfl) ⟨Nat.le_of_ble_eq_true rfl, Nat.le_of_ble_eq_true rfl⟩ (by omega) (am_at eX8_fieldIsAhead 12 rfl) h (rI_some h) (bkI (fun y4 V3 h => ?_))
  refine AE.run K eX8_fieldIsAhead 13 3 (show am_run 5 ((tX8_fieldIsAhead.drop 13).take 3) 25 [some (.ref (sS i)), some (.int (x1)), some (.int (x2)), some (.int (y2)), none] [.int (y4)] = some (30, [some (.ref (sS i)), some (.int (x1)), some (.int (x2)), some (.int (y2)), some (.int (y4))], [.int (y4), .int (y2)]) from rfl) ?_
  refine AE.ic K 45 (am_at eX8_fieldIsAhead 16 rfl) (by decide) rfl h (fun h => ?_) (fun h => ?_)
  · refine AE.run K eX8_fieldIsAhead 24 1 (show am_run 5 ((tX8_fieldIsAhead.drop 24).take 1) 45 [some (.ref (sS i)), some (.int (x1)), some (.int (x2)), some (.int (y2)), some (.int (y4))] [] = some (46, [some (.ref (sS i)), some (.int (x1)), some (.int (x2)), some (.int (y2)), some (.int (y4))], [.ref (sS i)]) from rfl) ?_
    refine AE.getR K gf_X8_12 (sh_S0 hi) rfl (am_at eX8_fieldIsAhead 25 rfl) ?_
    refine AE.getR K gf_X8_64 (sh_S1 hi) rfl (am_at eX8_fieldIsAhead 26 rfl) ?_
    refine AE.run K eX8_fieldIsAhead 27 1 (show am_run 5 ((tX8_fieldIsAhead.drop 27).take 1) 52 [some (.ref (sS i)), some (.int (x1)), some (.int (x2)), some (.int (y2)), some (.int (y4))] [.ref (sS i + 4)] = some (53, [some (.ref (sS i)), some (.int (x1)), some (.int (x2)), some (.int (y2)), some (.int (y4))], [.int (x1), .ref (sS i + 4)]) from rfl) ?_
    refine AE.iald K (sh_S4 hi) (am_at eX8_fieldIsAhead 28 rfl) h (fun h => ?_)
    refine AE.run K eX8_fieldIsAhead 29 1 (show am_run 5 ((tX8_fieldIsAhead.drop 29).take 1) 54 [some (.ref (sS i)), some (.int (x1)), some (.int (x2)), some (.int (y2)), some (.int (y4))] [.int (V3 (sS i + 4) (iN x1))] = some (55, [some (.ref (sS i)), some (.int (x1)), some (.int (x2)), some (.int (y2)), some (.int (y4))], [.ref (sS i), .int (V3 (sS i + 4) (iN x1))]) from rfl) ?_
    refine AE.getR K gf_X8_12 (sh_S0 hi) rfl (am_at eX8_fieldIsAhead 30 rfl) ?_
    refine AE.getR K gf_X8_64 (sh_S1 hi) rfl (am_at eX8_fieldIsAhead 31 rfl) ?_
    refine AE.run K eX8_fieldIsAhead 32 1 (show am_run 5 ((tX8_fieldIsAhead.drop 32).take 1) 61 [some (.ref (sS i)), some (.int (x1)), some (.int (x2)), some (.int (y2)), some (.int (y4))] [.ref (sS i + 4), .int (V3 (sS i + 4) (iN x1))] = some (62, [some (.ref (sS i)), some (.int (x1)), some (.int (x2)), some (.int (y2)), some (.int (y4))], [.int (x2), .ref (sS i + 4), .int (V3 (sS i + 4) (iN x1))]) from rfl) ?_
    refine AE.iald K (sh_S4 hi) (am_at eX8_fieldIsAhead 33 rfl) h (fun h => ?_)
    refine AE.ic K 93 (am_at eX8_fieldIsAhead 34 rfl) (by decide) rfl h (fun h => ?_) (fun h => ?_)
    · refine AE.run K eX8_fieldIsAhead 50 2 (show am_run 5 ((tX8_fieldIsAhead.drop 50).take 2) 93 [some (.ref (sS i)), some (.int (x1)), some (.int (x2)), some (.int (y2)), some (.int (y4))] [] = some (95, [some (.ref (sS i)), some (.int (x1)), some (.int (x2)), some (.int (y2)), some (.int (y4))], [.int (x2), .int (x1)]) from rfl) ?_
      refine rB_of (P := fun (j : Int32 → am_V → am_R) => ∀ (bs0_103 : Int32) (V_103 : am_V), j bs0_103 V_103 = some r → AE U G 5 2 0 60 r 0 V_103 103 [none, none, none, none, none] [.int (bs0_103)]) h (fun bs0_103 V_103 h => ?_) (fun j103 hj103 h => ?_)
      · exact AE.zret K (by omega) (am_at eX8_fieldIsAhead 56 rfl) h
      refine AE.ic K 102 (am_at eX8_fieldIsAhead 52 rfl) (by decide) rfl h (fun h => ?_) (fun h => ?_)
      · refine AE.run K eX8_fieldIsAhead 55 1 (show am_run 5 ((tX8_fieldIsAhead.drop 55).take 1) 102 [some (.ref (sS i)), some (.int (x1)), some (.int (x2)), some (.int (y2)), some (.int (y4))] [] = some (103, [some (.ref (sS i)), some (.int (x1)), some (.int (x2)), some (.int (y2)), some (.int (y4))], [.int (nI 0)]) from rfl) ?_
        exact AE.sub (L' := [none, none, none, none, none]) trivial (hj103 (nI 0) V3 h)
      · refine AE.run K eX8_fieldIsAhead 53 2 (show am_run 5 ((tX8_fieldIsAhead.drop 53).take 2) 98 [some (.ref (sS i)), some (.int (x1)), some (.int (x2)), some (.int (y2)), some (.int (y4))] [] = some (103, [some (.ref (sS i)), some (.int (x1)), some (.int (x2)), some (.int (y2)), some (.int (y4))], [.int (nI 1)]) from rfl) ?_
        exact AE.sub (L' := [none, none, none, none, none]) trivial (hj103 (nI 1) V3 h)
    · refine AE.run K eX8_fieldIsAhead 35 1 (show am_run 5 ((tX8_fieldIsAhead.drop 35).take 1) 66 [some (.ref (sS i)), some (.int (x1)), some (.int (x2)), some (.int (y2)), some (.int (y4))] [] = some (67, [some (.ref (sS i)), some (.int (x1)), some (.int (x2)), some (.int (y2)), some (.int (y4))], [.ref (sS i)]) from rfl) ?_
      refine AE.getR K gf_X8_12 (sh_S0 hi) rfl (am_at eX8_fieldIsAhead 36 rfl) ?_
      refine AE.getR K gf_X8_64 (sh_S1 hi) rfl (am_at eX8_fieldIsAhead 37 rfl) ?_
      refine AE.run K eX8_fieldIsAhead 38 1 (show am_run 5 ((tX8_fieldIsAhead.drop 38).take 1) 73 [some (.ref (sS i)), some (.int (x1)), some (.int (x2)), some (.int (y2)), some (.int (y4))] [.ref (sS i + 4)] = some (74, [some (.ref (sS i)), some (.int (x1)), some (.int (x2)), some (.int (y2)), some (.int (y4))], [.int (x1), .ref (sS i + 4)]) from rfl) ?_
      refine AE.iald K (sh_S4 hi) (am_at eX8_fieldIsAhead 39 rfl) h (fun h => ?_)
      refine AE.run K eX8_fieldIsAhead 40 1 (show am_run 5 ((tX8_fieldIsAhead.drop 40).take 1) 75 [some (.ref (sS i)), some (.int (x1)), some (.int (x2)), some (.int (y2)), some (.int (y4))] [.int (V3 (sS i + 4) (iN x1))] = some (76, [some (.ref (sS i)), some (.int (x1)), some (.int (x2)), some (.int (y2)), some (.int (y4))], [.ref (sS i), .int (V3 (sS i + 4) (iN x1))]) from rfl) ?_
      refine AE.getR K gf_X8_12 (sh_S0 hi) rfl (am_at eX8_fieldIsAhead 41 rfl) ?_
      refine AE.getR K gf_X8_64 (sh_S1 hi) rfl (am_at eX8_fieldIsAhead 42 rfl) ?_
      refine AE.run K eX8_fieldIsAhead 43 1 (show am_run 5 ((tX8_fieldIsAhead.drop 43).take 1) 82 [some (.ref (sS i)), some (.int (x1)), some (.int (x2)), some (.int (y2)), some (.int (y4))] [.ref (sS i + 4), .int (V3 (sS i + 4) (iN x1))] = some (83, [some (.ref (sS i)), some (.int (x1)), some (.int (x2)), some (.int (y2)), some (.int (y4))], [.int (x2), .ref (sS i + 4), .int (V3 (sS i + 4) (iN x1))]) from rfl) ?_
      refine AE.iald K (sh_S4 hi) (am_at eX8_fieldIsAhead 44 rfl) h (fun h => ?_)
      refine rB_of (P := fun (j : Int32 → am_V → am_R) => ∀ (bs0_92 : Int32) (V_92 : am_V), j bs0_92 V_92 = some r → AE U G 5 2 0 60 r 0 V_92 92 [none, none, none, none, none] [.int (bs0_92)]) h (fun bs0_92 V_92 h => ?_) (fun j92 hj92 h => ?_)
      · exact AE.zret K (by omega) (am_at eX8_fieldIsAhead 49 rfl) h
      refine AE.ic K 91 (am_at eX8_fieldIsAhead 45 rfl) (by decide) rfl h (fun h => ?_) (fun h => ?_)
      · refine AE.run K eX8_fieldIsAhead 48 1 (show am_run 5 ((tX8_fieldIsAhead.drop 48).take 1) 91 [some (.ref (sS i)), some (.int (x1)), some (.int (x2)), some (.int (y2)), some (.int (y4))] [] = some (92, [some (.ref (sS i)), some (.int (x1)), some (.int (x2)), some (.int (y2)), some (.int (y4))], [.int (nI 0)]) from rfl) ?_
        exact AE.sub (L' := [none, none, none, none, none]) trivial (hj92 (nI 0) V3 h)
      · refine AE.run K eX8_fieldIsAhead 46 2 (show am_run 5 ((tX8_fieldIsAhead.drop 46).take 2) 87 [some (.ref (sS i)), some (.int (x1)), some (.int (x2)), some (.int (y2)), some (.int (y4))] [] = some (92, [some (.ref (sS i)), some (.int (x1)), some (.int (x2)), some (.int (y2)), some (.int (y4))], [.int (nI 1)]) from rfl) ?_
        exact AE.sub (L' := [none, none, none, none, none]) trivial (hj92 (nI 1) V3 h)
  · refine AE.run K eX8_fieldIsAhead 17 2 (show am_run 5 ((tX8_fieldIsAhead.drop 17).take 2) 33 [some (.ref (sS i)), some (.int (x1)), some (.int (x2)), some (.int (y2)), some (.int (y4))] [] = some (36, [some (.ref (sS i)), some (.int (x1)), some (.int (x2)), some (.int (y2)), some (.int (y4))], [.int (y4), .int (y2)]) from rfl) ?_
    refine rB_of (P := fun (j : Int32 → am_V → am_R) => ∀ (bs0_44 : Int32) (V_44 : am_V), j bs0_44 V_44 = some r → AE U G 5 2 0 60 r 0 V_44 44 [none, none, none, none, none] [.int (bs0_44)]) h (fun bs0_44 V_44 h => ?_) (fun j44 hj44 h => ?_)
    · exact AE.zret K (by omega) (am_at eX8_fieldIsAhead 23 rfl) h
    refine AE.ic K 43 (am_at eX8_fieldIsAhead 19 rfl) (by decide) rfl h (fun h => ?_) (fun h => ?_)
    · refine AE.run K eX8_fieldIsAhead 22 1 (show am_run 5 ((tX8_fieldIsAhead.drop 22).take 1) 43 [some (.ref (sS i)), some (.int (x1)), some (.int (x2)), some (.int (y2)), some (.int (y4))] [] = some (44, [some (.ref (sS i)), some (.int (x1)), some (.int (x2)), some (.int (y2)), some (.int (y4))], [.int (nI 0)]) from rfl) ?_
      exact AE.sub (L' := [none, none, none, none, none]) trivial (hj44 (nI 0) V3 h)
    · refine AE.run K eX8_fieldIsAhead 20 2 (show am_run 5 ((tX8_fieldIsAhead.drop 20).take 2) 39 [some (.ref (sS i)), some (.int (x1)), some (.int (x2)), some (.int (y2)), some (.int (y4))] [] = some (44, [some (.ref (sS i)), some (.int (x1)), some (.int (x2)), some (.int (y2)), some (.int (y4))], [.int (nI 1)]) from rfl) ?_
      exact AE.sub (L' := [none, none, none, none, none]) trivial (hj44 (nI 1) V3 h)
def bd_X8_fieldsAheadOf_4 (i : Nat) (x1 : Int32) (kx kr : Int32 → Int32 → am_V → am_R) (a2_4 : Int32) (a3_4 : Int32) (V_4 : am_V) : am_R := (if (V_4 (sS i + 1) 6) ≤ a3_4 then kx a2_4 a3_4 V_4 else rB (fun (b2_32 : Int32) (V_32 : am_V) => kr b2_32 (a3_4 + nI 1) V_32) (fun (j32 : Int32 → am_V → am_R) => (if a3_4 = x1 then j32 a2_4 V_4 else rI (d_X8_fieldIsAhead i a3_4 x1 V_4) (fun (y2 : Int32) (V1 : am_V) => (if y2 = 0 then j32 a2_4 V1 else j32 (a2_4 + nI 1) V1)))))
def lp_X8_fieldsAheadOf_4 (i : Nat) (x1 : Int32) (kx : Int32 → Int32 → am_V → am_R) : Nat → Int32 → Int32 → am_V → am_R
  | 0, _, _, _ => none
  | f9 + 1, a2_4, a3_4, V_4 => bd_X8_fieldsAheadOf_4 i x1 kx (lp_X8_fieldsAheadOf_4 i x1 kx f9) a2_4 a3_4 V_4
def d_X8_fieldsAheadOf (i : Nat) (x1 : Int32) (V : am_V) : am_R := lp_X8_fieldsAheadOf_4 i x1 (fun (a2_4 : Int32) (a3_4 : Int32) (V_4x : am_V) => some (.inl (some (.int (a2_4))), V_4x)) 1000 (nI 0) (nI 0) V
set_option maxRecDepth 100000 in
set_option maxHeartbeats 4000000 in
theorem bk_X8_fieldsAheadOf_4 {U : am_U} {l : Launch} (B : am_base xx U) (hfl : l.stackTraces = false) {G : am_G} (K : aK U l G RX8 cX8_fieldsAheadOf 4 (some .int) 3 0 84) (hex : am_nx G) {r : (Option Value ⊕ String) × am_V} {i : Nat} {x1 : Int32} (hi : i < 12) {kc : Nat} (hkc : kc ≤ 0) {kx kr : Int32 → Int32 → am_V → am_R} (hx : ∀ (a2_4 : Int32) (a3_4 : Int32) (Vq : am_V), kx a2_4 a3_4 Vq = some r → AE U G 4 3 0 84 r kc Vq 38 [none, none, some (.int (a2_4)), none] []) (hr : ∀ (a2_4 : Int32) (a3_4 : Int32) (Vq : am_V), kr a2_4 a3_4 Vq = some r → AE U G 4 3 0 84 r kc Vq 4 [some (.ref (sS i)), some (.int (x1)), some (.int (a2_4)), some (.int (a3_4))] []) (a2_4 : Int32) (a3_4 : Int32) (V_4 : am_V) (h : bd_X8_fieldsAheadOf_4 i x1 kx kr a2_4 a3_4 V_4 = some r) : AE U G 4 3 0 84 r kc V_4 4 [some (.ref (sS i)), some (.int (x1)), some (.int (a2_4)), some (.int (a3_4))] [] := by
  unfold bd_X8_fieldsAheadOf_4 at h
  refine AE.run K eX8_fieldsAheadOf 4 2 (show am_run 4 ((tX8_fieldsAheadOf.drop 4).take 2) 4 [some (.ref (sS i)), some (.int (x1)), some (.int (a2_4)), some (.int (a3_4))] [] = some (6, [some (.ref (sS i)), some (.int (x1)), some (.int (a2_4)), some (.int (a3_4))], [.ref (sS i), .int (a3_4)]) from rfl) ?_
  refine AE.getR K gf_X8_12 (sh_S0 hi) rfl (am_at eX8_fieldsAheadOf 6 rfl) ?_
  refine AE.getI K gf_X8_48 (sh_S1 hi) rfl (am_at eX8_fieldsAheadOf 7 rfl) ?_
  refine AE.ic K 38 (am_at eX8_fieldsAheadOf 8 rfl) (by decide) rfl h (fun h => ?_) (fun h => ?_)
  · exact AE.sub (L' := [none, none, some (.int (a2_4)), none]) (And.intro rfl trivial) (hx a2_4 a3_4 V_4 h)
  · refine AE.run K eX8_fieldsAheadOf 9 2 (show am_run 4 ((tX8_fieldsAheadOf.drop 9).take 2) 15 [some (.ref (sS i)), some (.int (x1)), some (.int (a2_4)), some (.int (a3_4))] [] = some (17, [some (.ref (sS i)), some (.int (x1)), some (.int (a2_4)), some (.int (a3_4))], [.int (x1), .int (a3_4)]) from rfl) ?_
    refine rB_of (P := fun (j : Int32 → am_V → am_R) => ∀ (b2_32 : Int32) (V_32 : am_V), j b2_32 V_32 = some r → AE U G 4 3 0 84 r (kc) V_32 32 [some (.ref (sS i)), some (.int (x1)), some (.int (b2_32)), some (.int (a3_4))] []) h (fun b2_32 V_32 h => ?_) (fun j32 hj32 h => ?_)
    · refine AE.run K eX8_fieldsAheadOf 18 2 (show am_run 4 ((tX8_fieldsAheadOf.drop 18).take 2) 32 [some (.ref (sS i)), some (.int (x1)), some (.int (b2_32)), some (.int (a3_4))] [] = some (4, [some (.ref (sS i)), some (.int (x1)), some (.int (b2_32)), some (.int (a3_4 + nI 1))], []) from rfl) ?_
      exact AE.sub (L' := [some (.ref (sS i)), some (.int (x1)), some (.int (b2_32)), some (.int (a3_4 + nI 1))]) (And.intro rfl (And.intro rfl (And.intro rfl (And.intro rfl trivial)))) (hr b2_32 (a3_4 + nI 1) V_32 h)
    refine AE.ic K 32 (am_at eX8_fieldsAheadOf 11 rfl) (by decide) rfl h (fun h => ?_) (fun h => ?_)
    · exact AE.sub (L' := [some (.ref (sS i)), some (.int (x1)), some (.int (a2_4)), some (.int (a3_4))]) (And.intro rfl (And.intro rfl (And.intro rfl (And.intro rfl trivial)))) (hj32 a2_4 V_4 h)
    · refine AE.run K eX8_fieldsAheadOf 12 3 (show am_run 4 ((tX8_fieldsAheadOf.drop 12).take 3) 20 [some (.ref (sS i)), some (.int (x1)), some (.int (a2_4)), some (.int (a3_4))] [] = some (23, [some (.ref (sS i)), some (.int (x1)), some (.int (a2_4)), some (.int (a3_4))], [.int (x1), .int (a3_4), .ref (sS i)]) from rfl) ?_
      refine AE.cv (f' := 2) (c' := 0) (lo' := 60) (st := []) (As := [.int (a3_4), .int (x1)]) (m := d_X8_fieldIsAhead i a3_4 x1 V_4) K hex (fun q hq => kX8_fieldIsAhead B hfl (i := i) hi hq) cv_X8_51 (sh_S0 hi) (T := TX8) (N := 9) rfl rfl rfl (Nat.le_of_ble_eq_true rfl) ⟨Nat.le_of_ble_eq_true rfl, Nat.le_of_ble_eq_true rfl⟩ (by omega) (am_at eX8_fieldsAheadOf 15 rfl) h (rI_some h) (bkI (fun y2 V1 h => ?_))
      refine AE.if0 K 32 (am_at eX8_fieldsAheadOf 16 rfl) (by decide) rfl h (fun h => ?_) (fun h => ?_)
      · exact AE.sub (L' := [some (.ref (sS i)), some (.int (x1)), some (.int (a2_4)), some (.int (a3_4))]) (And.intro rfl (And.intro rfl (And.intro rfl (And.intro rfl trivial)))) (hj32 a2_4 V1 h)
      · refine AE.run K eX8_fieldsAheadOf 17 1 (show am_run 4 ((tX8_fieldsAheadOf.drop 17).take 1) 29 [some (.ref (sS i)), some (.int (x1)), some (.int (a2_4)), some (.int (a3_4))] [] = some (32, [some (.ref (sS i)), some (.int (x1)), some (.int (a2_4 + nI 1)), some (.int (a3_4))], []) from rfl) ?_
        exact AE.sub (L' := [some (.ref (sS i)), some (.int (x1)), some (.int (a2_4 + nI 1)), some (.int (a3_4))]) (And.intro rfl (And.intro rfl (And.intro rfl (And.intro rfl trivial)))) (hj32 (a2_4 + nI 1) V1 h)
theorem lk_X8_fieldsAheadOf_4 {U : am_U} {l : Launch} (B : am_base xx U) (hfl : l.stackTraces = false) {G : am_G} (K : aK U l G RX8 cX8_fieldsAheadOf 4 (some .int) 3 0 84) (hex : am_nx G) {r : (Option Value ⊕ String) × am_V} {i : Nat} {x1 : Int32} (hi : i < 12) {kc : Nat} (hkc : kc ≤ 0) {kx : Int32 → Int32 → am_V → am_R} (hx : ∀ (a2_4 : Int32) (a3_4 : Int32) (Vq : am_V), kx a2_4 a3_4 Vq = some r → AE U G 4 3 0 84 r kc Vq 38 [none, none, some (.int (a2_4)), none] []) : ∀ (f9 : Nat) (a2_4 : Int32) (a3_4 : Int32) (Vq : am_V), lp_X8_fieldsAheadOf_4 i x1 kx f9 a2_4 a3_4 Vq = some r → AE U G 4 3 0 84 r kc Vq 4 [some (.ref (sS i)), some (.int (x1)), some (.int (a2_4)), some (.int (a3_4))] [] := by
  intro f9
  induction f9 with
  | zero =>
    intro a2_4 a3_4 Vq h
    cases h
  | succ f9 ih =>
    intro a2_4 a3_4 Vq h
    exact bk_X8_fieldsAheadOf_4 B hfl K hex hi hkc hx ih a2_4 a3_4 Vq h
set_option maxRecDepth 100000 in
set_option maxHeartbeats 4000000 in
theorem kX8_fieldsAheadOf {U : am_U} {l : Launch} (B : am_base xx U) (hfl : l.stackTraces = false) {V : am_V} {i : Nat} {x1 : Int32} (hi : i < 12) {r : (Option Value ⊕ String) × am_V} (h : d_X8_fieldsAheadOf i x1 V = some r) : am_Ct xx U l yX8_fieldsAheadOf cX8_fieldsAheadOf 4 (some .int) (rk 3 0 84) [.ref (sS i), .int (x1)] V (am_is r.1 r.2) := by
  refine am_Ct.of B hfl (by decide) (Nat.le_of_ble_eq_true rfl) ?_
  intro G hgl hgR hr ok h0 hex
  have K : aK U l G RX8 cX8_fieldsAheadOf 4 (some .int) 3 0 84 := ⟨hgl, hgR, hr, ok, h0⟩
  unfold d_X8_fieldsAheadOf at h
  show AE U G 4 3 0 84 r 0 V 0 [some (.ref (sS i)), some (.int (x1)), none, none] []
  refine AE.run K eX8_fieldsAheadOf 0 4 (show am_run 4 ((tX8_fieldsAheadOf.drop 0).take 4) 0 [some (.ref (sS i)), some (.int (x1)), none, none] [] = some (4, [some (.ref (sS i)), some (.int (x1)), some (.int (nI 0)), some (.int (nI 0))], []) from rfl) ?_
  refine AE.sub (L' := [some (.ref (sS i)), some (.int (x1)), some (.int (nI 0)), some (.int (nI 0))]) (And.intro rfl (And.intro rfl (And.intro rfl (And.intro rfl trivial)))) ?_
  refine lk_X8_fieldsAheadOf_4 B hfl K hex hi (by omega) ?_ 1000 (nI 0) (nI 0) V h
  intro a2_4 a3_4 V_4x h
  refine AE.run K eX8_fieldsAheadOf 20 1 (show am_run 4 ((tX8_fieldsAheadOf.drop 20).take 1) 38 [none, none, some (.int (a2_4)), none] [] = some (39, [none, none, some (.int (a2_4)), none], [.int (a2_4)]) from rfl) ?_
  exact AE.iret K (by omega) (am_at eX8_fieldsAheadOf 21 rfl) h
def d_X8_pathIsAhead (i : Nat) (x1 : Int32) (x2 : Int32) (V : am_V) : am_R := rG (am_in x1 16) (rG (am_in x2 16) ((if (V (sS i + 3) (iN x1)) = (V (sS i + 3) (iN x2)) then rG (am_in x1 16) (rG (am_in x2 16) ((if (V (sS i + 7) (iN x1)) = (V (sS i + 7) (iN x2)) then rB (fun (bs0_94 : Int32) (V_94 : am_V) => rG (am_nb bs0_94) (some (.inl (some (.int (bs0_94))), V_94))) (fun (j94 : Int32 → am_V → am_R) => (if x2 ≤ x1 then j94 (nI 0) V else j94 (nI 1) V)) else rG (am_in x1 16) (rG (am_in x2 16) (rB (fun (bs0_83 : Int32) (V_83 : am_V) => rG (am_nb bs0_83) (some (.inl (some (.int (bs0_83))), V_83))) (fun (j83 : Int32 → am_V → am_R) => (if (V (sS i + 7) (iN x2)) ≤ (V (sS i + 7) (iN x1)) then j83 (nI 0) V else j83 (nI 1) V))))))) else rG (am_in x1 16) (rG (am_in x2 16) (rB (fun (bs0_35 : Int32) (V_35 : am_V) => rG (am_nb bs0_35) (some (.inl (some (.int (bs0_35))), V_35))) (fun (j35 : Int32 → am_V → am_R) => (if (V (sS i + 3) (iN x1)) ≤ (V (sS i + 3) (iN x2)) then j35 (nI 0) V else j35 (nI 1) V)))))))
set_option maxRecDepth 100000 in
set_option maxHeartbeats 4000000 in
theorem kX8_pathIsAhead {U : am_U} {l : Launch} (B : am_base xx U) (hfl : l.stackTraces = false) {V : am_V} {i : Nat} {x1 : Int32} {x2 : Int32} (hi : i < 12) {r : (Option Value ⊕ String) × am_V} (h : d_X8_pathIsAhead i x1 x2 V = some r) : am_Ct xx U l yX8_pathIsAhead cX8_pathIsAhead 3 (some .boolean) (rk 0 0 0) [.ref (sS i), .int (x1), .int (x2)] V (am_is r.1 r.2) := by
  refine am_Ct.of B hfl (by decide) (Nat.le_of_ble_eq_true rfl) ?_
  intro G hgl hgR hr ok h0 hex
  have K : aK U l G RX8 cX8_pathIsAhead 3 (some .boolean) 0 0 0 := ⟨hgl, hgR, hr, ok, h0⟩
  unfold d_X8_pathIsAhead at h
  show AE U G 3 0 0 0 r 0 V 0 [some (.ref (sS i)), some (.int (x1)), some (.int (x2))] []
  refine AE.run K eX8_pathIsAhead 0 1 (show am_run 3 ((tX8_pathIsAhead.drop 0).take 1) 0 [some (.ref (sS i)), some (.int (x1)), some (.int (x2))] [] = some (1, [some (.ref (sS i)), some (.int (x1)), some (.int (x2))], [.ref (sS i)]) from rfl) ?_
  refine AE.getR K gf_X8_25 (sh_S0 hi) rfl (am_at eX8_pathIsAhead 1 rfl) ?_
  refine AE.run K eX8_pathIsAhead 2 1 (show am_run 3 ((tX8_pathIsAhead.drop 2).take 1) 4 [some (.ref (sS i)), some (.int (x1)), some (.int (x2))] [.ref (sS i + 3)] = some (5, [some (.ref (sS i)), some (.int (x1)), some (.int (x2))], [.int (x1), .ref (sS i + 3)]) from rfl) ?_
  refine AE.iald K (sh_S3 hi) (am_at eX8_pathIsAhead 3 rfl) h (fun h => ?_)
  refine AE.run K eX8_pathIsAhead 4 1 (show am_run 3 ((tX8_pathIsAhead.drop 4).take 1) 6 [some (.ref (sS i)), some (.int (x1)), some (.int (x2))] [.int (V (sS i + 3) (iN x1))] = some (7, [some (.ref (sS i)), some (.int (x1)), some (.int (x2))], [.ref (sS i), .int (V (sS i + 3) (iN x1))]) from rfl) ?_
  refine AE.getR K gf_X8_25 (sh_S0 hi) rfl (am_at eX8_pathIsAhead 5 rfl) ?_
  refine AE.run K eX8_pathIsAhead 6 1 (show am_run 3 ((tX8_pathIsAhead.drop 6).take 1) 10 [some (.ref (sS i)), some (.int (x1)), some (.int (x2))] [.ref (sS i + 3), .int (V (sS i + 3) (iN x1))] = some (11, [some (.ref (sS i)), some (.int (x1)), some (.int (x2))], [.int (x2), .ref (sS i + 3), .int (V (sS i + 3) (iN x1))]) from rfl) ?_
  refine AE.iald K (sh_S3 hi) (am_at eX8_pathIsAhead 7 rfl) h (fun h => ?_)
  refine AE.ic K 36 (am_at eX8_pathIsAhead 8 rfl) (by decide) rfl h (fun h => ?_) (fun h => ?_)
  · refine AE.run K eX8_pathIsAhead 22 1 (show am_run 3 ((tX8_pathIsAhead.drop 22).take 1) 36 [some (.ref (sS i)), some (.int (x1)), some (.int (x2))] [] = some (37, [some (.ref (sS i)), some (.int (x1)), some (.int (x2))], [.ref (sS i)]) from rfl) ?_
    refine AE.getR K gf_X8_12 (sh_S0 hi) rfl (am_at eX8_pathIsAhead 23 rfl) ?_
    refine AE.getR K gf_X8_73 (sh_S1 hi) rfl (am_at eX8_pathIsAhead 24 rfl) ?_
    refine AE.run K eX8_pathIsAhead 25 1 (show am_run 3 ((tX8_pathIsAhead.drop 25).take 1) 43 [some (.ref (sS i)), some (.int (x1)), some (.int (x2))] [.ref (sS i + 7)] = some (44, [some (.ref (sS i)), some (.int (x1)), some (.int (x2))], [.int (x1), .ref (sS i + 7)]) from rfl) ?_
    refine AE.iald K (sh_S7 hi) (am_at eX8_pathIsAhead 26 rfl) h (fun h => ?_)
    refine AE.run K eX8_pathIsAhead 27 1 (show am_run 3 ((tX8_pathIsAhead.drop 27).take 1) 45 [some (.ref (sS i)), some (.int (x1)), some (.int (x2))] [.int (V (sS i + 7) (iN x1))] = some (46, [some (.ref (sS i)), some (.int (x1)), some (.int (x2))], [.ref (sS i), .int (V (sS i + 7) (iN x1))]) from rfl) ?_
    refine AE.getR K gf_X8_12 (sh_S0 hi) rfl (am_at eX8_pathIsAhead 28 rfl) ?_
    refine AE.getR K gf_X8_73 (sh_S1 hi) rfl (am_at eX8_pathIsAhead 29 rfl) ?_
    refine AE.run K eX8_pathIsAhead 30 1 (show am_run 3 ((tX8_pathIsAhead.drop 30).take 1) 52 [some (.ref (sS i)), some (.int (x1)), some (.int (x2))] [.ref (sS i + 7), .int (V (sS i + 7) (iN x1))] = some (53, [some (.ref (sS i)), some (.int (x1)), some (.int (x2))], [.int (x2), .ref (sS i + 7), .int (V (sS i + 7) (iN x1))]) from rfl) ?_
    refine AE.iald K (sh_S7 hi) (am_at eX8_pathIsAhead 31 rfl) h (fun h => ?_)
    refine AE.ic K 84 (am_at eX8_pathIsAhead 32 rfl) (by decide) rfl h (fun h => ?_) (fun h => ?_)
    · refine AE.run K eX8_pathIsAhead 48 2 (show am_run 3 ((tX8_pathIsAhead.drop 48).take 2) 84 [some (.ref (sS i)), some (.int (x1)), some (.int (x2))] [] = some (86, [some (.ref (sS i)), some (.int (x1)), some (.int (x2))], [.int (x2), .int (x1)]) from rfl) ?_
      refine rB_of (P := fun (j : Int32 → am_V → am_R) => ∀ (bs0_94 : Int32) (V_94 : am_V), j bs0_94 V_94 = some r → AE U G 3 0 0 0 r 0 V_94 94 [none, none, none] [.int (bs0_94)]) h (fun bs0_94 V_94 h => ?_) (fun j94 hj94 h => ?_)
      · exact AE.zret K (by omega) (am_at eX8_pathIsAhead 54 rfl) h
      refine AE.ic K 93 (am_at eX8_pathIsAhead 50 rfl) (by decide) rfl h (fun h => ?_) (fun h => ?_)
      · refine AE.run K eX8_pathIsAhead 53 1 (show am_run 3 ((tX8_pathIsAhead.drop 53).take 1) 93 [some (.ref (sS i)), some (.int (x1)), some (.int (x2))] [] = some (94, [some (.ref (sS i)), some (.int (x1)), some (.int (x2))], [.int (nI 0)]) from rfl) ?_
        exact AE.sub (L' := [none, none, none]) trivial (hj94 (nI 0) V h)
      · refine AE.run K eX8_pathIsAhead 51 2 (show am_run 3 ((tX8_pathIsAhead.drop 51).take 2) 89 [some (.ref (sS i)), some (.int (x1)), some (.int (x2))] [] = some (94, [some (.ref (sS i)), some (.int (x1)), some (.int (x2))], [.int (nI 1)]) from rfl) ?_
        exact AE.sub (L' := [none, none, none]) trivial (hj94 (nI 1) V h)
    · refine AE.run K eX8_pathIsAhead 33 1 (show am_run 3 ((tX8_pathIsAhead.drop 33).take 1) 57 [some (.ref (sS i)), some (.int (x1)), some (.int (x2))] [] = some (58, [some (.ref (sS i)), some (.int (x1)), some (.int (x2))], [.ref (sS i)]) from rfl) ?_
      refine AE.getR K gf_X8_12 (sh_S0 hi) rfl (am_at eX8_pathIsAhead 34 rfl) ?_
      refine AE.getR K gf_X8_73 (sh_S1 hi) rfl (am_at eX8_pathIsAhead 35 rfl) ?_
      refine AE.run K eX8_pathIsAhead 36 1 (show am_run 3 ((tX8_pathIsAhead.drop 36).take 1) 64 [some (.ref (sS i)), some (.int (x1)), some (.int (x2))] [.ref (sS i + 7)] = some (65, [some (.ref (sS i)), some (.int (x1)), some (.int (x2))], [.int (x1), .ref (sS i + 7)]) from rfl) ?_
      refine AE.iald K (sh_S7 hi) (am_at eX8_pathIsAhead 37 rfl) h (fun h => ?_)
      refine AE.run K eX8_pathIsAhead 38 1 (show am_run 3 ((tX8_pathIsAhead.drop 38).take 1) 66 [some (.ref (sS i)), some (.int (x1)), some (.int (x2))] [.int (V (sS i + 7) (iN x1))] = some (67, [some (.ref (sS i)), some (.int (x1)), some (.int (x2))], [.ref (sS i), .int (V (sS i + 7) (iN x1))]) from rfl) ?_
      refine AE.getR K gf_X8_12 (sh_S0 hi) rfl (am_at eX8_pathIsAhead 39 rfl) ?_
      refine AE.getR K gf_X8_73 (sh_S1 hi) rfl (am_at eX8_pathIsAhead 40 rfl) ?_
      refine AE.run K eX8_pathIsAhead 41 1 (show am_run 3 ((tX8_pathIsAhead.drop 41).take 1) 73 [some (.ref (sS i)), some (.int (x1)), some (.int (x2))] [.ref (sS i + 7), .int (V (sS i + 7) (iN x1))] = some (74, [some (.ref (sS i)), some (.int (x1)), some (.int (x2))], [.int (x2), .ref (sS i + 7), .int (V (sS i + 7) (iN x1))]) from rfl) ?_
      refine AE.iald K (sh_S7 hi) (am_at eX8_pathIsAhead 42 rfl) h (fun h => ?_)
      refine rB_of (P := fun (j : Int32 → am_V → am_R) => ∀ (bs0_83 : Int32) (V_83 : am_V), j bs0_83 V_83 = some r → AE U G 3 0 0 0 r 0 V_83 83 [none, none, none] [.int (bs0_83)]) h (fun bs0_83 V_83 h => ?_) (fun j83 hj83 h => ?_)
      · exact AE.zret K (by omega) (am_at eX8_pathIsAhead 47 rfl) h
      refine AE.ic K 82 (am_at eX8_pathIsAhead 43 rfl) (by decide) rfl h (fun h => ?_) (fun h => ?_)
      · refine AE.run K eX8_pathIsAhead 46 1 (show am_run 3 ((tX8_pathIsAhead.drop 46).take 1) 82 [some (.ref (sS i)), some (.int (x1)), some (.int (x2))] [] = some (83, [some (.ref (sS i)), some (.int (x1)), some (.int (x2))], [.int (nI 0)]) from rfl) ?_
        exact AE.sub (L' := [none, none, none]) trivial (hj83 (nI 0) V h)
      · refine AE.run K eX8_pathIsAhead 44 2 (show am_run 3 ((tX8_pathIsAhead.drop 44).take 2) 78 [some (.ref (sS i)), some (.int (x1)), some (.int (x2))] [] = some (83, [some (.ref (sS i)), some (.int (x1)), some (.int (x2))], [.int (nI 1)]) from rfl) ?_
        exact AE.sub (L' := [none, none, none]) trivial (hj83 (nI 1) V h)
  · refine AE.run K eX8_pathIsAhead 9 1 (show am_run 3 ((tX8_pathIsAhead.drop 9).take 1) 15 [some (.ref (sS i)), some (.int (x1)), some (.int (x2))] [] = some (16, [some (.ref (sS i)), some (.int (x1)), some (.int (x2))], [.ref (sS i)]) from rfl) ?_
    refine AE.getR K gf_X8_25 (sh_S0 hi) rfl (am_at eX8_pathIsAhead 10 rfl) ?_
    refine AE.run K eX8_pathIsAhead 11 1 (show am_run 3 ((tX8_pathIsAhead.drop 11).take 1) 19 [some (.ref (sS i)), some (.int (x1)), some (.int (x2))] [.ref (sS i + 3)] = some (20, [some (.ref (sS i)), some (.int (x1)), some (.int (x2))], [.int (x1), .ref (sS i + 3)]) from rfl) ?_
    refine AE.iald K (sh_S3 hi) (am_at eX8_pathIsAhead 12 rfl) h (fun h => ?_)
    refine AE.run K eX8_pathIsAhead 13 1 (show am_run 3 ((tX8_pathIsAhead.drop 13).take 1) 21 [some (.ref (sS i)), some (.int (x1)), some (.int (x2))] [.int (V (sS i + 3) (iN x1))] = some (22, [some (.ref (sS i)), some (.int (x1)), some (.int (x2))], [.ref (sS i), .int (V (sS i + 3) (iN x1))]) from rfl) ?_
    refine AE.getR K gf_X8_25 (sh_S0 hi) rfl (am_at eX8_pathIsAhead 14 rfl) ?_
    refine AE.run K eX8_pathIsAhead 15 1 (show am_run 3 ((tX8_pathIsAhead.drop 15).take 1) 25 [some (.ref (sS i)), some (.int (x1)), some (.int (x2))] [.ref (sS i + 3), .int (V (sS i + 3) (iN x1))] = some (26, [some (.ref (sS i)), some (.int (x1)), some (.int (x2))], [.int (x2), .ref (sS i + 3), .int (V (sS i + 3) (iN x1))]) from rfl) ?_
    refine AE.iald K (sh_S3 hi) (am_at eX8_pathIsAhead 16 rfl) h (fun h => ?_)
    refine rB_of (P := fun (j : Int32 → am_V → am_R) => ∀ (bs0_35 : Int32) (V_35 : am_V), j bs0_35 V_35 = some r → AE U G 3 0 0 0 r 0 V_35 35 [none, none, none] [.int (bs0_35)]) h (fun bs0_35 V_35 h => ?_) (fun j35 hj35 h => ?_)
    · exact AE.zret K (by omega) (am_at eX8_pathIsAhead 21 rfl) h
    refine AE.ic K 34 (am_at eX8_pathIsAhead 17 rfl) (by decide) rfl h (fun h => ?_) (fun h => ?_)
    · refine AE.run K eX8_pathIsAhead 20 1 (show am_run 3 ((tX8_pathIsAhead.drop 20).take 1) 34 [some (.ref (sS i)), some (.int (x1)), some (.int (x2))] [] = some (35, [some (.ref (sS i)), some (.int (x1)), some (.int (x2))], [.int (nI 0)]) from rfl) ?_
      exact AE.sub (L' := [none, none, none]) trivial (hj35 (nI 0) V h)
    · refine AE.run K eX8_pathIsAhead 18 2 (show am_run 3 ((tX8_pathIsAhead.drop 18).take 2) 30 [some (.ref (sS i)), some (.int (x1)), some (.int (x2))] [] = some (35, [some (.ref (sS i)), some (.int (x1)), some (.int (x2))], [.int (nI 1)]) from rfl) ?_
      exact AE.sub (L' := [none, none, none]) trivial (hj35 (nI 1) V h)
def bd_X8_pathsAheadOf_4 (i : Nat) (x1 : Int32) (kx kr : Int32 → Int32 → am_V → am_R) (a2_4 : Int32) (a3_4 : Int32) (V_4 : am_V) : am_R := (if (V_4 (sS i + 1) 7) ≤ a3_4 then kx a2_4 a3_4 V_4 else rB (fun (b2_32 : Int32) (V_32 : am_V) => kr b2_32 (a3_4 + nI 1) V_32) (fun (j32 : Int32 → am_V → am_R) => (if a3_4 = x1 then j32 a2_4 V_4 else rI (d_X8_pathIsAhead i a3_4 x1 V_4) (fun (y2 : Int32) (V1 : am_V) => (if y2 = 0 then j32 a2_4 V1 else j32 (a2_4 + nI 1) V1)))))
def lp_X8_pathsAheadOf_4 (i : Nat) (x1 : Int32) (kx : Int32 → Int32 → am_V → am_R) : Nat → Int32 → Int32 → am_V → am_R
  | 0, _, _, _ => none
  | f9 + 1, a2_4, a3_4, V_4 => bd_X8_pathsAheadOf_4 i x1 kx (lp_X8_pathsAheadOf_4 i x1 kx f9) a2_4 a3_4 V_4
def d_X8_pathsAheadOf (i : Nat) (x1 : Int32) (V : am_V) : am_R := lp_X8_pathsAheadOf_4 i x1 (fun (a2_4 : Int32) (a3_4 : Int32) (V_4x : am_V) => some (.inl (some (.int (a2_4))), V_4x)) 1000 (nI 0) (nI 0) V
set_option maxRecDepth 100000 in
set_option maxHeartbeats 4000000 in
theorem bk_X8_pathsAheadOf_4 {U : am_U} {l : Launch} (B : am_base xx U) (hfl : l.stackTraces = false) {G : am_G} (K : aK U l G RX8 cX8_pathsAheadOf 4 (some .int) 1 0 22) (hex : am_nx G) {r : (Option Value ⊕ String) × am_V} {i : Nat} {x1 : Int32} (hi : i < 12) {kc : Nat} (hkc : kc ≤ 0) {kx kr : Int32 → Int32 → am_V → am_R} (hx : ∀ (a2_4 : Int32) (a3_4 : Int32) (Vq : am_V), kx a2_4 a3_4 Vq = some r → AE U G 4 1 0 22 r kc Vq 38 [none, none, some (.int (a2_4)), none] []) (hr : ∀ (a2_4 : Int32) (a3_4 : Int32) (Vq : am_V), kr a2_4 a3_4 Vq = some r → AE U G 4 1 0 22 r kc Vq 4 [some (.ref (sS i)), some (.int (x1)), some (.int (a2_4)), some (.int (a3_4))] []) (a2_4 : Int32) (a3_4 : Int32) (V_4 : am_V) (h : bd_X8_pathsAheadOf_4 i x1 kx kr a2_4 a3_4 V_4 = some r) : AE U G 4 1 0 22 r kc V_4 4 [some (.ref (sS i)), some (.int (x1)), some (.int (a2_4)), some (.int (a3_4))] [] := by
  unfold bd_X8_pathsAheadOf_4 at h
  refine AE.run K eX8_pathsAheadOf 4 2 (show am_run 4 ((tX8_pathsAheadOf.drop 4).take 2) 4 [some (.ref (sS i)), some (.int (x1)), some (.int (a2_4)), some (.int (a3_4))] [] = some (6, [some (.ref (sS i)), some (.int (x1)), some (.int (a2_4)), some (.int (a3_4))], [.ref (sS i), .int (a3_4)]) from rfl) ?_
  refine AE.getR K gf_X8_12 (sh_S0 hi) rfl (am_at eX8_pathsAheadOf 6 rfl) ?_
  refine AE.getI K gf_X8_67 (sh_S1 hi) rfl (am_at eX8_pathsAheadOf 7 rfl) ?_
  refine AE.ic K 38 (am_at eX8_pathsAheadOf 8 rfl) (by decide) rfl h (fun h => ?_) (fun h => ?_)
  · exact AE.sub (L' := [none, none, some (.int (a2_4)), none]) (And.intro rfl trivial) (hx a2_4 a3_4 V_4 h)
  · refine AE.run K eX8_pathsAheadOf 9 2 (show am_run 4 ((tX8_pathsAheadOf.drop 9).take 2) 15 [some (.ref (sS i)), some (.int (x1)), some (.int (a2_4)), some (.int (a3_4))] [] = some (17, [some (.ref (sS i)), some (.int (x1)), some (.int (a2_4)), some (.int (a3_4))], [.int (x1), .int (a3_4)]) from rfl) ?_
    refine rB_of (P := fun (j : Int32 → am_V → am_R) => ∀ (b2_32 : Int32) (V_32 : am_V), j b2_32 V_32 = some r → AE U G 4 1 0 22 r (kc) V_32 32 [some (.ref (sS i)), some (.int (x1)), some (.int (b2_32)), some (.int (a3_4))] []) h (fun b2_32 V_32 h => ?_) (fun j32 hj32 h => ?_)
    · refine AE.run K eX8_pathsAheadOf 18 2 (show am_run 4 ((tX8_pathsAheadOf.drop 18).take 2) 32 [some (.ref (sS i)), some (.int (x1)), some (.int (b2_32)), some (.int (a3_4))] [] = some (4, [some (.ref (sS i)), some (.int (x1)), some (.int (b2_32)), some (.int (a3_4 + nI 1))], []) from rfl) ?_
      exact AE.sub (L' := [some (.ref (sS i)), some (.int (x1)), some (.int (b2_32)), some (.int (a3_4 + nI 1))]) (And.intro rfl (And.intro rfl (And.intro rfl (And.intro rfl trivial)))) (hr b2_32 (a3_4 + nI 1) V_32 h)
    refine AE.ic K 32 (am_at eX8_pathsAheadOf 11 rfl) (by decide) rfl h (fun h => ?_) (fun h => ?_)
    · exact AE.sub (L' := [some (.ref (sS i)), some (.int (x1)), some (.int (a2_4)), some (.int (a3_4))]) (And.intro rfl (And.intro rfl (And.intro rfl (And.intro rfl trivial)))) (hj32 a2_4 V_4 h)
    · refine AE.run K eX8_pathsAheadOf 12 3 (show am_run 4 ((tX8_pathsAheadOf.drop 12).take 3) 20 [some (.ref (sS i)), some (.int (x1)), some (.int (a2_4)), some (.int (a3_4))] [] = some (23, [some (.ref (sS i)), some (.int (x1)), some (.int (a2_4)), some (.int (a3_4))], [.int (x1), .int (a3_4), .ref (sS i)]) from rfl) ?_
      refine AE.cv (f' := 0) (c' := 0) (lo' := 0) (st := []) (As := [.int (a3_4), .int (x1)]) (m := d_X8_pathIsAhead i a3_4 x1 V_4) K hex (fun q hq => kX8_pathIsAhead B hfl (i := i) hi hq) cv_X8_70 (sh_S0 hi) (T := TX8) (N := 9) rfl rfl rfl (Nat.le_of_ble_eq_true rfl) ⟨Nat.le_of_ble_eq_true rfl, Nat.le_of_ble_eq_true rfl⟩ (by omega) (am_at eX8_pathsAheadOf 15 rfl) h (rI_some h) (bkI (fun y2 V1 h => ?_))
      refine AE.if0 K 32 (am_at eX8_pathsAheadOf 16 rfl) (by decide) rfl h (fun h => ?_) (fun h => ?_)
      · exact AE.sub (L' := [some (.ref (sS i)), some (.int (x1)), some (.int (a2_4)), some (.int (a3_4))]) (And.intro rfl (And.intro rfl (And.intro rfl (And.intro rfl trivial)))) (hj32 a2_4 V1 h)
      · refine AE.run K eX8_pathsAheadOf 17 1 (show am_run 4 ((tX8_pathsAheadOf.drop 17).take 1) 29 [some (.ref (sS i)), some (.int (x1)), some (.int (a2_4)), some (.int (a3_4))] [] = some (32, [some (.ref (sS i)), some (.int (x1)), some (.int (a2_4 + nI 1)), some (.int (a3_4))], []) from rfl) ?_
        exact AE.sub (L' := [some (.ref (sS i)), some (.int (x1)), some (.int (a2_4 + nI 1)), some (.int (a3_4))]) (And.intro rfl (And.intro rfl (And.intro rfl (And.intro rfl trivial)))) (hj32 (a2_4 + nI 1) V1 h)
theorem lk_X8_pathsAheadOf_4 {U : am_U} {l : Launch} (B : am_base xx U) (hfl : l.stackTraces = false) {G : am_G} (K : aK U l G RX8 cX8_pathsAheadOf 4 (some .int) 1 0 22) (hex : am_nx G) {r : (Option Value ⊕ String) × am_V} {i : Nat} {x1 : Int32} (hi : i < 12) {kc : Nat} (hkc : kc ≤ 0) {kx : Int32 → Int32 → am_V → am_R} (hx : ∀ (a2_4 : Int32) (a3_4 : Int32) (Vq : am_V), kx a2_4 a3_4 Vq = some r → AE U G 4 1 0 22 r kc Vq 38 [none, none, some (.int (a2_4)), none] []) : ∀ (f9 : Nat) (a2_4 : Int32) (a3_4 : Int32) (Vq : am_V), lp_X8_pathsAheadOf_4 i x1 kx f9 a2_4 a3_4 Vq = some r → AE U G 4 1 0 22 r kc Vq 4 [some (.ref (sS i)), some (.int (x1)), some (.int (a2_4)), some (.int (a3_4))] [] := by
  intro f9
  induction f9 with
  | zero =>
    intro a2_4 a3_4 Vq h
    cases h
  | succ f9 ih =>
    intro a2_4 a3_4 Vq h
    exact bk_X8_pathsAheadOf_4 B hfl K hex hi hkc hx ih a2_4 a3_4 Vq h
set_option maxRecDepth 100000 in
set_option maxHeartbeats 4000000 in
theorem kX8_pathsAheadOf {U : am_U} {l : Launch} (B : am_base xx U) (hfl : l.stackTraces = false) {V : am_V} {i : Nat} {x1 : Int32} (hi : i < 12) {r : (Option Value ⊕ String) × am_V} (h : d_X8_pathsAheadOf i x1 V = some r) : am_Ct xx U l yX8_pathsAheadOf cX8_pathsAheadOf 4 (some .int) (rk 1 0 22) [.ref (sS i), .int (x1)] V (am_is r.1 r.2) := by
  refine am_Ct.of B hfl (by decide) (Nat.le_of_ble_eq_true rfl) ?_
  intro G hgl hgR hr ok h0 hex
  have K : aK U l G RX8 cX8_pathsAheadOf 4 (some .int) 1 0 22 := ⟨hgl, hgR, hr, ok, h0⟩
  unfold d_X8_pathsAheadOf at h
  show AE U G 4 1 0 22 r 0 V 0 [some (.ref (sS i)), some (.int (x1)), none, none] []
  refine AE.run K eX8_pathsAheadOf 0 4 (show am_run 4 ((tX8_pathsAheadOf.drop 0).take 4) 0 [some (.ref (sS i)), some (.int (x1)), none, none] [] = some (4, [some (.ref (sS i)), some (.int (x1)), some (.int (nI 0)), some (.int (nI 0))], []) from rfl) ?_
  refine AE.sub (L' := [some (.ref (sS i)), some (.int (x1)), some (.int (nI 0)), some (.int (nI 0))]) (And.intro rfl (And.intro rfl (And.intro rfl (And.intro rfl trivial)))) ?_
  refine lk_X8_pathsAheadOf_4 B hfl K hex hi (by omega) ?_ 1000 (nI 0) (nI 0) V h
  intro a2_4 a3_4 V_4x h
  refine AE.run K eX8_pathsAheadOf 20 1 (show am_run 4 ((tX8_pathsAheadOf.drop 20).take 1) 38 [none, none, some (.int (a2_4)), none] [] = some (39, [none, none, some (.int (a2_4)), none], [.int (a2_4)]) from rfl) ?_
  exact AE.iret K (by omega) (am_at eX8_pathsAheadOf 21 rfl) h
def bd_X8_totalsAgree_6 (i : Nat) (kx kr : Int32 → Int32 → Int32 → am_V → am_R) (a1_6 : Int32) (a2_6 : Int32) (a3_6 : Int32) (V_6 : am_V) : am_R := (if (V_6 (sS i + 1) 7) ≤ a3_6 then kx a1_6 a2_6 a3_6 V_6 else rG (am_in a3_6 16) (rG (am_in a3_6 16) (rG (am_in a3_6 16) (kr (a1_6 + (V_6 (sS i + 3) (iN a3_6))) (a2_6 + ((V_6 (sS i + 3) (iN a3_6)) * (V_6 (sS i + 7) (iN a3_6)))) (a3_6 + nI 1) V_6))))
def lp_X8_totalsAgree_6 (i : Nat) (kx : Int32 → Int32 → Int32 → am_V → am_R) : Nat → Int32 → Int32 → Int32 → am_V → am_R
  | 0, _, _, _, _ => none
  | f9 + 1, a1_6, a2_6, a3_6, V_6 => bd_X8_totalsAgree_6 i kx (lp_X8_totalsAgree_6 i kx f9) a1_6 a2_6 a3_6 V_6
def d_X8_totalsAgree (i : Nat) (V : am_V) : am_R := lp_X8_totalsAgree_6 i (fun (a1_6 : Int32) (a2_6 : Int32) (a3_6 : Int32) (V_6x : am_V) => rB (fun (bs0_72 : Int32) (V_72 : am_V) => rG (am_nb bs0_72) (some (.inl (some (.int (bs0_72))), V_72))) (fun (j72 : Int32 → am_V → am_R) => rB (fun (V_71 : am_V) => j72 (nI 0) V_71) (fun (j71 : am_V → am_R) => (if ¬ a1_6 = (V_6x (sS i) 3) then j71 V_6x else (if ¬ a2_6 = (V_6x (sS i) 6) then j71 V_6x else j72 (nI 1) V_6x))))) 1000 (nI 0) (nI 0) (nI 0) V
set_option maxRecDepth 100000 in
set_option maxHeartbeats 4000000 in
theorem bk_X8_totalsAgree_6 {U : am_U} {l : Launch} (B : am_base xx U) (hfl : l.stackTraces = false) {G : am_G} (K : aK U l G RX8 cX8_totalsAgree 4 (some .boolean) 0 0 0) (hex : am_nx G) {r : (Option Value ⊕ String) × am_V} {i : Nat} (hi : i < 12) {kc : Nat} (hkc : kc ≤ 0) {kx kr : Int32 → Int32 → Int32 → am_V → am_R} (hx : ∀ (a1_6 : Int32) (a2_6 : Int32) (a3_6 : Int32) (Vq : am_V), kx a1_6 a2_6 a3_6 Vq = some r → AE U G 4 0 0 0 r kc Vq 51 [some (.ref (sS i)), some (.int (a1_6)), some (.int (a2_6)), none] []) (hr : ∀ (a1_6 : Int32) (a2_6 : Int32) (a3_6 : Int32) (Vq : am_V), kr a1_6 a2_6 a3_6 Vq = some r → AE U G 4 0 0 0 r kc Vq 6 [some (.ref (sS i)), some (.int (a1_6)), some (.int (a2_6)), some (.int (a3_6))] []) (a1_6 : Int32) (a2_6 : Int32) (a3_6 : Int32) (V_6 : am_V) (h : bd_X8_totalsAgree_6 i kx kr a1_6 a2_6 a3_6 V_6 = some r) : AE U G 4 0 0 0 r kc V_6 6 [some (.ref (sS i)), some (.int (a1_6)), some (.int (a2_6)), some (.int (a3_6))] [] := by
  unfold bd_X8_totalsAgree_6 at h
  refine AE.run K eX8_totalsAgree 6 2 (show am_run 4 ((tX8_totalsAgree.drop 6).take 2) 6 [some (.ref (sS i)), some (.int (a1_6)), some (.int (a2_6)), some (.int (a3_6))] [] = some (8, [some (.ref (sS i)), some (.int (a1_6)), some (.int (a2_6)), some (.int (a3_6))], [.ref (sS i), .int (a3_6)]) from rfl) ?_
  refine AE.getR K gf_X8_12 (sh_S0 hi) rfl (am_at eX8_totalsAgree 8 rfl) ?_
  refine AE.getI K gf_X8_67 (sh_S1 hi) rfl (am_at eX8_totalsAgree 9 rfl) ?_
  refine AE.ic K 51 (am_at eX8_totalsAgree 10 rfl) (by decide) rfl h (fun h => ?_) (fun h => ?_)
  · exact AE.sub (L' := [some (.ref (sS i)), some (.int (a1_6)), some (.int (a2_6)), none]) (And.intro rfl (And.intro rfl (And.intro rfl trivial))) (hx a1_6 a2_6 a3_6 V_6 h)
  · refine AE.run K eX8_totalsAgree 11 2 (show am_run 4 ((tX8_totalsAgree.drop 11).take 2) 17 [some (.ref (sS i)), some (.int (a1_6)), some (.int (a2_6)), some (.int (a3_6))] [] = some (19, [some (.ref (sS i)), some (.int (a1_6)), some (.int (a2_6)), some (.int (a3_6))], [.ref (sS i), .int (a1_6)]) from rfl) ?_
    refine AE.getR K gf_X8_25 (sh_S0 hi) rfl (am_at eX8_totalsAgree 13 rfl) ?_
    refine AE.run K eX8_totalsAgree 14 1 (show am_run 4 ((tX8_totalsAgree.drop 14).take 1) 22 [some (.ref (sS i)), some (.int (a1_6)), some (.int (a2_6)), some (.int (a3_6))] [.ref (sS i + 3), .int (a1_6)] = some (23, [some (.ref (sS i)), some (.int (a1_6)), some (.int (a2_6)), some (.int (a3_6))], [.int (a3_6), .ref (sS i + 3), .int (a1_6)]) from rfl) ?_
    refine AE.iald K (sh_S3 hi) (am_at eX8_totalsAgree 15 rfl) h (fun h => ?_)
    refine AE.run K eX8_totalsAgree 16 4 (show am_run 4 ((tX8_totalsAgree.drop 16).take 4) 24 [some (.ref (sS i)), some (.int (a1_6)), some (.int (a2_6)), some (.int (a3_6))] [.int (V_6 (sS i + 3) (iN a3_6)), .int (a1_6)] = some (28, [some (.ref (sS i)), some (.int (a1_6 + (V_6 (sS i + 3) (iN a3_6)))), some (.int (a2_6)), some (.int (a3_6))], [.ref (sS i), .int (a2_6)]) from rfl) ?_
    refine AE.getR K gf_X8_25 (sh_S0 hi) rfl (am_at eX8_totalsAgree 20 rfl) ?_
    refine AE.run K eX8_totalsAgree 21 1 (show am_run 4 ((tX8_totalsAgree.drop 21).take 1) 31 [some (.ref (sS i)), some (.int (a1_6 + (V_6 (sS i + 3) (iN a3_6)))), some (.int (a2_6)), some (.int (a3_6))] [.ref (sS i + 3), .int (a2_6)] = some (32, [some (.ref (sS i)), some (.int (a1_6 + (V_6 (sS i + 3) (iN a3_6)))), some (.int (a2_6)), some (.int (a3_6))], [.int (a3_6), .ref (sS i + 3), .int (a2_6)]) from rfl) ?_
    refine AE.iald K (sh_S3 hi) (am_at eX8_totalsAgree 22 rfl) h (fun h => ?_)
    refine AE.run K eX8_totalsAgree 23 1 (show am_run 4 ((tX8_totalsAgree.drop 23).take 1) 33 [some (.ref (sS i)), some (.int (a1_6 + (V_6 (sS i + 3) (iN a3_6)))), some (.int (a2_6)), some (.int (a3_6))] [.int (V_6 (sS i + 3) (iN a3_6)), .int (a2_6)] = some (34, [some (.ref (sS i)), some (.int (a1_6 + (V_6 (sS i + 3) (iN a3_6)))), some (.int (a2_6)), some (.int (a3_6))], [.ref (sS i), .int (V_6 (sS i + 3) (iN a3_6)), .int (a2_6)]) from rfl) ?_
    refine AE.getR K gf_X8_12 (sh_S0 hi) rfl (am_at eX8_totalsAgree 24 rfl) ?_
    refine AE.getR K gf_X8_73 (sh_S1 hi) rfl (am_at eX8_totalsAgree 25 rfl) ?_
    refine AE.run K eX8_totalsAgree 26 1 (show am_run 4 ((tX8_totalsAgree.drop 26).take 1) 40 [some (.ref (sS i)), some (.int (a1_6 + (V_6 (sS i + 3) (iN a3_6)))), some (.int (a2_6)), some (.int (a3_6))] [.ref (sS i + 7), .int (V_6 (sS i + 3) (iN a3_6)), .int (a2_6)] = some (41, [some (.ref (sS i)), some (.int (a1_6 + (V_6 (sS i + 3) (iN a3_6)))), some (.int (a2_6)), some (.int (a3_6))], [.int (a3_6), .ref (sS i + 7), .int (V_6 (sS i + 3) (iN a3_6)), .int (a2_6)]) from rfl) ?_
    refine AE.iald K (sh_S7 hi) (am_at eX8_totalsAgree 27 rfl) h (fun h => ?_)
    refine AE.run K eX8_totalsAgree 28 5 (show am_run 4 ((tX8_totalsAgree.drop 28).take 5) 42 [some (.ref (sS i)), some (.int (a1_6 + (V_6 (sS i + 3) (iN a3_6)))), some (.int (a2_6)), some (.int (a3_6))] [.int (V_6 (sS i + 7) (iN a3_6)), .int (V_6 (sS i + 3) (iN a3_6)), .int (a2_6)] = some (6, [some (.ref (sS i)), some (.int (a1_6 + (V_6 (sS i + 3) (iN a3_6)))), some (.int (a2_6 + ((V_6 (sS i + 3) (iN a3_6)) * (V_6 (sS i + 7) (iN a3_6))))), some (.int (a3_6 + nI 1))], []) from rfl) ?_
    exact AE.sub (L' := [some (.ref (sS i)), some (.int (a1_6 + (V_6 (sS i + 3) (iN a3_6)))), some (.int (a2_6 + ((V_6 (sS i + 3) (iN a3_6)) * (V_6 (sS i + 7) (iN a3_6))))), some (.int (a3_6 + nI 1))]) (And.intro rfl (And.intro rfl (And.intro rfl (And.intro rfl trivial)))) (hr (a1_6 + (V_6 (sS i + 3) (iN a3_6))) (a2_6 + ((V_6 (sS i + 3) (iN a3_6)) * (V_6 (sS i + 7) (iN a3_6)))) (a3_6 + nI 1) V_6 h)
theorem lk_X8_totalsAgree_6 {U : am_U} {l : Launch} (B : am_base xx U) (hfl : l.stackTraces = false) {G : am_G} (K : aK U l G RX8 cX8_totalsAgree 4 (some .boolean) 0 0 0) (hex : am_nx G) {r : (Option Value ⊕ String) × am_V} {i : Nat} (hi : i < 12) {kc : Nat} (hkc : kc ≤ 0) {kx : Int32 → Int32 → Int32 → am_V → am_R} (hx : ∀ (a1_6 : Int32) (a2_6 : Int32) (a3_6 : Int32) (Vq : am_V), kx a1_6 a2_6 a3_6 Vq = some r → AE U G 4 0 0 0 r kc Vq 51 [some (.ref (sS i)), some (.int (a1_6)), some (.int (a2_6)), none] []) : ∀ (f9 : Nat) (a1_6 : Int32) (a2_6 : Int32) (a3_6 : Int32) (Vq : am_V), lp_X8_totalsAgree_6 i kx f9 a1_6 a2_6 a3_6 Vq = some r → AE U G 4 0 0 0 r kc Vq 6 [some (.ref (sS i)), some (.int (a1_6)), some (.int (a2_6)), some (.int (a3_6))] [] := by
  intro f9
  induction f9 with
  | zero =>
    intro a1_6 a2_6 a3_6 Vq h
    cases h
  | succ f9 ih =>
    intro a1_6 a2_6 a3_6 Vq h
    exact bk_X8_totalsAgree_6 B hfl K hex hi hkc hx ih a1_6 a2_6 a3_6 Vq h
set_option maxRecDepth 100000 in
set_option maxHeartbeats 4000000 in
theorem kX8_totalsAgree {U : am_U} {l : Launch} (B : am_base xx U) (hfl : l.stackTraces = false) {V : am_V} {i : Nat} (hi : i < 12) {r : (Option Value ⊕ String) × am_V} (h : d_X8_totalsAgree i V = some r) : am_Ct xx U l yX8_totalsAgree cX8_totalsAgree 4 (some .boolean) (rk 0 0 0) [.ref (sS i)] V (am_is r.1 r.2) := by
  refine am_Ct.of B hfl (by decide) (Nat.le_of_ble_eq_true rfl) ?_
  intro G hgl hgR hr ok h0 hex
  have K : aK U l G RX8 cX8_totalsAgree 4 (some .boolean) 0 0 0 := ⟨hgl, hgR, hr, ok, h0⟩
  unfold d_X8_totalsAgree at h
  show AE U G 4 0 0 0 r 0 V 0 [some (.ref (sS i)), none, none, none] []
  refine AE.run K eX8_totalsAgree 0 6 (show am_run 4 ((tX8_totalsAgree.drop 0).take 6) 0 [some (.ref (sS i)), none, none, none] [] = some (6, [some (.ref (sS i)), some (.int (nI 0)), some (.int (nI 0)), some (.int (nI 0))], []) from rfl) ?_
  refine AE.sub (L' := [some (.ref (sS i)), some (.int (nI 0)), some (.int (nI 0)), some (.int (nI 0))]) (And.intro rfl (And.intro rfl (And.intro rfl (And.intro rfl trivial)))) ?_
  refine lk_X8_totalsAgree_6 B hfl K hex hi (by omega) ?_ 1000 (nI 0) (nI 0) (nI 0) V h
  intro a1_6 a2_6 a3_6 V_6x h
  refine AE.run K eX8_totalsAgree 33 2 (show am_run 4 ((tX8_totalsAgree.drop 33).take 2) 51 [some (.ref (sS i)), some (.int (a1_6)), some (.int (a2_6)), none] [] = some (53, [some (.ref (sS i)), some (.int (a1_6)), some (.int (a2_6)), none], [.ref (sS i), .int (a1_6)]) from rfl) ?_
  refine AE.getI K gf_X8_29 (sh_S0 hi) rfl (am_at eX8_totalsAgree 35 rfl) ?_
  refine rB_of (P := fun (j : Int32 → am_V → am_R) => ∀ (bs0_72 : Int32) (V_72 : am_V), j bs0_72 V_72 = some r → AE U G 4 0 0 0 r 0 V_72 72 [none, none, none, none] [.int (bs0_72)]) h (fun bs0_72 V_72 h => ?_) (fun j72 hj72 h => ?_)
  · exact AE.zret K (by omega) (am_at eX8_totalsAgree 44 rfl) h
  refine rB_of (P := fun (j : am_V → am_R) => ∀ (V_71 : am_V), j V_71 = some r → AE U G 4 0 0 0 r 0 V_71 71 [none, none, none, none] []) h (fun V_71 h => ?_) (fun j71 hj71 h => ?_)
  · refine AE.run K eX8_totalsAgree 43 1 (show am_run 4 ((tX8_totalsAgree.drop 43).take 1) 71 [none, none, none, none] [] = some (72, [none, none, none, none], [.int (nI 0)]) from rfl) ?_
    exact (hj72 (nI 0) V_71 h)
  refine AE.ic K 71 (am_at eX8_totalsAgree 36 rfl) (by decide) rfl h (fun h => ?_) (fun h => ?_)
  · exact AE.sub (L' := [none, none, none, none]) trivial (hj71  V_6x h)
  · refine AE.run K eX8_totalsAgree 37 2 (show am_run 4 ((tX8_totalsAgree.drop 37).take 2) 59 [some (.ref (sS i)), some (.int (a1_6)), some (.int (a2_6)), none] [] = some (61, [some (.ref (sS i)), some (.int (a1_6)), some (.int (a2_6)), none], [.ref (sS i), .int (a2_6)]) from rfl) ?_
    refine AE.getI K gf_X8_39 (sh_S0 hi) rfl (am_at eX8_totalsAgree 39 rfl) ?_
    refine AE.ic K 71 (am_at eX8_totalsAgree 40 rfl) (by decide) rfl h (fun h => ?_) (fun h => ?_)
    · exact AE.sub (L' := [none, none, none, none]) trivial (hj71  V_6x h)
    · refine AE.run K eX8_totalsAgree 41 2 (show am_run 4 ((tX8_totalsAgree.drop 41).take 2) 67 [some (.ref (sS i)), some (.int (a1_6)), some (.int (a2_6)), none] [] = some (72, [some (.ref (sS i)), some (.int (a1_6)), some (.int (a2_6)), none], [.int (nI 1)]) from rfl) ?_
      exact AE.sub (L' := [none, none, none, none]) trivial (hj72 (nI 1) V_6x h)
def d_X8_copyFrom (i : Nat) (j : Nat) (V : am_V) : am_R := rU (d_X6_copyFrom i j V) (fun (V1 : am_V) => rU (d_X1_copyFrom i j V1) (fun (V2 : am_V) => rV (am_row V2 (sS i + 3) (va_cpy (V2 (sS j + 3)) (V2 (sS i + 3)) 0 0 16)) (fun (V3 : am_V) => rV (am_set V3 (sS i) 3 (V3 (sS j) 3)) (fun (V4 : am_V) => rV (am_set V4 (sS i) 4 (V4 (sS j) 4)) (fun (V5 : am_V) => rV (am_set V5 (sS i) 5 (V5 (sS j) 5)) (fun (V6 : am_V) => rV (am_set V6 (sS i) 6 (V6 (sS j) 6)) (fun (V7 : am_V) => rV (am_set V7 (sS i) 7 (V7 (sS j) 7)) (fun (V8 : am_V) => rV (am_set V8 (sS i) 8 (V8 (sS j) 8)) (fun (V9 : am_V) => some (.inl none, V9))))))))))
set_option maxRecDepth 100000 in
set_option maxHeartbeats 4000000 in
theorem kX8_copyFrom {U : am_U} {l : Launch} (B : am_base xx U) (hfl : l.stackTraces = false) {V : am_V} {i : Nat} {j : Nat} (hi : i < 12) (hj : j < 12) {r : (Option Value ⊕ String) × am_V} (h : d_X8_copyFrom i j V = some r) : am_Ct xx U l yX8_copyFrom cX8_copyFrom 2 none (rk 3 0 81) [.ref (sS i), .ref (sS j)] V (am_is r.1 r.2) := by
  refine am_Ct.of B hfl (by decide) (Nat.le_of_ble_eq_true rfl) ?_
  intro G hgl hgR hr ok h0 hex
  have K : aK U l G RX8 cX8_copyFrom 2 none 3 0 81 := ⟨hgl, hgR, hr, ok, h0⟩
  unfold d_X8_copyFrom at h
  show AE U G 2 3 0 81 r 0 V 0 [some (.ref (sS i)), some (.ref (sS j))] []
  refine AE.run K eX8_copyFrom 0 1 (show am_run 2 ((tX8_copyFrom.drop 0).take 1) 0 [some (.ref (sS i)), some (.ref (sS j))] [] = some (1, [some (.ref (sS i)), some (.ref (sS j))], [.ref (sS i)]) from rfl) ?_
  refine AE.getR K gf_X8_12 (sh_S0 hi) rfl (am_at eX8_copyFrom 1 rfl) ?_
  refine AE.run K eX8_copyFrom 2 1 (show am_run 2 ((tX8_copyFrom.drop 2).take 1) 4 [some (.ref (sS i)), some (.ref (sS j))] [.ref (sS i + 1)] = some (5, [some (.ref (sS i)), some (.ref (sS j))], [.ref (sS j), .ref (sS i + 1)]) from rfl) ?_
  refine AE.getR K gf_X8_12 (sh_S0 hj) rfl (am_at eX8_copyFrom 3 rfl) ?_
  refine AE.cv (f' := 2) (c' := 0) (lo' := 60) (st := []) (As := [.ref (sS j + 1)]) (m := d_X6_copyFrom i j V) K hex (fun q hq => kX6_copyFrom B hfl (i := i) (j := j) hi hj hq) cv_X8_76 (sh_S1 hi) (T := TX6) (N := 8) rfl rfl rfl (Nat.le_of_ble_eq_true rfl) ⟨Nat.le_of_ble_eq_true rfl, Nat.le_of_ble_eq_true rfl⟩ (by omega) (am_at eX8_copyFrom 4 rfl) h (rU_some h) (bkU (fun V1 h => ?_))
  refine AE.run K eX8_copyFrom 5 1 (show am_run 2 ((tX8_copyFrom.drop 5).take 1) 11 [some (.ref (sS i)), some (.ref (sS j))] [] = some (12, [some (.ref (sS i)), some (.ref (sS j))], [.ref (sS i)]) from rfl) ?_
  refine AE.getR K gf_X8_21 (sh_S0 hi) rfl (am_at eX8_copyFrom 6 rfl) ?_
  refine AE.run K eX8_copyFrom 7 1 (show am_run 2 ((tX8_copyFrom.drop 7).take 1) 15 [some (.ref (sS i)), some (.ref (sS j))] [.ref (sS i + 2)] = some (16, [some (.ref (sS i)), some (.ref (sS j))], [.ref (sS j), .ref (sS i + 2)]) from rfl) ?_
  refine AE.getR K gf_X8_21 (sh_S0 hj) rfl (am_at eX8_copyFrom 8 rfl) ?_
  refine AE.cv (f' := 2) (c' := 0) (lo' := 60) (st := []) (As := [.ref (sS j + 2)]) (m := d_X1_copyFrom i j V1) K hex (fun q hq => kX1_copyFrom B hfl (i := i) (j := j) hi hj hq) cv_X8_80 (sh_S2 hi) (T := TX1) (N := 8) rfl rfl rfl (Nat.le_of_ble_eq_true rfl) ⟨Nat.le_of_ble_eq_true rfl, Nat.le_of_ble_eq_true rfl⟩ (by omega) (am_at eX8_copyFrom 9 rfl) h (rU_some h) (bkU (fun V2 h => ?_))
  refine AE.run K eX8_copyFrom 10 1 (show am_run 2 ((tX8_copyFrom.drop 10).take 1) 22 [some (.ref (sS i)), some (.ref (sS j))] [] = some (23, [some (.ref (sS i)), some (.ref (sS j))], [.ref (sS j)]) from rfl) ?_
  refine AE.getR K gf_X8_25 (sh_S0 hj) rfl (am_at eX8_copyFrom 11 rfl) ?_
  refine AE.run K eX8_copyFrom 12 2 (show am_run 2 ((tX8_copyFrom.drop 12).take 2) 26 [some (.ref (sS i)), some (.ref (sS j))] [.ref (sS j + 3)] = some (28, [some (.ref (sS i)), some (.ref (sS j))], [.ref (sS i), .int (nI 0), .ref (sS j + 3)]) from rfl) ?_
  refine AE.getR K gf_X8_25 (sh_S0 hi) rfl (am_at eX8_copyFrom 14 rfl) ?_
  refine AE.run K eX8_copyFrom 15 2 (show am_run 2 ((tX8_copyFrom.drop 15).take 2) 31 [some (.ref (sS i)), some (.ref (sS j))] [.ref (sS i + 3), .int (nI 0), .ref (sS j + 3)] = some (34, [some (.ref (sS i)), some (.ref (sS j))], [.int (nI 16), .int (nI 0), .ref (sS i + 3), .int (nI 0), .ref (sS j + 3)]) from rfl) ?_
  refine AE.cpy (n := 16) K ac_X8_83 (sh_S3 hj) (sh_S3 hi) (wr_S (i := i) (k := 3) hi (by decide)) (by decide) (by decide) (by decide) (by decide) (Nat.le_of_ble_eq_true rfl) (am_at eX8_copyFrom 17 rfl) h (fun V3 h => ?_)
  refine AE.run K eX8_copyFrom 18 2 (show am_run 2 ((tX8_copyFrom.drop 18).take 2) 37 [some (.ref (sS i)), some (.ref (sS j))] [] = some (39, [some (.ref (sS i)), some (.ref (sS j))], [.ref (sS j), .ref (sS i)]) from rfl) ?_
  refine AE.getI K gf_X8_29 (sh_S0 hj) rfl (am_at eX8_copyFrom 20 rfl) ?_
  refine AE.putI K pf_X8_29 (sh_S0 hi) (wr_S (i := i) (k := 0) hi (by decide)) rfl (am_at eX8_copyFrom 21 rfl) h (fun V4 h => ?_)
  refine AE.run K eX8_copyFrom 22 2 (show am_run 2 ((tX8_copyFrom.drop 22).take 2) 45 [some (.ref (sS i)), some (.ref (sS j))] [] = some (47, [some (.ref (sS i)), some (.ref (sS j))], [.ref (sS j), .ref (sS i)]) from rfl) ?_
  refine AE.getI K gf_X8_33 (sh_S0 hj) rfl (am_at eX8_copyFrom 24 rfl) ?_
  refine AE.putI K pf_X8_33 (sh_S0 hi) (wr_S (i := i) (k := 0) hi (by decide)) rfl (am_at eX8_copyFrom 25 rfl) h (fun V5 h => ?_)
  refine AE.run K eX8_copyFrom 26 2 (show am_run 2 ((tX8_copyFrom.drop 26).take 2) 53 [some (.ref (sS i)), some (.ref (sS j))] [] = some (55, [some (.ref (sS i)), some (.ref (sS j))], [.ref (sS j), .ref (sS i)]) from rfl) ?_
  refine AE.getI K gf_X8_36 (sh_S0 hj) rfl (am_at eX8_copyFrom 28 rfl) ?_
  refine AE.putI K pf_X8_36 (sh_S0 hi) (wr_S (i := i) (k := 0) hi (by decide)) rfl (am_at eX8_copyFrom 29 rfl) h (fun V6 h => ?_)
  refine AE.run K eX8_copyFrom 30 2 (show am_run 2 ((tX8_copyFrom.drop 30).take 2) 61 [some (.ref (sS i)), some (.ref (sS j))] [] = some (63, [some (.ref (sS i)), some (.ref (sS j))], [.ref (sS j), .ref (sS i)]) from rfl) ?_
  refine AE.getI K gf_X8_39 (sh_S0 hj) rfl (am_at eX8_copyFrom 32 rfl) ?_
  refine AE.putI K pf_X8_39 (sh_S0 hi) (wr_S (i := i) (k := 0) hi (by decide)) rfl (am_at eX8_copyFrom 33 rfl) h (fun V7 h => ?_)
  refine AE.run K eX8_copyFrom 34 2 (show am_run 2 ((tX8_copyFrom.drop 34).take 2) 69 [some (.ref (sS i)), some (.ref (sS j))] [] = some (71, [some (.ref (sS i)), some (.ref (sS j))], [.ref (sS j), .ref (sS i)]) from rfl) ?_
  refine AE.getI K gf_X8_42 (sh_S0 hj) rfl (am_at eX8_copyFrom 36 rfl) ?_
  refine AE.putI K pf_X8_42 (sh_S0 hi) (wr_S (i := i) (k := 0) hi (by decide)) rfl (am_at eX8_copyFrom 37 rfl) h (fun V8 h => ?_)
  refine AE.run K eX8_copyFrom 38 2 (show am_run 2 ((tX8_copyFrom.drop 38).take 2) 77 [some (.ref (sS i)), some (.ref (sS j))] [] = some (79, [some (.ref (sS i)), some (.ref (sS j))], [.ref (sS j), .ref (sS i)]) from rfl) ?_
  refine AE.getI K gf_X8_45 (sh_S0 hj) rfl (am_at eX8_copyFrom 40 rfl) ?_
  refine AE.putI K pf_X8_45 (sh_S0 hi) (wr_S (i := i) (k := 0) hi (by decide)) rfl (am_at eX8_copyFrom 41 rfl) h (fun V9 h => ?_)
  exact AE.vret K (by omega) (am_at eX8_copyFrom 42 rfl) h
def d_X4_note (i : Nat) (V : am_V) : am_R := rG (am_in (V 2 1) 9) (rU (d_X8_copyFrom ((3 + iN (V 2 1))) i V) (fun (V1 : am_V) => some (.inl none, V1)))
set_option maxRecDepth 100000 in
set_option maxHeartbeats 4000000 in
theorem kX4_note {U : am_U} {l : Launch} (B : am_base xx U) (hfl : l.stackTraces = false) {V : am_V} {i : Nat} (hi : i < 12) {r : (Option Value ⊕ String) × am_V} (h : d_X4_note i V = some r) : am_Ct xx U l yX4_note cX4_note 2 none (rk 4 0 102) [.ref (2), .ref (sS i)] V (am_is r.1 r.2) := by
  refine am_Ct.of B hfl (by decide) (Nat.le_of_ble_eq_true rfl) ?_
  intro G hgl hgR hr ok h0 hex
  have K : aK U l G RX4 cX4_note 2 none 4 0 102 := ⟨hgl, hgR, hr, ok, h0⟩
  unfold d_X4_note at h
  show AE U G 2 4 0 102 r 0 V 0 [some (.ref (2)), some (.ref (sS i))] []
  refine AE.run K eX4_note 0 1 (show am_run 2 ((tX4_note.drop 0).take 1) 0 [some (.ref (2)), some (.ref (sS i))] [] = some (1, [some (.ref (2)), some (.ref (sS i))], [.ref (2)]) from rfl) ?_
  refine AE.getR K gf_X4_13 rfl rfl (am_at eX4_note 1 rfl) ?_
  refine AE.run K eX4_note 2 1 (show am_run 2 ((tX4_note.drop 2).take 1) 4 [some (.ref (2)), some (.ref (sS i))] [.ref (3)] = some (5, [some (.ref (2)), some (.ref (sS i))], [.ref (2), .ref (3)]) from rfl) ?_
  refine AE.getI K gf_X4_17 rfl rfl (am_at eX4_note 3 rfl) ?_
  refine AE.aaldS K (am_at eX4_note 4 rfl) h (fun hs8 h => ?_)
  refine AE.run K eX4_note 5 1 (show am_run 2 ((tX4_note.drop 5).take 1) 9 [some (.ref (2)), some (.ref (sS i))] [.ref (sS (3 + iN (V 2 1)))] = some (10, [some (.ref (2)), some (.ref (sS i))], [.ref (sS i), .ref (sS (3 + iN (V 2 1)))]) from rfl) ?_
  refine AE.cv (f' := 3) (c' := 0) (lo' := 81) (st := []) (As := [.ref (sS i)]) (m := d_X8_copyFrom ((3 + iN (V 2 1))) i V) K hex (fun q hq => kX8_copyFrom B hfl (i := (3 + iN (V 2 1))) (j := i) hs8 hi hq) cv_X4_25 (sh_S0 hs8) (T := TX8) (N := 9) rfl rfl rfl (Nat.le_of_ble_eq_true rfl) ⟨Nat.le_of_ble_eq_true rfl, Nat.le_of_ble_eq_true rfl⟩ (by omega) (am_at eX4_note 6 rfl) h (rU_some h) (bkU (fun V1 h => ?_))
  exact AE.vret K (by omega) (am_at eX4_note 7 rfl) h
def d_X4_noted (V : am_V) : am_R := rG (am_in (V 2 1) 9) (some (.inl (some (.ref (sS (3 + iN (V 2 1))))), V))
set_option maxRecDepth 100000 in
set_option maxHeartbeats 4000000 in
theorem kX4_noted {U : am_U} {l : Launch} (B : am_base xx U) (hfl : l.stackTraces = false) {V : am_V} {r : (Option Value ⊕ String) × am_V} (h : d_X4_noted V = some r) : am_Ct xx U l yX4_noted cX4_noted 1 (some (.object "DandelionBroadcast$State")) (rk 0 0 0) [.ref (2)] V (am_is r.1 r.2) := by
  refine am_Ct.of B hfl (by decide) (Nat.le_of_ble_eq_true rfl) ?_
  intro G hgl hgR hr ok h0 hex
  have K : aK U l G RX4 cX4_noted 1 (some (.object "DandelionBroadcast$State")) 0 0 0 := ⟨hgl, hgR, hr, ok, h0⟩
  unfold d_X4_noted at h
  show AE U G 1 0 0 0 r 0 V 0 [some (.ref (2))] []
  refine AE.run K eX4_noted 0 1 (show am_run 1 ((tX4_noted.drop 0).take 1) 0 [some (.ref (2))] [] = some (1, [some (.ref (2))], [.ref (2)]) from rfl) ?_
  refine AE.getR K gf_X4_13 rfl rfl (am_at eX4_noted 1 rfl) ?_
  refine AE.run K eX4_noted 2 1 (show am_run 1 ((tX4_noted.drop 2).take 1) 4 [some (.ref (2))] [.ref (3)] = some (5, [some (.ref (2))], [.ref (2), .ref (3)]) from rfl) ?_
  refine AE.getI K gf_X4_17 rfl rfl (am_at eX4_noted 3 rfl) ?_
  refine AE.aaldS K (am_at eX4_noted 4 rfl) h (fun hs8 h => ?_)
  exact AE.aret K (by omega) (am_at eX4_noted 5 rfl) h
def d_X4_keep (V : am_V) : am_R := rG (decide (¬ (nI 9) = 0)) (rV (am_set V 2 1 (am_rm ((V 2 1) + (nI 1)) (nI 9))) (fun (V1 : am_V) => rV (am_set V1 2 2 (am_mn ((V1 2 2) + (nI 1)) (nI 8))) (fun (V2 : am_V) => some (.inl none, V2))))
set_option maxRecDepth 100000 in
set_option maxHeartbeats 4000000 in
theorem kX4_keep {U : am_U} {l : Launch} (B : am_base xx U) (hfl : l.stackTraces = false) {V : am_V} {r : (Option Value ⊕ String) × am_V} (h : d_X4_keep V = some r) : am_Ct xx U l yX4_keep cX4_keep 1 none (rk 2 0 60) [.ref (2)] V (am_is r.1 r.2) := by
  refine am_Ct.of B hfl (by decide) (Nat.le_of_ble_eq_true rfl) ?_
  intro G hgl hgR hr ok h0 hex
  have K : aK U l G RX4 cX4_keep 1 none 2 0 60 := ⟨hgl, hgR, hr, ok, h0⟩
  unfold d_X4_keep at h
  show AE U G 1 2 0 60 r 0 V 0 [some (.ref (2))] []
  refine AE.run K eX4_keep 0 2 (show am_run 1 ((tX4_keep.drop 0).take 2) 0 [some (.ref (2))] [] = some (2, [some (.ref (2))], [.ref (2), .ref (2)]) from rfl) ?_
  refine AE.getI K gf_X4_17 rfl rfl (am_at eX4_keep 2 rfl) ?_
  refine AE.run K eX4_keep 3 3 (show am_run 1 ((tX4_keep.drop 3).take 3) 5 [some (.ref (2))] [.int (V 2 1), .ref (2)] = some (9, [some (.ref (2))], [.int (nI 9), .int ((V 2 1) + (nI 1)), .ref (2)]) from rfl) ?_
  refine AE.irem K (am_at eX4_keep 6 rfl) h (fun h => ?_)
  refine AE.putI K pf_X4_17 rfl rfl rfl (am_at eX4_keep 7 rfl) h (fun V1 h => ?_)
  refine AE.run K eX4_keep 8 2 (show am_run 1 ((tX4_keep.drop 8).take 2) 13 [some (.ref (2))] [] = some (15, [some (.ref (2))], [.ref (2), .ref (2)]) from rfl) ?_
  refine AE.getI K gf_X4_21 rfl rfl (am_at eX4_keep 10 rfl) ?_
  refine AE.run K eX4_keep 11 3 (show am_run 1 ((tX4_keep.drop 11).take 3) 18 [some (.ref (2))] [.int (V1 2 2), .ref (2)] = some (22, [some (.ref (2))], [.int (nI 8), .int ((V1 2 2) + (nI 1)), .ref (2)]) from rfl) ?_
  refine AE.mmin K mm_X4_29 (by decide) (Nat.le_of_ble_eq_true rfl) (by omega) (am_at eX4_keep 14 rfl) ?_
  refine AE.putI K pf_X4_21 rfl rfl rfl (am_at eX4_keep 15 rfl) h (fun V2 h => ?_)
  exact AE.vret K (by omega) (am_at eX4_keep 16 rfl) h
def d_X4_stepBack (i : Nat) (V : am_V) : am_R := rB (fun (V_46 : am_V) => some (.inl none, V_46)) (fun (j46 : am_V → am_R) => (if (V 2 2) ≤ 0 then j46 V else rG (decide (¬ (nI 9) = 0)) (rV (am_set V 2 1 (am_rm (((V 2 1) + (nI 9)) - (nI 1)) (nI 9))) (fun (V1 : am_V) => rV (am_set V1 2 2 ((V1 2 2) - (nI 1))) (fun (V2 : am_V) => rG (am_in (V2 2 1) 9) (rU (d_X8_copyFrom i ((3 + iN (V2 2 1))) V2) (fun (V3 : am_V) => j46 V3)))))))
set_option maxRecDepth 100000 in
set_option maxHeartbeats 4000000 in
theorem kX4_stepBack {U : am_U} {l : Launch} (B : am_base xx U) (hfl : l.stackTraces = false) {V : am_V} {i : Nat} (hi : i < 12) {r : (Option Value ⊕ String) × am_V} (h : d_X4_stepBack i V = some r) : am_Ct xx U l yX4_stepBack cX4_stepBack 2 none (rk 4 0 102) [.ref (2), .ref (sS i)] V (am_is r.1 r.2) := by
  refine am_Ct.of B hfl (by decide) (Nat.le_of_ble_eq_true rfl) ?_
  intro G hgl hgR hr ok h0 hex
  have K : aK U l G RX4 cX4_stepBack 2 none 4 0 102 := ⟨hgl, hgR, hr, ok, h0⟩
  unfold d_X4_stepBack at h
  show AE U G 2 4 0 102 r 0 V 0 [some (.ref (2)), some (.ref (sS i))] []
  refine AE.run K eX4_stepBack 0 1 (show am_run 2 ((tX4_stepBack.drop 0).take 1) 0 [some (.ref (2)), some (.ref (sS i))] [] = some (1, [some (.ref (2)), some (.ref (sS i))], [.ref (2)]) from rfl) ?_
  refine AE.getI K gf_X4_21 rfl rfl (am_at eX4_stepBack 1 rfl) ?_
  refine rB_of (P := fun (j : am_V → am_R) => ∀ (V_46 : am_V), j V_46 = some r → AE U G 2 4 0 102 r 0 V_46 46 [none, none] []) h (fun V_46 h => ?_) (fun j46 hj46 h => ?_)
  · exact AE.vret K (by omega) (am_at eX4_stepBack 26 rfl) h
  refine AE.if0 K 46 (am_at eX4_stepBack 2 rfl) (by decide) rfl h (fun h => ?_) (fun h => ?_)
  · exact AE.sub (L' := [none, none]) trivial (hj46  V h)
  · refine AE.run K eX4_stepBack 3 2 (show am_run 2 ((tX4_stepBack.drop 3).take 2) 7 [some (.ref (2)), some (.ref (sS i))] [] = some (9, [some (.ref (2)), some (.ref (sS i))], [.ref (2), .ref (2)]) from rfl) ?_
    refine AE.getI K gf_X4_17 rfl rfl (am_at eX4_stepBack 5 rfl) ?_
    refine AE.run K eX4_stepBack 6 5 (show am_run 2 ((tX4_stepBack.drop 6).take 5) 12 [some (.ref (2)), some (.ref (sS i))] [.int (V 2 1), .ref (2)] = some (19, [some (.ref (2)), some (.ref (sS i))], [.int (nI 9), .int (((V 2 1) + (nI 9)) - (nI 1)), .ref (2)]) from rfl) ?_
    refine AE.irem K (am_at eX4_stepBack 11 rfl) h (fun h => ?_)
    refine AE.putI K pf_X4_17 rfl rfl rfl (am_at eX4_stepBack 12 rfl) h (fun V1 h => ?_)
    refine AE.run K eX4_stepBack 13 2 (show am_run 2 ((tX4_stepBack.drop 13).take 2) 23 [some (.ref (2)), some (.ref (sS i))] [] = some (25, [some (.ref (2)), some (.ref (sS i))], [.ref (2), .ref (2)]) from rfl) ?_
    refine AE.getI K gf_X4_21 rfl rfl (am_at eX4_stepBack 15 rfl) ?_
    refine AE.run K eX4_stepBack 16 2 (show am_run 2 ((tX4_stepBack.drop 16).take 2) 28 [some (.ref (2)), some (.ref (sS i))] [.int (V1 2 2), .ref (2)] = some (30, [some (.ref (2)), some (.ref (sS i))], [.int ((V1 2 2) - (nI 1)), .ref (2)]) from rfl) ?_
    refine AE.putI K pf_X4_21 rfl rfl rfl (am_at eX4_stepBack 18 rfl) h (fun V2 h => ?_)
    refine AE.run K eX4_stepBack 19 2 (show am_run 2 ((tX4_stepBack.drop 19).take 2) 33 [some (.ref (2)), some (.ref (sS i))] [] = some (35, [some (.ref (2)), some (.ref (sS i))], [.ref (2), .ref (sS i)]) from rfl) ?_
    refine AE.getR K gf_X4_13 rfl rfl (am_at eX4_stepBack 21 rfl) ?_
    refine AE.run K eX4_stepBack 22 1 (show am_run 2 ((tX4_stepBack.drop 22).take 1) 38 [some (.ref (2)), some (.ref (sS i))] [.ref (3), .ref (sS i)] = some (39, [some (.ref (2)), some (.ref (sS i))], [.ref (2), .ref (3), .ref (sS i)]) from rfl) ?_
    refine AE.getI K gf_X4_17 rfl rfl (am_at eX4_stepBack 23 rfl) ?_
    refine AE.aaldS K (am_at eX4_stepBack 24 rfl) h (fun hs42 h => ?_)
    refine AE.cv (f' := 3) (c' := 0) (lo' := 81) (st := []) (As := [.ref (sS (3 + iN (V2 2 1)))]) (m := d_X8_copyFrom i ((3 + iN (V2 2 1))) V2) K hex (fun q hq => kX8_copyFrom B hfl (i := i) (j := (3 + iN (V2 2 1))) hi hs42 hq) cv_X4_25 (sh_S0 hi) (T := TX8) (N := 9) rfl rfl rfl (Nat.le_of_ble_eq_true rfl) ⟨Nat.le_of_ble_eq_true rfl, Nat.le_of_ble_eq_true rfl⟩ (by omega) (am_at eX4_stepBack 25 rfl) h (rU_some h) (bkU (fun V3 h => ?_))
    exact AE.sub (L' := [none, none]) trivial (hj46  V3 h)
def d_X4_forget (V : am_V) : am_R := rV (am_set V 2 2 (nI 0)) (fun (V1 : am_V) => some (.inl none, V1))
set_option maxRecDepth 100000 in
set_option maxHeartbeats 4000000 in
theorem kX4_forget {U : am_U} {l : Launch} (B : am_base xx U) (hfl : l.stackTraces = false) {V : am_V} {r : (Option Value ⊕ String) × am_V} (h : d_X4_forget V = some r) : am_Ct xx U l yX4_forget cX4_forget 1 none (rk 0 0 0) [.ref (2)] V (am_is r.1 r.2) := by
  refine am_Ct.of B hfl (by decide) (Nat.le_of_ble_eq_true rfl) ?_
  intro G hgl hgR hr ok h0 hex
  have K : aK U l G RX4 cX4_forget 1 none 0 0 0 := ⟨hgl, hgR, hr, ok, h0⟩
  unfold d_X4_forget at h
  show AE U G 1 0 0 0 r 0 V 0 [some (.ref (2))] []
  refine AE.run K eX4_forget 0 2 (show am_run 1 ((tX4_forget.drop 0).take 2) 0 [some (.ref (2))] [] = some (2, [some (.ref (2))], [.int (nI 0), .ref (2)]) from rfl) ?_
  refine AE.putI K pf_X4_21 rfl rfl rfl (am_at eX4_forget 2 rfl) h (fun V1 h => ?_)
  exact AE.vret K (by omega) (am_at eX4_forget 3 rfl) h
