/-! ===== the JDK's methods on texts, over the constants ===== -/
def tJ0_length_8abf5 : List (Nat × Instr × Nat) := [(0, .aload_n 0, 1), (1, .getfield 9, 3), (4, .arraylength, 1), (5, .aload_n 0, 1), (6, .invokevirtual 335, 3), (9, .ishr, 1), (10, .ireturn, 1)]
set_option maxRecDepth 100000 in
theorem eJ0_length_8abf5 : am_dec cJ0_length_8abf5 tJ0_length_8abf5 := am_dec_of (by decide +kernel)
def tJ0_charAt_5068e : List (Nat × Instr × Nat) := [(0, .aload_n 0, 1), (1, .invokevirtual 492, 3), (4, .ifCond .eq 12, 3), (7, .aload_n 0, 1), (8, .getfield 9, 3), (11, .iload_n 1, 1), (12, .invokestatic 495, 3), (15, .ireturn, 1), (16, .aload_n 0, 1), (17, .getfield 9, 3), (20, .iload_n 1, 1), (21, .invokestatic 498, 3), (24, .ireturn, 1)]
set_option maxRecDepth 100000 in
theorem eJ0_charAt_5068e : am_dec cJ0_charAt_5068e tJ0_charAt_5068e := am_dec_of (by decide +kernel)
def tJ0_coder_7d493 : List (Nat × Instr × Nat) := [(0, .getstatic 38, 3), (3, .ifCond .eq 10, 3), (6, .aload_n 0, 1), (7, .getfield 15, 3), (10, .goto 4, 3), (13, .iconst 1, 1), (14, .ireturn, 1)]
set_option maxRecDepth 100000 in
theorem eJ0_coder_7d493 : am_dec cJ0_coder_7d493 tJ0_coder_7d493 := am_dec_of (by decide +kernel)
def tJ0_isLatin1_aae02 : List (Nat × Instr × Nat) := [(0, .getstatic 38, 3), (3, .ifCond .eq 14, 3), (6, .aload_n 0, 1), (7, .getfield 15, 3), (10, .ifCond .ne 7, 3), (13, .iconst 1, 1), (14, .goto 4, 3), (17, .iconst 0, 1), (18, .ireturn, 1)]
set_option maxRecDepth 100000 in
theorem eJ0_isLatin1_aae02 : am_dec cJ0_isLatin1_aae02 tJ0_isLatin1_aae02 := am_dec_of (by decide +kernel)
def tJ0_checkIndex_df160 : List (Nat × Instr × Nat) := [(0, .iload_n 0, 1), (1, .iload_n 1, 1), (2, .getstatic 1053, 3), (5, .invokestatic 1059, 3), (8, .pop, 1), (9, .return_, 1)]
set_option maxRecDepth 100000 in
theorem eJ0_checkIndex_df160 : am_dec cJ0_checkIndex_df160 tJ0_checkIndex_df160 := am_dec_of (by decide +kernel)
def tJ1_charAt_3b067 : List (Nat × Instr × Nat) := [(0, .iload_n 1, 1), (1, .aload_n 0, 1), (2, .arraylength, 1), (3, .invokestatic 9, 3), (6, .aload_n 0, 1), (7, .iload_n 1, 1), (8, .baload, 1), (9, .sipush 255, 3), (12, .iand, 1), (13, .i2c, 1), (14, .ireturn, 1)]
set_option maxRecDepth 100000 in
theorem eJ1_charAt_3b067 : am_dec cJ1_charAt_3b067 tJ1_charAt_3b067 := am_dec_of (by decide +kernel)
def tJ3_checkIndex_8e157 : List (Nat × Instr × Nat) := [(0, .iload_n 0, 1), (1, .ifCond .lt 8, 3), (4, .iload_n 0, 1), (5, .iload_n 1, 1), (6, .if_icmp .lt 10, 3), (9, .aload_n 2, 1), (10, .iload_n 0, 1), (11, .iload_n 1, 1), (12, .invokestatic 95, 3), (15, .athrow, 1), (16, .iload_n 0, 1), (17, .ireturn, 1)]
set_option maxRecDepth 100000 in
theorem eJ3_checkIndex_8e157 : am_dec cJ3_checkIndex_8e157 tJ3_checkIndex_8e157 := am_dec_of (by decide +kernel)
def tJx29ce0_ordinal_8abf5 : List (Nat × Instr × Nat) := [(0, .aload_n 0, 1), (1, .getfield 7, 3), (4, .ireturn, 1)]
set_option maxRecDepth 100000 in
theorem eJx29ce0_ordinal_8abf5 : am_dec cJx29ce0_ordinal_8abf5 tJx29ce0_ordinal_8abf5 := am_dec_of (by decide +kernel)
theorem cv_J0_335 : am_cv xx RJ0 335 yJ0_coder_7d493 cJ0_coder_7d493 1 (some .byte) 0 := ⟨(x_in 717 (by decide +kernel)), (x_in 718 (by decide +kernel)), (x_in 719 (by decide +kernel)), (x_in 59 (by decide +kernel)), (x_in 720 (by decide +kernel)), (by decide +kernel), (by decide +kernel), (by decide +kernel)⟩
theorem cv_J0_492 : am_cv xx RJ0 492 yJ0_isLatin1_aae02 cJ0_isLatin1_aae02 1 (some .boolean) 0 := ⟨(x_in 727 (by decide +kernel)), (x_in 728 (by decide +kernel)), (x_in 729 (by decide +kernel)), (x_in 59 (by decide +kernel)), (x_in 730 (by decide +kernel)), (by decide +kernel), (by decide +kernel), (by decide +kernel)⟩
theorem cs_J0_495 : am_cs xx RJ0 495 yJ1_charAt_3b067 cJ1_charAt_3b067 2 (some .char) 2 := ⟨(x_in 731 (by decide +kernel)), (x_in 732 (by decide +kernel)), (x_in 62 (by decide +kernel)), (x_in 733 (by decide +kernel)), (by decide +kernel), (by decide +kernel), (by decide +kernel)⟩
theorem cs_J1_9 : am_cs xx RJ1 9 yJ0_checkIndex_df160 cJ0_checkIndex_df160 2 none 2 := ⟨(x_in 734 (by decide +kernel)), (x_in 735 (by decide +kernel)), (x_in 59 (by decide +kernel)), (x_in 736 (by decide +kernel)), (by decide +kernel), (by decide +kernel), (by decide +kernel)⟩
theorem cs_J0_1059 : am_cs xx RJ0 1059 yJ3_checkIndex_8e157 cJ3_checkIndex_8e157 3 (some .int) 3 := ⟨(x_in 739 (by decide +kernel)), (x_in 740 (by decide +kernel)), (x_in 63 (by decide +kernel)), (x_in 741 (by decide +kernel)), (by decide +kernel), (by decide +kernel), (by decide +kernel)⟩
theorem cv_X3_65 : am_cv xx RX3 65 yJ0_length_8abf5 cJ0_length_8abf5 1 (some .int) 0 := ⟨(x_in 713 (by decide +kernel)), (x_in 714 (by decide +kernel)), (x_in 715 (by decide +kernel)), (x_in 59 (by decide +kernel)), (x_in 716 (by decide +kernel)), (by decide +kernel), (by decide +kernel), (by decide +kernel)⟩
theorem cv_X3_69 : am_cv xx RX3 69 yJ0_charAt_5068e cJ0_charAt_5068e 2 (some .char) 1 := ⟨(x_in 723 (by decide +kernel)), (x_in 724 (by decide +kernel)), (x_in 725 (by decide +kernel)), (x_in 59 (by decide +kernel)), (x_in 726 (by decide +kernel)), (by decide +kernel), (by decide +kernel), (by decide +kernel)⟩
theorem cv_L_113 : am_cv xx RL 113 yJ0_length_8abf5 cJ0_length_8abf5 1 (some .int) 0 := ⟨(x_in 921 (by decide +kernel)), (x_in 714 (by decide +kernel)), (x_in 715 (by decide +kernel)), (x_in 59 (by decide +kernel)), (x_in 716 (by decide +kernel)), (by decide +kernel), (by decide +kernel), (by decide +kernel)⟩
theorem cv_L_118 : am_cv xx RL 118 yJ0_charAt_5068e cJ0_charAt_5068e 2 (some .char) 1 := ⟨(x_in 922 (by decide +kernel)), (x_in 724 (by decide +kernel)), (x_in 725 (by decide +kernel)), (x_in 59 (by decide +kernel)), (x_in 726 (by decide +kernel)), (by decide +kernel), (by decide +kernel), (by decide +kernel)⟩
theorem cvU_X11_458 : am_cvU xx RX11 "DandelionBroadcast$Kind" 458 ⟨"DandelionBroadcast$Kind", "ordinal", "()I"⟩ yJx29ce0_ordinal_8abf5 cJx29ce0_ordinal_8abf5 1 (some .int) 0 := ⟨x_all [783, 784, 786, 787, 66, 788] (by decide +kernel), rfl, by decide +kernel, by decide +kernel, by decide +kernel⟩
def d_J3_checkIndex_8e157 (x0 x1 : Int32) (V : am_V) : am_R := (if x0 < 0 then none else (if x0 < x1 then some (.inl (some (.int (x0))), V) else none))
set_option maxRecDepth 100000 in
set_option maxHeartbeats 4000000 in
theorem kJ3_checkIndex_8e157_a {U : am_U} {l : Launch} (B : am_base xx U) (hfl : l.stackTraces = false) {V : am_V} {x0 x1 : Int32} {r : (Option Value ⊕ String) × am_V} (h : d_J3_checkIndex_8e157 x0 x1 V = some r) : am_Ct xx U l yJ3_checkIndex_8e157 cJ3_checkIndex_8e157 3 (some .int) (rk 0 0 0) [.int x0, .int x1, .null] V (am_is r.1 r.2) := by
  refine am_Ct.of B hfl (by decide) (Nat.le_of_ble_eq_true rfl) ?_
  intro G hgl hgR hr ok h0 hex
  have K : aK U l G RJ3 cJ3_checkIndex_8e157 3 (some .int) 0 0 0 := ⟨hgl, hgR, hr, ok, h0⟩
  unfold d_J3_checkIndex_8e157 at h
  show AE U G 3 0 0 0 r 0 V 0 [some (.int (x0)), some (.int (x1)), some (.null)] []
  refine AE.run K eJ3_checkIndex_8e157 0 1 (show am_run 3 ((tJ3_checkIndex_8e157.drop 0).take 1) 0 [some (.int (x0)), some (.int (x1)), some (.null)] [] = some (1, [some (.int (x0)), some (.int (x1)), some (.null)], [.int (x0)]) from rfl) ?_
  refine AE.if0 K 9 (am_at eJ3_checkIndex_8e157 1 rfl) (by decide) rfl h (fun h => ?_) (fun h => ?_)
  · cases h
  refine AE.run K eJ3_checkIndex_8e157 2 2 (show am_run 3 ((tJ3_checkIndex_8e157.drop 2).take 2) 4 [some (.int (x0)), some (.int (x1)), some (.null)] [] = some (6, [some (.int (x0)), some (.int (x1)), some (.null)], [.int (x1), .int (x0)]) from rfl) ?_
  refine AE.ic K 16 (am_at eJ3_checkIndex_8e157 4 rfl) (by decide) rfl h (fun h => ?_) (fun h => ?_)
  · refine AE.run K eJ3_checkIndex_8e157 10 1 (show am_run 3 ((tJ3_checkIndex_8e157.drop 10).take 1) 16 [some (.int (x0)), some (.int (x1)), some (.null)] [] = some (17, [some (.int (x0)), some (.int (x1)), some (.null)], [.int (x0)]) from rfl) ?_
    exact AE.iret K (by omega) (am_at eJ3_checkIndex_8e157 11 rfl) h
  · cases h
set_option maxRecDepth 100000 in
set_option maxHeartbeats 4000000 in
theorem kJ3_checkIndex_8e157_b {U : am_U} {l : Launch} (B : am_base xx U) (hfl : l.stackTraces = false) {V : am_V} {x0 x1 : Int32} {r : (Option Value ⊕ String) × am_V} (h : d_J3_checkIndex_8e157 x0 x1 V = some r) : am_Ct xx U l yJ3_checkIndex_8e157 cJ3_checkIndex_8e157 3 (some .int) (rk 0 0 0) [.int x0, .int x1, .ref 997] V (am_is r.1 r.2) := by
  refine am_Ct.of B hfl (by decide) (Nat.le_of_ble_eq_true rfl) ?_
  intro G hgl hgR hr ok h0 hex
  have K : aK U l G RJ3 cJ3_checkIndex_8e157 3 (some .int) 0 0 0 := ⟨hgl, hgR, hr, ok, h0⟩
  unfold d_J3_checkIndex_8e157 at h
  show AE U G 3 0 0 0 r 0 V 0 [some (.int (x0)), some (.int (x1)), some (.ref 997)] []
  refine AE.run K eJ3_checkIndex_8e157 0 1 (show am_run 3 ((tJ3_checkIndex_8e157.drop 0).take 1) 0 [some (.int (x0)), some (.int (x1)), some (.ref 997)] [] = some (1, [some (.int (x0)), some (.int (x1)), some (.ref 997)], [.int (x0)]) from rfl) ?_
  refine AE.if0 K 9 (am_at eJ3_checkIndex_8e157 1 rfl) (by decide) rfl h (fun h => ?_) (fun h => ?_)
  · cases h
  refine AE.run K eJ3_checkIndex_8e157 2 2 (show am_run 3 ((tJ3_checkIndex_8e157.drop 2).take 2) 4 [some (.int (x0)), some (.int (x1)), some (.ref 997)] [] = some (6, [some (.int (x0)), some (.int (x1)), some (.ref 997)], [.int (x1), .int (x0)]) from rfl) ?_
  refine AE.ic K 16 (am_at eJ3_checkIndex_8e157 4 rfl) (by decide) rfl h (fun h => ?_) (fun h => ?_)
  · refine AE.run K eJ3_checkIndex_8e157 10 1 (show am_run 3 ((tJ3_checkIndex_8e157.drop 10).take 1) 16 [some (.int (x0)), some (.int (x1)), some (.ref 997)] [] = some (17, [some (.int (x0)), some (.int (x1)), some (.ref 997)], [.int (x0)]) from rfl) ?_
    exact AE.iret K (by omega) (am_at eJ3_checkIndex_8e157 11 rfl) h
  · cases h
theorem kJ3_checkIndex_8e157 {U : am_U} {l : Launch} (B : am_B2 U) (hfl : l.stackTraces = false) {V : am_V} {x0 x1 : Int32} {v : Value} (hv : v = .null ∨ v = .ref 997) {r : (Option Value ⊕ String) × am_V} (h : d_J3_checkIndex_8e157 x0 x1 V = some r) : am_Ct xx U l yJ3_checkIndex_8e157 cJ3_checkIndex_8e157 3 (some .int) (rk 0 0 0) [.int x0, .int x1, v] V (am_is r.1 r.2) := by
  rcases hv with rfl | rfl
  · exact kJ3_checkIndex_8e157_a B.1 hfl h
  · exact kJ3_checkIndex_8e157_b B.1 hfl h
def d_J0_checkIndex_df160 (x0 : Int32) (x1 : Int32) (V : am_V) : am_R := rI (d_J3_checkIndex_8e157 x0 x1 V) (fun (y2 : Int32) (V1 : am_V) => some (.inl none, V1))
set_option maxRecDepth 100000 in
set_option maxHeartbeats 4000000 in
theorem kJ0_checkIndex_df160 {U : am_U} {l : Launch} (B : am_B2 U) (hfl : l.stackTraces = false) {V : am_V} {x0 : Int32} {x1 : Int32} {r : (Option Value ⊕ String) × am_V} (h : d_J0_checkIndex_df160 x0 x1 V = some r) : am_Ct xx U l yJ0_checkIndex_df160 cJ0_checkIndex_df160 2 none (rk 1 0 22) [.int (x0), .int (x1)] V (am_is r.1 r.2) := by
  refine am_Ct.of B.1 hfl (by decide) (Nat.le_of_ble_eq_true rfl) ?_
  intro G hgl hgR hr ok h0 hex
  have K : aK U l G RJ0 cJ0_checkIndex_df160 2 none 1 0 22 := ⟨hgl, hgR, hr, ok, h0⟩
  unfold d_J0_checkIndex_df160 at h
  show AE U G 2 1 0 22 r 0 V 0 [some (.int (x0)), some (.int (x1))] []
  refine AE.run K eJ0_checkIndex_df160 0 2 (show am_run 2 ((tJ0_checkIndex_df160.drop 0).take 2) 0 [some (.int (x0)), some (.int (x1))] [] = some (2, [some (.int (x0)), some (.int (x1))], [.int (x1), .int (x0)]) from rfl) ?_
  refine AE.getsQ (k := 997) K B.2.2.2.2.2.2 (x_in 737 (by decide +kernel)) (am_at eJ0_checkIndex_df160 2 rfl) (fun v9 hv9 => ?_)
  refine AE.cs (f' := 0) (c' := 0) (lo' := 0) (st := []) (As := [.int (x0), .int (x1), v9]) (m := d_J3_checkIndex_8e157 x0 x1 V) K hex (fun q hq => kJ3_checkIndex_8e157 B hfl hv9 hq) cs_J0_1059 rfl rfl (Nat.le_of_ble_eq_true rfl) ⟨Nat.le_of_ble_eq_true rfl, Nat.le_of_ble_eq_true rfl⟩ (by omega) (am_at eJ0_checkIndex_df160 3 rfl) h (rI_some h) (bkI (fun y2 V1 h => ?_))
  refine AE.run K eJ0_checkIndex_df160 4 1 (show am_run 2 ((tJ0_checkIndex_df160.drop 4).take 1) 8 [some (.int (x0)), some (.int (x1))] [.int (y2)] = some (9, [some (.int (x0)), some (.int (x1))], []) from rfl) ?_
  exact AE.vret K (by omega) (am_at eJ0_checkIndex_df160 5 rfl) h
def d_J1_charAt_3b067 (z : Nat) (x1 : Int32) (V : am_V) : am_R := rU (d_J0_checkIndex_df160 x1 (Int32.ofNat (xLEN.getD z 0)) V) (fun (V1 : am_V) => rG (am_in x1 (xLEN.getD z 0)) (rG (am_nc (am_i2c (((txB.getD z []).getD (iN x1) 0) &&& (nI 255)))) (some (.inl (some (.int (am_i2c (((txB.getD z []).getD (iN x1) 0) &&& (nI 255))))), V1))))
set_option maxRecDepth 100000 in
set_option maxHeartbeats 4000000 in
theorem kJ1_charAt_3b067 {U : am_U} {l : Launch} (B : am_B2 U) (hfl : l.stackTraces = false) {V : am_V} {z : Nat} {x1 : Int32} (hz : z < 39) {r : (Option Value ⊕ String) × am_V} (h : d_J1_charAt_3b067 z x1 V = some r) : am_Ct xx U l yJ1_charAt_3b067 cJ1_charAt_3b067 2 (some .char) (rk 2 0 43) [.ref (500 + z), .int (x1)] V (am_is r.1 r.2) := by
  refine am_Ct.of B.1 hfl (by decide) (Nat.le_of_ble_eq_true rfl) ?_
  intro G hgl hgR hr ok h0 hex
  have K : aK U l G RJ1 cJ1_charAt_3b067 2 (some .char) 2 0 43 := ⟨hgl, hgR, hr, ok, h0⟩
  unfold d_J1_charAt_3b067 at h
  show AE U G 2 2 0 43 r 0 V 0 [some (.ref (500 + z)), some (.int (x1))] []
  refine AE.run K eJ1_charAt_3b067 0 2 (show am_run 2 ((tJ1_charAt_3b067.drop 0).take 2) 0 [some (.ref (500 + z)), some (.int (x1))] [] = some (2, [some (.ref (500 + z)), some (.int (x1))], [.ref (500 + z), .int (x1)]) from rfl) ?_
  refine AE.alenC K (B.2.1 z hz).2.2.2 (am_at eJ1_charAt_3b067 2 rfl) ?_
  refine AE.cs (f' := 1) (c' := 0) (lo' := 22) (st := []) (As := [.int (x1), .int (Int32.ofNat (xLEN.getD z 0))]) (m := d_J0_checkIndex_df160 x1 (Int32.ofNat (xLEN.getD z 0)) V) K hex (fun q hq => kJ0_checkIndex_df160 B hfl  hq) cs_J1_9 rfl rfl (Nat.le_of_ble_eq_true rfl) ⟨Nat.le_of_ble_eq_true rfl, Nat.le_of_ble_eq_true rfl⟩ (by omega) (am_at eJ1_charAt_3b067 3 rfl) h (rU_some h) (bkU (fun V1 h => ?_))
  refine AE.run K eJ1_charAt_3b067 4 2 (show am_run 2 ((tJ1_charAt_3b067.drop 4).take 2) 6 [some (.ref (500 + z)), some (.int (x1))] [] = some (8, [some (.ref (500 + z)), some (.int (x1))], [.int (x1), .ref (500 + z)]) from rfl) ?_
  refine AE.baldT K B.2 hz (am_at eJ1_charAt_3b067 6 rfl) h (fun h => ?_)
  refine AE.run K eJ1_charAt_3b067 7 3 (show am_run 2 ((tJ1_charAt_3b067.drop 7).take 3) 9 [some (.ref (500 + z)), some (.int (x1))] [.int ((txB.getD z []).getD (iN x1) 0)] = some (14, [some (.ref (500 + z)), some (.int (x1))], [.int (am_i2c (((txB.getD z []).getD (iN x1) 0) &&& (nI 255)))]) from rfl) ?_
  exact AE.cret K (by omega) (am_at eJ1_charAt_3b067 10 rfl) h
def d_J0_isLatin1_aae02 (z : Nat) (V : am_V) : am_R := rB (fun (bs0_18 : Int32) (V_18 : am_V) => rG (am_nb bs0_18) (some (.inl (some (.int (bs0_18))), V_18))) (fun (j18 : Int32 → am_V → am_R) => (if (nI 1) = 0 then none else (if ¬ ((0 : Int32)) = 0 then none else j18 (nI 1) V)))
set_option maxRecDepth 100000 in
set_option maxHeartbeats 4000000 in
theorem kJ0_isLatin1_aae02 {U : am_U} {l : Launch} (B : am_B2 U) (hfl : l.stackTraces = false) {V : am_V} {z : Nat} (hz : z < 39) {r : (Option Value ⊕ String) × am_V} (h : d_J0_isLatin1_aae02 z V = some r) : am_Ct xx U l yJ0_isLatin1_aae02 cJ0_isLatin1_aae02 1 (some .boolean) (rk 0 0 0) [.ref (400 + z)] V (am_is r.1 r.2) := by
  refine am_Ct.of B.1 hfl (by decide) (Nat.le_of_ble_eq_true rfl) ?_
  intro G hgl hgR hr ok h0 hex
  have K : aK U l G RJ0 cJ0_isLatin1_aae02 1 (some .boolean) 0 0 0 := ⟨hgl, hgR, hr, ok, h0⟩
  unfold d_J0_isLatin1_aae02 at h
  show AE U G 1 0 0 0 r 0 V 0 [some (.ref (400 + z))] []
  refine AE.gets K (List.mem_of_getElem? (i := 0) rfl) (x_in 721 (by decide +kernel)) (am_at eJ0_isLatin1_aae02 0 rfl) ?_
  refine rB_of (P := fun (j : Int32 → am_V → am_R) => ∀ (bs0_18 : Int32) (V_18 : am_V), j bs0_18 V_18 = some r → AE U G 1 0 0 0 r 0 V_18 18 [none] [.int (bs0_18)]) h (fun bs0_18 V_18 h => ?_) (fun j18 hj18 h => ?_)
  · exact AE.zret K (by omega) (am_at eJ0_isLatin1_aae02 8 rfl) h
  refine AE.if0 K 17 (am_at eJ0_isLatin1_aae02 1 rfl) (by decide) rfl h (fun h => ?_) (fun h => ?_)
  · cases h
  · refine AE.run K eJ0_isLatin1_aae02 2 1 (show am_run 1 ((tJ0_isLatin1_aae02.drop 2).take 1) 6 [some (.ref (400 + z))] [] = some (7, [some (.ref (400 + z))], [.ref (400 + z)]) from rfl) ?_
    refine AE.getC (v := .int 0) K (B.2.1 z hz).2.1 (x_in 1464 (by decide +kernel)) (am_at eJ0_isLatin1_aae02 3 rfl) ?_
    refine AE.if0 K 17 (am_at eJ0_isLatin1_aae02 4 rfl) (by decide) rfl h (fun h => ?_) (fun h => ?_)
    · cases h
    · refine AE.run K eJ0_isLatin1_aae02 5 2 (show am_run 1 ((tJ0_isLatin1_aae02.drop 5).take 2) 13 [some (.ref (400 + z))] [] = some (18, [some (.ref (400 + z))], [.int (nI 1)]) from rfl) ?_
      exact AE.sub (L' := [none]) trivial (hj18 (nI 1) V h)
def d_J0_coder_7d493 (z : Nat) (V : am_V) : am_R := rB (fun (bs0_14 : Int32) (V_14 : am_V) => rG (am_by bs0_14) (some (.inl (some (.int (bs0_14))), V_14))) (fun (j14 : Int32 → am_V → am_R) => (if (nI 1) = 0 then none else j14 ((0 : Int32)) V))
set_option maxRecDepth 100000 in
set_option maxHeartbeats 4000000 in
theorem kJ0_coder_7d493 {U : am_U} {l : Launch} (B : am_B2 U) (hfl : l.stackTraces = false) {V : am_V} {z : Nat} (hz : z < 39) {r : (Option Value ⊕ String) × am_V} (h : d_J0_coder_7d493 z V = some r) : am_Ct xx U l yJ0_coder_7d493 cJ0_coder_7d493 1 (some .byte) (rk 0 0 0) [.ref (400 + z)] V (am_is r.1 r.2) := by
  refine am_Ct.of B.1 hfl (by decide) (Nat.le_of_ble_eq_true rfl) ?_
  intro G hgl hgR hr ok h0 hex
  have K : aK U l G RJ0 cJ0_coder_7d493 1 (some .byte) 0 0 0 := ⟨hgl, hgR, hr, ok, h0⟩
  unfold d_J0_coder_7d493 at h
  show AE U G 1 0 0 0 r 0 V 0 [some (.ref (400 + z))] []
  refine AE.gets K (List.mem_of_getElem? (i := 0) rfl) (x_in 721 (by decide +kernel)) (am_at eJ0_coder_7d493 0 rfl) ?_
  refine rB_of (P := fun (j : Int32 → am_V → am_R) => ∀ (bs0_14 : Int32) (V_14 : am_V), j bs0_14 V_14 = some r → AE U G 1 0 0 0 r 0 V_14 14 [none] [.int (bs0_14)]) h (fun bs0_14 V_14 h => ?_) (fun j14 hj14 h => ?_)
  · exact AE.bret K (by omega) (am_at eJ0_coder_7d493 6 rfl) h
  refine AE.if0 K 13 (am_at eJ0_coder_7d493 1 rfl) (by decide) rfl h (fun h => ?_) (fun h => ?_)
  · cases h
  · refine AE.run K eJ0_coder_7d493 2 1 (show am_run 1 ((tJ0_coder_7d493.drop 2).take 1) 6 [some (.ref (400 + z))] [] = some (7, [some (.ref (400 + z))], [.ref (400 + z)]) from rfl) ?_
    refine AE.getC (v := .int 0) K (B.2.1 z hz).2.1 (x_in 1464 (by decide +kernel)) (am_at eJ0_coder_7d493 3 rfl) ?_
    refine AE.run K eJ0_coder_7d493 4 1 (show am_run 1 ((tJ0_coder_7d493.drop 4).take 1) 10 [some (.ref (400 + z))] [.int ((0 : Int32))] = some (14, [some (.ref (400 + z))], [.int ((0 : Int32))]) from rfl) ?_
    exact AE.sub (L' := [none]) trivial (hj14 ((0 : Int32)) V h)
def d_J0_charAt_5068e (z : Nat) (x1 : Int32) (V : am_V) : am_R := rI (d_J0_isLatin1_aae02 z V) (fun (y2 : Int32) (V1 : am_V) => (if y2 = 0 then none else rI (d_J1_charAt_3b067 z x1 V1) (fun (y4 : Int32) (V3 : am_V) => rG (am_nc y4) (some (.inl (some (.int (y4))), V3)))))
set_option maxRecDepth 100000 in
set_option maxHeartbeats 4000000 in
theorem kJ0_charAt_5068e {U : am_U} {l : Launch} (B : am_B2 U) (hfl : l.stackTraces = false) {V : am_V} {z : Nat} {x1 : Int32} (hz : z < 39) {r : (Option Value ⊕ String) × am_V} (h : d_J0_charAt_5068e z x1 V = some r) : am_Ct xx U l yJ0_charAt_5068e cJ0_charAt_5068e 2 (some .char) (rk 3 0 64) [.ref (400 + z), .int (x1)] V (am_is r.1 r.2) := by
  refine am_Ct.of B.1 hfl (by decide) (Nat.le_of_ble_eq_true rfl) ?_
  intro G hgl hgR hr ok h0 hex
  have K : aK U l G RJ0 cJ0_charAt_5068e 2 (some .char) 3 0 64 := ⟨hgl, hgR, hr, ok, h0⟩
  unfold d_J0_charAt_5068e at h
  show AE U G 2 3 0 64 r 0 V 0 [some (.ref (400 + z)), some (.int (x1))] []
  refine AE.run K eJ0_charAt_5068e 0 1 (show am_run 2 ((tJ0_charAt_5068e.drop 0).take 1) 0 [some (.ref (400 + z)), some (.int (x1))] [] = some (1, [some (.ref (400 + z)), some (.int (x1))], [.ref (400 + z)]) from rfl) ?_
  refine AE.cvC (f' := 0) (c' := 0) (lo' := 0) (st := []) (As := []) (m := d_J0_isLatin1_aae02 z V) K hex (fun q hq => kJ0_isLatin1_aae02 B hfl (z := z) hz hq) cv_J0_492 (B.2.1 z hz).1 rfl rfl (Nat.le_of_ble_eq_true rfl) ⟨Nat.le_of_ble_eq_true rfl, Nat.le_of_ble_eq_true rfl⟩ (by omega) (am_at eJ0_charAt_5068e 1 rfl) h (rI_some h) (bkI (fun y2 V1 h => ?_))
  refine AE.if0 K 16 (am_at eJ0_charAt_5068e 2 rfl) (by decide) rfl h (fun h => ?_) (fun h => ?_)
  · cases h
  · refine AE.run K eJ0_charAt_5068e 3 1 (show am_run 2 ((tJ0_charAt_5068e.drop 3).take 1) 7 [some (.ref (400 + z)), some (.int (x1))] [] = some (8, [some (.ref (400 + z)), some (.int (x1))], [.ref (400 + z)]) from rfl) ?_
    refine AE.getC (v := .ref (500 + z)) K (B.2.1 z hz).2.2.1 (x_in 1463 (by decide +kernel)) (am_at eJ0_charAt_5068e 4 rfl) ?_
    refine AE.run K eJ0_charAt_5068e 5 1 (show am_run 2 ((tJ0_charAt_5068e.drop 5).take 1) 11 [some (.ref (400 + z)), some (.int (x1))] [.ref (500 + z)] = some (12, [some (.ref (400 + z)), some (.int (x1))], [.int (x1), .ref (500 + z)]) from rfl) ?_
    refine AE.cs (f' := 2) (c' := 0) (lo' := 43) (st := []) (As := [.ref (500 + z), .int (x1)]) (m := d_J1_charAt_3b067 z x1 V1) K hex (fun q hq => kJ1_charAt_3b067 B hfl (z := z) hz hq) cs_J0_495 rfl rfl (Nat.le_of_ble_eq_true rfl) ⟨Nat.le_of_ble_eq_true rfl, Nat.le_of_ble_eq_true rfl⟩ (by omega) (am_at eJ0_charAt_5068e 6 rfl) h (rI_some h) (bkI (fun y4 V3 h => ?_))
    exact AE.cret K (by omega) (am_at eJ0_charAt_5068e 7 rfl) h
def d_J0_length_8abf5 (z : Nat) (V : am_V) : am_R := rI (d_J0_coder_7d493 z V) (fun (y2 : Int32) (V1 : am_V) => some (.inl (some (.int ((Int32.ofNat (xLEN.getD z 0)) >>> (y2 &&& 31)))), V1))
set_option maxRecDepth 100000 in
set_option maxHeartbeats 4000000 in
theorem kJ0_length_8abf5 {U : am_U} {l : Launch} (B : am_B2 U) (hfl : l.stackTraces = false) {V : am_V} {z : Nat} (hz : z < 39) {r : (Option Value ⊕ String) × am_V} (h : d_J0_length_8abf5 z V = some r) : am_Ct xx U l yJ0_length_8abf5 cJ0_length_8abf5 1 (some .int) (rk 1 0 20) [.ref (400 + z)] V (am_is r.1 r.2) := by
  refine am_Ct.of B.1 hfl (by decide) (Nat.le_of_ble_eq_true rfl) ?_
  intro G hgl hgR hr ok h0 hex
  have K : aK U l G RJ0 cJ0_length_8abf5 1 (some .int) 1 0 20 := ⟨hgl, hgR, hr, ok, h0⟩
  unfold d_J0_length_8abf5 at h
  show AE U G 1 1 0 20 r 0 V 0 [some (.ref (400 + z))] []
  refine AE.run K eJ0_length_8abf5 0 1 (show am_run 1 ((tJ0_length_8abf5.drop 0).take 1) 0 [some (.ref (400 + z))] [] = some (1, [some (.ref (400 + z))], [.ref (400 + z)]) from rfl) ?_
  refine AE.getC (v := .ref (500 + z)) K (B.2.1 z hz).2.2.1 (x_in 1463 (by decide +kernel)) (am_at eJ0_length_8abf5 1 rfl) ?_
  refine AE.alenC K (B.2.1 z hz).2.2.2 (am_at eJ0_length_8abf5 2 rfl) ?_
  refine AE.run K eJ0_length_8abf5 3 1 (show am_run 1 ((tJ0_length_8abf5.drop 3).take 1) 5 [some (.ref (400 + z))] [.int (Int32.ofNat (xLEN.getD z 0))] = some (6, [some (.ref (400 + z))], [.ref (400 + z), .int (Int32.ofNat (xLEN.getD z 0))]) from rfl) ?_
  refine AE.cvC (f' := 0) (c' := 0) (lo' := 0) (st := [.int (Int32.ofNat (xLEN.getD z 0))]) (As := []) (m := d_J0_coder_7d493 z V) K hex (fun q hq => kJ0_coder_7d493 B hfl (z := z) hz hq) cv_J0_335 (B.2.1 z hz).1 rfl rfl (Nat.le_of_ble_eq_true rfl) ⟨Nat.le_of_ble_eq_true rfl, Nat.le_of_ble_eq_true rfl⟩ (by omega) (am_at eJ0_length_8abf5 4 rfl) h (rI_some h) (bkI (fun y2 V1 h => ?_))
  refine AE.run K eJ0_length_8abf5 5 1 (show am_run 1 ((tJ0_length_8abf5.drop 5).take 1) 9 [some (.ref (400 + z))] [.int (y2), .int (Int32.ofNat (xLEN.getD z 0))] = some (10, [some (.ref (400 + z))], [.int ((Int32.ofNat (xLEN.getD z 0)) >>> (y2 &&& 31))]) from rfl) ?_
  exact AE.iret K (by omega) (am_at eJ0_length_8abf5 6 rfl) h
def d_Jx29ce0_ordinal_8abf5 (kd : Nat) (V : am_V) : am_R := some (.inl (some (.int (nI kd))), V)
set_option maxRecDepth 100000 in
set_option maxHeartbeats 4000000 in
theorem kJx29ce0_ordinal_8abf5 {U : am_U} {l : Launch} (B : am_B2 U) (hfl : l.stackTraces = false) {V : am_V} {kd : Nat} (hkd : kd < 11) {r : (Option Value ⊕ String) × am_V} (h : d_Jx29ce0_ordinal_8abf5 kd V = some r) : am_Ct xx U l yJx29ce0_ordinal_8abf5 cJx29ce0_ordinal_8abf5 1 (some .int) (rk 0 0 0) [.ref (300 + kd)] V (am_is r.1 r.2) := by
  refine am_Ct.of B.1 hfl (by decide) (Nat.le_of_ble_eq_true rfl) ?_
  intro G hgl hgR hr ok h0 hex
  have K : aK U l G RJx29ce0 cJx29ce0_ordinal_8abf5 1 (some .int) 0 0 0 := ⟨hgl, hgR, hr, ok, h0⟩
  unfold d_Jx29ce0_ordinal_8abf5 at h
  show AE U G 1 0 0 0 r 0 V 0 [some (.ref (300 + kd))] []
  refine AE.run K eJx29ce0_ordinal_8abf5 0 1 (show am_run 1 ((tJx29ce0_ordinal_8abf5.drop 0).take 1) 0 [some (.ref (300 + kd))] [] = some (1, [some (.ref (300 + kd))], [.ref (300 + kd)]) from rfl) ?_
  refine AE.getC (v := .int (nI kd)) K (B.2.2.1 kd hkd).2.2 (x_in 1466 (by decide +kernel)) (am_at eJx29ce0_ordinal_8abf5 1 rfl) ?_
  exact AE.iret K (by omega) (am_at eJx29ce0_ordinal_8abf5 2 rfl) h
