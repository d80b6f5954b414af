def d_J6_bitCount_0f7a4 (x0 : Int32) (V : am_V) : am_R := some (.inl (some (.int ((((((((x0 - ((am_us x0 (nI 1)) &&& ((1431655765 : Int32)))) &&& ((858993459 : Int32))) + ((am_us (x0 - ((am_us x0 (nI 1)) &&& ((1431655765 : Int32)))) (nI 2)) &&& ((858993459 : Int32)))) + (am_us (((x0 - ((am_us x0 (nI 1)) &&& ((1431655765 : Int32)))) &&& ((858993459 : Int32))) + ((am_us (x0 - ((am_us x0 (nI 1)) &&& ((1431655765 : Int32)))) (nI 2)) &&& ((858993459 : Int32)))) (nI 4))) &&& ((252645135 : Int32))) + (am_us (((((x0 - ((am_us x0 (nI 1)) &&& ((1431655765 : Int32)))) &&& ((858993459 : Int32))) + ((am_us (x0 - ((am_us x0 (nI 1)) &&& ((1431655765 : Int32)))) (nI 2)) &&& ((858993459 : Int32)))) + (am_us (((x0 - ((am_us x0 (nI 1)) &&& ((1431655765 : Int32)))) &&& ((858993459 : Int32))) + ((am_us (x0 - ((am_us x0 (nI 1)) &&& ((1431655765 : Int32)))) (nI 2)) &&& ((858993459 : Int32)))) (nI 4))) &&& ((252645135 : Int32))) (nI 8))) + (am_us ((((((x0 - ((am_us x0 (nI 1)) &&& ((1431655765 : Int32)))) &&& ((858993459 : Int32))) + ((am_us (x0 - ((am_us x0 (nI 1)) &&& ((1431655765 : Int32)))) (nI 2)) &&& ((858993459 : Int32)))) + (am_us (((x0 - ((am_us x0 (nI 1)) &&& ((1431655765 : Int32)))) &&& ((858993459 : Int32))) + ((am_us (x0 - ((am_us x0 (nI 1)) &&& ((1431655765 : Int32)))) (nI 2)) &&& ((858993459 : Int32)))) (nI 4))) &&& ((252645135 : Int32))) + (am_us (((((x0 - ((am_us x0 (nI 1)) &&& ((1431655765 : Int32)))) &&& ((858993459 : Int32))) + ((am_us (x0 - ((am_us x0 (nI 1)) &&& ((1431655765 : Int32)))) (nI 2)) &&& ((858993459 : Int32)))) + (am_us (((x0 - ((am_us x0 (nI 1)) &&& ((1431655765 : Int32)))) &&& ((858993459 : Int32))) + ((am_us (x0 - ((am_us x0 (nI 1)) &&& ((1431655765 : Int32)))) (nI 2)) &&& ((858993459 : Int32)))) (nI 4))) &&& ((252645135 : Int32))) (nI 8))) (nI 16))) &&& (nI 63)))), V)
set_option maxRecDepth 100000 in
set_option maxHeartbeats 4000000 in
theorem kJ6_bitCount_0f7a4 {U : am_U} {l : Launch} (B : am_base xx U) (hfl : l.stackTraces = false) {V : am_V} {x0 : Int32} {r : (Option Value ⊕ String) × am_V} (h : d_J6_bitCount_0f7a4 x0 V = some r) : am_Ct xx U l yJ6_bitCount_0f7a4 cJ6_bitCount_0f7a4 1 (some .int) (rk 0 0 0) [.int (x0)] V (am_is r.1 r.2) := by
  refine am_Ct.of B hfl (by decide) (Nat.le_of_ble_eq_true rfl) ?_
  intro G hgl hgR hr ok h0 hex
  have K : aK U l G RJ6 cJ6_bitCount_0f7a4 1 (some .int) 0 0 0 := ⟨hgl, hgR, hr, ok, h0⟩
  unfold d_J6_bitCount_0f7a4 at h
  show AE U G 1 0 0 0 r 0 V 0 [some (.int (x0))] []
  refine AE.run K eJ6_bitCount_0f7a4 0 4 (show am_run 1 ((tJ6_bitCount_0f7a4.drop 0).take 4) 0 [some (.int (x0))] [] = some (4, [some (.int (x0))], [.int (am_us x0 (nI 1)), .int (x0)]) from rfl) ?_
  refine AE.ldcwI (index := 265) (v := 1431655765) K (x_in 646 (by decide +kernel)) (am_at eJ6_bitCount_0f7a4 4 rfl) ?_
  refine AE.run K eJ6_bitCount_0f7a4 5 4 (show am_run 1 ((tJ6_bitCount_0f7a4.drop 5).take 4) 7 [some (.int (x0))] [.int ((1431655765 : Int32)), .int (am_us x0 (nI 1)), .int (x0)] = some (11, [some (.int (x0 - ((am_us x0 (nI 1)) &&& ((1431655765 : Int32)))))], [.int (x0 - ((am_us x0 (nI 1)) &&& ((1431655765 : Int32))))]) from rfl) ?_
  refine AE.ldcwI (index := 266) (v := 858993459) K (x_in 647 (by decide +kernel)) (am_at eJ6_bitCount_0f7a4 9 rfl) ?_
  refine AE.run K eJ6_bitCount_0f7a4 10 4 (show am_run 1 ((tJ6_bitCount_0f7a4.drop 10).take 4) 14 [some (.int (x0 - ((am_us x0 (nI 1)) &&& ((1431655765 : Int32)))))] [.int ((858993459 : Int32)), .int (x0 - ((am_us x0 (nI 1)) &&& ((1431655765 : Int32))))] = some (18, [some (.int (x0 - ((am_us x0 (nI 1)) &&& ((1431655765 : Int32)))))], [.int (am_us (x0 - ((am_us x0 (nI 1)) &&& ((1431655765 : Int32)))) (nI 2)), .int ((x0 - ((am_us x0 (nI 1)) &&& ((1431655765 : Int32)))) &&& ((858993459 : Int32)))]) from rfl) ?_
  refine AE.ldcwI (index := 266) (v := 858993459) K (x_in 647 (by decide +kernel)) (am_at eJ6_bitCount_0f7a4 14 rfl) ?_
  refine AE.run K eJ6_bitCount_0f7a4 15 8 (show am_run 1 ((tJ6_bitCount_0f7a4.drop 15).take 8) 21 [some (.int (x0 - ((am_us x0 (nI 1)) &&& ((1431655765 : Int32)))))] [.int ((858993459 : Int32)), .int (am_us (x0 - ((am_us x0 (nI 1)) &&& ((1431655765 : Int32)))) (nI 2)), .int ((x0 - ((am_us x0 (nI 1)) &&& ((1431655765 : Int32)))) &&& ((858993459 : Int32)))] = some (29, [some (.int (((x0 - ((am_us x0 (nI 1)) &&& ((1431655765 : Int32)))) &&& ((858993459 : Int32))) + ((am_us (x0 - ((am_us x0 (nI 1)) &&& ((1431655765 : Int32)))) (nI 2)) &&& ((858993459 : Int32)))))], [.int ((((x0 - ((am_us x0 (nI 1)) &&& ((1431655765 : Int32)))) &&& ((858993459 : Int32))) + ((am_us (x0 - ((am_us x0 (nI 1)) &&& ((1431655765 : Int32)))) (nI 2)) &&& ((858993459 : Int32)))) + (am_us (((x0 - ((am_us x0 (nI 1)) &&& ((1431655765 : Int32)))) &&& ((858993459 : Int32))) + ((am_us (x0 - ((am_us x0 (nI 1)) &&& ((1431655765 : Int32)))) (nI 2)) &&& ((858993459 : Int32)))) (nI 4)))]) from rfl) ?_
  refine AE.ldcwI (index := 267) (v := 252645135) K (x_in 648 (by decide +kernel)) (am_at eJ6_bitCount_0f7a4 23 rfl) ?_
  refine AE.run K eJ6_bitCount_0f7a4 24 17 (show am_run 1 ((tJ6_bitCount_0f7a4.drop 24).take 17) 32 [some (.int (((x0 - ((am_us x0 (nI 1)) &&& ((1431655765 : Int32)))) &&& ((858993459 : Int32))) + ((am_us (x0 - ((am_us x0 (nI 1)) &&& ((1431655765 : Int32)))) (nI 2)) &&& ((858993459 : Int32)))))] [.int ((252645135 : Int32)), .int ((((x0 - ((am_us x0 (nI 1)) &&& ((1431655765 : Int32)))) &&& ((858993459 : Int32))) + ((am_us (x0 - ((am_us x0 (nI 1)) &&& ((1431655765 : Int32)))) (nI 2)) &&& ((858993459 : Int32)))) + (am_us (((x0 - ((am_us x0 (nI 1)) &&& ((1431655765 : Int32)))) &&& ((858993459 : Int32))) + ((am_us (x0 - ((am_us x0 (nI 1)) &&& ((1431655765 : Int32)))) (nI 2)) &&& ((858993459 : Int32)))) (nI 4)))] = some (52, [some (.int (((((((x0 - ((am_us x0 (nI 1)) &&& ((1431655765 : Int32)))) &&& ((858993459 : Int32))) + ((am_us (x0 - ((am_us x0 (nI 1)) &&& ((1431655765 : Int32)))) (nI 2)) &&& ((858993459 : Int32)))) + (am_us (((x0 - ((am_us x0 (nI 1)) &&& ((1431655765 : Int32)))) &&& ((858993459 : Int32))) + ((am_us (x0 - ((am_us x0 (nI 1)) &&& ((1431655765 : Int32)))) (nI 2)) &&& ((858993459 : Int32)))) (nI 4))) &&& ((252645135 : Int32))) + (am_us (((((x0 - ((am_us x0 (nI 1)) &&& ((1431655765 : Int32)))) &&& ((858993459 : Int32))) + ((am_us (x0 - ((am_us x0 (nI 1)) &&& ((1431655765 : Int32)))) (nI 2)) &&& ((858993459 : Int32)))) + (am_us (((x0 - ((am_us x0 (nI 1)) &&& ((1431655765 : Int32)))) &&& ((858993459 : Int32))) + ((am_us (x0 - ((am_us x0 (nI 1)) &&& ((1431655765 : Int32)))) (nI 2)) &&& ((858993459 : Int32)))) (nI 4))) &&& ((252645135 : Int32))) (nI 8))) + (am_us ((((((x0 - ((am_us x0 (nI 1)) &&& ((1431655765 : Int32)))) &&& ((858993459 : Int32))) + ((am_us (x0 - ((am_us x0 (nI 1)) &&& ((1431655765 : Int32)))) (nI 2)) &&& ((858993459 : Int32)))) + (am_us (((x0 - ((am_us x0 (nI 1)) &&& ((1431655765 : Int32)))) &&& ((858993459 : Int32))) + ((am_us (x0 - ((am_us x0 (nI 1)) &&& ((1431655765 : Int32)))) (nI 2)) &&& ((858993459 : Int32)))) (nI 4))) &&& ((252645135 : Int32))) + (am_us (((((x0 - ((am_us x0 (nI 1)) &&& ((1431655765 : Int32)))) &&& ((858993459 : Int32))) + ((am_us (x0 - ((am_us x0 (nI 1)) &&& ((1431655765 : Int32)))) (nI 2)) &&& ((858993459 : Int32)))) + (am_us (((x0 - ((am_us x0 (nI 1)) &&& ((1431655765 : Int32)))) &&& ((858993459 : Int32))) + ((am_us (x0 - ((am_us x0 (nI 1)) &&& ((1431655765 : Int32)))) (nI 2)) &&& ((858993459 : Int32)))) (nI 4))) &&& ((252645135 : Int32))) (nI 8))) (nI 16))))], [.int ((((((((x0 - ((am_us x0 (nI 1)) &&& ((1431655765 : Int32)))) &&& ((858993459 : Int32))) + ((am_us (x0 - ((am_us x0 (nI 1)) &&& ((1431655765 : Int32)))) (nI 2)) &&& ((858993459 : Int32)))) + (am_us (((x0 - ((am_us x0 (nI 1)) &&& ((1431655765 : Int32)))) &&& ((858993459 : Int32))) + ((am_us (x0 - ((am_us x0 (nI 1)) &&& ((1431655765 : Int32)))) (nI 2)) &&& ((858993459 : Int32)))) (nI 4))) &&& ((252645135 : Int32))) + (am_us (((((x0 - ((am_us x0 (nI 1)) &&& ((1431655765 : Int32)))) &&& ((858993459 : Int32))) + ((am_us (x0 - ((am_us x0 (nI 1)) &&& ((1431655765 : Int32)))) (nI 2)) &&& ((858993459 : Int32)))) + (am_us (((x0 - ((am_us x0 (nI 1)) &&& ((1431655765 : Int32)))) &&& ((858993459 : Int32))) + ((am_us (x0 - ((am_us x0 (nI 1)) &&& ((1431655765 : Int32)))) (nI 2)) &&& ((858993459 : Int32)))) (nI 4))) &&& ((252645135 : Int32))) (nI 8))) + (am_us ((((((x0 - ((am_us x0 (nI 1)) &&& ((1431655765 : Int32)))) &&& ((858993459 : Int32))) + ((am_us (x0 - ((am_us x0 (nI 1)) &&& ((1431655765 : Int32)))) (nI 2)) &&& ((858993459 : Int32)))) + (am_us (((x0 - ((am_us x0 (nI 1)) &&& ((1431655765 : Int32)))) &&& ((858993459 : Int32))) + ((am_us (x0 - ((am_us x0 (nI 1)) &&& ((1431655765 : Int32)))) (nI 2)) &&& ((858993459 : Int32)))) (nI 4))) &&& ((252645135 : Int32))) + (am_us (((((x0 - ((am_us x0 (nI 1)) &&& ((1431655765 : Int32)))) &&& ((858993459 : Int32))) + ((am_us (x0 - ((am_us x0 (nI 1)) &&& ((1431655765 : Int32)))) (nI 2)) &&& ((858993459 : Int32)))) + (am_us (((x0 - ((am_us x0 (nI 1)) &&& ((1431655765 : Int32)))) &&& ((858993459 : Int32))) + ((am_us (x0 - ((am_us x0 (nI 1)) &&& ((1431655765 : Int32)))) (nI 2)) &&& ((858993459 : Int32)))) (nI 4))) &&& ((252645135 : Int32))) (nI 8))) (nI 16))) &&& (nI 63))]) from rfl) ?_
  exact AE.iret K (by omega) (am_at eJ6_bitCount_0f7a4 41 rfl) h
def d_X11_hasBit (x0 : Int32) (x1 : Int32) (V : am_V) : am_R := rB (fun (bs0_14 : Int32) (V_14 : am_V) => rG (am_nb bs0_14) (some (.inl (some (.int (bs0_14))), V_14))) (fun (j14 : Int32 → am_V → am_R) => (if ¬ ((x0 >>> (x1 &&& 31)) &&& (nI 1)) = (nI 1) then j14 (nI 0) V else j14 (nI 1) V))
set_option maxRecDepth 100000 in
set_option maxHeartbeats 4000000 in
theorem kX11_hasBit {U : am_U} {l : Launch} (B : am_base xx U) (hfl : l.stackTraces = false) {V : am_V} {x0 : Int32} {x1 : Int32} {r : (Option Value ⊕ String) × am_V} (h : d_X11_hasBit x0 x1 V = some r) : am_Ct xx U l yX11_hasBit cX11_hasBit 2 (some .boolean) (rk 0 0 0) [.int (x0), .int (x1)] V (am_is r.1 r.2) := by
  refine am_Ct.of B hfl (by decide) (Nat.le_of_ble_eq_true rfl) ?_
  intro G hgl hgR hr ok h0 hex
  have K : aK U l G RX11 cX11_hasBit 2 (some .boolean) 0 0 0 := ⟨hgl, hgR, hr, ok, h0⟩
  unfold d_X11_hasBit at h
  show AE U G 2 0 0 0 r 0 V 0 [some (.int (x0)), some (.int (x1))] []
  refine AE.run K eX11_hasBit 0 6 (show am_run 2 ((tX11_hasBit.drop 0).take 6) 0 [some (.int (x0)), some (.int (x1))] [] = some (6, [some (.int (x0)), some (.int (x1))], [.int (nI 1), .int ((x0 >>> (x1 &&& 31)) &&& (nI 1))]) from rfl) ?_
  refine rB_of (P := fun (j : Int32 → am_V → am_R) => ∀ (bs0_14 : Int32) (V_14 : am_V), j bs0_14 V_14 = some r → AE U G 2 0 0 0 r 0 V_14 14 [none, none] [.int (bs0_14)]) h (fun bs0_14 V_14 h => ?_) (fun j14 hj14 h => ?_)
  · exact AE.zret K (by omega) (am_at eX11_hasBit 10 rfl) h
  refine AE.ic K 13 (am_at eX11_hasBit 6 rfl) (by decide) rfl h (fun h => ?_) (fun h => ?_)
  · refine AE.run K eX11_hasBit 9 1 (show am_run 2 ((tX11_hasBit.drop 9).take 1) 13 [some (.int (x0)), some (.int (x1))] [] = some (14, [some (.int (x0)), some (.int (x1))], [.int (nI 0)]) from rfl) ?_
    exact AE.sub (L' := [none, none]) trivial (hj14 (nI 0) V h)
  · refine AE.run K eX11_hasBit 7 2 (show am_run 2 ((tX11_hasBit.drop 7).take 2) 9 [some (.int (x0)), some (.int (x1))] [] = some (14, [some (.int (x0)), some (.int (x1))], [.int (nI 1)]) from rfl) ?_
    exact AE.sub (L' := [none, none]) trivial (hj14 (nI 1) V h)
def d_X6_hasField (i : Nat) (x1 : Int32) (V : am_V) : am_R := rB (fun (bs0_17 : Int32) (V_17 : am_V) => rG (am_nb bs0_17) (some (.inl (some (.int (bs0_17))), V_17))) (fun (j17 : Int32 → am_V → am_R) => rB (fun (V_16 : am_V) => j17 (nI 0) V_16) (fun (j16 : am_V → am_R) => (if x1 < 0 then j16 V else (if (V (sS i + 1) 6) ≤ x1 then j16 V else j17 (nI 1) V))))
set_option maxRecDepth 100000 in
set_option maxHeartbeats 4000000 in
theorem kX6_hasField {U : am_U} {l : Launch} (B : am_base xx U) (hfl : l.stackTraces = false) {V : am_V} {i : Nat} {x1 : Int32} (hi : i < 12) {r : (Option Value ⊕ String) × am_V} (h : d_X6_hasField i x1 V = some r) : am_Ct xx U l yX6_hasField cX6_hasField 2 (some .boolean) (rk 0 0 0) [.ref (sS i + 1), .int (x1)] V (am_is r.1 r.2) := by
  refine am_Ct.of B hfl (by decide) (Nat.le_of_ble_eq_true rfl) ?_
  intro G hgl hgR hr ok h0 hex
  have K : aK U l G RX6 cX6_hasField 2 (some .boolean) 0 0 0 := ⟨hgl, hgR, hr, ok, h0⟩
  unfold d_X6_hasField at h
  show AE U G 2 0 0 0 r 0 V 0 [some (.ref (sS i + 1)), some (.int (x1))] []
  refine AE.run K eX6_hasField 0 1 (show am_run 2 ((tX6_hasField.drop 0).take 1) 0 [some (.ref (sS i + 1)), some (.int (x1))] [] = some (1, [some (.ref (sS i + 1)), some (.int (x1))], [.int (x1)]) from rfl) ?_
  refine rB_of (P := fun (j : Int32 → am_V → am_R) => ∀ (bs0_17 : Int32) (V_17 : am_V), j bs0_17 V_17 = some r → AE U G 2 0 0 0 r 0 V_17 17 [none, none] [.int (bs0_17)]) h (fun bs0_17 V_17 h => ?_) (fun j17 hj17 h => ?_)
  · exact AE.zret K (by omega) (am_at eX6_hasField 9 rfl) h
  refine rB_of (P := fun (j : am_V → am_R) => ∀ (V_16 : am_V), j V_16 = some r → AE U G 2 0 0 0 r 0 V_16 16 [none, none] []) h (fun V_16 h => ?_) (fun j16 hj16 h => ?_)
  · refine AE.run K eX6_hasField 8 1 (show am_run 2 ((tX6_hasField.drop 8).take 1) 16 [none, none] [] = some (17, [none, none], [.int (nI 0)]) from rfl) ?_
    exact (hj17 (nI 0) V_16 h)
  refine AE.if0 K 16 (am_at eX6_hasField 1 rfl) (by decide) rfl h (fun h => ?_) (fun h => ?_)
  · exact AE.sub (L' := [none, none]) trivial (hj16  V h)
  · refine AE.run K eX6_hasField 2 2 (show am_run 2 ((tX6_hasField.drop 2).take 2) 4 [some (.ref (sS i + 1)), some (.int (x1))] [] = some (6, [some (.ref (sS i + 1)), some (.int (x1))], [.ref (sS i + 1), .int (x1)]) from rfl) ?_
    refine AE.getI K gf_X6_31 (sh_S1 hi) rfl (am_at eX6_hasField 4 rfl) ?_
    refine AE.ic K 16 (am_at eX6_hasField 5 rfl) (by decide) rfl h (fun h => ?_) (fun h => ?_)
    · exact AE.sub (L' := [none, none]) trivial (hj16  V h)
    · refine AE.run K eX6_hasField 6 2 (show am_run 2 ((tX6_hasField.drop 6).take 2) 12 [some (.ref (sS i + 1)), some (.int (x1))] [] = some (17, [some (.ref (sS i + 1)), some (.int (x1))], [.int (nI 1)]) from rfl) ?_
      exact AE.sub (L' := [none, none]) trivial (hj17 (nI 1) V h)
def d_X6_hasPath (i : Nat) (x1 : Int32) (V : am_V) : am_R := rB (fun (bs0_17 : Int32) (V_17 : am_V) => rG (am_nb bs0_17) (some (.inl (some (.int (bs0_17))), V_17))) (fun (j17 : Int32 → am_V → am_R) => rB (fun (V_16 : am_V) => j17 (nI 0) V_16) (fun (j16 : am_V → am_R) => (if x1 < 0 then j16 V else (if (V (sS i + 1) 7) ≤ x1 then j16 V else j17 (nI 1) V))))
set_option maxRecDepth 100000 in
set_option maxHeartbeats 4000000 in
theorem kX6_hasPath {U : am_U} {l : Launch} (B : am_base xx U) (hfl : l.stackTraces = false) {V : am_V} {i : Nat} {x1 : Int32} (hi : i < 12) {r : (Option Value ⊕ String) × am_V} (h : d_X6_hasPath i x1 V = some r) : am_Ct xx U l yX6_hasPath cX6_hasPath 2 (some .boolean) (rk 0 0 0) [.ref (sS i + 1), .int (x1)] V (am_is r.1 r.2) := by
  refine am_Ct.of B hfl (by decide) (Nat.le_of_ble_eq_true rfl) ?_
  intro G hgl hgR hr ok h0 hex
  have K : aK U l G RX6 cX6_hasPath 2 (some .boolean) 0 0 0 := ⟨hgl, hgR, hr, ok, h0⟩
  unfold d_X6_hasPath at h
  show AE U G 2 0 0 0 r 0 V 0 [some (.ref (sS i + 1)), some (.int (x1))] []
  refine AE.run K eX6_hasPath 0 1 (show am_run 2 ((tX6_hasPath.drop 0).take 1) 0 [some (.ref (sS i + 1)), some (.int (x1))] [] = some (1, [some (.ref (sS i + 1)), some (.int (x1))], [.int (x1)]) from rfl) ?_
  refine rB_of (P := fun (j : Int32 → am_V → am_R) => ∀ (bs0_17 : Int32) (V_17 : am_V), j bs0_17 V_17 = some r → AE U G 2 0 0 0 r 0 V_17 17 [none, none] [.int (bs0_17)]) h (fun bs0_17 V_17 h => ?_) (fun j17 hj17 h => ?_)
  · exact AE.zret K (by omega) (am_at eX6_hasPath 9 rfl) h
  refine rB_of (P := fun (j : am_V → am_R) => ∀ (V_16 : am_V), j V_16 = some r → AE U G 2 0 0 0 r 0 V_16 16 [none, none] []) h (fun V_16 h => ?_) (fun j16 hj16 h => ?_)
  · refine AE.run K eX6_hasPath 8 1 (show am_run 2 ((tX6_hasPath.drop 8).take 1) 16 [none, none] [] = some (17, [none, none], [.int (nI 0)]) from rfl) ?_
    exact (hj17 (nI 0) V_16 h)
  refine AE.if0 K 16 (am_at eX6_hasPath 1 rfl) (by decide) rfl h (fun h => ?_) (fun h => ?_)
  · exact AE.sub (L' := [none, none]) trivial (hj16  V h)
  · refine AE.run K eX6_hasPath 2 2 (show am_run 2 ((tX6_hasPath.drop 2).take 2) 4 [some (.ref (sS i + 1)), some (.int (x1))] [] = some (6, [some (.ref (sS i + 1)), some (.int (x1))], [.ref (sS i + 1), .int (x1)]) from rfl) ?_
    refine AE.getI K gf_X6_34 (sh_S1 hi) rfl (am_at eX6_hasPath 4 rfl) ?_
    refine AE.ic K 16 (am_at eX6_hasPath 5 rfl) (by decide) rfl h (fun h => ?_) (fun h => ?_)
    · exact AE.sub (L' := [none, none]) trivial (hj16  V h)
    · refine AE.run K eX6_hasPath 6 2 (show am_run 2 ((tX6_hasPath.drop 6).take 2) 12 [some (.ref (sS i + 1)), some (.int (x1))] [] = some (17, [some (.ref (sS i + 1)), some (.int (x1))], [.int (nI 1)]) from rfl) ?_
      exact AE.sub (L' := [none, none]) trivial (hj17 (nI 1) V h)
def d_X6_isOpen (i : Nat) (x1 : Int32) (V : am_V) : am_R := rB (fun (bs0_28 : Int32) (V_28 : am_V) => rG (am_nb bs0_28) (some (.inl (some (.int (bs0_28))), V_28))) (fun (j28 : Int32 → am_V → am_R) => rB (fun (V_27 : am_V) => j28 (nI 0) V_27) (fun (j27 : am_V → am_R) => (if x1 < 0 then j27 V else (if (V (sS i + 1) 7) ≤ x1 then j27 V else (if ¬ (((V (sS i + 1) 5) >>> (x1 &&& 31)) &&& (nI 1)) = 0 then j27 V else j28 (nI 1) V)))))
set_option maxRecDepth 100000 in
set_option maxHeartbeats 4000000 in
theorem kX6_isOpen {U : am_U} {l : Launch} (B : am_base xx U) (hfl : l.stackTraces = false) {V : am_V} {i : Nat} {x1 : Int32} (hi : i < 12) {r : (Option Value ⊕ String) × am_V} (h : d_X6_isOpen i x1 V = some r) : am_Ct xx U l yX6_isOpen cX6_isOpen 2 (some .boolean) (rk 0 0 0) [.ref (sS i + 1), .int (x1)] V (am_is r.1 r.2) := by
  refine am_Ct.of B hfl (by decide) (Nat.le_of_ble_eq_true rfl) ?_
  intro G hgl hgR hr ok h0 hex
  have K : aK U l G RX6 cX6_isOpen 2 (some .boolean) 0 0 0 := ⟨hgl, hgR, hr, ok, h0⟩
  unfold d_X6_isOpen at h
  show AE U G 2 0 0 0 r 0 V 0 [some (.ref (sS i + 1)), some (.int (x1))] []
  refine AE.run K eX6_isOpen 0 1 (show am_run 2 ((tX6_isOpen.drop 0).take 1) 0 [some (.ref (sS i + 1)), some (.int (x1))] [] = some (1, [some (.ref (sS i + 1)), some (.int (x1))], [.int (x1)]) from rfl) ?_
  refine rB_of (P := fun (j : Int32 → am_V → am_R) => ∀ (bs0_28 : Int32) (V_28 : am_V), j bs0_28 V_28 = some r → AE U G 2 0 0 0 r 0 V_28 28 [none, none] [.int (bs0_28)]) h (fun bs0_28 V_28 h => ?_) (fun j28 hj28 h => ?_)
  · exact AE.zret K (by omega) (am_at eX6_isOpen 16 rfl) h
  refine rB_of (P := fun (j : am_V → am_R) => ∀ (V_27 : am_V), j V_27 = some r → AE U G 2 0 0 0 r 0 V_27 27 [none, none] []) h (fun V_27 h => ?_) (fun j27 hj27 h => ?_)
  · refine AE.run K eX6_isOpen 15 1 (show am_run 2 ((tX6_isOpen.drop 15).take 1) 27 [none, none] [] = some (28, [none, none], [.int (nI 0)]) from rfl) ?_
    exact (hj28 (nI 0) V_27 h)
  refine AE.if0 K 27 (am_at eX6_isOpen 1 rfl) (by decide) rfl h (fun h => ?_) (fun h => ?_)
  · exact AE.sub (L' := [none, none]) trivial (hj27  V h)
  · refine AE.run K eX6_isOpen 2 2 (show am_run 2 ((tX6_isOpen.drop 2).take 2) 4 [some (.ref (sS i + 1)), some (.int (x1))] [] = some (6, [some (.ref (sS i + 1)), some (.int (x1))], [.ref (sS i + 1), .int (x1)]) from rfl) ?_
    refine AE.getI K gf_X6_34 (sh_S1 hi) rfl (am_at eX6_isOpen 4 rfl) ?_
    refine AE.ic K 27 (am_at eX6_isOpen 5 rfl) (by decide) rfl h (fun h => ?_) (fun h => ?_)
    · exact AE.sub (L' := [none, none]) trivial (hj27  V h)
    · refine AE.run K eX6_isOpen 6 1 (show am_run 2 ((tX6_isOpen.drop 6).take 1) 12 [some (.ref (sS i + 1)), some (.int (x1))] [] = some (13, [some (.ref (sS i + 1)), some (.int (x1))], [.ref (sS i + 1)]) from rfl) ?_
      refine AE.getI K gf_X6_27 (sh_S1 hi) rfl (am_at eX6_isOpen 7 rfl) ?_
      refine AE.run K eX6_isOpen 8 4 (show am_run 2 ((tX6_isOpen.drop 8).take 4) 16 [some (.ref (sS i + 1)), some (.int (x1))] [.int (V (sS i + 1) 5)] = some (20, [some (.ref (sS i + 1)), some (.int (x1))], [.int (((V (sS i + 1) 5) >>> (x1 &&& 31)) &&& (nI 1))]) from rfl) ?_
      refine AE.if0 K 27 (am_at eX6_isOpen 12 rfl) (by decide) rfl h (fun h => ?_) (fun h => ?_)
      · exact AE.sub (L' := [none, none]) trivial (hj27  V h)
      · refine AE.run K eX6_isOpen 13 2 (show am_run 2 ((tX6_isOpen.drop 13).take 2) 23 [some (.ref (sS i + 1)), some (.int (x1))] [] = some (28, [some (.ref (sS i + 1)), some (.int (x1))], [.int (nI 1)]) from rfl) ?_
        exact AE.sub (L' := [none, none]) trivial (hj28 (nI 1) V h)
def d_X6_closedTotal (i : Nat) (V : am_V) : am_R := rI (d_J6_bitCount_0f7a4 (V (sS i + 1) 5) V) (fun (y2 : Int32) (V1 : am_V) => some (.inl (some (.int (y2))), V1))
set_option maxRecDepth 100000 in
set_option maxHeartbeats 4000000 in
theorem kX6_closedTotal {U : am_U} {l : Launch} (B : am_base xx U) (hfl : l.stackTraces = false) {V : am_V} {i : Nat} (hi : i < 12) {r : (Option Value ⊕ String) × am_V} (h : d_X6_closedTotal i V = some r) : am_Ct xx U l yX6_closedTotal cX6_closedTotal 1 (some .int) (rk 2 0 60) [.ref (sS i + 1)] V (am_is r.1 r.2) := by
  refine am_Ct.of B hfl (by decide) (Nat.le_of_ble_eq_true rfl) ?_
  intro G hgl hgR hr ok h0 hex
  have K : aK U l G RX6 cX6_closedTotal 1 (some .int) 2 0 60 := ⟨hgl, hgR, hr, ok, h0⟩
  unfold d_X6_closedTotal at h
  show AE U G 1 2 0 60 r 0 V 0 [some (.ref (sS i + 1))] []
  refine AE.run K eX6_closedTotal 0 1 (show am_run 1 ((tX6_closedTotal.drop 0).take 1) 0 [some (.ref (sS i + 1))] [] = some (1, [some (.ref (sS i + 1))], [.ref (sS i + 1)]) from rfl) ?_
  refine AE.getI K gf_X6_27 (sh_S1 hi) rfl (am_at eX6_closedTotal 1 rfl) ?_
  refine AE.cs (f' := 0) (c' := 0) (lo' := 0) (st := []) (As := [.int (V (sS i + 1) 5)]) (m := d_J6_bitCount_0f7a4 (V (sS i + 1) 5) V) K hex (fun q hq => kJ6_bitCount_0f7a4 B hfl hq) cs_X6_37 rfl rfl (Nat.le_of_ble_eq_true rfl) ⟨Nat.le_of_ble_eq_true rfl, Nat.le_of_ble_eq_true rfl⟩ (by omega) (am_at eX6_closedTotal 2 rfl) h (rI_some h) (bkI (fun y2 V1 h => ?_))
  exact AE.iret K (by omega) (am_at eX6_closedTotal 3 rfl) h
def d_X6_endsOf (i : Nat) (x1 : Int32) (V : am_V) : am_R := rG (am_in x1 16) (rG (am_in x1 16) (some (.inl (some (.int (((nI 1) <<< ((V (sS i + 5) (iN x1)) &&& 31)) ||| ((nI 1) <<< ((V (sS i + 6) (iN x1)) &&& 31))))), V)))
set_option maxRecDepth 100000 in
set_option maxHeartbeats 4000000 in
theorem kX6_endsOf {U : am_U} {l : Launch} (B : am_base xx U) (hfl : l.stackTraces = false) {V : am_V} {i : Nat} {x1 : Int32} (hi : i < 12) {r : (Option Value ⊕ String) × am_V} (h : d_X6_endsOf i x1 V = some r) : am_Ct xx U l yX6_endsOf cX6_endsOf 2 (some .int) (rk 0 0 0) [.ref (sS i + 1), .int (x1)] V (am_is r.1 r.2) := by
  refine am_Ct.of B hfl (by decide) (Nat.le_of_ble_eq_true rfl) ?_
  intro G hgl hgR hr ok h0 hex
  have K : aK U l G RX6 cX6_endsOf 2 (some .int) 0 0 0 := ⟨hgl, hgR, hr, ok, h0⟩
  unfold d_X6_endsOf at h
  show AE U G 2 0 0 0 r 0 V 0 [some (.ref (sS i + 1)), some (.int (x1))] []
  refine AE.run K eX6_endsOf 0 2 (show am_run 2 ((tX6_endsOf.drop 0).take 2) 0 [some (.ref (sS i + 1)), some (.int (x1))] [] = some (2, [some (.ref (sS i + 1)), some (.int (x1))], [.ref (sS i + 1), .int (nI 1)]) from rfl) ?_
  refine AE.getR K gf_X6_15 (sh_S1 hi) rfl (am_at eX6_endsOf 2 rfl) ?_
  refine AE.run K eX6_endsOf 3 1 (show am_run 2 ((tX6_endsOf.drop 3).take 1) 5 [some (.ref (sS i + 1)), some (.int (x1))] [.ref (sS i + 5), .int (nI 1)] = some (6, [some (.ref (sS i + 1)), some (.int (x1))], [.int (x1), .ref (sS i + 5), .int (nI 1)]) from rfl) ?_
  refine AE.iald K (sh_S5 hi) (am_at eX6_endsOf 4 rfl) h (fun h => ?_)
  refine AE.run K eX6_endsOf 5 3 (show am_run 2 ((tX6_endsOf.drop 5).take 3) 7 [some (.ref (sS i + 1)), some (.int (x1))] [.int (V (sS i + 5) (iN x1)), .int (nI 1)] = some (10, [some (.ref (sS i + 1)), some (.int (x1))], [.ref (sS i + 1), .int (nI 1), .int ((nI 1) <<< ((V (sS i + 5) (iN x1)) &&& 31))]) from rfl) ?_
  refine AE.getR K gf_X6_18 (sh_S1 hi) rfl (am_at eX6_endsOf 8 rfl) ?_
  refine AE.run K eX6_endsOf 9 1 (show am_run 2 ((tX6_endsOf.drop 9).take 1) 13 [some (.ref (sS i + 1)), some (.int (x1))] [.ref (sS i + 6), .int (nI 1), .int ((nI 1) <<< ((V (sS i + 5) (iN x1)) &&& 31))] = some (14, [some (.ref (sS i + 1)), some (.int (x1))], [.int (x1), .ref (sS i + 6), .int (nI 1), .int ((nI 1) <<< ((V (sS i + 5) (iN x1)) &&& 31))]) from rfl) ?_
  refine AE.iald K (sh_S6 hi) (am_at eX6_endsOf 10 rfl) h (fun h => ?_)
  refine AE.run K eX6_endsOf 11 2 (show am_run 2 ((tX6_endsOf.drop 11).take 2) 15 [some (.ref (sS i + 1)), some (.int (x1))] [.int (V (sS i + 6) (iN x1)), .int (nI 1), .int ((nI 1) <<< ((V (sS i + 5) (iN x1)) &&& 31))] = some (17, [some (.ref (sS i + 1)), some (.int (x1))], [.int (((nI 1) <<< ((V (sS i + 5) (iN x1)) &&& 31)) ||| ((nI 1) <<< ((V (sS i + 6) (iN x1)) &&& 31)))]) from rfl) ?_
  exact AE.iret K (by omega) (am_at eX6_endsOf 13 rfl) h
def d_X6_farEnd (i : Nat) (x1 : Int32) (x2 : Int32) (V : am_V) : am_R := rI (d_X6_hasPath i x1 V) (fun (y2 : Int32) (V1 : am_V) => (if ¬ y2 = 0 then rG (am_in x1 16) ((if ¬ (V1 (sS i + 5) (iN x1)) = x2 then rG (am_in x1 16) (rB (fun (bs0_47 : Int32) (V_47 : am_V) => some (.inl (some (.int (bs0_47))), V_47)) (fun (j47 : Int32 → am_V → am_R) => (if ¬ (V1 (sS i + 6) (iN x1)) = x2 then j47 (-1) V1 else rG (am_in x1 16) (j47 (V1 (sS i + 5) (iN x1)) V1)))) else rG (am_in x1 16) (some (.inl (some (.int (V1 (sS i + 6) (iN x1)))), V1)))) else some (.inl (some (.int (-1))), V1)))
set_option maxRecDepth 100000 in
set_option maxHeartbeats 4000000 in
theorem kX6_farEnd {U : am_U} {l : Launch} (B : am_base xx U) (hfl : l.stackTraces = false) {V : am_V} {i : Nat} {x1 : Int32} {x2 : Int32} (hi : i < 12) {r : (Option Value ⊕ String) × am_V} (h : d_X6_farEnd i x1 x2 V = some r) : am_Ct xx U l yX6_farEnd cX6_farEnd 3 (some .int) (rk 1 0 21) [.ref (sS i + 1), .int (x1), .int (x2)] V (am_is r.1 r.2) := by
  refine am_Ct.of B hfl (by decide) (Nat.le_of_ble_eq_true rfl) ?_
  intro G hgl hgR hr ok h0 hex
  have K : aK U l G RX6 cX6_farEnd 3 (some .int) 1 0 21 := ⟨hgl, hgR, hr, ok, h0⟩
  unfold d_X6_farEnd at h
  show AE U G 3 1 0 21 r 0 V 0 [some (.ref (sS i + 1)), some (.int (x1)), some (.int (x2))] []
  refine AE.run K eX6_farEnd 0 2 (show am_run 3 ((tX6_farEnd.drop 0).take 2) 0 [some (.ref (sS i + 1)), some (.int (x1)), some (.int (x2))] [] = some (2, [some (.ref (sS i + 1)), some (.int (x1)), some (.int (x2))], [.int (x1), .ref (sS i + 1)]) from rfl) ?_
  refine AE.cv (f' := 0) (c' := 0) (lo' := 0) (st := []) (As := [.int (x1)]) (m := d_X6_hasPath i x1 V) K hex (fun q hq => kX6_hasPath B hfl (i := i) hi hq) cv_X6_43 (sh_S1 hi) (T := TX6) (N := 8) rfl rfl rfl (Nat.le_of_ble_eq_true rfl) ⟨Nat.le_of_ble_eq_true rfl, Nat.le_of_ble_eq_true rfl⟩ (by omega) (am_at eX6_farEnd 2 rfl) h (rI_some h) (bkI (fun y2 V1 h => ?_))
  refine AE.if0 K 10 (am_at eX6_farEnd 3 rfl) (by decide) rfl h (fun h => ?_) (fun h => ?_)
  · refine AE.run K eX6_farEnd 6 1 (show am_run 3 ((tX6_farEnd.drop 6).take 1) 10 [some (.ref (sS i + 1)), some (.int (x1)), some (.int (x2))] [] = some (11, [some (.ref (sS i + 1)), some (.int (x1)), some (.int (x2))], [.ref (sS i + 1)]) from rfl) ?_
    refine AE.getR K gf_X6_15 (sh_S1 hi) rfl (am_at eX6_farEnd 7 rfl) ?_
    refine AE.run K eX6_farEnd 8 1 (show am_run 3 ((tX6_farEnd.drop 8).take 1) 14 [some (.ref (sS i + 1)), some (.int (x1)), some (.int (x2))] [.ref (sS i + 5)] = some (15, [some (.ref (sS i + 1)), some (.int (x1)), some (.int (x2))], [.int (x1), .ref (sS i + 5)]) from rfl) ?_
    refine AE.iald K (sh_S5 hi) (am_at eX6_farEnd 9 rfl) h (fun h => ?_)
    refine AE.run K eX6_farEnd 10 1 (show am_run 3 ((tX6_farEnd.drop 10).take 1) 16 [some (.ref (sS i + 1)), some (.int (x1)), some (.int (x2))] [.int (V1 (sS i + 5) (iN x1))] = some (17, [some (.ref (sS i + 1)), some (.int (x1)), some (.int (x2))], [.int (x2), .int (V1 (sS i + 5) (iN x1))]) from rfl) ?_
    refine AE.ic K 27 (am_at eX6_farEnd 11 rfl) (by decide) rfl h (fun h => ?_) (fun h => ?_)
    · refine AE.run K eX6_farEnd 17 1 (show am_run 3 ((tX6_farEnd.drop 17).take 1) 27 [some (.ref (sS i + 1)), some (.int (x1)), some (.int (x2))] [] = some (28, [some (.ref (sS i + 1)), some (.int (x1)), some (.int (x2))], [.ref (sS i + 1)]) from rfl) ?_
      refine AE.getR K gf_X6_18 (sh_S1 hi) rfl (am_at eX6_farEnd 18 rfl) ?_
      refine AE.run K eX6_farEnd 19 1 (show am_run 3 ((tX6_farEnd.drop 19).take 1) 31 [some (.ref (sS i + 1)), some (.int (x1)), some (.int (x2))] [.ref (sS i + 6)] = some (32, [some (.ref (sS i + 1)), some (.int (x1)), some (.int (x2))], [.int (x1), .ref (sS i + 6)]) from rfl) ?_
      refine AE.iald K (sh_S6 hi) (am_at eX6_farEnd 20 rfl) h (fun h => ?_)
      refine AE.run K eX6_farEnd 21 1 (show am_run 3 ((tX6_farEnd.drop 21).take 1) 33 [some (.ref (sS i + 1)), some (.int (x1)), some (.int (x2))] [.int (V1 (sS i + 6) (iN x1))] = some (34, [some (.ref (sS i + 1)), some (.int (x1)), some (.int (x2))], [.int (x2), .int (V1 (sS i + 6) (iN x1))]) from rfl) ?_
      refine rB_of (P := fun (j : Int32 → am_V → am_R) => ∀ (bs0_47 : Int32) (V_47 : am_V), j bs0_47 V_47 = some r → AE U G 3 1 0 21 r 0 V_47 47 [none, none, none] [.int (bs0_47)]) h (fun bs0_47 V_47 h => ?_) (fun j47 hj47 h => ?_)
      · exact AE.iret K (by omega) (am_at eX6_farEnd 29 rfl) h
      refine AE.ic K 46 (am_at eX6_farEnd 22 rfl) (by decide) rfl h (fun h => ?_) (fun h => ?_)
      · refine AE.run K eX6_farEnd 28 1 (show am_run 3 ((tX6_farEnd.drop 28).take 1) 46 [some (.ref (sS i + 1)), some (.int (x1)), some (.int (x2))] [] = some (47, [some (.ref (sS i + 1)), some (.int (x1)), some (.int (x2))], [.int (-1)]) from rfl) ?_
        exact AE.sub (L' := [none, none, none]) trivial (hj47 (-1) V1 h)
      · refine AE.run K eX6_farEnd 23 1 (show am_run 3 ((tX6_farEnd.drop 23).take 1) 37 [some (.ref (sS i + 1)), some (.int (x1)), some (.int (x2))] [] = some (38, [some (.ref (sS i + 1)), some (.int (x1)), some (.int (x2))], [.ref (sS i + 1)]) from rfl) ?_
        refine AE.getR K gf_X6_15 (sh_S1 hi) rfl (am_at eX6_farEnd 24 rfl) ?_
        refine AE.run K eX6_farEnd 25 1 (show am_run 3 ((tX6_farEnd.drop 25).take 1) 41 [some (.ref (sS i + 1)), some (.int (x1)), some (.int (x2))] [.ref (sS i + 5)] = some (42, [some (.ref (sS i + 1)), some (.int (x1)), some (.int (x2))], [.int (x1), .ref (sS i + 5)]) from rfl) ?_
        refine AE.iald K (sh_S5 hi) (am_at eX6_farEnd 26 rfl) h (fun h => ?_)
        refine AE.run K eX6_farEnd 27 1 (show am_run 3 ((tX6_farEnd.drop 27).take 1) 43 [some (.ref (sS i + 1)), some (.int (x1)), some (.int (x2))] [.int (V1 (sS i + 5) (iN x1))] = some (47, [some (.ref (sS i + 1)), some (.int (x1)), some (.int (x2))], [.int (V1 (sS i + 5) (iN x1))]) from rfl) ?_
        exact AE.sub (L' := [none, none, none]) trivial (hj47 (V1 (sS i + 5) (iN x1)) V1 h)
    · refine AE.run K eX6_farEnd 12 1 (show am_run 3 ((tX6_farEnd.drop 12).take 1) 20 [some (.ref (sS i + 1)), some (.int (x1)), some (.int (x2))] [] = some (21, [some (.ref (sS i + 1)), some (.int (x1)), some (.int (x2))], [.ref (sS i + 1)]) from rfl) ?_
      refine AE.getR K gf_X6_18 (sh_S1 hi) rfl (am_at eX6_farEnd 13 rfl) ?_
      refine AE.run K eX6_farEnd 14 1 (show am_run 3 ((tX6_farEnd.drop 14).take 1) 24 [some (.ref (sS i + 1)), some (.int (x1)), some (.int (x2))] [.ref (sS i + 6)] = some (25, [some (.ref (sS i + 1)), some (.int (x1)), some (.int (x2))], [.int (x1), .ref (sS i + 6)]) from rfl) ?_
      refine AE.iald K (sh_S6 hi) (am_at eX6_farEnd 15 rfl) h (fun h => ?_)
      exact AE.iret K (by omega) (am_at eX6_farEnd 16 rfl) h
  · refine AE.run K eX6_farEnd 4 1 (show am_run 3 ((tX6_farEnd.drop 4).take 1) 8 [some (.ref (sS i + 1)), some (.int (x1)), some (.int (x2))] [] = some (9, [some (.ref (sS i + 1)), some (.int (x1)), some (.int (x2))], [.int (-1)]) from rfl) ?_
    exact AE.iret K (by omega) (am_at eX6_farEnd 5 rfl) h
def bd_X6_pathBetween_11 (i : Nat) (x1 : Int32) (x2 : Int32) (kx kr : Int32 → am_V → am_R) (a4_11 : Int32) (V_11 : am_V) : am_R := (if (V_11 (sS i + 1) 7) ≤ a4_11 then kx a4_11 V_11 else rI (d_X6_endsOf i a4_11 V_11) (fun (y2 : Int32) (V1 : am_V) => (if ¬ y2 = (((nI 1) <<< (x1 &&& 31)) ||| ((nI 1) <<< (x2 &&& 31))) then kr (a4_11 + nI 1) V1 else some (.inl (some (.int (a4_11))), V1))))
def lp_X6_pathBetween_11 (i : Nat) (x1 : Int32) (x2 : Int32) (kx : Int32 → am_V → am_R) : Nat → Int32 → am_V → am_R
  | 0, _, _ => none
  | f9 + 1, a4_11, V_11 => bd_X6_pathBetween_11 i x1 x2 kx (lp_X6_pathBetween_11 i x1 x2 kx f9) a4_11 V_11
def d_X6_pathBetween (i : Nat) (x1 : Int32) (x2 : Int32) (V : am_V) : am_R := lp_X6_pathBetween_11 i x1 x2 (fun (a4_11 : Int32) (V_11x : am_V) => some (.inl (some (.int (-1))), V_11x)) 1000 (nI 0) V
set_option maxRecDepth 100000 in
set_option maxHeartbeats 4000000 in
theorem bk_X6_pathBetween_11 {U : am_U} {l : Launch} (B : am_base xx U) (hfl : l.stackTraces = false) {G : am_G} (K : aK U l G RX6 cX6_pathBetween 5 (some .int) 1 0 21) (hex : am_nx G) {r : (Option Value ⊕ String) × am_V} {i : Nat} {x1 : Int32} {x2 : Int32} (hi : i < 12) {kc : Nat} (hkc : kc ≤ 0) {kx kr : Int32 → am_V → am_R} (hx : ∀ (a4_11 : Int32) (Vq : am_V), kx a4_11 Vq = some r → AE U G 5 1 0 21 r kc Vq 39 [none, none, none, none, none] []) (hr : ∀ (a4_11 : Int32) (Vq : am_V), kr a4_11 Vq = some r → AE U G 5 1 0 21 r kc Vq 11 [some (.ref (sS i + 1)), none, none, some (.int (((nI 1) <<< (x1 &&& 31)) ||| ((nI 1) <<< (x2 &&& 31)))), some (.int (a4_11))] []) (a4_11 : Int32) (V_11 : am_V) (h : bd_X6_pathBetween_11 i x1 x2 kx kr a4_11 V_11 = some r) : AE U G 5 1 0 21 r kc V_11 11 [some (.ref (sS i + 1)), none, none, some (.int (((nI 1) <<< (x1 &&& 31)) ||| ((nI 1) <<< (x2 &&& 31)))), some (.int (a4_11))] [] := by
  unfold bd_X6_pathBetween_11 at h
  refine AE.run K eX6_pathBetween 10 2 (show am_run 5 ((tX6_pathBetween.drop 10).take 2) 11 [some (.ref (sS i + 1)), none, none, some (.int (((nI 1) <<< (x1 &&& 31)) ||| ((nI 1) <<< (x2 &&& 31)))), some (.int (a4_11))] [] = some (14, [some (.ref (sS i + 1)), none, none, some (.int (((nI 1) <<< (x1 &&& 31)) ||| ((nI 1) <<< (x2 &&& 31)))), some (.int (a4_11))], [.ref (sS i + 1), .int (a4_11)]) from rfl) ?_
  refine AE.getI K gf_X6_34 (sh_S1 hi) rfl (am_at eX6_pathBetween 12 rfl) ?_
  refine AE.ic K 39 (am_at eX6_pathBetween 13 rfl) (by decide) rfl h (fun h => ?_) (fun h => ?_)
  · exact AE.sub (L' := [none, none, none, none, none]) trivial (hx a4_11 V_11 h)
  · refine AE.run K eX6_pathBetween 14 2 (show am_run 5 ((tX6_pathBetween.drop 14).take 2) 20 [some (.ref (sS i + 1)), none, none, some (.int (((nI 1) <<< (x1 &&& 31)) ||| ((nI 1) <<< (x2 &&& 31)))), some (.int (a4_11))] [] = some (23, [some (.ref (sS i + 1)), none, none, some (.int (((nI 1) <<< (x1 &&& 31)) ||| ((nI 1) <<< (x2 &&& 31)))), some (.int (a4_11))], [.int (a4_11), .ref (sS i + 1)]) from rfl) ?_
    refine AE.cv (f' := 0) (c' := 0) (lo' := 0) (st := []) (As := [.int (a4_11)]) (m := d_X6_endsOf i a4_11 V_11) K hex (fun q hq => kX6_endsOf B hfl (i := i) hi hq) cv_X6_47 (sh_S1 hi) (T := TX6) (N := 8) rfl rfl rfl (Nat.le_of_ble_eq_true rfl) ⟨Nat.le_of_ble_eq_true rfl, Nat.le_of_ble_eq_true rfl⟩ (by omega) (am_at eX6_pathBetween 16 rfl) h (rI_some h) (bkI (fun y2 V1 h => ?_))
    refine AE.run K eX6_pathBetween 17 1 (show am_run 5 ((tX6_pathBetween.drop 17).take 1) 26 [some (.ref (sS i + 1)), none, none, some (.int (((nI 1) <<< (x1 &&& 31)) ||| ((nI 1) <<< (x2 &&& 31)))), some (.int (a4_11))] [.int (y2)] = some (27, [some (.ref (sS i + 1)), none, none, some (.int (((nI 1) <<< (x1 &&& 31)) ||| ((nI 1) <<< (x2 &&& 31)))), some (.int (a4_11))], [.int (((nI 1) <<< (x1 &&& 31)) ||| ((nI 1) <<< (x2 &&& 31))), .int (y2)]) from rfl) ?_
    refine AE.ic K 33 (am_at eX6_pathBetween 18 rfl) (by decide) rfl h (fun h => ?_) (fun h => ?_)
    · refine AE.run K eX6_pathBetween 21 2 (show am_run 5 ((tX6_pathBetween.drop 21).take 2) 33 [some (.ref (sS i + 1)), none, none, some (.int (((nI 1) <<< (x1 &&& 31)) ||| ((nI 1) <<< (x2 &&& 31)))), some (.int (a4_11))] [] = some (11, [some (.ref (sS i + 1)), none, none, some (.int (((nI 1) <<< (x1 &&& 31)) ||| ((nI 1) <<< (x2 &&& 31)))), some (.int (a4_11 + nI 1))], []) from rfl) ?_
      exact AE.sub (L' := [some (.ref (sS i + 1)), none, none, some (.int (((nI 1) <<< (x1 &&& 31)) ||| ((nI 1) <<< (x2 &&& 31)))), some (.int (a4_11 + nI 1))]) (And.intro rfl (And.intro rfl (And.intro rfl trivial))) (hr (a4_11 + nI 1) V1 h)
    · refine AE.run K eX6_pathBetween 19 1 (show am_run 5 ((tX6_pathBetween.drop 19).take 1) 30 [some (.ref (sS i + 1)), none, none, some (.int (((nI 1) <<< (x1 &&& 31)) ||| ((nI 1) <<< (x2 &&& 31)))), some (.int (a4_11))] [] = some (32, [some (.ref (sS i + 1)), none, none, some (.int (((nI 1) <<< (x1 &&& 31)) ||| ((nI 1) <<< (x2 &&& 31)))), some (.int (a4_11))], [.int (a4_11)]) from rfl) ?_
      exact AE.iret K (by omega) (am_at eX6_pathBetween 20 rfl) h
theorem lk_X6_pathBetween_11 {U : am_U} {l : Launch} (B : am_base xx U) (hfl : l.stackTraces = false) {G : am_G} (K : aK U l G RX6 cX6_pathBetween 5 (some .int) 1 0 21) (hex : am_nx G) {r : (Option Value ⊕ String) × am_V} {i : Nat} {x1 : Int32} {x2 : Int32} (hi : i < 12) {kc : Nat} (hkc : kc ≤ 0) {kx : Int32 → am_V → am_R} (hx : ∀ (a4_11 : Int32) (Vq : am_V), kx a4_11 Vq = some r → AE U G 5 1 0 21 r kc Vq 39 [none, none, none, none, none] []) : ∀ (f9 : Nat) (a4_11 : Int32) (Vq : am_V), lp_X6_pathBetween_11 i x1 x2 kx f9 a4_11 Vq = some r → AE U G 5 1 0 21 r kc Vq 11 [some (.ref (sS i + 1)), none, none, some (.int (((nI 1) <<< (x1 &&& 31)) ||| ((nI 1) <<< (x2 &&& 31)))), some (.int (a4_11))] [] := by
  intro f9
  induction f9 with
  | zero =>
    intro a4_11 Vq h
    cases h
  | succ f9 ih =>
    intro a4_11 Vq h
    exact bk_X6_pathBetween_11 B hfl K hex hi hkc hx ih a4_11 Vq h
set_option maxRecDepth 100000 in
set_option maxHeartbeats 4000000 in
theorem kX6_pathBetween {U : am_U} {l : Launch} (B : am_base xx U) (hfl : l.stackTraces = false) {V : am_V} {i : Nat} {x1 : Int32} {x2 : Int32} (hi : i < 12) {r : (Option Value ⊕ String) × am_V} (h : d_X6_pathBetween i x1 x2 V = some r) : am_Ct xx U l yX6_pathBetween cX6_pathBetween 5 (some .int) (rk 1 0 21) [.ref (sS i + 1), .int (x1), .int (x2)] V (am_is r.1 r.2) := by
  refine am_Ct.of B hfl (by decide) (Nat.le_of_ble_eq_true rfl) ?_
  intro G hgl hgR hr ok h0 hex
  have K : aK U l G RX6 cX6_pathBetween 5 (some .int) 1 0 21 := ⟨hgl, hgR, hr, ok, h0⟩
  unfold d_X6_pathBetween at h
  show AE U G 5 1 0 21 r 0 V 0 [some (.ref (sS i + 1)), some (.int (x1)), some (.int (x2)), none, none] []
  refine AE.run K eX6_pathBetween 0 10 (show am_run 5 ((tX6_pathBetween.drop 0).take 10) 0 [some (.ref (sS i + 1)), some (.int (x1)), some (.int (x2)), none, none] [] = some (11, [some (.ref (sS i + 1)), some (.int (x1)), some (.int (x2)), some (.int (((nI 1) <<< (x1 &&& 31)) ||| ((nI 1) <<< (x2 &&& 31)))), some (.int (nI 0))], []) from rfl) ?_
  refine AE.sub (L' := [some (.ref (sS i + 1)), none, none, some (.int (((nI 1) <<< (x1 &&& 31)) ||| ((nI 1) <<< (x2 &&& 31)))), some (.int (nI 0))]) (And.intro rfl (And.intro rfl (And.intro rfl trivial))) ?_
  refine lk_X6_pathBetween_11 B hfl K hex hi (by omega) ?_ 1000 (nI 0) V h
  intro a4_11 V_11x h
  refine AE.run K eX6_pathBetween 23 1 (show am_run 5 ((tX6_pathBetween.drop 23).take 1) 39 [none, none, none, none, none] [] = some (40, [none, none, none, none, none], [.int (-1)]) from rfl) ?_
  exact AE.iret K (by omega) (am_at eX6_pathBetween 24 rfl) h
def d_X6_dangerOf (i : Nat) (x1 : Int32) (x2 : Int32) (V : am_V) : am_R := rG (am_in x1 16) (rG (am_in x2 9) (rB (fun (bs0_32 : Int32) (V_32 : am_V) => some (.inl (some (.int (bs0_32))), V_32)) (fun (j32 : Int32 → am_V → am_R) => (if (V (sS i + 8) (iN x1)) ≤ (V (sS i + 4) (iN x2)) then j32 (nI 0) V else rG (am_in x1 16) (rG (am_in x2 9) (j32 ((V (sS i + 8) (iN x1)) - (V (sS i + 4) (iN x2))) V))))))
set_option maxRecDepth 100000 in
set_option maxHeartbeats 4000000 in
theorem kX6_dangerOf {U : am_U} {l : Launch} (B : am_base xx U) (hfl : l.stackTraces = false) {V : am_V} {i : Nat} {x1 : Int32} {x2 : Int32} (hi : i < 12) {r : (Option Value ⊕ String) × am_V} (h : d_X6_dangerOf i x1 x2 V = some r) : am_Ct xx U l yX6_dangerOf cX6_dangerOf 3 (some .int) (rk 0 0 0) [.ref (sS i + 1), .int (x1), .int (x2)] V (am_is r.1 r.2) := by
  refine am_Ct.of B hfl (by decide) (Nat.le_of_ble_eq_true rfl) ?_
  intro G hgl hgR hr ok h0 hex
  have K : aK U l G RX6 cX6_dangerOf 3 (some .int) 0 0 0 := ⟨hgl, hgR, hr, ok, h0⟩
  unfold d_X6_dangerOf at h
  show AE U G 3 0 0 0 r 0 V 0 [some (.ref (sS i + 1)), some (.int (x1)), some (.int (x2))] []
  refine AE.run K eX6_dangerOf 0 1 (show am_run 3 ((tX6_dangerOf.drop 0).take 1) 0 [some (.ref (sS i + 1)), some (.int (x1)), some (.int (x2))] [] = some (1, [some (.ref (sS i + 1)), some (.int (x1)), some (.int (x2))], [.ref (sS i + 1)]) from rfl) ?_
  refine AE.getR K gf_X6_24 (sh_S1 hi) rfl (am_at eX6_dangerOf 1 rfl) ?_
  refine AE.run K eX6_dangerOf 2 1 (show am_run 3 ((tX6_dangerOf.drop 2).take 1) 4 [some (.ref (sS i + 1)), some (.int (x1)), some (.int (x2))] [.ref (sS i + 8)] = some (5, [some (.ref (sS i + 1)), some (.int (x1)), some (.int (x2))], [.int (x1), .ref (sS i + 8)]) from rfl) ?_
  refine AE.iald K (sh_S8 hi) (am_at eX6_dangerOf 3 rfl) h (fun h => ?_)
  refine AE.run K eX6_dangerOf 4 1 (show am_run 3 ((tX6_dangerOf.drop 4).take 1) 6 [some (.ref (sS i + 1)), some (.int (x1)), some (.int (x2))] [.int (V (sS i + 8) (iN x1))] = some (7, [some (.ref (sS i + 1)), some (.int (x1)), some (.int (x2))], [.ref (sS i + 1), .int (V (sS i + 8) (iN x1))]) from rfl) ?_
  refine AE.getR K gf_X6_9 (sh_S1 hi) rfl (am_at eX6_dangerOf 5 rfl) ?_
  refine AE.run K eX6_dangerOf 6 1 (show am_run 3 ((tX6_dangerOf.drop 6).take 1) 10 [some (.ref (sS i + 1)), some (.int (x1)), some (.int (x2))] [.ref (sS i + 4), .int (V (sS i + 8) (iN x1))] = some (11, [some (.ref (sS i + 1)), some (.int (x1)), some (.int (x2))], [.int (x2), .ref (sS i + 4), .int (V (sS i + 8) (iN x1))]) from rfl) ?_
  refine AE.iald K (sh_S4 hi) (am_at eX6_dangerOf 7 rfl) h (fun h => ?_)
  refine rB_of (P := fun (j : Int32 → am_V → am_R) => ∀ (bs0_32 : Int32) (V_32 : am_V), j bs0_32 V_32 = some r → AE U G 3 0 0 0 r 0 V_32 32 [none, none, none] [.int (bs0_32)]) h (fun bs0_32 V_32 h => ?_) (fun j32 hj32 h => ?_)
  · exact AE.iret K (by omega) (am_at eX6_dangerOf 20 rfl) h
  refine AE.ic K 31 (am_at eX6_dangerOf 8 rfl) (by decide) rfl h (fun h => ?_) (fun h => ?_)
  · refine AE.run K eX6_dangerOf 19 1 (show am_run 3 ((tX6_dangerOf.drop 19).take 1) 31 [some (.ref (sS i + 1)), some (.int (x1)), some (.int (x2))] [] = some (32, [some (.ref (sS i + 1)), some (.int (x1)), some (.int (x2))], [.int (nI 0)]) from rfl) ?_
    exact AE.sub (L' := [none, none, none]) trivial (hj32 (nI 0) V h)
  · refine AE.run K eX6_dangerOf 9 1 (show am_run 3 ((tX6_dangerOf.drop 9).take 1) 15 [some (.ref (sS i + 1)), some (.int (x1)), some (.int (x2))] [] = some (16, [some (.ref (sS i + 1)), some (.int (x1)), some (.int (x2))], [.ref (sS i + 1)]) from rfl) ?_
    refine AE.getR K gf_X6_24 (sh_S1 hi) rfl (am_at eX6_dangerOf 10 rfl) ?_
    refine AE.run K eX6_dangerOf 11 1 (show am_run 3 ((tX6_dangerOf.drop 11).take 1) 19 [some (.ref (sS i + 1)), some (.int (x1)), some (.int (x2))] [.ref (sS i + 8)] = some (20, [some (.ref (sS i + 1)), some (.int (x1)), some (.int (x2))], [.int (x1), .ref (sS i + 8)]) from rfl) ?_
    refine AE.iald K (sh_S8 hi) (am_at eX6_dangerOf 12 rfl) h (fun h => ?_)
    refine AE.run K eX6_dangerOf 13 1 (show am_run 3 ((tX6_dangerOf.drop 13).take 1) 21 [some (.ref (sS i + 1)), some (.int (x1)), some (.int (x2))] [.int (V (sS i + 8) (iN x1))] = some (22, [some (.ref (sS i + 1)), some (.int (x1)), some (.int (x2))], [.ref (sS i + 1), .int (V (sS i + 8) (iN x1))]) from rfl) ?_
    refine AE.getR K gf_X6_9 (sh_S1 hi) rfl (am_at eX6_dangerOf 14 rfl) ?_
    refine AE.run K eX6_dangerOf 15 1 (show am_run 3 ((tX6_dangerOf.drop 15).take 1) 25 [some (.ref (sS i + 1)), some (.int (x1)), some (.int (x2))] [.ref (sS i + 4), .int (V (sS i + 8) (iN x1))] = some (26, [some (.ref (sS i + 1)), some (.int (x1)), some (.int (x2))], [.int (x2), .ref (sS i + 4), .int (V (sS i + 8) (iN x1))]) from rfl) ?_
    refine AE.iald K (sh_S4 hi) (am_at eX6_dangerOf 16 rfl) h (fun h => ?_)
    refine AE.run K eX6_dangerOf 17 2 (show am_run 3 ((tX6_dangerOf.drop 17).take 2) 27 [some (.ref (sS i + 1)), some (.int (x1)), some (.int (x2))] [.int (V (sS i + 4) (iN x2)), .int (V (sS i + 8) (iN x1))] = some (32, [some (.ref (sS i + 1)), some (.int (x1)), some (.int (x2))], [.int ((V (sS i + 8) (iN x1)) - (V (sS i + 4) (iN x2)))]) from rfl) ?_
    exact AE.sub (L' := [none, none, none]) trivial (hj32 ((V (sS i + 8) (iN x1)) - (V (sS i + 4) (iN x2))) V h)
def d_X6_copyFrom (i : Nat) (j : Nat) (V : am_V) : am_R := rV (am_row V (sS i + 4) (va_cpy (V (sS j + 4)) (V (sS i + 4)) 0 0 9)) (fun (V1 : am_V) => rV (am_row V1 (sS i + 5) (va_cpy (V1 (sS j + 5)) (V1 (sS i + 5)) 0 0 16)) (fun (V2 : am_V) => rV (am_row V2 (sS i + 6) (va_cpy (V2 (sS j + 6)) (V2 (sS i + 6)) 0 0 16)) (fun (V3 : am_V) => rV (am_row V3 (sS i + 7) (va_cpy (V3 (sS j + 7)) (V3 (sS i + 7)) 0 0 16)) (fun (V4 : am_V) => rV (am_row V4 (sS i + 8) (va_cpy (V4 (sS j + 8)) (V4 (sS i + 8)) 0 0 16)) (fun (V5 : am_V) => rV (am_set V5 (sS i + 1) 5 (V5 (sS j + 1) 5)) (fun (V6 : am_V) => rV (am_set V6 (sS i + 1) 6 (V6 (sS j + 1) 6)) (fun (V7 : am_V) => rV (am_set V7 (sS i + 1) 7 (V7 (sS j + 1) 7)) (fun (V8 : am_V) => some (.inl none, V8)))))))))
set_option maxRecDepth 100000 in
set_option maxHeartbeats 4000000 in
theorem kX6_copyFrom {U : am_U} {l : Launch} (B : am_base xx U) (hfl : l.stackTraces = false) {V : am_V} {i : Nat} {j : Nat} (hi : i < 12) (hj : j < 12) {r : (Option Value ⊕ String) × am_V} (h : d_X6_copyFrom i j V = some r) : am_Ct xx U l yX6_copyFrom cX6_copyFrom 2 none (rk 2 0 60) [.ref (sS i + 1), .ref (sS j + 1)] V (am_is r.1 r.2) := by
  refine am_Ct.of B hfl (by decide) (Nat.le_of_ble_eq_true rfl) ?_
  intro G hgl hgR hr ok h0 hex
  have K : aK U l G RX6 cX6_copyFrom 2 none 2 0 60 := ⟨hgl, hgR, hr, ok, h0⟩
  unfold d_X6_copyFrom at h
  show AE U G 2 2 0 60 r 0 V 0 [some (.ref (sS i + 1)), some (.ref (sS j + 1))] []
  refine AE.run K eX6_copyFrom 0 1 (show am_run 2 ((tX6_copyFrom.drop 0).take 1) 0 [some (.ref (sS i + 1)), some (.ref (sS j + 1))] [] = some (1, [some (.ref (sS i + 1)), some (.ref (sS j + 1))], [.ref (sS j + 1)]) from rfl) ?_
  refine AE.getR K gf_X6_9 (sh_S1 hj) rfl (am_at eX6_copyFrom 1 rfl) ?_
  refine AE.run K eX6_copyFrom 2 2 (show am_run 2 ((tX6_copyFrom.drop 2).take 2) 4 [some (.ref (sS i + 1)), some (.ref (sS j + 1))] [.ref (sS j + 4)] = some (6, [some (.ref (sS i + 1)), some (.ref (sS j + 1))], [.ref (sS i + 1), .int (nI 0), .ref (sS j + 4)]) from rfl) ?_
  refine AE.getR K gf_X6_9 (sh_S1 hi) rfl (am_at eX6_copyFrom 4 rfl) ?_
  refine AE.run K eX6_copyFrom 5 2 (show am_run 2 ((tX6_copyFrom.drop 5).take 2) 9 [some (.ref (sS i + 1)), some (.ref (sS j + 1))] [.ref (sS i + 4), .int (nI 0), .ref (sS j + 4)] = some (12, [some (.ref (sS i + 1)), some (.ref (sS j + 1))], [.int (nI 9), .int (nI 0), .ref (sS i + 4), .int (nI 0), .ref (sS j + 4)]) from rfl) ?_
  refine AE.cpy (n := 9) K ac_X6_50 (sh_S4 hj) (sh_S4 hi) (wr_S (i := i) (k := 4) hi (by decide)) (by decide) (by decide) (by decide) (by decide) (Nat.le_of_ble_eq_true rfl) (am_at eX6_copyFrom 7 rfl) h (fun V1 h => ?_)
  refine AE.run K eX6_copyFrom 8 1 (show am_run 2 ((tX6_copyFrom.drop 8).take 1) 15 [some (.ref (sS i + 1)), some (.ref (sS j + 1))] [] = some (16, [some (.ref (sS i + 1)), some (.ref (sS j + 1))], [.ref (sS j + 1)]) from rfl) ?_
  refine AE.getR K gf_X6_15 (sh_S1 hj) rfl (am_at eX6_copyFrom 9 rfl) ?_
  refine AE.run K eX6_copyFrom 10 2 (show am_run 2 ((tX6_copyFrom.drop 10).take 2) 19 [some (.ref (sS i + 1)), some (.ref (sS j + 1))] [.ref (sS j + 5)] = some (21, [some (.ref (sS i + 1)), some (.ref (sS j + 1))], [.ref (sS i + 1), .int (nI 0), .ref (sS j + 5)]) from rfl) ?_
  refine AE.getR K gf_X6_15 (sh_S1 hi) rfl (am_at eX6_copyFrom 12 rfl) ?_
  refine AE.run K eX6_copyFrom 13 2 (show am_run 2 ((tX6_copyFrom.drop 13).take 2) 24 [some (.ref (sS i + 1)), some (.ref (sS j + 1))] [.ref (sS i + 5), .int (nI 0), .ref (sS j + 5)] = some (27, [some (.ref (sS i + 1)), some (.ref (sS j + 1))], [.int (nI 16), .int (nI 0), .ref (sS i + 5), .int (nI 0), .ref (sS j + 5)]) from rfl) ?_
  refine AE.cpy (n := 16) K ac_X6_50 (sh_S5 hj) (sh_S5 hi) (wr_S (i := i) (k := 5) hi (by decide)) (by decide) (by decide) (by decide) (by decide) (Nat.le_of_ble_eq_true rfl) (am_at eX6_copyFrom 15 rfl) h (fun V2 h => ?_)
  refine AE.run K eX6_copyFrom 16 1 (show am_run 2 ((tX6_copyFrom.drop 16).take 1) 30 [some (.ref (sS i + 1)), some (.ref (sS j + 1))] [] = some (31, [some (.ref (sS i + 1)), some (.ref (sS j + 1))], [.ref (sS j + 1)]) from rfl) ?_
  refine AE.getR K gf_X6_18 (sh_S1 hj) rfl (am_at eX6_copyFrom 17 rfl) ?_
  refine AE.run K eX6_copyFrom 18 2 (show am_run 2 ((tX6_copyFrom.drop 18).take 2) 34 [some (.ref (sS i + 1)), some (.ref (sS j + 1))] [.ref (sS j + 6)] = some (36, [some (.ref (sS i + 1)), some (.ref (sS j + 1))], [.ref (sS i + 1), .int (nI 0), .ref (sS j + 6)]) from rfl) ?_
  refine AE.getR K gf_X6_18 (sh_S1 hi) rfl (am_at eX6_copyFrom 20 rfl) ?_
  refine AE.run K eX6_copyFrom 21 2 (show am_run 2 ((tX6_copyFrom.drop 21).take 2) 39 [some (.ref (sS i + 1)), some (.ref (sS j + 1))] [.ref (sS i + 6), .int (nI 0), .ref (sS j + 6)] = some (42, [some (.ref (sS i + 1)), some (.ref (sS j + 1))], [.int (nI 16), .int (nI 0), .ref (sS i + 6), .int (nI 0), .ref (sS j + 6)]) from rfl) ?_
  refine AE.cpy (n := 16) K ac_X6_50 (sh_S6 hj) (sh_S6 hi) (wr_S (i := i) (k := 6) hi (by decide)) (by decide) (by decide) (by decide) (by decide) (Nat.le_of_ble_eq_true rfl) (am_at eX6_copyFrom 23 rfl) h (fun V3 h => ?_)
  refine AE.run K eX6_copyFrom 24 1 (show am_run 2 ((tX6_copyFrom.drop 24).take 1) 45 [some (.ref (sS i + 1)), some (.ref (sS j + 1))] [] = some (46, [some (.ref (sS i + 1)), some (.ref (sS j + 1))], [.ref (sS j + 1)]) from rfl) ?_
  refine AE.getR K gf_X6_21 (sh_S1 hj) rfl (am_at eX6_copyFrom 25 rfl) ?_
  refine AE.run K eX6_copyFrom 26 2 (show am_run 2 ((tX6_copyFrom.drop 26).take 2) 49 [some (.ref (sS i + 1)), some (.ref (sS j + 1))] [.ref (sS j + 7)] = some (51, [some (.ref (sS i + 1)), some (.ref (sS j + 1))], [.ref (sS i + 1), .int (nI 0), .ref (sS j + 7)]) from rfl) ?_
  refine AE.getR K gf_X6_21 (sh_S1 hi) rfl (am_at eX6_copyFrom 28 rfl) ?_
  refine AE.run K eX6_copyFrom 29 2 (show am_run 2 ((tX6_copyFrom.drop 29).take 2) 54 [some (.ref (sS i + 1)), some (.ref (sS j + 1))] [.ref (sS i + 7), .int (nI 0), .ref (sS j + 7)] = some (57, [some (.ref (sS i + 1)), some (.ref (sS j + 1))], [.int (nI 16), .int (nI 0), .ref (sS i + 7), .int (nI 0), .ref (sS j + 7)]) from rfl) ?_
  refine AE.cpy (n := 16) K ac_X6_50 (sh_S7 hj) (sh_S7 hi) (wr_S (i := i) (k := 7) hi (by decide)) (by decide) (by decide) (by decide) (by decide) (Nat.le_of_ble_eq_true rfl) (am_at eX6_copyFrom 31 rfl) h (fun V4 h => ?_)
  refine AE.run K eX6_copyFrom 32 1 (show am_run 2 ((tX6_copyFrom.drop 32).take 1) 60 [some (.ref (sS i + 1)), some (.ref (sS j + 1))] [] = some (61, [some (.ref (sS i + 1)), some (.ref (sS j + 1))], [.ref (sS j + 1)]) from rfl) ?_
  refine AE.getR K gf_X6_24 (sh_S1 hj) rfl (am_at eX6_copyFrom 33 rfl) ?_
  refine AE.run K eX6_copyFrom 34 2 (show am_run 2 ((tX6_copyFrom.drop 34).take 2) 64 [some (.ref (sS i + 1)), some (.ref (sS j + 1))] [.ref (sS j + 8)] = some (66, [some (.ref (sS i + 1)), some (.ref (sS j + 1))], [.ref (sS i + 1), .int (nI 0), .ref (sS j + 8)]) from rfl) ?_
  refine AE.getR K gf_X6_24 (sh_S1 hi) rfl (am_at eX6_copyFrom 36 rfl) ?_
  refine AE.run K eX6_copyFrom 37 2 (show am_run 2 ((tX6_copyFrom.drop 37).take 2) 69 [some (.ref (sS i + 1)), some (.ref (sS j + 1))] [.ref (sS i + 8), .int (nI 0), .ref (sS j + 8)] = some (72, [some (.ref (sS i + 1)), some (.ref (sS j + 1))], [.int (nI 16), .int (nI 0), .ref (sS i + 8), .int (nI 0), .ref (sS j + 8)]) from rfl) ?_
  refine AE.cpy (n := 16) K ac_X6_50 (sh_S8 hj) (sh_S8 hi) (wr_S (i := i) (k := 8) hi (by decide)) (by decide) (by decide) (by decide) (by decide) (Nat.le_of_ble_eq_true rfl) (am_at eX6_copyFrom 39 rfl) h (fun V5 h => ?_)
  refine AE.run K eX6_copyFrom 40 2 (show am_run 2 ((tX6_copyFrom.drop 40).take 2) 75 [some (.ref (sS i + 1)), some (.ref (sS j + 1))] [] = some (77, [some (.ref (sS i + 1)), some (.ref (sS j + 1))], [.ref (sS j + 1), .ref (sS i + 1)]) from rfl) ?_
  refine AE.getI K gf_X6_27 (sh_S1 hj) rfl (am_at eX6_copyFrom 42 rfl) ?_
  refine AE.putI K pf_X6_27 (sh_S1 hi) (wr_S (i := i) (k := 1) hi (by decide)) rfl (am_at eX6_copyFrom 43 rfl) h (fun V6 h => ?_)
  refine AE.run K eX6_copyFrom 44 2 (show am_run 2 ((tX6_copyFrom.drop 44).take 2) 83 [some (.ref (sS i + 1)), some (.ref (sS j + 1))] [] = some (85, [some (.ref (sS i + 1)), some (.ref (sS j + 1))], [.ref (sS j + 1), .ref (sS i + 1)]) from rfl) ?_
  refine AE.getI K gf_X6_31 (sh_S1 hj) rfl (am_at eX6_copyFrom 46 rfl) ?_
  refine AE.putI K pf_X6_31 (sh_S1 hi) (wr_S (i := i) (k := 1) hi (by decide)) rfl (am_at eX6_copyFrom 47 rfl) h (fun V7 h => ?_)
  refine AE.run K eX6_copyFrom 48 2 (show am_run 2 ((tX6_copyFrom.drop 48).take 2) 91 [some (.ref (sS i + 1)), some (.ref (sS j + 1))] [] = some (93, [some (.ref (sS i + 1)), some (.ref (sS j + 1))], [.ref (sS j + 1), .ref (sS i + 1)]) from rfl) ?_
  refine AE.getI K gf_X6_34 (sh_S1 hj) rfl (am_at eX6_copyFrom 50 rfl) ?_
  refine AE.putI K pf_X6_34 (sh_S1 hi) (wr_S (i := i) (k := 1) hi (by decide)) rfl (am_at eX6_copyFrom 51 rfl) h (fun V8 h => ?_)
  exact AE.vret K (by omega) (am_at eX6_copyFrom 52 rfl) h
def d_X1_packetTotal (i : Nat) (V : am_V) : am_R := rB (fun (bs0_20 : Int32) (V_20 : am_V) => some (.inl (some (.int (bs0_20))), V_20)) (fun (j20 : Int32 → am_V → am_R) => (if (V (sS i + 2) 5) = 0 then j20 (V (sS i + 2) 4) V else j20 ((V (sS i + 2) 4) + (nI 1)) V))
set_option maxRecDepth 100000 in
set_option maxHeartbeats 4000000 in
theorem kX1_packetTotal {U : am_U} {l : Launch} (B : am_base xx U) (hfl : l.stackTraces = false) {V : am_V} {i : Nat} (hi : i < 12) {r : (Option Value ⊕ String) × am_V} (h : d_X1_packetTotal i V = some r) : am_Ct xx U l yX1_packetTotal cX1_packetTotal 1 (some .int) (rk 0 0 0) [.ref (sS i + 2)] V (am_is r.1 r.2) := by
  refine am_Ct.of B hfl (by decide) (Nat.le_of_ble_eq_true rfl) ?_
  intro G hgl hgR hr ok h0 hex
  have K : aK U l G RX1 cX1_packetTotal 1 (some .int) 0 0 0 := ⟨hgl, hgR, hr, ok, h0⟩
  unfold d_X1_packetTotal at h
  show AE U G 1 0 0 0 r 0 V 0 [some (.ref (sS i + 2))] []
  refine AE.run K eX1_packetTotal 0 1 (show am_run 1 ((tX1_packetTotal.drop 0).take 1) 0 [some (.ref (sS i + 2))] [] = some (1, [some (.ref (sS i + 2))], [.ref (sS i + 2)]) from rfl) ?_
  refine AE.getI K gf_X1_29 (sh_S2 hi) rfl (am_at eX1_packetTotal 1 rfl) ?_
  refine rB_of (P := fun (j : Int32 → am_V → am_R) => ∀ (bs0_20 : Int32) (V_20 : am_V), j bs0_20 V_20 = some r → AE U G 1 0 0 0 r 0 V_20 20 [none] [.int (bs0_20)]) h (fun bs0_20 V_20 h => ?_) (fun j20 hj20 h => ?_)
  · exact AE.iret K (by omega) (am_at eX1_packetTotal 10 rfl) h
  refine AE.if0 K 16 (am_at eX1_packetTotal 2 rfl) (by decide) rfl h (fun h => ?_) (fun h => ?_)
  · refine AE.run K eX1_packetTotal 8 1 (show am_run 1 ((tX1_packetTotal.drop 8).take 1) 16 [some (.ref (sS i + 2))] [] = some (17, [some (.ref (sS i + 2))], [.ref (sS i + 2)]) from rfl) ?_
    refine AE.getI K gf_X1_26 (sh_S2 hi) rfl (am_at eX1_packetTotal 9 rfl) ?_
    exact AE.sub (L' := [none]) trivial (hj20 (V (sS i + 2) 4) V h)
  · refine AE.run K eX1_packetTotal 3 1 (show am_run 1 ((tX1_packetTotal.drop 3).take 1) 7 [some (.ref (sS i + 2))] [] = some (8, [some (.ref (sS i + 2))], [.ref (sS i + 2)]) from rfl) ?_
    refine AE.getI K gf_X1_26 (sh_S2 hi) rfl (am_at eX1_packetTotal 4 rfl) ?_
    refine AE.run K eX1_packetTotal 5 3 (show am_run 1 ((tX1_packetTotal.drop 5).take 3) 11 [some (.ref (sS i + 2))] [.int (V (sS i + 2) 4)] = some (20, [some (.ref (sS i + 2))], [.int ((V (sS i + 2) 4) + (nI 1))]) from rfl) ?_
    exact AE.sub (L' := [none]) trivial (hj20 ((V (sS i + 2) 4) + (nI 1)) V h)
def d_X1_allPackets (i : Nat) (V : am_V) : am_R := rI (d_X1_packetTotal i V) (fun (y2 : Int32) (V1 : am_V) => some (.inl (some (.int (((nI 1) <<< (y2 &&& 31)) - (nI 1)))), V1))
set_option maxRecDepth 100000 in
set_option maxHeartbeats 4000000 in
theorem kX1_allPackets {U : am_U} {l : Launch} (B : am_base xx U) (hfl : l.stackTraces = false) {V : am_V} {i : Nat} (hi : i < 12) {r : (Option Value ⊕ String) × am_V} (h : d_X1_allPackets i V = some r) : am_Ct xx U l yX1_allPackets cX1_allPackets 1 (some .int) (rk 1 0 20) [.ref (sS i + 2)] V (am_is r.1 r.2) := by
  refine am_Ct.of B hfl (by decide) (Nat.le_of_ble_eq_true rfl) ?_
  intro G hgl hgR hr ok h0 hex
  have K : aK U l G RX1 cX1_allPackets 1 (some .int) 1 0 20 := ⟨hgl, hgR, hr, ok, h0⟩
  unfold d_X1_allPackets at h
  show AE U G 1 1 0 20 r 0 V 0 [some (.ref (sS i + 2))] []
  refine AE.run K eX1_allPackets 0 2 (show am_run 1 ((tX1_allPackets.drop 0).take 2) 0 [some (.ref (sS i + 2))] [] = some (2, [some (.ref (sS i + 2))], [.ref (sS i + 2), .int (nI 1)]) from rfl) ?_
  refine AE.cv (f' := 0) (c' := 0) (lo' := 0) (st := [.int (nI 1)]) (As := []) (m := d_X1_packetTotal i V) K hex (fun q hq => kX1_packetTotal B hfl (i := i) hi hq) cv_X1_38 (sh_S2 hi) (T := TX1) (N := 8) rfl rfl rfl (Nat.le_of_ble_eq_true rfl) ⟨Nat.le_of_ble_eq_true rfl, Nat.le_of_ble_eq_true rfl⟩ (by omega) (am_at eX1_allPackets 2 rfl) h (rI_some h) (bkI (fun y2 V1 h => ?_))
  refine AE.run K eX1_allPackets 3 3 (show am_run 1 ((tX1_allPackets.drop 3).take 3) 5 [some (.ref (sS i + 2))] [.int (y2), .int (nI 1)] = some (8, [some (.ref (sS i + 2))], [.int (((nI 1) <<< (y2 &&& 31)) - (nI 1))]) from rfl) ?_
  exact AE.iret K (by omega) (am_at eX1_allPackets 6 rfl) h
def d_X1_covers (i : Nat) (x1 : Int32) (V : am_V) : am_R := rB (fun (bs0_33 : Int32) (V_33 : am_V) => rG (am_nb bs0_33) (some (.inl (some (.int (bs0_33))), V_33))) (fun (j33 : Int32 → am_V → am_R) => rB (fun (V_32 : am_V) => j33 (nI 0) V_32) (fun (j32 : am_V → am_R) => (if (V (sS i + 2) 1) ≤ 0 then j32 V else rG (am_in x1 9) ((if ¬ ((V (sS i + 9) (iN x1)) &&& (((nI 1) <<< ((V (sS i + 2) 4) &&& 31)) - (nI 1))) = (((nI 1) <<< ((V (sS i + 2) 4) &&& 31)) - (nI 1)) then j32 V else j33 (nI 1) V)))))
set_option maxRecDepth 100000 in
set_option maxHeartbeats 4000000 in
theorem kX1_covers {U : am_U} {l : Launch} (B : am_base xx U) (hfl : l.stackTraces = false) {V : am_V} {i : Nat} {x1 : Int32} (hi : i < 12) {r : (Option Value ⊕ String) × am_V} (h : d_X1_covers i x1 V = some r) : am_Ct xx U l yX1_covers cX1_covers 3 (some .boolean) (rk 0 0 0) [.ref (sS i + 2), .int (x1)] V (am_is r.1 r.2) := by
  refine am_Ct.of B hfl (by decide) (Nat.le_of_ble_eq_true rfl) ?_
  intro G hgl hgR hr ok h0 hex
  have K : aK U l G RX1 cX1_covers 3 (some .boolean) 0 0 0 := ⟨hgl, hgR, hr, ok, h0⟩
  unfold d_X1_covers at h
  show AE U G 3 0 0 0 r 0 V 0 [some (.ref (sS i + 2)), some (.int (x1)), none] []
  refine AE.run K eX1_covers 0 2 (show am_run 3 ((tX1_covers.drop 0).take 2) 0 [some (.ref (sS i + 2)), some (.int (x1)), none] [] = some (2, [some (.ref (sS i + 2)), some (.int (x1)), none], [.ref (sS i + 2), .int (nI 1)]) from rfl) ?_
  refine AE.getI K gf_X1_26 (sh_S2 hi) rfl (am_at eX1_covers 2 rfl) ?_
  refine AE.run K eX1_covers 3 5 (show am_run 3 ((tX1_covers.drop 3).take 5) 5 [some (.ref (sS i + 2)), some (.int (x1)), none] [.int (V (sS i + 2) 4), .int (nI 1)] = some (10, [some (.ref (sS i + 2)), some (.int (x1)), some (.int (((nI 1) <<< ((V (sS i + 2) 4) &&& 31)) - (nI 1)))], [.ref (sS i + 2)]) from rfl) ?_
  refine AE.getI K gf_X1_15 (sh_S2 hi) rfl (am_at eX1_covers 8 rfl) ?_
  refine rB_of (P := fun (j : Int32 → am_V → am_R) => ∀ (bs0_33 : Int32) (V_33 : am_V), j bs0_33 V_33 = some r → AE U G 3 0 0 0 r 0 V_33 33 [none, none, none] [.int (bs0_33)]) h (fun bs0_33 V_33 h => ?_) (fun j33 hj33 h => ?_)
  · exact AE.zret K (by omega) (am_at eX1_covers 21 rfl) h
  refine rB_of (P := fun (j : am_V → am_R) => ∀ (V_32 : am_V), j V_32 = some r → AE U G 3 0 0 0 r 0 V_32 32 [none, none, none] []) h (fun V_32 h => ?_) (fun j32 hj32 h => ?_)
  · refine AE.run K eX1_covers 20 1 (show am_run 3 ((tX1_covers.drop 20).take 1) 32 [none, none, none] [] = some (33, [none, none, none], [.int (nI 0)]) from rfl) ?_
    exact (hj33 (nI 0) V_32 h)
  refine AE.if0 K 32 (am_at eX1_covers 9 rfl) (by decide) rfl h (fun h => ?_) (fun h => ?_)
  · exact AE.sub (L' := [none, none, none]) trivial (hj32  V h)
  · refine AE.run K eX1_covers 10 1 (show am_run 3 ((tX1_covers.drop 10).take 1) 16 [some (.ref (sS i + 2)), some (.int (x1)), some (.int (((nI 1) <<< ((V (sS i + 2) 4) &&& 31)) - (nI 1)))] [] = some (17, [some (.ref (sS i + 2)), some (.int (x1)), some (.int (((nI 1) <<< ((V (sS i + 2) 4) &&& 31)) - (nI 1)))], [.ref (sS i + 2)]) from rfl) ?_
    refine AE.getR K gf_X1_9 (sh_S2 hi) rfl (am_at eX1_covers 11 rfl) ?_
    refine AE.run K eX1_covers 12 1 (show am_run 3 ((tX1_covers.drop 12).take 1) 20 [some (.ref (sS i + 2)), some (.int (x1)), some (.int (((nI 1) <<< ((V (sS i + 2) 4) &&& 31)) - (nI 1)))] [.ref (sS i + 9)] = some (21, [some (.ref (sS i + 2)), some (.int (x1)), some (.int (((nI 1) <<< ((V (sS i + 2) 4) &&& 31)) - (nI 1)))], [.int (x1), .ref (sS i + 9)]) from rfl) ?_
    refine AE.iald K (sh_S9 hi) (am_at eX1_covers 13 rfl) h (fun h => ?_)
    refine AE.run K eX1_covers 14 3 (show am_run 3 ((tX1_covers.drop 14).take 3) 22 [some (.ref (sS i + 2)), some (.int (x1)), some (.int (((nI 1) <<< ((V (sS i + 2) 4) &&& 31)) - (nI 1)))] [.int (V (sS i + 9) (iN x1))] = some (25, [some (.ref (sS i + 2)), some (.int (x1)), some (.int (((nI 1) <<< ((V (sS i + 2) 4) &&& 31)) - (nI 1)))], [.int (((nI 1) <<< ((V (sS i + 2) 4) &&& 31)) - (nI 1)), .int ((V (sS i + 9) (iN x1)) &&& (((nI 1) <<< ((V (sS i + 2) 4) &&& 31)) - (nI 1)))]) from rfl) ?_
    refine AE.ic K 32 (am_at eX1_covers 17 rfl) (by decide) rfl h (fun h => ?_) (fun h => ?_)
    · exact AE.sub (L' := [none, none, none]) trivial (hj32  V h)
    · refine AE.run K eX1_covers 18 2 (show am_run 3 ((tX1_covers.drop 18).take 2) 28 [some (.ref (sS i + 2)), some (.int (x1)), some (.int (((nI 1) <<< ((V (sS i + 2) 4) &&& 31)) - (nI 1)))] [] = some (33, [some (.ref (sS i + 2)), some (.int (x1)), some (.int (((nI 1) <<< ((V (sS i + 2) 4) &&& 31)) - (nI 1)))], [.int (nI 1)]) from rfl) ?_
      exact AE.sub (L' := [none, none, none]) trivial (hj33 (nI 1) V h)
def d_X1_copyFrom (i : Nat) (j : Nat) (V : am_V) : am_R := rV (am_row V (sS i + 9) (va_cpy (V (sS j + 9)) (V (sS i + 9)) 0 0 9)) (fun (V1 : am_V) => rV (am_set V1 (sS i + 2) 1 (V1 (sS j + 2) 1)) (fun (V2 : am_V) => rG (am_nb (V2 (sS j + 2) 2)) (rV (am_set V2 (sS i + 2) 2 (V2 (sS j + 2) 2)) (fun (V3 : am_V) => rV (am_set V3 (sS i + 2) 3 (V3 (sS j + 2) 3)) (fun (V4 : am_V) => rV (am_set V4 (sS i + 2) 4 (V4 (sS j + 2) 4)) (fun (V5 : am_V) => rG (am_nb (V5 (sS j + 2) 5)) (rV (am_set V5 (sS i + 2) 5 (V5 (sS j + 2) 5)) (fun (V6 : am_V) => rV (am_set V6 (sS i + 2) 6 (V6 (sS j + 2) 6)) (fun (V7 : am_V) => rV (am_set V7 (sS i + 2) 7 (V7 (sS j + 2) 7)) (fun (V8 : am_V) => some (.inl none, V8)))))))))))
set_option maxRecDepth 100000 in
set_option maxHeartbeats 4000000 in
theorem kX1_copyFrom {U : am_U} {l : Launch} (B : am_base xx U) (hfl : l.stackTraces = false) {V : am_V} {i : Nat} {j : Nat} (hi : i < 12) (hj : j < 12) {r : (Option Value ⊕ String) × am_V} (h : d_X1_copyFrom i j V = some r) : am_Ct xx U l yX1_copyFrom cX1_copyFrom 2 none (rk 2 0 60) [.ref (sS i + 2), .ref (sS j + 2)] V (am_is r.1 r.2) := by
  refine am_Ct.of B hfl (by decide) (Nat.le_of_ble_eq_true rfl) ?_
  intro G hgl hgR hr ok h0 hex
  have K : aK U l G RX1 cX1_copyFrom 2 none 2 0 60 := ⟨hgl, hgR, hr, ok, h0⟩
  unfold d_X1_copyFrom at h
  show AE U G 2 2 0 60 r 0 V 0 [some (.ref (sS i + 2)), some (.ref (sS j + 2))] []
  refine AE.run K eX1_copyFrom 0 1 (show am_run 2 ((tX1_copyFrom.drop 0).take 1) 0 [some (.ref (sS i + 2)), some (.ref (sS j + 2))] [] = some (1, [some (.ref (sS i + 2)), some (.ref (sS j + 2))], [.ref (sS j + 2)]) from rfl) ?_
  refine AE.getR K gf_X1_9 (sh_S2 hj) rfl (am_at eX1_copyFrom 1 rfl) ?_
  refine AE.run K eX1_copyFrom 2 2 (show am_run 2 ((tX1_copyFrom.drop 2).take 2) 4 [some (.ref (sS i + 2)), some (.ref (sS j + 2))] [.ref (sS j + 9)] = some (6, [some (.ref (sS i + 2)), some (.ref (sS j + 2))], [.ref (sS i + 2), .int (nI 0), .ref (sS j + 9)]) from rfl) ?_
  refine AE.getR K gf_X1_9 (sh_S2 hi) rfl (am_at eX1_copyFrom 4 rfl) ?_
  refine AE.run K eX1_copyFrom 5 2 (show am_run 2 ((tX1_copyFrom.drop 5).take 2) 9 [some (.ref (sS i + 2)), some (.ref (sS j + 2))] [.ref (sS i + 9), .int (nI 0), .ref (sS j + 9)] = some (12, [some (.ref (sS i + 2)), some (.ref (sS j + 2))], [.int (nI 9), .int (nI 0), .ref (sS i + 9), .int (nI 0), .ref (sS j + 9)]) from rfl) ?_
  refine AE.cpy (n := 9) K ac_X1_42 (sh_S9 hj) (sh_S9 hi) (wr_S (i := i) (k := 9) hi (by decide)) (by decide) (by decide) (by decide) (by decide) (Nat.le_of_ble_eq_true rfl) (am_at eX1_copyFrom 7 rfl) h (fun V1 h => ?_)
  refine AE.run K eX1_copyFrom 8 2 (show am_run 2 ((tX1_copyFrom.drop 8).take 2) 15 [some (.ref (sS i + 2)), some (.ref (sS j + 2))] [] = some (17, [some (.ref (sS i + 2)), some (.ref (sS j + 2))], [.ref (sS j + 2), .ref (sS i + 2)]) from rfl) ?_
  refine AE.getI K gf_X1_15 (sh_S2 hj) rfl (am_at eX1_copyFrom 10 rfl) ?_
  refine AE.putI K pf_X1_15 (sh_S2 hi) (wr_S (i := i) (k := 2) hi (by decide)) rfl (am_at eX1_copyFrom 11 rfl) h (fun V2 h => ?_)
  refine AE.run K eX1_copyFrom 12 2 (show am_run 2 ((tX1_copyFrom.drop 12).take 2) 23 [some (.ref (sS i + 2)), some (.ref (sS j + 2))] [] = some (25, [some (.ref (sS i + 2)), some (.ref (sS j + 2))], [.ref (sS j + 2), .ref (sS i + 2)]) from rfl) ?_
  refine AE.getI K gf_X1_19 (sh_S2 hj) rfl (am_at eX1_copyFrom 14 rfl) ?_
  refine AE.putZ K pf_X1_19 (sh_S2 hi) (wr_S (i := i) (k := 2) hi (by decide)) rfl (am_at eX1_copyFrom 15 rfl) h (fun V3 h => ?_)
  refine AE.run K eX1_copyFrom 16 2 (show am_run 2 ((tX1_copyFrom.drop 16).take 2) 31 [some (.ref (sS i + 2)), some (.ref (sS j + 2))] [] = some (33, [some (.ref (sS i + 2)), some (.ref (sS j + 2))], [.ref (sS j + 2), .ref (sS i + 2)]) from rfl) ?_
  refine AE.getI K gf_X1_23 (sh_S2 hj) rfl (am_at eX1_copyFrom 18 rfl) ?_
  refine AE.putI K pf_X1_23 (sh_S2 hi) (wr_S (i := i) (k := 2) hi (by decide)) rfl (am_at eX1_copyFrom 19 rfl) h (fun V4 h => ?_)
  refine AE.run K eX1_copyFrom 20 2 (show am_run 2 ((tX1_copyFrom.drop 20).take 2) 39 [some (.ref (sS i + 2)), some (.ref (sS j + 2))] [] = some (41, [some (.ref (sS i + 2)), some (.ref (sS j + 2))], [.ref (sS j + 2), .ref (sS i + 2)]) from rfl) ?_
  refine AE.getI K gf_X1_26 (sh_S2 hj) rfl (am_at eX1_copyFrom 22 rfl) ?_
  refine AE.putI K pf_X1_26 (sh_S2 hi) (wr_S (i := i) (k := 2) hi (by decide)) rfl (am_at eX1_copyFrom 23 rfl) h (fun V5 h => ?_)
  refine AE.run K eX1_copyFrom 24 2 (show am_run 2 ((tX1_copyFrom.drop 24).take 2) 47 [some (.ref (sS i + 2)), some (.ref (sS j + 2))] [] = some (49, [some (.ref (sS i + 2)), some (.ref (sS j + 2))], [.ref (sS j + 2), .ref (sS i + 2)]) from rfl) ?_
  refine AE.getI K gf_X1_29 (sh_S2 hj) rfl (am_at eX1_copyFrom 26 rfl) ?_
  refine AE.putZ K pf_X1_29 (sh_S2 hi) (wr_S (i := i) (k := 2) hi (by decide)) rfl (am_at eX1_copyFrom 27 rfl) h (fun V6 h => ?_)
  refine AE.run K eX1_copyFrom 28 2 (show am_run 2 ((tX1_copyFrom.drop 28).take 2) 55 [some (.ref (sS i + 2)), some (.ref (sS j + 2))] [] = some (57, [some (.ref (sS i + 2)), some (.ref (sS j + 2))], [.ref (sS j + 2), .ref (sS i + 2)]) from rfl) ?_
  refine AE.getI K gf_X1_32 (sh_S2 hj) rfl (am_at eX1_copyFrom 30 rfl) ?_
  refine AE.putI K pf_X1_32 (sh_S2 hi) (wr_S (i := i) (k := 2) hi (by decide)) rfl (am_at eX1_copyFrom 31 rfl) h (fun V7 h => ?_)
  refine AE.run K eX1_copyFrom 32 2 (show am_run 2 ((tX1_copyFrom.drop 32).take 2) 63 [some (.ref (sS i + 2)), some (.ref (sS j + 2))] [] = some (65, [some (.ref (sS i + 2)), some (.ref (sS j + 2))], [.ref (sS j + 2), .ref (sS i + 2)]) from rfl) ?_
  refine AE.getI K gf_X1_35 (sh_S2 hj) rfl (am_at eX1_copyFrom 34 rfl) ?_
  refine AE.putI K pf_X1_35 (sh_S2 hi) (wr_S (i := i) (k := 2) hi (by decide)) rfl (am_at eX1_copyFrom 35 rfl) h (fun V8 h => ?_)
  exact AE.vret K (by omega) (am_at eX1_copyFrom 36 rfl) h
