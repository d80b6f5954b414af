def d_L_addField (x1 : Int32) (V : am_V) : am_R := rXI (d_X11_addField x1 V) (fun (y2 : Int32) (V1 : am_V) => some (.inl (some (.int (y2))), V1)) (fun (E9 : String) (V9 : am_V) => (if E9 = "java/lang/IllegalArgumentException" then some (.inl (some (.int ((-100000000 : Int32)))), V9) else (if E9 = "java/lang/UnsupportedOperationException" then some (.inl (some (.int ((-100000000 : Int32)))), V9) else none)))
set_option maxRecDepth 100000 in
set_option maxHeartbeats 4000000 in
theorem kL_addField {U : am_U} {l : Launch} (B : am_base xx U) (hfl : l.stackTraces = false) {V : am_V} {x1 : Int32} {r : (Option Value ⊕ String) × am_V} (h : d_L_addField x1 V = some r) : am_CtW xx U l yL_addField cL_addField 4 (some .int) [(3, 9, 12, 17), (3, 9, 16, 19)] (rk 9 1 242) [.ref (1), .int (x1)] V (am_is r.1 r.2) := by
  refine am_CtW.of B hfl (by decide) (Nat.le_of_ble_eq_true rfl) ?_
  intro G hgl hgR hr ok h0 hex
  have K : aK U l G RL cL_addField 4 (some .int) 9 1 242 := ⟨hgl, hgR, hr, ok, h0⟩
  unfold d_L_addField at h
  show AE U G 4 9 1 242 r 0 V 0 [some (.ref (1)), some (.int (x1)), none, none] []
  refine AE.ldcI (index := 10) (v := -100000000) K (x_in 463 (by decide +kernel)) (am_at eL_addField 0 rfl) ?_
  refine AE.run K eL_addField 1 3 (show am_run 4 ((tL_addField.drop 1).take 3) 2 [some (.ref (1)), some (.int (x1)), none, none] [.int ((-100000000 : Int32))] = some (5, [some (.ref (1)), some (.int (x1)), some (.int ((-100000000 : Int32))), none], [.int (x1), .ref (1)]) from rfl) ?_
  refine AE.cvX (f' := 8) (c' := 1) (lo' := 221) (st := []) (As := [.int (x1)]) (m := d_X11_addField x1 V) K (fun q hq => kX11_addField B hfl hq) cv_L_11 rfl (T := TX11) (N := 16) rfl rfl rfl (Nat.le_of_ble_eq_true rfl) ⟨Nat.le_of_ble_eq_true rfl, Nat.le_of_ble_eq_true rfl⟩ (by omega) (am_at eL_addField 4 rfl) h (rXI_some h) (bkXI (fun y2 V1 h => ?_) (fun E9 V9 h => ?_))
  · refine AE.run K eL_addField 5 2 (show am_run 4 ((tL_addField.drop 5).take 2) 8 [some (.ref (1)), some (.int (x1)), some (.int ((-100000000 : Int32))), none] [.int (y2)] = some (20, [some (.ref (1)), some (.int (x1)), some (.int (y2)), none], []) from rfl) ?_
    refine AE.run K eL_addField 13 1 (show am_run 4 ((tL_addField.drop 13).take 1) 20 [some (.ref (1)), some (.int (x1)), some (.int (y2)), none] [] = some (21, [some (.ref (1)), some (.int (x1)), some (.int (y2)), none], [.int (y2)]) from rfl) ?_
    exact AE.iret K (by omega) (am_at eL_addField 14 rfl) h
  · refine AEx.cse h (fun h => ?_) (fun h => ?_)
    · refine AEx.catch (name := "java/lang/IllegalArgumentException") (k := 3) (n := 1) (j := 0) K hex rfl (trivial) (by decide) (by decide) (x_in 461 (by decide +kernel)) (y_inN 562 (by decide +kernel)) (by decide) rfl (Or.inl ⟨⟨3, by decide⟩, rfl, rfl, (am_at eL_addField 7 rfl)⟩) ?_
      refine AE.ldcI (index := 10) (v := -100000000) K (x_in 463 (by decide +kernel)) (am_at eL_addField 8 rfl) ?_
      exact AE.iret K (by omega) (am_at eL_addField 9 rfl) h
    refine AEx.cse h (fun h => ?_) (fun h => ?_)
    · refine AEx.catch (name := "java/lang/UnsupportedOperationException") (k := 3) (n := 1) (j := 1) K hex rfl (⟨Or.inr ⟨by decide, "java/lang/IllegalArgumentException", (x_in 461 (by decide +kernel)), (List.mem_of_getElem? (i := 128) rfl)⟩, trivial⟩) (by decide) (by decide) (x_in 462 (by decide +kernel)) (y_inN 582 (by decide +kernel)) (by decide) rfl (Or.inl ⟨⟨3, by decide⟩, rfl, rfl, (am_at eL_addField 10 rfl)⟩) ?_
      refine AE.ldcI (index := 10) (v := -100000000) K (x_in 463 (by decide +kernel)) (am_at eL_addField 11 rfl) ?_
      exact AE.iret K (by omega) (am_at eL_addField 12 rfl) h
    cases h
def d_L_setShield (x1 : Int32) (x2 : Int32) (V : am_V) : am_R := rXI (d_X11_setShield x1 x2 V) (fun (y2 : Int32) (V1 : am_V) => some (.inl (some (.int (y2))), V1)) (fun (E9 : String) (V9 : am_V) => (if E9 = "java/lang/IndexOutOfBoundsException" then some (.inl (some (.int ((-100000000 : Int32)))), V9) else (if E9 = "java/lang/IllegalArgumentException" then some (.inl (some (.int ((-100000000 : Int32)))), V9) else none)))
set_option maxRecDepth 100000 in
set_option maxHeartbeats 4000000 in
theorem kL_setShield {U : am_U} {l : Launch} (B : am_base xx U) (hfl : l.stackTraces = false) {V : am_V} {x1 : Int32} {x2 : Int32} {r : (Option Value ⊕ String) × am_V} (h : d_L_setShield x1 x2 V = some r) : am_CtW xx U l yL_setShield cL_setShield 5 (some .int) [(3, 10, 13, 25), (3, 10, 18, 17)] (rk 9 1 243) [.ref (1), .int (x1), .int (x2)] V (am_is r.1 r.2) := by
  refine am_CtW.of B hfl (by decide) (Nat.le_of_ble_eq_true rfl) ?_
  intro G hgl hgR hr ok h0 hex
  have K : aK U l G RL cL_setShield 5 (some .int) 9 1 243 := ⟨hgl, hgR, hr, ok, h0⟩
  unfold d_L_setShield at h
  show AE U G 5 9 1 243 r 0 V 0 [some (.ref (1)), some (.int (x1)), some (.int (x2)), none, none] []
  refine AE.ldcI (index := 10) (v := -100000000) K (x_in 463 (by decide +kernel)) (am_at eL_setShield 0 rfl) ?_
  refine AE.run K eL_setShield 1 4 (show am_run 5 ((tL_setShield.drop 1).take 4) 2 [some (.ref (1)), some (.int (x1)), some (.int (x2)), none, none] [.int ((-100000000 : Int32))] = some (6, [some (.ref (1)), some (.int (x1)), some (.int (x2)), some (.int ((-100000000 : Int32))), none], [.int (x2), .int (x1), .ref (1)]) from rfl) ?_
  refine AE.cvX (f' := 8) (c' := 1) (lo' := 221) (st := []) (As := [.int (x1), .int (x2)]) (m := d_X11_setShield x1 x2 V) K (fun q hq => kX11_setShield B hfl hq) cv_L_21 rfl (T := TX11) (N := 16) rfl rfl rfl (Nat.le_of_ble_eq_true rfl) ⟨Nat.le_of_ble_eq_true rfl, Nat.le_of_ble_eq_true rfl⟩ (by omega) (am_at eL_setShield 5 rfl) h (rXI_some h) (bkXI (fun y2 V1 h => ?_) (fun E9 V9 h => ?_))
  · refine AE.run K eL_setShield 6 2 (show am_run 5 ((tL_setShield.drop 6).take 2) 9 [some (.ref (1)), some (.int (x1)), some (.int (x2)), some (.int ((-100000000 : Int32))), none] [.int (y2)] = some (23, [some (.ref (1)), some (.int (x1)), some (.int (x2)), some (.int (y2)), none], []) from rfl) ?_
    refine AE.run K eL_setShield 14 1 (show am_run 5 ((tL_setShield.drop 14).take 1) 23 [some (.ref (1)), some (.int (x1)), some (.int (x2)), some (.int (y2)), none] [] = some (24, [some (.ref (1)), some (.int (x1)), some (.int (x2)), some (.int (y2)), none], [.int (y2)]) from rfl) ?_
    exact AE.iret K (by omega) (am_at eL_setShield 15 rfl) h
  · refine AEx.cse h (fun h => ?_) (fun h => ?_)
    · refine AEx.catch (name := "java/lang/IndexOutOfBoundsException") (k := 4) (n := 2) (j := 0) K hex rfl (trivial) (by decide) (by decide) (x_in 606 (by decide +kernel)) (y_inN 490 (by decide +kernel)) (by decide) rfl (Or.inr ⟨rfl, (am_at eL_setShield 8 rfl)⟩) ?_
      refine AE.ldcI (index := 10) (v := -100000000) K (x_in 463 (by decide +kernel)) (am_at eL_setShield 9 rfl) ?_
      exact AE.iret K (by omega) (am_at eL_setShield 10 rfl) h
    refine AEx.cse h (fun h => ?_) (fun h => ?_)
    · refine AEx.catch (name := "java/lang/IllegalArgumentException") (k := 4) (n := 2) (j := 1) K hex rfl (⟨Or.inr ⟨by decide, "java/lang/IndexOutOfBoundsException", (x_in 606 (by decide +kernel)), (List.mem_of_getElem? (i := 104) rfl)⟩, trivial⟩) (by decide) (by decide) (x_in 461 (by decide +kernel)) (y_inN 562 (by decide +kernel)) (by decide) rfl (Or.inr ⟨rfl, (am_at eL_setShield 11 rfl)⟩) ?_
      refine AE.ldcI (index := 10) (v := -100000000) K (x_in 463 (by decide +kernel)) (am_at eL_setShield 12 rfl) ?_
      exact AE.iret K (by omega) (am_at eL_setShield 13 rfl) h
    cases h
def d_L_addPath (x1 : Int32) (x2 : Int32) (x3 : Int32) (x4 : Int32) (V : am_V) : am_R := rXI (d_X11_addPath x1 x2 x3 x4 V) (fun (y2 : Int32) (V1 : am_V) => some (.inl (some (.int (y2))), V1)) (fun (E9 : String) (V9 : am_V) => (if E9 = "java/lang/IndexOutOfBoundsException" then some (.inl (some (.int ((-100000000 : Int32)))), V9) else (if E9 = "java/lang/IllegalArgumentException" then some (.inl (some (.int ((-100000000 : Int32)))), V9) else (if E9 = "java/lang/UnsupportedOperationException" then some (.inl (some (.int ((-100000000 : Int32)))), V9) else none))))
set_option maxRecDepth 100000 in
set_option maxHeartbeats 4000000 in
theorem kL_addPath {U : am_U} {l : Launch} (B : am_base xx U) (hfl : l.stackTraces = false) {V : am_V} {x1 : Int32} {x2 : Int32} {x3 : Int32} {x4 : Int32} {r : (Option Value ⊕ String) × am_V} (h : d_L_addPath x1 x2 x3 x4 V = some r) : am_CtW xx U l yL_addPath cL_addPath 7 (some .int) [(4, 15, 18, 25), (4, 15, 23, 17), (4, 15, 28, 19)] (rk 9 1 245) [.ref (1), .int (x1), .int (x2), .int (x3), .int (x4)] V (am_is r.1 r.2) := by
  refine am_CtW.of B hfl (by decide) (Nat.le_of_ble_eq_true rfl) ?_
  intro G hgl hgR hr ok h0 hex
  have K : aK U l G RL cL_addPath 7 (some .int) 9 1 245 := ⟨hgl, hgR, hr, ok, h0⟩
  unfold d_L_addPath at h
  show AE U G 7 9 1 245 r 0 V 0 [some (.ref (1)), some (.int (x1)), some (.int (x2)), some (.int (x3)), some (.int (x4)), none, none] []
  refine AE.ldcI (index := 10) (v := -100000000) K (x_in 463 (by decide +kernel)) (am_at eL_addPath 0 rfl) ?_
  refine AE.run K eL_addPath 1 6 (show am_run 7 ((tL_addPath.drop 1).take 6) 2 [some (.ref (1)), some (.int (x1)), some (.int (x2)), some (.int (x3)), some (.int (x4)), none, none] [.int ((-100000000 : Int32))] = some (10, [some (.ref (1)), some (.int (x1)), some (.int (x2)), some (.int (x3)), some (.int (x4)), some (.int ((-100000000 : Int32))), none], [.int (x4), .int (x3), .int (x2), .int (x1), .ref (1)]) from rfl) ?_
  refine AE.cvX (f' := 8) (c' := 1) (lo' := 221) (st := []) (As := [.int (x1), .int (x2), .int (x3), .int (x4)]) (m := d_X11_addPath x1 x2 x3 x4 V) K (fun q hq => kX11_addPath B hfl hq) cv_L_27 rfl (T := TX11) (N := 16) rfl rfl rfl (Nat.le_of_ble_eq_true rfl) ⟨Nat.le_of_ble_eq_true rfl, Nat.le_of_ble_eq_true rfl⟩ (by omega) (am_at eL_addPath 7 rfl) h (rXI_some h) (bkXI (fun y2 V1 h => ?_) (fun E9 V9 h => ?_))
  · refine AE.run K eL_addPath 8 2 (show am_run 7 ((tL_addPath.drop 8).take 2) 13 [some (.ref (1)), some (.int (x1)), some (.int (x2)), some (.int (x3)), some (.int (x4)), some (.int ((-100000000 : Int32))), none] [.int (y2)] = some (33, [some (.ref (1)), some (.int (x1)), some (.int (x2)), some (.int (x3)), some (.int (x4)), some (.int (y2)), none], []) from rfl) ?_
    refine AE.run K eL_addPath 19 1 (show am_run 7 ((tL_addPath.drop 19).take 1) 33 [some (.ref (1)), some (.int (x1)), some (.int (x2)), some (.int (x3)), some (.int (x4)), some (.int (y2)), none] [] = some (35, [some (.ref (1)), some (.int (x1)), some (.int (x2)), some (.int (x3)), some (.int (x4)), some (.int (y2)), none], [.int (y2)]) from rfl) ?_
    exact AE.iret K (by omega) (am_at eL_addPath 20 rfl) h
  · refine AEx.cse h (fun h => ?_) (fun h => ?_)
    · refine AEx.catch (name := "java/lang/IndexOutOfBoundsException") (k := 6) (n := 2) (j := 0) K hex rfl (trivial) (by decide) (by decide) (x_in 606 (by decide +kernel)) (y_inN 490 (by decide +kernel)) (by decide) rfl (Or.inr ⟨rfl, (am_at eL_addPath 10 rfl)⟩) ?_
      refine AE.ldcI (index := 10) (v := -100000000) K (x_in 463 (by decide +kernel)) (am_at eL_addPath 11 rfl) ?_
      exact AE.iret K (by omega) (am_at eL_addPath 12 rfl) h
    refine AEx.cse h (fun h => ?_) (fun h => ?_)
    · refine AEx.catch (name := "java/lang/IllegalArgumentException") (k := 6) (n := 2) (j := 1) K hex rfl (⟨Or.inr ⟨by decide, "java/lang/IndexOutOfBoundsException", (x_in 606 (by decide +kernel)), (List.mem_of_getElem? (i := 104) rfl)⟩, trivial⟩) (by decide) (by decide) (x_in 461 (by decide +kernel)) (y_inN 562 (by decide +kernel)) (by decide) rfl (Or.inr ⟨rfl, (am_at eL_addPath 13 rfl)⟩) ?_
      refine AE.ldcI (index := 10) (v := -100000000) K (x_in 463 (by decide +kernel)) (am_at eL_addPath 14 rfl) ?_
      exact AE.iret K (by omega) (am_at eL_addPath 15 rfl) h
    refine AEx.cse h (fun h => ?_) (fun h => ?_)
    · refine AEx.catch (name := "java/lang/UnsupportedOperationException") (k := 6) (n := 2) (j := 2) K hex rfl (⟨Or.inr ⟨by decide, "java/lang/IndexOutOfBoundsException", (x_in 606 (by decide +kernel)), (List.mem_of_getElem? (i := 130) rfl)⟩, Or.inr ⟨by decide, "java/lang/IllegalArgumentException", (x_in 461 (by decide +kernel)), (List.mem_of_getElem? (i := 128) rfl)⟩, trivial⟩) (by decide) (by decide) (x_in 462 (by decide +kernel)) (y_inN 582 (by decide +kernel)) (by decide) rfl (Or.inr ⟨rfl, (am_at eL_addPath 16 rfl)⟩) ?_
      refine AE.ldcI (index := 10) (v := -100000000) K (x_in 463 (by decide +kernel)) (am_at eL_addPath 17 rfl) ?_
      exact AE.iret K (by omega) (am_at eL_addPath 18 rfl) h
    cases h
def d_L_setGust (x1 : Int32) (x2 : Int32) (V : am_V) : am_R := rXI (d_X11_setGust x1 x2 V) (fun (y2 : Int32) (V1 : am_V) => some (.inl (some (.int (y2))), V1)) (fun (E9 : String) (V9 : am_V) => (if E9 = "java/lang/IndexOutOfBoundsException" then some (.inl (some (.int ((-100000000 : Int32)))), V9) else (if E9 = "java/lang/IllegalArgumentException" then some (.inl (some (.int ((-100000000 : Int32)))), V9) else none)))
set_option maxRecDepth 100000 in
set_option maxHeartbeats 4000000 in
theorem kL_setGust {U : am_U} {l : Launch} (B : am_base xx U) (hfl : l.stackTraces = false) {V : am_V} {x1 : Int32} {x2 : Int32} {r : (Option Value ⊕ String) × am_V} (h : d_L_setGust x1 x2 V = some r) : am_CtW xx U l yL_setGust cL_setGust 5 (some .int) [(3, 10, 13, 25), (3, 10, 18, 17)] (rk 9 1 243) [.ref (1), .int (x1), .int (x2)] V (am_is r.1 r.2) := by
  refine am_CtW.of B hfl (by decide) (Nat.le_of_ble_eq_true rfl) ?_
  intro G hgl hgR hr ok h0 hex
  have K : aK U l G RL cL_setGust 5 (some .int) 9 1 243 := ⟨hgl, hgR, hr, ok, h0⟩
  unfold d_L_setGust at h
  show AE U G 5 9 1 243 r 0 V 0 [some (.ref (1)), some (.int (x1)), some (.int (x2)), none, none] []
  refine AE.ldcI (index := 10) (v := -100000000) K (x_in 463 (by decide +kernel)) (am_at eL_setGust 0 rfl) ?_
  refine AE.run K eL_setGust 1 4 (show am_run 5 ((tL_setGust.drop 1).take 4) 2 [some (.ref (1)), some (.int (x1)), some (.int (x2)), none, none] [.int ((-100000000 : Int32))] = some (6, [some (.ref (1)), some (.int (x1)), some (.int (x2)), some (.int ((-100000000 : Int32))), none], [.int (x2), .int (x1), .ref (1)]) from rfl) ?_
  refine AE.cvX (f' := 8) (c' := 1) (lo' := 221) (st := []) (As := [.int (x1), .int (x2)]) (m := d_X11_setGust x1 x2 V) K (fun q hq => kX11_setGust B hfl hq) cv_L_31 rfl (T := TX11) (N := 16) rfl rfl rfl (Nat.le_of_ble_eq_true rfl) ⟨Nat.le_of_ble_eq_true rfl, Nat.le_of_ble_eq_true rfl⟩ (by omega) (am_at eL_setGust 5 rfl) h (rXI_some h) (bkXI (fun y2 V1 h => ?_) (fun E9 V9 h => ?_))
  · refine AE.run K eL_setGust 6 2 (show am_run 5 ((tL_setGust.drop 6).take 2) 9 [some (.ref (1)), some (.int (x1)), some (.int (x2)), some (.int ((-100000000 : Int32))), none] [.int (y2)] = some (23, [some (.ref (1)), some (.int (x1)), some (.int (x2)), some (.int (y2)), none], []) from rfl) ?_
    refine AE.run K eL_setGust 14 1 (show am_run 5 ((tL_setGust.drop 14).take 1) 23 [some (.ref (1)), some (.int (x1)), some (.int (x2)), some (.int (y2)), none] [] = some (24, [some (.ref (1)), some (.int (x1)), some (.int (x2)), some (.int (y2)), none], [.int (y2)]) from rfl) ?_
    exact AE.iret K (by omega) (am_at eL_setGust 15 rfl) h
  · refine AEx.cse h (fun h => ?_) (fun h => ?_)
    · refine AEx.catch (name := "java/lang/IndexOutOfBoundsException") (k := 4) (n := 2) (j := 0) K hex rfl (trivial) (by decide) (by decide) (x_in 606 (by decide +kernel)) (y_inN 490 (by decide +kernel)) (by decide) rfl (Or.inr ⟨rfl, (am_at eL_setGust 8 rfl)⟩) ?_
      refine AE.ldcI (index := 10) (v := -100000000) K (x_in 463 (by decide +kernel)) (am_at eL_setGust 9 rfl) ?_
      exact AE.iret K (by omega) (am_at eL_setGust 10 rfl) h
    refine AEx.cse h (fun h => ?_) (fun h => ?_)
    · refine AEx.catch (name := "java/lang/IllegalArgumentException") (k := 4) (n := 2) (j := 1) K hex rfl (⟨Or.inr ⟨by decide, "java/lang/IndexOutOfBoundsException", (x_in 606 (by decide +kernel)), (List.mem_of_getElem? (i := 104) rfl)⟩, trivial⟩) (by decide) (by decide) (x_in 461 (by decide +kernel)) (y_inN 562 (by decide +kernel)) (by decide) rfl (Or.inr ⟨rfl, (am_at eL_setGust 11 rfl)⟩) ?_
      refine AE.ldcI (index := 10) (v := -100000000) K (x_in 463 (by decide +kernel)) (am_at eL_setGust 12 rfl) ?_
      exact AE.iret K (by omega) (am_at eL_setGust 13 rfl) h
    cases h
def d_L_setBlocked (x1 : Int32) (x2 : Int32) (V : am_V) : am_R := rXI (d_X11_setBlocked x1 x2 V) (fun (y2 : Int32) (V1 : am_V) => some (.inl (some (.int (y2))), V1)) (fun (E9 : String) (V9 : am_V) => (if E9 = "java/lang/IndexOutOfBoundsException" then some (.inl (some (.int ((-100000000 : Int32)))), V9) else (if E9 = "java/lang/UnsupportedOperationException" then some (.inl (some (.int ((-100000000 : Int32)))), V9) else none)))
set_option maxRecDepth 100000 in
set_option maxHeartbeats 4000000 in
theorem kL_setBlocked {U : am_U} {l : Launch} (B : am_base xx U) (hfl : l.stackTraces = false) {V : am_V} {x1 : Int32} {x2 : Int32} {r : (Option Value ⊕ String) × am_V} (h : d_L_setBlocked x1 x2 V = some r) : am_CtW xx U l yL_setBlocked cL_setBlocked 5 (some .int) [(3, 10, 13, 25), (3, 10, 18, 19)] (rk 9 1 243) [.ref (1), .int (x1), .int (x2)] V (am_is r.1 r.2) := by
  refine am_CtW.of B hfl (by decide) (Nat.le_of_ble_eq_true rfl) ?_
  intro G hgl hgR hr ok h0 hex
  have K : aK U l G RL cL_setBlocked 5 (some .int) 9 1 243 := ⟨hgl, hgR, hr, ok, h0⟩
  unfold d_L_setBlocked at h
  show AE U G 5 9 1 243 r 0 V 0 [some (.ref (1)), some (.int (x1)), some (.int (x2)), none, none] []
  refine AE.ldcI (index := 10) (v := -100000000) K (x_in 463 (by decide +kernel)) (am_at eL_setBlocked 0 rfl) ?_
  refine AE.run K eL_setBlocked 1 4 (show am_run 5 ((tL_setBlocked.drop 1).take 4) 2 [some (.ref (1)), some (.int (x1)), some (.int (x2)), none, none] [.int ((-100000000 : Int32))] = some (6, [some (.ref (1)), some (.int (x1)), some (.int (x2)), some (.int ((-100000000 : Int32))), none], [.int (x2), .int (x1), .ref (1)]) from rfl) ?_
  refine AE.cvX (f' := 8) (c' := 1) (lo' := 221) (st := []) (As := [.int (x1), .int (x2)]) (m := d_X11_setBlocked x1 x2 V) K (fun q hq => kX11_setBlocked B hfl hq) cv_L_34 rfl (T := TX11) (N := 16) rfl rfl rfl (Nat.le_of_ble_eq_true rfl) ⟨Nat.le_of_ble_eq_true rfl, Nat.le_of_ble_eq_true rfl⟩ (by omega) (am_at eL_setBlocked 5 rfl) h (rXI_some h) (bkXI (fun y2 V1 h => ?_) (fun E9 V9 h => ?_))
  · refine AE.run K eL_setBlocked 6 2 (show am_run 5 ((tL_setBlocked.drop 6).take 2) 9 [some (.ref (1)), some (.int (x1)), some (.int (x2)), some (.int ((-100000000 : Int32))), none] [.int (y2)] = some (23, [some (.ref (1)), some (.int (x1)), some (.int (x2)), some (.int (y2)), none], []) from rfl) ?_
    refine AE.run K eL_setBlocked 14 1 (show am_run 5 ((tL_setBlocked.drop 14).take 1) 23 [some (.ref (1)), some (.int (x1)), some (.int (x2)), some (.int (y2)), none] [] = some (24, [some (.ref (1)), some (.int (x1)), some (.int (x2)), some (.int (y2)), none], [.int (y2)]) from rfl) ?_
    exact AE.iret K (by omega) (am_at eL_setBlocked 15 rfl) h
  · refine AEx.cse h (fun h => ?_) (fun h => ?_)
    · refine AEx.catch (name := "java/lang/IndexOutOfBoundsException") (k := 4) (n := 2) (j := 0) K hex rfl (trivial) (by decide) (by decide) (x_in 606 (by decide +kernel)) (y_inN 490 (by decide +kernel)) (by decide) rfl (Or.inr ⟨rfl, (am_at eL_setBlocked 8 rfl)⟩) ?_
      refine AE.ldcI (index := 10) (v := -100000000) K (x_in 463 (by decide +kernel)) (am_at eL_setBlocked 9 rfl) ?_
      exact AE.iret K (by omega) (am_at eL_setBlocked 10 rfl) h
    refine AEx.cse h (fun h => ?_) (fun h => ?_)
    · refine AEx.catch (name := "java/lang/UnsupportedOperationException") (k := 4) (n := 2) (j := 1) K hex rfl (⟨Or.inr ⟨by decide, "java/lang/IndexOutOfBoundsException", (x_in 606 (by decide +kernel)), (List.mem_of_getElem? (i := 130) rfl)⟩, trivial⟩) (by decide) (by decide) (x_in 462 (by decide +kernel)) (y_inN 582 (by decide +kernel)) (by decide) rfl (Or.inr ⟨rfl, (am_at eL_setBlocked 11 rfl)⟩) ?_
      refine AE.ldcI (index := 10) (v := -100000000) K (x_in 463 (by decide +kernel)) (am_at eL_setBlocked 12 rfl) ?_
      exact AE.iret K (by omega) (am_at eL_setBlocked 13 rfl) h
    cases h
def d_L_setSeed (x1 : Int32) (V : am_V) : am_R := rXI (d_X11_setSeed x1 V) (fun (y2 : Int32) (V1 : am_V) => some (.inl (some (.int (y2))), V1)) (fun (E9 : String) (V9 : am_V) => (if E9 = "java/lang/IllegalArgumentException" then some (.inl (some (.int ((-100000000 : Int32)))), V9) else none))
set_option maxRecDepth 100000 in
set_option maxHeartbeats 4000000 in
theorem kL_setSeed {U : am_U} {l : Launch} (B : am_base xx U) (hfl : l.stackTraces = false) {V : am_V} {x1 : Int32} {r : (Option Value ⊕ String) × am_V} (h : d_L_setSeed x1 V = some r) : am_CtW xx U l yL_setSeed cL_setSeed 4 (some .int) [(3, 9, 12, 17)] (rk 9 1 242) [.ref (1), .int (x1)] V (am_is r.1 r.2) := by
  refine am_CtW.of B hfl (by decide) (Nat.le_of_ble_eq_true rfl) ?_
  intro G hgl hgR hr ok h0 hex
  have K : aK U l G RL cL_setSeed 4 (some .int) 9 1 242 := ⟨hgl, hgR, hr, ok, h0⟩
  unfold d_L_setSeed at h
  show AE U G 4 9 1 242 r 0 V 0 [some (.ref (1)), some (.int (x1)), none, none] []
  refine AE.ldcI (index := 10) (v := -100000000) K (x_in 463 (by decide +kernel)) (am_at eL_setSeed 0 rfl) ?_
  refine AE.run K eL_setSeed 1 3 (show am_run 4 ((tL_setSeed.drop 1).take 3) 2 [some (.ref (1)), some (.int (x1)), none, none] [.int ((-100000000 : Int32))] = some (5, [some (.ref (1)), some (.int (x1)), some (.int ((-100000000 : Int32))), none], [.int (x1), .ref (1)]) from rfl) ?_
  refine AE.cvX (f' := 8) (c' := 1) (lo' := 221) (st := []) (As := [.int (x1)]) (m := d_X11_setSeed x1 V) K (fun q hq => kX11_setSeed B hfl hq) cv_L_38 rfl (T := TX11) (N := 16) rfl rfl rfl (Nat.le_of_ble_eq_true rfl) ⟨Nat.le_of_ble_eq_true rfl, Nat.le_of_ble_eq_true rfl⟩ (by omega) (am_at eL_setSeed 4 rfl) h (rXI_some h) (bkXI (fun y2 V1 h => ?_) (fun E9 V9 h => ?_))
  · refine AE.run K eL_setSeed 5 2 (show am_run 4 ((tL_setSeed.drop 5).take 2) 8 [some (.ref (1)), some (.int (x1)), some (.int ((-100000000 : Int32))), none] [.int (y2)] = some (16, [some (.ref (1)), some (.int (x1)), some (.int (y2)), none], []) from rfl) ?_
    refine AE.run K eL_setSeed 10 1 (show am_run 4 ((tL_setSeed.drop 10).take 1) 16 [some (.ref (1)), some (.int (x1)), some (.int (y2)), none] [] = some (17, [some (.ref (1)), some (.int (x1)), some (.int (y2)), none], [.int (y2)]) from rfl) ?_
    exact AE.iret K (by omega) (am_at eL_setSeed 11 rfl) h
  · refine AEx.cse h (fun h => ?_) (fun h => ?_)
    · refine AEx.catch (name := "java/lang/IllegalArgumentException") (k := 3) (n := 1) (j := 0) K hex rfl (trivial) (by decide) (by decide) (x_in 461 (by decide +kernel)) (y_inN 562 (by decide +kernel)) (by decide) rfl (Or.inl ⟨⟨3, by decide⟩, rfl, rfl, (am_at eL_setSeed 7 rfl)⟩) ?_
      refine AE.ldcI (index := 10) (v := -100000000) K (x_in 463 (by decide +kernel)) (am_at eL_setSeed 8 rfl) ?_
      exact AE.iret K (by omega) (am_at eL_setSeed 9 rfl) h
    cases h
def d_L_startBroadcast (x1 : Int32) (x2 : Int32) (x3 : Int32) (V : am_V) : am_R := rXI (d_X11_startBroadcast x1 x2 x3 V) (fun (y2 : Int32) (V1 : am_V) => some (.inl (some (.int (y2))), V1)) (fun (E9 : String) (V9 : am_V) => (if E9 = "java/lang/IndexOutOfBoundsException" then some (.inl (some (.int ((-100000000 : Int32)))), V9) else (if E9 = "java/lang/IllegalArgumentException" then some (.inl (some (.int ((-100000000 : Int32)))), V9) else (if E9 = "java/lang/UnsupportedOperationException" then some (.inl (some (.int ((-100000000 : Int32)))), V9) else none))))
set_option maxRecDepth 100000 in
set_option maxHeartbeats 4000000 in
theorem kL_startBroadcast {U : am_U} {l : Launch} (B : am_base xx U) (hfl : l.stackTraces = false) {V : am_V} {x1 : Int32} {x2 : Int32} {x3 : Int32} {r : (Option Value ⊕ String) × am_V} (h : d_L_startBroadcast x1 x2 x3 V = some r) : am_CtW xx U l yL_startBroadcast cL_startBroadcast 6 (some .int) [(4, 13, 16, 25), (4, 13, 21, 17), (4, 13, 26, 19)] (rk 9 1 244) [.ref (1), .int (x1), .int (x2), .int (x3)] V (am_is r.1 r.2) := by
  refine am_CtW.of B hfl (by decide) (Nat.le_of_ble_eq_true rfl) ?_
  intro G hgl hgR hr ok h0 hex
  have K : aK U l G RL cL_startBroadcast 6 (some .int) 9 1 244 := ⟨hgl, hgR, hr, ok, h0⟩
  unfold d_L_startBroadcast at h
  show AE U G 6 9 1 244 r 0 V 0 [some (.ref (1)), some (.int (x1)), some (.int (x2)), some (.int (x3)), none, none] []
  refine AE.ldcI (index := 10) (v := -100000000) K (x_in 463 (by decide +kernel)) (am_at eL_startBroadcast 0 rfl) ?_
  refine AE.run K eL_startBroadcast 1 5 (show am_run 6 ((tL_startBroadcast.drop 1).take 5) 2 [some (.ref (1)), some (.int (x1)), some (.int (x2)), some (.int (x3)), none, none] [.int ((-100000000 : Int32))] = some (8, [some (.ref (1)), some (.int (x1)), some (.int (x2)), some (.int (x3)), some (.int ((-100000000 : Int32))), none], [.int (x3), .int (x2), .int (x1), .ref (1)]) from rfl) ?_
  refine AE.cvX (f' := 8) (c' := 1) (lo' := 221) (st := []) (As := [.int (x1), .int (x2), .int (x3)]) (m := d_X11_startBroadcast x1 x2 x3 V) K (fun q hq => kX11_startBroadcast B hfl hq) cv_L_41 rfl (T := TX11) (N := 16) rfl rfl rfl (Nat.le_of_ble_eq_true rfl) ⟨Nat.le_of_ble_eq_true rfl, Nat.le_of_ble_eq_true rfl⟩ (by omega) (am_at eL_startBroadcast 6 rfl) h (rXI_some h) (bkXI (fun y2 V1 h => ?_) (fun E9 V9 h => ?_))
  · refine AE.run K eL_startBroadcast 7 2 (show am_run 6 ((tL_startBroadcast.drop 7).take 2) 11 [some (.ref (1)), some (.int (x1)), some (.int (x2)), some (.int (x3)), some (.int ((-100000000 : Int32))), none] [.int (y2)] = some (31, [some (.ref (1)), some (.int (x1)), some (.int (x2)), some (.int (x3)), some (.int (y2)), none], []) from rfl) ?_
    refine AE.run K eL_startBroadcast 18 1 (show am_run 6 ((tL_startBroadcast.drop 18).take 1) 31 [some (.ref (1)), some (.int (x1)), some (.int (x2)), some (.int (x3)), some (.int (y2)), none] [] = some (33, [some (.ref (1)), some (.int (x1)), some (.int (x2)), some (.int (x3)), some (.int (y2)), none], [.int (y2)]) from rfl) ?_
    exact AE.iret K (by omega) (am_at eL_startBroadcast 19 rfl) h
  · refine AEx.cse h (fun h => ?_) (fun h => ?_)
    · refine AEx.catch (name := "java/lang/IndexOutOfBoundsException") (k := 5) (n := 2) (j := 0) K hex rfl (trivial) (by decide) (by decide) (x_in 606 (by decide +kernel)) (y_inN 490 (by decide +kernel)) (by decide) rfl (Or.inr ⟨rfl, (am_at eL_startBroadcast 9 rfl)⟩) ?_
      refine AE.ldcI (index := 10) (v := -100000000) K (x_in 463 (by decide +kernel)) (am_at eL_startBroadcast 10 rfl) ?_
      exact AE.iret K (by omega) (am_at eL_startBroadcast 11 rfl) h
    refine AEx.cse h (fun h => ?_) (fun h => ?_)
    · refine AEx.catch (name := "java/lang/IllegalArgumentException") (k := 5) (n := 2) (j := 1) K hex rfl (⟨Or.inr ⟨by decide, "java/lang/IndexOutOfBoundsException", (x_in 606 (by decide +kernel)), (List.mem_of_getElem? (i := 104) rfl)⟩, trivial⟩) (by decide) (by decide) (x_in 461 (by decide +kernel)) (y_inN 562 (by decide +kernel)) (by decide) rfl (Or.inr ⟨rfl, (am_at eL_startBroadcast 12 rfl)⟩) ?_
      refine AE.ldcI (index := 10) (v := -100000000) K (x_in 463 (by decide +kernel)) (am_at eL_startBroadcast 13 rfl) ?_
      exact AE.iret K (by omega) (am_at eL_startBroadcast 14 rfl) h
    refine AEx.cse h (fun h => ?_) (fun h => ?_)
    · refine AEx.catch (name := "java/lang/UnsupportedOperationException") (k := 5) (n := 2) (j := 2) K hex rfl (⟨Or.inr ⟨by decide, "java/lang/IndexOutOfBoundsException", (x_in 606 (by decide +kernel)), (List.mem_of_getElem? (i := 130) rfl)⟩, Or.inr ⟨by decide, "java/lang/IllegalArgumentException", (x_in 461 (by decide +kernel)), (List.mem_of_getElem? (i := 128) rfl)⟩, trivial⟩) (by decide) (by decide) (x_in 462 (by decide +kernel)) (y_inN 582 (by decide +kernel)) (by decide) rfl (Or.inr ⟨rfl, (am_at eL_startBroadcast 15 rfl)⟩) ?_
      refine AE.ldcI (index := 10) (v := -100000000) K (x_in 463 (by decide +kernel)) (am_at eL_startBroadcast 16 rfl) ?_
      exact AE.iret K (by omega) (am_at eL_startBroadcast 17 rfl) h
    cases h
def d_L_wind (V : am_V) : am_R := rXI (d_X11_wind V) (fun (y2 : Int32) (V1 : am_V) => some (.inl (some (.int (y2))), V1)) (fun (E9 : String) (V9 : am_V) => (if E9 = "java/lang/UnsupportedOperationException" then some (.inl (some (.int ((-100000000 : Int32)))), V9) else none))
set_option maxRecDepth 100000 in
set_option maxHeartbeats 4000000 in
theorem kL_wind {U : am_U} {l : Launch} (B : am_base xx U) (hfl : l.stackTraces = false) {V : am_V} {r : (Option Value ⊕ String) × am_V} (h : d_L_wind V = some r) : am_CtW xx U l yL_wind cL_wind 3 (some .int) [(3, 8, 11, 19)] (rk 9 1 241) [.ref (1)] V (am_is r.1 r.2) := by
  refine am_CtW.of B hfl (by decide) (Nat.le_of_ble_eq_true rfl) ?_
  intro G hgl hgR hr ok h0 hex
  have K : aK U l G RL cL_wind 3 (some .int) 9 1 241 := ⟨hgl, hgR, hr, ok, h0⟩
  unfold d_L_wind at h
  show AE U G 3 9 1 241 r 0 V 0 [some (.ref (1)), none, none] []
  refine AE.ldcI (index := 10) (v := -100000000) K (x_in 463 (by decide +kernel)) (am_at eL_wind 0 rfl) ?_
  refine AE.run K eL_wind 1 2 (show am_run 3 ((tL_wind.drop 1).take 2) 2 [some (.ref (1)), none, none] [.int ((-100000000 : Int32))] = some (4, [some (.ref (1)), some (.int ((-100000000 : Int32))), none], [.ref (1)]) from rfl) ?_
  refine AE.cvX (f' := 8) (c' := 1) (lo' := 221) (st := []) (As := []) (m := d_X11_wind V) K (fun q hq => kX11_wind B hfl hq) cv_L_45 rfl (T := TX11) (N := 16) rfl rfl rfl (Nat.le_of_ble_eq_true rfl) ⟨Nat.le_of_ble_eq_true rfl, Nat.le_of_ble_eq_true rfl⟩ (by omega) (am_at eL_wind 3 rfl) h (rXI_some h) (bkXI (fun y2 V1 h => ?_) (fun E9 V9 h => ?_))
  · refine AE.run K eL_wind 4 2 (show am_run 3 ((tL_wind.drop 4).take 2) 7 [some (.ref (1)), some (.int ((-100000000 : Int32))), none] [.int (y2)] = some (15, [some (.ref (1)), some (.int (y2)), none], []) from rfl) ?_
    refine AE.run K eL_wind 9 1 (show am_run 3 ((tL_wind.drop 9).take 1) 15 [some (.ref (1)), some (.int (y2)), none] [] = some (16, [some (.ref (1)), some (.int (y2)), none], [.int (y2)]) from rfl) ?_
    exact AE.iret K (by omega) (am_at eL_wind 10 rfl) h
  · refine AEx.cse h (fun h => ?_) (fun h => ?_)
    · refine AEx.catch (name := "java/lang/UnsupportedOperationException") (k := 2) (n := 1) (j := 0) K hex rfl (trivial) (by decide) (by decide) (x_in 462 (by decide +kernel)) (y_inN 582 (by decide +kernel)) (by decide) rfl (Or.inl ⟨⟨2, by decide⟩, rfl, rfl, (am_at eL_wind 6 rfl)⟩) ?_
      refine AE.ldcI (index := 10) (v := -100000000) K (x_in 463 (by decide +kernel)) (am_at eL_wind 7 rfl) ?_
      exact AE.iret K (by omega) (am_at eL_wind 8 rfl) h
    cases h
def d_L_windUntilEnd (V : am_V) : am_R := rXI (d_X11_windUntilEnd V) (fun (y2 : Int32) (V1 : am_V) => some (.inl (some (.int (y2))), V1)) (fun (E9 : String) (V9 : am_V) => (if E9 = "java/lang/UnsupportedOperationException" then some (.inl (some (.int ((-100000000 : Int32)))), V9) else none))
set_option maxRecDepth 100000 in
set_option maxHeartbeats 4000000 in
theorem kL_windUntilEnd {U : am_U} {l : Launch} (B : am_base xx U) (hfl : l.stackTraces = false) {V : am_V} {r : (Option Value ⊕ String) × am_V} (h : d_L_windUntilEnd V = some r) : am_CtW xx U l yL_windUntilEnd cL_windUntilEnd 3 (some .int) [(3, 8, 11, 19)] (rk 9 1 241) [.ref (1)] V (am_is r.1 r.2) := by
  refine am_CtW.of B hfl (by decide) (Nat.le_of_ble_eq_true rfl) ?_
  intro G hgl hgR hr ok h0 hex
  have K : aK U l G RL cL_windUntilEnd 3 (some .int) 9 1 241 := ⟨hgl, hgR, hr, ok, h0⟩
  unfold d_L_windUntilEnd at h
  show AE U G 3 9 1 241 r 0 V 0 [some (.ref (1)), none, none] []
  refine AE.ldcI (index := 10) (v := -100000000) K (x_in 463 (by decide +kernel)) (am_at eL_windUntilEnd 0 rfl) ?_
  refine AE.run K eL_windUntilEnd 1 2 (show am_run 3 ((tL_windUntilEnd.drop 1).take 2) 2 [some (.ref (1)), none, none] [.int ((-100000000 : Int32))] = some (4, [some (.ref (1)), some (.int ((-100000000 : Int32))), none], [.ref (1)]) from rfl) ?_
  refine AE.cvX (f' := 8) (c' := 1) (lo' := 221) (st := []) (As := []) (m := d_X11_windUntilEnd V) K (fun q hq => kX11_windUntilEnd B hfl hq) cv_L_49 rfl (T := TX11) (N := 16) rfl rfl rfl (Nat.le_of_ble_eq_true rfl) ⟨Nat.le_of_ble_eq_true rfl, Nat.le_of_ble_eq_true rfl⟩ (by omega) (am_at eL_windUntilEnd 3 rfl) h (rXI_some h) (bkXI (fun y2 V1 h => ?_) (fun E9 V9 h => ?_))
  · refine AE.run K eL_windUntilEnd 4 2 (show am_run 3 ((tL_windUntilEnd.drop 4).take 2) 7 [some (.ref (1)), some (.int ((-100000000 : Int32))), none] [.int (y2)] = some (15, [some (.ref (1)), some (.int (y2)), none], []) from rfl) ?_
    refine AE.run K eL_windUntilEnd 9 1 (show am_run 3 ((tL_windUntilEnd.drop 9).take 1) 15 [some (.ref (1)), some (.int (y2)), none] [] = some (16, [some (.ref (1)), some (.int (y2)), none], [.int (y2)]) from rfl) ?_
    exact AE.iret K (by omega) (am_at eL_windUntilEnd 10 rfl) h
  · refine AEx.cse h (fun h => ?_) (fun h => ?_)
    · refine AEx.catch (name := "java/lang/UnsupportedOperationException") (k := 2) (n := 1) (j := 0) K hex rfl (trivial) (by decide) (by decide) (x_in 462 (by decide +kernel)) (y_inN 582 (by decide +kernel)) (by decide) rfl (Or.inl ⟨⟨2, by decide⟩, rfl, rfl, (am_at eL_windUntilEnd 6 rfl)⟩) ?_
      refine AE.ldcI (index := 10) (v := -100000000) K (x_in 463 (by decide +kernel)) (am_at eL_windUntilEnd 7 rfl) ?_
      exact AE.iret K (by omega) (am_at eL_windUntilEnd 8 rfl) h
    cases h
def d_L_abort (V : am_V) : am_R := rXI (d_X11_abort V) (fun (y2 : Int32) (V1 : am_V) => some (.inl (some (.int (y2))), V1)) (fun (E9 : String) (V9 : am_V) => (if E9 = "java/lang/UnsupportedOperationException" then some (.inl (some (.int ((-100000000 : Int32)))), V9) else none))
set_option maxRecDepth 100000 in
set_option maxHeartbeats 4000000 in
theorem kL_abort {U : am_U} {l : Launch} (B : am_base xx U) (hfl : l.stackTraces = false) {V : am_V} {r : (Option Value ⊕ String) × am_V} (h : d_L_abort V = some r) : am_CtW xx U l yL_abort cL_abort 3 (some .int) [(3, 8, 11, 19)] (rk 9 1 241) [.ref (1)] V (am_is r.1 r.2) := by
  refine am_CtW.of B hfl (by decide) (Nat.le_of_ble_eq_true rfl) ?_
  intro G hgl hgR hr ok h0 hex
  have K : aK U l G RL cL_abort 3 (some .int) 9 1 241 := ⟨hgl, hgR, hr, ok, h0⟩
  unfold d_L_abort at h
  show AE U G 3 9 1 241 r 0 V 0 [some (.ref (1)), none, none] []
  refine AE.ldcI (index := 10) (v := -100000000) K (x_in 463 (by decide +kernel)) (am_at eL_abort 0 rfl) ?_
  refine AE.run K eL_abort 1 2 (show am_run 3 ((tL_abort.drop 1).take 2) 2 [some (.ref (1)), none, none] [.int ((-100000000 : Int32))] = some (4, [some (.ref (1)), some (.int ((-100000000 : Int32))), none], [.ref (1)]) from rfl) ?_
  refine AE.cvX (f' := 8) (c' := 1) (lo' := 221) (st := []) (As := []) (m := d_X11_abort V) K (fun q hq => kX11_abort B hfl hq) cv_L_52 rfl (T := TX11) (N := 16) rfl rfl rfl (Nat.le_of_ble_eq_true rfl) ⟨Nat.le_of_ble_eq_true rfl, Nat.le_of_ble_eq_true rfl⟩ (by omega) (am_at eL_abort 3 rfl) h (rXI_some h) (bkXI (fun y2 V1 h => ?_) (fun E9 V9 h => ?_))
  · refine AE.run K eL_abort 4 2 (show am_run 3 ((tL_abort.drop 4).take 2) 7 [some (.ref (1)), some (.int ((-100000000 : Int32))), none] [.int (y2)] = some (15, [some (.ref (1)), some (.int (y2)), none], []) from rfl) ?_
    refine AE.run K eL_abort 9 1 (show am_run 3 ((tL_abort.drop 9).take 1) 15 [some (.ref (1)), some (.int (y2)), none] [] = some (16, [some (.ref (1)), some (.int (y2)), none], [.int (y2)]) from rfl) ?_
    exact AE.iret K (by omega) (am_at eL_abort 10 rfl) h
  · refine AEx.cse h (fun h => ?_) (fun h => ?_)
    · refine AEx.catch (name := "java/lang/UnsupportedOperationException") (k := 2) (n := 1) (j := 0) K hex rfl (trivial) (by decide) (by decide) (x_in 462 (by decide +kernel)) (y_inN 582 (by decide +kernel)) (by decide) rfl (Or.inl ⟨⟨2, by decide⟩, rfl, rfl, (am_at eL_abort 6 rfl)⟩) ?_
      refine AE.ldcI (index := 10) (v := -100000000) K (x_in 463 (by decide +kernel)) (am_at eL_abort 7 rfl) ?_
      exact AE.iret K (by omega) (am_at eL_abort 8 rfl) h
    cases h
def d_L_wayCost (x1 : Int32) (x2 : Int32) (V : am_V) : am_R := rXI (d_X11_wayCost x1 x2 V) (fun (y2 : Int32) (V1 : am_V) => some (.inl (some (.int (y2))), V1)) (fun (E9 : String) (V9 : am_V) => (if E9 = "java/lang/IndexOutOfBoundsException" then some (.inl (some (.int (-1000))), V9) else (if E9 = "java/util/NoSuchElementException" then some (.inl (some (.int (-1000))), V9) else none)))
set_option maxRecDepth 100000 in
set_option maxHeartbeats 4000000 in
theorem kL_wayCost {U : am_U} {l : Launch} (B : am_base xx U) (hfl : l.stackTraces = false) {V : am_V} {x1 : Int32} {x2 : Int32} {r : (Option Value ⊕ String) × am_V} (h : d_L_wayCost x1 x2 V = some r) : am_CtW xx U l yL_wayCost cL_wayCost 5 (some .int) [(4, 11, 14, 25), (4, 11, 20, 58)] (rk 9 3 243) [.ref (1), .int (x1), .int (x2)] V (am_is r.1 r.2) := by
  refine am_CtW.of B hfl (by decide) (Nat.le_of_ble_eq_true rfl) ?_
  intro G hgl hgR hr ok h0 hex
  have K : aK U l G RL cL_wayCost 5 (some .int) 9 3 243 := ⟨hgl, hgR, hr, ok, h0⟩
  unfold d_L_wayCost at h
  show AE U G 5 9 3 243 r 0 V 0 [some (.ref (1)), some (.int (x1)), some (.int (x2)), none, none] []
  refine AE.run K eL_wayCost 0 5 (show am_run 5 ((tL_wayCost.drop 0).take 5) 0 [some (.ref (1)), some (.int (x1)), some (.int (x2)), none, none] [] = some (7, [some (.ref (1)), some (.int (x1)), some (.int (x2)), some (.int (-1000)), none], [.int (x2), .int (x1), .ref (1)]) from rfl) ?_
  refine AE.cvX (f' := 8) (c' := 3) (lo' := 221) (st := []) (As := [.int (x1), .int (x2)]) (m := d_X11_wayCost x1 x2 V) K (fun q hq => kX11_wayCost B hfl hq) cv_L_55 rfl (T := TX11) (N := 16) rfl rfl rfl (Nat.le_of_ble_eq_true rfl) ⟨Nat.le_of_ble_eq_true rfl, Nat.le_of_ble_eq_true rfl⟩ (by omega) (am_at eL_wayCost 5 rfl) h (rXI_some h) (bkXI (fun y2 V1 h => ?_) (fun E9 V9 h => ?_))
  · refine AE.run K eL_wayCost 6 2 (show am_run 5 ((tL_wayCost.drop 6).take 2) 10 [some (.ref (1)), some (.int (x1)), some (.int (x2)), some (.int (-1000)), none] [.int (y2)] = some (26, [some (.ref (1)), some (.int (x1)), some (.int (x2)), some (.int (y2)), none], []) from rfl) ?_
    refine AE.run K eL_wayCost 14 1 (show am_run 5 ((tL_wayCost.drop 14).take 1) 26 [some (.ref (1)), some (.int (x1)), some (.int (x2)), some (.int (y2)), none] [] = some (27, [some (.ref (1)), some (.int (x1)), some (.int (x2)), some (.int (y2)), none], [.int (y2)]) from rfl) ?_
    exact AE.iret K (by omega) (am_at eL_wayCost 15 rfl) h
  · refine AEx.cse h (fun h => ?_) (fun h => ?_)
    · refine AEx.catch (name := "java/lang/IndexOutOfBoundsException") (k := 4) (n := 2) (j := 0) K hex rfl (trivial) (by decide) (by decide) (x_in 606 (by decide +kernel)) (y_inN 490 (by decide +kernel)) (by decide) rfl (Or.inr ⟨rfl, (am_at eL_wayCost 8 rfl)⟩) ?_
      refine AE.run K eL_wayCost 9 1 (show am_run 5 ((tL_wayCost.drop 9).take 1) 16 [some (.ref (1)), some (.int (x1)), some (.int (x2)), some (.int (-1000)), none] [] = some (19, [some (.ref (1)), some (.int (x1)), some (.int (x2)), some (.int (-1000)), none], [.int (-1000)]) from rfl) ?_
      exact AE.iret K (by omega) (am_at eL_wayCost 10 rfl) h
    refine AEx.cse h (fun h => ?_) (fun h => ?_)
    · refine AEx.catch (name := "java/util/NoSuchElementException") (k := 4) (n := 2) (j := 1) K hex rfl (⟨Or.inr ⟨by decide, "java/lang/IndexOutOfBoundsException", (x_in 606 (by decide +kernel)), (List.mem_of_getElem? (i := 137) rfl)⟩, trivial⟩) (by decide) (by decide) (x_in 1024 (by decide +kernel)) (y_inN 1035 (by decide +kernel)) (by decide) rfl (Or.inr ⟨rfl, (am_at eL_wayCost 11 rfl)⟩) ?_
      refine AE.run K eL_wayCost 12 1 (show am_run 5 ((tL_wayCost.drop 12).take 1) 22 [some (.ref (1)), some (.int (x1)), some (.int (x2)), some (.int (-1000)), none] [] = some (25, [some (.ref (1)), some (.int (x1)), some (.int (x2)), some (.int (-1000)), none], [.int (-1000)]) from rfl) ?_
      exact AE.iret K (by omega) (am_at eL_wayCost 13 rfl) h
    cases h
def d_L_wayCostByRounds (x1 : Int32) (x2 : Int32) (V : am_V) : am_R := rXI (d_X11_wayCostByRounds x1 x2 V) (fun (y2 : Int32) (V1 : am_V) => some (.inl (some (.int (y2))), V1)) (fun (E9 : String) (V9 : am_V) => (if E9 = "java/lang/IndexOutOfBoundsException" then some (.inl (some (.int (-1000))), V9) else (if E9 = "java/util/NoSuchElementException" then some (.inl (some (.int (-1000))), V9) else none)))
set_option maxRecDepth 100000 in
set_option maxHeartbeats 4000000 in
theorem kL_wayCostByRounds {U : am_U} {l : Launch} (B : am_base xx U) (hfl : l.stackTraces = false) {V : am_V} {x1 : Int32} {x2 : Int32} {r : (Option Value ⊕ String) × am_V} (h : d_L_wayCostByRounds x1 x2 V = some r) : am_CtW xx U l yL_wayCostByRounds cL_wayCostByRounds 5 (some .int) [(4, 11, 14, 25), (4, 11, 20, 58)] (rk 9 3 243) [.ref (1), .int (x1), .int (x2)] V (am_is r.1 r.2) := by
  refine am_CtW.of B hfl (by decide) (Nat.le_of_ble_eq_true rfl) ?_
  intro G hgl hgR hr ok h0 hex
  have K : aK U l G RL cL_wayCostByRounds 5 (some .int) 9 3 243 := ⟨hgl, hgR, hr, ok, h0⟩
  unfold d_L_wayCostByRounds at h
  show AE U G 5 9 3 243 r 0 V 0 [some (.ref (1)), some (.int (x1)), some (.int (x2)), none, none] []
  refine AE.run K eL_wayCostByRounds 0 5 (show am_run 5 ((tL_wayCostByRounds.drop 0).take 5) 0 [some (.ref (1)), some (.int (x1)), some (.int (x2)), none, none] [] = some (7, [some (.ref (1)), some (.int (x1)), some (.int (x2)), some (.int (-1000)), none], [.int (x2), .int (x1), .ref (1)]) from rfl) ?_
  refine AE.cvX (f' := 8) (c' := 3) (lo' := 221) (st := []) (As := [.int (x1), .int (x2)]) (m := d_X11_wayCostByRounds x1 x2 V) K (fun q hq => kX11_wayCostByRounds B hfl hq) cv_L_60 rfl (T := TX11) (N := 16) rfl rfl rfl (Nat.le_of_ble_eq_true rfl) ⟨Nat.le_of_ble_eq_true rfl, Nat.le_of_ble_eq_true rfl⟩ (by omega) (am_at eL_wayCostByRounds 5 rfl) h (rXI_some h) (bkXI (fun y2 V1 h => ?_) (fun E9 V9 h => ?_))
  · refine AE.run K eL_wayCostByRounds 6 2 (show am_run 5 ((tL_wayCostByRounds.drop 6).take 2) 10 [some (.ref (1)), some (.int (x1)), some (.int (x2)), some (.int (-1000)), none] [.int (y2)] = some (26, [some (.ref (1)), some (.int (x1)), some (.int (x2)), some (.int (y2)), none], []) from rfl) ?_
    refine AE.run K eL_wayCostByRounds 14 1 (show am_run 5 ((tL_wayCostByRounds.drop 14).take 1) 26 [some (.ref (1)), some (.int (x1)), some (.int (x2)), some (.int (y2)), none] [] = some (27, [some (.ref (1)), some (.int (x1)), some (.int (x2)), some (.int (y2)), none], [.int (y2)]) from rfl) ?_
    exact AE.iret K (by omega) (am_at eL_wayCostByRounds 15 rfl) h
  · refine AEx.cse h (fun h => ?_) (fun h => ?_)
    · refine AEx.catch (name := "java/lang/IndexOutOfBoundsException") (k := 4) (n := 2) (j := 0) K hex rfl (trivial) (by decide) (by decide) (x_in 606 (by decide +kernel)) (y_inN 490 (by decide +kernel)) (by decide) rfl (Or.inr ⟨rfl, (am_at eL_wayCostByRounds 8 rfl)⟩) ?_
      refine AE.run K eL_wayCostByRounds 9 1 (show am_run 5 ((tL_wayCostByRounds.drop 9).take 1) 16 [some (.ref (1)), some (.int (x1)), some (.int (x2)), some (.int (-1000)), none] [] = some (19, [some (.ref (1)), some (.int (x1)), some (.int (x2)), some (.int (-1000)), none], [.int (-1000)]) from rfl) ?_
      exact AE.iret K (by omega) (am_at eL_wayCostByRounds 10 rfl) h
    refine AEx.cse h (fun h => ?_) (fun h => ?_)
    · refine AEx.catch (name := "java/util/NoSuchElementException") (k := 4) (n := 2) (j := 1) K hex rfl (⟨Or.inr ⟨by decide, "java/lang/IndexOutOfBoundsException", (x_in 606 (by decide +kernel)), (List.mem_of_getElem? (i := 137) rfl)⟩, trivial⟩) (by decide) (by decide) (x_in 1024 (by decide +kernel)) (y_inN 1035 (by decide +kernel)) (by decide) rfl (Or.inr ⟨rfl, (am_at eL_wayCostByRounds 11 rfl)⟩) ?_
      refine AE.run K eL_wayCostByRounds 12 1 (show am_run 5 ((tL_wayCostByRounds.drop 12).take 1) 22 [some (.ref (1)), some (.int (x1)), some (.int (x2)), some (.int (-1000)), none] [] = some (25, [some (.ref (1)), some (.int (x1)), some (.int (x2)), some (.int (-1000)), none], [.int (-1000)]) from rfl) ?_
      exact AE.iret K (by omega) (am_at eL_wayCostByRounds 13 rfl) h
    cases h
def d_L_parentIn (x1 : Int32) (x2 : Int32) (V : am_V) : am_R := rXI (d_X11_parentIn x1 x2 V) (fun (y2 : Int32) (V1 : am_V) => some (.inl (some (.int (y2))), V1)) (fun (E9 : String) (V9 : am_V) => (if E9 = "java/lang/IndexOutOfBoundsException" then some (.inl (some (.int (-1000))), V9) else (if E9 = "java/util/NoSuchElementException" then some (.inl (some (.int (-1000))), V9) else none)))
set_option maxRecDepth 100000 in
set_option maxHeartbeats 4000000 in
theorem kL_parentIn {U : am_U} {l : Launch} (B : am_base xx U) (hfl : l.stackTraces = false) {V : am_V} {x1 : Int32} {x2 : Int32} {r : (Option Value ⊕ String) × am_V} (h : d_L_parentIn x1 x2 V = some r) : am_CtW xx U l yL_parentIn cL_parentIn 5 (some .int) [(4, 11, 14, 25), (4, 11, 20, 58)] (rk 9 3 243) [.ref (1), .int (x1), .int (x2)] V (am_is r.1 r.2) := by
  refine am_CtW.of B hfl (by decide) (Nat.le_of_ble_eq_true rfl) ?_
  intro G hgl hgR hr ok h0 hex
  have K : aK U l G RL cL_parentIn 5 (some .int) 9 3 243 := ⟨hgl, hgR, hr, ok, h0⟩
  unfold d_L_parentIn at h
  show AE U G 5 9 3 243 r 0 V 0 [some (.ref (1)), some (.int (x1)), some (.int (x2)), none, none] []
  refine AE.run K eL_parentIn 0 5 (show am_run 5 ((tL_parentIn.drop 0).take 5) 0 [some (.ref (1)), some (.int (x1)), some (.int (x2)), none, none] [] = some (7, [some (.ref (1)), some (.int (x1)), some (.int (x2)), some (.int (-1000)), none], [.int (x2), .int (x1), .ref (1)]) from rfl) ?_
  refine AE.cvX (f' := 8) (c' := 3) (lo' := 221) (st := []) (As := [.int (x1), .int (x2)]) (m := d_X11_parentIn x1 x2 V) K (fun q hq => kX11_parentIn B hfl hq) cv_L_63 rfl (T := TX11) (N := 16) rfl rfl rfl (Nat.le_of_ble_eq_true rfl) ⟨Nat.le_of_ble_eq_true rfl, Nat.le_of_ble_eq_true rfl⟩ (by omega) (am_at eL_parentIn 5 rfl) h (rXI_some h) (bkXI (fun y2 V1 h => ?_) (fun E9 V9 h => ?_))
  · refine AE.run K eL_parentIn 6 2 (show am_run 5 ((tL_parentIn.drop 6).take 2) 10 [some (.ref (1)), some (.int (x1)), some (.int (x2)), some (.int (-1000)), none] [.int (y2)] = some (26, [some (.ref (1)), some (.int (x1)), some (.int (x2)), some (.int (y2)), none], []) from rfl) ?_
    refine AE.run K eL_parentIn 14 1 (show am_run 5 ((tL_parentIn.drop 14).take 1) 26 [some (.ref (1)), some (.int (x1)), some (.int (x2)), some (.int (y2)), none] [] = some (27, [some (.ref (1)), some (.int (x1)), some (.int (x2)), some (.int (y2)), none], [.int (y2)]) from rfl) ?_
    exact AE.iret K (by omega) (am_at eL_parentIn 15 rfl) h
  · refine AEx.cse h (fun h => ?_) (fun h => ?_)
    · refine AEx.catch (name := "java/lang/IndexOutOfBoundsException") (k := 4) (n := 2) (j := 0) K hex rfl (trivial) (by decide) (by decide) (x_in 606 (by decide +kernel)) (y_inN 490 (by decide +kernel)) (by decide) rfl (Or.inr ⟨rfl, (am_at eL_parentIn 8 rfl)⟩) ?_
      refine AE.run K eL_parentIn 9 1 (show am_run 5 ((tL_parentIn.drop 9).take 1) 16 [some (.ref (1)), some (.int (x1)), some (.int (x2)), some (.int (-1000)), none] [] = some (19, [some (.ref (1)), some (.int (x1)), some (.int (x2)), some (.int (-1000)), none], [.int (-1000)]) from rfl) ?_
      exact AE.iret K (by omega) (am_at eL_parentIn 10 rfl) h
    refine AEx.cse h (fun h => ?_) (fun h => ?_)
    · refine AEx.catch (name := "java/util/NoSuchElementException") (k := 4) (n := 2) (j := 1) K hex rfl (⟨Or.inr ⟨by decide, "java/lang/IndexOutOfBoundsException", (x_in 606 (by decide +kernel)), (List.mem_of_getElem? (i := 137) rfl)⟩, trivial⟩) (by decide) (by decide) (x_in 1024 (by decide +kernel)) (y_inN 1035 (by decide +kernel)) (by decide) rfl (Or.inr ⟨rfl, (am_at eL_parentIn 11 rfl)⟩) ?_
      refine AE.run K eL_parentIn 12 1 (show am_run 5 ((tL_parentIn.drop 12).take 1) 22 [some (.ref (1)), some (.int (x1)), some (.int (x2)), some (.int (-1000)), none] [] = some (25, [some (.ref (1)), some (.int (x1)), some (.int (x2)), some (.int (-1000)), none], [.int (-1000)]) from rfl) ?_
      exact AE.iret K (by omega) (am_at eL_parentIn 13 rfl) h
    cases h
def d_L_reachChance (x1 : Int32) (x2 : Int32) (V : am_V) : am_R := rXF (d_X11_reachChance x1 x2 V) (fun (y2 : UInt32) (V1 : am_V) => some (.inl (some (.float (y2))), V1)) (fun (E9 : String) (V9 : am_V) => (if E9 = "java/lang/IndexOutOfBoundsException" then some (.inl (some (.float ((3212836864 : UInt32)))), V9) else (if E9 = "java/util/NoSuchElementException" then some (.inl (some (.float ((3212836864 : UInt32)))), V9) else none)))
set_option maxRecDepth 100000 in
set_option maxHeartbeats 4000000 in
theorem kL_reachChance {U : am_U} {l : Launch} (B : am_base xx U) (hfl : l.stackTraces = false) {V : am_V} {x1 : Int32} {x2 : Int32} {r : (Option Value ⊕ String) × am_V} (h : d_L_reachChance x1 x2 V = some r) : am_CtW xx U l yL_reachChance cL_reachChance 5 (some .float) [(3, 10, 13, 25), (3, 10, 18, 58)] (rk 9 3 243) [.ref (1), .int (x1), .int (x2)] V (am_is r.1 r.2) := by
  refine am_CtW.of B hfl (by decide) (Nat.le_of_ble_eq_true rfl) ?_
  intro G hgl hgR hr ok h0 hex
  have K : aK U l G RL cL_reachChance 5 (some .float) 9 3 243 := ⟨hgl, hgR, hr, ok, h0⟩
  unfold d_L_reachChance at h
  show AE U G 5 9 3 243 r 0 V 0 [some (.ref (1)), some (.int (x1)), some (.int (x2)), none, none] []
  refine AE.ldcF (index := 66) (v := 3212836864) K (x_in 1192 (by decide +kernel)) (am_at eL_reachChance 0 rfl) ?_
  refine AE.run K eL_reachChance 1 4 (show am_run 5 ((tL_reachChance.drop 1).take 4) 2 [some (.ref (1)), some (.int (x1)), some (.int (x2)), none, none] [.float ((3212836864 : UInt32))] = some (6, [some (.ref (1)), some (.int (x1)), some (.int (x2)), some (.float ((3212836864 : UInt32))), none], [.int (x2), .int (x1), .ref (1)]) from rfl) ?_
  refine AE.cvX (f' := 8) (c' := 3) (lo' := 221) (st := []) (As := [.int (x1), .int (x2)]) (m := d_X11_reachChance x1 x2 V) K (fun q hq => kX11_reachChance B hfl hq) cv_L_67 rfl (T := TX11) (N := 16) rfl rfl rfl (Nat.le_of_ble_eq_true rfl) ⟨Nat.le_of_ble_eq_true rfl, Nat.le_of_ble_eq_true rfl⟩ (by omega) (am_at eL_reachChance 5 rfl) h (rXF_some h) (bkXF (fun y2 V1 h => ?_) (fun E9 V9 h => ?_))
  · refine AE.run K eL_reachChance 6 2 (show am_run 5 ((tL_reachChance.drop 6).take 2) 9 [some (.ref (1)), some (.int (x1)), some (.int (x2)), some (.float ((3212836864 : UInt32))), none] [.float (y2)] = some (23, [some (.ref (1)), some (.int (x1)), some (.int (x2)), some (.float (y2)), none], []) from rfl) ?_
    refine AE.run K eL_reachChance 14 1 (show am_run 5 ((tL_reachChance.drop 14).take 1) 23 [some (.ref (1)), some (.int (x1)), some (.int (x2)), some (.float (y2)), none] [] = some (24, [some (.ref (1)), some (.int (x1)), some (.int (x2)), some (.float (y2)), none], [.float (y2)]) from rfl) ?_
    exact AE.fret K (by omega) (am_at eL_reachChance 15 rfl) h
  · refine AEx.cse h (fun h => ?_) (fun h => ?_)
    · refine AEx.catch (name := "java/lang/IndexOutOfBoundsException") (k := 4) (n := 2) (j := 0) K hex rfl (trivial) (by decide) (by decide) (x_in 606 (by decide +kernel)) (y_inN 490 (by decide +kernel)) (by decide) rfl (Or.inr ⟨rfl, (am_at eL_reachChance 8 rfl)⟩) ?_
      refine AE.ldcF (index := 66) (v := 3212836864) K (x_in 1192 (by decide +kernel)) (am_at eL_reachChance 9 rfl) ?_
      exact AE.fret K (by omega) (am_at eL_reachChance 10 rfl) h
    refine AEx.cse h (fun h => ?_) (fun h => ?_)
    · refine AEx.catch (name := "java/util/NoSuchElementException") (k := 4) (n := 2) (j := 1) K hex rfl (⟨Or.inr ⟨by decide, "java/lang/IndexOutOfBoundsException", (x_in 606 (by decide +kernel)), (List.mem_of_getElem? (i := 137) rfl)⟩, trivial⟩) (by decide) (by decide) (x_in 1024 (by decide +kernel)) (y_inN 1035 (by decide +kernel)) (by decide) rfl (Or.inr ⟨rfl, (am_at eL_reachChance 11 rfl)⟩) ?_
      refine AE.ldcF (index := 66) (v := 3212836864) K (x_in 1192 (by decide +kernel)) (am_at eL_reachChance 12 rfl) ?_
      exact AE.fret K (by omega) (am_at eL_reachChance 13 rfl) h
    cases h
def d_L_source (V : am_V) : am_R := rXI (d_X11_source V) (fun (y2 : Int32) (V1 : am_V) => some (.inl (some (.int (y2))), V1)) (fun (E9 : String) (V9 : am_V) => (if E9 = "java/util/NoSuchElementException" then some (.inl (some (.int (-1000))), V9) else none))
set_option maxRecDepth 100000 in
set_option maxHeartbeats 4000000 in
theorem kL_source {U : am_U} {l : Launch} (B : am_base xx U) (hfl : l.stackTraces = false) {V : am_V} {r : (Option Value ⊕ String) × am_V} (h : d_L_source V = some r) : am_CtW xx U l yL_source cL_source 3 (some .int) [(4, 9, 12, 58)] (rk 9 1 240) [.ref (1)] V (am_is r.1 r.2) := by
  refine am_CtW.of B hfl (by decide) (Nat.le_of_ble_eq_true rfl) ?_
  intro G hgl hgR hr ok h0 hex
  have K : aK U l G RL cL_source 3 (some .int) 9 1 240 := ⟨hgl, hgR, hr, ok, h0⟩
  unfold d_L_source at h
  show AE U G 3 9 1 240 r 0 V 0 [some (.ref (1)), none, none] []
  refine AE.run K eL_source 0 3 (show am_run 3 ((tL_source.drop 0).take 3) 0 [some (.ref (1)), none, none] [] = some (5, [some (.ref (1)), some (.int (-1000)), none], [.ref (1)]) from rfl) ?_
  refine AE.cvX (f' := 8) (c' := 1) (lo' := 220) (st := []) (As := []) (m := d_X11_source V) K (fun q hq => kX11_source B hfl hq) cv_L_71 rfl (T := TX11) (N := 16) rfl rfl rfl (Nat.le_of_ble_eq_true rfl) ⟨Nat.le_of_ble_eq_true rfl, Nat.le_of_ble_eq_true rfl⟩ (by omega) (am_at eL_source 3 rfl) h (rXI_some h) (bkXI (fun y2 V1 h => ?_) (fun E9 V9 h => ?_))
  · refine AE.run K eL_source 4 2 (show am_run 3 ((tL_source.drop 4).take 2) 8 [some (.ref (1)), some (.int (-1000)), none] [.int (y2)] = some (17, [some (.ref (1)), some (.int (y2)), none], []) from rfl) ?_
    refine AE.run K eL_source 9 1 (show am_run 3 ((tL_source.drop 9).take 1) 17 [some (.ref (1)), some (.int (y2)), none] [] = some (18, [some (.ref (1)), some (.int (y2)), none], [.int (y2)]) from rfl) ?_
    exact AE.iret K (by omega) (am_at eL_source 10 rfl) h
  · refine AEx.cse h (fun h => ?_) (fun h => ?_)
    · refine AEx.catch (name := "java/util/NoSuchElementException") (k := 2) (n := 1) (j := 0) K hex rfl (trivial) (by decide) (by decide) (x_in 1024 (by decide +kernel)) (y_inN 1035 (by decide +kernel)) (by decide) rfl (Or.inl ⟨⟨2, by decide⟩, rfl, rfl, (am_at eL_source 6 rfl)⟩) ?_
      refine AE.run K eL_source 7 1 (show am_run 3 ((tL_source.drop 7).take 1) 13 [some (.ref (1)), some (.int (-1000)), none] [] = some (16, [some (.ref (1)), some (.int (-1000)), none], [.int (-1000)]) from rfl) ?_
      exact AE.iret K (by omega) (am_at eL_source 8 rfl) h
    cases h
def d_L_windsLeft (V : am_V) : am_R := rXI (d_X11_windsLeft V) (fun (y2 : Int32) (V1 : am_V) => some (.inl (some (.int (y2))), V1)) (fun (E9 : String) (V9 : am_V) => (if E9 = "java/util/NoSuchElementException" then some (.inl (some (.int (-1000))), V9) else none))
set_option maxRecDepth 100000 in
set_option maxHeartbeats 4000000 in
theorem kL_windsLeft {U : am_U} {l : Launch} (B : am_base xx U) (hfl : l.stackTraces = false) {V : am_V} {r : (Option Value ⊕ String) × am_V} (h : d_L_windsLeft V = some r) : am_CtW xx U l yL_windsLeft cL_windsLeft 3 (some .int) [(4, 9, 12, 58)] (rk 9 1 240) [.ref (1)] V (am_is r.1 r.2) := by
  refine am_CtW.of B hfl (by decide) (Nat.le_of_ble_eq_true rfl) ?_
  intro G hgl hgR hr ok h0 hex
  have K : aK U l G RL cL_windsLeft 3 (some .int) 9 1 240 := ⟨hgl, hgR, hr, ok, h0⟩
  unfold d_L_windsLeft at h
  show AE U G 3 9 1 240 r 0 V 0 [some (.ref (1)), none, none] []
  refine AE.run K eL_windsLeft 0 3 (show am_run 3 ((tL_windsLeft.drop 0).take 3) 0 [some (.ref (1)), none, none] [] = some (5, [some (.ref (1)), some (.int (-1000)), none], [.ref (1)]) from rfl) ?_
  refine AE.cvX (f' := 8) (c' := 1) (lo' := 220) (st := []) (As := []) (m := d_X11_windsLeft V) K (fun q hq => kX11_windsLeft B hfl hq) cv_L_74 rfl (T := TX11) (N := 16) rfl rfl rfl (Nat.le_of_ble_eq_true rfl) ⟨Nat.le_of_ble_eq_true rfl, Nat.le_of_ble_eq_true rfl⟩ (by omega) (am_at eL_windsLeft 3 rfl) h (rXI_some h) (bkXI (fun y2 V1 h => ?_) (fun E9 V9 h => ?_))
  · refine AE.run K eL_windsLeft 4 2 (show am_run 3 ((tL_windsLeft.drop 4).take 2) 8 [some (.ref (1)), some (.int (-1000)), none] [.int (y2)] = some (17, [some (.ref (1)), some (.int (y2)), none], []) from rfl) ?_
    refine AE.run K eL_windsLeft 9 1 (show am_run 3 ((tL_windsLeft.drop 9).take 1) 17 [some (.ref (1)), some (.int (y2)), none] [] = some (18, [some (.ref (1)), some (.int (y2)), none], [.int (y2)]) from rfl) ?_
    exact AE.iret K (by omega) (am_at eL_windsLeft 10 rfl) h
  · refine AEx.cse h (fun h => ?_) (fun h => ?_)
    · refine AEx.catch (name := "java/util/NoSuchElementException") (k := 2) (n := 1) (j := 0) K hex rfl (trivial) (by decide) (by decide) (x_in 1024 (by decide +kernel)) (y_inN 1035 (by decide +kernel)) (by decide) rfl (Or.inl ⟨⟨2, by decide⟩, rfl, rfl, (am_at eL_windsLeft 6 rfl)⟩) ?_
      refine AE.run K eL_windsLeft 7 1 (show am_run 3 ((tL_windsLeft.drop 7).take 1) 13 [some (.ref (1)), some (.int (-1000)), none] [] = some (16, [some (.ref (1)), some (.int (-1000)), none], [.int (-1000)]) from rfl) ?_
      exact AE.iret K (by omega) (am_at eL_windsLeft 8 rfl) h
    cases h
def d_L_energyLeft (V : am_V) : am_R := rXI (d_X11_energyLeft V) (fun (y2 : Int32) (V1 : am_V) => some (.inl (some (.int (y2))), V1)) (fun (E9 : String) (V9 : am_V) => (if E9 = "java/util/NoSuchElementException" then some (.inl (some (.int (-1000))), V9) else none))
set_option maxRecDepth 100000 in
set_option maxHeartbeats 4000000 in
theorem kL_energyLeft {U : am_U} {l : Launch} (B : am_base xx U) (hfl : l.stackTraces = false) {V : am_V} {r : (Option Value ⊕ String) × am_V} (h : d_L_energyLeft V = some r) : am_CtW xx U l yL_energyLeft cL_energyLeft 3 (some .int) [(4, 9, 12, 58)] (rk 9 1 240) [.ref (1)] V (am_is r.1 r.2) := by
  refine am_CtW.of B hfl (by decide) (Nat.le_of_ble_eq_true rfl) ?_
  intro G hgl hgR hr ok h0 hex
  have K : aK U l G RL cL_energyLeft 3 (some .int) 9 1 240 := ⟨hgl, hgR, hr, ok, h0⟩
  unfold d_L_energyLeft at h
  show AE U G 3 9 1 240 r 0 V 0 [some (.ref (1)), none, none] []
  refine AE.run K eL_energyLeft 0 3 (show am_run 3 ((tL_energyLeft.drop 0).take 3) 0 [some (.ref (1)), none, none] [] = some (5, [some (.ref (1)), some (.int (-1000)), none], [.ref (1)]) from rfl) ?_
  refine AE.cvX (f' := 8) (c' := 1) (lo' := 220) (st := []) (As := []) (m := d_X11_energyLeft V) K (fun q hq => kX11_energyLeft B hfl hq) cv_L_77 rfl (T := TX11) (N := 16) rfl rfl rfl (Nat.le_of_ble_eq_true rfl) ⟨Nat.le_of_ble_eq_true rfl, Nat.le_of_ble_eq_true rfl⟩ (by omega) (am_at eL_energyLeft 3 rfl) h (rXI_some h) (bkXI (fun y2 V1 h => ?_) (fun E9 V9 h => ?_))
  · refine AE.run K eL_energyLeft 4 2 (show am_run 3 ((tL_energyLeft.drop 4).take 2) 8 [some (.ref (1)), some (.int (-1000)), none] [.int (y2)] = some (17, [some (.ref (1)), some (.int (y2)), none], []) from rfl) ?_
    refine AE.run K eL_energyLeft 9 1 (show am_run 3 ((tL_energyLeft.drop 9).take 1) 17 [some (.ref (1)), some (.int (y2)), none] [] = some (18, [some (.ref (1)), some (.int (y2)), none], [.int (y2)]) from rfl) ?_
    exact AE.iret K (by omega) (am_at eL_energyLeft 10 rfl) h
  · refine AEx.cse h (fun h => ?_) (fun h => ?_)
    · refine AEx.catch (name := "java/util/NoSuchElementException") (k := 2) (n := 1) (j := 0) K hex rfl (trivial) (by decide) (by decide) (x_in 1024 (by decide +kernel)) (y_inN 1035 (by decide +kernel)) (by decide) rfl (Or.inl ⟨⟨2, by decide⟩, rfl, rfl, (am_at eL_energyLeft 6 rfl)⟩) ?_
      refine AE.run K eL_energyLeft 7 1 (show am_run 3 ((tL_energyLeft.drop 7).take 1) 13 [some (.ref (1)), some (.int (-1000)), none] [] = some (16, [some (.ref (1)), some (.int (-1000)), none], [.int (-1000)]) from rfl) ?_
      exact AE.iret K (by omega) (am_at eL_energyLeft 8 rfl) h
    cases h
def d_L_fieldByPackets (x1 : Int32) (V : am_V) : am_R := rXI (d_X11_fieldByPackets x1 V) (fun (y2 : Int32) (V1 : am_V) => some (.inl (some (.int (y2))), V1)) (fun (E9 : String) (V9 : am_V) => (if E9 = "java/util/NoSuchElementException" then some (.inl (some (.int (-1000))), V9) else none))
set_option maxRecDepth 100000 in
set_option maxHeartbeats 4000000 in
theorem kL_fieldByPackets {U : am_U} {l : Launch} (B : am_base xx U) (hfl : l.stackTraces = false) {V : am_V} {x1 : Int32} {r : (Option Value ⊕ String) × am_V} (h : d_L_fieldByPackets x1 V = some r) : am_CtW xx U l yL_fieldByPackets cL_fieldByPackets 4 (some .int) [(4, 10, 13, 58)] (rk 8 1 222) [.ref (1), .int (x1)] V (am_is r.1 r.2) := by
  refine am_CtW.of B hfl (by decide) (Nat.le_of_ble_eq_true rfl) ?_
  intro G hgl hgR hr ok h0 hex
  have K : aK U l G RL cL_fieldByPackets 4 (some .int) 8 1 222 := ⟨hgl, hgR, hr, ok, h0⟩
  unfold d_L_fieldByPackets at h
  show AE U G 4 8 1 222 r 0 V 0 [some (.ref (1)), some (.int (x1)), none, none] []
  refine AE.run K eL_fieldByPackets 0 4 (show am_run 4 ((tL_fieldByPackets.drop 0).take 4) 0 [some (.ref (1)), some (.int (x1)), none, none] [] = some (6, [some (.ref (1)), some (.int (x1)), some (.int (-1000)), none], [.int (x1), .ref (1)]) from rfl) ?_
  refine AE.cvX (f' := 7) (c' := 1) (lo' := 200) (st := []) (As := [.int (x1)]) (m := d_X11_fieldByPackets x1 V) K (fun q hq => kX11_fieldByPackets B hfl hq) cv_L_80 rfl (T := TX11) (N := 16) rfl rfl rfl (Nat.le_of_ble_eq_true rfl) ⟨Nat.le_of_ble_eq_true rfl, Nat.le_of_ble_eq_true rfl⟩ (by omega) (am_at eL_fieldByPackets 4 rfl) h (rXI_some h) (bkXI (fun y2 V1 h => ?_) (fun E9 V9 h => ?_))
  · refine AE.run K eL_fieldByPackets 5 2 (show am_run 4 ((tL_fieldByPackets.drop 5).take 2) 9 [some (.ref (1)), some (.int (x1)), some (.int (-1000)), none] [.int (y2)] = some (18, [some (.ref (1)), some (.int (x1)), some (.int (y2)), none], []) from rfl) ?_
    refine AE.run K eL_fieldByPackets 10 1 (show am_run 4 ((tL_fieldByPackets.drop 10).take 1) 18 [some (.ref (1)), some (.int (x1)), some (.int (y2)), none] [] = some (19, [some (.ref (1)), some (.int (x1)), some (.int (y2)), none], [.int (y2)]) from rfl) ?_
    exact AE.iret K (by omega) (am_at eL_fieldByPackets 11 rfl) h
  · refine AEx.cse h (fun h => ?_) (fun h => ?_)
    · refine AEx.catch (name := "java/util/NoSuchElementException") (k := 3) (n := 1) (j := 0) K hex rfl (trivial) (by decide) (by decide) (x_in 1024 (by decide +kernel)) (y_inN 1035 (by decide +kernel)) (by decide) rfl (Or.inl ⟨⟨3, by decide⟩, rfl, rfl, (am_at eL_fieldByPackets 7 rfl)⟩) ?_
      refine AE.run K eL_fieldByPackets 8 1 (show am_run 4 ((tL_fieldByPackets.drop 8).take 1) 14 [some (.ref (1)), some (.int (x1)), some (.int (-1000)), none] [] = some (17, [some (.ref (1)), some (.int (x1)), some (.int (-1000)), none], [.int (-1000)]) from rfl) ?_
      exact AE.iret K (by omega) (am_at eL_fieldByPackets 9 rfl) h
    cases h
def d_L_pathByUse (x1 : Int32) (V : am_V) : am_R := rXI (d_X11_pathByUse x1 V) (fun (y2 : Int32) (V1 : am_V) => some (.inl (some (.int (y2))), V1)) (fun (E9 : String) (V9 : am_V) => (if E9 = "java/util/NoSuchElementException" then some (.inl (some (.int (-1000))), V9) else none))
set_option maxRecDepth 100000 in
set_option maxHeartbeats 4000000 in
theorem kL_pathByUse {U : am_U} {l : Launch} (B : am_base xx U) (hfl : l.stackTraces = false) {V : am_V} {x1 : Int32} {r : (Option Value ⊕ String) × am_V} (h : d_L_pathByUse x1 V = some r) : am_CtW xx U l yL_pathByUse cL_pathByUse 4 (some .int) [(4, 10, 13, 58)] (rk 8 1 222) [.ref (1), .int (x1)] V (am_is r.1 r.2) := by
  refine am_CtW.of B hfl (by decide) (Nat.le_of_ble_eq_true rfl) ?_
  intro G hgl hgR hr ok h0 hex
  have K : aK U l G RL cL_pathByUse 4 (some .int) 8 1 222 := ⟨hgl, hgR, hr, ok, h0⟩
  unfold d_L_pathByUse at h
  show AE U G 4 8 1 222 r 0 V 0 [some (.ref (1)), some (.int (x1)), none, none] []
  refine AE.run K eL_pathByUse 0 4 (show am_run 4 ((tL_pathByUse.drop 0).take 4) 0 [some (.ref (1)), some (.int (x1)), none, none] [] = some (6, [some (.ref (1)), some (.int (x1)), some (.int (-1000)), none], [.int (x1), .ref (1)]) from rfl) ?_
  refine AE.cvX (f' := 7) (c' := 1) (lo' := 200) (st := []) (As := [.int (x1)]) (m := d_X11_pathByUse x1 V) K (fun q hq => kX11_pathByUse B hfl hq) cv_L_83 rfl (T := TX11) (N := 16) rfl rfl rfl (Nat.le_of_ble_eq_true rfl) ⟨Nat.le_of_ble_eq_true rfl, Nat.le_of_ble_eq_true rfl⟩ (by omega) (am_at eL_pathByUse 4 rfl) h (rXI_some h) (bkXI (fun y2 V1 h => ?_) (fun E9 V9 h => ?_))
  · refine AE.run K eL_pathByUse 5 2 (show am_run 4 ((tL_pathByUse.drop 5).take 2) 9 [some (.ref (1)), some (.int (x1)), some (.int (-1000)), none] [.int (y2)] = some (18, [some (.ref (1)), some (.int (x1)), some (.int (y2)), none], []) from rfl) ?_
    refine AE.run K eL_pathByUse 10 1 (show am_run 4 ((tL_pathByUse.drop 10).take 1) 18 [some (.ref (1)), some (.int (x1)), some (.int (y2)), none] [] = some (19, [some (.ref (1)), some (.int (x1)), some (.int (y2)), none], [.int (y2)]) from rfl) ?_
    exact AE.iret K (by omega) (am_at eL_pathByUse 11 rfl) h
  · refine AEx.cse h (fun h => ?_) (fun h => ?_)
    · refine AEx.catch (name := "java/util/NoSuchElementException") (k := 3) (n := 1) (j := 0) K hex rfl (trivial) (by decide) (by decide) (x_in 1024 (by decide +kernel)) (y_inN 1035 (by decide +kernel)) (by decide) rfl (Or.inl ⟨⟨3, by decide⟩, rfl, rfl, (am_at eL_pathByUse 7 rfl)⟩) ?_
      refine AE.run K eL_pathByUse 8 1 (show am_run 4 ((tL_pathByUse.drop 8).take 1) 14 [some (.ref (1)), some (.int (x1)), some (.int (-1000)), none] [] = some (17, [some (.ref (1)), some (.int (x1)), some (.int (-1000)), none], [.int (-1000)]) from rfl) ?_
      exact AE.iret K (by omega) (am_at eL_pathByUse 9 rfl) h
    cases h
def d_L_meanEnergy (V : am_V) : am_R := rXD (d_X11_meanEnergy V) (fun (y2 : UInt64) (V1 : am_V) => some (.inl (some (.double (y2))), V1)) (fun (E9 : String) (V9 : am_V) => (if E9 = "java/lang/ArithmeticException" then some (.inl (some (.double ((13830554455654793216 : UInt64)))), V9) else none))
set_option maxRecDepth 100000 in
set_option maxHeartbeats 4000000 in
theorem kL_meanEnergy {U : am_U} {l : Launch} (B : am_base xx U) (hfl : l.stackTraces = false) {V : am_V} {r : (Option Value ⊕ String) × am_V} (h : d_L_meanEnergy V = some r) : am_CtW xx U l yL_meanEnergy cL_meanEnergy 4 (some .double) [(4, 9, 12, 92)] (rk 9 1 240) [.ref (1)] V (am_is r.1 r.2) := by
  refine am_CtW.of B hfl (by decide) (Nat.le_of_ble_eq_true rfl) ?_
  intro G hgl hgR hr ok h0 hex
  have K : aK U l G RL cL_meanEnergy 4 (some .double) 9 1 240 := ⟨hgl, hgR, hr, ok, h0⟩
  unfold d_L_meanEnergy at h
  show AE U G 4 9 1 240 r 0 V 0 [some (.ref (1)), none, none, none] []
  refine AE.ldcD (index := 86) (v := 13830554455654793216) K (x_in 1207 (by decide +kernel)) (am_at eL_meanEnergy 0 rfl) ?_
  refine AE.run K eL_meanEnergy 1 2 (show am_run 4 ((tL_meanEnergy.drop 1).take 2) 3 [some (.ref (1)), none, none, none] [.double ((13830554455654793216 : UInt64))] = some (5, [some (.ref (1)), some (.double ((13830554455654793216 : UInt64))), none, none], [.ref (1)]) from rfl) ?_
  refine AE.cvX (f' := 8) (c' := 1) (lo' := 220) (st := []) (As := []) (m := d_X11_meanEnergy V) K (fun q hq => kX11_meanEnergy B hfl hq) cv_L_88 rfl (T := TX11) (N := 16) rfl rfl rfl (Nat.le_of_ble_eq_true rfl) ⟨Nat.le_of_ble_eq_true rfl, Nat.le_of_ble_eq_true rfl⟩ (by omega) (am_at eL_meanEnergy 3 rfl) h (rXD_some h) (bkXD (fun y2 V1 h => ?_) (fun E9 V9 h => ?_))
  · refine AE.run K eL_meanEnergy 4 2 (show am_run 4 ((tL_meanEnergy.drop 4).take 2) 8 [some (.ref (1)), some (.double ((13830554455654793216 : UInt64))), none, none] [.double (y2)] = some (17, [some (.ref (1)), some (.double (y2)), none, none], []) from rfl) ?_
    refine AE.run K eL_meanEnergy 9 1 (show am_run 4 ((tL_meanEnergy.drop 9).take 1) 17 [some (.ref (1)), some (.double (y2)), none, none] [] = some (18, [some (.ref (1)), some (.double (y2)), none, none], [.double (y2)]) from rfl) ?_
    exact AE.dret K (by omega) (am_at eL_meanEnergy 10 rfl) h
  · refine AEx.cse h (fun h => ?_) (fun h => ?_)
    · refine AEx.catch (name := "java/lang/ArithmeticException") (k := 3) (n := 1) (j := 0) K hex rfl (trivial) (by decide) (by decide) (x_in 1178 (by decide +kernel)) (y_inN 1190 (by decide +kernel)) (by decide) rfl (Or.inl ⟨⟨3, by decide⟩, rfl, rfl, (am_at eL_meanEnergy 6 rfl)⟩) ?_
      refine AE.ldcD (index := 86) (v := 13830554455654793216) K (x_in 1207 (by decide +kernel)) (am_at eL_meanEnergy 7 rfl) ?_
      exact AE.dret K (by omega) (am_at eL_meanEnergy 8 rfl) h
    cases h
def d_L_lossShare (V : am_V) : am_R := rXF (d_X11_lossShare V) (fun (y2 : UInt32) (V1 : am_V) => some (.inl (some (.float (y2))), V1)) (fun (E9 : String) (V9 : am_V) => (if E9 = "java/lang/ArithmeticException" then some (.inl (some (.float ((3212836864 : UInt32)))), V9) else none))
set_option maxRecDepth 100000 in
set_option maxHeartbeats 4000000 in
theorem kL_lossShare {U : am_U} {l : Launch} (B : am_base xx U) (hfl : l.stackTraces = false) {V : am_V} {r : (Option Value ⊕ String) × am_V} (h : d_L_lossShare V = some r) : am_CtW xx U l yL_lossShare cL_lossShare 3 (some .float) [(3, 8, 11, 92)] (rk 9 1 240) [.ref (1)] V (am_is r.1 r.2) := by
  refine am_CtW.of B hfl (by decide) (Nat.le_of_ble_eq_true rfl) ?_
  intro G hgl hgR hr ok h0 hex
  have K : aK U l G RL cL_lossShare 3 (some .float) 9 1 240 := ⟨hgl, hgR, hr, ok, h0⟩
  unfold d_L_lossShare at h
  show AE U G 3 9 1 240 r 0 V 0 [some (.ref (1)), none, none] []
  refine AE.ldcF (index := 66) (v := 3212836864) K (x_in 1192 (by decide +kernel)) (am_at eL_lossShare 0 rfl) ?_
  refine AE.run K eL_lossShare 1 2 (show am_run 3 ((tL_lossShare.drop 1).take 2) 2 [some (.ref (1)), none, none] [.float ((3212836864 : UInt32))] = some (4, [some (.ref (1)), some (.float ((3212836864 : UInt32))), none], [.ref (1)]) from rfl) ?_
  refine AE.cvX (f' := 8) (c' := 1) (lo' := 220) (st := []) (As := []) (m := d_X11_lossShare V) K (fun q hq => kX11_lossShare B hfl hq) cv_L_94 rfl (T := TX11) (N := 16) rfl rfl rfl (Nat.le_of_ble_eq_true rfl) ⟨Nat.le_of_ble_eq_true rfl, Nat.le_of_ble_eq_true rfl⟩ (by omega) (am_at eL_lossShare 3 rfl) h (rXF_some h) (bkXF (fun y2 V1 h => ?_) (fun E9 V9 h => ?_))
  · refine AE.run K eL_lossShare 4 2 (show am_run 3 ((tL_lossShare.drop 4).take 2) 7 [some (.ref (1)), some (.float ((3212836864 : UInt32))), none] [.float (y2)] = some (15, [some (.ref (1)), some (.float (y2)), none], []) from rfl) ?_
    refine AE.run K eL_lossShare 9 1 (show am_run 3 ((tL_lossShare.drop 9).take 1) 15 [some (.ref (1)), some (.float (y2)), none] [] = some (16, [some (.ref (1)), some (.float (y2)), none], [.float (y2)]) from rfl) ?_
    exact AE.fret K (by omega) (am_at eL_lossShare 10 rfl) h
  · refine AEx.cse h (fun h => ?_) (fun h => ?_)
    · refine AEx.catch (name := "java/lang/ArithmeticException") (k := 2) (n := 1) (j := 0) K hex rfl (trivial) (by decide) (by decide) (x_in 1178 (by decide +kernel)) (y_inN 1190 (by decide +kernel)) (by decide) rfl (Or.inl ⟨⟨2, by decide⟩, rfl, rfl, (am_at eL_lossShare 6 rfl)⟩) ?_
      refine AE.ldcF (index := 66) (v := 3212836864) K (x_in 1192 (by decide +kernel)) (am_at eL_lossShare 7 rfl) ?_
      exact AE.fret K (by omega) (am_at eL_lossShare 8 rfl) h
    cases h
def d_L_undo (V : am_V) : am_R := rXI (d_X11_undo V) (fun (y2 : Int32) (V1 : am_V) => some (.inl (some (.int (y2))), V1)) (fun (E9 : String) (V9 : am_V) => (if E9 = "java/lang/IllegalStateException" then some (.inl (some (.int ((-100000000 : Int32)))), V9) else none))
set_option maxRecDepth 100000 in
set_option maxHeartbeats 4000000 in
theorem kL_undo {U : am_U} {l : Launch} (B : am_base xx U) (hfl : l.stackTraces = false) {V : am_V} {r : (Option Value ⊕ String) × am_V} (h : d_L_undo V = some r) : am_CtW xx U l yL_undo cL_undo 3 (some .int) [(3, 8, 11, 101)] (rk 8 1 220) [.ref (1)] V (am_is r.1 r.2) := by
  refine am_CtW.of B hfl (by decide) (Nat.le_of_ble_eq_true rfl) ?_
  intro G hgl hgR hr ok h0 hex
  have K : aK U l G RL cL_undo 3 (some .int) 8 1 220 := ⟨hgl, hgR, hr, ok, h0⟩
  unfold d_L_undo at h
  show AE U G 3 8 1 220 r 0 V 0 [some (.ref (1)), none, none] []
  refine AE.ldcI (index := 10) (v := -100000000) K (x_in 463 (by decide +kernel)) (am_at eL_undo 0 rfl) ?_
  refine AE.run K eL_undo 1 2 (show am_run 3 ((tL_undo.drop 1).take 2) 2 [some (.ref (1)), none, none] [.int ((-100000000 : Int32))] = some (4, [some (.ref (1)), some (.int ((-100000000 : Int32))), none], [.ref (1)]) from rfl) ?_
  refine AE.cvX (f' := 7) (c' := 1) (lo' := 200) (st := []) (As := []) (m := d_X11_undo V) K (fun q hq => kX11_undo B hfl hq) cv_L_103 rfl (T := TX11) (N := 16) rfl rfl rfl (Nat.le_of_ble_eq_true rfl) ⟨Nat.le_of_ble_eq_true rfl, Nat.le_of_ble_eq_true rfl⟩ (by omega) (am_at eL_undo 3 rfl) h (rXI_some h) (bkXI (fun y2 V1 h => ?_) (fun E9 V9 h => ?_))
  · refine AE.run K eL_undo 4 2 (show am_run 3 ((tL_undo.drop 4).take 2) 7 [some (.ref (1)), some (.int ((-100000000 : Int32))), none] [.int (y2)] = some (15, [some (.ref (1)), some (.int (y2)), none], []) from rfl) ?_
    refine AE.run K eL_undo 9 1 (show am_run 3 ((tL_undo.drop 9).take 1) 15 [some (.ref (1)), some (.int (y2)), none] [] = some (16, [some (.ref (1)), some (.int (y2)), none], [.int (y2)]) from rfl) ?_
    exact AE.iret K (by omega) (am_at eL_undo 10 rfl) h
  · refine AEx.cse h (fun h => ?_) (fun h => ?_)
    · refine AEx.catch (name := "java/lang/IllegalStateException") (k := 2) (n := 1) (j := 0) K hex rfl (trivial) (by decide) (by decide) (x_in 690 (by decide +kernel)) (y_inN 880 (by decide +kernel)) (by decide) rfl (Or.inl ⟨⟨2, by decide⟩, rfl, rfl, (am_at eL_undo 6 rfl)⟩) ?_
      refine AE.ldcI (index := 10) (v := -100000000) K (x_in 463 (by decide +kernel)) (am_at eL_undo 7 rfl) ?_
      exact AE.iret K (by omega) (am_at eL_undo 8 rfl) h
    cases h
def d_L_restore (V : am_V) : am_R := rXI (d_X11_restoreSnapshot V) (fun (y2 : Int32) (V1 : am_V) => some (.inl (some (.int (y2))), V1)) (fun (E9 : String) (V9 : am_V) => (if E9 = "java/lang/IllegalStateException" then some (.inl (some (.int ((-100000000 : Int32)))), V9) else none))
set_option maxRecDepth 100000 in
set_option maxHeartbeats 4000000 in
theorem kL_restore {U : am_U} {l : Launch} (B : am_base xx U) (hfl : l.stackTraces = false) {V : am_V} {r : (Option Value ⊕ String) × am_V} (h : d_L_restore V = some r) : am_CtW xx U l yL_restore cL_restore 3 (some .int) [(3, 8, 11, 101)] (rk 8 1 220) [.ref (1)] V (am_is r.1 r.2) := by
  refine am_CtW.of B hfl (by decide) (Nat.le_of_ble_eq_true rfl) ?_
  intro G hgl hgR hr ok h0 hex
  have K : aK U l G RL cL_restore 3 (some .int) 8 1 220 := ⟨hgl, hgR, hr, ok, h0⟩
  unfold d_L_restore at h
  show AE U G 3 8 1 220 r 0 V 0 [some (.ref (1)), none, none] []
  refine AE.ldcI (index := 10) (v := -100000000) K (x_in 463 (by decide +kernel)) (am_at eL_restore 0 rfl) ?_
  refine AE.run K eL_restore 1 2 (show am_run 3 ((tL_restore.drop 1).take 2) 2 [some (.ref (1)), none, none] [.int ((-100000000 : Int32))] = some (4, [some (.ref (1)), some (.int ((-100000000 : Int32))), none], [.ref (1)]) from rfl) ?_
  refine AE.cvX (f' := 7) (c' := 1) (lo' := 200) (st := []) (As := []) (m := d_X11_restoreSnapshot V) K (fun q hq => kX11_restoreSnapshot B hfl hq) cv_L_106 rfl (T := TX11) (N := 16) rfl rfl rfl (Nat.le_of_ble_eq_true rfl) ⟨Nat.le_of_ble_eq_true rfl, Nat.le_of_ble_eq_true rfl⟩ (by omega) (am_at eL_restore 3 rfl) h (rXI_some h) (bkXI (fun y2 V1 h => ?_) (fun E9 V9 h => ?_))
  · refine AE.run K eL_restore 4 2 (show am_run 3 ((tL_restore.drop 4).take 2) 7 [some (.ref (1)), some (.int ((-100000000 : Int32))), none] [.int (y2)] = some (15, [some (.ref (1)), some (.int (y2)), none], []) from rfl) ?_
    refine AE.run K eL_restore 9 1 (show am_run 3 ((tL_restore.drop 9).take 1) 15 [some (.ref (1)), some (.int (y2)), none] [] = some (16, [some (.ref (1)), some (.int (y2)), none], [.int (y2)]) from rfl) ?_
    exact AE.iret K (by omega) (am_at eL_restore 10 rfl) h
  · refine AEx.cse h (fun h => ?_) (fun h => ?_)
    · refine AEx.catch (name := "java/lang/IllegalStateException") (k := 2) (n := 1) (j := 0) K hex rfl (trivial) (by decide) (by decide) (x_in 690 (by decide +kernel)) (y_inN 880 (by decide +kernel)) (by decide) rfl (Or.inl ⟨⟨2, by decide⟩, rfl, rfl, (am_at eL_restore 6 rfl)⟩) ?_
      refine AE.ldcI (index := 10) (v := -100000000) K (x_in 463 (by decide +kernel)) (am_at eL_restore 7 rfl) ?_
      exact AE.iret K (by omega) (am_at eL_restore 8 rfl) h
    cases h
