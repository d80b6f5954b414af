def d_X11_requireField (x1 : Int32) (V : am_V) : am_R := rI (d_X6_hasField 0 x1 V) (fun (y2 : Int32) (V1 : am_V) => (if ¬ y2 = 0 then some (.inl none, V1) else some (.inr "java/lang/IndexOutOfBoundsException", V1)))
set_option maxRecDepth 100000 in
set_option maxHeartbeats 4000000 in
theorem kX11_requireField {U : am_U} {l : Launch} (B : am_base xx U) (hfl : l.stackTraces = false) {V : am_V} {x1 : Int32} {r : (Option Value ⊕ String) × am_V} (h : d_X11_requireField x1 V = some r) : am_Ct xx U l yX11_requireField cX11_requireField 2 none (rk 7 1 200) [.ref (1), .int (x1)] V (am_is r.1 r.2) := by
  refine am_Ct.of B hfl (by decide) (Nat.le_of_ble_eq_true rfl) ?_
  intro G hgl hgR hr ok h0 hex
  have K : aK U l G RX11 cX11_requireField 2 none 7 1 200 := ⟨hgl, hgR, hr, ok, h0⟩
  unfold d_X11_requireField at h
  show AE U G 2 7 1 200 r 0 V 0 [some (.ref (1)), some (.int (x1))] []
  refine AE.run K eX11_requireField 0 1 (show am_run 2 ((tX11_requireField.drop 0).take 1) 0 [some (.ref (1)), some (.int (x1))] [] = some (1, [some (.ref (1)), some (.int (x1))], [.ref (1)]) from rfl) ?_
  refine AE.getR K gf_X11_10 rfl rfl (am_at eX11_requireField 1 rfl) ?_
  refine AE.getR K gf_X11_115 (sh_S0 (by decide)) rfl (am_at eX11_requireField 2 rfl) ?_
  refine AE.run K eX11_requireField 3 1 (show am_run 2 ((tX11_requireField.drop 3).take 1) 7 [some (.ref (1)), some (.int (x1))] [.ref (sS 0 + 1)] = some (8, [some (.ref (1)), some (.int (x1))], [.int (x1), .ref (sS 0 + 1)]) from rfl) ?_
  refine AE.cv (f' := 0) (c' := 0) (lo' := 0) (st := []) (As := [.int (x1)]) (m := d_X6_hasField 0 x1 V) K hex (fun q hq => kX6_hasField B hfl (i := 0) (by decide) hq) cv_X11_416 (sh_S1 (by decide)) (T := TX6) (N := 8) rfl rfl rfl (Nat.le_of_ble_eq_true rfl) ⟨Nat.le_of_ble_eq_true rfl, Nat.le_of_ble_eq_true rfl⟩ (by omega) (am_at eX11_requireField 4 rfl) h (rI_some h) (bkI (fun y2 V1 h => ?_))
  refine AE.if0 K 25 (am_at eX11_requireField 5 rfl) (by decide) rfl h (fun h => ?_) (fun h => ?_)
  · exact AE.vret K (by omega) (am_at eX11_requireField 11 rfl) h
  · exact AE.throwSW K hex th_X11_334_419 (am_at eX11_requireField 6 rfl) (am_at eX11_requireField 7 rfl) (am_at eX11_requireField 8 rfl) (am_at eX11_requireField 9 rfl) (am_at eX11_requireField 10 rfl) (by decide) (Nat.le_of_ble_eq_true rfl) (by omega) h
def d_X11_requirePath (x1 : Int32) (V : am_V) : am_R := rI (d_X6_hasPath 0 x1 V) (fun (y2 : Int32) (V1 : am_V) => (if ¬ y2 = 0 then some (.inl none, V1) else some (.inr "java/lang/IndexOutOfBoundsException", V1)))
set_option maxRecDepth 100000 in
set_option maxHeartbeats 4000000 in
theorem kX11_requirePath {U : am_U} {l : Launch} (B : am_base xx U) (hfl : l.stackTraces = false) {V : am_V} {x1 : Int32} {r : (Option Value ⊕ String) × am_V} (h : d_X11_requirePath x1 V = some r) : am_Ct xx U l yX11_requirePath cX11_requirePath 2 none (rk 7 1 200) [.ref (1), .int (x1)] V (am_is r.1 r.2) := by
  refine am_Ct.of B hfl (by decide) (Nat.le_of_ble_eq_true rfl) ?_
  intro G hgl hgR hr ok h0 hex
  have K : aK U l G RX11 cX11_requirePath 2 none 7 1 200 := ⟨hgl, hgR, hr, ok, h0⟩
  unfold d_X11_requirePath at h
  show AE U G 2 7 1 200 r 0 V 0 [some (.ref (1)), some (.int (x1))] []
  refine AE.run K eX11_requirePath 0 1 (show am_run 2 ((tX11_requirePath.drop 0).take 1) 0 [some (.ref (1)), some (.int (x1))] [] = some (1, [some (.ref (1)), some (.int (x1))], [.ref (1)]) from rfl) ?_
  refine AE.getR K gf_X11_10 rfl rfl (am_at eX11_requirePath 1 rfl) ?_
  refine AE.getR K gf_X11_115 (sh_S0 (by decide)) rfl (am_at eX11_requirePath 2 rfl) ?_
  refine AE.run K eX11_requirePath 3 1 (show am_run 2 ((tX11_requirePath.drop 3).take 1) 7 [some (.ref (1)), some (.int (x1))] [.ref (sS 0 + 1)] = some (8, [some (.ref (1)), some (.int (x1))], [.int (x1), .ref (sS 0 + 1)]) from rfl) ?_
  refine AE.cv (f' := 0) (c' := 0) (lo' := 0) (st := []) (As := [.int (x1)]) (m := d_X6_hasPath 0 x1 V) K hex (fun q hq => kX6_hasPath B hfl (i := 0) (by decide) hq) cv_X11_421 (sh_S1 (by decide)) (T := TX6) (N := 8) rfl rfl rfl (Nat.le_of_ble_eq_true rfl) ⟨Nat.le_of_ble_eq_true rfl, Nat.le_of_ble_eq_true rfl⟩ (by omega) (am_at eX11_requirePath 4 rfl) h (rI_some h) (bkI (fun y2 V1 h => ?_))
  refine AE.if0 K 25 (am_at eX11_requirePath 5 rfl) (by decide) rfl h (fun h => ?_) (fun h => ?_)
  · exact AE.vret K (by omega) (am_at eX11_requirePath 11 rfl) h
  · exact AE.throwSW K hex th_X11_334_424 (am_at eX11_requirePath 6 rfl) (am_at eX11_requirePath 7 rfl) (am_at eX11_requirePath 8 rfl) (am_at eX11_requirePath 9 rfl) (am_at eX11_requirePath 10 rfl) (by decide) (Nat.le_of_ble_eq_true rfl) (by omega) h
def d_X11_requireTwoFields (x1 : Int32) (x2 : Int32) (V : am_V) : am_R := rU (d_X11_requireField x1 V) (fun (V1 : am_V) => rU (d_X11_requireField x2 V1) (fun (V2 : am_V) => (if ¬ x1 = x2 then some (.inl none, V2) else some (.inr "java/lang/IllegalArgumentException", V2))))
set_option maxRecDepth 100000 in
set_option maxHeartbeats 4000000 in
theorem kX11_requireTwoFields {U : am_U} {l : Launch} (B : am_base xx U) (hfl : l.stackTraces = false) {V : am_V} {x1 : Int32} {x2 : Int32} {r : (Option Value ⊕ String) × am_V} (h : d_X11_requireTwoFields x1 x2 V = some r) : am_Ct xx U l yX11_requireTwoFields cX11_requireTwoFields 3 none (rk 8 3 221) [.ref (1), .int (x1), .int (x2)] V (am_is r.1 r.2) := by
  refine am_Ct.of B hfl (by decide) (Nat.le_of_ble_eq_true rfl) ?_
  intro G hgl hgR hr ok h0 hex
  have K : aK U l G RX11 cX11_requireTwoFields 3 none 8 3 221 := ⟨hgl, hgR, hr, ok, h0⟩
  unfold d_X11_requireTwoFields at h
  show AE U G 3 8 3 221 r 0 V 0 [some (.ref (1)), some (.int (x1)), some (.int (x2))] []
  refine AE.run K eX11_requireTwoFields 0 2 (show am_run 3 ((tX11_requireTwoFields.drop 0).take 2) 0 [some (.ref (1)), some (.int (x1)), some (.int (x2))] [] = some (2, [some (.ref (1)), some (.int (x1)), some (.int (x2))], [.int (x1), .ref (1)]) from rfl) ?_
  refine AE.cv (f' := 7) (c' := 1) (lo' := 200) (st := []) (As := [.int (x1)]) (m := d_X11_requireField x1 V) K hex (fun q hq => kX11_requireField B hfl hq) cv_X11_127 rfl (T := TX11) (N := 16) rfl rfl rfl (Nat.le_of_ble_eq_true rfl) ⟨Nat.le_of_ble_eq_true rfl, Nat.le_of_ble_eq_true rfl⟩ (by omega) (am_at eX11_requireTwoFields 2 rfl) h (rU_some h) (bkU (fun V1 h => ?_))
  refine AE.run K eX11_requireTwoFields 3 2 (show am_run 3 ((tX11_requireTwoFields.drop 3).take 2) 5 [some (.ref (1)), some (.int (x1)), some (.int (x2))] [] = some (7, [some (.ref (1)), some (.int (x1)), some (.int (x2))], [.int (x2), .ref (1)]) from rfl) ?_
  refine AE.cv (f' := 7) (c' := 1) (lo' := 200) (st := []) (As := [.int (x2)]) (m := d_X11_requireField x2 V1) K hex (fun q hq => kX11_requireField B hfl hq) cv_X11_127 rfl (T := TX11) (N := 16) rfl rfl rfl (Nat.le_of_ble_eq_true rfl) ⟨Nat.le_of_ble_eq_true rfl, Nat.le_of_ble_eq_true rfl⟩ (by omega) (am_at eX11_requireTwoFields 5 rfl) h (rU_some h) (bkU (fun V2 h => ?_))
  refine AE.run K eX11_requireTwoFields 6 2 (show am_run 3 ((tX11_requireTwoFields.drop 6).take 2) 10 [some (.ref (1)), some (.int (x1)), some (.int (x2))] [] = some (12, [some (.ref (1)), some (.int (x1)), some (.int (x2))], [.int (x2), .int (x1)]) from rfl) ?_
  refine AE.ic K 26 (am_at eX11_requireTwoFields 8 rfl) (by decide) rfl h (fun h => ?_) (fun h => ?_)
  · exact AE.vret K (by omega) (am_at eX11_requireTwoFields 14 rfl) h
  · exact AE.throwSW K hex th_X11_339_426 (am_at eX11_requireTwoFields 9 rfl) (am_at eX11_requireTwoFields 10 rfl) (am_at eX11_requireTwoFields 11 rfl) (am_at eX11_requireTwoFields 12 rfl) (am_at eX11_requireTwoFields 13 rfl) (by decide) (Nat.le_of_ble_eq_true rfl) (by omega) h
def d_X11_requireStarted (V : am_V) : am_R := (if ¬ (V (sS 0 + 2) 1) = 0 then some (.inl none, V) else some (.inr "java/util/NoSuchElementException", V))
set_option maxRecDepth 100000 in
set_option maxHeartbeats 4000000 in
theorem kX11_requireStarted {U : am_U} {l : Launch} (B : am_base xx U) (hfl : l.stackTraces = false) {V : am_V} {r : (Option Value ⊕ String) × am_V} (h : d_X11_requireStarted V = some r) : am_Ct xx U l yX11_requireStarted cX11_requireStarted 1 none (rk 7 1 200) [.ref (1)] V (am_is r.1 r.2) := by
  refine am_Ct.of B hfl (by decide) (Nat.le_of_ble_eq_true rfl) ?_
  intro G hgl hgR hr ok h0 hex
  have K : aK U l G RX11 cX11_requireStarted 1 none 7 1 200 := ⟨hgl, hgR, hr, ok, h0⟩
  unfold d_X11_requireStarted at h
  show AE U G 1 7 1 200 r 0 V 0 [some (.ref (1))] []
  refine AE.run K eX11_requireStarted 0 1 (show am_run 1 ((tX11_requireStarted.drop 0).take 1) 0 [some (.ref (1))] [] = some (1, [some (.ref (1))], [.ref (1)]) from rfl) ?_
  refine AE.getR K gf_X11_10 rfl rfl (am_at eX11_requireStarted 1 rfl) ?_
  refine AE.getR K gf_X11_246 (sh_S0 (by decide)) rfl (am_at eX11_requireStarted 2 rfl) ?_
  refine AE.getI K gf_X11_428 (sh_S2 (by decide)) rfl (am_at eX11_requireStarted 3 rfl) ?_
  refine AE.if0 K 24 (am_at eX11_requireStarted 4 rfl) (by decide) rfl h (fun h => ?_) (fun h => ?_)
  · exact AE.vret K (by omega) (am_at eX11_requireStarted 10 rfl) h
  · exact AE.throwTW K hex th_X11_212_431 (am_at eX11_requireStarted 5 rfl) (am_at eX11_requireStarted 6 rfl) (am_at eX11_requireStarted 7 rfl) (am_at eX11_requireStarted 8 rfl) (am_at eX11_requireStarted 9 rfl) (by decide) (Nat.le_of_ble_eq_true rfl) (by omega) h
def d_X11_requireRunning (V : am_V) : am_R := (if ¬ (V (sS 0 + 2) 2) = 0 then some (.inl none, V) else some (.inr "java/util/NoSuchElementException", V))
set_option maxRecDepth 100000 in
set_option maxHeartbeats 4000000 in
theorem kX11_requireRunning {U : am_U} {l : Launch} (B : am_base xx U) (hfl : l.stackTraces = false) {V : am_V} {r : (Option Value ⊕ String) × am_V} (h : d_X11_requireRunning V = some r) : am_Ct xx U l yX11_requireRunning cX11_requireRunning 1 none (rk 7 1 200) [.ref (1)] V (am_is r.1 r.2) := by
  refine am_Ct.of B hfl (by decide) (Nat.le_of_ble_eq_true rfl) ?_
  intro G hgl hgR hr ok h0 hex
  have K : aK U l G RX11 cX11_requireRunning 1 none 7 1 200 := ⟨hgl, hgR, hr, ok, h0⟩
  unfold d_X11_requireRunning at h
  show AE U G 1 7 1 200 r 0 V 0 [some (.ref (1))] []
  refine AE.run K eX11_requireRunning 0 1 (show am_run 1 ((tX11_requireRunning.drop 0).take 1) 0 [some (.ref (1))] [] = some (1, [some (.ref (1))], [.ref (1)]) from rfl) ?_
  refine AE.getR K gf_X11_10 rfl rfl (am_at eX11_requireRunning 1 rfl) ?_
  refine AE.getR K gf_X11_246 (sh_S0 (by decide)) rfl (am_at eX11_requireRunning 2 rfl) ?_
  refine AE.getI K gf_X11_250 (sh_S2 (by decide)) rfl (am_at eX11_requireRunning 3 rfl) ?_
  refine AE.if0 K 24 (am_at eX11_requireRunning 4 rfl) (by decide) rfl h (fun h => ?_) (fun h => ?_)
  · exact AE.vret K (by omega) (am_at eX11_requireRunning 10 rfl) h
  · exact AE.throwTW K hex th_X11_212_433 (am_at eX11_requireRunning 5 rfl) (am_at eX11_requireRunning 6 rfl) (am_at eX11_requireRunning 7 rfl) (am_at eX11_requireRunning 8 rfl) (am_at eX11_requireRunning 9 rfl) (by decide) (Nat.le_of_ble_eq_true rfl) (by omega) h
def d_X11_requireSent (V : am_V) : am_R := (if ¬ (V (sS 0) 3) = 0 then some (.inl none, V) else some (.inr "java/lang/ArithmeticException", V))
set_option maxRecDepth 100000 in
set_option maxHeartbeats 4000000 in
theorem kX11_requireSent {U : am_U} {l : Launch} (B : am_base xx U) (hfl : l.stackTraces = false) {V : am_V} {r : (Option Value ⊕ String) × am_V} (h : d_X11_requireSent V = some r) : am_Ct xx U l yX11_requireSent cX11_requireSent 1 none (rk 7 1 200) [.ref (1)] V (am_is r.1 r.2) := by
  refine am_Ct.of B hfl (by decide) (Nat.le_of_ble_eq_true rfl) ?_
  intro G hgl hgR hr ok h0 hex
  have K : aK U l G RX11 cX11_requireSent 1 none 7 1 200 := ⟨hgl, hgR, hr, ok, h0⟩
  unfold d_X11_requireSent at h
  show AE U G 1 7 1 200 r 0 V 0 [some (.ref (1))] []
  refine AE.run K eX11_requireSent 0 1 (show am_run 1 ((tX11_requireSent.drop 0).take 1) 0 [some (.ref (1))] [] = some (1, [some (.ref (1))], [.ref (1)]) from rfl) ?_
  refine AE.getR K gf_X11_10 rfl rfl (am_at eX11_requireSent 1 rfl) ?_
  refine AE.getI K gf_X11_287 (sh_S0 (by decide)) rfl (am_at eX11_requireSent 2 rfl) ?_
  refine AE.if0 K 21 (am_at eX11_requireSent 3 rfl) (by decide) rfl h (fun h => ?_) (fun h => ?_)
  · exact AE.vret K (by omega) (am_at eX11_requireSent 9 rfl) h
  · exact AE.throwSW K hex th_X11_435_437 (am_at eX11_requireSent 4 rfl) (am_at eX11_requireSent 5 rfl) (am_at eX11_requireSent 6 rfl) (am_at eX11_requireSent 7 rfl) (am_at eX11_requireSent 8 rfl) (by decide) (Nat.le_of_ble_eq_true rfl) (by omega) h
def d_X11_requireWay (x0 : Int32) (V : am_V) : am_R := (if x0 < (nI 1000) then some (.inl (some (.int (x0))), V) else some (.inr "java/util/NoSuchElementException", V))
set_option maxRecDepth 100000 in
set_option maxHeartbeats 4000000 in
theorem kX11_requireWay {U : am_U} {l : Launch} (B : am_base xx U) (hfl : l.stackTraces = false) {V : am_V} {x0 : Int32} {r : (Option Value ⊕ String) × am_V} (h : d_X11_requireWay x0 V = some r) : am_Ct xx U l yX11_requireWay cX11_requireWay 1 (some .int) (rk 7 1 200) [.int (x0)] V (am_is r.1 r.2) := by
  refine am_Ct.of B hfl (by decide) (Nat.le_of_ble_eq_true rfl) ?_
  intro G hgl hgR hr ok h0 hex
  have K : aK U l G RX11 cX11_requireWay 1 (some .int) 7 1 200 := ⟨hgl, hgR, hr, ok, h0⟩
  unfold d_X11_requireWay at h
  show AE U G 1 7 1 200 r 0 V 0 [some (.int (x0))] []
  refine AE.run K eX11_requireWay 0 2 (show am_run 1 ((tX11_requireWay.drop 0).take 2) 0 [some (.int (x0))] [] = some (4, [some (.int (x0))], [.int (nI 1000), .int (x0)]) from rfl) ?_
  refine AE.ic K 18 (am_at eX11_requireWay 2 rfl) (by decide) rfl h (fun h => ?_) (fun h => ?_)
  · refine AE.run K eX11_requireWay 8 1 (show am_run 1 ((tX11_requireWay.drop 8).take 1) 18 [some (.int (x0))] [] = some (19, [some (.int (x0))], [.int (x0)]) from rfl) ?_
    exact AE.iret K (by omega) (am_at eX11_requireWay 9 rfl) h
  · exact AE.throwTW K hex th_X11_212_442 (am_at eX11_requireWay 3 rfl) (am_at eX11_requireWay 4 rfl) (am_at eX11_requireWay 5 rfl) (am_at eX11_requireWay 6 rfl) (am_at eX11_requireWay 7 rfl) (by decide) (Nat.le_of_ble_eq_true rfl) (by omega) h
def d_X11_noteRejection (x1 : Int32) (x2 : Int32) (x3 : Int32) (V : am_V) : am_R := rV (am_set V 1 12 x1) (fun (V1 : am_V) => rV (am_set V1 1 13 x2) (fun (V2 : am_V) => rV (am_set V2 1 14 x3) (fun (V3 : am_V) => some (.inl none, V3))))
set_option maxRecDepth 100000 in
set_option maxHeartbeats 4000000 in
theorem kX11_noteRejection {U : am_U} {l : Launch} (B : am_base xx U) (hfl : l.stackTraces = false) {V : am_V} {x1 : Int32} {x2 : Int32} {x3 : Int32} {r : (Option Value ⊕ String) × am_V} (h : d_X11_noteRejection x1 x2 x3 V = some r) : am_Ct xx U l yX11_noteRejection cX11_noteRejection 4 none (rk 0 0 0) [.ref (1), .int (x1), .int (x2), .int (x3)] V (am_is r.1 r.2) := by
  refine am_Ct.of B hfl (by decide) (Nat.le_of_ble_eq_true rfl) ?_
  intro G hgl hgR hr ok h0 hex
  have K : aK U l G RX11 cX11_noteRejection 4 none 0 0 0 := ⟨hgl, hgR, hr, ok, h0⟩
  unfold d_X11_noteRejection at h
  show AE U G 4 0 0 0 r 0 V 0 [some (.ref (1)), some (.int (x1)), some (.int (x2)), some (.int (x3))] []
  refine AE.run K eX11_noteRejection 0 2 (show am_run 4 ((tX11_noteRejection.drop 0).take 2) 0 [some (.ref (1)), some (.int (x1)), some (.int (x2)), some (.int (x3))] [] = some (2, [some (.ref (1)), some (.int (x1)), some (.int (x2)), some (.int (x3))], [.int (x1), .ref (1)]) from rfl) ?_
  refine AE.putI K pf_X11_76 rfl rfl rfl (am_at eX11_noteRejection 2 rfl) h (fun V1 h => ?_)
  refine AE.run K eX11_noteRejection 3 2 (show am_run 4 ((tX11_noteRejection.drop 3).take 2) 5 [some (.ref (1)), some (.int (x1)), some (.int (x2)), some (.int (x3))] [] = some (7, [some (.ref (1)), some (.int (x1)), some (.int (x2)), some (.int (x3))], [.int (x2), .ref (1)]) from rfl) ?_
  refine AE.putI K pf_X11_79 rfl rfl rfl (am_at eX11_noteRejection 5 rfl) h (fun V2 h => ?_)
  refine AE.run K eX11_noteRejection 6 2 (show am_run 4 ((tX11_noteRejection.drop 6).take 2) 10 [some (.ref (1)), some (.int (x1)), some (.int (x2)), some (.int (x3))] [] = some (12, [some (.ref (1)), some (.int (x1)), some (.int (x2)), some (.int (x3))], [.int (x3), .ref (1)]) from rfl) ?_
  refine AE.putI K pf_X11_82 rfl rfl rfl (am_at eX11_noteRejection 8 rfl) h (fun V3 h => ?_)
  exact AE.vret K (by omega) (am_at eX11_noteRejection 9 rfl) h
def d_X11_settle (x1 : Int32) (V : am_V) : am_R := (if ¬ x1 = (-1) then (if ¬ x1 = (-2) then (if ¬ x1 = (-3) then rU (d_X4_keep V) (fun (V1 : am_V) => some (.inl (some (.int (x1))), V1)) else rU (d_X11_noteRejection (V 12 0) (V 12 1) (-1) V) (fun (V2 : am_V) => some (.inr "java/lang/UnsupportedOperationException", V2))) else some (.inr "java/lang/IllegalArgumentException", V)) else some (.inr "java/lang/IndexOutOfBoundsException", V))
set_option maxRecDepth 100000 in
set_option maxHeartbeats 4000000 in
theorem kX11_settle {U : am_U} {l : Launch} (B : am_base xx U) (hfl : l.stackTraces = false) {V : am_V} {x1 : Int32} {r : (Option Value ⊕ String) × am_V} (h : d_X11_settle x1 V = some r) : am_Ct xx U l yX11_settle cX11_settle 2 (some .int) (rk 7 1 200) [.ref (1), .int (x1)] V (am_is r.1 r.2) := by
  refine am_Ct.of B hfl (by decide) (Nat.le_of_ble_eq_true rfl) ?_
  intro G hgl hgR hr ok h0 hex
  have K : aK U l G RX11 cX11_settle 2 (some .int) 7 1 200 := ⟨hgl, hgR, hr, ok, h0⟩
  unfold d_X11_settle at h
  show AE U G 2 7 1 200 r 0 V 0 [some (.ref (1)), some (.int (x1))] []
  refine AE.run K eX11_settle 0 2 (show am_run 2 ((tX11_settle.drop 0).take 2) 0 [some (.ref (1)), some (.int (x1))] [] = some (2, [some (.ref (1)), some (.int (x1))], [.int (-1), .int (x1)]) from rfl) ?_
  refine AE.ic K 16 (am_at eX11_settle 2 rfl) (by decide) rfl h (fun h => ?_) (fun h => ?_)
  · refine AE.run K eX11_settle 8 2 (show am_run 2 ((tX11_settle.drop 8).take 2) 16 [some (.ref (1)), some (.int (x1))] [] = some (19, [some (.ref (1)), some (.int (x1))], [.int (-2), .int (x1)]) from rfl) ?_
    refine AE.ic K 33 (am_at eX11_settle 10 rfl) (by decide) rfl h (fun h => ?_) (fun h => ?_)
    · refine AE.run K eX11_settle 16 2 (show am_run 2 ((tX11_settle.drop 16).take 2) 33 [some (.ref (1)), some (.int (x1))] [] = some (36, [some (.ref (1)), some (.int (x1))], [.int (-3), .int (x1)]) from rfl) ?_
      refine AE.ic K 69 (am_at eX11_settle 18 rfl) (by decide) rfl h (fun h => ?_) (fun h => ?_)
      · refine AE.run K eX11_settle 33 1 (show am_run 2 ((tX11_settle.drop 33).take 1) 69 [some (.ref (1)), some (.int (x1))] [] = some (70, [some (.ref (1)), some (.int (x1))], [.ref (1)]) from rfl) ?_
        refine AE.getR K gf_X11_25 rfl rfl (am_at eX11_settle 34 rfl) ?_
        refine AE.cv (f' := 2) (c' := 0) (lo' := 60) (st := []) (As := []) (m := d_X4_keep V) K hex (fun q hq => kX4_keep B hfl hq) cv_X11_393 rfl (T := TX4) (N := 3) rfl rfl rfl (Nat.le_of_ble_eq_true rfl) ⟨Nat.le_of_ble_eq_true rfl, Nat.le_of_ble_eq_true rfl⟩ (by omega) (am_at eX11_settle 35 rfl) h (rU_some h) (bkU (fun V1 h => ?_))
        refine AE.run K eX11_settle 36 1 (show am_run 2 ((tX11_settle.drop 36).take 1) 76 [some (.ref (1)), some (.int (x1))] [] = some (77, [some (.ref (1)), some (.int (x1))], [.int (x1)]) from rfl) ?_
        exact AE.iret K (by omega) (am_at eX11_settle 37 rfl) h
      · refine AE.run K eX11_settle 19 2 (show am_run 2 ((tX11_settle.drop 19).take 2) 39 [some (.ref (1)), some (.int (x1))] [] = some (41, [some (.ref (1)), some (.int (x1))], [.ref (1), .ref (1)]) from rfl) ?_
        refine AE.getR K gf_X11_53 rfl rfl (am_at eX11_settle 21 rfl) ?_
        refine AE.getI K gf_X11_379 rfl rfl (am_at eX11_settle 22 rfl) ?_
        refine AE.run K eX11_settle 23 1 (show am_run 2 ((tX11_settle.drop 23).take 1) 47 [some (.ref (1)), some (.int (x1))] [.int (V 12 0), .ref (1)] = some (48, [some (.ref (1)), some (.int (x1))], [.ref (1), .int (V 12 0), .ref (1)]) from rfl) ?_
        refine AE.getR K gf_X11_53 rfl rfl (am_at eX11_settle 24 rfl) ?_
        refine AE.getI K gf_X11_448 rfl rfl (am_at eX11_settle 25 rfl) ?_
        refine AE.run K eX11_settle 26 1 (show am_run 2 ((tX11_settle.drop 26).take 1) 54 [some (.ref (1)), some (.int (x1))] [.int (V 12 1), .int (V 12 0), .ref (1)] = some (55, [some (.ref (1)), some (.int (x1))], [.int (-1), .int (V 12 1), .int (V 12 0), .ref (1)]) from rfl) ?_
        refine AE.cv (f' := 0) (c' := 0) (lo' := 0) (st := []) (As := [.int (V 12 0), .int (V 12 1), .int (-1)]) (m := d_X11_noteRejection (V 12 0) (V 12 1) (-1) V) K hex (fun q hq => kX11_noteRejection B hfl hq) cv_X11_382 rfl (T := TX11) (N := 16) rfl rfl rfl (Nat.le_of_ble_eq_true rfl) ⟨Nat.le_of_ble_eq_true rfl, Nat.le_of_ble_eq_true rfl⟩ (by omega) (am_at eX11_settle 27 rfl) h (rU_some h) (bkU (fun V2 h => ?_))
        exact AE.throwSW K hex th_X11_386_451 (am_at eX11_settle 28 rfl) (am_at eX11_settle 29 rfl) (am_at eX11_settle 30 rfl) (am_at eX11_settle 31 rfl) (am_at eX11_settle 32 rfl) (by decide) (Nat.le_of_ble_eq_true rfl) (by omega) h
    · exact AE.throwSW K hex th_X11_339_446 (am_at eX11_settle 11 rfl) (am_at eX11_settle 12 rfl) (am_at eX11_settle 13 rfl) (am_at eX11_settle 14 rfl) (am_at eX11_settle 15 rfl) (by decide) (Nat.le_of_ble_eq_true rfl) (by omega) h
  · exact AE.throwSW K hex th_X11_334_444 (am_at eX11_settle 3 rfl) (am_at eX11_settle 4 rfl) (am_at eX11_settle 5 rfl) (am_at eX11_settle 6 rfl) (am_at eX11_settle 7 rfl) (by decide) (Nat.le_of_ble_eq_true rfl) (by omega) h
def d_X11_put (x1 : Int32) (V : am_V) : am_R := rB (fun (V_29 : am_V) => some (.inl none, V_29)) (fun (j29 : am_V → am_R) => (if (nI 12) ≤ (V 1 10) then j29 V else rG (am_in (V 1 10) 12) (rG (am_nc x1) (rV (am_set V 17 (iN (V 1 10)) x1) (fun (V1 : am_V) => rV (am_set V1 1 10 ((V1 1 10) + (nI 1))) (fun (V2 : am_V) => j29 V2))))))
set_option maxRecDepth 100000 in
set_option maxHeartbeats 4000000 in
theorem kX11_put {U : am_U} {l : Launch} (B : am_base xx U) (hfl : l.stackTraces = false) {V : am_V} {x1 : Int32} {r : (Option Value ⊕ String) × am_V} (h : d_X11_put x1 V = some r) : am_Ct xx U l yX11_put cX11_put 2 none (rk 0 0 0) [.ref (1), .int (x1)] V (am_is r.1 r.2) := by
  refine am_Ct.of B hfl (by decide) (Nat.le_of_ble_eq_true rfl) ?_
  intro G hgl hgR hr ok h0 hex
  have K : aK U l G RX11 cX11_put 2 none 0 0 0 := ⟨hgl, hgR, hr, ok, h0⟩
  unfold d_X11_put at h
  show AE U G 2 0 0 0 r 0 V 0 [some (.ref (1)), some (.int (x1))] []
  refine AE.run K eX11_put 0 1 (show am_run 2 ((tX11_put.drop 0).take 1) 0 [some (.ref (1)), some (.int (x1))] [] = some (1, [some (.ref (1)), some (.int (x1))], [.ref (1)]) from rfl) ?_
  refine AE.getI K gf_X11_68 rfl rfl (am_at eX11_put 1 rfl) ?_
  refine AE.run K eX11_put 2 1 (show am_run 2 ((tX11_put.drop 2).take 1) 4 [some (.ref (1)), some (.int (x1))] [.int (V 1 10)] = some (6, [some (.ref (1)), some (.int (x1))], [.int (nI 12), .int (V 1 10)]) from rfl) ?_
  refine rB_of (P := fun (j : am_V → am_R) => ∀ (V_29 : am_V), j V_29 = some r → AE U G 2 0 0 0 r 0 V_29 29 [none, none] []) h (fun V_29 h => ?_) (fun j29 hj29 h => ?_)
  · exact AE.vret K (by omega) (am_at eX11_put 16 rfl) h
  refine AE.ic K 29 (am_at eX11_put 3 rfl) (by decide) rfl h (fun h => ?_) (fun h => ?_)
  · exact AE.sub (L' := [none, none]) trivial (hj29  V h)
  · refine AE.run K eX11_put 4 1 (show am_run 2 ((tX11_put.drop 4).take 1) 9 [some (.ref (1)), some (.int (x1))] [] = some (10, [some (.ref (1)), some (.int (x1))], [.ref (1)]) from rfl) ?_
    refine AE.getR K gf_X11_64 rfl rfl (am_at eX11_put 5 rfl) ?_
    refine AE.run K eX11_put 6 1 (show am_run 2 ((tX11_put.drop 6).take 1) 13 [some (.ref (1)), some (.int (x1))] [.ref (17)] = some (14, [some (.ref (1)), some (.int (x1))], [.ref (1), .ref (17)]) from rfl) ?_
    refine AE.getI K gf_X11_68 rfl rfl (am_at eX11_put 7 rfl) ?_
    refine AE.run K eX11_put 8 1 (show am_run 2 ((tX11_put.drop 8).take 1) 17 [some (.ref (1)), some (.int (x1))] [.int (V 1 10), .ref (17)] = some (18, [some (.ref (1)), some (.int (x1))], [.int (x1), .int (V 1 10), .ref (17)]) from rfl) ?_
    refine AE.cast K rfl rfl (am_at eX11_put 9 rfl) h (fun V1 h => ?_)
    refine AE.run K eX11_put 10 2 (show am_run 2 ((tX11_put.drop 10).take 2) 19 [some (.ref (1)), some (.int (x1))] [] = some (21, [some (.ref (1)), some (.int (x1))], [.ref (1), .ref (1)]) from rfl) ?_
    refine AE.getI K gf_X11_68 rfl rfl (am_at eX11_put 12 rfl) ?_
    refine AE.run K eX11_put 13 2 (show am_run 2 ((tX11_put.drop 13).take 2) 24 [some (.ref (1)), some (.int (x1))] [.int (V1 1 10), .ref (1)] = some (26, [some (.ref (1)), some (.int (x1))], [.int ((V1 1 10) + (nI 1)), .ref (1)]) from rfl) ?_
    refine AE.putI K pf_X11_68 rfl rfl rfl (am_at eX11_put 15 rfl) h (fun V2 h => ?_)
    exact AE.sub (L' := [none, none]) trivial (hj29  V2 h)
def bd_X11_treeCostsAgree_2 (kx kr : Int32 → am_V → am_R) (a1_2 : Int32) (V_2 : am_V) : am_R := (if (V_2 (sS 0 + 1) 6) ≤ a1_2 then kx a1_2 V_2 else rI (d_X7_costInOrder 20 0 a1_2 V_2) (fun (y2 : Int32) (V1 : am_V) => rI (d_X7_costGrown 20 0 a1_2 V1) (fun (y4 : Int32) (V3 : am_V) => (if y2 = y4 then kr (a1_2 + nI 1) V3 else rG (am_nb (nI 0)) (some (.inl (some (.int (nI 0))), V3))))))
def lp_X11_treeCostsAgree_2 (kx : Int32 → am_V → am_R) : Nat → Int32 → am_V → am_R
  | 0, _, _ => none
  | f9 + 1, a1_2, V_2 => bd_X11_treeCostsAgree_2 kx (lp_X11_treeCostsAgree_2 kx f9) a1_2 V_2
def d_X11_treeCostsAgree (V : am_V) : am_R := lp_X11_treeCostsAgree_2  (fun (a1_2 : Int32) (V_2x : am_V) => rG (am_nb (nI 1)) (some (.inl (some (.int (nI 1))), V_2x))) 1000 (nI 0) V
set_option maxRecDepth 100000 in
set_option maxHeartbeats 4000000 in
theorem bk_X11_treeCostsAgree_2 {U : am_U} {l : Launch} (B : am_base xx U) (hfl : l.stackTraces = false) {G : am_G} (K : aK U l G RX11 cX11_treeCostsAgree 2 (some .boolean) 4 0 96) (hex : am_nx G) {r : (Option Value ⊕ String) × am_V} {kc : Nat} (hkc : kc ≤ 0) {kx kr : Int32 → am_V → am_R} (hx : ∀ (a1_2 : Int32) (Vq : am_V), kx a1_2 Vq = some r → AE U G 2 4 0 96 r kc Vq 57 [none, none] []) (hr : ∀ (a1_2 : Int32) (Vq : am_V), kr a1_2 Vq = some r → AE U G 2 4 0 96 r kc Vq 2 [some (.ref (1)), some (.int (a1_2))] []) (a1_2 : Int32) (V_2 : am_V) (h : bd_X11_treeCostsAgree_2  kx kr a1_2 V_2 = some r) : AE U G 2 4 0 96 r kc V_2 2 [some (.ref (1)), some (.int (a1_2))] [] := by
  unfold bd_X11_treeCostsAgree_2 at h
  refine AE.run K eX11_treeCostsAgree 2 2 (show am_run 2 ((tX11_treeCostsAgree.drop 2).take 2) 2 [some (.ref (1)), some (.int (a1_2))] [] = some (4, [some (.ref (1)), some (.int (a1_2))], [.ref (1), .int (a1_2)]) from rfl) ?_
  refine AE.getR K gf_X11_10 rfl rfl (am_at eX11_treeCostsAgree 4 rfl) ?_
  refine AE.getR K gf_X11_115 (sh_S0 (by decide)) rfl (am_at eX11_treeCostsAgree 5 rfl) ?_
  refine AE.getI K gf_X11_119 (sh_S1 (by decide)) rfl (am_at eX11_treeCostsAgree 6 rfl) ?_
  refine AE.ic K 57 (am_at eX11_treeCostsAgree 7 rfl) (by decide) rfl h (fun h => ?_) (fun h => ?_)
  · exact AE.sub (L' := [none, none]) trivial (hx a1_2 V_2 h)
  · refine AE.run K eX11_treeCostsAgree 8 1 (show am_run 2 ((tX11_treeCostsAgree.drop 8).take 1) 16 [some (.ref (1)), some (.int (a1_2))] [] = some (17, [some (.ref (1)), some (.int (a1_2))], [.ref (1)]) from rfl) ?_
    refine AE.getR K gf_X11_39 rfl rfl (am_at eX11_treeCostsAgree 9 rfl) ?_
    refine AE.run K eX11_treeCostsAgree 10 1 (show am_run 2 ((tX11_treeCostsAgree.drop 10).take 1) 20 [some (.ref (1)), some (.int (a1_2))] [.ref (20)] = some (21, [some (.ref (1)), some (.int (a1_2))], [.ref (1), .ref (20)]) from rfl) ?_
    refine AE.getR K gf_X11_10 rfl rfl (am_at eX11_treeCostsAgree 11 rfl) ?_
    refine AE.getR K gf_X11_115 (sh_S0 (by decide)) rfl (am_at eX11_treeCostsAgree 12 rfl) ?_
    refine AE.run K eX11_treeCostsAgree 13 1 (show am_run 2 ((tX11_treeCostsAgree.drop 13).take 1) 27 [some (.ref (1)), some (.int (a1_2))] [.ref (sS 0 + 1), .ref (20)] = some (28, [some (.ref (1)), some (.int (a1_2))], [.int (a1_2), .ref (sS 0 + 1), .ref (20)]) from rfl) ?_
    refine AE.cv (f' := 3) (c' := 0) (lo' := 71) (st := []) (As := [.ref (sS 0 + 1), .int (a1_2)]) (m := d_X7_costInOrder 20 0 a1_2 V_2) K hex (fun q hq => kX7_costInOrder B hfl (t := 20) (i := 0) (by decide) (by decide) hq) cv_X11_196 (sh_T0 (by decide)) (T := TX7) (N := 5) rfl rfl rfl (Nat.le_of_ble_eq_true rfl) ⟨Nat.le_of_ble_eq_true rfl, Nat.le_of_ble_eq_true rfl⟩ (by omega) (am_at eX11_treeCostsAgree 14 rfl) h (rI_some h) (bkI (fun y2 V1 h => ?_))
    refine AE.run K eX11_treeCostsAgree 15 1 (show am_run 2 ((tX11_treeCostsAgree.drop 15).take 1) 31 [some (.ref (1)), some (.int (a1_2))] [.int (y2)] = some (32, [some (.ref (1)), some (.int (a1_2))], [.ref (1), .int (y2)]) from rfl) ?_
    refine AE.getR K gf_X11_39 rfl rfl (am_at eX11_treeCostsAgree 16 rfl) ?_
    refine AE.run K eX11_treeCostsAgree 17 1 (show am_run 2 ((tX11_treeCostsAgree.drop 17).take 1) 35 [some (.ref (1)), some (.int (a1_2))] [.ref (20), .int (y2)] = some (36, [some (.ref (1)), some (.int (a1_2))], [.ref (1), .ref (20), .int (y2)]) from rfl) ?_
    refine AE.getR K gf_X11_10 rfl rfl (am_at eX11_treeCostsAgree 18 rfl) ?_
    refine AE.getR K gf_X11_115 (sh_S0 (by decide)) rfl (am_at eX11_treeCostsAgree 19 rfl) ?_
    refine AE.run K eX11_treeCostsAgree 20 1 (show am_run 2 ((tX11_treeCostsAgree.drop 20).take 1) 42 [some (.ref (1)), some (.int (a1_2))] [.ref (sS 0 + 1), .ref (20), .int (y2)] = some (43, [some (.ref (1)), some (.int (a1_2))], [.int (a1_2), .ref (sS 0 + 1), .ref (20), .int (y2)]) from rfl) ?_
    refine AE.cv (f' := 3) (c' := 0) (lo' := 71) (st := [.int (y2)]) (As := [.ref (sS 0 + 1), .int (a1_2)]) (m := d_X7_costGrown 20 0 a1_2 V1) K hex (fun q hq => kX7_costGrown B hfl (t := 20) (i := 0) (by decide) (by decide) hq) cv_X11_199 (sh_T0 (by decide)) (T := TX7) (N := 5) rfl rfl rfl (Nat.le_of_ble_eq_true rfl) ⟨Nat.le_of_ble_eq_true rfl, Nat.le_of_ble_eq_true rfl⟩ (by omega) (am_at eX11_treeCostsAgree 21 rfl) h (rI_some h) (bkI (fun y4 V3 h => ?_))
    refine AE.ic K 51 (am_at eX11_treeCostsAgree 22 rfl) (by decide) rfl h (fun h => ?_) (fun h => ?_)
    · refine AE.run K eX11_treeCostsAgree 25 2 (show am_run 2 ((tX11_treeCostsAgree.drop 25).take 2) 51 [some (.ref (1)), some (.int (a1_2))] [] = some (2, [some (.ref (1)), some (.int (a1_2 + nI 1))], []) from rfl) ?_
      exact AE.sub (L' := [some (.ref (1)), some (.int (a1_2 + nI 1))]) (And.intro rfl (And.intro rfl trivial)) (hr (a1_2 + nI 1) V3 h)
    · refine AE.run K eX11_treeCostsAgree 23 1 (show am_run 2 ((tX11_treeCostsAgree.drop 23).take 1) 49 [some (.ref (1)), some (.int (a1_2))] [] = some (50, [some (.ref (1)), some (.int (a1_2))], [.int (nI 0)]) from rfl) ?_
      exact AE.zret K (by omega) (am_at eX11_treeCostsAgree 24 rfl) h
theorem lk_X11_treeCostsAgree_2 {U : am_U} {l : Launch} (B : am_base xx U) (hfl : l.stackTraces = false) {G : am_G} (K : aK U l G RX11 cX11_treeCostsAgree 2 (some .boolean) 4 0 96) (hex : am_nx G) {r : (Option Value ⊕ String) × am_V} {kc : Nat} (hkc : kc ≤ 0) {kx : Int32 → am_V → am_R} (hx : ∀ (a1_2 : Int32) (Vq : am_V), kx a1_2 Vq = some r → AE U G 2 4 0 96 r kc Vq 57 [none, none] []) : ∀ (f9 : Nat) (a1_2 : Int32) (Vq : am_V), lp_X11_treeCostsAgree_2  kx f9 a1_2 Vq = some r → AE U G 2 4 0 96 r kc Vq 2 [some (.ref (1)), some (.int (a1_2))] [] := by
  intro f9
  induction f9 with
  | zero =>
    intro a1_2 Vq h
    cases h
  | succ f9 ih =>
    intro a1_2 Vq h
    exact bk_X11_treeCostsAgree_2 B hfl K hex  hkc hx ih a1_2 Vq h
set_option maxRecDepth 100000 in
set_option maxHeartbeats 4000000 in
theorem kX11_treeCostsAgree {U : am_U} {l : Launch} (B : am_base xx U) (hfl : l.stackTraces = false) {V : am_V} {r : (Option Value ⊕ String) × am_V} (h : d_X11_treeCostsAgree V = some r) : am_Ct xx U l yX11_treeCostsAgree cX11_treeCostsAgree 2 (some .boolean) (rk 4 0 96) [.ref (1)] V (am_is r.1 r.2) := by
  refine am_Ct.of B hfl (by decide) (Nat.le_of_ble_eq_true rfl) ?_
  intro G hgl hgR hr ok h0 hex
  have K : aK U l G RX11 cX11_treeCostsAgree 2 (some .boolean) 4 0 96 := ⟨hgl, hgR, hr, ok, h0⟩
  unfold d_X11_treeCostsAgree at h
  show AE U G 2 4 0 96 r 0 V 0 [some (.ref (1)), none] []
  refine AE.run K eX11_treeCostsAgree 0 2 (show am_run 2 ((tX11_treeCostsAgree.drop 0).take 2) 0 [some (.ref (1)), none] [] = some (2, [some (.ref (1)), some (.int (nI 0))], []) from rfl) ?_
  refine AE.sub (L' := [some (.ref (1)), some (.int (nI 0))]) (And.intro rfl (And.intro rfl trivial)) ?_
  refine lk_X11_treeCostsAgree_2 B hfl K hex  (by omega) ?_ 1000 (nI 0) V h
  intro a1_2 V_2x h
  refine AE.run K eX11_treeCostsAgree 27 1 (show am_run 2 ((tX11_treeCostsAgree.drop 27).take 1) 57 [none, none] [] = some (58, [none, none], [.int (nI 1)]) from rfl) ?_
  exact AE.zret K (by omega) (am_at eX11_treeCostsAgree 28 rfl) h
def bd_X11_waysAgreeWithCuts_20 (a1_2 : Int32) (kx kr : Int32 → am_V → am_R) (a2_20 : Int32) (V_20 : am_V) : am_R := (if (V_20 (sS 0 + 1) 6) ≤ a2_20 then kx a2_20 V_20 else rI (d_X9_mostDisjoint 0 a1_2 a2_20 V_20) (fun (y2 : Int32) (V1 : am_V) => rI (d_X9_fewestLeaving 0 a1_2 a2_20 V1) (fun (y4 : Int32) (V3 : am_V) => (if y2 = y4 then kr (a2_20 + nI 1) V3 else rG (am_nb (nI 0)) (some (.inl (some (.int (nI 0))), V3))))))
def lp_X11_waysAgreeWithCuts_20 (a1_2 : Int32) (kx : Int32 → am_V → am_R) : Nat → Int32 → am_V → am_R
  | 0, _, _ => none
  | f9 + 1, a2_20, V_20 => bd_X11_waysAgreeWithCuts_20 a1_2 kx (lp_X11_waysAgreeWithCuts_20 a1_2 kx f9) a2_20 V_20
def bd_X11_waysAgreeWithCuts_2 (kx kr : Int32 → am_V → am_R) (a1_2 : Int32) (V_2 : am_V) : am_R := (if (V_2 (sS 0 + 1) 6) ≤ a1_2 then kx a1_2 V_2 else lp_X11_waysAgreeWithCuts_20 a1_2 (fun (a2_20 : Int32) (V_20x : am_V) => kr (a1_2 + nI 1) V_20x) 1000 (a1_2 + (nI 1)) V_2)
def lp_X11_waysAgreeWithCuts_2 (kx : Int32 → am_V → am_R) : Nat → Int32 → am_V → am_R
  | 0, _, _ => none
  | f9 + 1, a1_2, V_2 => bd_X11_waysAgreeWithCuts_2 kx (lp_X11_waysAgreeWithCuts_2 kx f9) a1_2 V_2
def d_X11_waysAgreeWithCuts (V : am_V) : am_R := lp_X11_waysAgreeWithCuts_2  (fun (a1_2 : Int32) (V_2x : am_V) => rG (am_nb (nI 1)) (some (.inl (some (.int (nI 1))), V_2x))) 1000 (nI 0) V
set_option maxRecDepth 100000 in
set_option maxHeartbeats 4000000 in
theorem bk_X11_waysAgreeWithCuts_20 {U : am_U} {l : Launch} (B : am_base xx U) (hfl : l.stackTraces = false) {G : am_G} (K : aK U l G RX11 cX11_waysAgreeWithCuts 3 (some .boolean) 4 0 99) (hex : am_nx G) {r : (Option Value ⊕ String) × am_V} {a1_2 : Int32} {kc : Nat} (hkc : kc ≤ 0) {kx kr : Int32 → am_V → am_R} (hx : ∀ (a2_20 : Int32) (Vq : am_V), kx a2_20 Vq = some r → AE U G 3 4 0 99 r kc Vq 77 [some (.ref (1)), some (.int (a1_2)), none] []) (hr : ∀ (a2_20 : Int32) (Vq : am_V), kr a2_20 Vq = some r → AE U G 3 4 0 99 r kc Vq 20 [some (.ref (1)), some (.int (a1_2)), some (.int (a2_20))] []) (a2_20 : Int32) (V_20 : am_V) (h : bd_X11_waysAgreeWithCuts_20 a1_2 kx kr a2_20 V_20 = some r) : AE U G 3 4 0 99 r kc V_20 20 [some (.ref (1)), some (.int (a1_2)), some (.int (a2_20))] [] := by
  unfold bd_X11_waysAgreeWithCuts_20 at h
  refine AE.run K eX11_waysAgreeWithCuts 12 2 (show am_run 3 ((tX11_waysAgreeWithCuts.drop 12).take 2) 20 [some (.ref (1)), some (.int (a1_2)), some (.int (a2_20))] [] = some (22, [some (.ref (1)), some (.int (a1_2)), some (.int (a2_20))], [.ref (1), .int (a2_20)]) from rfl) ?_
  refine AE.getR K gf_X11_10 rfl rfl (am_at eX11_waysAgreeWithCuts 14 rfl) ?_
  refine AE.getR K gf_X11_115 (sh_S0 (by decide)) rfl (am_at eX11_waysAgreeWithCuts 15 rfl) ?_
  refine AE.getI K gf_X11_119 (sh_S1 (by decide)) rfl (am_at eX11_waysAgreeWithCuts 16 rfl) ?_
  refine AE.ic K 77 (am_at eX11_waysAgreeWithCuts 17 rfl) (by decide) rfl h (fun h => ?_) (fun h => ?_)
  · exact AE.sub (L' := [some (.ref (1)), some (.int (a1_2)), none]) (And.intro rfl (And.intro rfl trivial)) (hx a2_20 V_20 h)
  · refine AE.run K eX11_waysAgreeWithCuts 18 1 (show am_run 3 ((tX11_waysAgreeWithCuts.drop 18).take 1) 34 [some (.ref (1)), some (.int (a1_2)), some (.int (a2_20))] [] = some (35, [some (.ref (1)), some (.int (a1_2)), some (.int (a2_20))], [.ref (1)]) from rfl) ?_
    refine AE.getR K gf_X11_32 rfl rfl (am_at eX11_waysAgreeWithCuts 19 rfl) ?_
    refine AE.run K eX11_waysAgreeWithCuts 20 1 (show am_run 3 ((tX11_waysAgreeWithCuts.drop 20).take 1) 38 [some (.ref (1)), some (.int (a1_2)), some (.int (a2_20))] [.ref (4)] = some (39, [some (.ref (1)), some (.int (a1_2)), some (.int (a2_20))], [.ref (1), .ref (4)]) from rfl) ?_
    refine AE.getR K gf_X11_10 rfl rfl (am_at eX11_waysAgreeWithCuts 21 rfl) ?_
    refine AE.getR K gf_X11_115 (sh_S0 (by decide)) rfl (am_at eX11_waysAgreeWithCuts 22 rfl) ?_
    refine AE.run K eX11_waysAgreeWithCuts 23 2 (show am_run 3 ((tX11_waysAgreeWithCuts.drop 23).take 2) 45 [some (.ref (1)), some (.int (a1_2)), some (.int (a2_20))] [.ref (sS 0 + 1), .ref (4)] = some (47, [some (.ref (1)), some (.int (a1_2)), some (.int (a2_20))], [.int (a2_20), .int (a1_2), .ref (sS 0 + 1), .ref (4)]) from rfl) ?_
    refine AE.cv (f' := 3) (c' := 0) (lo' := 75) (st := []) (As := [.ref (sS 0 + 1), .int (a1_2), .int (a2_20)]) (m := d_X9_mostDisjoint 0 a1_2 a2_20 V_20) K hex (fun q hq => kX9_mostDisjoint B hfl (i := 0) (by decide) hq) cv_X11_179 rfl (T := TX9) (N := 7) rfl rfl rfl (Nat.le_of_ble_eq_true rfl) ⟨Nat.le_of_ble_eq_true rfl, Nat.le_of_ble_eq_true rfl⟩ (by omega) (am_at eX11_waysAgreeWithCuts 25 rfl) h (rI_some h) (bkI (fun y2 V1 h => ?_))
    refine AE.run K eX11_waysAgreeWithCuts 26 1 (show am_run 3 ((tX11_waysAgreeWithCuts.drop 26).take 1) 50 [some (.ref (1)), some (.int (a1_2)), some (.int (a2_20))] [.int (y2)] = some (51, [some (.ref (1)), some (.int (a1_2)), some (.int (a2_20))], [.ref (1), .int (y2)]) from rfl) ?_
    refine AE.getR K gf_X11_32 rfl rfl (am_at eX11_waysAgreeWithCuts 27 rfl) ?_
    refine AE.run K eX11_waysAgreeWithCuts 28 1 (show am_run 3 ((tX11_waysAgreeWithCuts.drop 28).take 1) 54 [some (.ref (1)), some (.int (a1_2)), some (.int (a2_20))] [.ref (4), .int (y2)] = some (55, [some (.ref (1)), some (.int (a1_2)), some (.int (a2_20))], [.ref (1), .ref (4), .int (y2)]) from rfl) ?_
    refine AE.getR K gf_X11_10 rfl rfl (am_at eX11_waysAgreeWithCuts 29 rfl) ?_
    refine AE.getR K gf_X11_115 (sh_S0 (by decide)) rfl (am_at eX11_waysAgreeWithCuts 30 rfl) ?_
    refine AE.run K eX11_waysAgreeWithCuts 31 2 (show am_run 3 ((tX11_waysAgreeWithCuts.drop 31).take 2) 61 [some (.ref (1)), some (.int (a1_2)), some (.int (a2_20))] [.ref (sS 0 + 1), .ref (4), .int (y2)] = some (63, [some (.ref (1)), some (.int (a1_2)), some (.int (a2_20))], [.int (a2_20), .int (a1_2), .ref (sS 0 + 1), .ref (4), .int (y2)]) from rfl) ?_
    refine AE.cv (f' := 2) (c' := 0) (lo' := 60) (st := [.int (y2)]) (As := [.ref (sS 0 + 1), .int (a1_2), .int (a2_20)]) (m := d_X9_fewestLeaving 0 a1_2 a2_20 V1) K hex (fun q hq => kX9_fewestLeaving B hfl (i := 0) (by decide) hq) cv_X11_182 rfl (T := TX9) (N := 7) rfl rfl rfl (Nat.le_of_ble_eq_true rfl) ⟨Nat.le_of_ble_eq_true rfl, Nat.le_of_ble_eq_true rfl⟩ (by omega) (am_at eX11_waysAgreeWithCuts 33 rfl) h (rI_some h) (bkI (fun y4 V3 h => ?_))
    refine AE.ic K 71 (am_at eX11_waysAgreeWithCuts 34 rfl) (by decide) rfl h (fun h => ?_) (fun h => ?_)
    · refine AE.run K eX11_waysAgreeWithCuts 37 2 (show am_run 3 ((tX11_waysAgreeWithCuts.drop 37).take 2) 71 [some (.ref (1)), some (.int (a1_2)), some (.int (a2_20))] [] = some (20, [some (.ref (1)), some (.int (a1_2)), some (.int (a2_20 + nI 1))], []) from rfl) ?_
      exact AE.sub (L' := [some (.ref (1)), some (.int (a1_2)), some (.int (a2_20 + nI 1))]) (And.intro rfl (And.intro rfl (And.intro rfl trivial))) (hr (a2_20 + nI 1) V3 h)
    · refine AE.run K eX11_waysAgreeWithCuts 35 1 (show am_run 3 ((tX11_waysAgreeWithCuts.drop 35).take 1) 69 [some (.ref (1)), some (.int (a1_2)), some (.int (a2_20))] [] = some (70, [some (.ref (1)), some (.int (a1_2)), some (.int (a2_20))], [.int (nI 0)]) from rfl) ?_
      exact AE.zret K (by omega) (am_at eX11_waysAgreeWithCuts 36 rfl) h
theorem lk_X11_waysAgreeWithCuts_20 {U : am_U} {l : Launch} (B : am_base xx U) (hfl : l.stackTraces = false) {G : am_G} (K : aK U l G RX11 cX11_waysAgreeWithCuts 3 (some .boolean) 4 0 99) (hex : am_nx G) {r : (Option Value ⊕ String) × am_V} {a1_2 : Int32} {kc : Nat} (hkc : kc ≤ 0) {kx : Int32 → am_V → am_R} (hx : ∀ (a2_20 : Int32) (Vq : am_V), kx a2_20 Vq = some r → AE U G 3 4 0 99 r kc Vq 77 [some (.ref (1)), some (.int (a1_2)), none] []) : ∀ (f9 : Nat) (a2_20 : Int32) (Vq : am_V), lp_X11_waysAgreeWithCuts_20 a1_2 kx f9 a2_20 Vq = some r → AE U G 3 4 0 99 r kc Vq 20 [some (.ref (1)), some (.int (a1_2)), some (.int (a2_20))] [] := by
  intro f9
  induction f9 with
  | zero =>
    intro a2_20 Vq h
    cases h
  | succ f9 ih =>
    intro a2_20 Vq h
    exact bk_X11_waysAgreeWithCuts_20 B hfl K hex  hkc hx ih a2_20 Vq h
set_option maxRecDepth 100000 in
set_option maxHeartbeats 4000000 in
theorem bk_X11_waysAgreeWithCuts_2 {U : am_U} {l : Launch} (B : am_base xx U) (hfl : l.stackTraces = false) {G : am_G} (K : aK U l G RX11 cX11_waysAgreeWithCuts 3 (some .boolean) 4 0 99) (hex : am_nx G) {r : (Option Value ⊕ String) × am_V} {kc : Nat} (hkc : kc ≤ 0) {kx kr : Int32 → am_V → am_R} (hx : ∀ (a1_2 : Int32) (Vq : am_V), kx a1_2 Vq = some r → AE U G 3 4 0 99 r kc Vq 83 [none, none, none] []) (hr : ∀ (a1_2 : Int32) (Vq : am_V), kr a1_2 Vq = some r → AE U G 3 4 0 99 r kc Vq 2 [some (.ref (1)), some (.int (a1_2)), none] []) (a1_2 : Int32) (V_2 : am_V) (h : bd_X11_waysAgreeWithCuts_2  kx kr a1_2 V_2 = some r) : AE U G 3 4 0 99 r kc V_2 2 [some (.ref (1)), some (.int (a1_2)), none] [] := by
  unfold bd_X11_waysAgreeWithCuts_2 at h
  refine AE.run K eX11_waysAgreeWithCuts 2 2 (show am_run 3 ((tX11_waysAgreeWithCuts.drop 2).take 2) 2 [some (.ref (1)), some (.int (a1_2)), none] [] = some (4, [some (.ref (1)), some (.int (a1_2)), none], [.ref (1), .int (a1_2)]) from rfl) ?_
  refine AE.getR K gf_X11_10 rfl rfl (am_at eX11_waysAgreeWithCuts 4 rfl) ?_
  refine AE.getR K gf_X11_115 (sh_S0 (by decide)) rfl (am_at eX11_waysAgreeWithCuts 5 rfl) ?_
  refine AE.getI K gf_X11_119 (sh_S1 (by decide)) rfl (am_at eX11_waysAgreeWithCuts 6 rfl) ?_
  refine AE.ic K 83 (am_at eX11_waysAgreeWithCuts 7 rfl) (by decide) rfl h (fun h => ?_) (fun h => ?_)
  · exact AE.sub (L' := [none, none, none]) trivial (hx a1_2 V_2 h)
  · refine AE.run K eX11_waysAgreeWithCuts 8 4 (show am_run 3 ((tX11_waysAgreeWithCuts.drop 8).take 4) 16 [some (.ref (1)), some (.int (a1_2)), none] [] = some (20, [some (.ref (1)), some (.int (a1_2)), some (.int (a1_2 + (nI 1)))], []) from rfl) ?_
    refine AE.sub (L' := [some (.ref (1)), some (.int (a1_2)), some (.int (a1_2 + (nI 1)))]) (And.intro rfl (And.intro rfl (And.intro rfl trivial))) ?_
    refine lk_X11_waysAgreeWithCuts_20 B hfl K hex  (by omega) ?_ 1000 (a1_2 + (nI 1)) V_2 h
    intro a2_20 V_20x h
    refine AE.run K eX11_waysAgreeWithCuts 39 2 (show am_run 3 ((tX11_waysAgreeWithCuts.drop 39).take 2) 77 [some (.ref (1)), some (.int (a1_2)), none] [] = some (2, [some (.ref (1)), some (.int (a1_2 + nI 1)), none], []) from rfl) ?_
    exact AE.sub (L' := [some (.ref (1)), some (.int (a1_2 + nI 1)), none]) (And.intro rfl (And.intro rfl trivial)) (hr (a1_2 + nI 1) V_20x h)
theorem lk_X11_waysAgreeWithCuts_2 {U : am_U} {l : Launch} (B : am_base xx U) (hfl : l.stackTraces = false) {G : am_G} (K : aK U l G RX11 cX11_waysAgreeWithCuts 3 (some .boolean) 4 0 99) (hex : am_nx G) {r : (Option Value ⊕ String) × am_V} {kc : Nat} (hkc : kc ≤ 0) {kx : Int32 → am_V → am_R} (hx : ∀ (a1_2 : Int32) (Vq : am_V), kx a1_2 Vq = some r → AE U G 3 4 0 99 r kc Vq 83 [none, none, none] []) : ∀ (f9 : Nat) (a1_2 : Int32) (Vq : am_V), lp_X11_waysAgreeWithCuts_2  kx f9 a1_2 Vq = some r → AE U G 3 4 0 99 r kc Vq 2 [some (.ref (1)), some (.int (a1_2)), none] [] := by
  intro f9
  induction f9 with
  | zero =>
    intro a1_2 Vq h
    cases h
  | succ f9 ih =>
    intro a1_2 Vq h
    exact bk_X11_waysAgreeWithCuts_2 B hfl K hex  hkc hx ih a1_2 Vq h
set_option maxRecDepth 100000 in
set_option maxHeartbeats 4000000 in
theorem kX11_waysAgreeWithCuts {U : am_U} {l : Launch} (B : am_base xx U) (hfl : l.stackTraces = false) {V : am_V} {r : (Option Value ⊕ String) × am_V} (h : d_X11_waysAgreeWithCuts V = some r) : am_Ct xx U l yX11_waysAgreeWithCuts cX11_waysAgreeWithCuts 3 (some .boolean) (rk 4 0 99) [.ref (1)] V (am_is r.1 r.2) := by
  refine am_Ct.of B hfl (by decide) (Nat.le_of_ble_eq_true rfl) ?_
  intro G hgl hgR hr ok h0 hex
  have K : aK U l G RX11 cX11_waysAgreeWithCuts 3 (some .boolean) 4 0 99 := ⟨hgl, hgR, hr, ok, h0⟩
  unfold d_X11_waysAgreeWithCuts at h
  show AE U G 3 4 0 99 r 0 V 0 [some (.ref (1)), none, none] []
  refine AE.run K eX11_waysAgreeWithCuts 0 2 (show am_run 3 ((tX11_waysAgreeWithCuts.drop 0).take 2) 0 [some (.ref (1)), none, none] [] = some (2, [some (.ref (1)), some (.int (nI 0)), none], []) from rfl) ?_
  refine AE.sub (L' := [some (.ref (1)), some (.int (nI 0)), none]) (And.intro rfl (And.intro rfl trivial)) ?_
  refine lk_X11_waysAgreeWithCuts_2 B hfl K hex  (by omega) ?_ 1000 (nI 0) V h
  intro a1_2 V_2x h
  refine AE.run K eX11_waysAgreeWithCuts 41 1 (show am_run 3 ((tX11_waysAgreeWithCuts.drop 41).take 1) 83 [none, none, none] [] = some (84, [none, none, none], [.int (nI 1)]) from rfl) ?_
  exact AE.zret K (by omega) (am_at eX11_waysAgreeWithCuts 42 rfl) h
def d_X11_addField (x1 : Int32) (V : am_V) : am_R := rU (d_X4_note 0 V) (fun (V1 : am_V) => rI (d_X2_appendField 0 x1 V1) (fun (y3 : Int32) (V2 : am_V) => rI (d_X11_settle y3 V2) (fun (y5 : Int32) (V4 : am_V) => some (.inl (some (.int (y5))), V4))))
set_option maxRecDepth 100000 in
set_option maxHeartbeats 4000000 in
theorem kX11_addField {U : am_U} {l : Launch} (B : am_base xx U) (hfl : l.stackTraces = false) {V : am_V} {x1 : Int32} {r : (Option Value ⊕ String) × am_V} (h : d_X11_addField x1 V = some r) : am_Ct xx U l yX11_addField cX11_addField 2 (some .int) (rk 8 1 221) [.ref (1), .int (x1)] V (am_is r.1 r.2) := by
  refine am_Ct.of B hfl (by decide) (Nat.le_of_ble_eq_true rfl) ?_
  intro G hgl hgR hr ok h0 hex
  have K : aK U l G RX11 cX11_addField 2 (some .int) 8 1 221 := ⟨hgl, hgR, hr, ok, h0⟩
  unfold d_X11_addField at h
  show AE U G 2 8 1 221 r 0 V 0 [some (.ref (1)), some (.int (x1))] []
  refine AE.run K eX11_addField 0 1 (show am_run 2 ((tX11_addField.drop 0).take 1) 0 [some (.ref (1)), some (.int (x1))] [] = some (1, [some (.ref (1)), some (.int (x1))], [.ref (1)]) from rfl) ?_
  refine AE.getR K gf_X11_25 rfl rfl (am_at eX11_addField 1 rfl) ?_
  refine AE.run K eX11_addField 2 1 (show am_run 2 ((tX11_addField.drop 2).take 1) 4 [some (.ref (1)), some (.int (x1))] [.ref (2)] = some (5, [some (.ref (1)), some (.int (x1))], [.ref (1), .ref (2)]) from rfl) ?_
  refine AE.getR K gf_X11_10 rfl rfl (am_at eX11_addField 3 rfl) ?_
  refine AE.cv (f' := 4) (c' := 0) (lo' := 102) (st := []) (As := [.ref (sS 0)]) (m := d_X4_note 0 V) K hex (fun q hq => kX4_note B hfl (i := 0) (by decide) hq) cv_X11_88 rfl (T := TX4) (N := 3) rfl rfl rfl (Nat.le_of_ble_eq_true rfl) ⟨Nat.le_of_ble_eq_true rfl, Nat.le_of_ble_eq_true rfl⟩ (by omega) (am_at eX11_addField 4 rfl) h (rU_some h) (bkU (fun V1 h => ?_))
  refine AE.run K eX11_addField 5 2 (show am_run 2 ((tX11_addField.drop 5).take 2) 11 [some (.ref (1)), some (.int (x1))] [] = some (13, [some (.ref (1)), some (.int (x1))], [.ref (1), .ref (1)]) from rfl) ?_
  refine AE.getR K gf_X11_53 rfl rfl (am_at eX11_addField 7 rfl) ?_
  refine AE.run K eX11_addField 8 1 (show am_run 2 ((tX11_addField.drop 8).take 1) 16 [some (.ref (1)), some (.int (x1))] [.ref (12), .ref (1)] = some (17, [some (.ref (1)), some (.int (x1))], [.ref (1), .ref (12), .ref (1)]) from rfl) ?_
  refine AE.getR K gf_X11_10 rfl rfl (am_at eX11_addField 9 rfl) ?_
  refine AE.run K eX11_addField 10 1 (show am_run 2 ((tX11_addField.drop 10).take 1) 20 [some (.ref (1)), some (.int (x1))] [.ref (sS 0), .ref (12), .ref (1)] = some (21, [some (.ref (1)), some (.int (x1))], [.int (x1), .ref (sS 0), .ref (12), .ref (1)]) from rfl) ?_
  refine AE.cv (f' := 1) (c' := 0) (lo' := 22) (st := [.ref (1)]) (As := [.ref (sS 0), .int (x1)]) (m := d_X2_appendField 0 x1 V1) K hex (fun q hq => kX2_appendField B hfl (i := 0) (by decide) hq) cv_X11_92 rfl (T := TX2) (N := 2) rfl rfl rfl (Nat.le_of_ble_eq_true rfl) ⟨Nat.le_of_ble_eq_true rfl, Nat.le_of_ble_eq_true rfl⟩ (by omega) (am_at eX11_addField 11 rfl) h (rI_some h) (bkI (fun y3 V2 h => ?_))
  refine AE.cv (f' := 7) (c' := 1) (lo' := 200) (st := []) (As := [.int (y3)]) (m := d_X11_settle y3 V2) K hex (fun q hq => kX11_settle B hfl hq) cv_X11_96 rfl (T := TX11) (N := 16) rfl rfl rfl (Nat.le_of_ble_eq_true rfl) ⟨Nat.le_of_ble_eq_true rfl, Nat.le_of_ble_eq_true rfl⟩ (by omega) (am_at eX11_addField 12 rfl) h (rI_some h) (bkI (fun y5 V4 h => ?_))
  exact AE.iret K (by omega) (am_at eX11_addField 13 rfl) h
def d_X11_setShield (x1 : Int32) (x2 : Int32) (V : am_V) : am_R := rU (d_X4_note 0 V) (fun (V1 : am_V) => rI (d_X2_replaceShield 0 x1 x2 V1) (fun (y3 : Int32) (V2 : am_V) => rI (d_X11_settle y3 V2) (fun (y5 : Int32) (V4 : am_V) => some (.inl (some (.int (y5))), V4))))
set_option maxRecDepth 100000 in
set_option maxHeartbeats 4000000 in
theorem kX11_setShield {U : am_U} {l : Launch} (B : am_base xx U) (hfl : l.stackTraces = false) {V : am_V} {x1 : Int32} {x2 : Int32} {r : (Option Value ⊕ String) × am_V} (h : d_X11_setShield x1 x2 V = some r) : am_Ct xx U l yX11_setShield cX11_setShield 3 (some .int) (rk 8 1 221) [.ref (1), .int (x1), .int (x2)] V (am_is r.1 r.2) := by
  refine am_Ct.of B hfl (by decide) (Nat.le_of_ble_eq_true rfl) ?_
  intro G hgl hgR hr ok h0 hex
  have K : aK U l G RX11 cX11_setShield 3 (some .int) 8 1 221 := ⟨hgl, hgR, hr, ok, h0⟩
  unfold d_X11_setShield at h
  show AE U G 3 8 1 221 r 0 V 0 [some (.ref (1)), some (.int (x1)), some (.int (x2))] []
  refine AE.run K eX11_setShield 0 1 (show am_run 3 ((tX11_setShield.drop 0).take 1) 0 [some (.ref (1)), some (.int (x1)), some (.int (x2))] [] = some (1, [some (.ref (1)), some (.int (x1)), some (.int (x2))], [.ref (1)]) from rfl) ?_
  refine AE.getR K gf_X11_25 rfl rfl (am_at eX11_setShield 1 rfl) ?_
  refine AE.run K eX11_setShield 2 1 (show am_run 3 ((tX11_setShield.drop 2).take 1) 4 [some (.ref (1)), some (.int (x1)), some (.int (x2))] [.ref (2)] = some (5, [some (.ref (1)), some (.int (x1)), some (.int (x2))], [.ref (1), .ref (2)]) from rfl) ?_
  refine AE.getR K gf_X11_10 rfl rfl (am_at eX11_setShield 3 rfl) ?_
  refine AE.cv (f' := 4) (c' := 0) (lo' := 102) (st := []) (As := [.ref (sS 0)]) (m := d_X4_note 0 V) K hex (fun q hq => kX4_note B hfl (i := 0) (by decide) hq) cv_X11_88 rfl (T := TX4) (N := 3) rfl rfl rfl (Nat.le_of_ble_eq_true rfl) ⟨Nat.le_of_ble_eq_true rfl, Nat.le_of_ble_eq_true rfl⟩ (by omega) (am_at eX11_setShield 4 rfl) h (rU_some h) (bkU (fun V1 h => ?_))
  refine AE.run K eX11_setShield 5 2 (show am_run 3 ((tX11_setShield.drop 5).take 2) 11 [some (.ref (1)), some (.int (x1)), some (.int (x2))] [] = some (13, [some (.ref (1)), some (.int (x1)), some (.int (x2))], [.ref (1), .ref (1)]) from rfl) ?_
  refine AE.getR K gf_X11_53 rfl rfl (am_at eX11_setShield 7 rfl) ?_
  refine AE.run K eX11_setShield 8 1 (show am_run 3 ((tX11_setShield.drop 8).take 1) 16 [some (.ref (1)), some (.int (x1)), some (.int (x2))] [.ref (12), .ref (1)] = some (17, [some (.ref (1)), some (.int (x1)), some (.int (x2))], [.ref (1), .ref (12), .ref (1)]) from rfl) ?_
  refine AE.getR K gf_X11_10 rfl rfl (am_at eX11_setShield 9 rfl) ?_
  refine AE.run K eX11_setShield 10 2 (show am_run 3 ((tX11_setShield.drop 10).take 2) 20 [some (.ref (1)), some (.int (x1)), some (.int (x2))] [.ref (sS 0), .ref (12), .ref (1)] = some (22, [some (.ref (1)), some (.int (x1)), some (.int (x2))], [.int (x2), .int (x1), .ref (sS 0), .ref (12), .ref (1)]) from rfl) ?_
  refine AE.cv (f' := 1) (c' := 0) (lo' := 21) (st := [.ref (1)]) (As := [.ref (sS 0), .int (x1), .int (x2)]) (m := d_X2_replaceShield 0 x1 x2 V1) K hex (fun q hq => kX2_replaceShield B hfl (i := 0) (by decide) hq) cv_X11_100 rfl (T := TX2) (N := 2) rfl rfl rfl (Nat.le_of_ble_eq_true rfl) ⟨Nat.le_of_ble_eq_true rfl, Nat.le_of_ble_eq_true rfl⟩ (by omega) (am_at eX11_setShield 12 rfl) h (rI_some h) (bkI (fun y3 V2 h => ?_))
  refine AE.cv (f' := 7) (c' := 1) (lo' := 200) (st := []) (As := [.int (y3)]) (m := d_X11_settle y3 V2) K hex (fun q hq => kX11_settle B hfl hq) cv_X11_96 rfl (T := TX11) (N := 16) rfl rfl rfl (Nat.le_of_ble_eq_true rfl) ⟨Nat.le_of_ble_eq_true rfl, Nat.le_of_ble_eq_true rfl⟩ (by omega) (am_at eX11_setShield 13 rfl) h (rI_some h) (bkI (fun y5 V4 h => ?_))
  exact AE.iret K (by omega) (am_at eX11_setShield 14 rfl) h
def d_X11_addPath (x1 : Int32) (x2 : Int32) (x3 : Int32) (x4 : Int32) (V : am_V) : am_R := rU (d_X4_note 0 V) (fun (V1 : am_V) => rI (d_X2_appendPath 0 x1 x2 x3 x4 V1) (fun (y3 : Int32) (V2 : am_V) => rI (d_X11_settle y3 V2) (fun (y5 : Int32) (V4 : am_V) => some (.inl (some (.int (y5))), V4))))
set_option maxRecDepth 100000 in
set_option maxHeartbeats 4000000 in
theorem kX11_addPath {U : am_U} {l : Launch} (B : am_base xx U) (hfl : l.stackTraces = false) {V : am_V} {x1 : Int32} {x2 : Int32} {x3 : Int32} {x4 : Int32} {r : (Option Value ⊕ String) × am_V} (h : d_X11_addPath x1 x2 x3 x4 V = some r) : am_Ct xx U l yX11_addPath cX11_addPath 5 (some .int) (rk 8 1 221) [.ref (1), .int (x1), .int (x2), .int (x3), .int (x4)] V (am_is r.1 r.2) := by
  refine am_Ct.of B hfl (by decide) (Nat.le_of_ble_eq_true rfl) ?_
  intro G hgl hgR hr ok h0 hex
  have K : aK U l G RX11 cX11_addPath 5 (some .int) 8 1 221 := ⟨hgl, hgR, hr, ok, h0⟩
  unfold d_X11_addPath at h
  show AE U G 5 8 1 221 r 0 V 0 [some (.ref (1)), some (.int (x1)), some (.int (x2)), some (.int (x3)), some (.int (x4))] []
  refine AE.run K eX11_addPath 0 1 (show am_run 5 ((tX11_addPath.drop 0).take 1) 0 [some (.ref (1)), some (.int (x1)), some (.int (x2)), some (.int (x3)), some (.int (x4))] [] = some (1, [some (.ref (1)), some (.int (x1)), some (.int (x2)), some (.int (x3)), some (.int (x4))], [.ref (1)]) from rfl) ?_
  refine AE.getR K gf_X11_25 rfl rfl (am_at eX11_addPath 1 rfl) ?_
  refine AE.run K eX11_addPath 2 1 (show am_run 5 ((tX11_addPath.drop 2).take 1) 4 [some (.ref (1)), some (.int (x1)), some (.int (x2)), some (.int (x3)), some (.int (x4))] [.ref (2)] = some (5, [some (.ref (1)), some (.int (x1)), some (.int (x2)), some (.int (x3)), some (.int (x4))], [.ref (1), .ref (2)]) from rfl) ?_
  refine AE.getR K gf_X11_10 rfl rfl (am_at eX11_addPath 3 rfl) ?_
  refine AE.cv (f' := 4) (c' := 0) (lo' := 102) (st := []) (As := [.ref (sS 0)]) (m := d_X4_note 0 V) K hex (fun q hq => kX4_note B hfl (i := 0) (by decide) hq) cv_X11_88 rfl (T := TX4) (N := 3) rfl rfl rfl (Nat.le_of_ble_eq_true rfl) ⟨Nat.le_of_ble_eq_true rfl, Nat.le_of_ble_eq_true rfl⟩ (by omega) (am_at eX11_addPath 4 rfl) h (rU_some h) (bkU (fun V1 h => ?_))
  refine AE.run K eX11_addPath 5 2 (show am_run 5 ((tX11_addPath.drop 5).take 2) 11 [some (.ref (1)), some (.int (x1)), some (.int (x2)), some (.int (x3)), some (.int (x4))] [] = some (13, [some (.ref (1)), some (.int (x1)), some (.int (x2)), some (.int (x3)), some (.int (x4))], [.ref (1), .ref (1)]) from rfl) ?_
  refine AE.getR K gf_X11_53 rfl rfl (am_at eX11_addPath 7 rfl) ?_
  refine AE.run K eX11_addPath 8 1 (show am_run 5 ((tX11_addPath.drop 8).take 1) 16 [some (.ref (1)), some (.int (x1)), some (.int (x2)), some (.int (x3)), some (.int (x4))] [.ref (12), .ref (1)] = some (17, [some (.ref (1)), some (.int (x1)), some (.int (x2)), some (.int (x3)), some (.int (x4))], [.ref (1), .ref (12), .ref (1)]) from rfl) ?_
  refine AE.getR K gf_X11_10 rfl rfl (am_at eX11_addPath 9 rfl) ?_
  refine AE.run K eX11_addPath 10 4 (show am_run 5 ((tX11_addPath.drop 10).take 4) 20 [some (.ref (1)), some (.int (x1)), some (.int (x2)), some (.int (x3)), some (.int (x4))] [.ref (sS 0), .ref (12), .ref (1)] = some (25, [some (.ref (1)), some (.int (x1)), some (.int (x2)), some (.int (x3)), some (.int (x4))], [.int (x4), .int (x3), .int (x2), .int (x1), .ref (sS 0), .ref (12), .ref (1)]) from rfl) ?_
  refine AE.cv (f' := 3) (c' := 0) (lo' := 80) (st := [.ref (1)]) (As := [.ref (sS 0), .int (x1), .int (x2), .int (x3), .int (x4)]) (m := d_X2_appendPath 0 x1 x2 x3 x4 V1) K hex (fun q hq => kX2_appendPath B hfl (i := 0) (by decide) hq) cv_X11_104 rfl (T := TX2) (N := 2) rfl rfl rfl (Nat.le_of_ble_eq_true rfl) ⟨Nat.le_of_ble_eq_true rfl, Nat.le_of_ble_eq_true rfl⟩ (by omega) (am_at eX11_addPath 14 rfl) h (rI_some h) (bkI (fun y3 V2 h => ?_))
  refine AE.cv (f' := 7) (c' := 1) (lo' := 200) (st := []) (As := [.int (y3)]) (m := d_X11_settle y3 V2) K hex (fun q hq => kX11_settle B hfl hq) cv_X11_96 rfl (T := TX11) (N := 16) rfl rfl rfl (Nat.le_of_ble_eq_true rfl) ⟨Nat.le_of_ble_eq_true rfl, Nat.le_of_ble_eq_true rfl⟩ (by omega) (am_at eX11_addPath 15 rfl) h (rI_some h) (bkI (fun y5 V4 h => ?_))
  exact AE.iret K (by omega) (am_at eX11_addPath 16 rfl) h
def d_X11_setGust (x1 : Int32) (x2 : Int32) (V : am_V) : am_R := rU (d_X4_note 0 V) (fun (V1 : am_V) => rI (d_X2_replaceGust 0 x1 x2 V1) (fun (y3 : Int32) (V2 : am_V) => rI (d_X11_settle y3 V2) (fun (y5 : Int32) (V4 : am_V) => some (.inl (some (.int (y5))), V4))))
set_option maxRecDepth 100000 in
set_option maxHeartbeats 4000000 in
theorem kX11_setGust {U : am_U} {l : Launch} (B : am_base xx U) (hfl : l.stackTraces = false) {V : am_V} {x1 : Int32} {x2 : Int32} {r : (Option Value ⊕ String) × am_V} (h : d_X11_setGust x1 x2 V = some r) : am_Ct xx U l yX11_setGust cX11_setGust 3 (some .int) (rk 8 1 221) [.ref (1), .int (x1), .int (x2)] V (am_is r.1 r.2) := by
  refine am_Ct.of B hfl (by decide) (Nat.le_of_ble_eq_true rfl) ?_
  intro G hgl hgR hr ok h0 hex
  have K : aK U l G RX11 cX11_setGust 3 (some .int) 8 1 221 := ⟨hgl, hgR, hr, ok, h0⟩
  unfold d_X11_setGust at h
  show AE U G 3 8 1 221 r 0 V 0 [some (.ref (1)), some (.int (x1)), some (.int (x2))] []
  refine AE.run K eX11_setGust 0 1 (show am_run 3 ((tX11_setGust.drop 0).take 1) 0 [some (.ref (1)), some (.int (x1)), some (.int (x2))] [] = some (1, [some (.ref (1)), some (.int (x1)), some (.int (x2))], [.ref (1)]) from rfl) ?_
  refine AE.getR K gf_X11_25 rfl rfl (am_at eX11_setGust 1 rfl) ?_
  refine AE.run K eX11_setGust 2 1 (show am_run 3 ((tX11_setGust.drop 2).take 1) 4 [some (.ref (1)), some (.int (x1)), some (.int (x2))] [.ref (2)] = some (5, [some (.ref (1)), some (.int (x1)), some (.int (x2))], [.ref (1), .ref (2)]) from rfl) ?_
  refine AE.getR K gf_X11_10 rfl rfl (am_at eX11_setGust 3 rfl) ?_
  refine AE.cv (f' := 4) (c' := 0) (lo' := 102) (st := []) (As := [.ref (sS 0)]) (m := d_X4_note 0 V) K hex (fun q hq => kX4_note B hfl (i := 0) (by decide) hq) cv_X11_88 rfl (T := TX4) (N := 3) rfl rfl rfl (Nat.le_of_ble_eq_true rfl) ⟨Nat.le_of_ble_eq_true rfl, Nat.le_of_ble_eq_true rfl⟩ (by omega) (am_at eX11_setGust 4 rfl) h (rU_some h) (bkU (fun V1 h => ?_))
  refine AE.run K eX11_setGust 5 2 (show am_run 3 ((tX11_setGust.drop 5).take 2) 11 [some (.ref (1)), some (.int (x1)), some (.int (x2))] [] = some (13, [some (.ref (1)), some (.int (x1)), some (.int (x2))], [.ref (1), .ref (1)]) from rfl) ?_
  refine AE.getR K gf_X11_53 rfl rfl (am_at eX11_setGust 7 rfl) ?_
  refine AE.run K eX11_setGust 8 1 (show am_run 3 ((tX11_setGust.drop 8).take 1) 16 [some (.ref (1)), some (.int (x1)), some (.int (x2))] [.ref (12), .ref (1)] = some (17, [some (.ref (1)), some (.int (x1)), some (.int (x2))], [.ref (1), .ref (12), .ref (1)]) from rfl) ?_
  refine AE.getR K gf_X11_10 rfl rfl (am_at eX11_setGust 9 rfl) ?_
  refine AE.run K eX11_setGust 10 2 (show am_run 3 ((tX11_setGust.drop 10).take 2) 20 [some (.ref (1)), some (.int (x1)), some (.int (x2))] [.ref (sS 0), .ref (12), .ref (1)] = some (22, [some (.ref (1)), some (.int (x1)), some (.int (x2))], [.int (x2), .int (x1), .ref (sS 0), .ref (12), .ref (1)]) from rfl) ?_
  refine AE.cv (f' := 1) (c' := 0) (lo' := 21) (st := [.ref (1)]) (As := [.ref (sS 0), .int (x1), .int (x2)]) (m := d_X2_replaceGust 0 x1 x2 V1) K hex (fun q hq => kX2_replaceGust B hfl (i := 0) (by decide) hq) cv_X11_108 rfl (T := TX2) (N := 2) rfl rfl rfl (Nat.le_of_ble_eq_true rfl) ⟨Nat.le_of_ble_eq_true rfl, Nat.le_of_ble_eq_true rfl⟩ (by omega) (am_at eX11_setGust 12 rfl) h (rI_some h) (bkI (fun y3 V2 h => ?_))
  refine AE.cv (f' := 7) (c' := 1) (lo' := 200) (st := []) (As := [.int (y3)]) (m := d_X11_settle y3 V2) K hex (fun q hq => kX11_settle B hfl hq) cv_X11_96 rfl (T := TX11) (N := 16) rfl rfl rfl (Nat.le_of_ble_eq_true rfl) ⟨Nat.le_of_ble_eq_true rfl, Nat.le_of_ble_eq_true rfl⟩ (by omega) (am_at eX11_setGust 13 rfl) h (rI_some h) (bkI (fun y5 V4 h => ?_))
  exact AE.iret K (by omega) (am_at eX11_setGust 14 rfl) h
def d_X11_setBlocked (x1 : Int32) (x2 : Int32) (V : am_V) : am_R := rU (d_X4_note 0 V) (fun (V1 : am_V) => rI (d_X2_replaceBlocked 0 x1 x2 V1) (fun (y3 : Int32) (V2 : am_V) => rI (d_X11_settle y3 V2) (fun (y5 : Int32) (V4 : am_V) => some (.inl (some (.int (y5))), V4))))
set_option maxRecDepth 100000 in
set_option maxHeartbeats 4000000 in
theorem kX11_setBlocked {U : am_U} {l : Launch} (B : am_base xx U) (hfl : l.stackTraces = false) {V : am_V} {x1 : Int32} {x2 : Int32} {r : (Option Value ⊕ String) × am_V} (h : d_X11_setBlocked x1 x2 V = some r) : am_Ct xx U l yX11_setBlocked cX11_setBlocked 3 (some .int) (rk 8 1 221) [.ref (1), .int (x1), .int (x2)] V (am_is r.1 r.2) := by
  refine am_Ct.of B hfl (by decide) (Nat.le_of_ble_eq_true rfl) ?_
  intro G hgl hgR hr ok h0 hex
  have K : aK U l G RX11 cX11_setBlocked 3 (some .int) 8 1 221 := ⟨hgl, hgR, hr, ok, h0⟩
  unfold d_X11_setBlocked at h
  show AE U G 3 8 1 221 r 0 V 0 [some (.ref (1)), some (.int (x1)), some (.int (x2))] []
  refine AE.run K eX11_setBlocked 0 1 (show am_run 3 ((tX11_setBlocked.drop 0).take 1) 0 [some (.ref (1)), some (.int (x1)), some (.int (x2))] [] = some (1, [some (.ref (1)), some (.int (x1)), some (.int (x2))], [.ref (1)]) from rfl) ?_
  refine AE.getR K gf_X11_25 rfl rfl (am_at eX11_setBlocked 1 rfl) ?_
  refine AE.run K eX11_setBlocked 2 1 (show am_run 3 ((tX11_setBlocked.drop 2).take 1) 4 [some (.ref (1)), some (.int (x1)), some (.int (x2))] [.ref (2)] = some (5, [some (.ref (1)), some (.int (x1)), some (.int (x2))], [.ref (1), .ref (2)]) from rfl) ?_
  refine AE.getR K gf_X11_10 rfl rfl (am_at eX11_setBlocked 3 rfl) ?_
  refine AE.cv (f' := 4) (c' := 0) (lo' := 102) (st := []) (As := [.ref (sS 0)]) (m := d_X4_note 0 V) K hex (fun q hq => kX4_note B hfl (i := 0) (by decide) hq) cv_X11_88 rfl (T := TX4) (N := 3) rfl rfl rfl (Nat.le_of_ble_eq_true rfl) ⟨Nat.le_of_ble_eq_true rfl, Nat.le_of_ble_eq_true rfl⟩ (by omega) (am_at eX11_setBlocked 4 rfl) h (rU_some h) (bkU (fun V1 h => ?_))
  refine AE.run K eX11_setBlocked 5 2 (show am_run 3 ((tX11_setBlocked.drop 5).take 2) 11 [some (.ref (1)), some (.int (x1)), some (.int (x2))] [] = some (13, [some (.ref (1)), some (.int (x1)), some (.int (x2))], [.ref (1), .ref (1)]) from rfl) ?_
  refine AE.getR K gf_X11_53 rfl rfl (am_at eX11_setBlocked 7 rfl) ?_
  refine AE.run K eX11_setBlocked 8 1 (show am_run 3 ((tX11_setBlocked.drop 8).take 1) 16 [some (.ref (1)), some (.int (x1)), some (.int (x2))] [.ref (12), .ref (1)] = some (17, [some (.ref (1)), some (.int (x1)), some (.int (x2))], [.ref (1), .ref (12), .ref (1)]) from rfl) ?_
  refine AE.getR K gf_X11_10 rfl rfl (am_at eX11_setBlocked 9 rfl) ?_
  refine AE.run K eX11_setBlocked 10 2 (show am_run 3 ((tX11_setBlocked.drop 10).take 2) 20 [some (.ref (1)), some (.int (x1)), some (.int (x2))] [.ref (sS 0), .ref (12), .ref (1)] = some (22, [some (.ref (1)), some (.int (x1)), some (.int (x2))], [.int (x2), .int (x1), .ref (sS 0), .ref (12), .ref (1)]) from rfl) ?_
  refine AE.cv (f' := 3) (c' := 0) (lo' := 80) (st := [.ref (1)]) (As := [.ref (sS 0), .int (x1), .int (x2)]) (m := d_X2_replaceBlocked 0 x1 x2 V1) K hex (fun q hq => kX2_replaceBlocked B hfl (i := 0) (by decide) hq) cv_X11_111 rfl (T := TX2) (N := 2) rfl rfl rfl (Nat.le_of_ble_eq_true rfl) ⟨Nat.le_of_ble_eq_true rfl, Nat.le_of_ble_eq_true rfl⟩ (by omega) (am_at eX11_setBlocked 12 rfl) h (rI_some h) (bkI (fun y3 V2 h => ?_))
  refine AE.cv (f' := 7) (c' := 1) (lo' := 200) (st := []) (As := [.int (y3)]) (m := d_X11_settle y3 V2) K hex (fun q hq => kX11_settle B hfl hq) cv_X11_96 rfl (T := TX11) (N := 16) rfl rfl rfl (Nat.le_of_ble_eq_true rfl) ⟨Nat.le_of_ble_eq_true rfl, Nat.le_of_ble_eq_true rfl⟩ (by omega) (am_at eX11_setBlocked 13 rfl) h (rI_some h) (bkI (fun y5 V4 h => ?_))
  exact AE.iret K (by omega) (am_at eX11_setBlocked 14 rfl) h
def d_X11_fieldCount (V : am_V) : am_R := some (.inl (some (.int (V (sS 0 + 1) 6))), V)
set_option maxRecDepth 100000 in
set_option maxHeartbeats 4000000 in
theorem kX11_fieldCount {U : am_U} {l : Launch} (B : am_base xx U) (hfl : l.stackTraces = false) {V : am_V} {r : (Option Value ⊕ String) × am_V} (h : d_X11_fieldCount V = some r) : am_Ct xx U l yX11_fieldCount cX11_fieldCount 1 (some .int) (rk 0 0 0) [.ref (1)] V (am_is r.1 r.2) := by
  refine am_Ct.of B hfl (by decide) (Nat.le_of_ble_eq_true rfl) ?_
  intro G hgl hgR hr ok h0 hex
  have K : aK U l G RX11 cX11_fieldCount 1 (some .int) 0 0 0 := ⟨hgl, hgR, hr, ok, h0⟩
  unfold d_X11_fieldCount at h
  show AE U G 1 0 0 0 r 0 V 0 [some (.ref (1))] []
  refine AE.run K eX11_fieldCount 0 1 (show am_run 1 ((tX11_fieldCount.drop 0).take 1) 0 [some (.ref (1))] [] = some (1, [some (.ref (1))], [.ref (1)]) from rfl) ?_
  refine AE.getR K gf_X11_10 rfl rfl (am_at eX11_fieldCount 1 rfl) ?_
  refine AE.getR K gf_X11_115 (sh_S0 (by decide)) rfl (am_at eX11_fieldCount 2 rfl) ?_
  refine AE.getI K gf_X11_119 (sh_S1 (by decide)) rfl (am_at eX11_fieldCount 3 rfl) ?_
  exact AE.iret K (by omega) (am_at eX11_fieldCount 4 rfl) h
def d_X11_pathCount (V : am_V) : am_R := some (.inl (some (.int (V (sS 0 + 1) 7))), V)
set_option maxRecDepth 100000 in
set_option maxHeartbeats 4000000 in
theorem kX11_pathCount {U : am_U} {l : Launch} (B : am_base xx U) (hfl : l.stackTraces = false) {V : am_V} {r : (Option Value ⊕ String) × am_V} (h : d_X11_pathCount V = some r) : am_Ct xx U l yX11_pathCount cX11_pathCount 1 (some .int) (rk 0 0 0) [.ref (1)] V (am_is r.1 r.2) := by
  refine am_Ct.of B hfl (by decide) (Nat.le_of_ble_eq_true rfl) ?_
  intro G hgl hgR hr ok h0 hex
  have K : aK U l G RX11 cX11_pathCount 1 (some .int) 0 0 0 := ⟨hgl, hgR, hr, ok, h0⟩
  unfold d_X11_pathCount at h
  show AE U G 1 0 0 0 r 0 V 0 [some (.ref (1))] []
  refine AE.run K eX11_pathCount 0 1 (show am_run 1 ((tX11_pathCount.drop 0).take 1) 0 [some (.ref (1))] [] = some (1, [some (.ref (1))], [.ref (1)]) from rfl) ?_
  refine AE.getR K gf_X11_10 rfl rfl (am_at eX11_pathCount 1 rfl) ?_
  refine AE.getR K gf_X11_115 (sh_S0 (by decide)) rfl (am_at eX11_pathCount 2 rfl) ?_
  refine AE.getI K gf_X11_124 (sh_S1 (by decide)) rfl (am_at eX11_pathCount 3 rfl) ?_
  exact AE.iret K (by omega) (am_at eX11_pathCount 4 rfl) h
def d_X11_shieldOf (x1 : Int32) (V : am_V) : am_R := rU (d_X11_requireField x1 V) (fun (V1 : am_V) => rG (am_in x1 9) (some (.inl (some (.int (V1 (sS 0 + 4) (iN x1)))), V1)))
set_option maxRecDepth 100000 in
set_option maxHeartbeats 4000000 in
theorem kX11_shieldOf {U : am_U} {l : Launch} (B : am_base xx U) (hfl : l.stackTraces = false) {V : am_V} {x1 : Int32} {r : (Option Value ⊕ String) × am_V} (h : d_X11_shieldOf x1 V = some r) : am_Ct xx U l yX11_shieldOf cX11_shieldOf 2 (some .int) (rk 8 1 221) [.ref (1), .int (x1)] V (am_is r.1 r.2) := by
  refine am_Ct.of B hfl (by decide) (Nat.le_of_ble_eq_true rfl) ?_
  intro G hgl hgR hr ok h0 hex
  have K : aK U l G RX11 cX11_shieldOf 2 (some .int) 8 1 221 := ⟨hgl, hgR, hr, ok, h0⟩
  unfold d_X11_shieldOf at h
  show AE U G 2 8 1 221 r 0 V 0 [some (.ref (1)), some (.int (x1))] []
  refine AE.run K eX11_shieldOf 0 2 (show am_run 2 ((tX11_shieldOf.drop 0).take 2) 0 [some (.ref (1)), some (.int (x1))] [] = some (2, [some (.ref (1)), some (.int (x1))], [.int (x1), .ref (1)]) from rfl) ?_
  refine AE.cv (f' := 7) (c' := 1) (lo' := 200) (st := []) (As := [.int (x1)]) (m := d_X11_requireField x1 V) K hex (fun q hq => kX11_requireField B hfl hq) cv_X11_127 rfl (T := TX11) (N := 16) rfl rfl rfl (Nat.le_of_ble_eq_true rfl) ⟨Nat.le_of_ble_eq_true rfl, Nat.le_of_ble_eq_true rfl⟩ (by omega) (am_at eX11_shieldOf 2 rfl) h (rU_some h) (bkU (fun V1 h => ?_))
  refine AE.run K eX11_shieldOf 3 1 (show am_run 2 ((tX11_shieldOf.drop 3).take 1) 5 [some (.ref (1)), some (.int (x1))] [] = some (6, [some (.ref (1)), some (.int (x1))], [.ref (1)]) from rfl) ?_
  refine AE.getR K gf_X11_10 rfl rfl (am_at eX11_shieldOf 4 rfl) ?_
  refine AE.getR K gf_X11_115 (sh_S0 (by decide)) rfl (am_at eX11_shieldOf 5 rfl) ?_
  refine AE.getR K gf_X11_131 (sh_S1 (by decide)) rfl (am_at eX11_shieldOf 6 rfl) ?_
  refine AE.run K eX11_shieldOf 7 1 (show am_run 2 ((tX11_shieldOf.drop 7).take 1) 15 [some (.ref (1)), some (.int (x1))] [.ref (sS 0 + 4)] = some (16, [some (.ref (1)), some (.int (x1))], [.int (x1), .ref (sS 0 + 4)]) from rfl) ?_
  refine AE.iald K (sh_S4 (by decide)) (am_at eX11_shieldOf 8 rfl) h (fun h => ?_)
  exact AE.iret K (by omega) (am_at eX11_shieldOf 9 rfl) h
def d_X11_firstOf (x1 : Int32) (V : am_V) : am_R := rU (d_X11_requirePath x1 V) (fun (V1 : am_V) => rG (am_in x1 16) (some (.inl (some (.int (V1 (sS 0 + 5) (iN x1)))), V1)))
set_option maxRecDepth 100000 in
set_option maxHeartbeats 4000000 in
theorem kX11_firstOf {U : am_U} {l : Launch} (B : am_base xx U) (hfl : l.stackTraces = false) {V : am_V} {x1 : Int32} {r : (Option Value ⊕ String) × am_V} (h : d_X11_firstOf x1 V = some r) : am_Ct xx U l yX11_firstOf cX11_firstOf 2 (some .int) (rk 8 1 221) [.ref (1), .int (x1)] V (am_is r.1 r.2) := by
  refine am_Ct.of B hfl (by decide) (Nat.le_of_ble_eq_true rfl) ?_
  intro G hgl hgR hr ok h0 hex
  have K : aK U l G RX11 cX11_firstOf 2 (some .int) 8 1 221 := ⟨hgl, hgR, hr, ok, h0⟩
  unfold d_X11_firstOf at h
  show AE U G 2 8 1 221 r 0 V 0 [some (.ref (1)), some (.int (x1))] []
  refine AE.run K eX11_firstOf 0 2 (show am_run 2 ((tX11_firstOf.drop 0).take 2) 0 [some (.ref (1)), some (.int (x1))] [] = some (2, [some (.ref (1)), some (.int (x1))], [.int (x1), .ref (1)]) from rfl) ?_
  refine AE.cv (f' := 7) (c' := 1) (lo' := 200) (st := []) (As := [.int (x1)]) (m := d_X11_requirePath x1 V) K hex (fun q hq => kX11_requirePath B hfl hq) cv_X11_135 rfl (T := TX11) (N := 16) rfl rfl rfl (Nat.le_of_ble_eq_true rfl) ⟨Nat.le_of_ble_eq_true rfl, Nat.le_of_ble_eq_true rfl⟩ (by omega) (am_at eX11_firstOf 2 rfl) h (rU_some h) (bkU (fun V1 h => ?_))
  refine AE.run K eX11_firstOf 3 1 (show am_run 2 ((tX11_firstOf.drop 3).take 1) 5 [some (.ref (1)), some (.int (x1))] [] = some (6, [some (.ref (1)), some (.int (x1))], [.ref (1)]) from rfl) ?_
  refine AE.getR K gf_X11_10 rfl rfl (am_at eX11_firstOf 4 rfl) ?_
  refine AE.getR K gf_X11_115 (sh_S0 (by decide)) rfl (am_at eX11_firstOf 5 rfl) ?_
  refine AE.getR K gf_X11_138 (sh_S1 (by decide)) rfl (am_at eX11_firstOf 6 rfl) ?_
  refine AE.run K eX11_firstOf 7 1 (show am_run 2 ((tX11_firstOf.drop 7).take 1) 15 [some (.ref (1)), some (.int (x1))] [.ref (sS 0 + 5)] = some (16, [some (.ref (1)), some (.int (x1))], [.int (x1), .ref (sS 0 + 5)]) from rfl) ?_
  refine AE.iald K (sh_S5 (by decide)) (am_at eX11_firstOf 8 rfl) h (fun h => ?_)
  exact AE.iret K (by omega) (am_at eX11_firstOf 9 rfl) h
def d_X11_secondOf (x1 : Int32) (V : am_V) : am_R := rU (d_X11_requirePath x1 V) (fun (V1 : am_V) => rG (am_in x1 16) (some (.inl (some (.int (V1 (sS 0 + 6) (iN x1)))), V1)))
set_option maxRecDepth 100000 in
set_option maxHeartbeats 4000000 in
theorem kX11_secondOf {U : am_U} {l : Launch} (B : am_base xx U) (hfl : l.stackTraces = false) {V : am_V} {x1 : Int32} {r : (Option Value ⊕ String) × am_V} (h : d_X11_secondOf x1 V = some r) : am_Ct xx U l yX11_secondOf cX11_secondOf 2 (some .int) (rk 8 1 221) [.ref (1), .int (x1)] V (am_is r.1 r.2) := by
  refine am_Ct.of B hfl (by decide) (Nat.le_of_ble_eq_true rfl) ?_
  intro G hgl hgR hr ok h0 hex
  have K : aK U l G RX11 cX11_secondOf 2 (some .int) 8 1 221 := ⟨hgl, hgR, hr, ok, h0⟩
  unfold d_X11_secondOf at h
  show AE U G 2 8 1 221 r 0 V 0 [some (.ref (1)), some (.int (x1))] []
  refine AE.run K eX11_secondOf 0 2 (show am_run 2 ((tX11_secondOf.drop 0).take 2) 0 [some (.ref (1)), some (.int (x1))] [] = some (2, [some (.ref (1)), some (.int (x1))], [.int (x1), .ref (1)]) from rfl) ?_
  refine AE.cv (f' := 7) (c' := 1) (lo' := 200) (st := []) (As := [.int (x1)]) (m := d_X11_requirePath x1 V) K hex (fun q hq => kX11_requirePath B hfl hq) cv_X11_135 rfl (T := TX11) (N := 16) rfl rfl rfl (Nat.le_of_ble_eq_true rfl) ⟨Nat.le_of_ble_eq_true rfl, Nat.le_of_ble_eq_true rfl⟩ (by omega) (am_at eX11_secondOf 2 rfl) h (rU_some h) (bkU (fun V1 h => ?_))
  refine AE.run K eX11_secondOf 3 1 (show am_run 2 ((tX11_secondOf.drop 3).take 1) 5 [some (.ref (1)), some (.int (x1))] [] = some (6, [some (.ref (1)), some (.int (x1))], [.ref (1)]) from rfl) ?_
  refine AE.getR K gf_X11_10 rfl rfl (am_at eX11_secondOf 4 rfl) ?_
  refine AE.getR K gf_X11_115 (sh_S0 (by decide)) rfl (am_at eX11_secondOf 5 rfl) ?_
  refine AE.getR K gf_X11_141 (sh_S1 (by decide)) rfl (am_at eX11_secondOf 6 rfl) ?_
  refine AE.run K eX11_secondOf 7 1 (show am_run 2 ((tX11_secondOf.drop 7).take 1) 15 [some (.ref (1)), some (.int (x1))] [.ref (sS 0 + 6)] = some (16, [some (.ref (1)), some (.int (x1))], [.int (x1), .ref (sS 0 + 6)]) from rfl) ?_
  refine AE.iald K (sh_S6 (by decide)) (am_at eX11_secondOf 8 rfl) h (fun h => ?_)
  exact AE.iret K (by omega) (am_at eX11_secondOf 9 rfl) h
def d_X11_costOf (x1 : Int32) (V : am_V) : am_R := rU (d_X11_requirePath x1 V) (fun (V1 : am_V) => rG (am_in x1 16) (some (.inl (some (.int (V1 (sS 0 + 7) (iN x1)))), V1)))
set_option maxRecDepth 100000 in
set_option maxHeartbeats 4000000 in
theorem kX11_costOf {U : am_U} {l : Launch} (B : am_base xx U) (hfl : l.stackTraces = false) {V : am_V} {x1 : Int32} {r : (Option Value ⊕ String) × am_V} (h : d_X11_costOf x1 V = some r) : am_Ct xx U l yX11_costOf cX11_costOf 2 (some .int) (rk 8 1 221) [.ref (1), .int (x1)] V (am_is r.1 r.2) := by
  refine am_Ct.of B hfl (by decide) (Nat.le_of_ble_eq_true rfl) ?_
  intro G hgl hgR hr ok h0 hex
  have K : aK U l G RX11 cX11_costOf 2 (some .int) 8 1 221 := ⟨hgl, hgR, hr, ok, h0⟩
  unfold d_X11_costOf at h
  show AE U G 2 8 1 221 r 0 V 0 [some (.ref (1)), some (.int (x1))] []
  refine AE.run K eX11_costOf 0 2 (show am_run 2 ((tX11_costOf.drop 0).take 2) 0 [some (.ref (1)), some (.int (x1))] [] = some (2, [some (.ref (1)), some (.int (x1))], [.int (x1), .ref (1)]) from rfl) ?_
  refine AE.cv (f' := 7) (c' := 1) (lo' := 200) (st := []) (As := [.int (x1)]) (m := d_X11_requirePath x1 V) K hex (fun q hq => kX11_requirePath B hfl hq) cv_X11_135 rfl (T := TX11) (N := 16) rfl rfl rfl (Nat.le_of_ble_eq_true rfl) ⟨Nat.le_of_ble_eq_true rfl, Nat.le_of_ble_eq_true rfl⟩ (by omega) (am_at eX11_costOf 2 rfl) h (rU_some h) (bkU (fun V1 h => ?_))
  refine AE.run K eX11_costOf 3 1 (show am_run 2 ((tX11_costOf.drop 3).take 1) 5 [some (.ref (1)), some (.int (x1))] [] = some (6, [some (.ref (1)), some (.int (x1))], [.ref (1)]) from rfl) ?_
  refine AE.getR K gf_X11_10 rfl rfl (am_at eX11_costOf 4 rfl) ?_
  refine AE.getR K gf_X11_115 (sh_S0 (by decide)) rfl (am_at eX11_costOf 5 rfl) ?_
  refine AE.getR K gf_X11_144 (sh_S1 (by decide)) rfl (am_at eX11_costOf 6 rfl) ?_
  refine AE.run K eX11_costOf 7 1 (show am_run 2 ((tX11_costOf.drop 7).take 1) 15 [some (.ref (1)), some (.int (x1))] [.ref (sS 0 + 7)] = some (16, [some (.ref (1)), some (.int (x1))], [.int (x1), .ref (sS 0 + 7)]) from rfl) ?_
  refine AE.iald K (sh_S7 (by decide)) (am_at eX11_costOf 8 rfl) h (fun h => ?_)
  exact AE.iret K (by omega) (am_at eX11_costOf 9 rfl) h
def d_X11_gustOf (x1 : Int32) (V : am_V) : am_R := rU (d_X11_requirePath x1 V) (fun (V1 : am_V) => rG (am_in x1 16) (some (.inl (some (.int (V1 (sS 0 + 8) (iN x1)))), V1)))
set_option maxRecDepth 100000 in
set_option maxHeartbeats 4000000 in
theorem kX11_gustOf {U : am_U} {l : Launch} (B : am_base xx U) (hfl : l.stackTraces = false) {V : am_V} {x1 : Int32} {r : (Option Value ⊕ String) × am_V} (h : d_X11_gustOf x1 V = some r) : am_Ct xx U l yX11_gustOf cX11_gustOf 2 (some .int) (rk 8 1 221) [.ref (1), .int (x1)] V (am_is r.1 r.2) := by
  refine am_Ct.of B hfl (by decide) (Nat.le_of_ble_eq_true rfl) ?_
  intro G hgl hgR hr ok h0 hex
  have K : aK U l G RX11 cX11_gustOf 2 (some .int) 8 1 221 := ⟨hgl, hgR, hr, ok, h0⟩
  unfold d_X11_gustOf at h
  show AE U G 2 8 1 221 r 0 V 0 [some (.ref (1)), some (.int (x1))] []
  refine AE.run K eX11_gustOf 0 2 (show am_run 2 ((tX11_gustOf.drop 0).take 2) 0 [some (.ref (1)), some (.int (x1))] [] = some (2, [some (.ref (1)), some (.int (x1))], [.int (x1), .ref (1)]) from rfl) ?_
  refine AE.cv (f' := 7) (c' := 1) (lo' := 200) (st := []) (As := [.int (x1)]) (m := d_X11_requirePath x1 V) K hex (fun q hq => kX11_requirePath B hfl hq) cv_X11_135 rfl (T := TX11) (N := 16) rfl rfl rfl (Nat.le_of_ble_eq_true rfl) ⟨Nat.le_of_ble_eq_true rfl, Nat.le_of_ble_eq_true rfl⟩ (by omega) (am_at eX11_gustOf 2 rfl) h (rU_some h) (bkU (fun V1 h => ?_))
  refine AE.run K eX11_gustOf 3 1 (show am_run 2 ((tX11_gustOf.drop 3).take 1) 5 [some (.ref (1)), some (.int (x1))] [] = some (6, [some (.ref (1)), some (.int (x1))], [.ref (1)]) from rfl) ?_
  refine AE.getR K gf_X11_10 rfl rfl (am_at eX11_gustOf 4 rfl) ?_
  refine AE.getR K gf_X11_115 (sh_S0 (by decide)) rfl (am_at eX11_gustOf 5 rfl) ?_
  refine AE.getR K gf_X11_147 (sh_S1 (by decide)) rfl (am_at eX11_gustOf 6 rfl) ?_
  refine AE.run K eX11_gustOf 7 1 (show am_run 2 ((tX11_gustOf.drop 7).take 1) 15 [some (.ref (1)), some (.int (x1))] [.ref (sS 0 + 8)] = some (16, [some (.ref (1)), some (.int (x1))], [.int (x1), .ref (sS 0 + 8)]) from rfl) ?_
  refine AE.iald K (sh_S8 (by decide)) (am_at eX11_gustOf 8 rfl) h (fun h => ?_)
  exact AE.iret K (by omega) (am_at eX11_gustOf 9 rfl) h
def d_X11_isBlocked (x1 : Int32) (V : am_V) : am_R := rU (d_X11_requirePath x1 V) (fun (V1 : am_V) => rI (d_X6_isOpen 0 x1 V1) (fun (y3 : Int32) (V2 : am_V) => rB (fun (bs0_24 : Int32) (V_24 : am_V) => rG (am_nb bs0_24) (some (.inl (some (.int (bs0_24))), V_24))) (fun (j24 : Int32 → am_V → am_R) => (if ¬ y3 = 0 then j24 (nI 0) V2 else j24 (nI 1) V2))))
set_option maxRecDepth 100000 in
set_option maxHeartbeats 4000000 in
theorem kX11_isBlocked {U : am_U} {l : Launch} (B : am_base xx U) (hfl : l.stackTraces = false) {V : am_V} {x1 : Int32} {r : (Option Value ⊕ String) × am_V} (h : d_X11_isBlocked x1 V = some r) : am_Ct xx U l yX11_isBlocked cX11_isBlocked 2 (some .boolean) (rk 8 1 221) [.ref (1), .int (x1)] V (am_is r.1 r.2) := by
  refine am_Ct.of B hfl (by decide) (Nat.le_of_ble_eq_true rfl) ?_
  intro G hgl hgR hr ok h0 hex
  have K : aK U l G RX11 cX11_isBlocked 2 (some .boolean) 8 1 221 := ⟨hgl, hgR, hr, ok, h0⟩
  unfold d_X11_isBlocked at h
  show AE U G 2 8 1 221 r 0 V 0 [some (.ref (1)), some (.int (x1))] []
  refine AE.run K eX11_isBlocked 0 2 (show am_run 2 ((tX11_isBlocked.drop 0).take 2) 0 [some (.ref (1)), some (.int (x1))] [] = some (2, [some (.ref (1)), some (.int (x1))], [.int (x1), .ref (1)]) from rfl) ?_
  refine AE.cv (f' := 7) (c' := 1) (lo' := 200) (st := []) (As := [.int (x1)]) (m := d_X11_requirePath x1 V) K hex (fun q hq => kX11_requirePath B hfl hq) cv_X11_135 rfl (T := TX11) (N := 16) rfl rfl rfl (Nat.le_of_ble_eq_true rfl) ⟨Nat.le_of_ble_eq_true rfl, Nat.le_of_ble_eq_true rfl⟩ (by omega) (am_at eX11_isBlocked 2 rfl) h (rU_some h) (bkU (fun V1 h => ?_))
  refine AE.run K eX11_isBlocked 3 1 (show am_run 2 ((tX11_isBlocked.drop 3).take 1) 5 [some (.ref (1)), some (.int (x1))] [] = some (6, [some (.ref (1)), some (.int (x1))], [.ref (1)]) from rfl) ?_
  refine AE.getR K gf_X11_10 rfl rfl (am_at eX11_isBlocked 4 rfl) ?_
  refine AE.getR K gf_X11_115 (sh_S0 (by decide)) rfl (am_at eX11_isBlocked 5 rfl) ?_
  refine AE.run K eX11_isBlocked 6 1 (show am_run 2 ((tX11_isBlocked.drop 6).take 1) 12 [some (.ref (1)), some (.int (x1))] [.ref (sS 0 + 1)] = some (13, [some (.ref (1)), some (.int (x1))], [.int (x1), .ref (sS 0 + 1)]) from rfl) ?_
  refine AE.cv (f' := 0) (c' := 0) (lo' := 0) (st := []) (As := [.int (x1)]) (m := d_X6_isOpen 0 x1 V1) K hex (fun q hq => kX6_isOpen B hfl (i := 0) (by decide) hq) cv_X11_150 (sh_S1 (by decide)) (T := TX6) (N := 8) rfl rfl rfl (Nat.le_of_ble_eq_true rfl) ⟨Nat.le_of_ble_eq_true rfl, Nat.le_of_ble_eq_true rfl⟩ (by omega) (am_at eX11_isBlocked 7 rfl) h (rI_some h) (bkI (fun y3 V2 h => ?_))
  refine rB_of (P := fun (j : Int32 → am_V → am_R) => ∀ (bs0_24 : Int32) (V_24 : am_V), j bs0_24 V_24 = some r → AE U G 2 8 1 221 r 1 V_24 24 [none, none] [.int (bs0_24)]) h (fun bs0_24 V_24 h => ?_) (fun j24 hj24 h => ?_)
  · exact AE.zret K (by omega) (am_at eX11_isBlocked 12 rfl) h
  refine AE.if0 K 23 (am_at eX11_isBlocked 8 rfl) (by decide) rfl h (fun h => ?_) (fun h => ?_)
  · refine AE.run K eX11_isBlocked 11 1 (show am_run 2 ((tX11_isBlocked.drop 11).take 1) 23 [some (.ref (1)), some (.int (x1))] [] = some (24, [some (.ref (1)), some (.int (x1))], [.int (nI 0)]) from rfl) ?_
    exact AE.sub (L' := [none, none]) trivial (hj24 (nI 0) V2 h)
  · refine AE.run K eX11_isBlocked 9 2 (show am_run 2 ((tX11_isBlocked.drop 9).take 2) 19 [some (.ref (1)), some (.int (x1))] [] = some (24, [some (.ref (1)), some (.int (x1))], [.int (nI 1)]) from rfl) ?_
    exact AE.sub (L' := [none, none]) trivial (hj24 (nI 1) V2 h)
def d_X11_groupCount (V : am_V) : am_R := rI (d_X9_countGroups 0 (-1) V) (fun (y2 : Int32) (V1 : am_V) => some (.inl (some (.int (y2))), V1))
set_option maxRecDepth 100000 in
set_option maxHeartbeats 4000000 in
theorem kX11_groupCount {U : am_U} {l : Launch} (B : am_base xx U) (hfl : l.stackTraces = false) {V : am_V} {r : (Option Value ⊕ String) × am_V} (h : d_X11_groupCount V = some r) : am_Ct xx U l yX11_groupCount cX11_groupCount 1 (some .int) (rk 3 0 73) [.ref (1)] V (am_is r.1 r.2) := by
  refine am_Ct.of B hfl (by decide) (Nat.le_of_ble_eq_true rfl) ?_
  intro G hgl hgR hr ok h0 hex
  have K : aK U l G RX11 cX11_groupCount 1 (some .int) 3 0 73 := ⟨hgl, hgR, hr, ok, h0⟩
  unfold d_X11_groupCount at h
  show AE U G 1 3 0 73 r 0 V 0 [some (.ref (1))] []
  refine AE.run K eX11_groupCount 0 1 (show am_run 1 ((tX11_groupCount.drop 0).take 1) 0 [some (.ref (1))] [] = some (1, [some (.ref (1))], [.ref (1)]) from rfl) ?_
  refine AE.getR K gf_X11_32 rfl rfl (am_at eX11_groupCount 1 rfl) ?_
  refine AE.run K eX11_groupCount 2 1 (show am_run 1 ((tX11_groupCount.drop 2).take 1) 4 [some (.ref (1))] [.ref (4)] = some (5, [some (.ref (1))], [.ref (1), .ref (4)]) from rfl) ?_
  refine AE.getR K gf_X11_10 rfl rfl (am_at eX11_groupCount 3 rfl) ?_
  refine AE.getR K gf_X11_115 (sh_S0 (by decide)) rfl (am_at eX11_groupCount 4 rfl) ?_
  refine AE.run K eX11_groupCount 5 1 (show am_run 1 ((tX11_groupCount.drop 5).take 1) 11 [some (.ref (1))] [.ref (sS 0 + 1), .ref (4)] = some (12, [some (.ref (1))], [.int (-1), .ref (sS 0 + 1), .ref (4)]) from rfl) ?_
  refine AE.cv (f' := 2) (c' := 0) (lo' := 48) (st := []) (As := [.ref (sS 0 + 1), .int (-1)]) (m := d_X9_countGroups 0 (-1) V) K hex (fun q hq => kX9_countGroups B hfl (i := 0) (by decide) hq) cv_X11_154 rfl (T := TX9) (N := 7) rfl rfl rfl (Nat.le_of_ble_eq_true rfl) ⟨Nat.le_of_ble_eq_true rfl, Nat.le_of_ble_eq_true rfl⟩ (by omega) (am_at eX11_groupCount 6 rfl) h (rI_some h) (bkI (fun y2 V1 h => ?_))
  exact AE.iret K (by omega) (am_at eX11_groupCount 7 rfl) h
def d_X11_isConnected (x1 : Int32) (x2 : Int32) (V : am_V) : am_R := rU (d_X11_requireField x1 V) (fun (V1 : am_V) => rU (d_X11_requireField x2 V1) (fun (V2 : am_V) => rI (d_X9_groupAround 0 x1 (-1) V2) (fun (y4 : Int32) (V3 : am_V) => rI (d_X11_hasBit y4 x2 V3) (fun (y6 : Int32) (V5 : am_V) => rG (am_nb y6) (some (.inl (some (.int (y6))), V5))))))
set_option maxRecDepth 100000 in
set_option maxHeartbeats 4000000 in
theorem kX11_isConnected {U : am_U} {l : Launch} (B : am_base xx U) (hfl : l.stackTraces = false) {V : am_V} {x1 : Int32} {x2 : Int32} {r : (Option Value ⊕ String) × am_V} (h : d_X11_isConnected x1 x2 V = some r) : am_Ct xx U l yX11_isConnected cX11_isConnected 3 (some .boolean) (rk 8 2 221) [.ref (1), .int (x1), .int (x2)] V (am_is r.1 r.2) := by
  refine am_Ct.of B hfl (by decide) (Nat.le_of_ble_eq_true rfl) ?_
  intro G hgl hgR hr ok h0 hex
  have K : aK U l G RX11 cX11_isConnected 3 (some .boolean) 8 2 221 := ⟨hgl, hgR, hr, ok, h0⟩
  unfold d_X11_isConnected at h
  show AE U G 3 8 2 221 r 0 V 0 [some (.ref (1)), some (.int (x1)), some (.int (x2))] []
  refine AE.run K eX11_isConnected 0 2 (show am_run 3 ((tX11_isConnected.drop 0).take 2) 0 [some (.ref (1)), some (.int (x1)), some (.int (x2))] [] = some (2, [some (.ref (1)), some (.int (x1)), some (.int (x2))], [.int (x1), .ref (1)]) from rfl) ?_
  refine AE.cv (f' := 7) (c' := 1) (lo' := 200) (st := []) (As := [.int (x1)]) (m := d_X11_requireField x1 V) K hex (fun q hq => kX11_requireField B hfl hq) cv_X11_127 rfl (T := TX11) (N := 16) rfl rfl rfl (Nat.le_of_ble_eq_true rfl) ⟨Nat.le_of_ble_eq_true rfl, Nat.le_of_ble_eq_true rfl⟩ (by omega) (am_at eX11_isConnected 2 rfl) h (rU_some h) (bkU (fun V1 h => ?_))
  refine AE.run K eX11_isConnected 3 2 (show am_run 3 ((tX11_isConnected.drop 3).take 2) 5 [some (.ref (1)), some (.int (x1)), some (.int (x2))] [] = some (7, [some (.ref (1)), some (.int (x1)), some (.int (x2))], [.int (x2), .ref (1)]) from rfl) ?_
  refine AE.cv (f' := 7) (c' := 1) (lo' := 200) (st := []) (As := [.int (x2)]) (m := d_X11_requireField x2 V1) K hex (fun q hq => kX11_requireField B hfl hq) cv_X11_127 rfl (T := TX11) (N := 16) rfl rfl rfl (Nat.le_of_ble_eq_true rfl) ⟨Nat.le_of_ble_eq_true rfl, Nat.le_of_ble_eq_true rfl⟩ (by omega) (am_at eX11_isConnected 5 rfl) h (rU_some h) (bkU (fun V2 h => ?_))
  refine AE.run K eX11_isConnected 6 1 (show am_run 3 ((tX11_isConnected.drop 6).take 1) 10 [some (.ref (1)), some (.int (x1)), some (.int (x2))] [] = some (11, [some (.ref (1)), some (.int (x1)), some (.int (x2))], [.ref (1)]) from rfl) ?_
  refine AE.getR K gf_X11_32 rfl rfl (am_at eX11_isConnected 7 rfl) ?_
  refine AE.run K eX11_isConnected 8 1 (show am_run 3 ((tX11_isConnected.drop 8).take 1) 14 [some (.ref (1)), some (.int (x1)), some (.int (x2))] [.ref (4)] = some (15, [some (.ref (1)), some (.int (x1)), some (.int (x2))], [.ref (1), .ref (4)]) from rfl) ?_
  refine AE.getR K gf_X11_10 rfl rfl (am_at eX11_isConnected 9 rfl) ?_
  refine AE.getR K gf_X11_115 (sh_S0 (by decide)) rfl (am_at eX11_isConnected 10 rfl) ?_
  refine AE.run K eX11_isConnected 11 2 (show am_run 3 ((tX11_isConnected.drop 11).take 2) 21 [some (.ref (1)), some (.int (x1)), some (.int (x2))] [.ref (sS 0 + 1), .ref (4)] = some (23, [some (.ref (1)), some (.int (x1)), some (.int (x2))], [.int (-1), .int (x1), .ref (sS 0 + 1), .ref (4)]) from rfl) ?_
  refine AE.cv (f' := 1) (c' := 0) (lo' := 21) (st := []) (As := [.ref (sS 0 + 1), .int (x1), .int (-1)]) (m := d_X9_groupAround 0 x1 (-1) V2) K hex (fun q hq => kX9_groupAround B hfl (i := 0) (by decide) hq) cv_X11_158 rfl (T := TX9) (N := 7) rfl rfl rfl (Nat.le_of_ble_eq_true rfl) ⟨Nat.le_of_ble_eq_true rfl, Nat.le_of_ble_eq_true rfl⟩ (by omega) (am_at eX11_isConnected 13 rfl) h (rI_some h) (bkI (fun y4 V3 h => ?_))
  refine AE.run K eX11_isConnected 14 1 (show am_run 3 ((tX11_isConnected.drop 14).take 1) 26 [some (.ref (1)), some (.int (x1)), some (.int (x2))] [.int (y4)] = some (27, [some (.ref (1)), some (.int (x1)), some (.int (x2))], [.int (x2), .int (y4)]) from rfl) ?_
  refine AE.cs (f' := 0) (c' := 0) (lo' := 0) (st := []) (As := [.int (y4), .int (x2)]) (m := d_X11_hasBit y4 x2 V3) K hex (fun q hq => kX11_hasBit B hfl hq) cs_X11_162 rfl rfl (Nat.le_of_ble_eq_true rfl) ⟨Nat.le_of_ble_eq_true rfl, Nat.le_of_ble_eq_true rfl⟩ (by omega) (am_at eX11_isConnected 15 rfl) h (rI_some h) (bkI (fun y6 V5 h => ?_))
  exact AE.zret K (by omega) (am_at eX11_isConnected 16 rfl) h
def d_X11_wayCost (x1 : Int32) (x2 : Int32) (V : am_V) : am_R := rU (d_X11_requireField x1 V) (fun (V1 : am_V) => rU (d_X11_requireField x2 V1) (fun (V2 : am_V) => rI (d_X9_cheapestByVisiting 0 x1 x2 V2) (fun (y4 : Int32) (V3 : am_V) => rI (d_X11_requireWay y4 V3) (fun (y6 : Int32) (V5 : am_V) => some (.inl (some (.int (y6))), V5)))))
set_option maxRecDepth 100000 in
set_option maxHeartbeats 4000000 in
theorem kX11_wayCost {U : am_U} {l : Launch} (B : am_base xx U) (hfl : l.stackTraces = false) {V : am_V} {x1 : Int32} {x2 : Int32} {r : (Option Value ⊕ String) × am_V} (h : d_X11_wayCost x1 x2 V = some r) : am_Ct xx U l yX11_wayCost cX11_wayCost 3 (some .int) (rk 8 3 221) [.ref (1), .int (x1), .int (x2)] V (am_is r.1 r.2) := by
  refine am_Ct.of B hfl (by decide) (Nat.le_of_ble_eq_true rfl) ?_
  intro G hgl hgR hr ok h0 hex
  have K : aK U l G RX11 cX11_wayCost 3 (some .int) 8 3 221 := ⟨hgl, hgR, hr, ok, h0⟩
  unfold d_X11_wayCost at h
  show AE U G 3 8 3 221 r 0 V 0 [some (.ref (1)), some (.int (x1)), some (.int (x2))] []
  refine AE.run K eX11_wayCost 0 2 (show am_run 3 ((tX11_wayCost.drop 0).take 2) 0 [some (.ref (1)), some (.int (x1)), some (.int (x2))] [] = some (2, [some (.ref (1)), some (.int (x1)), some (.int (x2))], [.int (x1), .ref (1)]) from rfl) ?_
  refine AE.cv (f' := 7) (c' := 1) (lo' := 200) (st := []) (As := [.int (x1)]) (m := d_X11_requireField x1 V) K hex (fun q hq => kX11_requireField B hfl hq) cv_X11_127 rfl (T := TX11) (N := 16) rfl rfl rfl (Nat.le_of_ble_eq_true rfl) ⟨Nat.le_of_ble_eq_true rfl, Nat.le_of_ble_eq_true rfl⟩ (by omega) (am_at eX11_wayCost 2 rfl) h (rU_some h) (bkU (fun V1 h => ?_))
  refine AE.run K eX11_wayCost 3 2 (show am_run 3 ((tX11_wayCost.drop 3).take 2) 5 [some (.ref (1)), some (.int (x1)), some (.int (x2))] [] = some (7, [some (.ref (1)), some (.int (x1)), some (.int (x2))], [.int (x2), .ref (1)]) from rfl) ?_
  refine AE.cv (f' := 7) (c' := 1) (lo' := 200) (st := []) (As := [.int (x2)]) (m := d_X11_requireField x2 V1) K hex (fun q hq => kX11_requireField B hfl hq) cv_X11_127 rfl (T := TX11) (N := 16) rfl rfl rfl (Nat.le_of_ble_eq_true rfl) ⟨Nat.le_of_ble_eq_true rfl, Nat.le_of_ble_eq_true rfl⟩ (by omega) (am_at eX11_wayCost 5 rfl) h (rU_some h) (bkU (fun V2 h => ?_))
  refine AE.run K eX11_wayCost 6 1 (show am_run 3 ((tX11_wayCost.drop 6).take 1) 10 [some (.ref (1)), some (.int (x1)), some (.int (x2))] [] = some (11, [some (.ref (1)), some (.int (x1)), some (.int (x2))], [.ref (1)]) from rfl) ?_
  refine AE.getR K gf_X11_32 rfl rfl (am_at eX11_wayCost 7 rfl) ?_
  refine AE.run K eX11_wayCost 8 1 (show am_run 3 ((tX11_wayCost.drop 8).take 1) 14 [some (.ref (1)), some (.int (x1)), some (.int (x2))] [.ref (4)] = some (15, [some (.ref (1)), some (.int (x1)), some (.int (x2))], [.ref (1), .ref (4)]) from rfl) ?_
  refine AE.getR K gf_X11_10 rfl rfl (am_at eX11_wayCost 9 rfl) ?_
  refine AE.getR K gf_X11_115 (sh_S0 (by decide)) rfl (am_at eX11_wayCost 10 rfl) ?_
  refine AE.run K eX11_wayCost 11 2 (show am_run 3 ((tX11_wayCost.drop 11).take 2) 21 [some (.ref (1)), some (.int (x1)), some (.int (x2))] [.ref (sS 0 + 1), .ref (4)] = some (23, [some (.ref (1)), some (.int (x1)), some (.int (x2))], [.int (x2), .int (x1), .ref (sS 0 + 1), .ref (4)]) from rfl) ?_
  refine AE.cv (f' := 3) (c' := 0) (lo' := 84) (st := []) (As := [.ref (sS 0 + 1), .int (x1), .int (x2)]) (m := d_X9_cheapestByVisiting 0 x1 x2 V2) K hex (fun q hq => kX9_cheapestByVisiting B hfl (i := 0) (by decide) hq) cv_X11_166 rfl (T := TX9) (N := 7) rfl rfl rfl (Nat.le_of_ble_eq_true rfl) ⟨Nat.le_of_ble_eq_true rfl, Nat.le_of_ble_eq_true rfl⟩ (by omega) (am_at eX11_wayCost 13 rfl) h (rI_some h) (bkI (fun y4 V3 h => ?_))
  refine AE.cs (f' := 7) (c' := 1) (lo' := 200) (st := []) (As := [.int (y4)]) (m := d_X11_requireWay y4 V3) K hex (fun q hq => kX11_requireWay B hfl hq) cs_X11_169 rfl rfl (Nat.le_of_ble_eq_true rfl) ⟨Nat.le_of_ble_eq_true rfl, Nat.le_of_ble_eq_true rfl⟩ (by omega) (am_at eX11_wayCost 14 rfl) h (rI_some h) (bkI (fun y6 V5 h => ?_))
  exact AE.iret K (by omega) (am_at eX11_wayCost 15 rfl) h
def d_X11_wayCostByRounds (x1 : Int32) (x2 : Int32) (V : am_V) : am_R := rU (d_X11_requireField x1 V) (fun (V1 : am_V) => rU (d_X11_requireField x2 V1) (fun (V2 : am_V) => rI (d_X9_cheapestByLowering 0 x1 x2 V2) (fun (y4 : Int32) (V3 : am_V) => rI (d_X11_requireWay y4 V3) (fun (y6 : Int32) (V5 : am_V) => some (.inl (some (.int (y6))), V5)))))
set_option maxRecDepth 100000 in
set_option maxHeartbeats 4000000 in
theorem kX11_wayCostByRounds {U : am_U} {l : Launch} (B : am_base xx U) (hfl : l.stackTraces = false) {V : am_V} {x1 : Int32} {x2 : Int32} {r : (Option Value ⊕ String) × am_V} (h : d_X11_wayCostByRounds x1 x2 V = some r) : am_Ct xx U l yX11_wayCostByRounds cX11_wayCostByRounds 3 (some .int) (rk 8 3 221) [.ref (1), .int (x1), .int (x2)] V (am_is r.1 r.2) := by
  refine am_Ct.of B hfl (by decide) (Nat.le_of_ble_eq_true rfl) ?_
  intro G hgl hgR hr ok h0 hex
  have K : aK U l G RX11 cX11_wayCostByRounds 3 (some .int) 8 3 221 := ⟨hgl, hgR, hr, ok, h0⟩
  unfold d_X11_wayCostByRounds at h
  show AE U G 3 8 3 221 r 0 V 0 [some (.ref (1)), some (.int (x1)), some (.int (x2))] []
  refine AE.run K eX11_wayCostByRounds 0 2 (show am_run 3 ((tX11_wayCostByRounds.drop 0).take 2) 0 [some (.ref (1)), some (.int (x1)), some (.int (x2))] [] = some (2, [some (.ref (1)), some (.int (x1)), some (.int (x2))], [.int (x1), .ref (1)]) from rfl) ?_
  refine AE.cv (f' := 7) (c' := 1) (lo' := 200) (st := []) (As := [.int (x1)]) (m := d_X11_requireField x1 V) K hex (fun q hq => kX11_requireField B hfl hq) cv_X11_127 rfl (T := TX11) (N := 16) rfl rfl rfl (Nat.le_of_ble_eq_true rfl) ⟨Nat.le_of_ble_eq_true rfl, Nat.le_of_ble_eq_true rfl⟩ (by omega) (am_at eX11_wayCostByRounds 2 rfl) h (rU_some h) (bkU (fun V1 h => ?_))
  refine AE.run K eX11_wayCostByRounds 3 2 (show am_run 3 ((tX11_wayCostByRounds.drop 3).take 2) 5 [some (.ref (1)), some (.int (x1)), some (.int (x2))] [] = some (7, [some (.ref (1)), some (.int (x1)), some (.int (x2))], [.int (x2), .ref (1)]) from rfl) ?_
  refine AE.cv (f' := 7) (c' := 1) (lo' := 200) (st := []) (As := [.int (x2)]) (m := d_X11_requireField x2 V1) K hex (fun q hq => kX11_requireField B hfl hq) cv_X11_127 rfl (T := TX11) (N := 16) rfl rfl rfl (Nat.le_of_ble_eq_true rfl) ⟨Nat.le_of_ble_eq_true rfl, Nat.le_of_ble_eq_true rfl⟩ (by omega) (am_at eX11_wayCostByRounds 5 rfl) h (rU_some h) (bkU (fun V2 h => ?_))
  refine AE.run K eX11_wayCostByRounds 6 1 (show am_run 3 ((tX11_wayCostByRounds.drop 6).take 1) 10 [some (.ref (1)), some (.int (x1)), some (.int (x2))] [] = some (11, [some (.ref (1)), some (.int (x1)), some (.int (x2))], [.ref (1)]) from rfl) ?_
  refine AE.getR K gf_X11_32 rfl rfl (am_at eX11_wayCostByRounds 7 rfl) ?_
  refine AE.run K eX11_wayCostByRounds 8 1 (show am_run 3 ((tX11_wayCostByRounds.drop 8).take 1) 14 [some (.ref (1)), some (.int (x1)), some (.int (x2))] [.ref (4)] = some (15, [some (.ref (1)), some (.int (x1)), some (.int (x2))], [.ref (1), .ref (4)]) from rfl) ?_
  refine AE.getR K gf_X11_10 rfl rfl (am_at eX11_wayCostByRounds 9 rfl) ?_
  refine AE.getR K gf_X11_115 (sh_S0 (by decide)) rfl (am_at eX11_wayCostByRounds 10 rfl) ?_
  refine AE.run K eX11_wayCostByRounds 11 2 (show am_run 3 ((tX11_wayCostByRounds.drop 11).take 2) 21 [some (.ref (1)), some (.int (x1)), some (.int (x2))] [.ref (sS 0 + 1), .ref (4)] = some (23, [some (.ref (1)), some (.int (x1)), some (.int (x2))], [.int (x2), .int (x1), .ref (sS 0 + 1), .ref (4)]) from rfl) ?_
  refine AE.cv (f' := 2) (c' := 0) (lo' := 60) (st := []) (As := [.ref (sS 0 + 1), .int (x1), .int (x2)]) (m := d_X9_cheapestByLowering 0 x1 x2 V2) K hex (fun q hq => kX9_cheapestByLowering B hfl (i := 0) (by decide) hq) cv_X11_172 rfl (T := TX9) (N := 7) rfl rfl rfl (Nat.le_of_ble_eq_true rfl) ⟨Nat.le_of_ble_eq_true rfl, Nat.le_of_ble_eq_true rfl⟩ (by omega) (am_at eX11_wayCostByRounds 13 rfl) h (rI_some h) (bkI (fun y4 V3 h => ?_))
  refine AE.cs (f' := 7) (c' := 1) (lo' := 200) (st := []) (As := [.int (y4)]) (m := d_X11_requireWay y4 V3) K hex (fun q hq => kX11_requireWay B hfl hq) cs_X11_169 rfl rfl (Nat.le_of_ble_eq_true rfl) ⟨Nat.le_of_ble_eq_true rfl, Nat.le_of_ble_eq_true rfl⟩ (by omega) (am_at eX11_wayCostByRounds 14 rfl) h (rI_some h) (bkI (fun y6 V5 h => ?_))
  exact AE.iret K (by omega) (am_at eX11_wayCostByRounds 15 rfl) h
def d_X11_disjointWays (x1 : Int32) (x2 : Int32) (V : am_V) : am_R := rU (d_X11_requireTwoFields x1 x2 V) (fun (V1 : am_V) => rI (d_X9_mostDisjoint 0 x1 x2 V1) (fun (y3 : Int32) (V2 : am_V) => some (.inl (some (.int (y3))), V2)))
set_option maxRecDepth 100000 in
set_option maxHeartbeats 4000000 in
theorem kX11_disjointWays {U : am_U} {l : Launch} (B : am_base xx U) (hfl : l.stackTraces = false) {V : am_V} {x1 : Int32} {x2 : Int32} {r : (Option Value ⊕ String) × am_V} (h : d_X11_disjointWays x1 x2 V = some r) : am_Ct xx U l yX11_disjointWays cX11_disjointWays 3 (some .int) (rk 9 3 243) [.ref (1), .int (x1), .int (x2)] V (am_is r.1 r.2) := by
  refine am_Ct.of B hfl (by decide) (Nat.le_of_ble_eq_true rfl) ?_
  intro G hgl hgR hr ok h0 hex
  have K : aK U l G RX11 cX11_disjointWays 3 (some .int) 9 3 243 := ⟨hgl, hgR, hr, ok, h0⟩
  unfold d_X11_disjointWays at h
  show AE U G 3 9 3 243 r 0 V 0 [some (.ref (1)), some (.int (x1)), some (.int (x2))] []
  refine AE.run K eX11_disjointWays 0 3 (show am_run 3 ((tX11_disjointWays.drop 0).take 3) 0 [some (.ref (1)), some (.int (x1)), some (.int (x2))] [] = some (3, [some (.ref (1)), some (.int (x1)), some (.int (x2))], [.int (x2), .int (x1), .ref (1)]) from rfl) ?_
  refine AE.cv (f' := 8) (c' := 3) (lo' := 221) (st := []) (As := [.int (x1), .int (x2)]) (m := d_X11_requireTwoFields x1 x2 V) K hex (fun q hq => kX11_requireTwoFields B hfl hq) cv_X11_175 rfl (T := TX11) (N := 16) rfl rfl rfl (Nat.le_of_ble_eq_true rfl) ⟨Nat.le_of_ble_eq_true rfl, Nat.le_of_ble_eq_true rfl⟩ (by omega) (am_at eX11_disjointWays 3 rfl) h (rU_some h) (bkU (fun V1 h => ?_))
  refine AE.run K eX11_disjointWays 4 1 (show am_run 3 ((tX11_disjointWays.drop 4).take 1) 6 [some (.ref (1)), some (.int (x1)), some (.int (x2))] [] = some (7, [some (.ref (1)), some (.int (x1)), some (.int (x2))], [.ref (1)]) from rfl) ?_
  refine AE.getR K gf_X11_32 rfl rfl (am_at eX11_disjointWays 5 rfl) ?_
  refine AE.run K eX11_disjointWays 6 1 (show am_run 3 ((tX11_disjointWays.drop 6).take 1) 10 [some (.ref (1)), some (.int (x1)), some (.int (x2))] [.ref (4)] = some (11, [some (.ref (1)), some (.int (x1)), some (.int (x2))], [.ref (1), .ref (4)]) from rfl) ?_
  refine AE.getR K gf_X11_10 rfl rfl (am_at eX11_disjointWays 7 rfl) ?_
  refine AE.getR K gf_X11_115 (sh_S0 (by decide)) rfl (am_at eX11_disjointWays 8 rfl) ?_
  refine AE.run K eX11_disjointWays 9 2 (show am_run 3 ((tX11_disjointWays.drop 9).take 2) 17 [some (.ref (1)), some (.int (x1)), some (.int (x2))] [.ref (sS 0 + 1), .ref (4)] = some (19, [some (.ref (1)), some (.int (x1)), some (.int (x2))], [.int (x2), .int (x1), .ref (sS 0 + 1), .ref (4)]) from rfl) ?_
  refine AE.cv (f' := 3) (c' := 0) (lo' := 75) (st := []) (As := [.ref (sS 0 + 1), .int (x1), .int (x2)]) (m := d_X9_mostDisjoint 0 x1 x2 V1) K hex (fun q hq => kX9_mostDisjoint B hfl (i := 0) (by decide) hq) cv_X11_179 rfl (T := TX9) (N := 7) rfl rfl rfl (Nat.le_of_ble_eq_true rfl) ⟨Nat.le_of_ble_eq_true rfl, Nat.le_of_ble_eq_true rfl⟩ (by omega) (am_at eX11_disjointWays 11 rfl) h (rI_some h) (bkI (fun y3 V2 h => ?_))
  exact AE.iret K (by omega) (am_at eX11_disjointWays 12 rfl) h
def d_X11_smallestCut (x1 : Int32) (x2 : Int32) (V : am_V) : am_R := rU (d_X11_requireTwoFields x1 x2 V) (fun (V1 : am_V) => rI (d_X9_fewestLeaving 0 x1 x2 V1) (fun (y3 : Int32) (V2 : am_V) => some (.inl (some (.int (y3))), V2)))
set_option maxRecDepth 100000 in
set_option maxHeartbeats 4000000 in
theorem kX11_smallestCut {U : am_U} {l : Launch} (B : am_base xx U) (hfl : l.stackTraces = false) {V : am_V} {x1 : Int32} {x2 : Int32} {r : (Option Value ⊕ String) × am_V} (h : d_X11_smallestCut x1 x2 V = some r) : am_Ct xx U l yX11_smallestCut cX11_smallestCut 3 (some .int) (rk 9 3 243) [.ref (1), .int (x1), .int (x2)] V (am_is r.1 r.2) := by
  refine am_Ct.of B hfl (by decide) (Nat.le_of_ble_eq_true rfl) ?_
  intro G hgl hgR hr ok h0 hex
  have K : aK U l G RX11 cX11_smallestCut 3 (some .int) 9 3 243 := ⟨hgl, hgR, hr, ok, h0⟩
  unfold d_X11_smallestCut at h
  show AE U G 3 9 3 243 r 0 V 0 [some (.ref (1)), some (.int (x1)), some (.int (x2))] []
  refine AE.run K eX11_smallestCut 0 3 (show am_run 3 ((tX11_smallestCut.drop 0).take 3) 0 [some (.ref (1)), some (.int (x1)), some (.int (x2))] [] = some (3, [some (.ref (1)), some (.int (x1)), some (.int (x2))], [.int (x2), .int (x1), .ref (1)]) from rfl) ?_
  refine AE.cv (f' := 8) (c' := 3) (lo' := 221) (st := []) (As := [.int (x1), .int (x2)]) (m := d_X11_requireTwoFields x1 x2 V) K hex (fun q hq => kX11_requireTwoFields B hfl hq) cv_X11_175 rfl (T := TX11) (N := 16) rfl rfl rfl (Nat.le_of_ble_eq_true rfl) ⟨Nat.le_of_ble_eq_true rfl, Nat.le_of_ble_eq_true rfl⟩ (by omega) (am_at eX11_smallestCut 3 rfl) h (rU_some h) (bkU (fun V1 h => ?_))
  refine AE.run K eX11_smallestCut 4 1 (show am_run 3 ((tX11_smallestCut.drop 4).take 1) 6 [some (.ref (1)), some (.int (x1)), some (.int (x2))] [] = some (7, [some (.ref (1)), some (.int (x1)), some (.int (x2))], [.ref (1)]) from rfl) ?_
  refine AE.getR K gf_X11_32 rfl rfl (am_at eX11_smallestCut 5 rfl) ?_
  refine AE.run K eX11_smallestCut 6 1 (show am_run 3 ((tX11_smallestCut.drop 6).take 1) 10 [some (.ref (1)), some (.int (x1)), some (.int (x2))] [.ref (4)] = some (11, [some (.ref (1)), some (.int (x1)), some (.int (x2))], [.ref (1), .ref (4)]) from rfl) ?_
  refine AE.getR K gf_X11_10 rfl rfl (am_at eX11_smallestCut 7 rfl) ?_
  refine AE.getR K gf_X11_115 (sh_S0 (by decide)) rfl (am_at eX11_smallestCut 8 rfl) ?_
  refine AE.run K eX11_smallestCut 9 2 (show am_run 3 ((tX11_smallestCut.drop 9).take 2) 17 [some (.ref (1)), some (.int (x1)), some (.int (x2))] [.ref (sS 0 + 1), .ref (4)] = some (19, [some (.ref (1)), some (.int (x1)), some (.int (x2))], [.int (x2), .int (x1), .ref (sS 0 + 1), .ref (4)]) from rfl) ?_
  refine AE.cv (f' := 2) (c' := 0) (lo' := 60) (st := []) (As := [.ref (sS 0 + 1), .int (x1), .int (x2)]) (m := d_X9_fewestLeaving 0 x1 x2 V1) K hex (fun q hq => kX9_fewestLeaving B hfl (i := 0) (by decide) hq) cv_X11_182 rfl (T := TX9) (N := 7) rfl rfl rfl (Nat.le_of_ble_eq_true rfl) ⟨Nat.le_of_ble_eq_true rfl, Nat.le_of_ble_eq_true rfl⟩ (by omega) (am_at eX11_smallestCut 11 rfl) h (rI_some h) (bkI (fun y3 V2 h => ?_))
  exact AE.iret K (by omega) (am_at eX11_smallestCut 12 rfl) h
def d_X11_isBridge (x1 : Int32) (V : am_V) : am_R := rU (d_X11_requirePath x1 V) (fun (V1 : am_V) => rI (d_X9_partsGroups 0 x1 V1) (fun (y3 : Int32) (V2 : am_V) => rG (am_nb y3) (some (.inl (some (.int (y3))), V2))))
set_option maxRecDepth 100000 in
set_option maxHeartbeats 4000000 in
theorem kX11_isBridge {U : am_U} {l : Launch} (B : am_base xx U) (hfl : l.stackTraces = false) {V : am_V} {x1 : Int32} {r : (Option Value ⊕ String) × am_V} (h : d_X11_isBridge x1 V = some r) : am_Ct xx U l yX11_isBridge cX11_isBridge 2 (some .boolean) (rk 8 1 221) [.ref (1), .int (x1)] V (am_is r.1 r.2) := by
  refine am_Ct.of B hfl (by decide) (Nat.le_of_ble_eq_true rfl) ?_
  intro G hgl hgR hr ok h0 hex
  have K : aK U l G RX11 cX11_isBridge 2 (some .boolean) 8 1 221 := ⟨hgl, hgR, hr, ok, h0⟩
  unfold d_X11_isBridge at h
  show AE U G 2 8 1 221 r 0 V 0 [some (.ref (1)), some (.int (x1))] []
  refine AE.run K eX11_isBridge 0 2 (show am_run 2 ((tX11_isBridge.drop 0).take 2) 0 [some (.ref (1)), some (.int (x1))] [] = some (2, [some (.ref (1)), some (.int (x1))], [.int (x1), .ref (1)]) from rfl) ?_
  refine AE.cv (f' := 7) (c' := 1) (lo' := 200) (st := []) (As := [.int (x1)]) (m := d_X11_requirePath x1 V) K hex (fun q hq => kX11_requirePath B hfl hq) cv_X11_135 rfl (T := TX11) (N := 16) rfl rfl rfl (Nat.le_of_ble_eq_true rfl) ⟨Nat.le_of_ble_eq_true rfl, Nat.le_of_ble_eq_true rfl⟩ (by omega) (am_at eX11_isBridge 2 rfl) h (rU_some h) (bkU (fun V1 h => ?_))
  refine AE.run K eX11_isBridge 3 1 (show am_run 2 ((tX11_isBridge.drop 3).take 1) 5 [some (.ref (1)), some (.int (x1))] [] = some (6, [some (.ref (1)), some (.int (x1))], [.ref (1)]) from rfl) ?_
  refine AE.getR K gf_X11_32 rfl rfl (am_at eX11_isBridge 4 rfl) ?_
  refine AE.run K eX11_isBridge 5 1 (show am_run 2 ((tX11_isBridge.drop 5).take 1) 9 [some (.ref (1)), some (.int (x1))] [.ref (4)] = some (10, [some (.ref (1)), some (.int (x1))], [.ref (1), .ref (4)]) from rfl) ?_
  refine AE.getR K gf_X11_10 rfl rfl (am_at eX11_isBridge 6 rfl) ?_
  refine AE.getR K gf_X11_115 (sh_S0 (by decide)) rfl (am_at eX11_isBridge 7 rfl) ?_
  refine AE.run K eX11_isBridge 8 1 (show am_run 2 ((tX11_isBridge.drop 8).take 1) 16 [some (.ref (1)), some (.int (x1))] [.ref (sS 0 + 1), .ref (4)] = some (17, [some (.ref (1)), some (.int (x1))], [.int (x1), .ref (sS 0 + 1), .ref (4)]) from rfl) ?_
  refine AE.cv (f' := 3) (c' := 0) (lo' := 73) (st := []) (As := [.ref (sS 0 + 1), .int (x1)]) (m := d_X9_partsGroups 0 x1 V1) K hex (fun q hq => kX9_partsGroups B hfl (i := 0) (by decide) hq) cv_X11_185 rfl (T := TX9) (N := 7) rfl rfl rfl (Nat.le_of_ble_eq_true rfl) ⟨Nat.le_of_ble_eq_true rfl, Nat.le_of_ble_eq_true rfl⟩ (by omega) (am_at eX11_isBridge 9 rfl) h (rI_some h) (bkI (fun y3 V2 h => ?_))
  exact AE.zret K (by omega) (am_at eX11_isBridge 10 rfl) h
def d_X11_bridgeCount (V : am_V) : am_R := rI (d_X9_countBridgesByWalk 0 V) (fun (y2 : Int32) (V1 : am_V) => some (.inl (some (.int (y2))), V1))
set_option maxRecDepth 100000 in
set_option maxHeartbeats 4000000 in
theorem kX11_bridgeCount {U : am_U} {l : Launch} (B : am_base xx U) (hfl : l.stackTraces = false) {V : am_V} {r : (Option Value ⊕ String) × am_V} (h : d_X11_bridgeCount V = some r) : am_Ct xx U l yX11_bridgeCount cX11_bridgeCount 1 (some .int) (rk 5 0 133) [.ref (1)] V (am_is r.1 r.2) := by
  refine am_Ct.of B hfl (by decide) (Nat.le_of_ble_eq_true rfl) ?_
  intro G hgl hgR hr ok h0 hex
  have K : aK U l G RX11 cX11_bridgeCount 1 (some .int) 5 0 133 := ⟨hgl, hgR, hr, ok, h0⟩
  unfold d_X11_bridgeCount at h
  show AE U G 1 5 0 133 r 0 V 0 [some (.ref (1))] []
  refine AE.run K eX11_bridgeCount 0 1 (show am_run 1 ((tX11_bridgeCount.drop 0).take 1) 0 [some (.ref (1))] [] = some (1, [some (.ref (1))], [.ref (1)]) from rfl) ?_
  refine AE.getR K gf_X11_32 rfl rfl (am_at eX11_bridgeCount 1 rfl) ?_
  refine AE.run K eX11_bridgeCount 2 1 (show am_run 1 ((tX11_bridgeCount.drop 2).take 1) 4 [some (.ref (1))] [.ref (4)] = some (5, [some (.ref (1))], [.ref (1), .ref (4)]) from rfl) ?_
  refine AE.getR K gf_X11_10 rfl rfl (am_at eX11_bridgeCount 3 rfl) ?_
  refine AE.getR K gf_X11_115 (sh_S0 (by decide)) rfl (am_at eX11_bridgeCount 4 rfl) ?_
  refine AE.cv (f' := 4) (c' := 0) (lo' := 110) (st := []) (As := [.ref (sS 0 + 1)]) (m := d_X9_countBridgesByWalk 0 V) K hex (fun q hq => kX9_countBridgesByWalk B hfl (i := 0) (by decide) hq) cv_X11_189 rfl (T := TX9) (N := 7) rfl rfl rfl (Nat.le_of_ble_eq_true rfl) ⟨Nat.le_of_ble_eq_true rfl, Nat.le_of_ble_eq_true rfl⟩ (by omega) (am_at eX11_bridgeCount 5 rfl) h (rI_some h) (bkI (fun y2 V1 h => ?_))
  exact AE.iret K (by omega) (am_at eX11_bridgeCount 6 rfl) h
def d_X11_bridgeCountByBlocking (V : am_V) : am_R := rI (d_X9_countBridgesByGroups 0 V) (fun (y2 : Int32) (V1 : am_V) => some (.inl (some (.int (y2))), V1))
set_option maxRecDepth 100000 in
set_option maxHeartbeats 4000000 in
theorem kX11_bridgeCountByBlocking {U : am_U} {l : Launch} (B : am_base xx U) (hfl : l.stackTraces = false) {V : am_V} {r : (Option Value ⊕ String) × am_V} (h : d_X11_bridgeCountByBlocking V = some r) : am_Ct xx U l yX11_bridgeCountByBlocking cX11_bridgeCountByBlocking 1 (some .int) (rk 5 0 118) [.ref (1)] V (am_is r.1 r.2) := by
  refine am_Ct.of B hfl (by decide) (Nat.le_of_ble_eq_true rfl) ?_
  intro G hgl hgR hr ok h0 hex
  have K : aK U l G RX11 cX11_bridgeCountByBlocking 1 (some .int) 5 0 118 := ⟨hgl, hgR, hr, ok, h0⟩
  unfold d_X11_bridgeCountByBlocking at h
  show AE U G 1 5 0 118 r 0 V 0 [some (.ref (1))] []
  refine AE.run K eX11_bridgeCountByBlocking 0 1 (show am_run 1 ((tX11_bridgeCountByBlocking.drop 0).take 1) 0 [some (.ref (1))] [] = some (1, [some (.ref (1))], [.ref (1)]) from rfl) ?_
  refine AE.getR K gf_X11_32 rfl rfl (am_at eX11_bridgeCountByBlocking 1 rfl) ?_
  refine AE.run K eX11_bridgeCountByBlocking 2 1 (show am_run 1 ((tX11_bridgeCountByBlocking.drop 2).take 1) 4 [some (.ref (1))] [.ref (4)] = some (5, [some (.ref (1))], [.ref (1), .ref (4)]) from rfl) ?_
  refine AE.getR K gf_X11_10 rfl rfl (am_at eX11_bridgeCountByBlocking 3 rfl) ?_
  refine AE.getR K gf_X11_115 (sh_S0 (by decide)) rfl (am_at eX11_bridgeCountByBlocking 4 rfl) ?_
  refine AE.cv (f' := 4) (c' := 0) (lo' := 95) (st := []) (As := [.ref (sS 0 + 1)]) (m := d_X9_countBridgesByGroups 0 V) K hex (fun q hq => kX9_countBridgesByGroups B hfl (i := 0) (by decide) hq) cv_X11_193 rfl (T := TX9) (N := 7) rfl rfl rfl (Nat.le_of_ble_eq_true rfl) ⟨Nat.le_of_ble_eq_true rfl, Nat.le_of_ble_eq_true rfl⟩ (by omega) (am_at eX11_bridgeCountByBlocking 5 rfl) h (rI_some h) (bkI (fun y2 V1 h => ?_))
  exact AE.iret K (by omega) (am_at eX11_bridgeCountByBlocking 6 rfl) h
def d_X11_treeCost (x1 : Int32) (V : am_V) : am_R := rU (d_X11_requireField x1 V) (fun (V1 : am_V) => rI (d_X7_costInOrder 20 0 x1 V1) (fun (y3 : Int32) (V2 : am_V) => some (.inl (some (.int (y3))), V2)))
set_option maxRecDepth 100000 in
set_option maxHeartbeats 4000000 in
theorem kX11_treeCost {U : am_U} {l : Launch} (B : am_base xx U) (hfl : l.stackTraces = false) {V : am_V} {x1 : Int32} {r : (Option Value ⊕ String) × am_V} (h : d_X11_treeCost x1 V = some r) : am_Ct xx U l yX11_treeCost cX11_treeCost 2 (some .int) (rk 8 1 221) [.ref (1), .int (x1)] V (am_is r.1 r.2) := by
  refine am_Ct.of B hfl (by decide) (Nat.le_of_ble_eq_true rfl) ?_
  intro G hgl hgR hr ok h0 hex
  have K : aK U l G RX11 cX11_treeCost 2 (some .int) 8 1 221 := ⟨hgl, hgR, hr, ok, h0⟩
  unfold d_X11_treeCost at h
  show AE U G 2 8 1 221 r 0 V 0 [some (.ref (1)), some (.int (x1))] []
  refine AE.run K eX11_treeCost 0 2 (show am_run 2 ((tX11_treeCost.drop 0).take 2) 0 [some (.ref (1)), some (.int (x1))] [] = some (2, [some (.ref (1)), some (.int (x1))], [.int (x1), .ref (1)]) from rfl) ?_
  refine AE.cv (f' := 7) (c' := 1) (lo' := 200) (st := []) (As := [.int (x1)]) (m := d_X11_requireField x1 V) K hex (fun q hq => kX11_requireField B hfl hq) cv_X11_127 rfl (T := TX11) (N := 16) rfl rfl rfl (Nat.le_of_ble_eq_true rfl) ⟨Nat.le_of_ble_eq_true rfl, Nat.le_of_ble_eq_true rfl⟩ (by omega) (am_at eX11_treeCost 2 rfl) h (rU_some h) (bkU (fun V1 h => ?_))
  refine AE.run K eX11_treeCost 3 1 (show am_run 2 ((tX11_treeCost.drop 3).take 1) 5 [some (.ref (1)), some (.int (x1))] [] = some (6, [some (.ref (1)), some (.int (x1))], [.ref (1)]) from rfl) ?_
  refine AE.getR K gf_X11_39 rfl rfl (am_at eX11_treeCost 4 rfl) ?_
  refine AE.run K eX11_treeCost 5 1 (show am_run 2 ((tX11_treeCost.drop 5).take 1) 9 [some (.ref (1)), some (.int (x1))] [.ref (20)] = some (10, [some (.ref (1)), some (.int (x1))], [.ref (1), .ref (20)]) from rfl) ?_
  refine AE.getR K gf_X11_10 rfl rfl (am_at eX11_treeCost 6 rfl) ?_
  refine AE.getR K gf_X11_115 (sh_S0 (by decide)) rfl (am_at eX11_treeCost 7 rfl) ?_
  refine AE.run K eX11_treeCost 8 1 (show am_run 2 ((tX11_treeCost.drop 8).take 1) 16 [some (.ref (1)), some (.int (x1))] [.ref (sS 0 + 1), .ref (20)] = some (17, [some (.ref (1)), some (.int (x1))], [.int (x1), .ref (sS 0 + 1), .ref (20)]) from rfl) ?_
  refine AE.cv (f' := 3) (c' := 0) (lo' := 71) (st := []) (As := [.ref (sS 0 + 1), .int (x1)]) (m := d_X7_costInOrder 20 0 x1 V1) K hex (fun q hq => kX7_costInOrder B hfl (t := 20) (i := 0) (by decide) (by decide) hq) cv_X11_196 (sh_T0 (by decide)) (T := TX7) (N := 5) rfl rfl rfl (Nat.le_of_ble_eq_true rfl) ⟨Nat.le_of_ble_eq_true rfl, Nat.le_of_ble_eq_true rfl⟩ (by omega) (am_at eX11_treeCost 9 rfl) h (rI_some h) (bkI (fun y3 V2 h => ?_))
  exact AE.iret K (by omega) (am_at eX11_treeCost 10 rfl) h
def d_X11_treeCostByGrowing (x1 : Int32) (V : am_V) : am_R := rU (d_X11_requireField x1 V) (fun (V1 : am_V) => rI (d_X7_costGrown 20 0 x1 V1) (fun (y3 : Int32) (V2 : am_V) => some (.inl (some (.int (y3))), V2)))
set_option maxRecDepth 100000 in
set_option maxHeartbeats 4000000 in
theorem kX11_treeCostByGrowing {U : am_U} {l : Launch} (B : am_base xx U) (hfl : l.stackTraces = false) {V : am_V} {x1 : Int32} {r : (Option Value ⊕ String) × am_V} (h : d_X11_treeCostByGrowing x1 V = some r) : am_Ct xx U l yX11_treeCostByGrowing cX11_treeCostByGrowing 2 (some .int) (rk 8 1 221) [.ref (1), .int (x1)] V (am_is r.1 r.2) := by
  refine am_Ct.of B hfl (by decide) (Nat.le_of_ble_eq_true rfl) ?_
  intro G hgl hgR hr ok h0 hex
  have K : aK U l G RX11 cX11_treeCostByGrowing 2 (some .int) 8 1 221 := ⟨hgl, hgR, hr, ok, h0⟩
  unfold d_X11_treeCostByGrowing at h
  show AE U G 2 8 1 221 r 0 V 0 [some (.ref (1)), some (.int (x1))] []
  refine AE.run K eX11_treeCostByGrowing 0 2 (show am_run 2 ((tX11_treeCostByGrowing.drop 0).take 2) 0 [some (.ref (1)), some (.int (x1))] [] = some (2, [some (.ref (1)), some (.int (x1))], [.int (x1), .ref (1)]) from rfl) ?_
  refine AE.cv (f' := 7) (c' := 1) (lo' := 200) (st := []) (As := [.int (x1)]) (m := d_X11_requireField x1 V) K hex (fun q hq => kX11_requireField B hfl hq) cv_X11_127 rfl (T := TX11) (N := 16) rfl rfl rfl (Nat.le_of_ble_eq_true rfl) ⟨Nat.le_of_ble_eq_true rfl, Nat.le_of_ble_eq_true rfl⟩ (by omega) (am_at eX11_treeCostByGrowing 2 rfl) h (rU_some h) (bkU (fun V1 h => ?_))
  refine AE.run K eX11_treeCostByGrowing 3 1 (show am_run 2 ((tX11_treeCostByGrowing.drop 3).take 1) 5 [some (.ref (1)), some (.int (x1))] [] = some (6, [some (.ref (1)), some (.int (x1))], [.ref (1)]) from rfl) ?_
  refine AE.getR K gf_X11_39 rfl rfl (am_at eX11_treeCostByGrowing 4 rfl) ?_
  refine AE.run K eX11_treeCostByGrowing 5 1 (show am_run 2 ((tX11_treeCostByGrowing.drop 5).take 1) 9 [some (.ref (1)), some (.int (x1))] [.ref (20)] = some (10, [some (.ref (1)), some (.int (x1))], [.ref (1), .ref (20)]) from rfl) ?_
  refine AE.getR K gf_X11_10 rfl rfl (am_at eX11_treeCostByGrowing 6 rfl) ?_
  refine AE.getR K gf_X11_115 (sh_S0 (by decide)) rfl (am_at eX11_treeCostByGrowing 7 rfl) ?_
  refine AE.run K eX11_treeCostByGrowing 8 1 (show am_run 2 ((tX11_treeCostByGrowing.drop 8).take 1) 16 [some (.ref (1)), some (.int (x1))] [.ref (sS 0 + 1), .ref (20)] = some (17, [some (.ref (1)), some (.int (x1))], [.int (x1), .ref (sS 0 + 1), .ref (20)]) from rfl) ?_
  refine AE.cv (f' := 3) (c' := 0) (lo' := 71) (st := []) (As := [.ref (sS 0 + 1), .int (x1)]) (m := d_X7_costGrown 20 0 x1 V1) K hex (fun q hq => kX7_costGrown B hfl (t := 20) (i := 0) (by decide) (by decide) hq) cv_X11_199 (sh_T0 (by decide)) (T := TX7) (N := 5) rfl rfl rfl (Nat.le_of_ble_eq_true rfl) ⟨Nat.le_of_ble_eq_true rfl, Nat.le_of_ble_eq_true rfl⟩ (by omega) (am_at eX11_treeCostByGrowing 9 rfl) h (rI_some h) (bkI (fun y3 V2 h => ?_))
  exact AE.iret K (by omega) (am_at eX11_treeCostByGrowing 10 rfl) h
def d_X11_isInTree (x1 : Int32) (x2 : Int32) (V : am_V) : am_R := rU (d_X11_requireField x1 V) (fun (V1 : am_V) => rU (d_X11_requirePath x2 V1) (fun (V2 : am_V) => rI (d_X7_chooseInOrder 20 0 x1 V2) (fun (y4 : Int32) (V3 : am_V) => rI (d_X11_hasBit y4 x2 V3) (fun (y6 : Int32) (V5 : am_V) => rG (am_nb y6) (some (.inl (some (.int (y6))), V5))))))
set_option maxRecDepth 100000 in
set_option maxHeartbeats 4000000 in
theorem kX11_isInTree {U : am_U} {l : Launch} (B : am_base xx U) (hfl : l.stackTraces = false) {V : am_V} {x1 : Int32} {x2 : Int32} {r : (Option Value ⊕ String) × am_V} (h : d_X11_isInTree x1 x2 V = some r) : am_Ct xx U l yX11_isInTree cX11_isInTree 3 (some .boolean) (rk 8 2 221) [.ref (1), .int (x1), .int (x2)] V (am_is r.1 r.2) := by
  refine am_Ct.of B hfl (by decide) (Nat.le_of_ble_eq_true rfl) ?_
  intro G hgl hgR hr ok h0 hex
  have K : aK U l G RX11 cX11_isInTree 3 (some .boolean) 8 2 221 := ⟨hgl, hgR, hr, ok, h0⟩
  unfold d_X11_isInTree at h
  show AE U G 3 8 2 221 r 0 V 0 [some (.ref (1)), some (.int (x1)), some (.int (x2))] []
  refine AE.run K eX11_isInTree 0 2 (show am_run 3 ((tX11_isInTree.drop 0).take 2) 0 [some (.ref (1)), some (.int (x1)), some (.int (x2))] [] = some (2, [some (.ref (1)), some (.int (x1)), some (.int (x2))], [.int (x1), .ref (1)]) from rfl) ?_
  refine AE.cv (f' := 7) (c' := 1) (lo' := 200) (st := []) (As := [.int (x1)]) (m := d_X11_requireField x1 V) K hex (fun q hq => kX11_requireField B hfl hq) cv_X11_127 rfl (T := TX11) (N := 16) rfl rfl rfl (Nat.le_of_ble_eq_true rfl) ⟨Nat.le_of_ble_eq_true rfl, Nat.le_of_ble_eq_true rfl⟩ (by omega) (am_at eX11_isInTree 2 rfl) h (rU_some h) (bkU (fun V1 h => ?_))
  refine AE.run K eX11_isInTree 3 2 (show am_run 3 ((tX11_isInTree.drop 3).take 2) 5 [some (.ref (1)), some (.int (x1)), some (.int (x2))] [] = some (7, [some (.ref (1)), some (.int (x1)), some (.int (x2))], [.int (x2), .ref (1)]) from rfl) ?_
  refine AE.cv (f' := 7) (c' := 1) (lo' := 200) (st := []) (As := [.int (x2)]) (m := d_X11_requirePath x2 V1) K hex (fun q hq => kX11_requirePath B hfl hq) cv_X11_135 rfl (T := TX11) (N := 16) rfl rfl rfl (Nat.le_of_ble_eq_true rfl) ⟨Nat.le_of_ble_eq_true rfl, Nat.le_of_ble_eq_true rfl⟩ (by omega) (am_at eX11_isInTree 5 rfl) h (rU_some h) (bkU (fun V2 h => ?_))
  refine AE.run K eX11_isInTree 6 1 (show am_run 3 ((tX11_isInTree.drop 6).take 1) 10 [some (.ref (1)), some (.int (x1)), some (.int (x2))] [] = some (11, [some (.ref (1)), some (.int (x1)), some (.int (x2))], [.ref (1)]) from rfl) ?_
  refine AE.getR K gf_X11_39 rfl rfl (am_at eX11_isInTree 7 rfl) ?_
  refine AE.run K eX11_isInTree 8 1 (show am_run 3 ((tX11_isInTree.drop 8).take 1) 14 [some (.ref (1)), some (.int (x1)), some (.int (x2))] [.ref (20)] = some (15, [some (.ref (1)), some (.int (x1)), some (.int (x2))], [.ref (1), .ref (20)]) from rfl) ?_
  refine AE.getR K gf_X11_10 rfl rfl (am_at eX11_isInTree 9 rfl) ?_
  refine AE.getR K gf_X11_115 (sh_S0 (by decide)) rfl (am_at eX11_isInTree 10 rfl) ?_
  refine AE.run K eX11_isInTree 11 1 (show am_run 3 ((tX11_isInTree.drop 11).take 1) 21 [some (.ref (1)), some (.int (x1)), some (.int (x2))] [.ref (sS 0 + 1), .ref (20)] = some (22, [some (.ref (1)), some (.int (x1)), some (.int (x2))], [.int (x1), .ref (sS 0 + 1), .ref (20)]) from rfl) ?_
  refine AE.cv (f' := 2) (c' := 0) (lo' := 46) (st := []) (As := [.ref (sS 0 + 1), .int (x1)]) (m := d_X7_chooseInOrder 20 0 x1 V2) K hex (fun q hq => kX7_chooseInOrder B hfl (t := 20) (i := 0) (by decide) (by decide) hq) cv_X11_202 (sh_T0 (by decide)) (T := TX7) (N := 5) rfl rfl rfl (Nat.le_of_ble_eq_true rfl) ⟨Nat.le_of_ble_eq_true rfl, Nat.le_of_ble_eq_true rfl⟩ (by omega) (am_at eX11_isInTree 12 rfl) h (rI_some h) (bkI (fun y4 V3 h => ?_))
  refine AE.run K eX11_isInTree 13 1 (show am_run 3 ((tX11_isInTree.drop 13).take 1) 25 [some (.ref (1)), some (.int (x1)), some (.int (x2))] [.int (y4)] = some (26, [some (.ref (1)), some (.int (x1)), some (.int (x2))], [.int (x2), .int (y4)]) from rfl) ?_
  refine AE.cs (f' := 0) (c' := 0) (lo' := 0) (st := []) (As := [.int (y4), .int (x2)]) (m := d_X11_hasBit y4 x2 V3) K hex (fun q hq => kX11_hasBit B hfl hq) cs_X11_162 rfl rfl (Nat.le_of_ble_eq_true rfl) ⟨Nat.le_of_ble_eq_true rfl, Nat.le_of_ble_eq_true rfl⟩ (by omega) (am_at eX11_isInTree 14 rfl) h (rI_some h) (bkI (fun y6 V5 h => ?_))
  exact AE.zret K (by omega) (am_at eX11_isInTree 15 rfl) h
def d_X11_parentIn (x1 : Int32) (x2 : Int32) (V : am_V) : am_R := rU (d_X11_requireField x1 V) (fun (V1 : am_V) => rU (d_X11_requireField x2 V1) (fun (V2 : am_V) => rU (d_X7_grow 20 0 x1 V2) (fun (V3 : am_V) => rG (am_in x2 9) ((if ¬ (V3 (20 + 1) (iN x2)) = (-1) then rG (am_in x2 9) (some (.inl (some (.int (V3 (20 + 1) (iN x2)))), V3)) else some (.inr "java/util/NoSuchElementException", V3))))))
set_option maxRecDepth 100000 in
set_option maxHeartbeats 4000000 in
theorem kX11_parentIn {U : am_U} {l : Launch} (B : am_base xx U) (hfl : l.stackTraces = false) {V : am_V} {x1 : Int32} {x2 : Int32} {r : (Option Value ⊕ String) × am_V} (h : d_X11_parentIn x1 x2 V = some r) : am_Ct xx U l yX11_parentIn cX11_parentIn 3 (some .int) (rk 8 3 221) [.ref (1), .int (x1), .int (x2)] V (am_is r.1 r.2) := by
  refine am_Ct.of B hfl (by decide) (Nat.le_of_ble_eq_true rfl) ?_
  intro G hgl hgR hr ok h0 hex
  have K : aK U l G RX11 cX11_parentIn 3 (some .int) 8 3 221 := ⟨hgl, hgR, hr, ok, h0⟩
  unfold d_X11_parentIn at h
  show AE U G 3 8 3 221 r 0 V 0 [some (.ref (1)), some (.int (x1)), some (.int (x2))] []
  refine AE.run K eX11_parentIn 0 2 (show am_run 3 ((tX11_parentIn.drop 0).take 2) 0 [some (.ref (1)), some (.int (x1)), some (.int (x2))] [] = some (2, [some (.ref (1)), some (.int (x1)), some (.int (x2))], [.int (x1), .ref (1)]) from rfl) ?_
  refine AE.cv (f' := 7) (c' := 1) (lo' := 200) (st := []) (As := [.int (x1)]) (m := d_X11_requireField x1 V) K hex (fun q hq => kX11_requireField B hfl hq) cv_X11_127 rfl (T := TX11) (N := 16) rfl rfl rfl (Nat.le_of_ble_eq_true rfl) ⟨Nat.le_of_ble_eq_true rfl, Nat.le_of_ble_eq_true rfl⟩ (by omega) (am_at eX11_parentIn 2 rfl) h (rU_some h) (bkU (fun V1 h => ?_))
  refine AE.run K eX11_parentIn 3 2 (show am_run 3 ((tX11_parentIn.drop 3).take 2) 5 [some (.ref (1)), some (.int (x1)), some (.int (x2))] [] = some (7, [some (.ref (1)), some (.int (x1)), some (.int (x2))], [.int (x2), .ref (1)]) from rfl) ?_
  refine AE.cv (f' := 7) (c' := 1) (lo' := 200) (st := []) (As := [.int (x2)]) (m := d_X11_requireField x2 V1) K hex (fun q hq => kX11_requireField B hfl hq) cv_X11_127 rfl (T := TX11) (N := 16) rfl rfl rfl (Nat.le_of_ble_eq_true rfl) ⟨Nat.le_of_ble_eq_true rfl, Nat.le_of_ble_eq_true rfl⟩ (by omega) (am_at eX11_parentIn 5 rfl) h (rU_some h) (bkU (fun V2 h => ?_))
  refine AE.run K eX11_parentIn 6 1 (show am_run 3 ((tX11_parentIn.drop 6).take 1) 10 [some (.ref (1)), some (.int (x1)), some (.int (x2))] [] = some (11, [some (.ref (1)), some (.int (x1)), some (.int (x2))], [.ref (1)]) from rfl) ?_
  refine AE.getR K gf_X11_39 rfl rfl (am_at eX11_parentIn 7 rfl) ?_
  refine AE.run K eX11_parentIn 8 1 (show am_run 3 ((tX11_parentIn.drop 8).take 1) 14 [some (.ref (1)), some (.int (x1)), some (.int (x2))] [.ref (20)] = some (15, [some (.ref (1)), some (.int (x1)), some (.int (x2))], [.ref (1), .ref (20)]) from rfl) ?_
  refine AE.getR K gf_X11_10 rfl rfl (am_at eX11_parentIn 9 rfl) ?_
  refine AE.getR K gf_X11_115 (sh_S0 (by decide)) rfl (am_at eX11_parentIn 10 rfl) ?_
  refine AE.run K eX11_parentIn 11 1 (show am_run 3 ((tX11_parentIn.drop 11).take 1) 21 [some (.ref (1)), some (.int (x1)), some (.int (x2))] [.ref (sS 0 + 1), .ref (20)] = some (22, [some (.ref (1)), some (.int (x1)), some (.int (x2))], [.int (x1), .ref (sS 0 + 1), .ref (20)]) from rfl) ?_
  refine AE.cv (f' := 2) (c' := 0) (lo' := 47) (st := []) (As := [.ref (sS 0 + 1), .int (x1)]) (m := d_X7_grow 20 0 x1 V2) K hex (fun q hq => kX7_grow B hfl (t := 20) (i := 0) (by decide) (by decide) hq) cv_X11_205 (sh_T0 (by decide)) (T := TX7) (N := 5) rfl rfl rfl (Nat.le_of_ble_eq_true rfl) ⟨Nat.le_of_ble_eq_true rfl, Nat.le_of_ble_eq_true rfl⟩ (by omega) (am_at eX11_parentIn 12 rfl) h (rU_some h) (bkU (fun V3 h => ?_))
  refine AE.run K eX11_parentIn 13 1 (show am_run 3 ((tX11_parentIn.drop 13).take 1) 25 [some (.ref (1)), some (.int (x1)), some (.int (x2))] [] = some (26, [some (.ref (1)), some (.int (x1)), some (.int (x2))], [.ref (1)]) from rfl) ?_
  refine AE.getR K gf_X11_39 rfl rfl (am_at eX11_parentIn 14 rfl) ?_
  refine AE.getR K gf_X11_209 (sh_T0 (by decide)) rfl (am_at eX11_parentIn 15 rfl) ?_
  refine AE.run K eX11_parentIn 16 1 (show am_run 3 ((tX11_parentIn.drop 16).take 1) 32 [some (.ref (1)), some (.int (x1)), some (.int (x2))] [.ref (20 + 1)] = some (33, [some (.ref (1)), some (.int (x1)), some (.int (x2))], [.int (x2), .ref (20 + 1)]) from rfl) ?_
  refine AE.iald K (sh_T1 (by decide)) (am_at eX11_parentIn 17 rfl) h (fun h => ?_)
  refine AE.run K eX11_parentIn 18 1 (show am_run 3 ((tX11_parentIn.drop 18).take 1) 34 [some (.ref (1)), some (.int (x1)), some (.int (x2))] [.int (V3 (20 + 1) (iN x2))] = some (35, [some (.ref (1)), some (.int (x1)), some (.int (x2))], [.int (-1), .int (V3 (20 + 1) (iN x2))]) from rfl) ?_
  refine AE.ic K 48 (am_at eX11_parentIn 19 rfl) (by decide) rfl h (fun h => ?_) (fun h => ?_)
  · refine AE.run K eX11_parentIn 25 1 (show am_run 3 ((tX11_parentIn.drop 25).take 1) 48 [some (.ref (1)), some (.int (x1)), some (.int (x2))] [] = some (49, [some (.ref (1)), some (.int (x1)), some (.int (x2))], [.ref (1)]) from rfl) ?_
    refine AE.getR K gf_X11_39 rfl rfl (am_at eX11_parentIn 26 rfl) ?_
    refine AE.getR K gf_X11_209 (sh_T0 (by decide)) rfl (am_at eX11_parentIn 27 rfl) ?_
    refine AE.run K eX11_parentIn 28 1 (show am_run 3 ((tX11_parentIn.drop 28).take 1) 55 [some (.ref (1)), some (.int (x1)), some (.int (x2))] [.ref (20 + 1)] = some (56, [some (.ref (1)), some (.int (x1)), some (.int (x2))], [.int (x2), .ref (20 + 1)]) from rfl) ?_
    refine AE.iald K (sh_T1 (by decide)) (am_at eX11_parentIn 29 rfl) h (fun h => ?_)
    exact AE.iret K (by omega) (am_at eX11_parentIn 30 rfl) h
  · exact AE.throwT K hex th_X11_212_214 (am_at eX11_parentIn 20 rfl) (am_at eX11_parentIn 21 rfl) (am_at eX11_parentIn 22 rfl) (am_at eX11_parentIn 23 rfl) (am_at eX11_parentIn 24 rfl) (by decide) (Nat.le_of_ble_eq_true rfl) (by omega) h
def d_X11_reachChance (x1 : Int32) (x2 : Int32) (V : am_V) : am_R := rU (d_X11_requireField x1 V) (fun (V1 : am_V) => rU (d_X11_requireField x2 V1) (fun (V2 : am_V) => rU (d_X7_grow 20 0 x1 V2) (fun (V3 : am_V) => rG (am_in x2 9) ((if ¬ (V3 (20 + 3) (iN x2)) = (-1) then rG (am_in x2 9) (some (.inl (some (.float ((V3 (20 + 4) (iN x2)).toUInt32))), V3)) else some (.inr "java/util/NoSuchElementException", V3))))))
set_option maxRecDepth 100000 in
set_option maxHeartbeats 4000000 in
theorem kX11_reachChance {U : am_U} {l : Launch} (B : am_base xx U) (hfl : l.stackTraces = false) {V : am_V} {x1 : Int32} {x2 : Int32} {r : (Option Value ⊕ String) × am_V} (h : d_X11_reachChance x1 x2 V = some r) : am_Ct xx U l yX11_reachChance cX11_reachChance 3 (some .float) (rk 8 3 221) [.ref (1), .int (x1), .int (x2)] V (am_is r.1 r.2) := by
  refine am_Ct.of B hfl (by decide) (Nat.le_of_ble_eq_true rfl) ?_
  intro G hgl hgR hr ok h0 hex
  have K : aK U l G RX11 cX11_reachChance 3 (some .float) 8 3 221 := ⟨hgl, hgR, hr, ok, h0⟩
  unfold d_X11_reachChance at h
  show AE U G 3 8 3 221 r 0 V 0 [some (.ref (1)), some (.int (x1)), some (.int (x2))] []
  refine AE.run K eX11_reachChance 0 2 (show am_run 3 ((tX11_reachChance.drop 0).take 2) 0 [some (.ref (1)), some (.int (x1)), some (.int (x2))] [] = some (2, [some (.ref (1)), some (.int (x1)), some (.int (x2))], [.int (x1), .ref (1)]) from rfl) ?_
  refine AE.cv (f' := 7) (c' := 1) (lo' := 200) (st := []) (As := [.int (x1)]) (m := d_X11_requireField x1 V) K hex (fun q hq => kX11_requireField B hfl hq) cv_X11_127 rfl (T := TX11) (N := 16) rfl rfl rfl (Nat.le_of_ble_eq_true rfl) ⟨Nat.le_of_ble_eq_true rfl, Nat.le_of_ble_eq_true rfl⟩ (by omega) (am_at eX11_reachChance 2 rfl) h (rU_some h) (bkU (fun V1 h => ?_))
  refine AE.run K eX11_reachChance 3 2 (show am_run 3 ((tX11_reachChance.drop 3).take 2) 5 [some (.ref (1)), some (.int (x1)), some (.int (x2))] [] = some (7, [some (.ref (1)), some (.int (x1)), some (.int (x2))], [.int (x2), .ref (1)]) from rfl) ?_
  refine AE.cv (f' := 7) (c' := 1) (lo' := 200) (st := []) (As := [.int (x2)]) (m := d_X11_requireField x2 V1) K hex (fun q hq => kX11_requireField B hfl hq) cv_X11_127 rfl (T := TX11) (N := 16) rfl rfl rfl (Nat.le_of_ble_eq_true rfl) ⟨Nat.le_of_ble_eq_true rfl, Nat.le_of_ble_eq_true rfl⟩ (by omega) (am_at eX11_reachChance 5 rfl) h (rU_some h) (bkU (fun V2 h => ?_))
  refine AE.run K eX11_reachChance 6 1 (show am_run 3 ((tX11_reachChance.drop 6).take 1) 10 [some (.ref (1)), some (.int (x1)), some (.int (x2))] [] = some (11, [some (.ref (1)), some (.int (x1)), some (.int (x2))], [.ref (1)]) from rfl) ?_
  refine AE.getR K gf_X11_39 rfl rfl (am_at eX11_reachChance 7 rfl) ?_
  refine AE.run K eX11_reachChance 8 1 (show am_run 3 ((tX11_reachChance.drop 8).take 1) 14 [some (.ref (1)), some (.int (x1)), some (.int (x2))] [.ref (20)] = some (15, [some (.ref (1)), some (.int (x1)), some (.int (x2))], [.ref (1), .ref (20)]) from rfl) ?_
  refine AE.getR K gf_X11_10 rfl rfl (am_at eX11_reachChance 9 rfl) ?_
  refine AE.getR K gf_X11_115 (sh_S0 (by decide)) rfl (am_at eX11_reachChance 10 rfl) ?_
  refine AE.run K eX11_reachChance 11 1 (show am_run 3 ((tX11_reachChance.drop 11).take 1) 21 [some (.ref (1)), some (.int (x1)), some (.int (x2))] [.ref (sS 0 + 1), .ref (20)] = some (22, [some (.ref (1)), some (.int (x1)), some (.int (x2))], [.int (x1), .ref (sS 0 + 1), .ref (20)]) from rfl) ?_
  refine AE.cv (f' := 2) (c' := 0) (lo' := 47) (st := []) (As := [.ref (sS 0 + 1), .int (x1)]) (m := d_X7_grow 20 0 x1 V2) K hex (fun q hq => kX7_grow B hfl (t := 20) (i := 0) (by decide) (by decide) hq) cv_X11_205 (sh_T0 (by decide)) (T := TX7) (N := 5) rfl rfl rfl (Nat.le_of_ble_eq_true rfl) ⟨Nat.le_of_ble_eq_true rfl, Nat.le_of_ble_eq_true rfl⟩ (by omega) (am_at eX11_reachChance 12 rfl) h (rU_some h) (bkU (fun V3 h => ?_))
  refine AE.run K eX11_reachChance 13 1 (show am_run 3 ((tX11_reachChance.drop 13).take 1) 25 [some (.ref (1)), some (.int (x1)), some (.int (x2))] [] = some (26, [some (.ref (1)), some (.int (x1)), some (.int (x2))], [.ref (1)]) from rfl) ?_
  refine AE.getR K gf_X11_39 rfl rfl (am_at eX11_reachChance 14 rfl) ?_
  refine AE.getR K gf_X11_219 (sh_T0 (by decide)) rfl (am_at eX11_reachChance 15 rfl) ?_
  refine AE.run K eX11_reachChance 16 1 (show am_run 3 ((tX11_reachChance.drop 16).take 1) 32 [some (.ref (1)), some (.int (x1)), some (.int (x2))] [.ref (20 + 3)] = some (33, [some (.ref (1)), some (.int (x1)), some (.int (x2))], [.int (x2), .ref (20 + 3)]) from rfl) ?_
  refine AE.iald K (sh_T3 (by decide)) (am_at eX11_reachChance 17 rfl) h (fun h => ?_)
  refine AE.run K eX11_reachChance 18 1 (show am_run 3 ((tX11_reachChance.drop 18).take 1) 34 [some (.ref (1)), some (.int (x1)), some (.int (x2))] [.int (V3 (20 + 3) (iN x2))] = some (35, [some (.ref (1)), some (.int (x1)), some (.int (x2))], [.int (-1), .int (V3 (20 + 3) (iN x2))]) from rfl) ?_
  refine AE.ic K 48 (am_at eX11_reachChance 19 rfl) (by decide) rfl h (fun h => ?_) (fun h => ?_)
  · refine AE.run K eX11_reachChance 25 1 (show am_run 3 ((tX11_reachChance.drop 25).take 1) 48 [some (.ref (1)), some (.int (x1)), some (.int (x2))] [] = some (49, [some (.ref (1)), some (.int (x1)), some (.int (x2))], [.ref (1)]) from rfl) ?_
    refine AE.getR K gf_X11_39 rfl rfl (am_at eX11_reachChance 26 rfl) ?_
    refine AE.getR K gf_X11_224 (sh_T0 (by decide)) rfl (am_at eX11_reachChance 27 rfl) ?_
    refine AE.run K eX11_reachChance 28 1 (show am_run 3 ((tX11_reachChance.drop 28).take 1) 55 [some (.ref (1)), some (.int (x1)), some (.int (x2))] [.ref (20 + 4)] = some (56, [some (.ref (1)), some (.int (x1)), some (.int (x2))], [.int (x2), .ref (20 + 4)]) from rfl) ?_
    refine AE.fald K (sh_T4 (by decide)) (am_at eX11_reachChance 29 rfl) h (fun h => ?_)
    exact AE.fret K (by omega) (am_at eX11_reachChance 30 rfl) h
  · exact AE.throwT K hex th_X11_212_222 (am_at eX11_reachChance 20 rfl) (am_at eX11_reachChance 21 rfl) (am_at eX11_reachChance 22 rfl) (am_at eX11_reachChance 23 rfl) (am_at eX11_reachChance 24 rfl) (by decide) (Nat.le_of_ble_eq_true rfl) (by omega) h
def d_X11_setSeed (x1 : Int32) (V : am_V) : am_R := rU (d_X4_note 0 V) (fun (V1 : am_V) => rI (d_X2_replaceSeed 0 x1 V1) (fun (y3 : Int32) (V2 : am_V) => rI (d_X11_settle y3 V2) (fun (y5 : Int32) (V4 : am_V) => some (.inl (some (.int (y5))), V4))))
set_option maxRecDepth 100000 in
set_option maxHeartbeats 4000000 in
theorem kX11_setSeed {U : am_U} {l : Launch} (B : am_base xx U) (hfl : l.stackTraces = false) {V : am_V} {x1 : Int32} {r : (Option Value ⊕ String) × am_V} (h : d_X11_setSeed x1 V = some r) : am_Ct xx U l yX11_setSeed cX11_setSeed 2 (some .int) (rk 8 1 221) [.ref (1), .int (x1)] V (am_is r.1 r.2) := by
  refine am_Ct.of B hfl (by decide) (Nat.le_of_ble_eq_true rfl) ?_
  intro G hgl hgR hr ok h0 hex
  have K : aK U l G RX11 cX11_setSeed 2 (some .int) 8 1 221 := ⟨hgl, hgR, hr, ok, h0⟩
  unfold d_X11_setSeed at h
  show AE U G 2 8 1 221 r 0 V 0 [some (.ref (1)), some (.int (x1))] []
  refine AE.run K eX11_setSeed 0 1 (show am_run 2 ((tX11_setSeed.drop 0).take 1) 0 [some (.ref (1)), some (.int (x1))] [] = some (1, [some (.ref (1)), some (.int (x1))], [.ref (1)]) from rfl) ?_
  refine AE.getR K gf_X11_25 rfl rfl (am_at eX11_setSeed 1 rfl) ?_
  refine AE.run K eX11_setSeed 2 1 (show am_run 2 ((tX11_setSeed.drop 2).take 1) 4 [some (.ref (1)), some (.int (x1))] [.ref (2)] = some (5, [some (.ref (1)), some (.int (x1))], [.ref (1), .ref (2)]) from rfl) ?_
  refine AE.getR K gf_X11_10 rfl rfl (am_at eX11_setSeed 3 rfl) ?_
  refine AE.cv (f' := 4) (c' := 0) (lo' := 102) (st := []) (As := [.ref (sS 0)]) (m := d_X4_note 0 V) K hex (fun q hq => kX4_note B hfl (i := 0) (by decide) hq) cv_X11_88 rfl (T := TX4) (N := 3) rfl rfl rfl (Nat.le_of_ble_eq_true rfl) ⟨Nat.le_of_ble_eq_true rfl, Nat.le_of_ble_eq_true rfl⟩ (by omega) (am_at eX11_setSeed 4 rfl) h (rU_some h) (bkU (fun V1 h => ?_))
  refine AE.run K eX11_setSeed 5 2 (show am_run 2 ((tX11_setSeed.drop 5).take 2) 11 [some (.ref (1)), some (.int (x1))] [] = some (13, [some (.ref (1)), some (.int (x1))], [.ref (1), .ref (1)]) from rfl) ?_
  refine AE.getR K gf_X11_53 rfl rfl (am_at eX11_setSeed 7 rfl) ?_
  refine AE.run K eX11_setSeed 8 1 (show am_run 2 ((tX11_setSeed.drop 8).take 1) 16 [some (.ref (1)), some (.int (x1))] [.ref (12), .ref (1)] = some (17, [some (.ref (1)), some (.int (x1))], [.ref (1), .ref (12), .ref (1)]) from rfl) ?_
  refine AE.getR K gf_X11_10 rfl rfl (am_at eX11_setSeed 9 rfl) ?_
  refine AE.run K eX11_setSeed 10 1 (show am_run 2 ((tX11_setSeed.drop 10).take 1) 20 [some (.ref (1)), some (.int (x1))] [.ref (sS 0), .ref (12), .ref (1)] = some (21, [some (.ref (1)), some (.int (x1))], [.int (x1), .ref (sS 0), .ref (12), .ref (1)]) from rfl) ?_
  refine AE.cv (f' := 0) (c' := 0) (lo' := 0) (st := [.ref (1)]) (As := [.ref (sS 0), .int (x1)]) (m := d_X2_replaceSeed 0 x1 V1) K hex (fun q hq => kX2_replaceSeed B hfl (i := 0) (by decide) hq) cv_X11_228 rfl (T := TX2) (N := 2) rfl rfl rfl (Nat.le_of_ble_eq_true rfl) ⟨Nat.le_of_ble_eq_true rfl, Nat.le_of_ble_eq_true rfl⟩ (by omega) (am_at eX11_setSeed 11 rfl) h (rI_some h) (bkI (fun y3 V2 h => ?_))
  refine AE.cv (f' := 7) (c' := 1) (lo' := 200) (st := []) (As := [.int (y3)]) (m := d_X11_settle y3 V2) K hex (fun q hq => kX11_settle B hfl hq) cv_X11_96 rfl (T := TX11) (N := 16) rfl rfl rfl (Nat.le_of_ble_eq_true rfl) ⟨Nat.le_of_ble_eq_true rfl, Nat.le_of_ble_eq_true rfl⟩ (by omega) (am_at eX11_setSeed 12 rfl) h (rI_some h) (bkI (fun y5 V4 h => ?_))
  exact AE.iret K (by omega) (am_at eX11_setSeed 13 rfl) h
def d_X11_startBroadcast (x1 : Int32) (x2 : Int32) (x3 : Int32) (V : am_V) : am_R := rU (d_X4_note 0 V) (fun (V1 : am_V) => rI (d_X2_beginBroadcast 0 x1 x2 x3 V1) (fun (y3 : Int32) (V2 : am_V) => rI (d_X11_settle y3 V2) (fun (y5 : Int32) (V4 : am_V) => some (.inl (some (.int (y5))), V4))))
set_option maxRecDepth 100000 in
set_option maxHeartbeats 4000000 in
theorem kX11_startBroadcast {U : am_U} {l : Launch} (B : am_base xx U) (hfl : l.stackTraces = false) {V : am_V} {x1 : Int32} {x2 : Int32} {x3 : Int32} {r : (Option Value ⊕ String) × am_V} (h : d_X11_startBroadcast x1 x2 x3 V = some r) : am_Ct xx U l yX11_startBroadcast cX11_startBroadcast 4 (some .int) (rk 8 1 221) [.ref (1), .int (x1), .int (x2), .int (x3)] V (am_is r.1 r.2) := by
  refine am_Ct.of B hfl (by decide) (Nat.le_of_ble_eq_true rfl) ?_
  intro G hgl hgR hr ok h0 hex
  have K : aK U l G RX11 cX11_startBroadcast 4 (some .int) 8 1 221 := ⟨hgl, hgR, hr, ok, h0⟩
  unfold d_X11_startBroadcast at h
  show AE U G 4 8 1 221 r 0 V 0 [some (.ref (1)), some (.int (x1)), some (.int (x2)), some (.int (x3))] []
  refine AE.run K eX11_startBroadcast 0 1 (show am_run 4 ((tX11_startBroadcast.drop 0).take 1) 0 [some (.ref (1)), some (.int (x1)), some (.int (x2)), some (.int (x3))] [] = some (1, [some (.ref (1)), some (.int (x1)), some (.int (x2)), some (.int (x3))], [.ref (1)]) from rfl) ?_
  refine AE.getR K gf_X11_25 rfl rfl (am_at eX11_startBroadcast 1 rfl) ?_
  refine AE.run K eX11_startBroadcast 2 1 (show am_run 4 ((tX11_startBroadcast.drop 2).take 1) 4 [some (.ref (1)), some (.int (x1)), some (.int (x2)), some (.int (x3))] [.ref (2)] = some (5, [some (.ref (1)), some (.int (x1)), some (.int (x2)), some (.int (x3))], [.ref (1), .ref (2)]) from rfl) ?_
  refine AE.getR K gf_X11_10 rfl rfl (am_at eX11_startBroadcast 3 rfl) ?_
  refine AE.cv (f' := 4) (c' := 0) (lo' := 102) (st := []) (As := [.ref (sS 0)]) (m := d_X4_note 0 V) K hex (fun q hq => kX4_note B hfl (i := 0) (by decide) hq) cv_X11_88 rfl (T := TX4) (N := 3) rfl rfl rfl (Nat.le_of_ble_eq_true rfl) ⟨Nat.le_of_ble_eq_true rfl, Nat.le_of_ble_eq_true rfl⟩ (by omega) (am_at eX11_startBroadcast 4 rfl) h (rU_some h) (bkU (fun V1 h => ?_))
  refine AE.run K eX11_startBroadcast 5 2 (show am_run 4 ((tX11_startBroadcast.drop 5).take 2) 11 [some (.ref (1)), some (.int (x1)), some (.int (x2)), some (.int (x3))] [] = some (13, [some (.ref (1)), some (.int (x1)), some (.int (x2)), some (.int (x3))], [.ref (1), .ref (1)]) from rfl) ?_
  refine AE.getR K gf_X11_53 rfl rfl (am_at eX11_startBroadcast 7 rfl) ?_
  refine AE.run K eX11_startBroadcast 8 1 (show am_run 4 ((tX11_startBroadcast.drop 8).take 1) 16 [some (.ref (1)), some (.int (x1)), some (.int (x2)), some (.int (x3))] [.ref (12), .ref (1)] = some (17, [some (.ref (1)), some (.int (x1)), some (.int (x2)), some (.int (x3))], [.ref (1), .ref (12), .ref (1)]) from rfl) ?_
  refine AE.getR K gf_X11_10 rfl rfl (am_at eX11_startBroadcast 9 rfl) ?_
  refine AE.run K eX11_startBroadcast 10 3 (show am_run 4 ((tX11_startBroadcast.drop 10).take 3) 20 [some (.ref (1)), some (.int (x1)), some (.int (x2)), some (.int (x3))] [.ref (sS 0), .ref (12), .ref (1)] = some (23, [some (.ref (1)), some (.int (x1)), some (.int (x2)), some (.int (x3))], [.int (x3), .int (x2), .int (x1), .ref (sS 0), .ref (12), .ref (1)]) from rfl) ?_
  refine AE.cv (f' := 2) (c' := 0) (lo' := 40) (st := [.ref (1)]) (As := [.ref (sS 0), .int (x1), .int (x2), .int (x3)]) (m := d_X2_beginBroadcast 0 x1 x2 x3 V1) K hex (fun q hq => kX2_beginBroadcast B hfl (i := 0) (by decide) hq) cv_X11_231 rfl (T := TX2) (N := 2) rfl rfl rfl (Nat.le_of_ble_eq_true rfl) ⟨Nat.le_of_ble_eq_true rfl, Nat.le_of_ble_eq_true rfl⟩ (by omega) (am_at eX11_startBroadcast 13 rfl) h (rI_some h) (bkI (fun y3 V2 h => ?_))
  refine AE.cv (f' := 7) (c' := 1) (lo' := 200) (st := []) (As := [.int (y3)]) (m := d_X11_settle y3 V2) K hex (fun q hq => kX11_settle B hfl hq) cv_X11_96 rfl (T := TX11) (N := 16) rfl rfl rfl (Nat.le_of_ble_eq_true rfl) ⟨Nat.le_of_ble_eq_true rfl, Nat.le_of_ble_eq_true rfl⟩ (by omega) (am_at eX11_startBroadcast 14 rfl) h (rI_some h) (bkI (fun y5 V4 h => ?_))
  exact AE.iret K (by omega) (am_at eX11_startBroadcast 15 rfl) h
def d_X11_wind (V : am_V) : am_R := rU (d_X4_note 0 V) (fun (V1 : am_V) => rI (d_X2_letBlowOnce 0 V1) (fun (y3 : Int32) (V2 : am_V) => rI (d_X11_settle y3 V2) (fun (y5 : Int32) (V4 : am_V) => some (.inl (some (.int (y5))), V4))))
set_option maxRecDepth 100000 in
set_option maxHeartbeats 4000000 in
theorem kX11_wind {U : am_U} {l : Launch} (B : am_base xx U) (hfl : l.stackTraces = false) {V : am_V} {r : (Option Value ⊕ String) × am_V} (h : d_X11_wind V = some r) : am_Ct xx U l yX11_wind cX11_wind 1 (some .int) (rk 8 1 221) [.ref (1)] V (am_is r.1 r.2) := by
  refine am_Ct.of B hfl (by decide) (Nat.le_of_ble_eq_true rfl) ?_
  intro G hgl hgR hr ok h0 hex
  have K : aK U l G RX11 cX11_wind 1 (some .int) 8 1 221 := ⟨hgl, hgR, hr, ok, h0⟩
  unfold d_X11_wind at h
  show AE U G 1 8 1 221 r 0 V 0 [some (.ref (1))] []
  refine AE.run K eX11_wind 0 1 (show am_run 1 ((tX11_wind.drop 0).take 1) 0 [some (.ref (1))] [] = some (1, [some (.ref (1))], [.ref (1)]) from rfl) ?_
  refine AE.getR K gf_X11_25 rfl rfl (am_at eX11_wind 1 rfl) ?_
  refine AE.run K eX11_wind 2 1 (show am_run 1 ((tX11_wind.drop 2).take 1) 4 [some (.ref (1))] [.ref (2)] = some (5, [some (.ref (1))], [.ref (1), .ref (2)]) from rfl) ?_
  refine AE.getR K gf_X11_10 rfl rfl (am_at eX11_wind 3 rfl) ?_
  refine AE.cv (f' := 4) (c' := 0) (lo' := 102) (st := []) (As := [.ref (sS 0)]) (m := d_X4_note 0 V) K hex (fun q hq => kX4_note B hfl (i := 0) (by decide) hq) cv_X11_88 rfl (T := TX4) (N := 3) rfl rfl rfl (Nat.le_of_ble_eq_true rfl) ⟨Nat.le_of_ble_eq_true rfl, Nat.le_of_ble_eq_true rfl⟩ (by omega) (am_at eX11_wind 4 rfl) h (rU_some h) (bkU (fun V1 h => ?_))
  refine AE.run K eX11_wind 5 2 (show am_run 1 ((tX11_wind.drop 5).take 2) 11 [some (.ref (1))] [] = some (13, [some (.ref (1))], [.ref (1), .ref (1)]) from rfl) ?_
  refine AE.getR K gf_X11_53 rfl rfl (am_at eX11_wind 7 rfl) ?_
  refine AE.run K eX11_wind 8 1 (show am_run 1 ((tX11_wind.drop 8).take 1) 16 [some (.ref (1))] [.ref (12), .ref (1)] = some (17, [some (.ref (1))], [.ref (1), .ref (12), .ref (1)]) from rfl) ?_
  refine AE.getR K gf_X11_10 rfl rfl (am_at eX11_wind 9 rfl) ?_
  refine AE.run K eX11_wind 10 1 (show am_run 1 ((tX11_wind.drop 10).take 1) 20 [some (.ref (1))] [.ref (sS 0), .ref (12), .ref (1)] = some (21, [some (.ref (1))], [.ref (1), .ref (sS 0), .ref (12), .ref (1)]) from rfl) ?_
  refine AE.getR K gf_X11_46 rfl rfl (am_at eX11_wind 11 rfl) ?_
  refine AE.cv (f' := 4) (c' := 0) (lo' := 108) (st := [.ref (1)]) (As := [.ref (sS 0), .ref (11)]) (m := d_X2_letBlowOnce 0 V1) K hex (fun q hq => kX2_letBlowOnce B hfl (i := 0) (by decide) hq) cv_X11_235 rfl (T := TX2) (N := 2) rfl rfl rfl (Nat.le_of_ble_eq_true rfl) ⟨Nat.le_of_ble_eq_true rfl, Nat.le_of_ble_eq_true rfl⟩ (by omega) (am_at eX11_wind 12 rfl) h (rI_some h) (bkI (fun y3 V2 h => ?_))
  refine AE.cv (f' := 7) (c' := 1) (lo' := 200) (st := []) (As := [.int (y3)]) (m := d_X11_settle y3 V2) K hex (fun q hq => kX11_settle B hfl hq) cv_X11_96 rfl (T := TX11) (N := 16) rfl rfl rfl (Nat.le_of_ble_eq_true rfl) ⟨Nat.le_of_ble_eq_true rfl, Nat.le_of_ble_eq_true rfl⟩ (by omega) (am_at eX11_wind 13 rfl) h (rI_some h) (bkI (fun y5 V4 h => ?_))
  exact AE.iret K (by omega) (am_at eX11_wind 14 rfl) h
def d_X11_windUntilEnd (V : am_V) : am_R := rU (d_X4_note 0 V) (fun (V1 : am_V) => rI (d_X2_letBlowToEnd 0 V1) (fun (y3 : Int32) (V2 : am_V) => rI (d_X11_settle y3 V2) (fun (y5 : Int32) (V4 : am_V) => some (.inl (some (.int (y5))), V4))))
set_option maxRecDepth 100000 in
set_option maxHeartbeats 4000000 in
theorem kX11_windUntilEnd {U : am_U} {l : Launch} (B : am_base xx U) (hfl : l.stackTraces = false) {V : am_V} {r : (Option Value ⊕ String) × am_V} (h : d_X11_windUntilEnd V = some r) : am_Ct xx U l yX11_windUntilEnd cX11_windUntilEnd 1 (some .int) (rk 8 1 221) [.ref (1)] V (am_is r.1 r.2) := by
  refine am_Ct.of B hfl (by decide) (Nat.le_of_ble_eq_true rfl) ?_
  intro G hgl hgR hr ok h0 hex
  have K : aK U l G RX11 cX11_windUntilEnd 1 (some .int) 8 1 221 := ⟨hgl, hgR, hr, ok, h0⟩
  unfold d_X11_windUntilEnd at h
  show AE U G 1 8 1 221 r 0 V 0 [some (.ref (1))] []
  refine AE.run K eX11_windUntilEnd 0 1 (show am_run 1 ((tX11_windUntilEnd.drop 0).take 1) 0 [some (.ref (1))] [] = some (1, [some (.ref (1))], [.ref (1)]) from rfl) ?_
  refine AE.getR K gf_X11_25 rfl rfl (am_at eX11_windUntilEnd 1 rfl) ?_
  refine AE.run K eX11_windUntilEnd 2 1 (show am_run 1 ((tX11_windUntilEnd.drop 2).take 1) 4 [some (.ref (1))] [.ref (2)] = some (5, [some (.ref (1))], [.ref (1), .ref (2)]) from rfl) ?_
  refine AE.getR K gf_X11_10 rfl rfl (am_at eX11_windUntilEnd 3 rfl) ?_
  refine AE.cv (f' := 4) (c' := 0) (lo' := 102) (st := []) (As := [.ref (sS 0)]) (m := d_X4_note 0 V) K hex (fun q hq => kX4_note B hfl (i := 0) (by decide) hq) cv_X11_88 rfl (T := TX4) (N := 3) rfl rfl rfl (Nat.le_of_ble_eq_true rfl) ⟨Nat.le_of_ble_eq_true rfl, Nat.le_of_ble_eq_true rfl⟩ (by omega) (am_at eX11_windUntilEnd 4 rfl) h (rU_some h) (bkU (fun V1 h => ?_))
  refine AE.run K eX11_windUntilEnd 5 2 (show am_run 1 ((tX11_windUntilEnd.drop 5).take 2) 11 [some (.ref (1))] [] = some (13, [some (.ref (1))], [.ref (1), .ref (1)]) from rfl) ?_
  refine AE.getR K gf_X11_53 rfl rfl (am_at eX11_windUntilEnd 7 rfl) ?_
  refine AE.run K eX11_windUntilEnd 8 1 (show am_run 1 ((tX11_windUntilEnd.drop 8).take 1) 16 [some (.ref (1))] [.ref (12), .ref (1)] = some (17, [some (.ref (1))], [.ref (1), .ref (12), .ref (1)]) from rfl) ?_
  refine AE.getR K gf_X11_10 rfl rfl (am_at eX11_windUntilEnd 9 rfl) ?_
  refine AE.run K eX11_windUntilEnd 10 1 (show am_run 1 ((tX11_windUntilEnd.drop 10).take 1) 20 [some (.ref (1))] [.ref (sS 0), .ref (12), .ref (1)] = some (21, [some (.ref (1))], [.ref (1), .ref (sS 0), .ref (12), .ref (1)]) from rfl) ?_
  refine AE.getR K gf_X11_46 rfl rfl (am_at eX11_windUntilEnd 11 rfl) ?_
  refine AE.cv (f' := 4) (c' := 0) (lo' := 108) (st := [.ref (1)]) (As := [.ref (sS 0), .ref (11)]) (m := d_X2_letBlowToEnd 0 V1) K hex (fun q hq => kX2_letBlowToEnd B hfl (i := 0) (by decide) hq) cv_X11_239 rfl (T := TX2) (N := 2) rfl rfl rfl (Nat.le_of_ble_eq_true rfl) ⟨Nat.le_of_ble_eq_true rfl, Nat.le_of_ble_eq_true rfl⟩ (by omega) (am_at eX11_windUntilEnd 12 rfl) h (rI_some h) (bkI (fun y3 V2 h => ?_))
  refine AE.cv (f' := 7) (c' := 1) (lo' := 200) (st := []) (As := [.int (y3)]) (m := d_X11_settle y3 V2) K hex (fun q hq => kX11_settle B hfl hq) cv_X11_96 rfl (T := TX11) (N := 16) rfl rfl rfl (Nat.le_of_ble_eq_true rfl) ⟨Nat.le_of_ble_eq_true rfl, Nat.le_of_ble_eq_true rfl⟩ (by omega) (am_at eX11_windUntilEnd 13 rfl) h (rI_some h) (bkI (fun y5 V4 h => ?_))
  exact AE.iret K (by omega) (am_at eX11_windUntilEnd 14 rfl) h
def d_X11_abort (V : am_V) : am_R := rU (d_X4_note 0 V) (fun (V1 : am_V) => rI (d_X2_stopBroadcast 0 V1) (fun (y3 : Int32) (V2 : am_V) => rI (d_X11_settle y3 V2) (fun (y5 : Int32) (V4 : am_V) => some (.inl (some (.int (y5))), V4))))
set_option maxRecDepth 100000 in
set_option maxHeartbeats 4000000 in
theorem kX11_abort {U : am_U} {l : Launch} (B : am_base xx U) (hfl : l.stackTraces = false) {V : am_V} {r : (Option Value ⊕ String) × am_V} (h : d_X11_abort V = some r) : am_Ct xx U l yX11_abort cX11_abort 1 (some .int) (rk 8 1 221) [.ref (1)] V (am_is r.1 r.2) := by
  refine am_Ct.of B hfl (by decide) (Nat.le_of_ble_eq_true rfl) ?_
  intro G hgl hgR hr ok h0 hex
  have K : aK U l G RX11 cX11_abort 1 (some .int) 8 1 221 := ⟨hgl, hgR, hr, ok, h0⟩
  unfold d_X11_abort at h
  show AE U G 1 8 1 221 r 0 V 0 [some (.ref (1))] []
  refine AE.run K eX11_abort 0 1 (show am_run 1 ((tX11_abort.drop 0).take 1) 0 [some (.ref (1))] [] = some (1, [some (.ref (1))], [.ref (1)]) from rfl) ?_
  refine AE.getR K gf_X11_25 rfl rfl (am_at eX11_abort 1 rfl) ?_
  refine AE.run K eX11_abort 2 1 (show am_run 1 ((tX11_abort.drop 2).take 1) 4 [some (.ref (1))] [.ref (2)] = some (5, [some (.ref (1))], [.ref (1), .ref (2)]) from rfl) ?_
  refine AE.getR K gf_X11_10 rfl rfl (am_at eX11_abort 3 rfl) ?_
  refine AE.cv (f' := 4) (c' := 0) (lo' := 102) (st := []) (As := [.ref (sS 0)]) (m := d_X4_note 0 V) K hex (fun q hq => kX4_note B hfl (i := 0) (by decide) hq) cv_X11_88 rfl (T := TX4) (N := 3) rfl rfl rfl (Nat.le_of_ble_eq_true rfl) ⟨Nat.le_of_ble_eq_true rfl, Nat.le_of_ble_eq_true rfl⟩ (by omega) (am_at eX11_abort 4 rfl) h (rU_some h) (bkU (fun V1 h => ?_))
  refine AE.run K eX11_abort 5 2 (show am_run 1 ((tX11_abort.drop 5).take 2) 11 [some (.ref (1))] [] = some (13, [some (.ref (1))], [.ref (1), .ref (1)]) from rfl) ?_
  refine AE.getR K gf_X11_53 rfl rfl (am_at eX11_abort 7 rfl) ?_
  refine AE.run K eX11_abort 8 1 (show am_run 1 ((tX11_abort.drop 8).take 1) 16 [some (.ref (1))] [.ref (12), .ref (1)] = some (17, [some (.ref (1))], [.ref (1), .ref (12), .ref (1)]) from rfl) ?_
  refine AE.getR K gf_X11_10 rfl rfl (am_at eX11_abort 9 rfl) ?_
  refine AE.cv (f' := 1) (c' := 0) (lo' := 22) (st := [.ref (1)]) (As := [.ref (sS 0)]) (m := d_X2_stopBroadcast 0 V1) K hex (fun q hq => kX2_stopBroadcast B hfl (i := 0) (by decide) hq) cv_X11_242 rfl (T := TX2) (N := 2) rfl rfl rfl (Nat.le_of_ble_eq_true rfl) ⟨Nat.le_of_ble_eq_true rfl, Nat.le_of_ble_eq_true rfl⟩ (by omega) (am_at eX11_abort 10 rfl) h (rI_some h) (bkI (fun y3 V2 h => ?_))
  refine AE.cv (f' := 7) (c' := 1) (lo' := 200) (st := []) (As := [.int (y3)]) (m := d_X11_settle y3 V2) K hex (fun q hq => kX11_settle B hfl hq) cv_X11_96 rfl (T := TX11) (N := 16) rfl rfl rfl (Nat.le_of_ble_eq_true rfl) ⟨Nat.le_of_ble_eq_true rfl, Nat.le_of_ble_eq_true rfl⟩ (by omega) (am_at eX11_abort 11 rfl) h (rI_some h) (bkI (fun y5 V4 h => ?_))
  exact AE.iret K (by omega) (am_at eX11_abort 12 rfl) h
def d_X11_isBroadcasting (V : am_V) : am_R := rG (am_nb (V (sS 0 + 2) 2)) (some (.inl (some (.int (V (sS 0 + 2) 2))), V))
set_option maxRecDepth 100000 in
set_option maxHeartbeats 4000000 in
theorem kX11_isBroadcasting {U : am_U} {l : Launch} (B : am_base xx U) (hfl : l.stackTraces = false) {V : am_V} {r : (Option Value ⊕ String) × am_V} (h : d_X11_isBroadcasting V = some r) : am_Ct xx U l yX11_isBroadcasting cX11_isBroadcasting 1 (some .boolean) (rk 0 0 0) [.ref (1)] V (am_is r.1 r.2) := by
  refine am_Ct.of B hfl (by decide) (Nat.le_of_ble_eq_true rfl) ?_
  intro G hgl hgR hr ok h0 hex
  have K : aK U l G RX11 cX11_isBroadcasting 1 (some .boolean) 0 0 0 := ⟨hgl, hgR, hr, ok, h0⟩
  unfold d_X11_isBroadcasting at h
  show AE U G 1 0 0 0 r 0 V 0 [some (.ref (1))] []
  refine AE.run K eX11_isBroadcasting 0 1 (show am_run 1 ((tX11_isBroadcasting.drop 0).take 1) 0 [some (.ref (1))] [] = some (1, [some (.ref (1))], [.ref (1)]) from rfl) ?_
  refine AE.getR K gf_X11_10 rfl rfl (am_at eX11_isBroadcasting 1 rfl) ?_
  refine AE.getR K gf_X11_246 (sh_S0 (by decide)) rfl (am_at eX11_isBroadcasting 2 rfl) ?_
  refine AE.getI K gf_X11_250 (sh_S2 (by decide)) rfl (am_at eX11_isBroadcasting 3 rfl) ?_
  exact AE.zret K (by omega) (am_at eX11_isBroadcasting 4 rfl) h
def d_X11_source (V : am_V) : am_R := rU (d_X11_requireStarted V) (fun (V1 : am_V) => some (.inl (some (.int (V1 (sS 0 + 2) 3))), V1))
set_option maxRecDepth 100000 in
set_option maxHeartbeats 4000000 in
theorem kX11_source {U : am_U} {l : Launch} (B : am_base xx U) (hfl : l.stackTraces = false) {V : am_V} {r : (Option Value ⊕ String) × am_V} (h : d_X11_source V = some r) : am_Ct xx U l yX11_source cX11_source 1 (some .int) (rk 8 1 220) [.ref (1)] V (am_is r.1 r.2) := by
  refine am_Ct.of B hfl (by decide) (Nat.le_of_ble_eq_true rfl) ?_
  intro G hgl hgR hr ok h0 hex
  have K : aK U l G RX11 cX11_source 1 (some .int) 8 1 220 := ⟨hgl, hgR, hr, ok, h0⟩
  unfold d_X11_source at h
  show AE U G 1 8 1 220 r 0 V 0 [some (.ref (1))] []
  refine AE.run K eX11_source 0 1 (show am_run 1 ((tX11_source.drop 0).take 1) 0 [some (.ref (1))] [] = some (1, [some (.ref (1))], [.ref (1)]) from rfl) ?_
  refine AE.cv (f' := 7) (c' := 1) (lo' := 200) (st := []) (As := []) (m := d_X11_requireStarted V) K hex (fun q hq => kX11_requireStarted B hfl hq) cv_X11_255 rfl (T := TX11) (N := 16) rfl rfl rfl (Nat.le_of_ble_eq_true rfl) ⟨Nat.le_of_ble_eq_true rfl, Nat.le_of_ble_eq_true rfl⟩ (by omega) (am_at eX11_source 1 rfl) h (rU_some h) (bkU (fun V1 h => ?_))
  refine AE.run K eX11_source 2 1 (show am_run 1 ((tX11_source.drop 2).take 1) 4 [some (.ref (1))] [] = some (5, [some (.ref (1))], [.ref (1)]) from rfl) ?_
  refine AE.getR K gf_X11_10 rfl rfl (am_at eX11_source 3 rfl) ?_
  refine AE.getR K gf_X11_246 (sh_S0 (by decide)) rfl (am_at eX11_source 4 rfl) ?_
  refine AE.getI K gf_X11_258 (sh_S2 (by decide)) rfl (am_at eX11_source 5 rfl) ?_
  exact AE.iret K (by omega) (am_at eX11_source 6 rfl) h
def d_X11_hasPacket (x1 : Int32) (x2 : Int32) (V : am_V) : am_R := rU (d_X11_requireField x1 V) (fun (V1 : am_V) => rU (d_X11_requireStarted V1) (fun (V2 : am_V) => rB (fun (V_27 : am_V) => some (.inr "java/util/NoSuchElementException", V_27)) (fun (j27 : am_V → am_R) => (if x2 < 0 then j27 V2 else rI (d_X1_packetTotal 0 V2) (fun (y4 : Int32) (V3 : am_V) => (if x2 < y4 then rG (am_in x1 9) (rI (d_X11_hasBit (V3 (sS 0 + 9) (iN x1)) x2 V3) (fun (y6 : Int32) (V5 : am_V) => rG (am_nb y6) (some (.inl (some (.int (y6))), V5)))) else j27 V3))))))
set_option maxRecDepth 100000 in
set_option maxHeartbeats 4000000 in
theorem kX11_hasPacket {U : am_U} {l : Launch} (B : am_base xx U) (hfl : l.stackTraces = false) {V : am_V} {x1 : Int32} {x2 : Int32} {r : (Option Value ⊕ String) × am_V} (h : d_X11_hasPacket x1 x2 V = some r) : am_Ct xx U l yX11_hasPacket cX11_hasPacket 3 (some .boolean) (rk 8 3 221) [.ref (1), .int (x1), .int (x2)] V (am_is r.1 r.2) := by
  refine am_Ct.of B hfl (by decide) (Nat.le_of_ble_eq_true rfl) ?_
  intro G hgl hgR hr ok h0 hex
  have K : aK U l G RX11 cX11_hasPacket 3 (some .boolean) 8 3 221 := ⟨hgl, hgR, hr, ok, h0⟩
  unfold d_X11_hasPacket at h
  show AE U G 3 8 3 221 r 0 V 0 [some (.ref (1)), some (.int (x1)), some (.int (x2))] []
  refine AE.run K eX11_hasPacket 0 2 (show am_run 3 ((tX11_hasPacket.drop 0).take 2) 0 [some (.ref (1)), some (.int (x1)), some (.int (x2))] [] = some (2, [some (.ref (1)), some (.int (x1)), some (.int (x2))], [.int (x1), .ref (1)]) from rfl) ?_
  refine AE.cv (f' := 7) (c' := 1) (lo' := 200) (st := []) (As := [.int (x1)]) (m := d_X11_requireField x1 V) K hex (fun q hq => kX11_requireField B hfl hq) cv_X11_127 rfl (T := TX11) (N := 16) rfl rfl rfl (Nat.le_of_ble_eq_true rfl) ⟨Nat.le_of_ble_eq_true rfl, Nat.le_of_ble_eq_true rfl⟩ (by omega) (am_at eX11_hasPacket 2 rfl) h (rU_some h) (bkU (fun V1 h => ?_))
  refine AE.run K eX11_hasPacket 3 1 (show am_run 3 ((tX11_hasPacket.drop 3).take 1) 5 [some (.ref (1)), some (.int (x1)), some (.int (x2))] [] = some (6, [some (.ref (1)), some (.int (x1)), some (.int (x2))], [.ref (1)]) from rfl) ?_
  refine AE.cv (f' := 7) (c' := 1) (lo' := 200) (st := []) (As := []) (m := d_X11_requireStarted V1) K hex (fun q hq => kX11_requireStarted B hfl hq) cv_X11_255 rfl (T := TX11) (N := 16) rfl rfl rfl (Nat.le_of_ble_eq_true rfl) ⟨Nat.le_of_ble_eq_true rfl, Nat.le_of_ble_eq_true rfl⟩ (by omega) (am_at eX11_hasPacket 4 rfl) h (rU_some h) (bkU (fun V2 h => ?_))
  refine AE.run K eX11_hasPacket 5 1 (show am_run 3 ((tX11_hasPacket.drop 5).take 1) 9 [some (.ref (1)), some (.int (x1)), some (.int (x2))] [] = some (10, [some (.ref (1)), some (.int (x1)), some (.int (x2))], [.int (x2)]) from rfl) ?_
  refine rB_of (P := fun (j : am_V → am_R) => ∀ (V_27 : am_V), j V_27 = some r → AE U G 3 8 3 221 r 2 V_27 27 [none, none, none] []) h (fun V_27 h => ?_) (fun j27 hj27 h => ?_)
  · exact AE.throwTW K hex th_X11_212_265 (am_at eX11_hasPacket 13 rfl) (am_at eX11_hasPacket 14 rfl) (am_at eX11_hasPacket 15 rfl) (am_at eX11_hasPacket 16 rfl) (am_at eX11_hasPacket 17 rfl) (by decide) (Nat.le_of_ble_eq_true rfl) (by omega) h
  refine AE.if0 K 27 (am_at eX11_hasPacket 6 rfl) (by decide) rfl h (fun h => ?_) (fun h => ?_)
  · exact AE.sub (L' := [none, none, none]) trivial (hj27  V2 h)
  · refine AE.run K eX11_hasPacket 7 2 (show am_run 3 ((tX11_hasPacket.drop 7).take 2) 13 [some (.ref (1)), some (.int (x1)), some (.int (x2))] [] = some (15, [some (.ref (1)), some (.int (x1)), some (.int (x2))], [.ref (1), .int (x2)]) from rfl) ?_
    refine AE.getR K gf_X11_10 rfl rfl (am_at eX11_hasPacket 9 rfl) ?_
    refine AE.getR K gf_X11_246 (sh_S0 (by decide)) rfl (am_at eX11_hasPacket 10 rfl) ?_
    refine AE.cv (f' := 0) (c' := 0) (lo' := 0) (st := [.int (x2)]) (As := []) (m := d_X1_packetTotal 0 V2) K hex (fun q hq => kX1_packetTotal B hfl (i := 0) (by decide) hq) cv_X11_261 (sh_S2 (by decide)) (T := TX1) (N := 8) rfl rfl rfl (Nat.le_of_ble_eq_true rfl) ⟨Nat.le_of_ble_eq_true rfl, Nat.le_of_ble_eq_true rfl⟩ (by omega) (am_at eX11_hasPacket 11 rfl) h (rI_some h) (bkI (fun y4 V3 h => ?_))
    refine AE.ic K 38 (am_at eX11_hasPacket 12 rfl) (by decide) rfl h (fun h => ?_) (fun h => ?_)
    · refine AE.run K eX11_hasPacket 18 1 (show am_run 3 ((tX11_hasPacket.drop 18).take 1) 38 [some (.ref (1)), some (.int (x1)), some (.int (x2))] [] = some (39, [some (.ref (1)), some (.int (x1)), some (.int (x2))], [.ref (1)]) from rfl) ?_
      refine AE.getR K gf_X11_10 rfl rfl (am_at eX11_hasPacket 19 rfl) ?_
      refine AE.getR K gf_X11_246 (sh_S0 (by decide)) rfl (am_at eX11_hasPacket 20 rfl) ?_
      refine AE.getR K gf_X11_267 (sh_S2 (by decide)) rfl (am_at eX11_hasPacket 21 rfl) ?_
      refine AE.run K eX11_hasPacket 22 1 (show am_run 3 ((tX11_hasPacket.drop 22).take 1) 48 [some (.ref (1)), some (.int (x1)), some (.int (x2))] [.ref (sS 0 + 9)] = some (49, [some (.ref (1)), some (.int (x1)), some (.int (x2))], [.int (x1), .ref (sS 0 + 9)]) from rfl) ?_
      refine AE.iald K (sh_S9 (by decide)) (am_at eX11_hasPacket 23 rfl) h (fun h => ?_)
      refine AE.run K eX11_hasPacket 24 1 (show am_run 3 ((tX11_hasPacket.drop 24).take 1) 50 [some (.ref (1)), some (.int (x1)), some (.int (x2))] [.int (V3 (sS 0 + 9) (iN x1))] = some (51, [some (.ref (1)), some (.int (x1)), some (.int (x2))], [.int (x2), .int (V3 (sS 0 + 9) (iN x1))]) from rfl) ?_
      refine AE.cs (f' := 0) (c' := 0) (lo' := 0) (st := []) (As := [.int (V3 (sS 0 + 9) (iN x1)), .int (x2)]) (m := d_X11_hasBit (V3 (sS 0 + 9) (iN x1)) x2 V3) K hex (fun q hq => kX11_hasBit B hfl hq) cs_X11_162 rfl rfl (Nat.le_of_ble_eq_true rfl) ⟨Nat.le_of_ble_eq_true rfl, Nat.le_of_ble_eq_true rfl⟩ (by omega) (am_at eX11_hasPacket 25 rfl) h (rI_some h) (bkI (fun y6 V5 h => ?_))
      exact AE.zret K (by omega) (am_at eX11_hasPacket 26 rfl) h
    · exact AE.sub (L' := [none, none, none]) trivial (hj27  V3 h)
def d_X11_packetsOf (x1 : Int32) (V : am_V) : am_R := rU (d_X11_requireField x1 V) (fun (V1 : am_V) => rG (am_in x1 9) (rI (d_J6_bitCount_0f7a4 (V1 (sS 0 + 9) (iN x1)) V1) (fun (y3 : Int32) (V2 : am_V) => some (.inl (some (.int (y3))), V2))))
set_option maxRecDepth 100000 in
set_option maxHeartbeats 4000000 in
theorem kX11_packetsOf {U : am_U} {l : Launch} (B : am_base xx U) (hfl : l.stackTraces = false) {V : am_V} {x1 : Int32} {r : (Option Value ⊕ String) × am_V} (h : d_X11_packetsOf x1 V = some r) : am_Ct xx U l yX11_packetsOf cX11_packetsOf 2 (some .int) (rk 8 1 221) [.ref (1), .int (x1)] V (am_is r.1 r.2) := by
  refine am_Ct.of B hfl (by decide) (Nat.le_of_ble_eq_true rfl) ?_
  intro G hgl hgR hr ok h0 hex
  have K : aK U l G RX11 cX11_packetsOf 2 (some .int) 8 1 221 := ⟨hgl, hgR, hr, ok, h0⟩
  unfold d_X11_packetsOf at h
  show AE U G 2 8 1 221 r 0 V 0 [some (.ref (1)), some (.int (x1))] []
  refine AE.run K eX11_packetsOf 0 2 (show am_run 2 ((tX11_packetsOf.drop 0).take 2) 0 [some (.ref (1)), some (.int (x1))] [] = some (2, [some (.ref (1)), some (.int (x1))], [.int (x1), .ref (1)]) from rfl) ?_
  refine AE.cv (f' := 7) (c' := 1) (lo' := 200) (st := []) (As := [.int (x1)]) (m := d_X11_requireField x1 V) K hex (fun q hq => kX11_requireField B hfl hq) cv_X11_127 rfl (T := TX11) (N := 16) rfl rfl rfl (Nat.le_of_ble_eq_true rfl) ⟨Nat.le_of_ble_eq_true rfl, Nat.le_of_ble_eq_true rfl⟩ (by omega) (am_at eX11_packetsOf 2 rfl) h (rU_some h) (bkU (fun V1 h => ?_))
  refine AE.run K eX11_packetsOf 3 1 (show am_run 2 ((tX11_packetsOf.drop 3).take 1) 5 [some (.ref (1)), some (.int (x1))] [] = some (6, [some (.ref (1)), some (.int (x1))], [.ref (1)]) from rfl) ?_
  refine AE.getR K gf_X11_10 rfl rfl (am_at eX11_packetsOf 4 rfl) ?_
  refine AE.getR K gf_X11_246 (sh_S0 (by decide)) rfl (am_at eX11_packetsOf 5 rfl) ?_
  refine AE.getR K gf_X11_267 (sh_S2 (by decide)) rfl (am_at eX11_packetsOf 6 rfl) ?_
  refine AE.run K eX11_packetsOf 7 1 (show am_run 2 ((tX11_packetsOf.drop 7).take 1) 15 [some (.ref (1)), some (.int (x1))] [.ref (sS 0 + 9)] = some (16, [some (.ref (1)), some (.int (x1))], [.int (x1), .ref (sS 0 + 9)]) from rfl) ?_
  refine AE.iald K (sh_S9 (by decide)) (am_at eX11_packetsOf 8 rfl) h (fun h => ?_)
  refine AE.cs (f' := 0) (c' := 0) (lo' := 0) (st := []) (As := [.int (V1 (sS 0 + 9) (iN x1))]) (m := d_J6_bitCount_0f7a4 (V1 (sS 0 + 9) (iN x1)) V1) K hex (fun q hq => kJ6_bitCount_0f7a4 B hfl hq) cs_X11_270 rfl rfl (Nat.le_of_ble_eq_true rfl) ⟨Nat.le_of_ble_eq_true rfl, Nat.le_of_ble_eq_true rfl⟩ (by omega) (am_at eX11_packetsOf 9 rfl) h (rI_some h) (bkI (fun y3 V2 h => ?_))
  exact AE.iret K (by omega) (am_at eX11_packetsOf 10 rfl) h
def d_X11_isCovered (x1 : Int32) (V : am_V) : am_R := rU (d_X11_requireField x1 V) (fun (V1 : am_V) => rU (d_X11_requireStarted V1) (fun (V2 : am_V) => rI (d_X1_covers 0 x1 V2) (fun (y4 : Int32) (V3 : am_V) => rG (am_nb y4) (some (.inl (some (.int (y4))), V3)))))
set_option maxRecDepth 100000 in
set_option maxHeartbeats 4000000 in
theorem kX11_isCovered {U : am_U} {l : Launch} (B : am_base xx U) (hfl : l.stackTraces = false) {V : am_V} {x1 : Int32} {r : (Option Value ⊕ String) × am_V} (h : d_X11_isCovered x1 V = some r) : am_Ct xx U l yX11_isCovered cX11_isCovered 2 (some .boolean) (rk 8 2 221) [.ref (1), .int (x1)] V (am_is r.1 r.2) := by
  refine am_Ct.of B hfl (by decide) (Nat.le_of_ble_eq_true rfl) ?_
  intro G hgl hgR hr ok h0 hex
  have K : aK U l G RX11 cX11_isCovered 2 (some .boolean) 8 2 221 := ⟨hgl, hgR, hr, ok, h0⟩
  unfold d_X11_isCovered at h
  show AE U G 2 8 2 221 r 0 V 0 [some (.ref (1)), some (.int (x1))] []
  refine AE.run K eX11_isCovered 0 2 (show am_run 2 ((tX11_isCovered.drop 0).take 2) 0 [some (.ref (1)), some (.int (x1))] [] = some (2, [some (.ref (1)), some (.int (x1))], [.int (x1), .ref (1)]) from rfl) ?_
  refine AE.cv (f' := 7) (c' := 1) (lo' := 200) (st := []) (As := [.int (x1)]) (m := d_X11_requireField x1 V) K hex (fun q hq => kX11_requireField B hfl hq) cv_X11_127 rfl (T := TX11) (N := 16) rfl rfl rfl (Nat.le_of_ble_eq_true rfl) ⟨Nat.le_of_ble_eq_true rfl, Nat.le_of_ble_eq_true rfl⟩ (by omega) (am_at eX11_isCovered 2 rfl) h (rU_some h) (bkU (fun V1 h => ?_))
  refine AE.run K eX11_isCovered 3 1 (show am_run 2 ((tX11_isCovered.drop 3).take 1) 5 [some (.ref (1)), some (.int (x1))] [] = some (6, [some (.ref (1)), some (.int (x1))], [.ref (1)]) from rfl) ?_
  refine AE.cv (f' := 7) (c' := 1) (lo' := 200) (st := []) (As := []) (m := d_X11_requireStarted V1) K hex (fun q hq => kX11_requireStarted B hfl hq) cv_X11_255 rfl (T := TX11) (N := 16) rfl rfl rfl (Nat.le_of_ble_eq_true rfl) ⟨Nat.le_of_ble_eq_true rfl, Nat.le_of_ble_eq_true rfl⟩ (by omega) (am_at eX11_isCovered 4 rfl) h (rU_some h) (bkU (fun V2 h => ?_))
  refine AE.run K eX11_isCovered 5 1 (show am_run 2 ((tX11_isCovered.drop 5).take 1) 9 [some (.ref (1)), some (.int (x1))] [] = some (10, [some (.ref (1)), some (.int (x1))], [.ref (1)]) from rfl) ?_
  refine AE.getR K gf_X11_10 rfl rfl (am_at eX11_isCovered 6 rfl) ?_
  refine AE.getR K gf_X11_246 (sh_S0 (by decide)) rfl (am_at eX11_isCovered 7 rfl) ?_
  refine AE.run K eX11_isCovered 8 1 (show am_run 2 ((tX11_isCovered.drop 8).take 1) 16 [some (.ref (1)), some (.int (x1))] [.ref (sS 0 + 2)] = some (17, [some (.ref (1)), some (.int (x1))], [.int (x1), .ref (sS 0 + 2)]) from rfl) ?_
  refine AE.cv (f' := 0) (c' := 0) (lo' := 0) (st := []) (As := [.int (x1)]) (m := d_X1_covers 0 x1 V2) K hex (fun q hq => kX1_covers B hfl (i := 0) (by decide) hq) cv_X11_275 (sh_S2 (by decide)) (T := TX1) (N := 8) rfl rfl rfl (Nat.le_of_ble_eq_true rfl) ⟨Nat.le_of_ble_eq_true rfl, Nat.le_of_ble_eq_true rfl⟩ (by omega) (am_at eX11_isCovered 9 rfl) h (rI_some h) (bkI (fun y4 V3 h => ?_))
  exact AE.zret K (by omega) (am_at eX11_isCovered 10 rfl) h
def bd_X11_coveredCount_4 (kx kr : Int32 → Int32 → am_V → am_R) (a1_4 : Int32) (a2_4 : Int32) (V_4 : am_V) : am_R := (if (V_4 (sS 0 + 1) 6) ≤ a2_4 then kx a1_4 a2_4 V_4 else rI (d_X1_covers 0 a2_4 V_4) (fun (y2 : Int32) (V1 : am_V) => rB (fun (b1_35 : Int32) (V_35 : am_V) => kr b1_35 (a2_4 + nI 1) V_35) (fun (j35 : Int32 → am_V → am_R) => (if y2 = 0 then j35 a1_4 V1 else j35 (a1_4 + nI 1) V1))))
def lp_X11_coveredCount_4 (kx : Int32 → Int32 → am_V → am_R) : Nat → Int32 → Int32 → am_V → am_R
  | 0, _, _, _ => none
  | f9 + 1, a1_4, a2_4, V_4 => bd_X11_coveredCount_4 kx (lp_X11_coveredCount_4 kx f9) a1_4 a2_4 V_4
def d_X11_coveredCount (V : am_V) : am_R := lp_X11_coveredCount_4  (fun (a1_4 : Int32) (a2_4 : Int32) (V_4x : am_V) => some (.inl (some (.int (a1_4))), V_4x)) 1000 (nI 0) (nI 0) V
set_option maxRecDepth 100000 in
set_option maxHeartbeats 4000000 in
theorem bk_X11_coveredCount_4 {U : am_U} {l : Launch} (B : am_base xx U) (hfl : l.stackTraces = false) {G : am_G} (K : aK U l G RX11 cX11_coveredCount 3 (some .int) 1 0 22) (hex : am_nx G) {r : (Option Value ⊕ String) × am_V} {kc : Nat} (hkc : kc ≤ 0) {kx kr : Int32 → Int32 → am_V → am_R} (hx : ∀ (a1_4 : Int32) (a2_4 : Int32) (Vq : am_V), kx a1_4 a2_4 Vq = some r → AE U G 3 1 0 22 r kc Vq 41 [none, some (.int (a1_4)), none] []) (hr : ∀ (a1_4 : Int32) (a2_4 : Int32) (Vq : am_V), kr a1_4 a2_4 Vq = some r → AE U G 3 1 0 22 r kc Vq 4 [some (.ref (1)), some (.int (a1_4)), some (.int (a2_4))] []) (a1_4 : Int32) (a2_4 : Int32) (V_4 : am_V) (h : bd_X11_coveredCount_4  kx kr a1_4 a2_4 V_4 = some r) : AE U G 3 1 0 22 r kc V_4 4 [some (.ref (1)), some (.int (a1_4)), some (.int (a2_4))] [] := by
  unfold bd_X11_coveredCount_4 at h
  refine AE.run K eX11_coveredCount 4 2 (show am_run 3 ((tX11_coveredCount.drop 4).take 2) 4 [some (.ref (1)), some (.int (a1_4)), some (.int (a2_4))] [] = some (6, [some (.ref (1)), some (.int (a1_4)), some (.int (a2_4))], [.ref (1), .int (a2_4)]) from rfl) ?_
  refine AE.getR K gf_X11_10 rfl rfl (am_at eX11_coveredCount 6 rfl) ?_
  refine AE.getR K gf_X11_115 (sh_S0 (by decide)) rfl (am_at eX11_coveredCount 7 rfl) ?_
  refine AE.getI K gf_X11_119 (sh_S1 (by decide)) rfl (am_at eX11_coveredCount 8 rfl) ?_
  refine AE.ic K 41 (am_at eX11_coveredCount 9 rfl) (by decide) rfl h (fun h => ?_) (fun h => ?_)
  · exact AE.sub (L' := [none, some (.int (a1_4)), none]) (And.intro rfl trivial) (hx a1_4 a2_4 V_4 h)
  · refine AE.run K eX11_coveredCount 10 1 (show am_run 3 ((tX11_coveredCount.drop 10).take 1) 18 [some (.ref (1)), some (.int (a1_4)), some (.int (a2_4))] [] = some (19, [some (.ref (1)), some (.int (a1_4)), some (.int (a2_4))], [.ref (1)]) from rfl) ?_
    refine AE.getR K gf_X11_10 rfl rfl (am_at eX11_coveredCount 11 rfl) ?_
    refine AE.getR K gf_X11_246 (sh_S0 (by decide)) rfl (am_at eX11_coveredCount 12 rfl) ?_
    refine AE.run K eX11_coveredCount 13 1 (show am_run 3 ((tX11_coveredCount.drop 13).take 1) 25 [some (.ref (1)), some (.int (a1_4)), some (.int (a2_4))] [.ref (sS 0 + 2)] = some (26, [some (.ref (1)), some (.int (a1_4)), some (.int (a2_4))], [.int (a2_4), .ref (sS 0 + 2)]) from rfl) ?_
    refine AE.cv (f' := 0) (c' := 0) (lo' := 0) (st := []) (As := [.int (a2_4)]) (m := d_X1_covers 0 a2_4 V_4) K hex (fun q hq => kX1_covers B hfl (i := 0) (by decide) hq) cv_X11_275 (sh_S2 (by decide)) (T := TX1) (N := 8) rfl rfl rfl (Nat.le_of_ble_eq_true rfl) ⟨Nat.le_of_ble_eq_true rfl, Nat.le_of_ble_eq_true rfl⟩ (by omega) (am_at eX11_coveredCount 14 rfl) h (rI_some h) (bkI (fun y2 V1 h => ?_))
    refine rB_of (P := fun (j : Int32 → am_V → am_R) => ∀ (b1_35 : Int32) (V_35 : am_V), j b1_35 V_35 = some r → AE U G 3 1 0 22 r (kc) V_35 35 [some (.ref (1)), some (.int (b1_35)), some (.int (a2_4))] []) h (fun b1_35 V_35 h => ?_) (fun j35 hj35 h => ?_)
    · refine AE.run K eX11_coveredCount 17 2 (show am_run 3 ((tX11_coveredCount.drop 17).take 2) 35 [some (.ref (1)), some (.int (b1_35)), some (.int (a2_4))] [] = some (4, [some (.ref (1)), some (.int (b1_35)), some (.int (a2_4 + nI 1))], []) from rfl) ?_
      exact AE.sub (L' := [some (.ref (1)), some (.int (b1_35)), some (.int (a2_4 + nI 1))]) (And.intro rfl (And.intro rfl (And.intro rfl trivial))) (hr b1_35 (a2_4 + nI 1) V_35 h)
    refine AE.if0 K 35 (am_at eX11_coveredCount 15 rfl) (by decide) rfl h (fun h => ?_) (fun h => ?_)
    · exact AE.sub (L' := [some (.ref (1)), some (.int (a1_4)), some (.int (a2_4))]) (And.intro rfl (And.intro rfl (And.intro rfl trivial))) (hj35 a1_4 V1 h)
    · refine AE.run K eX11_coveredCount 16 1 (show am_run 3 ((tX11_coveredCount.drop 16).take 1) 32 [some (.ref (1)), some (.int (a1_4)), some (.int (a2_4))] [] = some (35, [some (.ref (1)), some (.int (a1_4 + nI 1)), some (.int (a2_4))], []) from rfl) ?_
      exact AE.sub (L' := [some (.ref (1)), some (.int (a1_4 + nI 1)), some (.int (a2_4))]) (And.intro rfl (And.intro rfl (And.intro rfl trivial))) (hj35 (a1_4 + nI 1) V1 h)
theorem lk_X11_coveredCount_4 {U : am_U} {l : Launch} (B : am_base xx U) (hfl : l.stackTraces = false) {G : am_G} (K : aK U l G RX11 cX11_coveredCount 3 (some .int) 1 0 22) (hex : am_nx G) {r : (Option Value ⊕ String) × am_V} {kc : Nat} (hkc : kc ≤ 0) {kx : Int32 → Int32 → am_V → am_R} (hx : ∀ (a1_4 : Int32) (a2_4 : Int32) (Vq : am_V), kx a1_4 a2_4 Vq = some r → AE U G 3 1 0 22 r kc Vq 41 [none, some (.int (a1_4)), none] []) : ∀ (f9 : Nat) (a1_4 : Int32) (a2_4 : Int32) (Vq : am_V), lp_X11_coveredCount_4  kx f9 a1_4 a2_4 Vq = some r → AE U G 3 1 0 22 r kc Vq 4 [some (.ref (1)), some (.int (a1_4)), some (.int (a2_4))] [] := by
  intro f9
  induction f9 with
  | zero =>
    intro a1_4 a2_4 Vq h
    cases h
  | succ f9 ih =>
    intro a1_4 a2_4 Vq h
    exact bk_X11_coveredCount_4 B hfl K hex  hkc hx ih a1_4 a2_4 Vq h
set_option maxRecDepth 100000 in
set_option maxHeartbeats 4000000 in
theorem kX11_coveredCount {U : am_U} {l : Launch} (B : am_base xx U) (hfl : l.stackTraces = false) {V : am_V} {r : (Option Value ⊕ String) × am_V} (h : d_X11_coveredCount V = some r) : am_Ct xx U l yX11_coveredCount cX11_coveredCount 3 (some .int) (rk 1 0 22) [.ref (1)] V (am_is r.1 r.2) := by
  refine am_Ct.of B hfl (by decide) (Nat.le_of_ble_eq_true rfl) ?_
  intro G hgl hgR hr ok h0 hex
  have K : aK U l G RX11 cX11_coveredCount 3 (some .int) 1 0 22 := ⟨hgl, hgR, hr, ok, h0⟩
  unfold d_X11_coveredCount at h
  show AE U G 3 1 0 22 r 0 V 0 [some (.ref (1)), none, none] []
  refine AE.run K eX11_coveredCount 0 4 (show am_run 3 ((tX11_coveredCount.drop 0).take 4) 0 [some (.ref (1)), none, none] [] = some (4, [some (.ref (1)), some (.int (nI 0)), some (.int (nI 0))], []) from rfl) ?_
  refine AE.sub (L' := [some (.ref (1)), some (.int (nI 0)), some (.int (nI 0))]) (And.intro rfl (And.intro rfl (And.intro rfl trivial))) ?_
  refine lk_X11_coveredCount_4 B hfl K hex  (by omega) ?_ 1000 (nI 0) (nI 0) V h
  intro a1_4 a2_4 V_4x h
  refine AE.run K eX11_coveredCount 19 1 (show am_run 3 ((tX11_coveredCount.drop 19).take 1) 41 [none, some (.int (a1_4)), none] [] = some (42, [none, some (.int (a1_4)), none], [.int (a1_4)]) from rfl) ?_
  exact AE.iret K (by omega) (am_at eX11_coveredCount 20 rfl) h
def d_X11_windsLeft (V : am_V) : am_R := rU (d_X11_requireRunning V) (fun (V1 : am_V) => rU (d_X8_copyFrom 1 0 V1) (fun (V2 : am_V) => rI (d_X2_letBlowToEnd 1 V2) (fun (y4 : Int32) (V3 : am_V) => some (.inl (some (.int (y4))), V3))))
set_option maxRecDepth 100000 in
set_option maxHeartbeats 4000000 in
theorem kX11_windsLeft {U : am_U} {l : Launch} (B : am_base xx U) (hfl : l.stackTraces = false) {V : am_V} {r : (Option Value ⊕ String) × am_V} (h : d_X11_windsLeft V = some r) : am_Ct xx U l yX11_windsLeft cX11_windsLeft 1 (some .int) (rk 8 1 220) [.ref (1)] V (am_is r.1 r.2) := by
  refine am_Ct.of B hfl (by decide) (Nat.le_of_ble_eq_true rfl) ?_
  intro G hgl hgR hr ok h0 hex
  have K : aK U l G RX11 cX11_windsLeft 1 (some .int) 8 1 220 := ⟨hgl, hgR, hr, ok, h0⟩
  unfold d_X11_windsLeft at h
  show AE U G 1 8 1 220 r 0 V 0 [some (.ref (1))] []
  refine AE.run K eX11_windsLeft 0 1 (show am_run 1 ((tX11_windsLeft.drop 0).take 1) 0 [some (.ref (1))] [] = some (1, [some (.ref (1))], [.ref (1)]) from rfl) ?_
  refine AE.cv (f' := 7) (c' := 1) (lo' := 200) (st := []) (As := []) (m := d_X11_requireRunning V) K hex (fun q hq => kX11_requireRunning B hfl hq) cv_X11_278 rfl (T := TX11) (N := 16) rfl rfl rfl (Nat.le_of_ble_eq_true rfl) ⟨Nat.le_of_ble_eq_true rfl, Nat.le_of_ble_eq_true rfl⟩ (by omega) (am_at eX11_windsLeft 1 rfl) h (rU_some h) (bkU (fun V1 h => ?_))
  refine AE.run K eX11_windsLeft 2 1 (show am_run 1 ((tX11_windsLeft.drop 2).take 1) 4 [some (.ref (1))] [] = some (5, [some (.ref (1))], [.ref (1)]) from rfl) ?_
  refine AE.getR K gf_X11_16 rfl rfl (am_at eX11_windsLeft 3 rfl) ?_
  refine AE.run K eX11_windsLeft 4 1 (show am_run 1 ((tX11_windsLeft.drop 4).take 1) 8 [some (.ref (1))] [.ref (sS 1)] = some (9, [some (.ref (1))], [.ref (1), .ref (sS 1)]) from rfl) ?_
  refine AE.getR K gf_X11_10 rfl rfl (am_at eX11_windsLeft 5 rfl) ?_
  refine AE.cv (f' := 3) (c' := 0) (lo' := 81) (st := []) (As := [.ref (sS 0)]) (m := d_X8_copyFrom 1 0 V1) K hex (fun q hq => kX8_copyFrom B hfl (i := 1) (j := 0) (by decide) (by decide) hq) cv_X11_281 (sh_S0 (by decide)) (T := TX8) (N := 9) rfl rfl rfl (Nat.le_of_ble_eq_true rfl) ⟨Nat.le_of_ble_eq_true rfl, Nat.le_of_ble_eq_true rfl⟩ (by omega) (am_at eX11_windsLeft 6 rfl) h (rU_some h) (bkU (fun V2 h => ?_))
  refine AE.run K eX11_windsLeft 7 1 (show am_run 1 ((tX11_windsLeft.drop 7).take 1) 15 [some (.ref (1))] [] = some (16, [some (.ref (1))], [.ref (1)]) from rfl) ?_
  refine AE.getR K gf_X11_53 rfl rfl (am_at eX11_windsLeft 8 rfl) ?_
  refine AE.run K eX11_windsLeft 9 1 (show am_run 1 ((tX11_windsLeft.drop 9).take 1) 19 [some (.ref (1))] [.ref (12)] = some (20, [some (.ref (1))], [.ref (1), .ref (12)]) from rfl) ?_
  refine AE.getR K gf_X11_16 rfl rfl (am_at eX11_windsLeft 10 rfl) ?_
  refine AE.run K eX11_windsLeft 11 1 (show am_run 1 ((tX11_windsLeft.drop 11).take 1) 23 [some (.ref (1))] [.ref (sS 1), .ref (12)] = some (24, [some (.ref (1))], [.ref (1), .ref (sS 1), .ref (12)]) from rfl) ?_
  refine AE.getR K gf_X11_46 rfl rfl (am_at eX11_windsLeft 12 rfl) ?_
  refine AE.cv (f' := 4) (c' := 0) (lo' := 108) (st := []) (As := [.ref (sS 1), .ref (11)]) (m := d_X2_letBlowToEnd 1 V2) K hex (fun q hq => kX2_letBlowToEnd B hfl (i := 1) (by decide) hq) cv_X11_239 rfl (T := TX2) (N := 2) rfl rfl rfl (Nat.le_of_ble_eq_true rfl) ⟨Nat.le_of_ble_eq_true rfl, Nat.le_of_ble_eq_true rfl⟩ (by omega) (am_at eX11_windsLeft 13 rfl) h (rI_some h) (bkI (fun y4 V3 h => ?_))
  exact AE.iret K (by omega) (am_at eX11_windsLeft 14 rfl) h
def d_X11_energyLeft (V : am_V) : am_R := rU (d_X11_requireRunning V) (fun (V1 : am_V) => rU (d_X8_copyFrom 1 0 V1) (fun (V2 : am_V) => rI (d_X2_letBlowToEnd 1 V2) (fun (y4 : Int32) (V3 : am_V) => some (.inl (some (.int ((V3 (sS 1) 6) - (V3 (sS 0) 6)))), V3))))
set_option maxRecDepth 100000 in
set_option maxHeartbeats 4000000 in
theorem kX11_energyLeft {U : am_U} {l : Launch} (B : am_base xx U) (hfl : l.stackTraces = false) {V : am_V} {r : (Option Value ⊕ String) × am_V} (h : d_X11_energyLeft V = some r) : am_Ct xx U l yX11_energyLeft cX11_energyLeft 1 (some .int) (rk 8 1 220) [.ref (1)] V (am_is r.1 r.2) := by
  refine am_Ct.of B hfl (by decide) (Nat.le_of_ble_eq_true rfl) ?_
  intro G hgl hgR hr ok h0 hex
  have K : aK U l G RX11 cX11_energyLeft 1 (some .int) 8 1 220 := ⟨hgl, hgR, hr, ok, h0⟩
  unfold d_X11_energyLeft at h
  show AE U G 1 8 1 220 r 0 V 0 [some (.ref (1))] []
  refine AE.run K eX11_energyLeft 0 1 (show am_run 1 ((tX11_energyLeft.drop 0).take 1) 0 [some (.ref (1))] [] = some (1, [some (.ref (1))], [.ref (1)]) from rfl) ?_
  refine AE.cv (f' := 7) (c' := 1) (lo' := 200) (st := []) (As := []) (m := d_X11_requireRunning V) K hex (fun q hq => kX11_requireRunning B hfl hq) cv_X11_278 rfl (T := TX11) (N := 16) rfl rfl rfl (Nat.le_of_ble_eq_true rfl) ⟨Nat.le_of_ble_eq_true rfl, Nat.le_of_ble_eq_true rfl⟩ (by omega) (am_at eX11_energyLeft 1 rfl) h (rU_some h) (bkU (fun V1 h => ?_))
  refine AE.run K eX11_energyLeft 2 1 (show am_run 1 ((tX11_energyLeft.drop 2).take 1) 4 [some (.ref (1))] [] = some (5, [some (.ref (1))], [.ref (1)]) from rfl) ?_
  refine AE.getR K gf_X11_16 rfl rfl (am_at eX11_energyLeft 3 rfl) ?_
  refine AE.run K eX11_energyLeft 4 1 (show am_run 1 ((tX11_energyLeft.drop 4).take 1) 8 [some (.ref (1))] [.ref (sS 1)] = some (9, [some (.ref (1))], [.ref (1), .ref (sS 1)]) from rfl) ?_
  refine AE.getR K gf_X11_10 rfl rfl (am_at eX11_energyLeft 5 rfl) ?_
  refine AE.cv (f' := 3) (c' := 0) (lo' := 81) (st := []) (As := [.ref (sS 0)]) (m := d_X8_copyFrom 1 0 V1) K hex (fun q hq => kX8_copyFrom B hfl (i := 1) (j := 0) (by decide) (by decide) hq) cv_X11_281 (sh_S0 (by decide)) (T := TX8) (N := 9) rfl rfl rfl (Nat.le_of_ble_eq_true rfl) ⟨Nat.le_of_ble_eq_true rfl, Nat.le_of_ble_eq_true rfl⟩ (by omega) (am_at eX11_energyLeft 6 rfl) h (rU_some h) (bkU (fun V2 h => ?_))
  refine AE.run K eX11_energyLeft 7 1 (show am_run 1 ((tX11_energyLeft.drop 7).take 1) 15 [some (.ref (1))] [] = some (16, [some (.ref (1))], [.ref (1)]) from rfl) ?_
  refine AE.getR K gf_X11_53 rfl rfl (am_at eX11_energyLeft 8 rfl) ?_
  refine AE.run K eX11_energyLeft 9 1 (show am_run 1 ((tX11_energyLeft.drop 9).take 1) 19 [some (.ref (1))] [.ref (12)] = some (20, [some (.ref (1))], [.ref (1), .ref (12)]) from rfl) ?_
  refine AE.getR K gf_X11_16 rfl rfl (am_at eX11_energyLeft 10 rfl) ?_
  refine AE.run K eX11_energyLeft 11 1 (show am_run 1 ((tX11_energyLeft.drop 11).take 1) 23 [some (.ref (1))] [.ref (sS 1), .ref (12)] = some (24, [some (.ref (1))], [.ref (1), .ref (sS 1), .ref (12)]) from rfl) ?_
  refine AE.getR K gf_X11_46 rfl rfl (am_at eX11_energyLeft 12 rfl) ?_
  refine AE.cv (f' := 4) (c' := 0) (lo' := 108) (st := []) (As := [.ref (sS 1), .ref (11)]) (m := d_X2_letBlowToEnd 1 V2) K hex (fun q hq => kX2_letBlowToEnd B hfl (i := 1) (by decide) hq) cv_X11_239 rfl (T := TX2) (N := 2) rfl rfl rfl (Nat.le_of_ble_eq_true rfl) ⟨Nat.le_of_ble_eq_true rfl, Nat.le_of_ble_eq_true rfl⟩ (by omega) (am_at eX11_energyLeft 13 rfl) h (rI_some h) (bkI (fun y4 V3 h => ?_))
  refine AE.run K eX11_energyLeft 14 2 (show am_run 1 ((tX11_energyLeft.drop 14).take 2) 30 [some (.ref (1))] [.int (y4)] = some (32, [some (.ref (1))], [.ref (1)]) from rfl) ?_
  refine AE.getR K gf_X11_16 rfl rfl (am_at eX11_energyLeft 16 rfl) ?_
  refine AE.getI K gf_X11_284 (sh_S0 (by decide)) rfl (am_at eX11_energyLeft 17 rfl) ?_
  refine AE.run K eX11_energyLeft 18 1 (show am_run 1 ((tX11_energyLeft.drop 18).take 1) 38 [some (.ref (1))] [.int (V3 (sS 1) 6)] = some (39, [some (.ref (1))], [.ref (1), .int (V3 (sS 1) 6)]) from rfl) ?_
  refine AE.getR K gf_X11_10 rfl rfl (am_at eX11_energyLeft 19 rfl) ?_
  refine AE.getI K gf_X11_284 (sh_S0 (by decide)) rfl (am_at eX11_energyLeft 20 rfl) ?_
  refine AE.run K eX11_energyLeft 21 1 (show am_run 1 ((tX11_energyLeft.drop 21).take 1) 45 [some (.ref (1))] [.int (V3 (sS 0) 6), .int (V3 (sS 1) 6)] = some (46, [some (.ref (1))], [.int ((V3 (sS 1) 6) - (V3 (sS 0) 6))]) from rfl) ?_
  exact AE.iret K (by omega) (am_at eX11_energyLeft 22 rfl) h
def d_X11_sentCount (V : am_V) : am_R := some (.inl (some (.int (V (sS 0) 3))), V)
set_option maxRecDepth 100000 in
set_option maxHeartbeats 4000000 in
theorem kX11_sentCount {U : am_U} {l : Launch} (B : am_base xx U) (hfl : l.stackTraces = false) {V : am_V} {r : (Option Value ⊕ String) × am_V} (h : d_X11_sentCount V = some r) : am_Ct xx U l yX11_sentCount cX11_sentCount 1 (some .int) (rk 0 0 0) [.ref (1)] V (am_is r.1 r.2) := by
  refine am_Ct.of B hfl (by decide) (Nat.le_of_ble_eq_true rfl) ?_
  intro G hgl hgR hr ok h0 hex
  have K : aK U l G RX11 cX11_sentCount 1 (some .int) 0 0 0 := ⟨hgl, hgR, hr, ok, h0⟩
  unfold d_X11_sentCount at h
  show AE U G 1 0 0 0 r 0 V 0 [some (.ref (1))] []
  refine AE.run K eX11_sentCount 0 1 (show am_run 1 ((tX11_sentCount.drop 0).take 1) 0 [some (.ref (1))] [] = some (1, [some (.ref (1))], [.ref (1)]) from rfl) ?_
  refine AE.getR K gf_X11_10 rfl rfl (am_at eX11_sentCount 1 rfl) ?_
  refine AE.getI K gf_X11_287 (sh_S0 (by decide)) rfl (am_at eX11_sentCount 2 rfl) ?_
  exact AE.iret K (by omega) (am_at eX11_sentCount 3 rfl) h
def d_X11_lostCount (V : am_V) : am_R := some (.inl (some (.int (V (sS 0) 4))), V)
set_option maxRecDepth 100000 in
set_option maxHeartbeats 4000000 in
theorem kX11_lostCount {U : am_U} {l : Launch} (B : am_base xx U) (hfl : l.stackTraces = false) {V : am_V} {r : (Option Value ⊕ String) × am_V} (h : d_X11_lostCount V = some r) : am_Ct xx U l yX11_lostCount cX11_lostCount 1 (some .int) (rk 0 0 0) [.ref (1)] V (am_is r.1 r.2) := by
  refine am_Ct.of B hfl (by decide) (Nat.le_of_ble_eq_true rfl) ?_
  intro G hgl hgR hr ok h0 hex
  have K : aK U l G RX11 cX11_lostCount 1 (some .int) 0 0 0 := ⟨hgl, hgR, hr, ok, h0⟩
  unfold d_X11_lostCount at h
  show AE U G 1 0 0 0 r 0 V 0 [some (.ref (1))] []
  refine AE.run K eX11_lostCount 0 1 (show am_run 1 ((tX11_lostCount.drop 0).take 1) 0 [some (.ref (1))] [] = some (1, [some (.ref (1))], [.ref (1)]) from rfl) ?_
  refine AE.getR K gf_X11_10 rfl rfl (am_at eX11_lostCount 1 rfl) ?_
  refine AE.getI K gf_X11_290 (sh_S0 (by decide)) rfl (am_at eX11_lostCount 2 rfl) ?_
  exact AE.iret K (by omega) (am_at eX11_lostCount 3 rfl) h
def d_X11_rebuiltCount (V : am_V) : am_R := some (.inl (some (.int (V (sS 0) 5))), V)
set_option maxRecDepth 100000 in
set_option maxHeartbeats 4000000 in
theorem kX11_rebuiltCount {U : am_U} {l : Launch} (B : am_base xx U) (hfl : l.stackTraces = false) {V : am_V} {r : (Option Value ⊕ String) × am_V} (h : d_X11_rebuiltCount V = some r) : am_Ct xx U l yX11_rebuiltCount cX11_rebuiltCount 1 (some .int) (rk 0 0 0) [.ref (1)] V (am_is r.1 r.2) := by
  refine am_Ct.of B hfl (by decide) (Nat.le_of_ble_eq_true rfl) ?_
  intro G hgl hgR hr ok h0 hex
  have K : aK U l G RX11 cX11_rebuiltCount 1 (some .int) 0 0 0 := ⟨hgl, hgR, hr, ok, h0⟩
  unfold d_X11_rebuiltCount at h
  show AE U G 1 0 0 0 r 0 V 0 [some (.ref (1))] []
  refine AE.run K eX11_rebuiltCount 0 1 (show am_run 1 ((tX11_rebuiltCount.drop 0).take 1) 0 [some (.ref (1))] [] = some (1, [some (.ref (1))], [.ref (1)]) from rfl) ?_
  refine AE.getR K gf_X11_10 rfl rfl (am_at eX11_rebuiltCount 1 rfl) ?_
  refine AE.getI K gf_X11_293 (sh_S0 (by decide)) rfl (am_at eX11_rebuiltCount 2 rfl) ?_
  exact AE.iret K (by omega) (am_at eX11_rebuiltCount 3 rfl) h
def d_X11_energy (V : am_V) : am_R := some (.inl (some (.int (V (sS 0) 6))), V)
set_option maxRecDepth 100000 in
set_option maxHeartbeats 4000000 in
theorem kX11_energy {U : am_U} {l : Launch} (B : am_base xx U) (hfl : l.stackTraces = false) {V : am_V} {r : (Option Value ⊕ String) × am_V} (h : d_X11_energy V = some r) : am_Ct xx U l yX11_energy cX11_energy 1 (some .int) (rk 0 0 0) [.ref (1)] V (am_is r.1 r.2) := by
  refine am_Ct.of B hfl (by decide) (Nat.le_of_ble_eq_true rfl) ?_
  intro G hgl hgR hr ok h0 hex
  have K : aK U l G RX11 cX11_energy 1 (some .int) 0 0 0 := ⟨hgl, hgR, hr, ok, h0⟩
  unfold d_X11_energy at h
  show AE U G 1 0 0 0 r 0 V 0 [some (.ref (1))] []
  refine AE.run K eX11_energy 0 1 (show am_run 1 ((tX11_energy.drop 0).take 1) 0 [some (.ref (1))] [] = some (1, [some (.ref (1))], [.ref (1)]) from rfl) ?_
  refine AE.getR K gf_X11_10 rfl rfl (am_at eX11_energy 1 rfl) ?_
  refine AE.getI K gf_X11_284 (sh_S0 (by decide)) rfl (am_at eX11_energy 2 rfl) ?_
  exact AE.iret K (by omega) (am_at eX11_energy 3 rfl) h
def d_X11_finishedCount (V : am_V) : am_R := some (.inl (some (.int (V (sS 0) 7))), V)
set_option maxRecDepth 100000 in
set_option maxHeartbeats 4000000 in
theorem kX11_finishedCount {U : am_U} {l : Launch} (B : am_base xx U) (hfl : l.stackTraces = false) {V : am_V} {r : (Option Value ⊕ String) × am_V} (h : d_X11_finishedCount V = some r) : am_Ct xx U l yX11_finishedCount cX11_finishedCount 1 (some .int) (rk 0 0 0) [.ref (1)] V (am_is r.1 r.2) := by
  refine am_Ct.of B hfl (by decide) (Nat.le_of_ble_eq_true rfl) ?_
  intro G hgl hgR hr ok h0 hex
  have K : aK U l G RX11 cX11_finishedCount 1 (some .int) 0 0 0 := ⟨hgl, hgR, hr, ok, h0⟩
  unfold d_X11_finishedCount at h
  show AE U G 1 0 0 0 r 0 V 0 [some (.ref (1))] []
  refine AE.run K eX11_finishedCount 0 1 (show am_run 1 ((tX11_finishedCount.drop 0).take 1) 0 [some (.ref (1))] [] = some (1, [some (.ref (1))], [.ref (1)]) from rfl) ?_
  refine AE.getR K gf_X11_10 rfl rfl (am_at eX11_finishedCount 1 rfl) ?_
  refine AE.getI K gf_X11_296 (sh_S0 (by decide)) rfl (am_at eX11_finishedCount 2 rfl) ?_
  exact AE.iret K (by omega) (am_at eX11_finishedCount 3 rfl) h
def d_X11_failedCount (V : am_V) : am_R := some (.inl (some (.int (V (sS 0) 8))), V)
set_option maxRecDepth 100000 in
set_option maxHeartbeats 4000000 in
theorem kX11_failedCount {U : am_U} {l : Launch} (B : am_base xx U) (hfl : l.stackTraces = false) {V : am_V} {r : (Option Value ⊕ String) × am_V} (h : d_X11_failedCount V = some r) : am_Ct xx U l yX11_failedCount cX11_failedCount 1 (some .int) (rk 0 0 0) [.ref (1)] V (am_is r.1 r.2) := by
  refine am_Ct.of B hfl (by decide) (Nat.le_of_ble_eq_true rfl) ?_
  intro G hgl hgR hr ok h0 hex
  have K : aK U l G RX11 cX11_failedCount 1 (some .int) 0 0 0 := ⟨hgl, hgR, hr, ok, h0⟩
  unfold d_X11_failedCount at h
  show AE U G 1 0 0 0 r 0 V 0 [some (.ref (1))] []
  refine AE.run K eX11_failedCount 0 1 (show am_run 1 ((tX11_failedCount.drop 0).take 1) 0 [some (.ref (1))] [] = some (1, [some (.ref (1))], [.ref (1)]) from rfl) ?_
  refine AE.getR K gf_X11_10 rfl rfl (am_at eX11_failedCount 1 rfl) ?_
  refine AE.getI K gf_X11_299 (sh_S0 (by decide)) rfl (am_at eX11_failedCount 2 rfl) ?_
  exact AE.iret K (by omega) (am_at eX11_failedCount 3 rfl) h
def d_X11_useOf (x1 : Int32) (V : am_V) : am_R := rU (d_X11_requirePath x1 V) (fun (V1 : am_V) => rG (am_in x1 16) (some (.inl (some (.int (V1 (sS 0 + 3) (iN x1)))), V1)))
set_option maxRecDepth 100000 in
set_option maxHeartbeats 4000000 in
theorem kX11_useOf {U : am_U} {l : Launch} (B : am_base xx U) (hfl : l.stackTraces = false) {V : am_V} {x1 : Int32} {r : (Option Value ⊕ String) × am_V} (h : d_X11_useOf x1 V = some r) : am_Ct xx U l yX11_useOf cX11_useOf 2 (some .int) (rk 8 1 221) [.ref (1), .int (x1)] V (am_is r.1 r.2) := by
  refine am_Ct.of B hfl (by decide) (Nat.le_of_ble_eq_true rfl) ?_
  intro G hgl hgR hr ok h0 hex
  have K : aK U l G RX11 cX11_useOf 2 (some .int) 8 1 221 := ⟨hgl, hgR, hr, ok, h0⟩
  unfold d_X11_useOf at h
  show AE U G 2 8 1 221 r 0 V 0 [some (.ref (1)), some (.int (x1))] []
  refine AE.run K eX11_useOf 0 2 (show am_run 2 ((tX11_useOf.drop 0).take 2) 0 [some (.ref (1)), some (.int (x1))] [] = some (2, [some (.ref (1)), some (.int (x1))], [.int (x1), .ref (1)]) from rfl) ?_
  refine AE.cv (f' := 7) (c' := 1) (lo' := 200) (st := []) (As := [.int (x1)]) (m := d_X11_requirePath x1 V) K hex (fun q hq => kX11_requirePath B hfl hq) cv_X11_135 rfl (T := TX11) (N := 16) rfl rfl rfl (Nat.le_of_ble_eq_true rfl) ⟨Nat.le_of_ble_eq_true rfl, Nat.le_of_ble_eq_true rfl⟩ (by omega) (am_at eX11_useOf 2 rfl) h (rU_some h) (bkU (fun V1 h => ?_))
  refine AE.run K eX11_useOf 3 1 (show am_run 2 ((tX11_useOf.drop 3).take 1) 5 [some (.ref (1)), some (.int (x1))] [] = some (6, [some (.ref (1)), some (.int (x1))], [.ref (1)]) from rfl) ?_
  refine AE.getR K gf_X11_10 rfl rfl (am_at eX11_useOf 4 rfl) ?_
  refine AE.getR K gf_X11_302 (sh_S0 (by decide)) rfl (am_at eX11_useOf 5 rfl) ?_
  refine AE.run K eX11_useOf 6 1 (show am_run 2 ((tX11_useOf.drop 6).take 1) 12 [some (.ref (1)), some (.int (x1))] [.ref (sS 0 + 3)] = some (13, [some (.ref (1)), some (.int (x1))], [.int (x1), .ref (sS 0 + 3)]) from rfl) ?_
  refine AE.iald K (sh_S3 (by decide)) (am_at eX11_useOf 7 rfl) h (fun h => ?_)
  exact AE.iret K (by omega) (am_at eX11_useOf 8 rfl) h
def bd_X11_fieldByPackets_2 (x1 : Int32) (kx kr : Int32 → am_V → am_R) (a2_2 : Int32) (V_2 : am_V) : am_R := (if (V_2 (sS 0 + 1) 6) ≤ a2_2 then kx a2_2 V_2 else rI (d_X8_fieldsAheadOf 0 a2_2 V_2) (fun (y2 : Int32) (V1 : am_V) => (if ¬ y2 = x1 then kr (a2_2 + nI 1) V1 else some (.inl (some (.int (a2_2))), V1))))
def lp_X11_fieldByPackets_2 (x1 : Int32) (kx : Int32 → am_V → am_R) : Nat → Int32 → am_V → am_R
  | 0, _, _ => none
  | f9 + 1, a2_2, V_2 => bd_X11_fieldByPackets_2 x1 kx (lp_X11_fieldByPackets_2 x1 kx f9) a2_2 V_2
def d_X11_fieldByPackets (x1 : Int32) (V : am_V) : am_R := lp_X11_fieldByPackets_2 x1 (fun (a2_2 : Int32) (V_2x : am_V) => some (.inr "java/util/NoSuchElementException", V_2x)) 1000 (nI 0) V
set_option maxRecDepth 100000 in
set_option maxHeartbeats 4000000 in
theorem bk_X11_fieldByPackets_2 {U : am_U} {l : Launch} (B : am_base xx U) (hfl : l.stackTraces = false) {G : am_G} (K : aK U l G RX11 cX11_fieldByPackets 3 (some .int) 7 1 200) (hex : am_nx G) {r : (Option Value ⊕ String) × am_V} {x1 : Int32} {kc : Nat} (hkc : kc ≤ 1) {kx kr : Int32 → am_V → am_R} (hx : ∀ (a2_2 : Int32) (Vq : am_V), kx a2_2 Vq = some r → AE U G 3 7 1 200 r kc Vq 36 [none, none, none] []) (hr : ∀ (a2_2 : Int32) (Vq : am_V), kr a2_2 Vq = some r → AE U G 3 7 1 200 r kc Vq 2 [some (.ref (1)), some (.int (x1)), some (.int (a2_2))] []) (a2_2 : Int32) (V_2 : am_V) (h : bd_X11_fieldByPackets_2 x1 kx kr a2_2 V_2 = some r) : AE U G 3 7 1 200 r kc V_2 2 [some (.ref (1)), some (.int (x1)), some (.int (a2_2))] [] := by
  unfold bd_X11_fieldByPackets_2 at h
  refine AE.run K eX11_fieldByPackets 2 2 (show am_run 3 ((tX11_fieldByPackets.drop 2).take 2) 2 [some (.ref (1)), some (.int (x1)), some (.int (a2_2))] [] = some (4, [some (.ref (1)), some (.int (x1)), some (.int (a2_2))], [.ref (1), .int (a2_2)]) from rfl) ?_
  refine AE.getR K gf_X11_10 rfl rfl (am_at eX11_fieldByPackets 4 rfl) ?_
  refine AE.getR K gf_X11_115 (sh_S0 (by decide)) rfl (am_at eX11_fieldByPackets 5 rfl) ?_
  refine AE.getI K gf_X11_119 (sh_S1 (by decide)) rfl (am_at eX11_fieldByPackets 6 rfl) ?_
  refine AE.ic K 36 (am_at eX11_fieldByPackets 7 rfl) (by decide) rfl h (fun h => ?_) (fun h => ?_)
  · exact AE.sub (L' := [none, none, none]) trivial (hx a2_2 V_2 h)
  · refine AE.run K eX11_fieldByPackets 8 1 (show am_run 3 ((tX11_fieldByPackets.drop 8).take 1) 16 [some (.ref (1)), some (.int (x1)), some (.int (a2_2))] [] = some (17, [some (.ref (1)), some (.int (x1)), some (.int (a2_2))], [.ref (1)]) from rfl) ?_
    refine AE.getR K gf_X11_10 rfl rfl (am_at eX11_fieldByPackets 9 rfl) ?_
    refine AE.run K eX11_fieldByPackets 10 1 (show am_run 3 ((tX11_fieldByPackets.drop 10).take 1) 20 [some (.ref (1)), some (.int (x1)), some (.int (a2_2))] [.ref (sS 0)] = some (21, [some (.ref (1)), some (.int (x1)), some (.int (a2_2))], [.int (a2_2), .ref (sS 0)]) from rfl) ?_
    refine AE.cv (f' := 3) (c' := 0) (lo' := 84) (st := []) (As := [.int (a2_2)]) (m := d_X8_fieldsAheadOf 0 a2_2 V_2) K hex (fun q hq => kX8_fieldsAheadOf B hfl (i := 0) (by decide) hq) cv_X11_305 (sh_S0 (by decide)) (T := TX8) (N := 9) rfl rfl rfl (Nat.le_of_ble_eq_true rfl) ⟨Nat.le_of_ble_eq_true rfl, Nat.le_of_ble_eq_true rfl⟩ (by omega) (am_at eX11_fieldByPackets 11 rfl) h (rI_some h) (bkI (fun y2 V1 h => ?_))
    refine AE.run K eX11_fieldByPackets 12 1 (show am_run 3 ((tX11_fieldByPackets.drop 12).take 1) 24 [some (.ref (1)), some (.int (x1)), some (.int (a2_2))] [.int (y2)] = some (25, [some (.ref (1)), some (.int (x1)), some (.int (a2_2))], [.int (x1), .int (y2)]) from rfl) ?_
    refine AE.ic K 30 (am_at eX11_fieldByPackets 13 rfl) (by decide) rfl h (fun h => ?_) (fun h => ?_)
    · refine AE.run K eX11_fieldByPackets 16 2 (show am_run 3 ((tX11_fieldByPackets.drop 16).take 2) 30 [some (.ref (1)), some (.int (x1)), some (.int (a2_2))] [] = some (2, [some (.ref (1)), some (.int (x1)), some (.int (a2_2 + nI 1))], []) from rfl) ?_
      exact AE.sub (L' := [some (.ref (1)), some (.int (x1)), some (.int (a2_2 + nI 1))]) (And.intro rfl (And.intro rfl (And.intro rfl trivial))) (hr (a2_2 + nI 1) V1 h)
    · refine AE.run K eX11_fieldByPackets 14 1 (show am_run 3 ((tX11_fieldByPackets.drop 14).take 1) 28 [some (.ref (1)), some (.int (x1)), some (.int (a2_2))] [] = some (29, [some (.ref (1)), some (.int (x1)), some (.int (a2_2))], [.int (a2_2)]) from rfl) ?_
      exact AE.iret K (by omega) (am_at eX11_fieldByPackets 15 rfl) h
theorem lk_X11_fieldByPackets_2 {U : am_U} {l : Launch} (B : am_base xx U) (hfl : l.stackTraces = false) {G : am_G} (K : aK U l G RX11 cX11_fieldByPackets 3 (some .int) 7 1 200) (hex : am_nx G) {r : (Option Value ⊕ String) × am_V} {x1 : Int32} {kc : Nat} (hkc : kc ≤ 1) {kx : Int32 → am_V → am_R} (hx : ∀ (a2_2 : Int32) (Vq : am_V), kx a2_2 Vq = some r → AE U G 3 7 1 200 r kc Vq 36 [none, none, none] []) : ∀ (f9 : Nat) (a2_2 : Int32) (Vq : am_V), lp_X11_fieldByPackets_2 x1 kx f9 a2_2 Vq = some r → AE U G 3 7 1 200 r kc Vq 2 [some (.ref (1)), some (.int (x1)), some (.int (a2_2))] [] := by
  intro f9
  induction f9 with
  | zero =>
    intro a2_2 Vq h
    cases h
  | succ f9 ih =>
    intro a2_2 Vq h
    exact bk_X11_fieldByPackets_2 B hfl K hex  hkc hx ih a2_2 Vq h
set_option maxRecDepth 100000 in
set_option maxHeartbeats 4000000 in
theorem kX11_fieldByPackets {U : am_U} {l : Launch} (B : am_base xx U) (hfl : l.stackTraces = false) {V : am_V} {x1 : Int32} {r : (Option Value ⊕ String) × am_V} (h : d_X11_fieldByPackets x1 V = some r) : am_Ct xx U l yX11_fieldByPackets cX11_fieldByPackets 3 (some .int) (rk 7 1 200) [.ref (1), .int (x1)] V (am_is r.1 r.2) := by
  refine am_Ct.of B hfl (by decide) (Nat.le_of_ble_eq_true rfl) ?_
  intro G hgl hgR hr ok h0 hex
  have K : aK U l G RX11 cX11_fieldByPackets 3 (some .int) 7 1 200 := ⟨hgl, hgR, hr, ok, h0⟩
  unfold d_X11_fieldByPackets at h
  show AE U G 3 7 1 200 r 0 V 0 [some (.ref (1)), some (.int (x1)), none] []
  refine AE.run K eX11_fieldByPackets 0 2 (show am_run 3 ((tX11_fieldByPackets.drop 0).take 2) 0 [some (.ref (1)), some (.int (x1)), none] [] = some (2, [some (.ref (1)), some (.int (x1)), some (.int (nI 0))], []) from rfl) ?_
  refine AE.sub (L' := [some (.ref (1)), some (.int (x1)), some (.int (nI 0))]) (And.intro rfl (And.intro rfl (And.intro rfl trivial))) ?_
  refine lk_X11_fieldByPackets_2 B hfl K hex  (by omega) ?_ 1000 (nI 0) V h
  intro a2_2 V_2x h
  exact AE.throwTW K hex th_X11_212_308 (am_at eX11_fieldByPackets 18 rfl) (am_at eX11_fieldByPackets 19 rfl) (am_at eX11_fieldByPackets 20 rfl) (am_at eX11_fieldByPackets 21 rfl) (am_at eX11_fieldByPackets 22 rfl) (by decide) (Nat.le_of_ble_eq_true rfl) (by omega) h
def bd_X11_pathByUse_2 (x1 : Int32) (kx kr : Int32 → am_V → am_R) (a2_2 : Int32) (V_2 : am_V) : am_R := (if (V_2 (sS 0 + 1) 7) ≤ a2_2 then kx a2_2 V_2 else rI (d_X8_pathsAheadOf 0 a2_2 V_2) (fun (y2 : Int32) (V1 : am_V) => (if ¬ y2 = x1 then kr (a2_2 + nI 1) V1 else some (.inl (some (.int (a2_2))), V1))))
def lp_X11_pathByUse_2 (x1 : Int32) (kx : Int32 → am_V → am_R) : Nat → Int32 → am_V → am_R
  | 0, _, _ => none
  | f9 + 1, a2_2, V_2 => bd_X11_pathByUse_2 x1 kx (lp_X11_pathByUse_2 x1 kx f9) a2_2 V_2
def d_X11_pathByUse (x1 : Int32) (V : am_V) : am_R := lp_X11_pathByUse_2 x1 (fun (a2_2 : Int32) (V_2x : am_V) => some (.inr "java/util/NoSuchElementException", V_2x)) 1000 (nI 0) V
set_option maxRecDepth 100000 in
set_option maxHeartbeats 4000000 in
theorem bk_X11_pathByUse_2 {U : am_U} {l : Launch} (B : am_base xx U) (hfl : l.stackTraces = false) {G : am_G} (K : aK U l G RX11 cX11_pathByUse 3 (some .int) 7 1 200) (hex : am_nx G) {r : (Option Value ⊕ String) × am_V} {x1 : Int32} {kc : Nat} (hkc : kc ≤ 1) {kx kr : Int32 → am_V → am_R} (hx : ∀ (a2_2 : Int32) (Vq : am_V), kx a2_2 Vq = some r → AE U G 3 7 1 200 r kc Vq 36 [none, none, none] []) (hr : ∀ (a2_2 : Int32) (Vq : am_V), kr a2_2 Vq = some r → AE U G 3 7 1 200 r kc Vq 2 [some (.ref (1)), some (.int (x1)), some (.int (a2_2))] []) (a2_2 : Int32) (V_2 : am_V) (h : bd_X11_pathByUse_2 x1 kx kr a2_2 V_2 = some r) : AE U G 3 7 1 200 r kc V_2 2 [some (.ref (1)), some (.int (x1)), some (.int (a2_2))] [] := by
  unfold bd_X11_pathByUse_2 at h
  refine AE.run K eX11_pathByUse 2 2 (show am_run 3 ((tX11_pathByUse.drop 2).take 2) 2 [some (.ref (1)), some (.int (x1)), some (.int (a2_2))] [] = some (4, [some (.ref (1)), some (.int (x1)), some (.int (a2_2))], [.ref (1), .int (a2_2)]) from rfl) ?_
  refine AE.getR K gf_X11_10 rfl rfl (am_at eX11_pathByUse 4 rfl) ?_
  refine AE.getR K gf_X11_115 (sh_S0 (by decide)) rfl (am_at eX11_pathByUse 5 rfl) ?_
  refine AE.getI K gf_X11_124 (sh_S1 (by decide)) rfl (am_at eX11_pathByUse 6 rfl) ?_
  refine AE.ic K 36 (am_at eX11_pathByUse 7 rfl) (by decide) rfl h (fun h => ?_) (fun h => ?_)
  · exact AE.sub (L' := [none, none, none]) trivial (hx a2_2 V_2 h)
  · refine AE.run K eX11_pathByUse 8 1 (show am_run 3 ((tX11_pathByUse.drop 8).take 1) 16 [some (.ref (1)), some (.int (x1)), some (.int (a2_2))] [] = some (17, [some (.ref (1)), some (.int (x1)), some (.int (a2_2))], [.ref (1)]) from rfl) ?_
    refine AE.getR K gf_X11_10 rfl rfl (am_at eX11_pathByUse 9 rfl) ?_
    refine AE.run K eX11_pathByUse 10 1 (show am_run 3 ((tX11_pathByUse.drop 10).take 1) 20 [some (.ref (1)), some (.int (x1)), some (.int (a2_2))] [.ref (sS 0)] = some (21, [some (.ref (1)), some (.int (x1)), some (.int (a2_2))], [.int (a2_2), .ref (sS 0)]) from rfl) ?_
    refine AE.cv (f' := 1) (c' := 0) (lo' := 22) (st := []) (As := [.int (a2_2)]) (m := d_X8_pathsAheadOf 0 a2_2 V_2) K hex (fun q hq => kX8_pathsAheadOf B hfl (i := 0) (by decide) hq) cv_X11_310 (sh_S0 (by decide)) (T := TX8) (N := 9) rfl rfl rfl (Nat.le_of_ble_eq_true rfl) ⟨Nat.le_of_ble_eq_true rfl, Nat.le_of_ble_eq_true rfl⟩ (by omega) (am_at eX11_pathByUse 11 rfl) h (rI_some h) (bkI (fun y2 V1 h => ?_))
    refine AE.run K eX11_pathByUse 12 1 (show am_run 3 ((tX11_pathByUse.drop 12).take 1) 24 [some (.ref (1)), some (.int (x1)), some (.int (a2_2))] [.int (y2)] = some (25, [some (.ref (1)), some (.int (x1)), some (.int (a2_2))], [.int (x1), .int (y2)]) from rfl) ?_
    refine AE.ic K 30 (am_at eX11_pathByUse 13 rfl) (by decide) rfl h (fun h => ?_) (fun h => ?_)
    · refine AE.run K eX11_pathByUse 16 2 (show am_run 3 ((tX11_pathByUse.drop 16).take 2) 30 [some (.ref (1)), some (.int (x1)), some (.int (a2_2))] [] = some (2, [some (.ref (1)), some (.int (x1)), some (.int (a2_2 + nI 1))], []) from rfl) ?_
      exact AE.sub (L' := [some (.ref (1)), some (.int (x1)), some (.int (a2_2 + nI 1))]) (And.intro rfl (And.intro rfl (And.intro rfl trivial))) (hr (a2_2 + nI 1) V1 h)
    · refine AE.run K eX11_pathByUse 14 1 (show am_run 3 ((tX11_pathByUse.drop 14).take 1) 28 [some (.ref (1)), some (.int (x1)), some (.int (a2_2))] [] = some (29, [some (.ref (1)), some (.int (x1)), some (.int (a2_2))], [.int (a2_2)]) from rfl) ?_
      exact AE.iret K (by omega) (am_at eX11_pathByUse 15 rfl) h
theorem lk_X11_pathByUse_2 {U : am_U} {l : Launch} (B : am_base xx U) (hfl : l.stackTraces = false) {G : am_G} (K : aK U l G RX11 cX11_pathByUse 3 (some .int) 7 1 200) (hex : am_nx G) {r : (Option Value ⊕ String) × am_V} {x1 : Int32} {kc : Nat} (hkc : kc ≤ 1) {kx : Int32 → am_V → am_R} (hx : ∀ (a2_2 : Int32) (Vq : am_V), kx a2_2 Vq = some r → AE U G 3 7 1 200 r kc Vq 36 [none, none, none] []) : ∀ (f9 : Nat) (a2_2 : Int32) (Vq : am_V), lp_X11_pathByUse_2 x1 kx f9 a2_2 Vq = some r → AE U G 3 7 1 200 r kc Vq 2 [some (.ref (1)), some (.int (x1)), some (.int (a2_2))] [] := by
  intro f9
  induction f9 with
  | zero =>
    intro a2_2 Vq h
    cases h
  | succ f9 ih =>
    intro a2_2 Vq h
    exact bk_X11_pathByUse_2 B hfl K hex  hkc hx ih a2_2 Vq h
set_option maxRecDepth 100000 in
set_option maxHeartbeats 4000000 in
theorem kX11_pathByUse {U : am_U} {l : Launch} (B : am_base xx U) (hfl : l.stackTraces = false) {V : am_V} {x1 : Int32} {r : (Option Value ⊕ String) × am_V} (h : d_X11_pathByUse x1 V = some r) : am_Ct xx U l yX11_pathByUse cX11_pathByUse 3 (some .int) (rk 7 1 200) [.ref (1), .int (x1)] V (am_is r.1 r.2) := by
  refine am_Ct.of B hfl (by decide) (Nat.le_of_ble_eq_true rfl) ?_
  intro G hgl hgR hr ok h0 hex
  have K : aK U l G RX11 cX11_pathByUse 3 (some .int) 7 1 200 := ⟨hgl, hgR, hr, ok, h0⟩
  unfold d_X11_pathByUse at h
  show AE U G 3 7 1 200 r 0 V 0 [some (.ref (1)), some (.int (x1)), none] []
  refine AE.run K eX11_pathByUse 0 2 (show am_run 3 ((tX11_pathByUse.drop 0).take 2) 0 [some (.ref (1)), some (.int (x1)), none] [] = some (2, [some (.ref (1)), some (.int (x1)), some (.int (nI 0))], []) from rfl) ?_
  refine AE.sub (L' := [some (.ref (1)), some (.int (x1)), some (.int (nI 0))]) (And.intro rfl (And.intro rfl (And.intro rfl trivial))) ?_
  refine lk_X11_pathByUse_2 B hfl K hex  (by omega) ?_ 1000 (nI 0) V h
  intro a2_2 V_2x h
  exact AE.throwTW K hex th_X11_212_308 (am_at eX11_pathByUse 18 rfl) (am_at eX11_pathByUse 19 rfl) (am_at eX11_pathByUse 20 rfl) (am_at eX11_pathByUse 21 rfl) (am_at eX11_pathByUse 22 rfl) (by decide) (Nat.le_of_ble_eq_true rfl) (by omega) h
def d_X11_meanEnergy (V : am_V) : am_R := rU (d_X11_requireSent V) (fun (V1 : am_V) => rG (am_n64 (FP.ddiv (FP.i2d (V1 (sS 0) 6)) (FP.i2d (V1 (sS 0) 3)))) (some (.inl (some (.double (FP.ddiv (FP.i2d (V1 (sS 0) 6)) (FP.i2d (V1 (sS 0) 3))))), V1)))
set_option maxRecDepth 100000 in
set_option maxHeartbeats 4000000 in
theorem kX11_meanEnergy {U : am_U} {l : Launch} (B : am_base xx U) (hfl : l.stackTraces = false) {V : am_V} {r : (Option Value ⊕ String) × am_V} (h : d_X11_meanEnergy V = some r) : am_Ct xx U l yX11_meanEnergy cX11_meanEnergy 1 (some .double) (rk 8 1 220) [.ref (1)] V (am_is r.1 r.2) := by
  refine am_Ct.of B hfl (by decide) (Nat.le_of_ble_eq_true rfl) ?_
  intro G hgl hgR hr ok h0 hex
  have K : aK U l G RX11 cX11_meanEnergy 1 (some .double) 8 1 220 := ⟨hgl, hgR, hr, ok, h0⟩
  unfold d_X11_meanEnergy at h
  show AE U G 1 8 1 220 r 0 V 0 [some (.ref (1))] []
  refine AE.run K eX11_meanEnergy 0 1 (show am_run 1 ((tX11_meanEnergy.drop 0).take 1) 0 [some (.ref (1))] [] = some (1, [some (.ref (1))], [.ref (1)]) from rfl) ?_
  refine AE.cv (f' := 7) (c' := 1) (lo' := 200) (st := []) (As := []) (m := d_X11_requireSent V) K hex (fun q hq => kX11_requireSent B hfl hq) cv_X11_313 rfl (T := TX11) (N := 16) rfl rfl rfl (Nat.le_of_ble_eq_true rfl) ⟨Nat.le_of_ble_eq_true rfl, Nat.le_of_ble_eq_true rfl⟩ (by omega) (am_at eX11_meanEnergy 1 rfl) h (rU_some h) (bkU (fun V1 h => ?_))
  refine AE.run K eX11_meanEnergy 2 1 (show am_run 1 ((tX11_meanEnergy.drop 2).take 1) 4 [some (.ref (1))] [] = some (5, [some (.ref (1))], [.ref (1)]) from rfl) ?_
  refine AE.getR K gf_X11_10 rfl rfl (am_at eX11_meanEnergy 3 rfl) ?_
  refine AE.getI K gf_X11_284 (sh_S0 (by decide)) rfl (am_at eX11_meanEnergy 4 rfl) ?_
  refine AE.run K eX11_meanEnergy 5 2 (show am_run 1 ((tX11_meanEnergy.drop 5).take 2) 11 [some (.ref (1))] [.int (V1 (sS 0) 6)] = some (13, [some (.ref (1))], [.ref (1), .double (FP.i2d (V1 (sS 0) 6))]) from rfl) ?_
  refine AE.getR K gf_X11_10 rfl rfl (am_at eX11_meanEnergy 7 rfl) ?_
  refine AE.getI K gf_X11_287 (sh_S0 (by decide)) rfl (am_at eX11_meanEnergy 8 rfl) ?_
  refine AE.run K eX11_meanEnergy 9 1 (show am_run 1 ((tX11_meanEnergy.drop 9).take 1) 19 [some (.ref (1))] [.int (V1 (sS 0) 3), .double (FP.i2d (V1 (sS 0) 6))] = some (20, [some (.ref (1))], [.double (FP.i2d (V1 (sS 0) 3)), .double (FP.i2d (V1 (sS 0) 6))]) from rfl) ?_
  refine AE.ddiv K (am_at eX11_meanEnergy 10 rfl) h (fun h => ?_)
  exact AE.dret K (by omega) (am_at eX11_meanEnergy 11 rfl) h
def d_X11_lossShare (V : am_V) : am_R := rU (d_X11_requireSent V) (fun (V1 : am_V) => rG (am_n32 (FP.fdiv (FP.i2f (V1 (sS 0) 4)) (FP.i2f (V1 (sS 0) 3)))) (some (.inl (some (.float (FP.fdiv (FP.i2f (V1 (sS 0) 4)) (FP.i2f (V1 (sS 0) 3))))), V1)))
set_option maxRecDepth 100000 in
set_option maxHeartbeats 4000000 in
theorem kX11_lossShare {U : am_U} {l : Launch} (B : am_base xx U) (hfl : l.stackTraces = false) {V : am_V} {r : (Option Value ⊕ String) × am_V} (h : d_X11_lossShare V = some r) : am_Ct xx U l yX11_lossShare cX11_lossShare 1 (some .float) (rk 8 1 220) [.ref (1)] V (am_is r.1 r.2) := by
  refine am_Ct.of B hfl (by decide) (Nat.le_of_ble_eq_true rfl) ?_
  intro G hgl hgR hr ok h0 hex
  have K : aK U l G RX11 cX11_lossShare 1 (some .float) 8 1 220 := ⟨hgl, hgR, hr, ok, h0⟩
  unfold d_X11_lossShare at h
  show AE U G 1 8 1 220 r 0 V 0 [some (.ref (1))] []
  refine AE.run K eX11_lossShare 0 1 (show am_run 1 ((tX11_lossShare.drop 0).take 1) 0 [some (.ref (1))] [] = some (1, [some (.ref (1))], [.ref (1)]) from rfl) ?_
  refine AE.cv (f' := 7) (c' := 1) (lo' := 200) (st := []) (As := []) (m := d_X11_requireSent V) K hex (fun q hq => kX11_requireSent B hfl hq) cv_X11_313 rfl (T := TX11) (N := 16) rfl rfl rfl (Nat.le_of_ble_eq_true rfl) ⟨Nat.le_of_ble_eq_true rfl, Nat.le_of_ble_eq_true rfl⟩ (by omega) (am_at eX11_lossShare 1 rfl) h (rU_some h) (bkU (fun V1 h => ?_))
  refine AE.run K eX11_lossShare 2 1 (show am_run 1 ((tX11_lossShare.drop 2).take 1) 4 [some (.ref (1))] [] = some (5, [some (.ref (1))], [.ref (1)]) from rfl) ?_
  refine AE.getR K gf_X11_10 rfl rfl (am_at eX11_lossShare 3 rfl) ?_
  refine AE.getI K gf_X11_290 (sh_S0 (by decide)) rfl (am_at eX11_lossShare 4 rfl) ?_
  refine AE.run K eX11_lossShare 5 2 (show am_run 1 ((tX11_lossShare.drop 5).take 2) 11 [some (.ref (1))] [.int (V1 (sS 0) 4)] = some (13, [some (.ref (1))], [.ref (1), .float (FP.i2f (V1 (sS 0) 4))]) from rfl) ?_
  refine AE.getR K gf_X11_10 rfl rfl (am_at eX11_lossShare 7 rfl) ?_
  refine AE.getI K gf_X11_287 (sh_S0 (by decide)) rfl (am_at eX11_lossShare 8 rfl) ?_
  refine AE.run K eX11_lossShare 9 1 (show am_run 1 ((tX11_lossShare.drop 9).take 1) 19 [some (.ref (1))] [.int (V1 (sS 0) 3), .float (FP.i2f (V1 (sS 0) 4))] = some (20, [some (.ref (1))], [.float (FP.i2f (V1 (sS 0) 3)), .float (FP.i2f (V1 (sS 0) 4))]) from rfl) ?_
  refine AE.fdiv K (am_at eX11_lossShare 10 rfl) h (fun h => ?_)
  exact AE.fret K (by omega) (am_at eX11_lossShare 11 rfl) h
def d_X11_isConsistent (V : am_V) : am_R := rI (d_X11_treeCostsAgree V) (fun (y2 : Int32) (V1 : am_V) => rB (fun (bs0_60 : Int32) (V_60 : am_V) => rG (am_nb bs0_60) (some (.inl (some (.int (bs0_60))), V_60))) (fun (j60 : Int32 → am_V → am_R) => rB (fun (V_59 : am_V) => j60 (nI 0) V_59) (fun (j59 : am_V → am_R) => (if y2 = 0 then j59 V1 else rI (d_X11_waysAgreeWithCuts V1) (fun (y4 : Int32) (V3 : am_V) => (if y4 = 0 then j59 V3 else rI (d_X9_countBridgesByWalk 0 V3) (fun (y6 : Int32) (V5 : am_V) => rI (d_X9_countBridgesByGroups 0 V5) (fun (y8 : Int32) (V7 : am_V) => (if ¬ y6 = y8 then j59 V7 else rI (d_X8_totalsAgree 0 V7) (fun (y10 : Int32) (V9 : am_V) => (if y10 = 0 then j59 V9 else j60 (nI 1) V9)))))))))))
set_option maxRecDepth 100000 in
set_option maxHeartbeats 4000000 in
theorem kX11_isConsistent {U : am_U} {l : Launch} (B : am_base xx U) (hfl : l.stackTraces = false) {V : am_V} {r : (Option Value ⊕ String) × am_V} (h : d_X11_isConsistent V = some r) : am_Ct xx U l yX11_isConsistent cX11_isConsistent 1 (some .boolean) (rk 5 0 133) [.ref (1)] V (am_is r.1 r.2) := by
  refine am_Ct.of B hfl (by decide) (Nat.le_of_ble_eq_true rfl) ?_
  intro G hgl hgR hr ok h0 hex
  have K : aK U l G RX11 cX11_isConsistent 1 (some .boolean) 5 0 133 := ⟨hgl, hgR, hr, ok, h0⟩
  unfold d_X11_isConsistent at h
  show AE U G 1 5 0 133 r 0 V 0 [some (.ref (1))] []
  refine AE.run K eX11_isConsistent 0 1 (show am_run 1 ((tX11_isConsistent.drop 0).take 1) 0 [some (.ref (1))] [] = some (1, [some (.ref (1))], [.ref (1)]) from rfl) ?_
  refine AE.cv (f' := 4) (c' := 0) (lo' := 96) (st := []) (As := []) (m := d_X11_treeCostsAgree V) K hex (fun q hq => kX11_treeCostsAgree B hfl hq) cv_X11_320 rfl (T := TX11) (N := 16) rfl rfl rfl (Nat.le_of_ble_eq_true rfl) ⟨Nat.le_of_ble_eq_true rfl, Nat.le_of_ble_eq_true rfl⟩ (by omega) (am_at eX11_isConsistent 1 rfl) h (rI_some h) (bkI (fun y2 V1 h => ?_))
  refine rB_of (P := fun (j : Int32 → am_V → am_R) => ∀ (bs0_60 : Int32) (V_60 : am_V), j bs0_60 V_60 = some r → AE U G 1 5 0 133 r 0 V_60 60 [none] [.int (bs0_60)]) h (fun bs0_60 V_60 h => ?_) (fun j60 hj60 h => ?_)
  · exact AE.zret K (by omega) (am_at eX11_isConsistent 26 rfl) h
  refine rB_of (P := fun (j : am_V → am_R) => ∀ (V_59 : am_V), j V_59 = some r → AE U G 1 5 0 133 r 0 V_59 59 [none] []) h (fun V_59 h => ?_) (fun j59 hj59 h => ?_)
  · refine AE.run K eX11_isConsistent 25 1 (show am_run 1 ((tX11_isConsistent.drop 25).take 1) 59 [none] [] = some (60, [none], [.int (nI 0)]) from rfl) ?_
    exact (hj60 (nI 0) V_59 h)
  refine AE.if0 K 59 (am_at eX11_isConsistent 2 rfl) (by decide) rfl h (fun h => ?_) (fun h => ?_)
  · exact AE.sub (L' := [none]) trivial (hj59  V1 h)
  · refine AE.run K eX11_isConsistent 3 1 (show am_run 1 ((tX11_isConsistent.drop 3).take 1) 7 [some (.ref (1))] [] = some (8, [some (.ref (1))], [.ref (1)]) from rfl) ?_
    refine AE.cv (f' := 4) (c' := 0) (lo' := 99) (st := []) (As := []) (m := d_X11_waysAgreeWithCuts V1) K hex (fun q hq => kX11_waysAgreeWithCuts B hfl hq) cv_X11_324 rfl (T := TX11) (N := 16) rfl rfl rfl (Nat.le_of_ble_eq_true rfl) ⟨Nat.le_of_ble_eq_true rfl, Nat.le_of_ble_eq_true rfl⟩ (by omega) (am_at eX11_isConsistent 4 rfl) h (rI_some h) (bkI (fun y4 V3 h => ?_))
    refine AE.if0 K 59 (am_at eX11_isConsistent 5 rfl) (by decide) rfl h (fun h => ?_) (fun h => ?_)
    · exact AE.sub (L' := [none]) trivial (hj59  V3 h)
    · refine AE.run K eX11_isConsistent 6 1 (show am_run 1 ((tX11_isConsistent.drop 6).take 1) 14 [some (.ref (1))] [] = some (15, [some (.ref (1))], [.ref (1)]) from rfl) ?_
      refine AE.getR K gf_X11_32 rfl rfl (am_at eX11_isConsistent 7 rfl) ?_
      refine AE.run K eX11_isConsistent 8 1 (show am_run 1 ((tX11_isConsistent.drop 8).take 1) 18 [some (.ref (1))] [.ref (4)] = some (19, [some (.ref (1))], [.ref (1), .ref (4)]) from rfl) ?_
      refine AE.getR K gf_X11_10 rfl rfl (am_at eX11_isConsistent 9 rfl) ?_
      refine AE.getR K gf_X11_115 (sh_S0 (by decide)) rfl (am_at eX11_isConsistent 10 rfl) ?_
      refine AE.cv (f' := 4) (c' := 0) (lo' := 110) (st := []) (As := [.ref (sS 0 + 1)]) (m := d_X9_countBridgesByWalk 0 V3) K hex (fun q hq => kX9_countBridgesByWalk B hfl (i := 0) (by decide) hq) cv_X11_189 rfl (T := TX9) (N := 7) rfl rfl rfl (Nat.le_of_ble_eq_true rfl) ⟨Nat.le_of_ble_eq_true rfl, Nat.le_of_ble_eq_true rfl⟩ (by omega) (am_at eX11_isConsistent 11 rfl) h (rI_some h) (bkI (fun y6 V5 h => ?_))
      refine AE.run K eX11_isConsistent 12 1 (show am_run 1 ((tX11_isConsistent.drop 12).take 1) 28 [some (.ref (1))] [.int (y6)] = some (29, [some (.ref (1))], [.ref (1), .int (y6)]) from rfl) ?_
      refine AE.getR K gf_X11_32 rfl rfl (am_at eX11_isConsistent 13 rfl) ?_
      refine AE.run K eX11_isConsistent 14 1 (show am_run 1 ((tX11_isConsistent.drop 14).take 1) 32 [some (.ref (1))] [.ref (4), .int (y6)] = some (33, [some (.ref (1))], [.ref (1), .ref (4), .int (y6)]) from rfl) ?_
      refine AE.getR K gf_X11_10 rfl rfl (am_at eX11_isConsistent 15 rfl) ?_
      refine AE.getR K gf_X11_115 (sh_S0 (by decide)) rfl (am_at eX11_isConsistent 16 rfl) ?_
      refine AE.cv (f' := 4) (c' := 0) (lo' := 95) (st := [.int (y6)]) (As := [.ref (sS 0 + 1)]) (m := d_X9_countBridgesByGroups 0 V5) K hex (fun q hq => kX9_countBridgesByGroups B hfl (i := 0) (by decide) hq) cv_X11_193 rfl (T := TX9) (N := 7) rfl rfl rfl (Nat.le_of_ble_eq_true rfl) ⟨Nat.le_of_ble_eq_true rfl, Nat.le_of_ble_eq_true rfl⟩ (by omega) (am_at eX11_isConsistent 17 rfl) h (rI_some h) (bkI (fun y8 V7 h => ?_))
      refine AE.ic K 59 (am_at eX11_isConsistent 18 rfl) (by decide) rfl h (fun h => ?_) (fun h => ?_)
      · exact AE.sub (L' := [none]) trivial (hj59  V7 h)
      · refine AE.run K eX11_isConsistent 19 1 (show am_run 1 ((tX11_isConsistent.drop 19).take 1) 45 [some (.ref (1))] [] = some (46, [some (.ref (1))], [.ref (1)]) from rfl) ?_
        refine AE.getR K gf_X11_10 rfl rfl (am_at eX11_isConsistent 20 rfl) ?_
        refine AE.cv (f' := 0) (c' := 0) (lo' := 0) (st := []) (As := []) (m := d_X8_totalsAgree 0 V7) K hex (fun q hq => kX8_totalsAgree B hfl (i := 0) (by decide) hq) cv_X11_327 (sh_S0 (by decide)) (T := TX8) (N := 9) rfl rfl rfl (Nat.le_of_ble_eq_true rfl) ⟨Nat.le_of_ble_eq_true rfl, Nat.le_of_ble_eq_true rfl⟩ (by omega) (am_at eX11_isConsistent 21 rfl) h (rI_some h) (bkI (fun y10 V9 h => ?_))
        refine AE.if0 K 59 (am_at eX11_isConsistent 22 rfl) (by decide) rfl h (fun h => ?_) (fun h => ?_)
        · exact AE.sub (L' := [none]) trivial (hj59  V9 h)
        · refine AE.run K eX11_isConsistent 23 2 (show am_run 1 ((tX11_isConsistent.drop 23).take 2) 55 [some (.ref (1))] [] = some (60, [some (.ref (1))], [.int (nI 1)]) from rfl) ?_
          exact AE.sub (L' := [none]) trivial (hj60 (nI 1) V9 h)
def bd_X11_writeField_53 (x1 : Int32) (kx kr : Int32 → am_V → am_R) (a2_53 : Int32) (V_53 : am_V) : am_R := rI (d_X1_packetTotal 0 V_53) (fun (y8 : Int32) (V7 : am_V) => (if y8 ≤ a2_53 then kx a2_53 V7 else rG (am_in x1 9) (rI (d_X11_hasBit (V7 (sS 0 + 9) (iN x1)) a2_53 V7) (fun (y10 : Int32) (V9 : am_V) => rB (fun (bs0_94 : Int32) (V_94 : am_V) => rU (d_X11_put bs0_94 V_94) (fun (V11 : am_V) => kr (a2_53 + nI 1) V11)) (fun (j94 : Int32 → am_V → am_R) => (if y10 = 0 then j94 (nI 46) V9 else j94 (nI 35) V9))))))
def lp_X11_writeField_53 (x1 : Int32) (kx : Int32 → am_V → am_R) : Nat → Int32 → am_V → am_R
  | 0, _, _ => none
  | f9 + 1, a2_53, V_53 => bd_X11_writeField_53 x1 kx (lp_X11_writeField_53 x1 kx f9) a2_53 V_53
def d_X11_writeField (x1 : Int32) (V : am_V) : am_R := rU (d_X11_requireField x1 V) (fun (V1 : am_V) => rV (am_set V1 1 10 (nI 0)) (fun (V2 : am_V) => rU (d_X11_put (am_i2c ((nI 48) + x1)) V2) (fun (V3 : am_V) => rU (d_X11_put (nI 115) V3) (fun (V4 : am_V) => rG (am_in x1 9) (rU (d_X11_put (am_i2c ((nI 48) + (V4 (sS 0 + 4) (iN x1)))) V4) (fun (V5 : am_V) => rU (d_X11_put (nI 58) V5) (fun (V6 : am_V) => lp_X11_writeField_53 x1 (fun (a2_53 : Int32) (V_53x : am_V) => rI (d_X1_covers 0 x1 V_53x) (fun (y13 : Int32) (V12 : am_V) => rB (fun (V_123 : am_V) => some (.inl (some (.int (V_123 1 10))), V_123)) (fun (j123 : am_V → am_R) => (if y13 = 0 then j123 V12 else rU (d_X11_put (nI 33) V12) (fun (V14 : am_V) => j123 V14))))) 1000 (nI 0) V6)))))))
set_option maxRecDepth 100000 in
set_option maxHeartbeats 4000000 in
theorem bk_X11_writeField_53 {U : am_U} {l : Launch} (B : am_base xx U) (hfl : l.stackTraces = false) {G : am_G} (K : aK U l G RX11 cX11_writeField 3 (some .int) 8 1 221) (hex : am_nx G) {r : (Option Value ⊕ String) × am_V} {x1 : Int32} {kc : Nat} (hkc : kc ≤ 1) {kx kr : Int32 → am_V → am_R} (hx : ∀ (a2_53 : Int32) (Vq : am_V), kx a2_53 Vq = some r → AE U G 3 8 1 221 r kc Vq 103 [some (.ref (1)), some (.int (x1)), none] []) (hr : ∀ (a2_53 : Int32) (Vq : am_V), kr a2_53 Vq = some r → AE U G 3 8 1 221 r kc Vq 53 [some (.ref (1)), some (.int (x1)), some (.int (a2_53))] []) (a2_53 : Int32) (V_53 : am_V) (h : bd_X11_writeField_53 x1 kx kr a2_53 V_53 = some r) : AE U G 3 8 1 221 r kc V_53 53 [some (.ref (1)), some (.int (x1)), some (.int (a2_53))] [] := by
  unfold bd_X11_writeField_53 at h
  refine AE.run K eX11_writeField 31 2 (show am_run 3 ((tX11_writeField.drop 31).take 2) 53 [some (.ref (1)), some (.int (x1)), some (.int (a2_53))] [] = some (55, [some (.ref (1)), some (.int (x1)), some (.int (a2_53))], [.ref (1), .int (a2_53)]) from rfl) ?_
  refine AE.getR K gf_X11_10 rfl rfl (am_at eX11_writeField 33 rfl) ?_
  refine AE.getR K gf_X11_246 (sh_S0 (by decide)) rfl (am_at eX11_writeField 34 rfl) ?_
  refine AE.cv (f' := 0) (c' := 0) (lo' := 0) (st := [.int (a2_53)]) (As := []) (m := d_X1_packetTotal 0 V_53) K hex (fun q hq => kX1_packetTotal B hfl (i := 0) (by decide) hq) cv_X11_261 (sh_S2 (by decide)) (T := TX1) (N := 8) rfl rfl rfl (Nat.le_of_ble_eq_true rfl) ⟨Nat.le_of_ble_eq_true rfl, Nat.le_of_ble_eq_true rfl⟩ (by omega) (am_at eX11_writeField 35 rfl) h (rI_some h) (bkI (fun y8 V7 h => ?_))
  refine AE.ic K 103 (am_at eX11_writeField 36 rfl) (by decide) rfl h (fun h => ?_) (fun h => ?_)
  · exact AE.sub (L' := [some (.ref (1)), some (.int (x1)), none]) (And.intro rfl (And.intro rfl trivial)) (hx a2_53 V7 h)
  · refine AE.run K eX11_writeField 37 2 (show am_run 3 ((tX11_writeField.drop 37).take 2) 67 [some (.ref (1)), some (.int (x1)), some (.int (a2_53))] [] = some (69, [some (.ref (1)), some (.int (x1)), some (.int (a2_53))], [.ref (1), .ref (1)]) from rfl) ?_
    refine AE.getR K gf_X11_10 rfl rfl (am_at eX11_writeField 39 rfl) ?_
    refine AE.getR K gf_X11_246 (sh_S0 (by decide)) rfl (am_at eX11_writeField 40 rfl) ?_
    refine AE.getR K gf_X11_267 (sh_S2 (by decide)) rfl (am_at eX11_writeField 41 rfl) ?_
    refine AE.run K eX11_writeField 42 1 (show am_run 3 ((tX11_writeField.drop 42).take 1) 78 [some (.ref (1)), some (.int (x1)), some (.int (a2_53))] [.ref (sS 0 + 9), .ref (1)] = some (79, [some (.ref (1)), some (.int (x1)), some (.int (a2_53))], [.int (x1), .ref (sS 0 + 9), .ref (1)]) from rfl) ?_
    refine AE.iald K (sh_S9 (by decide)) (am_at eX11_writeField 43 rfl) h (fun h => ?_)
    refine AE.run K eX11_writeField 44 1 (show am_run 3 ((tX11_writeField.drop 44).take 1) 80 [some (.ref (1)), some (.int (x1)), some (.int (a2_53))] [.int (V7 (sS 0 + 9) (iN x1)), .ref (1)] = some (81, [some (.ref (1)), some (.int (x1)), some (.int (a2_53))], [.int (a2_53), .int (V7 (sS 0 + 9) (iN x1)), .ref (1)]) from rfl) ?_
    refine AE.cs (f' := 0) (c' := 0) (lo' := 0) (st := [.ref (1)]) (As := [.int (V7 (sS 0 + 9) (iN x1)), .int (a2_53)]) (m := d_X11_hasBit (V7 (sS 0 + 9) (iN x1)) a2_53 V7) K hex (fun q hq => kX11_hasBit B hfl hq) cs_X11_162 rfl rfl (Nat.le_of_ble_eq_true rfl) ⟨Nat.le_of_ble_eq_true rfl, Nat.le_of_ble_eq_true rfl⟩ (by omega) (am_at eX11_writeField 45 rfl) h (rI_some h) (bkI (fun y10 V9 h => ?_))
    refine rB_of (P := fun (j : Int32 → am_V → am_R) => ∀ (bs0_94 : Int32) (V_94 : am_V), j bs0_94 V_94 = some r → AE U G 3 8 1 221 r (kc) V_94 94 [some (.ref (1)), some (.int (x1)), some (.int (a2_53))] [.int (bs0_94), .ref (1)]) h (fun bs0_94 V_94 h => ?_) (fun j94 hj94 h => ?_)
    · refine AE.cv (f' := 0) (c' := 0) (lo' := 0) (st := []) (As := [.int (bs0_94)]) (m := d_X11_put bs0_94 V_94) K hex (fun q hq => kX11_put B hfl hq) cv_X11_330 rfl (T := TX11) (N := 16) rfl rfl rfl (Nat.le_of_ble_eq_true rfl) ⟨Nat.le_of_ble_eq_true rfl, Nat.le_of_ble_eq_true rfl⟩ (by omega) (am_at eX11_writeField 50 rfl) h (rU_some h) (bkU (fun V11 h => ?_))
      refine AE.run K eX11_writeField 51 2 (show am_run 3 ((tX11_writeField.drop 51).take 2) 97 [some (.ref (1)), some (.int (x1)), some (.int (a2_53))] [] = some (53, [some (.ref (1)), some (.int (x1)), some (.int (a2_53 + nI 1))], []) from rfl) ?_
      exact AE.sub (L' := [some (.ref (1)), some (.int (x1)), some (.int (a2_53 + nI 1))]) (And.intro rfl (And.intro rfl (And.intro rfl trivial))) (hr (a2_53 + nI 1) V11 h)
    refine AE.if0 K 92 (am_at eX11_writeField 46 rfl) (by decide) rfl h (fun h => ?_) (fun h => ?_)
    · refine AE.run K eX11_writeField 49 1 (show am_run 3 ((tX11_writeField.drop 49).take 1) 92 [some (.ref (1)), some (.int (x1)), some (.int (a2_53))] [.ref (1)] = some (94, [some (.ref (1)), some (.int (x1)), some (.int (a2_53))], [.int (nI 46), .ref (1)]) from rfl) ?_
      exact (hj94 (nI 46) V9 h)
    · refine AE.run K eX11_writeField 47 2 (show am_run 3 ((tX11_writeField.drop 47).take 2) 87 [some (.ref (1)), some (.int (x1)), some (.int (a2_53))] [.ref (1)] = some (94, [some (.ref (1)), some (.int (x1)), some (.int (a2_53))], [.int (nI 35), .ref (1)]) from rfl) ?_
      exact (hj94 (nI 35) V9 h)
theorem lk_X11_writeField_53 {U : am_U} {l : Launch} (B : am_base xx U) (hfl : l.stackTraces = false) {G : am_G} (K : aK U l G RX11 cX11_writeField 3 (some .int) 8 1 221) (hex : am_nx G) {r : (Option Value ⊕ String) × am_V} {x1 : Int32} {kc : Nat} (hkc : kc ≤ 1) {kx : Int32 → am_V → am_R} (hx : ∀ (a2_53 : Int32) (Vq : am_V), kx a2_53 Vq = some r → AE U G 3 8 1 221 r kc Vq 103 [some (.ref (1)), some (.int (x1)), none] []) : ∀ (f9 : Nat) (a2_53 : Int32) (Vq : am_V), lp_X11_writeField_53 x1 kx f9 a2_53 Vq = some r → AE U G 3 8 1 221 r kc Vq 53 [some (.ref (1)), some (.int (x1)), some (.int (a2_53))] [] := by
  intro f9
  induction f9 with
  | zero =>
    intro a2_53 Vq h
    cases h
  | succ f9 ih =>
    intro a2_53 Vq h
    exact bk_X11_writeField_53 B hfl K hex  hkc hx ih a2_53 Vq h
set_option maxRecDepth 100000 in
set_option maxHeartbeats 4000000 in
theorem kX11_writeField {U : am_U} {l : Launch} (B : am_base xx U) (hfl : l.stackTraces = false) {V : am_V} {x1 : Int32} {r : (Option Value ⊕ String) × am_V} (h : d_X11_writeField x1 V = some r) : am_Ct xx U l yX11_writeField cX11_writeField 3 (some .int) (rk 8 1 221) [.ref (1), .int (x1)] V (am_is r.1 r.2) := by
  refine am_Ct.of B hfl (by decide) (Nat.le_of_ble_eq_true rfl) ?_
  intro G hgl hgR hr ok h0 hex
  have K : aK U l G RX11 cX11_writeField 3 (some .int) 8 1 221 := ⟨hgl, hgR, hr, ok, h0⟩
  unfold d_X11_writeField at h
  show AE U G 3 8 1 221 r 0 V 0 [some (.ref (1)), some (.int (x1)), none] []
  refine AE.run K eX11_writeField 0 2 (show am_run 3 ((tX11_writeField.drop 0).take 2) 0 [some (.ref (1)), some (.int (x1)), none] [] = some (2, [some (.ref (1)), some (.int (x1)), none], [.int (x1), .ref (1)]) from rfl) ?_
  refine AE.cv (f' := 7) (c' := 1) (lo' := 200) (st := []) (As := [.int (x1)]) (m := d_X11_requireField x1 V) K hex (fun q hq => kX11_requireField B hfl hq) cv_X11_127 rfl (T := TX11) (N := 16) rfl rfl rfl (Nat.le_of_ble_eq_true rfl) ⟨Nat.le_of_ble_eq_true rfl, Nat.le_of_ble_eq_true rfl⟩ (by omega) (am_at eX11_writeField 2 rfl) h (rU_some h) (bkU (fun V1 h => ?_))
  refine AE.run K eX11_writeField 3 2 (show am_run 3 ((tX11_writeField.drop 3).take 2) 5 [some (.ref (1)), some (.int (x1)), none] [] = some (7, [some (.ref (1)), some (.int (x1)), none], [.int (nI 0), .ref (1)]) from rfl) ?_
  refine AE.putI K pf_X11_68 rfl rfl rfl (am_at eX11_writeField 5 rfl) h (fun V2 h => ?_)
  refine AE.run K eX11_writeField 6 5 (show am_run 3 ((tX11_writeField.drop 6).take 5) 10 [some (.ref (1)), some (.int (x1)), none] [] = some (16, [some (.ref (1)), some (.int (x1)), none], [.int (am_i2c ((nI 48) + x1)), .ref (1)]) from rfl) ?_
  refine AE.cv (f' := 0) (c' := 0) (lo' := 0) (st := []) (As := [.int (am_i2c ((nI 48) + x1))]) (m := d_X11_put (am_i2c ((nI 48) + x1)) V2) K hex (fun q hq => kX11_put B hfl hq) cv_X11_330 rfl (T := TX11) (N := 16) rfl rfl rfl (Nat.le_of_ble_eq_true rfl) ⟨Nat.le_of_ble_eq_true rfl, Nat.le_of_ble_eq_true rfl⟩ (by omega) (am_at eX11_writeField 11 rfl) h (rU_some h) (bkU (fun V3 h => ?_))
  refine AE.run K eX11_writeField 12 2 (show am_run 3 ((tX11_writeField.drop 12).take 2) 19 [some (.ref (1)), some (.int (x1)), none] [] = some (22, [some (.ref (1)), some (.int (x1)), none], [.int (nI 115), .ref (1)]) from rfl) ?_
  refine AE.cv (f' := 0) (c' := 0) (lo' := 0) (st := []) (As := [.int (nI 115)]) (m := d_X11_put (nI 115) V3) K hex (fun q hq => kX11_put B hfl hq) cv_X11_330 rfl (T := TX11) (N := 16) rfl rfl rfl (Nat.le_of_ble_eq_true rfl) ⟨Nat.le_of_ble_eq_true rfl, Nat.le_of_ble_eq_true rfl⟩ (by omega) (am_at eX11_writeField 14 rfl) h (rU_some h) (bkU (fun V4 h => ?_))
  refine AE.run K eX11_writeField 15 3 (show am_run 3 ((tX11_writeField.drop 15).take 3) 25 [some (.ref (1)), some (.int (x1)), none] [] = some (29, [some (.ref (1)), some (.int (x1)), none], [.ref (1), .int (nI 48), .ref (1)]) from rfl) ?_
  refine AE.getR K gf_X11_10 rfl rfl (am_at eX11_writeField 18 rfl) ?_
  refine AE.getR K gf_X11_115 (sh_S0 (by decide)) rfl (am_at eX11_writeField 19 rfl) ?_
  refine AE.getR K gf_X11_131 (sh_S1 (by decide)) rfl (am_at eX11_writeField 20 rfl) ?_
  refine AE.run K eX11_writeField 21 1 (show am_run 3 ((tX11_writeField.drop 21).take 1) 38 [some (.ref (1)), some (.int (x1)), none] [.ref (sS 0 + 4), .int (nI 48), .ref (1)] = some (39, [some (.ref (1)), some (.int (x1)), none], [.int (x1), .ref (sS 0 + 4), .int (nI 48), .ref (1)]) from rfl) ?_
  refine AE.iald K (sh_S4 (by decide)) (am_at eX11_writeField 22 rfl) h (fun h => ?_)
  refine AE.run K eX11_writeField 23 2 (show am_run 3 ((tX11_writeField.drop 23).take 2) 40 [some (.ref (1)), some (.int (x1)), none] [.int (V4 (sS 0 + 4) (iN x1)), .int (nI 48), .ref (1)] = some (42, [some (.ref (1)), some (.int (x1)), none], [.int (am_i2c ((nI 48) + (V4 (sS 0 + 4) (iN x1)))), .ref (1)]) from rfl) ?_
  refine AE.cv (f' := 0) (c' := 0) (lo' := 0) (st := []) (As := [.int (am_i2c ((nI 48) + (V4 (sS 0 + 4) (iN x1))))]) (m := d_X11_put (am_i2c ((nI 48) + (V4 (sS 0 + 4) (iN x1)))) V4) K hex (fun q hq => kX11_put B hfl hq) cv_X11_330 rfl (T := TX11) (N := 16) rfl rfl rfl (Nat.le_of_ble_eq_true rfl) ⟨Nat.le_of_ble_eq_true rfl, Nat.le_of_ble_eq_true rfl⟩ (by omega) (am_at eX11_writeField 25 rfl) h (rU_some h) (bkU (fun V5 h => ?_))
  refine AE.run K eX11_writeField 26 2 (show am_run 3 ((tX11_writeField.drop 26).take 2) 45 [some (.ref (1)), some (.int (x1)), none] [] = some (48, [some (.ref (1)), some (.int (x1)), none], [.int (nI 58), .ref (1)]) from rfl) ?_
  refine AE.cv (f' := 0) (c' := 0) (lo' := 0) (st := []) (As := [.int (nI 58)]) (m := d_X11_put (nI 58) V5) K hex (fun q hq => kX11_put B hfl hq) cv_X11_330 rfl (T := TX11) (N := 16) rfl rfl rfl (Nat.le_of_ble_eq_true rfl) ⟨Nat.le_of_ble_eq_true rfl, Nat.le_of_ble_eq_true rfl⟩ (by omega) (am_at eX11_writeField 28 rfl) h (rU_some h) (bkU (fun V6 h => ?_))
  refine AE.run K eX11_writeField 29 2 (show am_run 3 ((tX11_writeField.drop 29).take 2) 51 [some (.ref (1)), some (.int (x1)), none] [] = some (53, [some (.ref (1)), some (.int (x1)), some (.int (nI 0))], []) from rfl) ?_
  refine AE.sub (L' := [some (.ref (1)), some (.int (x1)), some (.int (nI 0))]) (And.intro rfl (And.intro rfl (And.intro rfl trivial))) ?_
  refine lk_X11_writeField_53 B hfl K hex  (by omega) ?_ 1000 (nI 0) V6 h
  intro a2_53 V_53x h
  refine AE.run K eX11_writeField 53 1 (show am_run 3 ((tX11_writeField.drop 53).take 1) 103 [some (.ref (1)), some (.int (x1)), none] [] = some (104, [some (.ref (1)), some (.int (x1)), none], [.ref (1)]) from rfl) ?_
  refine AE.getR K gf_X11_10 rfl rfl (am_at eX11_writeField 54 rfl) ?_
  refine AE.getR K gf_X11_246 (sh_S0 (by decide)) rfl (am_at eX11_writeField 55 rfl) ?_
  refine AE.run K eX11_writeField 56 1 (show am_run 3 ((tX11_writeField.drop 56).take 1) 110 [some (.ref (1)), some (.int (x1)), none] [.ref (sS 0 + 2)] = some (111, [some (.ref (1)), some (.int (x1)), none], [.int (x1), .ref (sS 0 + 2)]) from rfl) ?_
  refine AE.cv (f' := 0) (c' := 0) (lo' := 0) (st := []) (As := [.int (x1)]) (m := d_X1_covers 0 x1 V_53x) K hex (fun q hq => kX1_covers B hfl (i := 0) (by decide) hq) cv_X11_275 (sh_S2 (by decide)) (T := TX1) (N := 8) rfl rfl rfl (Nat.le_of_ble_eq_true rfl) ⟨Nat.le_of_ble_eq_true rfl, Nat.le_of_ble_eq_true rfl⟩ (by omega) (am_at eX11_writeField 57 rfl) h (rI_some h) (bkI (fun y13 V12 h => ?_))
  refine rB_of (P := fun (j : am_V → am_R) => ∀ (V_123 : am_V), j V_123 = some r → AE U G 3 8 1 221 r 1 V_123 123 [some (.ref (1)), none, none] []) h (fun V_123 h => ?_) (fun j123 hj123 h => ?_)
  · refine AE.run K eX11_writeField 62 1 (show am_run 3 ((tX11_writeField.drop 62).take 1) 123 [some (.ref (1)), none, none] [] = some (124, [some (.ref (1)), none, none], [.ref (1)]) from rfl) ?_
    refine AE.getI K gf_X11_68 rfl rfl (am_at eX11_writeField 63 rfl) ?_
    exact AE.iret K (by omega) (am_at eX11_writeField 64 rfl) h
  refine AE.if0 K 123 (am_at eX11_writeField 58 rfl) (by decide) rfl h (fun h => ?_) (fun h => ?_)
  · exact AE.sub (L' := [some (.ref (1)), none, none]) (And.intro rfl trivial) (hj123  V12 h)
  · refine AE.run K eX11_writeField 59 2 (show am_run 3 ((tX11_writeField.drop 59).take 2) 117 [some (.ref (1)), some (.int (x1)), none] [] = some (120, [some (.ref (1)), some (.int (x1)), none], [.int (nI 33), .ref (1)]) from rfl) ?_
    refine AE.cv (f' := 0) (c' := 0) (lo' := 0) (st := []) (As := [.int (nI 33)]) (m := d_X11_put (nI 33) V12) K hex (fun q hq => kX11_put B hfl hq) cv_X11_330 rfl (T := TX11) (N := 16) rfl rfl rfl (Nat.le_of_ble_eq_true rfl) ⟨Nat.le_of_ble_eq_true rfl, Nat.le_of_ble_eq_true rfl⟩ (by omega) (am_at eX11_writeField 61 rfl) h (rU_some h) (bkU (fun V14 h => ?_))
    exact AE.sub (L' := [some (.ref (1)), none, none]) (And.intro rfl trivial) (hj123  V14 h)
def d_X11_undo (V : am_V) : am_R := (if ¬ (V 2 2) = 0 then rU (d_X4_stepBack 0 V) (fun (V1 : am_V) => some (.inl (some (.int (V1 2 2))), V1)) else some (.inr "java/lang/IllegalStateException", V))
set_option maxRecDepth 100000 in
set_option maxHeartbeats 4000000 in
theorem kX11_undo {U : am_U} {l : Launch} (B : am_base xx U) (hfl : l.stackTraces = false) {V : am_V} {r : (Option Value ⊕ String) × am_V} (h : d_X11_undo V = some r) : am_Ct xx U l yX11_undo cX11_undo 1 (some .int) (rk 7 1 200) [.ref (1)] V (am_is r.1 r.2) := by
  refine am_Ct.of B hfl (by decide) (Nat.le_of_ble_eq_true rfl) ?_
  intro G hgl hgR hr ok h0 hex
  have K : aK U l G RX11 cX11_undo 1 (some .int) 7 1 200 := ⟨hgl, hgR, hr, ok, h0⟩
  unfold d_X11_undo at h
  show AE U G 1 7 1 200 r 0 V 0 [some (.ref (1))] []
  refine AE.run K eX11_undo 0 1 (show am_run 1 ((tX11_undo.drop 0).take 1) 0 [some (.ref (1))] [] = some (1, [some (.ref (1))], [.ref (1)]) from rfl) ?_
  refine AE.getR K gf_X11_25 rfl rfl (am_at eX11_undo 1 rfl) ?_
  refine AE.getI K gf_X11_403 rfl rfl (am_at eX11_undo 2 rfl) ?_
  refine AE.if0 K 21 (am_at eX11_undo 3 rfl) (by decide) rfl h (fun h => ?_) (fun h => ?_)
  · refine AE.run K eX11_undo 9 1 (show am_run 1 ((tX11_undo.drop 9).take 1) 21 [some (.ref (1))] [] = some (22, [some (.ref (1))], [.ref (1)]) from rfl) ?_
    refine AE.getR K gf_X11_25 rfl rfl (am_at eX11_undo 10 rfl) ?_
    refine AE.run K eX11_undo 11 1 (show am_run 1 ((tX11_undo.drop 11).take 1) 25 [some (.ref (1))] [.ref (2)] = some (26, [some (.ref (1))], [.ref (1), .ref (2)]) from rfl) ?_
    refine AE.getR K gf_X11_10 rfl rfl (am_at eX11_undo 12 rfl) ?_
    refine AE.cv (f' := 4) (c' := 0) (lo' := 102) (st := []) (As := [.ref (sS 0)]) (m := d_X4_stepBack 0 V) K hex (fun q hq => kX4_stepBack B hfl (i := 0) (by decide) hq) cv_X11_408 rfl (T := TX4) (N := 3) rfl rfl rfl (Nat.le_of_ble_eq_true rfl) ⟨Nat.le_of_ble_eq_true rfl, Nat.le_of_ble_eq_true rfl⟩ (by omega) (am_at eX11_undo 13 rfl) h (rU_some h) (bkU (fun V1 h => ?_))
    refine AE.run K eX11_undo 14 1 (show am_run 1 ((tX11_undo.drop 14).take 1) 32 [some (.ref (1))] [] = some (33, [some (.ref (1))], [.ref (1)]) from rfl) ?_
    refine AE.getR K gf_X11_25 rfl rfl (am_at eX11_undo 15 rfl) ?_
    refine AE.getI K gf_X11_403 rfl rfl (am_at eX11_undo 16 rfl) ?_
    exact AE.iret K (by omega) (am_at eX11_undo 17 rfl) h
  · exact AE.throwSW K hex th_X11_347_406 (am_at eX11_undo 4 rfl) (am_at eX11_undo 5 rfl) (am_at eX11_undo 6 rfl) (am_at eX11_undo 7 rfl) (am_at eX11_undo 8 rfl) (by decide) (Nat.le_of_ble_eq_true rfl) (by omega) h
def d_X11_saveSnapshot (V : am_V) : am_R := rU (d_X8_copyFrom 2 0 V) (fun (V1 : am_V) => rG (am_nb (nI 1)) (rV (am_set V1 1 11 (nI 1)) (fun (V2 : am_V) => some (.inl (some (.int (V2 (sS 0 + 1) 6))), V2))))
set_option maxRecDepth 100000 in
set_option maxHeartbeats 4000000 in
theorem kX11_saveSnapshot {U : am_U} {l : Launch} (B : am_base xx U) (hfl : l.stackTraces = false) {V : am_V} {r : (Option Value ⊕ String) × am_V} (h : d_X11_saveSnapshot V = some r) : am_Ct xx U l yX11_saveSnapshot cX11_saveSnapshot 1 (some .int) (rk 4 0 102) [.ref (1)] V (am_is r.1 r.2) := by
  refine am_Ct.of B hfl (by decide) (Nat.le_of_ble_eq_true rfl) ?_
  intro G hgl hgR hr ok h0 hex
  have K : aK U l G RX11 cX11_saveSnapshot 1 (some .int) 4 0 102 := ⟨hgl, hgR, hr, ok, h0⟩
  unfold d_X11_saveSnapshot at h
  show AE U G 1 4 0 102 r 0 V 0 [some (.ref (1))] []
  refine AE.run K eX11_saveSnapshot 0 1 (show am_run 1 ((tX11_saveSnapshot.drop 0).take 1) 0 [some (.ref (1))] [] = some (1, [some (.ref (1))], [.ref (1)]) from rfl) ?_
  refine AE.getR K gf_X11_19 rfl rfl (am_at eX11_saveSnapshot 1 rfl) ?_
  refine AE.run K eX11_saveSnapshot 2 1 (show am_run 1 ((tX11_saveSnapshot.drop 2).take 1) 4 [some (.ref (1))] [.ref (sS 2)] = some (5, [some (.ref (1))], [.ref (1), .ref (sS 2)]) from rfl) ?_
  refine AE.getR K gf_X11_10 rfl rfl (am_at eX11_saveSnapshot 3 rfl) ?_
  refine AE.cv (f' := 3) (c' := 0) (lo' := 81) (st := []) (As := [.ref (sS 0)]) (m := d_X8_copyFrom 2 0 V) K hex (fun q hq => kX8_copyFrom B hfl (i := 2) (j := 0) (by decide) (by decide) hq) cv_X11_281 (sh_S0 (by decide)) (T := TX8) (N := 9) rfl rfl rfl (Nat.le_of_ble_eq_true rfl) ⟨Nat.le_of_ble_eq_true rfl, Nat.le_of_ble_eq_true rfl⟩ (by omega) (am_at eX11_saveSnapshot 4 rfl) h (rU_some h) (bkU (fun V1 h => ?_))
  refine AE.run K eX11_saveSnapshot 5 2 (show am_run 1 ((tX11_saveSnapshot.drop 5).take 2) 11 [some (.ref (1))] [] = some (13, [some (.ref (1))], [.int (nI 1), .ref (1)]) from rfl) ?_
  refine AE.putZ K pf_X11_72 rfl rfl rfl (am_at eX11_saveSnapshot 7 rfl) h (fun V2 h => ?_)
  refine AE.run K eX11_saveSnapshot 8 1 (show am_run 1 ((tX11_saveSnapshot.drop 8).take 1) 16 [some (.ref (1))] [] = some (17, [some (.ref (1))], [.ref (1)]) from rfl) ?_
  refine AE.getR K gf_X11_10 rfl rfl (am_at eX11_saveSnapshot 9 rfl) ?_
  refine AE.getR K gf_X11_115 (sh_S0 (by decide)) rfl (am_at eX11_saveSnapshot 10 rfl) ?_
  refine AE.getI K gf_X11_119 (sh_S1 (by decide)) rfl (am_at eX11_saveSnapshot 11 rfl) ?_
  exact AE.iret K (by omega) (am_at eX11_saveSnapshot 12 rfl) h
def d_X11_restoreSnapshot (V : am_V) : am_R := (if ¬ (V 1 11) = 0 then rU (d_X8_copyFrom 0 2 V) (fun (V1 : am_V) => rU (d_X4_forget V1) (fun (V2 : am_V) => some (.inl (some (.int (V2 (sS 0 + 1) 6))), V2))) else some (.inr "java/lang/IllegalStateException", V))
set_option maxRecDepth 100000 in
set_option maxHeartbeats 4000000 in
theorem kX11_restoreSnapshot {U : am_U} {l : Launch} (B : am_base xx U) (hfl : l.stackTraces = false) {V : am_V} {r : (Option Value ⊕ String) × am_V} (h : d_X11_restoreSnapshot V = some r) : am_Ct xx U l yX11_restoreSnapshot cX11_restoreSnapshot 1 (some .int) (rk 7 1 200) [.ref (1)] V (am_is r.1 r.2) := by
  refine am_Ct.of B hfl (by decide) (Nat.le_of_ble_eq_true rfl) ?_
  intro G hgl hgR hr ok h0 hex
  have K : aK U l G RX11 cX11_restoreSnapshot 1 (some .int) 7 1 200 := ⟨hgl, hgR, hr, ok, h0⟩
  unfold d_X11_restoreSnapshot at h
  show AE U G 1 7 1 200 r 0 V 0 [some (.ref (1))] []
  refine AE.run K eX11_restoreSnapshot 0 1 (show am_run 1 ((tX11_restoreSnapshot.drop 0).take 1) 0 [some (.ref (1))] [] = some (1, [some (.ref (1))], [.ref (1)]) from rfl) ?_
  refine AE.getI K gf_X11_72 rfl rfl (am_at eX11_restoreSnapshot 1 rfl) ?_
  refine AE.if0 K 18 (am_at eX11_restoreSnapshot 2 rfl) (by decide) rfl h (fun h => ?_) (fun h => ?_)
  · refine AE.run K eX11_restoreSnapshot 8 1 (show am_run 1 ((tX11_restoreSnapshot.drop 8).take 1) 18 [some (.ref (1))] [] = some (19, [some (.ref (1))], [.ref (1)]) from rfl) ?_
    refine AE.getR K gf_X11_10 rfl rfl (am_at eX11_restoreSnapshot 9 rfl) ?_
    refine AE.run K eX11_restoreSnapshot 10 1 (show am_run 1 ((tX11_restoreSnapshot.drop 10).take 1) 22 [some (.ref (1))] [.ref (sS 0)] = some (23, [some (.ref (1))], [.ref (1), .ref (sS 0)]) from rfl) ?_
    refine AE.getR K gf_X11_19 rfl rfl (am_at eX11_restoreSnapshot 11 rfl) ?_
    refine AE.cv (f' := 3) (c' := 0) (lo' := 81) (st := []) (As := [.ref (sS 2)]) (m := d_X8_copyFrom 0 2 V) K hex (fun q hq => kX8_copyFrom B hfl (i := 0) (j := 2) (by decide) (by decide) hq) cv_X11_281 (sh_S0 (by decide)) (T := TX8) (N := 9) rfl rfl rfl (Nat.le_of_ble_eq_true rfl) ⟨Nat.le_of_ble_eq_true rfl, Nat.le_of_ble_eq_true rfl⟩ (by omega) (am_at eX11_restoreSnapshot 12 rfl) h (rU_some h) (bkU (fun V1 h => ?_))
    refine AE.run K eX11_restoreSnapshot 13 1 (show am_run 1 ((tX11_restoreSnapshot.drop 13).take 1) 29 [some (.ref (1))] [] = some (30, [some (.ref (1))], [.ref (1)]) from rfl) ?_
    refine AE.getR K gf_X11_25 rfl rfl (am_at eX11_restoreSnapshot 14 rfl) ?_
    refine AE.cv (f' := 0) (c' := 0) (lo' := 0) (st := []) (As := []) (m := d_X4_forget V1) K hex (fun q hq => kX4_forget B hfl hq) cv_X11_413 rfl (T := TX4) (N := 3) rfl rfl rfl (Nat.le_of_ble_eq_true rfl) ⟨Nat.le_of_ble_eq_true rfl, Nat.le_of_ble_eq_true rfl⟩ (by omega) (am_at eX11_restoreSnapshot 15 rfl) h (rU_some h) (bkU (fun V2 h => ?_))
    refine AE.run K eX11_restoreSnapshot 16 1 (show am_run 1 ((tX11_restoreSnapshot.drop 16).take 1) 36 [some (.ref (1))] [] = some (37, [some (.ref (1))], [.ref (1)]) from rfl) ?_
    refine AE.getR K gf_X11_10 rfl rfl (am_at eX11_restoreSnapshot 17 rfl) ?_
    refine AE.getR K gf_X11_115 (sh_S0 (by decide)) rfl (am_at eX11_restoreSnapshot 18 rfl) ?_
    refine AE.getI K gf_X11_119 (sh_S1 (by decide)) rfl (am_at eX11_restoreSnapshot 19 rfl) ?_
    exact AE.iret K (by omega) (am_at eX11_restoreSnapshot 20 rfl) h
  · exact AE.throwSW K hex th_X11_347_411 (am_at eX11_restoreSnapshot 3 rfl) (am_at eX11_restoreSnapshot 4 rfl) (am_at eX11_restoreSnapshot 5 rfl) (am_at eX11_restoreSnapshot 6 rfl) (am_at eX11_restoreSnapshot 7 rfl) (by decide) (Nat.le_of_ble_eq_true rfl) (by omega) h
