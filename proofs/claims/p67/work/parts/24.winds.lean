def d_X10_arrives (i : Nat) (x2 : Int32) (V : am_V) : am_R := rG (am_in x2 9) (rG (am_in (V (30 + 2) (iN x2)) 16) (rG (am_in (V (30 + 2) (iN x2)) 16) (rV (am_set V (sS i + 3) (iN (V (30 + 2) (iN x2))) ((V (sS i + 3) (iN (V (30 + 2) (iN x2)))) + (nI 1))) (fun (V1 : am_V) => rV (am_set V1 (sS i) 3 ((V1 (sS i) 3) + (nI 1))) (fun (V2 : am_V) => rG (am_in (V (30 + 2) (iN x2)) 16) (rV (am_set V2 (sS i) 6 ((V2 (sS i) 6) + (V2 (sS i + 7) (iN (V (30 + 2) (iN x2)))))) (fun (V3 : am_V) => rG (decide (¬ (nI 512) = 0)) (rV (am_set V3 (sS i + 2) 7 (am_rm (((V3 (sS i + 2) 7) * (nI 61)) + (nI 17)) (nI 512))) (fun (V4 : am_V) => rG (decide (¬ (nI 10) = 0)) (rI (d_X6_dangerOf i (V (30 + 2) (iN x2)) x2 V4) (fun (y6 : Int32) (V5 : am_V) => (if y6 ≤ (am_rm (V4 (sS i + 2) 7) (nI 10)) then rG (am_nb (nI 1)) (some (.inl (some (.int (nI 1))), V5)) else rV (am_set V5 (sS i) 4 ((V5 (sS i) 4) + (nI 1))) (fun (V7 : am_V) => rG (am_nb (nI 0)) (some (.inl (some (.int (nI 0))), V7)))))))))))))))
set_option maxRecDepth 100000 in
set_option maxHeartbeats 4000000 in
theorem kX10_arrives {U : am_U} {l : Launch} (B : am_base xx U) (hfl : l.stackTraces = false) {V : am_V} {i : Nat} {x2 : Int32} (hi : i < 12) {r : (Option Value ⊕ String) × am_V} (h : d_X10_arrives i x2 V = some r) : am_Ct xx U l yX10_arrives cX10_arrives 4 (some .boolean) (rk 1 0 22) [.ref (11), .ref (sS i), .int (x2)] V (am_is r.1 r.2) := by
  refine am_Ct.of B hfl (by decide) (Nat.le_of_ble_eq_true rfl) ?_
  intro G hgl hgR hr ok h0 hex
  have K : aK U l G RX10 cX10_arrives 4 (some .boolean) 1 0 22 := ⟨hgl, hgR, hr, ok, h0⟩
  unfold d_X10_arrives at h
  show AE U G 4 1 0 22 r 0 V 0 [some (.ref (11)), some (.ref (sS i)), some (.int (x2)), none] []
  refine AE.run K eX10_arrives 0 1 (show am_run 4 ((tX10_arrives.drop 0).take 1) 0 [some (.ref (11)), some (.ref (sS i)), some (.int (x2)), none] [] = some (1, [some (.ref (11)), some (.ref (sS i)), some (.int (x2)), none], [.ref (11)]) from rfl) ?_
  refine AE.getR K gf_X10_12 rfl rfl (am_at eX10_arrives 1 rfl) ?_
  refine AE.getR K gf_X10_79 (sh_T0 (by decide)) rfl (am_at eX10_arrives 2 rfl) ?_
  refine AE.run K eX10_arrives 3 1 (show am_run 4 ((tX10_arrives.drop 3).take 1) 7 [some (.ref (11)), some (.ref (sS i)), some (.int (x2)), none] [.ref (30 + 2)] = some (8, [some (.ref (11)), some (.ref (sS i)), some (.int (x2)), none], [.int (x2), .ref (30 + 2)]) from rfl) ?_
  refine AE.iald K (sh_T2 (by decide)) (am_at eX10_arrives 4 rfl) h (fun h => ?_)
  refine AE.run K eX10_arrives 5 2 (show am_run 4 ((tX10_arrives.drop 5).take 2) 9 [some (.ref (11)), some (.ref (sS i)), some (.int (x2)), none] [.int (V (30 + 2) (iN x2))] = some (11, [some (.ref (11)), some (.ref (sS i)), some (.int (x2)), some (.int (V (30 + 2) (iN x2)))], [.ref (sS i)]) from rfl) ?_
  refine AE.getR K gf_X10_82 (sh_S0 hi) rfl (am_at eX10_arrives 7 rfl) ?_
  refine AE.run K eX10_arrives 8 2 (show am_run 4 ((tX10_arrives.drop 8).take 2) 14 [some (.ref (11)), some (.ref (sS i)), some (.int (x2)), some (.int (V (30 + 2) (iN x2)))] [.ref (sS i + 3)] = some (16, [some (.ref (11)), some (.ref (sS i)), some (.int (x2)), some (.int (V (30 + 2) (iN x2)))], [.int (V (30 + 2) (iN x2)), .ref (sS i + 3), .int (V (30 + 2) (iN x2)), .ref (sS i + 3)]) from rfl) ?_
  refine AE.iald K (sh_S3 hi) (am_at eX10_arrives 10 rfl) h (fun h => ?_)
  refine AE.run K eX10_arrives 11 2 (show am_run 4 ((tX10_arrives.drop 11).take 2) 17 [some (.ref (11)), some (.ref (sS i)), some (.int (x2)), some (.int (V (30 + 2) (iN x2)))] [.int (V (sS i + 3) (iN (V (30 + 2) (iN x2)))), .int (V (30 + 2) (iN x2)), .ref (sS i + 3)] = some (19, [some (.ref (11)), some (.ref (sS i)), some (.int (x2)), some (.int (V (30 + 2) (iN x2)))], [.int ((V (sS i + 3) (iN (V (30 + 2) (iN x2)))) + (nI 1)), .int (V (30 + 2) (iN x2)), .ref (sS i + 3)]) from rfl) ?_
  refine AE.iast K (sh_S3 hi) (wr_S (i := i) (k := 3) hi (by decide)) (am_at eX10_arrives 13 rfl) h (fun V1 h => ?_)
  refine AE.run K eX10_arrives 14 2 (show am_run 4 ((tX10_arrives.drop 14).take 2) 20 [some (.ref (11)), some (.ref (sS i)), some (.int (x2)), some (.int (V (30 + 2) (iN x2)))] [] = some (22, [some (.ref (11)), some (.ref (sS i)), some (.int (x2)), some (.int (V (30 + 2) (iN x2)))], [.ref (sS i), .ref (sS i)]) from rfl) ?_
  refine AE.getI K gf_X10_85 (sh_S0 hi) rfl (am_at eX10_arrives 16 rfl) ?_
  refine AE.run K eX10_arrives 17 2 (show am_run 4 ((tX10_arrives.drop 17).take 2) 25 [some (.ref (11)), some (.ref (sS i)), some (.int (x2)), some (.int (V (30 + 2) (iN x2)))] [.int (V1 (sS i) 3), .ref (sS i)] = some (27, [some (.ref (11)), some (.ref (sS i)), some (.int (x2)), some (.int (V (30 + 2) (iN x2)))], [.int ((V1 (sS i) 3) + (nI 1)), .ref (sS i)]) from rfl) ?_
  refine AE.putI K pf_X10_85 (sh_S0 hi) (wr_S (i := i) (k := 0) hi (by decide)) rfl (am_at eX10_arrives 19 rfl) h (fun V2 h => ?_)
  refine AE.run K eX10_arrives 20 2 (show am_run 4 ((tX10_arrives.drop 20).take 2) 30 [some (.ref (11)), some (.ref (sS i)), some (.int (x2)), some (.int (V (30 + 2) (iN x2)))] [] = some (32, [some (.ref (11)), some (.ref (sS i)), some (.int (x2)), some (.int (V (30 + 2) (iN x2)))], [.ref (sS i), .ref (sS i)]) from rfl) ?_
  refine AE.getI K gf_X10_88 (sh_S0 hi) rfl (am_at eX10_arrives 22 rfl) ?_
  refine AE.run K eX10_arrives 23 1 (show am_run 4 ((tX10_arrives.drop 23).take 1) 35 [some (.ref (11)), some (.ref (sS i)), some (.int (x2)), some (.int (V (30 + 2) (iN x2)))] [.int (V2 (sS i) 6), .ref (sS i)] = some (36, [some (.ref (11)), some (.ref (sS i)), some (.int (x2)), some (.int (V (30 + 2) (iN x2)))], [.ref (sS i), .int (V2 (sS i) 6), .ref (sS i)]) from rfl) ?_
  refine AE.getR K gf_X10_18 (sh_S0 hi) rfl (am_at eX10_arrives 24 rfl) ?_
  refine AE.getR K gf_X10_91 (sh_S1 hi) rfl (am_at eX10_arrives 25 rfl) ?_
  refine AE.run K eX10_arrives 26 1 (show am_run 4 ((tX10_arrives.drop 26).take 1) 42 [some (.ref (11)), some (.ref (sS i)), some (.int (x2)), some (.int (V (30 + 2) (iN x2)))] [.ref (sS i + 7), .int (V2 (sS i) 6), .ref (sS i)] = some (43, [some (.ref (11)), some (.ref (sS i)), some (.int (x2)), some (.int (V (30 + 2) (iN x2)))], [.int (V (30 + 2) (iN x2)), .ref (sS i + 7), .int (V2 (sS i) 6), .ref (sS i)]) from rfl) ?_
  refine AE.iald K (sh_S7 hi) (am_at eX10_arrives 27 rfl) h (fun h => ?_)
  refine AE.run K eX10_arrives 28 1 (show am_run 4 ((tX10_arrives.drop 28).take 1) 44 [some (.ref (11)), some (.ref (sS i)), some (.int (x2)), some (.int (V (30 + 2) (iN x2)))] [.int (V2 (sS i + 7) (iN (V (30 + 2) (iN x2)))), .int (V2 (sS i) 6), .ref (sS i)] = some (45, [some (.ref (11)), some (.ref (sS i)), some (.int (x2)), some (.int (V (30 + 2) (iN x2)))], [.int ((V2 (sS i) 6) + (V2 (sS i + 7) (iN (V (30 + 2) (iN x2))))), .ref (sS i)]) from rfl) ?_
  refine AE.putI K pf_X10_88 (sh_S0 hi) (wr_S (i := i) (k := 0) hi (by decide)) rfl (am_at eX10_arrives 29 rfl) h (fun V3 h => ?_)
  refine AE.run K eX10_arrives 30 1 (show am_run 4 ((tX10_arrives.drop 30).take 1) 48 [some (.ref (11)), some (.ref (sS i)), some (.int (x2)), some (.int (V (30 + 2) (iN x2)))] [] = some (49, [some (.ref (11)), some (.ref (sS i)), some (.int (x2)), some (.int (V (30 + 2) (iN x2)))], [.ref (sS i)]) from rfl) ?_
  refine AE.getR K gf_X10_24 (sh_S0 hi) rfl (am_at eX10_arrives 31 rfl) ?_
  refine AE.run K eX10_arrives 32 1 (show am_run 4 ((tX10_arrives.drop 32).take 1) 52 [some (.ref (11)), some (.ref (sS i)), some (.int (x2)), some (.int (V (30 + 2) (iN x2)))] [.ref (sS i + 2)] = some (53, [some (.ref (11)), some (.ref (sS i)), some (.int (x2)), some (.int (V (30 + 2) (iN x2)))], [.ref (sS i), .ref (sS i + 2)]) from rfl) ?_
  refine AE.getR K gf_X10_24 (sh_S0 hi) rfl (am_at eX10_arrives 33 rfl) ?_
  refine AE.getI K gf_X10_94 (sh_S2 hi) rfl (am_at eX10_arrives 34 rfl) ?_
  refine AE.run K eX10_arrives 35 5 (show am_run 4 ((tX10_arrives.drop 35).take 5) 59 [some (.ref (11)), some (.ref (sS i)), some (.int (x2)), some (.int (V (30 + 2) (iN x2)))] [.int (V3 (sS i + 2) 7), .ref (sS i + 2)] = some (68, [some (.ref (11)), some (.ref (sS i)), some (.int (x2)), some (.int (V (30 + 2) (iN x2)))], [.int (nI 512), .int (((V3 (sS i + 2) 7) * (nI 61)) + (nI 17)), .ref (sS i + 2)]) from rfl) ?_
  refine AE.irem K (am_at eX10_arrives 40 rfl) h (fun h => ?_)
  refine AE.putI K pf_X10_94 (sh_S2 hi) (wr_S (i := i) (k := 2) hi (by decide)) rfl (am_at eX10_arrives 41 rfl) h (fun V4 h => ?_)
  refine AE.run K eX10_arrives 42 1 (show am_run 4 ((tX10_arrives.drop 42).take 1) 72 [some (.ref (11)), some (.ref (sS i)), some (.int (x2)), some (.int (V (30 + 2) (iN x2)))] [] = some (73, [some (.ref (11)), some (.ref (sS i)), some (.int (x2)), some (.int (V (30 + 2) (iN x2)))], [.ref (sS i)]) from rfl) ?_
  refine AE.getR K gf_X10_24 (sh_S0 hi) rfl (am_at eX10_arrives 43 rfl) ?_
  refine AE.getI K gf_X10_94 (sh_S2 hi) rfl (am_at eX10_arrives 44 rfl) ?_
  refine AE.run K eX10_arrives 45 1 (show am_run 4 ((tX10_arrives.drop 45).take 1) 79 [some (.ref (11)), some (.ref (sS i)), some (.int (x2)), some (.int (V (30 + 2) (iN x2)))] [.int (V4 (sS i + 2) 7)] = some (81, [some (.ref (11)), some (.ref (sS i)), some (.int (x2)), some (.int (V (30 + 2) (iN x2)))], [.int (nI 10), .int (V4 (sS i + 2) 7)]) from rfl) ?_
  refine AE.irem K (am_at eX10_arrives 46 rfl) h (fun h => ?_)
  refine AE.run K eX10_arrives 47 1 (show am_run 4 ((tX10_arrives.drop 47).take 1) 82 [some (.ref (11)), some (.ref (sS i)), some (.int (x2)), some (.int (V (30 + 2) (iN x2)))] [.int (am_rm (V4 (sS i + 2) 7) (nI 10))] = some (83, [some (.ref (11)), some (.ref (sS i)), some (.int (x2)), some (.int (V (30 + 2) (iN x2)))], [.ref (sS i), .int (am_rm (V4 (sS i + 2) 7) (nI 10))]) from rfl) ?_
  refine AE.getR K gf_X10_18 (sh_S0 hi) rfl (am_at eX10_arrives 48 rfl) ?_
  refine AE.run K eX10_arrives 49 2 (show am_run 4 ((tX10_arrives.drop 49).take 2) 86 [some (.ref (11)), some (.ref (sS i)), some (.int (x2)), some (.int (V (30 + 2) (iN x2)))] [.ref (sS i + 1), .int (am_rm (V4 (sS i + 2) 7) (nI 10))] = some (88, [some (.ref (11)), some (.ref (sS i)), some (.int (x2)), some (.int (V (30 + 2) (iN x2)))], [.int (x2), .int (V (30 + 2) (iN x2)), .ref (sS i + 1), .int (am_rm (V4 (sS i + 2) 7) (nI 10))]) from rfl) ?_
  refine AE.cv (f' := 0) (c' := 0) (lo' := 0) (st := [.int (am_rm (V4 (sS i + 2) 7) (nI 10))]) (As := [.int (V (30 + 2) (iN x2)), .int (x2)]) (m := d_X6_dangerOf i (V (30 + 2) (iN x2)) x2 V4) K hex (fun q hq => kX6_dangerOf B hfl (i := i) hi hq) cv_X10_97 (sh_S1 hi) (T := TX6) (N := 8) rfl rfl rfl (Nat.le_of_ble_eq_true rfl) ⟨Nat.le_of_ble_eq_true rfl, Nat.le_of_ble_eq_true rfl⟩ (by omega) (am_at eX10_arrives 51 rfl) h (rI_some h) (bkI (fun y6 V5 h => ?_))
  refine AE.ic K 106 (am_at eX10_arrives 52 rfl) (by decide) rfl h (fun h => ?_) (fun h => ?_)
  · refine AE.run K eX10_arrives 61 1 (show am_run 4 ((tX10_arrives.drop 61).take 1) 106 [some (.ref (11)), some (.ref (sS i)), some (.int (x2)), some (.int (V (30 + 2) (iN x2)))] [] = some (107, [some (.ref (11)), some (.ref (sS i)), some (.int (x2)), some (.int (V (30 + 2) (iN x2)))], [.int (nI 1)]) from rfl) ?_
    exact AE.zret K (by omega) (am_at eX10_arrives 62 rfl) h
  · refine AE.run K eX10_arrives 53 2 (show am_run 4 ((tX10_arrives.drop 53).take 2) 94 [some (.ref (11)), some (.ref (sS i)), some (.int (x2)), some (.int (V (30 + 2) (iN x2)))] [] = some (96, [some (.ref (11)), some (.ref (sS i)), some (.int (x2)), some (.int (V (30 + 2) (iN x2)))], [.ref (sS i), .ref (sS i)]) from rfl) ?_
    refine AE.getI K gf_X10_101 (sh_S0 hi) rfl (am_at eX10_arrives 55 rfl) ?_
    refine AE.run K eX10_arrives 56 2 (show am_run 4 ((tX10_arrives.drop 56).take 2) 99 [some (.ref (11)), some (.ref (sS i)), some (.int (x2)), some (.int (V (30 + 2) (iN x2)))] [.int (V5 (sS i) 4), .ref (sS i)] = some (101, [some (.ref (11)), some (.ref (sS i)), some (.int (x2)), some (.int (V (30 + 2) (iN x2)))], [.int ((V5 (sS i) 4) + (nI 1)), .ref (sS i)]) from rfl) ?_
    refine AE.putI K pf_X10_101 (sh_S0 hi) (wr_S (i := i) (k := 0) hi (by decide)) rfl (am_at eX10_arrives 58 rfl) h (fun V7 h => ?_)
    refine AE.run K eX10_arrives 59 1 (show am_run 4 ((tX10_arrives.drop 59).take 1) 104 [some (.ref (11)), some (.ref (sS i)), some (.int (x2)), some (.int (V (30 + 2) (iN x2)))] [] = some (105, [some (.ref (11)), some (.ref (sS i)), some (.int (x2)), some (.int (V (30 + 2) (iN x2)))], [.int (nI 0)]) from rfl) ?_
    exact AE.zret K (by omega) (am_at eX10_arrives 60 rfl) h
def bd_X10_sendDown_33 (i : Nat) (x2 : Int32) (V : am_V) (kx kr : Int32 → Int32 → am_V → am_R) (a5_33 : Int32) (a6_33 : Int32) (V_33 : am_V) : am_R := (if (nI 7) ≤ a6_33 then kx a5_33 a6_33 V_33 else rI (d_X11_hasBit ((V (sS i + 9) (iN (V (30 + 1) (iN x2)))) &&& ((V (sS i + 9) (iN x2)) ^^^ (-1))) a6_33 V_33) (fun (y2 : Int32) (V1 : am_V) => rB (fun (b5_72 : Int32) (V_72 : am_V) => kr b5_72 (a6_33 + nI 1) V_72) (fun (j72 : Int32 → am_V → am_R) => (if y2 = 0 then j72 a5_33 V1 else rI (d_X10_arrives i x2 V1) (fun (y4 : Int32) (V3 : am_V) => (if y4 = 0 then j72 a5_33 V3 else rG (am_in x2 9) (rG (am_in x2 9) (rV (am_set V3 (sS i + 9) (iN x2) ((V3 (sS i + 9) (iN x2)) ||| ((nI 1) <<< (a6_33 &&& 31)))) (fun (V5 : am_V) => j72 (a5_33 + nI 1) V5)))))))))
def lp_X10_sendDown_33 (i : Nat) (x2 : Int32) (V : am_V) (kx : Int32 → Int32 → am_V → am_R) : Nat → Int32 → Int32 → am_V → am_R
  | 0, _, _, _ => none
  | f9 + 1, a5_33, a6_33, V_33 => bd_X10_sendDown_33 i x2 V kx (lp_X10_sendDown_33 i x2 V kx f9) a5_33 a6_33 V_33
def d_X10_sendDown (i : Nat) (x2 : Int32) (V : am_V) : am_R := rG (am_in x2 9) (rG (am_in (V (30 + 1) (iN x2)) 9) (rG (am_in x2 9) (lp_X10_sendDown_33 i x2 V (fun (a5_33 : Int32) (a6_33 : Int32) (V_33x : am_V) => some (.inl (some (.int (a5_33))), V_33x)) 1000 (nI 0) (nI 0) V)))
set_option maxRecDepth 100000 in
set_option maxHeartbeats 4000000 in
theorem bk_X10_sendDown_33 {U : am_U} {l : Launch} (B : am_base xx U) (hfl : l.stackTraces = false) {G : am_G} (K : aK U l G RX10 cX10_sendDown 7 (some .int) 2 0 45) (hex : am_nx G) {r : (Option Value ⊕ String) × am_V} {i : Nat} {x2 : Int32} {V : am_V} (hi : i < 12) {kc : Nat} (hkc : kc ≤ 0) {kx kr : Int32 → Int32 → am_V → am_R} (hx : ∀ (a5_33 : Int32) (a6_33 : Int32) (Vq : am_V), kx a5_33 a6_33 Vq = some r → AE U G 7 2 0 45 r kc Vq 78 [none, none, none, none, none, some (.int (a5_33)), none] []) (hr : ∀ (a5_33 : Int32) (a6_33 : Int32) (Vq : am_V), kr a5_33 a6_33 Vq = some r → AE U G 7 2 0 45 r kc Vq 33 [some (.ref (11)), some (.ref (sS i)), some (.int (x2)), some (.ref (sS i + 9)), some (.int ((V (sS i + 9) (iN (V (30 + 1) (iN x2)))) &&& ((V (sS i + 9) (iN x2)) ^^^ (-1)))), some (.int (a5_33)), some (.int (a6_33))] []) (a5_33 : Int32) (a6_33 : Int32) (V_33 : am_V) (h : bd_X10_sendDown_33 i x2 V kx kr a5_33 a6_33 V_33 = some r) : AE U G 7 2 0 45 r kc V_33 33 [some (.ref (11)), some (.ref (sS i)), some (.int (x2)), some (.ref (sS i + 9)), some (.int ((V (sS i + 9) (iN (V (30 + 1) (iN x2)))) &&& ((V (sS i + 9) (iN x2)) ^^^ (-1)))), some (.int (a5_33)), some (.int (a6_33))] [] := by
  unfold bd_X10_sendDown_33 at h
  refine AE.run K eX10_sendDown 22 2 (show am_run 7 ((tX10_sendDown.drop 22).take 2) 33 [some (.ref (11)), some (.ref (sS i)), some (.int (x2)), some (.ref (sS i + 9)), some (.int ((V (sS i + 9) (iN (V (30 + 1) (iN x2)))) &&& ((V (sS i + 9) (iN x2)) ^^^ (-1)))), some (.int (a5_33)), some (.int (a6_33))] [] = some (37, [some (.ref (11)), some (.ref (sS i)), some (.int (x2)), some (.ref (sS i + 9)), some (.int ((V (sS i + 9) (iN (V (30 + 1) (iN x2)))) &&& ((V (sS i + 9) (iN x2)) ^^^ (-1)))), some (.int (a5_33)), some (.int (a6_33))], [.int (nI 7), .int (a6_33)]) from rfl) ?_
  refine AE.ic K 78 (am_at eX10_sendDown 24 rfl) (by decide) rfl h (fun h => ?_) (fun h => ?_)
  · exact AE.sub (L' := [none, none, none, none, none, some (.int (a5_33)), none]) (And.intro rfl trivial) (hx a5_33 a6_33 V_33 h)
  · refine AE.run K eX10_sendDown 25 2 (show am_run 7 ((tX10_sendDown.drop 25).take 2) 40 [some (.ref (11)), some (.ref (sS i)), some (.int (x2)), some (.ref (sS i + 9)), some (.int ((V (sS i + 9) (iN (V (30 + 1) (iN x2)))) &&& ((V (sS i + 9) (iN x2)) ^^^ (-1)))), some (.int (a5_33)), some (.int (a6_33))] [] = some (44, [some (.ref (11)), some (.ref (sS i)), some (.int (x2)), some (.ref (sS i + 9)), some (.int ((V (sS i + 9) (iN (V (30 + 1) (iN x2)))) &&& ((V (sS i + 9) (iN x2)) ^^^ (-1)))), some (.int (a5_33)), some (.int (a6_33))], [.int (a6_33), .int ((V (sS i + 9) (iN (V (30 + 1) (iN x2)))) &&& ((V (sS i + 9) (iN x2)) ^^^ (-1)))]) from rfl) ?_
    refine AE.cn (f' := 0) (c' := 0) (lo' := 0) (st := []) (As := [.int ((V (sS i + 9) (iN (V (30 + 1) (iN x2)))) &&& ((V (sS i + 9) (iN x2)) ^^^ (-1))), .int (a6_33)]) (m := d_X11_hasBit ((V (sS i + 9) (iN (V (30 + 1) (iN x2)))) &&& ((V (sS i + 9) (iN x2)) ^^^ (-1))) a6_33 V_33) K hex (fun q hq => kX11_hasBit B hfl hq) cn_X10_71 rfl rfl (Nat.le_of_ble_eq_true rfl) ⟨Nat.le_of_ble_eq_true rfl, Nat.le_of_ble_eq_true rfl⟩ (by omega) (am_at eX10_sendDown 27 rfl) h (rI_some h) (bkI (fun y2 V1 h => ?_))
    refine rB_of (P := fun (j : Int32 → am_V → am_R) => ∀ (b5_72 : Int32) (V_72 : am_V), j b5_72 V_72 = some r → AE U G 7 2 0 45 r (kc) V_72 72 [some (.ref (11)), some (.ref (sS i)), some (.int (x2)), some (.ref (sS i + 9)), some (.int ((V (sS i + 9) (iN (V (30 + 1) (iN x2)))) &&& ((V (sS i + 9) (iN x2)) ^^^ (-1)))), some (.int (b5_72)), some (.int (a6_33))] []) h (fun b5_72 V_72 h => ?_) (fun j72 hj72 h => ?_)
    · refine AE.run K eX10_sendDown 44 2 (show am_run 7 ((tX10_sendDown.drop 44).take 2) 72 [some (.ref (11)), some (.ref (sS i)), some (.int (x2)), some (.ref (sS i + 9)), some (.int ((V (sS i + 9) (iN (V (30 + 1) (iN x2)))) &&& ((V (sS i + 9) (iN x2)) ^^^ (-1)))), some (.int (b5_72)), some (.int (a6_33))] [] = some (33, [some (.ref (11)), some (.ref (sS i)), some (.int (x2)), some (.ref (sS i + 9)), some (.int ((V (sS i + 9) (iN (V (30 + 1) (iN x2)))) &&& ((V (sS i + 9) (iN x2)) ^^^ (-1)))), some (.int (b5_72)), some (.int (a6_33 + nI 1))], []) from rfl) ?_
      exact AE.sub (L' := [some (.ref (11)), some (.ref (sS i)), some (.int (x2)), some (.ref (sS i + 9)), some (.int ((V (sS i + 9) (iN (V (30 + 1) (iN x2)))) &&& ((V (sS i + 9) (iN x2)) ^^^ (-1)))), some (.int (b5_72)), some (.int (a6_33 + nI 1))]) (And.intro rfl (And.intro rfl (And.intro rfl (And.intro rfl (And.intro rfl (And.intro rfl (And.intro rfl trivial))))))) (hr b5_72 (a6_33 + nI 1) V_72 h)
    refine AE.if0 K 72 (am_at eX10_sendDown 28 rfl) (by decide) rfl h (fun h => ?_) (fun h => ?_)
    · exact AE.sub (L' := [some (.ref (11)), some (.ref (sS i)), some (.int (x2)), some (.ref (sS i + 9)), some (.int ((V (sS i + 9) (iN (V (30 + 1) (iN x2)))) &&& ((V (sS i + 9) (iN x2)) ^^^ (-1)))), some (.int (a5_33)), some (.int (a6_33))]) (And.intro rfl (And.intro rfl (And.intro rfl (And.intro rfl (And.intro rfl (And.intro rfl (And.intro rfl trivial))))))) (hj72 a5_33 V1 h)
    · refine AE.run K eX10_sendDown 29 3 (show am_run 7 ((tX10_sendDown.drop 29).take 3) 50 [some (.ref (11)), some (.ref (sS i)), some (.int (x2)), some (.ref (sS i + 9)), some (.int ((V (sS i + 9) (iN (V (30 + 1) (iN x2)))) &&& ((V (sS i + 9) (iN x2)) ^^^ (-1)))), some (.int (a5_33)), some (.int (a6_33))] [] = some (53, [some (.ref (11)), some (.ref (sS i)), some (.int (x2)), some (.ref (sS i + 9)), some (.int ((V (sS i + 9) (iN (V (30 + 1) (iN x2)))) &&& ((V (sS i + 9) (iN x2)) ^^^ (-1)))), some (.int (a5_33)), some (.int (a6_33))], [.int (x2), .ref (sS i), .ref (11)]) from rfl) ?_
      refine AE.cv (f' := 1) (c' := 0) (lo' := 22) (st := []) (As := [.ref (sS i), .int (x2)]) (m := d_X10_arrives i x2 V1) K hex (fun q hq => kX10_arrives B hfl (i := i) hi hq) cv_X10_75 rfl (T := TX10) (N := 1) rfl rfl rfl (Nat.le_of_ble_eq_true rfl) ⟨Nat.le_of_ble_eq_true rfl, Nat.le_of_ble_eq_true rfl⟩ (by omega) (am_at eX10_sendDown 32 rfl) h (rI_some h) (bkI (fun y4 V3 h => ?_))
      refine AE.if0 K 72 (am_at eX10_sendDown 33 rfl) (by decide) rfl h (fun h => ?_) (fun h => ?_)
      · exact AE.sub (L' := [some (.ref (11)), some (.ref (sS i)), some (.int (x2)), some (.ref (sS i + 9)), some (.int ((V (sS i + 9) (iN (V (30 + 1) (iN x2)))) &&& ((V (sS i + 9) (iN x2)) ^^^ (-1)))), some (.int (a5_33)), some (.int (a6_33))]) (And.intro rfl (And.intro rfl (And.intro rfl (And.intro rfl (And.intro rfl (And.intro rfl (And.intro rfl trivial))))))) (hj72 a5_33 V3 h)
      · refine AE.run K eX10_sendDown 34 3 (show am_run 7 ((tX10_sendDown.drop 34).take 3) 59 [some (.ref (11)), some (.ref (sS i)), some (.int (x2)), some (.ref (sS i + 9)), some (.int ((V (sS i + 9) (iN (V (30 + 1) (iN x2)))) &&& ((V (sS i + 9) (iN x2)) ^^^ (-1)))), some (.int (a5_33)), some (.int (a6_33))] [] = some (62, [some (.ref (11)), some (.ref (sS i)), some (.int (x2)), some (.ref (sS i + 9)), some (.int ((V (sS i + 9) (iN (V (30 + 1) (iN x2)))) &&& ((V (sS i + 9) (iN x2)) ^^^ (-1)))), some (.int (a5_33)), some (.int (a6_33))], [.int (x2), .ref (sS i + 9), .int (x2), .ref (sS i + 9)]) from rfl) ?_
        refine AE.iald K (sh_S9 hi) (am_at eX10_sendDown 37 rfl) h (fun h => ?_)
        refine AE.run K eX10_sendDown 38 4 (show am_run 7 ((tX10_sendDown.drop 38).take 4) 63 [some (.ref (11)), some (.ref (sS i)), some (.int (x2)), some (.ref (sS i + 9)), some (.int ((V (sS i + 9) (iN (V (30 + 1) (iN x2)))) &&& ((V (sS i + 9) (iN x2)) ^^^ (-1)))), some (.int (a5_33)), some (.int (a6_33))] [.int (V3 (sS i + 9) (iN x2)), .int (x2), .ref (sS i + 9)] = some (68, [some (.ref (11)), some (.ref (sS i)), some (.int (x2)), some (.ref (sS i + 9)), some (.int ((V (sS i + 9) (iN (V (30 + 1) (iN x2)))) &&& ((V (sS i + 9) (iN x2)) ^^^ (-1)))), some (.int (a5_33)), some (.int (a6_33))], [.int ((V3 (sS i + 9) (iN x2)) ||| ((nI 1) <<< (a6_33 &&& 31))), .int (x2), .ref (sS i + 9)]) from rfl) ?_
        refine AE.iast K (sh_S9 hi) (wr_S (i := i) (k := 9) hi (by decide)) (am_at eX10_sendDown 42 rfl) h (fun V5 h => ?_)
        refine AE.run K eX10_sendDown 43 1 (show am_run 7 ((tX10_sendDown.drop 43).take 1) 69 [some (.ref (11)), some (.ref (sS i)), some (.int (x2)), some (.ref (sS i + 9)), some (.int ((V (sS i + 9) (iN (V (30 + 1) (iN x2)))) &&& ((V (sS i + 9) (iN x2)) ^^^ (-1)))), some (.int (a5_33)), some (.int (a6_33))] [] = some (72, [some (.ref (11)), some (.ref (sS i)), some (.int (x2)), some (.ref (sS i + 9)), some (.int ((V (sS i + 9) (iN (V (30 + 1) (iN x2)))) &&& ((V (sS i + 9) (iN x2)) ^^^ (-1)))), some (.int (a5_33 + nI 1)), some (.int (a6_33))], []) from rfl) ?_
        exact AE.sub (L' := [some (.ref (11)), some (.ref (sS i)), some (.int (x2)), some (.ref (sS i + 9)), some (.int ((V (sS i + 9) (iN (V (30 + 1) (iN x2)))) &&& ((V (sS i + 9) (iN x2)) ^^^ (-1)))), some (.int (a5_33 + nI 1)), some (.int (a6_33))]) (And.intro rfl (And.intro rfl (And.intro rfl (And.intro rfl (And.intro rfl (And.intro rfl (And.intro rfl trivial))))))) (hj72 (a5_33 + nI 1) V5 h)
theorem lk_X10_sendDown_33 {U : am_U} {l : Launch} (B : am_base xx U) (hfl : l.stackTraces = false) {G : am_G} (K : aK U l G RX10 cX10_sendDown 7 (some .int) 2 0 45) (hex : am_nx G) {r : (Option Value ⊕ String) × am_V} {i : Nat} {x2 : Int32} {V : am_V} (hi : i < 12) {kc : Nat} (hkc : kc ≤ 0) {kx : Int32 → Int32 → am_V → am_R} (hx : ∀ (a5_33 : Int32) (a6_33 : Int32) (Vq : am_V), kx a5_33 a6_33 Vq = some r → AE U G 7 2 0 45 r kc Vq 78 [none, none, none, none, none, some (.int (a5_33)), none] []) : ∀ (f9 : Nat) (a5_33 : Int32) (a6_33 : Int32) (Vq : am_V), lp_X10_sendDown_33 i x2 V kx f9 a5_33 a6_33 Vq = some r → AE U G 7 2 0 45 r kc Vq 33 [some (.ref (11)), some (.ref (sS i)), some (.int (x2)), some (.ref (sS i + 9)), some (.int ((V (sS i + 9) (iN (V (30 + 1) (iN x2)))) &&& ((V (sS i + 9) (iN x2)) ^^^ (-1)))), some (.int (a5_33)), some (.int (a6_33))] [] := by
  intro f9
  induction f9 with
  | zero =>
    intro a5_33 a6_33 Vq h
    cases h
  | succ f9 ih =>
    intro a5_33 a6_33 Vq h
    exact bk_X10_sendDown_33 B hfl K hex hi hkc hx ih a5_33 a6_33 Vq h
set_option maxRecDepth 100000 in
set_option maxHeartbeats 4000000 in
theorem kX10_sendDown {U : am_U} {l : Launch} (B : am_base xx U) (hfl : l.stackTraces = false) {V : am_V} {i : Nat} {x2 : Int32} (hi : i < 12) {r : (Option Value ⊕ String) × am_V} (h : d_X10_sendDown i x2 V = some r) : am_Ct xx U l yX10_sendDown cX10_sendDown 7 (some .int) (rk 2 0 45) [.ref (11), .ref (sS i), .int (x2)] V (am_is r.1 r.2) := by
  refine am_Ct.of B hfl (by decide) (Nat.le_of_ble_eq_true rfl) ?_
  intro G hgl hgR hr ok h0 hex
  have K : aK U l G RX10 cX10_sendDown 7 (some .int) 2 0 45 := ⟨hgl, hgR, hr, ok, h0⟩
  unfold d_X10_sendDown at h
  show AE U G 7 2 0 45 r 0 V 0 [some (.ref (11)), some (.ref (sS i)), some (.int (x2)), none, none, none, none] []
  refine AE.run K eX10_sendDown 0 1 (show am_run 7 ((tX10_sendDown.drop 0).take 1) 0 [some (.ref (11)), some (.ref (sS i)), some (.int (x2)), none, none, none, none] [] = some (1, [some (.ref (11)), some (.ref (sS i)), some (.int (x2)), none, none, none, none], [.ref (sS i)]) from rfl) ?_
  refine AE.getR K gf_X10_24 (sh_S0 hi) rfl (am_at eX10_sendDown 1 rfl) ?_
  refine AE.getR K gf_X10_68 (sh_S2 hi) rfl (am_at eX10_sendDown 2 rfl) ?_
  refine AE.run K eX10_sendDown 3 3 (show am_run 7 ((tX10_sendDown.drop 3).take 3) 7 [some (.ref (11)), some (.ref (sS i)), some (.int (x2)), none, none, none, none] [.ref (sS i + 9)] = some (10, [some (.ref (11)), some (.ref (sS i)), some (.int (x2)), some (.ref (sS i + 9)), none, none, none], [.ref (11), .ref (sS i + 9)]) from rfl) ?_
  refine AE.getR K gf_X10_12 rfl rfl (am_at eX10_sendDown 6 rfl) ?_
  refine AE.getR K gf_X10_47 (sh_T0 (by decide)) rfl (am_at eX10_sendDown 7 rfl) ?_
  refine AE.run K eX10_sendDown 8 1 (show am_run 7 ((tX10_sendDown.drop 8).take 1) 16 [some (.ref (11)), some (.ref (sS i)), some (.int (x2)), some (.ref (sS i + 9)), none, none, none] [.ref (30 + 1), .ref (sS i + 9)] = some (17, [some (.ref (11)), some (.ref (sS i)), some (.int (x2)), some (.ref (sS i + 9)), none, none, none], [.int (x2), .ref (30 + 1), .ref (sS i + 9)]) from rfl) ?_
  refine AE.iald K (sh_T1 (by decide)) (am_at eX10_sendDown 9 rfl) h (fun h => ?_)
  refine AE.iald K (sh_S9 hi) (am_at eX10_sendDown 10 rfl) h (fun h => ?_)
  refine AE.run K eX10_sendDown 11 2 (show am_run 7 ((tX10_sendDown.drop 11).take 2) 19 [some (.ref (11)), some (.ref (sS i)), some (.int (x2)), some (.ref (sS i + 9)), none, none, none] [.int (V (sS i + 9) (iN (V (30 + 1) (iN x2))))] = some (21, [some (.ref (11)), some (.ref (sS i)), some (.int (x2)), some (.ref (sS i + 9)), none, none, none], [.int (x2), .ref (sS i + 9), .int (V (sS i + 9) (iN (V (30 + 1) (iN x2))))]) from rfl) ?_
  refine AE.iald K (sh_S9 hi) (am_at eX10_sendDown 13 rfl) h (fun h => ?_)
  refine AE.run K eX10_sendDown 14 8 (show am_run 7 ((tX10_sendDown.drop 14).take 8) 22 [some (.ref (11)), some (.ref (sS i)), some (.int (x2)), some (.ref (sS i + 9)), none, none, none] [.int (V (sS i + 9) (iN x2)), .int (V (sS i + 9) (iN (V (30 + 1) (iN x2))))] = some (33, [some (.ref (11)), some (.ref (sS i)), some (.int (x2)), some (.ref (sS i + 9)), some (.int ((V (sS i + 9) (iN (V (30 + 1) (iN x2)))) &&& ((V (sS i + 9) (iN x2)) ^^^ (-1)))), some (.int (nI 0)), some (.int (nI 0))], []) from rfl) ?_
  refine AE.sub (L' := [some (.ref (11)), some (.ref (sS i)), some (.int (x2)), some (.ref (sS i + 9)), some (.int ((V (sS i + 9) (iN (V (30 + 1) (iN x2)))) &&& ((V (sS i + 9) (iN x2)) ^^^ (-1)))), some (.int (nI 0)), some (.int (nI 0))]) (And.intro rfl (And.intro rfl (And.intro rfl (And.intro rfl (And.intro rfl (And.intro rfl (And.intro rfl trivial))))))) ?_
  refine lk_X10_sendDown_33 B hfl K hex hi (by omega) ?_ 1000 (nI 0) (nI 0) V h
  intro a5_33 a6_33 V_33x h
  refine AE.run K eX10_sendDown 46 1 (show am_run 7 ((tX10_sendDown.drop 46).take 1) 78 [none, none, none, none, none, some (.int (a5_33)), none] [] = some (80, [none, none, none, none, none, some (.int (a5_33)), none], [.int (a5_33)]) from rfl) ?_
  exact AE.iret K (by omega) (am_at eX10_sendDown 47 rfl) h
def bd_X10_rebuildMissing_10 (i : Nat) (y2 : Int32) (kx kr : Int32 → am_V → am_R) (a3_10 : Int32) (V_10 : am_V) : am_R := (if (V_10 (sS i + 1) 6) ≤ a3_10 then kx a3_10 V_10 else rG (am_in a3_10 9) (rG (am_in a3_10 9) (rB (fun (V_78 : am_V) => kr (a3_10 + nI 1) V_78) (fun (j78 : am_V → am_R) => (if (V_10 (30 + 3) (iN a3_10)) = (-1) then j78 V_10 else rI (d_J6_bitCount_0f7a4 (y2 &&& ((V_10 (sS i + 9) (iN a3_10)) ^^^ (-1))) V_10) (fun (y4 : Int32) (V3 : am_V) => (if ¬ y4 = (nI 1) then j78 V3 else rG (am_in a3_10 9) (rV (am_set V3 (sS i + 9) (iN a3_10) y2) (fun (V5 : am_V) => rV (am_set V5 (sS i) 5 ((V5 (sS i) 5) + (nI 1))) (fun (V6 : am_V) => j78 V6))))))))))
def lp_X10_rebuildMissing_10 (i : Nat) (y2 : Int32) (kx : Int32 → am_V → am_R) : Nat → Int32 → am_V → am_R
  | 0, _, _ => none
  | f9 + 1, a3_10, V_10 => bd_X10_rebuildMissing_10 i y2 kx (lp_X10_rebuildMissing_10 i y2 kx f9) a3_10 V_10
def d_X10_rebuildMissing (i : Nat) (V : am_V) : am_R := rI (d_X1_allPackets i V) (fun (y2 : Int32) (V1 : am_V) => lp_X10_rebuildMissing_10 i y2 (fun (a3_10 : Int32) (V_10x : am_V) => some (.inl none, V_10x)) 1000 (nI 0) V1)
set_option maxRecDepth 100000 in
set_option maxHeartbeats 4000000 in
theorem bk_X10_rebuildMissing_10 {U : am_U} {l : Launch} (B : am_base xx U) (hfl : l.stackTraces = false) {G : am_G} (K : aK U l G RX10 cX10_rebuildMissing 5 none 2 0 60) (hex : am_nx G) {r : (Option Value ⊕ String) × am_V} {i : Nat} {y2 : Int32} (hi : i < 12) {kc : Nat} (hkc : kc ≤ 0) {kx kr : Int32 → am_V → am_R} (hx : ∀ (a3_10 : Int32) (Vq : am_V), kx a3_10 Vq = some r → AE U G 5 2 0 60 r kc Vq 84 [none, none, none, none, none] []) (hr : ∀ (a3_10 : Int32) (Vq : am_V), kr a3_10 Vq = some r → AE U G 5 2 0 60 r kc Vq 10 [some (.ref (11)), some (.ref (sS i)), some (.int (y2)), some (.int (a3_10)), none] []) (a3_10 : Int32) (V_10 : am_V) (h : bd_X10_rebuildMissing_10 i y2 kx kr a3_10 V_10 = some r) : AE U G 5 2 0 60 r kc V_10 10 [some (.ref (11)), some (.ref (sS i)), some (.int (y2)), some (.int (a3_10)), none] [] := by
  unfold bd_X10_rebuildMissing_10 at h
  refine AE.run K eX10_rebuildMissing 6 2 (show am_run 5 ((tX10_rebuildMissing.drop 6).take 2) 10 [some (.ref (11)), some (.ref (sS i)), some (.int (y2)), some (.int (a3_10)), none] [] = some (12, [some (.ref (11)), some (.ref (sS i)), some (.int (y2)), some (.int (a3_10)), none], [.ref (sS i), .int (a3_10)]) from rfl) ?_
  refine AE.getR K gf_X10_18 (sh_S0 hi) rfl (am_at eX10_rebuildMissing 8 rfl) ?_
  refine AE.getI K gf_X10_38 (sh_S1 hi) rfl (am_at eX10_rebuildMissing 9 rfl) ?_
  refine AE.ic K 84 (am_at eX10_rebuildMissing 10 rfl) (by decide) rfl h (fun h => ?_) (fun h => ?_)
  · exact AE.sub (L' := [none, none, none, none, none]) trivial (hx a3_10 V_10 h)
  · refine AE.run K eX10_rebuildMissing 11 2 (show am_run 5 ((tX10_rebuildMissing.drop 11).take 2) 21 [some (.ref (11)), some (.ref (sS i)), some (.int (y2)), some (.int (a3_10)), none] [] = some (23, [some (.ref (11)), some (.ref (sS i)), some (.int (y2)), some (.int (a3_10)), none], [.ref (sS i), .int (y2)]) from rfl) ?_
    refine AE.getR K gf_X10_24 (sh_S0 hi) rfl (am_at eX10_rebuildMissing 13 rfl) ?_
    refine AE.getR K gf_X10_68 (sh_S2 hi) rfl (am_at eX10_rebuildMissing 14 rfl) ?_
    refine AE.run K eX10_rebuildMissing 15 1 (show am_run 5 ((tX10_rebuildMissing.drop 15).take 1) 29 [some (.ref (11)), some (.ref (sS i)), some (.int (y2)), some (.int (a3_10)), none] [.ref (sS i + 9), .int (y2)] = some (30, [some (.ref (11)), some (.ref (sS i)), some (.int (y2)), some (.int (a3_10)), none], [.int (a3_10), .ref (sS i + 9), .int (y2)]) from rfl) ?_
    refine AE.iald K (sh_S9 hi) (am_at eX10_rebuildMissing 16 rfl) h (fun h => ?_)
    refine AE.run K eX10_rebuildMissing 17 5 (show am_run 5 ((tX10_rebuildMissing.drop 17).take 5) 31 [some (.ref (11)), some (.ref (sS i)), some (.int (y2)), some (.int (a3_10)), none] [.int (V_10 (sS i + 9) (iN a3_10)), .int (y2)] = some (37, [some (.ref (11)), some (.ref (sS i)), some (.int (y2)), some (.int (a3_10)), some (.int (y2 &&& ((V_10 (sS i + 9) (iN a3_10)) ^^^ (-1))))], [.ref (11)]) from rfl) ?_
    refine AE.getR K gf_X10_12 rfl rfl (am_at eX10_rebuildMissing 22 rfl) ?_
    refine AE.getR K gf_X10_43 (sh_T0 (by decide)) rfl (am_at eX10_rebuildMissing 23 rfl) ?_
    refine AE.run K eX10_rebuildMissing 24 1 (show am_run 5 ((tX10_rebuildMissing.drop 24).take 1) 43 [some (.ref (11)), some (.ref (sS i)), some (.int (y2)), some (.int (a3_10)), some (.int (y2 &&& ((V_10 (sS i + 9) (iN a3_10)) ^^^ (-1))))] [.ref (30 + 3)] = some (44, [some (.ref (11)), some (.ref (sS i)), some (.int (y2)), some (.int (a3_10)), some (.int (y2 &&& ((V_10 (sS i + 9) (iN a3_10)) ^^^ (-1))))], [.int (a3_10), .ref (30 + 3)]) from rfl) ?_
    refine AE.iald K (sh_T3 (by decide)) (am_at eX10_rebuildMissing 25 rfl) h (fun h => ?_)
    refine AE.run K eX10_rebuildMissing 26 1 (show am_run 5 ((tX10_rebuildMissing.drop 26).take 1) 45 [some (.ref (11)), some (.ref (sS i)), some (.int (y2)), some (.int (a3_10)), some (.int (y2 &&& ((V_10 (sS i + 9) (iN a3_10)) ^^^ (-1))))] [.int (V_10 (30 + 3) (iN a3_10))] = some (46, [some (.ref (11)), some (.ref (sS i)), some (.int (y2)), some (.int (a3_10)), some (.int (y2 &&& ((V_10 (sS i + 9) (iN a3_10)) ^^^ (-1))))], [.int (-1), .int (V_10 (30 + 3) (iN a3_10))]) from rfl) ?_
    refine rB_of (P := fun (j : am_V → am_R) => ∀ (V_78 : am_V), j V_78 = some r → AE U G 5 2 0 60 r (kc) V_78 78 [some (.ref (11)), some (.ref (sS i)), some (.int (y2)), some (.int (a3_10)), none] []) h (fun V_78 h => ?_) (fun j78 hj78 h => ?_)
    · refine AE.run K eX10_rebuildMissing 44 2 (show am_run 5 ((tX10_rebuildMissing.drop 44).take 2) 78 [some (.ref (11)), some (.ref (sS i)), some (.int (y2)), some (.int (a3_10)), none] [] = some (10, [some (.ref (11)), some (.ref (sS i)), some (.int (y2)), some (.int (a3_10 + nI 1)), none], []) from rfl) ?_
      exact AE.sub (L' := [some (.ref (11)), some (.ref (sS i)), some (.int (y2)), some (.int (a3_10 + nI 1)), none]) (And.intro rfl (And.intro rfl (And.intro rfl (And.intro rfl trivial)))) (hr (a3_10 + nI 1) V_78 h)
    refine AE.ic K 78 (am_at eX10_rebuildMissing 27 rfl) (by decide) rfl h (fun h => ?_) (fun h => ?_)
    · exact AE.sub (L' := [some (.ref (11)), some (.ref (sS i)), some (.int (y2)), some (.int (a3_10)), none]) (And.intro rfl (And.intro rfl (And.intro rfl (And.intro rfl trivial)))) (hj78  V_10 h)
    · refine AE.run K eX10_rebuildMissing 28 1 (show am_run 5 ((tX10_rebuildMissing.drop 28).take 1) 49 [some (.ref (11)), some (.ref (sS i)), some (.int (y2)), some (.int (a3_10)), some (.int (y2 &&& ((V_10 (sS i + 9) (iN a3_10)) ^^^ (-1))))] [] = some (51, [some (.ref (11)), some (.ref (sS i)), some (.int (y2)), some (.int (a3_10)), some (.int (y2 &&& ((V_10 (sS i + 9) (iN a3_10)) ^^^ (-1))))], [.int (y2 &&& ((V_10 (sS i + 9) (iN a3_10)) ^^^ (-1)))]) from rfl) ?_
      refine AE.cs (f' := 0) (c' := 0) (lo' := 0) (st := []) (As := [.int (y2 &&& ((V_10 (sS i + 9) (iN a3_10)) ^^^ (-1)))]) (m := d_J6_bitCount_0f7a4 (y2 &&& ((V_10 (sS i + 9) (iN a3_10)) ^^^ (-1))) V_10) K hex (fun q hq => kJ6_bitCount_0f7a4 B hfl hq) cs_X10_108 rfl rfl (Nat.le_of_ble_eq_true rfl) ⟨Nat.le_of_ble_eq_true rfl, Nat.le_of_ble_eq_true rfl⟩ (by omega) (am_at eX10_rebuildMissing 29 rfl) h (rI_some h) (bkI (fun y4 V3 h => ?_))
      refine AE.run K eX10_rebuildMissing 30 1 (show am_run 5 ((tX10_rebuildMissing.drop 30).take 1) 54 [some (.ref (11)), some (.ref (sS i)), some (.int (y2)), some (.int (a3_10)), some (.int (y2 &&& ((V_10 (sS i + 9) (iN a3_10)) ^^^ (-1))))] [.int (y4)] = some (55, [some (.ref (11)), some (.ref (sS i)), some (.int (y2)), some (.int (a3_10)), some (.int (y2 &&& ((V_10 (sS i + 9) (iN a3_10)) ^^^ (-1))))], [.int (nI 1), .int (y4)]) from rfl) ?_
      refine AE.ic K 78 (am_at eX10_rebuildMissing 31 rfl) (by decide) rfl h (fun h => ?_) (fun h => ?_)
      · exact AE.sub (L' := [some (.ref (11)), some (.ref (sS i)), some (.int (y2)), some (.int (a3_10)), none]) (And.intro rfl (And.intro rfl (And.intro rfl (And.intro rfl trivial)))) (hj78  V3 h)
      · refine AE.run K eX10_rebuildMissing 32 1 (show am_run 5 ((tX10_rebuildMissing.drop 32).take 1) 58 [some (.ref (11)), some (.ref (sS i)), some (.int (y2)), some (.int (a3_10)), some (.int (y2 &&& ((V_10 (sS i + 9) (iN a3_10)) ^^^ (-1))))] [] = some (59, [some (.ref (11)), some (.ref (sS i)), some (.int (y2)), some (.int (a3_10)), some (.int (y2 &&& ((V_10 (sS i + 9) (iN a3_10)) ^^^ (-1))))], [.ref (sS i)]) from rfl) ?_
        refine AE.getR K gf_X10_24 (sh_S0 hi) rfl (am_at eX10_rebuildMissing 33 rfl) ?_
        refine AE.getR K gf_X10_68 (sh_S2 hi) rfl (am_at eX10_rebuildMissing 34 rfl) ?_
        refine AE.run K eX10_rebuildMissing 35 2 (show am_run 5 ((tX10_rebuildMissing.drop 35).take 2) 65 [some (.ref (11)), some (.ref (sS i)), some (.int (y2)), some (.int (a3_10)), some (.int (y2 &&& ((V_10 (sS i + 9) (iN a3_10)) ^^^ (-1))))] [.ref (sS i + 9)] = some (67, [some (.ref (11)), some (.ref (sS i)), some (.int (y2)), some (.int (a3_10)), some (.int (y2 &&& ((V_10 (sS i + 9) (iN a3_10)) ^^^ (-1))))], [.int (y2), .int (a3_10), .ref (sS i + 9)]) from rfl) ?_
        refine AE.iast K (sh_S9 hi) (wr_S (i := i) (k := 9) hi (by decide)) (am_at eX10_rebuildMissing 37 rfl) h (fun V5 h => ?_)
        refine AE.run K eX10_rebuildMissing 38 2 (show am_run 5 ((tX10_rebuildMissing.drop 38).take 2) 68 [some (.ref (11)), some (.ref (sS i)), some (.int (y2)), some (.int (a3_10)), some (.int (y2 &&& ((V_10 (sS i + 9) (iN a3_10)) ^^^ (-1))))] [] = some (70, [some (.ref (11)), some (.ref (sS i)), some (.int (y2)), some (.int (a3_10)), some (.int (y2 &&& ((V_10 (sS i + 9) (iN a3_10)) ^^^ (-1))))], [.ref (sS i), .ref (sS i)]) from rfl) ?_
        refine AE.getI K gf_X10_114 (sh_S0 hi) rfl (am_at eX10_rebuildMissing 40 rfl) ?_
        refine AE.run K eX10_rebuildMissing 41 2 (show am_run 5 ((tX10_rebuildMissing.drop 41).take 2) 73 [some (.ref (11)), some (.ref (sS i)), some (.int (y2)), some (.int (a3_10)), some (.int (y2 &&& ((V_10 (sS i + 9) (iN a3_10)) ^^^ (-1))))] [.int (V5 (sS i) 5), .ref (sS i)] = some (75, [some (.ref (11)), some (.ref (sS i)), some (.int (y2)), some (.int (a3_10)), some (.int (y2 &&& ((V_10 (sS i + 9) (iN a3_10)) ^^^ (-1))))], [.int ((V5 (sS i) 5) + (nI 1)), .ref (sS i)]) from rfl) ?_
        refine AE.putI K pf_X10_114 (sh_S0 hi) (wr_S (i := i) (k := 0) hi (by decide)) rfl (am_at eX10_rebuildMissing 43 rfl) h (fun V6 h => ?_)
        exact AE.sub (L' := [some (.ref (11)), some (.ref (sS i)), some (.int (y2)), some (.int (a3_10)), none]) (And.intro rfl (And.intro rfl (And.intro rfl (And.intro rfl trivial)))) (hj78  V6 h)
theorem lk_X10_rebuildMissing_10 {U : am_U} {l : Launch} (B : am_base xx U) (hfl : l.stackTraces = false) {G : am_G} (K : aK U l G RX10 cX10_rebuildMissing 5 none 2 0 60) (hex : am_nx G) {r : (Option Value ⊕ String) × am_V} {i : Nat} {y2 : Int32} (hi : i < 12) {kc : Nat} (hkc : kc ≤ 0) {kx : Int32 → am_V → am_R} (hx : ∀ (a3_10 : Int32) (Vq : am_V), kx a3_10 Vq = some r → AE U G 5 2 0 60 r kc Vq 84 [none, none, none, none, none] []) : ∀ (f9 : Nat) (a3_10 : Int32) (Vq : am_V), lp_X10_rebuildMissing_10 i y2 kx f9 a3_10 Vq = some r → AE U G 5 2 0 60 r kc Vq 10 [some (.ref (11)), some (.ref (sS i)), some (.int (y2)), some (.int (a3_10)), none] [] := by
  intro f9
  induction f9 with
  | zero =>
    intro a3_10 Vq h
    cases h
  | succ f9 ih =>
    intro a3_10 Vq h
    exact bk_X10_rebuildMissing_10 B hfl K hex hi hkc hx ih a3_10 Vq h
set_option maxRecDepth 100000 in
set_option maxHeartbeats 4000000 in
theorem kX10_rebuildMissing {U : am_U} {l : Launch} (B : am_base xx U) (hfl : l.stackTraces = false) {V : am_V} {i : Nat} (hi : i < 12) {r : (Option Value ⊕ String) × am_V} (h : d_X10_rebuildMissing i V = some r) : am_Ct xx U l yX10_rebuildMissing cX10_rebuildMissing 5 none (rk 2 0 60) [.ref (11), .ref (sS i)] V (am_is r.1 r.2) := by
  refine am_Ct.of B hfl (by decide) (Nat.le_of_ble_eq_true rfl) ?_
  intro G hgl hgR hr ok h0 hex
  have K : aK U l G RX10 cX10_rebuildMissing 5 none 2 0 60 := ⟨hgl, hgR, hr, ok, h0⟩
  unfold d_X10_rebuildMissing at h
  show AE U G 5 2 0 60 r 0 V 0 [some (.ref (11)), some (.ref (sS i)), none, none, none] []
  refine AE.run K eX10_rebuildMissing 0 1 (show am_run 5 ((tX10_rebuildMissing.drop 0).take 1) 0 [some (.ref (11)), some (.ref (sS i)), none, none, none] [] = some (1, [some (.ref (11)), some (.ref (sS i)), none, none, none], [.ref (sS i)]) from rfl) ?_
  refine AE.getR K gf_X10_24 (sh_S0 hi) rfl (am_at eX10_rebuildMissing 1 rfl) ?_
  refine AE.cv (f' := 1) (c' := 0) (lo' := 20) (st := []) (As := []) (m := d_X1_allPackets i V) K hex (fun q hq => kX1_allPackets B hfl (i := i) hi hq) cv_X10_104 (sh_S2 hi) (T := TX1) (N := 8) rfl rfl rfl (Nat.le_of_ble_eq_true rfl) ⟨Nat.le_of_ble_eq_true rfl, Nat.le_of_ble_eq_true rfl⟩ (by omega) (am_at eX10_rebuildMissing 2 rfl) h (rI_some h) (bkI (fun y2 V1 h => ?_))
  refine AE.run K eX10_rebuildMissing 3 3 (show am_run 5 ((tX10_rebuildMissing.drop 3).take 3) 7 [some (.ref (11)), some (.ref (sS i)), none, none, none] [.int (y2)] = some (10, [some (.ref (11)), some (.ref (sS i)), some (.int (y2)), some (.int (nI 0)), none], []) from rfl) ?_
  refine AE.sub (L' := [some (.ref (11)), some (.ref (sS i)), some (.int (y2)), some (.int (nI 0)), none]) (And.intro rfl (And.intro rfl (And.intro rfl (And.intro rfl trivial)))) ?_
  refine lk_X10_rebuildMissing_10 B hfl K hex hi (by omega) ?_ 1000 (nI 0) V1 h
  intro a3_10 V_10x h
  exact AE.vret K (by omega) (am_at eX10_rebuildMissing 46 rfl) h
def bd_X10_coversTree_2 (i : Nat) (kx kr : Int32 → am_V → am_R) (a2_2 : Int32) (V_2 : am_V) : am_R := (if (V_2 (sS i + 1) 6) ≤ a2_2 then kx a2_2 V_2 else rG (am_in a2_2 9) (rB (fun (V_39 : am_V) => kr (a2_2 + nI 1) V_39) (fun (j39 : am_V → am_R) => (if (V_2 (30 + 3) (iN a2_2)) = (-1) then j39 V_2 else rI (d_X1_covers i a2_2 V_2) (fun (y2 : Int32) (V1 : am_V) => (if ¬ y2 = 0 then j39 V1 else rG (am_nb (nI 0)) (some (.inl (some (.int (nI 0))), V1))))))))
def lp_X10_coversTree_2 (i : Nat) (kx : Int32 → am_V → am_R) : Nat → Int32 → am_V → am_R
  | 0, _, _ => none
  | f9 + 1, a2_2, V_2 => bd_X10_coversTree_2 i kx (lp_X10_coversTree_2 i kx f9) a2_2 V_2
def d_X10_coversTree (i : Nat) (V : am_V) : am_R := lp_X10_coversTree_2 i (fun (a2_2 : Int32) (V_2x : am_V) => rG (am_nb (nI 1)) (some (.inl (some (.int (nI 1))), V_2x))) 1000 (nI 0) V
set_option maxRecDepth 100000 in
set_option maxHeartbeats 4000000 in
theorem bk_X10_coversTree_2 {U : am_U} {l : Launch} (B : am_base xx U) (hfl : l.stackTraces = false) {G : am_G} (K : aK U l G RX10 cX10_coversTree 3 (some .boolean) 1 0 22) (hex : am_nx G) {r : (Option Value ⊕ String) × am_V} {i : Nat} (hi : i < 12) {kc : Nat} (hkc : kc ≤ 0) {kx kr : Int32 → am_V → am_R} (hx : ∀ (a2_2 : Int32) (Vq : am_V), kx a2_2 Vq = some r → AE U G 3 1 0 22 r kc Vq 45 [none, none, none] []) (hr : ∀ (a2_2 : Int32) (Vq : am_V), kr a2_2 Vq = some r → AE U G 3 1 0 22 r kc Vq 2 [some (.ref (11)), some (.ref (sS i)), some (.int (a2_2))] []) (a2_2 : Int32) (V_2 : am_V) (h : bd_X10_coversTree_2 i kx kr a2_2 V_2 = some r) : AE U G 3 1 0 22 r kc V_2 2 [some (.ref (11)), some (.ref (sS i)), some (.int (a2_2))] [] := by
  unfold bd_X10_coversTree_2 at h
  refine AE.run K eX10_coversTree 2 2 (show am_run 3 ((tX10_coversTree.drop 2).take 2) 2 [some (.ref (11)), some (.ref (sS i)), some (.int (a2_2))] [] = some (4, [some (.ref (11)), some (.ref (sS i)), some (.int (a2_2))], [.ref (sS i), .int (a2_2)]) from rfl) ?_
  refine AE.getR K gf_X10_18 (sh_S0 hi) rfl (am_at eX10_coversTree 4 rfl) ?_
  refine AE.getI K gf_X10_38 (sh_S1 hi) rfl (am_at eX10_coversTree 5 rfl) ?_
  refine AE.ic K 45 (am_at eX10_coversTree 6 rfl) (by decide) rfl h (fun h => ?_) (fun h => ?_)
  · exact AE.sub (L' := [none, none, none]) trivial (hx a2_2 V_2 h)
  · refine AE.run K eX10_coversTree 7 1 (show am_run 3 ((tX10_coversTree.drop 7).take 1) 13 [some (.ref (11)), some (.ref (sS i)), some (.int (a2_2))] [] = some (14, [some (.ref (11)), some (.ref (sS i)), some (.int (a2_2))], [.ref (11)]) from rfl) ?_
    refine AE.getR K gf_X10_12 rfl rfl (am_at eX10_coversTree 8 rfl) ?_
    refine AE.getR K gf_X10_43 (sh_T0 (by decide)) rfl (am_at eX10_coversTree 9 rfl) ?_
    refine AE.run K eX10_coversTree 10 1 (show am_run 3 ((tX10_coversTree.drop 10).take 1) 20 [some (.ref (11)), some (.ref (sS i)), some (.int (a2_2))] [.ref (30 + 3)] = some (21, [some (.ref (11)), some (.ref (sS i)), some (.int (a2_2))], [.int (a2_2), .ref (30 + 3)]) from rfl) ?_
    refine AE.iald K (sh_T3 (by decide)) (am_at eX10_coversTree 11 rfl) h (fun h => ?_)
    refine AE.run K eX10_coversTree 12 1 (show am_run 3 ((tX10_coversTree.drop 12).take 1) 22 [some (.ref (11)), some (.ref (sS i)), some (.int (a2_2))] [.int (V_2 (30 + 3) (iN a2_2))] = some (23, [some (.ref (11)), some (.ref (sS i)), some (.int (a2_2))], [.int (-1), .int (V_2 (30 + 3) (iN a2_2))]) from rfl) ?_
    refine rB_of (P := fun (j : am_V → am_R) => ∀ (V_39 : am_V), j V_39 = some r → AE U G 3 1 0 22 r (kc) V_39 39 [some (.ref (11)), some (.ref (sS i)), some (.int (a2_2))] []) h (fun V_39 h => ?_) (fun j39 hj39 h => ?_)
    · refine AE.run K eX10_coversTree 21 2 (show am_run 3 ((tX10_coversTree.drop 21).take 2) 39 [some (.ref (11)), some (.ref (sS i)), some (.int (a2_2))] [] = some (2, [some (.ref (11)), some (.ref (sS i)), some (.int (a2_2 + nI 1))], []) from rfl) ?_
      exact AE.sub (L' := [some (.ref (11)), some (.ref (sS i)), some (.int (a2_2 + nI 1))]) (And.intro rfl (And.intro rfl (And.intro rfl trivial))) (hr (a2_2 + nI 1) V_39 h)
    refine AE.ic K 39 (am_at eX10_coversTree 13 rfl) (by decide) rfl h (fun h => ?_) (fun h => ?_)
    · exact (hj39  V_2 h)
    · refine AE.run K eX10_coversTree 14 1 (show am_run 3 ((tX10_coversTree.drop 14).take 1) 26 [some (.ref (11)), some (.ref (sS i)), some (.int (a2_2))] [] = some (27, [some (.ref (11)), some (.ref (sS i)), some (.int (a2_2))], [.ref (sS i)]) from rfl) ?_
      refine AE.getR K gf_X10_24 (sh_S0 hi) rfl (am_at eX10_coversTree 15 rfl) ?_
      refine AE.run K eX10_coversTree 16 1 (show am_run 3 ((tX10_coversTree.drop 16).take 1) 30 [some (.ref (11)), some (.ref (sS i)), some (.int (a2_2))] [.ref (sS i + 2)] = some (31, [some (.ref (11)), some (.ref (sS i)), some (.int (a2_2))], [.int (a2_2), .ref (sS i + 2)]) from rfl) ?_
      refine AE.cv (f' := 0) (c' := 0) (lo' := 0) (st := []) (As := [.int (a2_2)]) (m := d_X1_covers i a2_2 V_2) K hex (fun q hq => kX1_covers B hfl (i := i) hi hq) cv_X10_130 (sh_S2 hi) (T := TX1) (N := 8) rfl rfl rfl (Nat.le_of_ble_eq_true rfl) ⟨Nat.le_of_ble_eq_true rfl, Nat.le_of_ble_eq_true rfl⟩ (by omega) (am_at eX10_coversTree 17 rfl) h (rI_some h) (bkI (fun y2 V1 h => ?_))
      refine AE.if0 K 39 (am_at eX10_coversTree 18 rfl) (by decide) rfl h (fun h => ?_) (fun h => ?_)
      · exact (hj39  V1 h)
      · refine AE.run K eX10_coversTree 19 1 (show am_run 3 ((tX10_coversTree.drop 19).take 1) 37 [some (.ref (11)), some (.ref (sS i)), some (.int (a2_2))] [] = some (38, [some (.ref (11)), some (.ref (sS i)), some (.int (a2_2))], [.int (nI 0)]) from rfl) ?_
        exact AE.zret K (by omega) (am_at eX10_coversTree 20 rfl) h
theorem lk_X10_coversTree_2 {U : am_U} {l : Launch} (B : am_base xx U) (hfl : l.stackTraces = false) {G : am_G} (K : aK U l G RX10 cX10_coversTree 3 (some .boolean) 1 0 22) (hex : am_nx G) {r : (Option Value ⊕ String) × am_V} {i : Nat} (hi : i < 12) {kc : Nat} (hkc : kc ≤ 0) {kx : Int32 → am_V → am_R} (hx : ∀ (a2_2 : Int32) (Vq : am_V), kx a2_2 Vq = some r → AE U G 3 1 0 22 r kc Vq 45 [none, none, none] []) : ∀ (f9 : Nat) (a2_2 : Int32) (Vq : am_V), lp_X10_coversTree_2 i kx f9 a2_2 Vq = some r → AE U G 3 1 0 22 r kc Vq 2 [some (.ref (11)), some (.ref (sS i)), some (.int (a2_2))] [] := by
  intro f9
  induction f9 with
  | zero =>
    intro a2_2 Vq h
    cases h
  | succ f9 ih =>
    intro a2_2 Vq h
    exact bk_X10_coversTree_2 B hfl K hex hi hkc hx ih a2_2 Vq h
set_option maxRecDepth 100000 in
set_option maxHeartbeats 4000000 in
theorem kX10_coversTree {U : am_U} {l : Launch} (B : am_base xx U) (hfl : l.stackTraces = false) {V : am_V} {i : Nat} (hi : i < 12) {r : (Option Value ⊕ String) × am_V} (h : d_X10_coversTree i V = some r) : am_Ct xx U l yX10_coversTree cX10_coversTree 3 (some .boolean) (rk 1 0 22) [.ref (11), .ref (sS i)] V (am_is r.1 r.2) := by
  refine am_Ct.of B hfl (by decide) (Nat.le_of_ble_eq_true rfl) ?_
  intro G hgl hgR hr ok h0 hex
  have K : aK U l G RX10 cX10_coversTree 3 (some .boolean) 1 0 22 := ⟨hgl, hgR, hr, ok, h0⟩
  unfold d_X10_coversTree at h
  show AE U G 3 1 0 22 r 0 V 0 [some (.ref (11)), some (.ref (sS i)), none] []
  refine AE.run K eX10_coversTree 0 2 (show am_run 3 ((tX10_coversTree.drop 0).take 2) 0 [some (.ref (11)), some (.ref (sS i)), none] [] = some (2, [some (.ref (11)), some (.ref (sS i)), some (.int (nI 0))], []) from rfl) ?_
  refine AE.sub (L' := [some (.ref (11)), some (.ref (sS i)), some (.int (nI 0))]) (And.intro rfl (And.intro rfl (And.intro rfl trivial))) ?_
  refine lk_X10_coversTree_2 B hfl K hex hi (by omega) ?_ 1000 (nI 0) V h
  intro a2_2 V_2x h
  refine AE.run K eX10_coversTree 23 1 (show am_run 3 ((tX10_coversTree.drop 23).take 1) 45 [none, none, none] [] = some (46, [none, none, none], [.int (nI 1)]) from rfl) ?_
  exact AE.zret K (by omega) (am_at eX10_coversTree 24 rfl) h
def d_X10_endIfDue (i : Nat) (V : am_V) : am_R := rI (d_X10_coversTree i V) (fun (y2 : Int32) (V1 : am_V) => rB (fun (V_59 : am_V) => some (.inl none, V_59)) (fun (j59 : am_V → am_R) => (if y2 = 0 then (if (V1 (sS i + 2) 6) < (nI 30) then j59 V1 else rG (am_nb (nI 0)) (rV (am_set V1 (sS i + 2) 2 (nI 0)) (fun (V3 : am_V) => rV (am_set V3 (sS i) 8 ((V3 (sS i) 8) + (nI 1))) (fun (V4 : am_V) => j59 V4)))) else rG (am_nb (nI 0)) (rV (am_set V1 (sS i + 2) 2 (nI 0)) (fun (V5 : am_V) => rV (am_set V5 (sS i) 7 ((V5 (sS i) 7) + (nI 1))) (fun (V6 : am_V) => j59 V6))))))
set_option maxRecDepth 100000 in
set_option maxHeartbeats 4000000 in
theorem kX10_endIfDue {U : am_U} {l : Launch} (B : am_base xx U) (hfl : l.stackTraces = false) {V : am_V} {i : Nat} (hi : i < 12) {r : (Option Value ⊕ String) × am_V} (h : d_X10_endIfDue i V = some r) : am_Ct xx U l yX10_endIfDue cX10_endIfDue 2 none (rk 2 0 44) [.ref (11), .ref (sS i)] V (am_is r.1 r.2) := by
  refine am_Ct.of B hfl (by decide) (Nat.le_of_ble_eq_true rfl) ?_
  intro G hgl hgR hr ok h0 hex
  have K : aK U l G RX10 cX10_endIfDue 2 none 2 0 44 := ⟨hgl, hgR, hr, ok, h0⟩
  unfold d_X10_endIfDue at h
  show AE U G 2 2 0 44 r 0 V 0 [some (.ref (11)), some (.ref (sS i))] []
  refine AE.run K eX10_endIfDue 0 2 (show am_run 2 ((tX10_endIfDue.drop 0).take 2) 0 [some (.ref (11)), some (.ref (sS i))] [] = some (2, [some (.ref (11)), some (.ref (sS i))], [.ref (sS i), .ref (11)]) from rfl) ?_
  refine AE.cv (f' := 1) (c' := 0) (lo' := 22) (st := []) (As := [.ref (sS i)]) (m := d_X10_coversTree i V) K hex (fun q hq => kX10_coversTree B hfl (i := i) hi hq) cv_X10_117 rfl (T := TX10) (N := 1) rfl rfl rfl (Nat.le_of_ble_eq_true rfl) ⟨Nat.le_of_ble_eq_true rfl, Nat.le_of_ble_eq_true rfl⟩ (by omega) (am_at eX10_endIfDue 2 rfl) h (rI_some h) (bkI (fun y2 V1 h => ?_))
  refine rB_of (P := fun (j : am_V → am_R) => ∀ (V_59 : am_V), j V_59 = some r → AE U G 2 2 0 44 r 0 V_59 59 [none, none] []) h (fun V_59 h => ?_) (fun j59 hj59 h => ?_)
  · exact AE.vret K (by omega) (am_at eX10_endIfDue 30 rfl) h
  refine AE.if0 K 29 (am_at eX10_endIfDue 3 rfl) (by decide) rfl h (fun h => ?_) (fun h => ?_)
  · refine AE.run K eX10_endIfDue 15 1 (show am_run 2 ((tX10_endIfDue.drop 15).take 1) 29 [some (.ref (11)), some (.ref (sS i))] [] = some (30, [some (.ref (11)), some (.ref (sS i))], [.ref (sS i)]) from rfl) ?_
    refine AE.getR K gf_X10_24 (sh_S0 hi) rfl (am_at eX10_endIfDue 16 rfl) ?_
    refine AE.getI K gf_X10_62 (sh_S2 hi) rfl (am_at eX10_endIfDue 17 rfl) ?_
    refine AE.run K eX10_endIfDue 18 1 (show am_run 2 ((tX10_endIfDue.drop 18).take 1) 36 [some (.ref (11)), some (.ref (sS i))] [.int (V1 (sS i + 2) 6)] = some (38, [some (.ref (11)), some (.ref (sS i))], [.int (nI 30), .int (V1 (sS i + 2) 6)]) from rfl) ?_
    refine AE.ic K 59 (am_at eX10_endIfDue 19 rfl) (by decide) rfl h (fun h => ?_) (fun h => ?_)
    · exact AE.sub (L' := [none, none]) trivial (hj59  V1 h)
    · refine AE.run K eX10_endIfDue 20 1 (show am_run 2 ((tX10_endIfDue.drop 20).take 1) 41 [some (.ref (11)), some (.ref (sS i))] [] = some (42, [some (.ref (11)), some (.ref (sS i))], [.ref (sS i)]) from rfl) ?_
      refine AE.getR K gf_X10_24 (sh_S0 hi) rfl (am_at eX10_endIfDue 21 rfl) ?_
      refine AE.run K eX10_endIfDue 22 1 (show am_run 2 ((tX10_endIfDue.drop 22).take 1) 45 [some (.ref (11)), some (.ref (sS i))] [.ref (sS i + 2)] = some (46, [some (.ref (11)), some (.ref (sS i))], [.int (nI 0), .ref (sS i + 2)]) from rfl) ?_
      refine AE.putZ K pf_X10_121 (sh_S2 hi) (wr_S (i := i) (k := 2) hi (by decide)) rfl (am_at eX10_endIfDue 23 rfl) h (fun V3 h => ?_)
      refine AE.run K eX10_endIfDue 24 2 (show am_run 2 ((tX10_endIfDue.drop 24).take 2) 49 [some (.ref (11)), some (.ref (sS i))] [] = some (51, [some (.ref (11)), some (.ref (sS i))], [.ref (sS i), .ref (sS i)]) from rfl) ?_
      refine AE.getI K gf_X10_127 (sh_S0 hi) rfl (am_at eX10_endIfDue 26 rfl) ?_
      refine AE.run K eX10_endIfDue 27 2 (show am_run 2 ((tX10_endIfDue.drop 27).take 2) 54 [some (.ref (11)), some (.ref (sS i))] [.int (V3 (sS i) 8), .ref (sS i)] = some (56, [some (.ref (11)), some (.ref (sS i))], [.int ((V3 (sS i) 8) + (nI 1)), .ref (sS i)]) from rfl) ?_
      refine AE.putI K pf_X10_127 (sh_S0 hi) (wr_S (i := i) (k := 0) hi (by decide)) rfl (am_at eX10_endIfDue 29 rfl) h (fun V4 h => ?_)
      exact AE.sub (L' := [none, none]) trivial (hj59  V4 h)
  · refine AE.run K eX10_endIfDue 4 1 (show am_run 2 ((tX10_endIfDue.drop 4).take 1) 8 [some (.ref (11)), some (.ref (sS i))] [] = some (9, [some (.ref (11)), some (.ref (sS i))], [.ref (sS i)]) from rfl) ?_
    refine AE.getR K gf_X10_24 (sh_S0 hi) rfl (am_at eX10_endIfDue 5 rfl) ?_
    refine AE.run K eX10_endIfDue 6 1 (show am_run 2 ((tX10_endIfDue.drop 6).take 1) 12 [some (.ref (11)), some (.ref (sS i))] [.ref (sS i + 2)] = some (13, [some (.ref (11)), some (.ref (sS i))], [.int (nI 0), .ref (sS i + 2)]) from rfl) ?_
    refine AE.putZ K pf_X10_121 (sh_S2 hi) (wr_S (i := i) (k := 2) hi (by decide)) rfl (am_at eX10_endIfDue 7 rfl) h (fun V5 h => ?_)
    refine AE.run K eX10_endIfDue 8 2 (show am_run 2 ((tX10_endIfDue.drop 8).take 2) 16 [some (.ref (11)), some (.ref (sS i))] [] = some (18, [some (.ref (11)), some (.ref (sS i))], [.ref (sS i), .ref (sS i)]) from rfl) ?_
    refine AE.getI K gf_X10_124 (sh_S0 hi) rfl (am_at eX10_endIfDue 10 rfl) ?_
    refine AE.run K eX10_endIfDue 11 2 (show am_run 2 ((tX10_endIfDue.drop 11).take 2) 21 [some (.ref (11)), some (.ref (sS i))] [.int (V5 (sS i) 7), .ref (sS i)] = some (23, [some (.ref (11)), some (.ref (sS i))], [.int ((V5 (sS i) 7) + (nI 1)), .ref (sS i)]) from rfl) ?_
    refine AE.putI K pf_X10_124 (sh_S0 hi) (wr_S (i := i) (k := 0) hi (by decide)) rfl (am_at eX10_endIfDue 13 rfl) h (fun V6 h => ?_)
    refine AE.run K eX10_endIfDue 14 1 (show am_run 2 ((tX10_endIfDue.drop 14).take 1) 26 [some (.ref (11)), some (.ref (sS i))] [] = some (59, [some (.ref (11)), some (.ref (sS i))], []) from rfl) ?_
    exact AE.sub (L' := [none, none]) trivial (hj59  V6 h)
def bd_X10_blowOnce_36 (i : Nat) (a3_22 : Int32) (kx kr : Int32 → Int32 → am_V → am_R) (a2_36 : Int32) (a4_36 : Int32) (V_36 : am_V) : am_R := (if (V_36 (sS i + 1) 6) ≤ a4_36 then kx a2_36 a4_36 V_36 else rG (am_in a4_36 9) (rB (fun (b2_86 : Int32) (V_86 : am_V) => kr b2_86 (a4_36 + nI 1) V_86) (fun (j86 : Int32 → am_V → am_R) => (if ¬ (V_36 (30 + 3) (iN a4_36)) = a3_22 then j86 a2_36 V_36 else rG (am_in a4_36 9) ((if (V_36 (30 + 1) (iN a4_36)) = (-1) then j86 a2_36 V_36 else rI (d_X10_sendDown i a4_36 V_36) (fun (y3 : Int32) (V2 : am_V) => j86 (a2_36 + y3) V2)))))))
def lp_X10_blowOnce_36 (i : Nat) (a3_22 : Int32) (kx : Int32 → Int32 → am_V → am_R) : Nat → Int32 → Int32 → am_V → am_R
  | 0, _, _, _ => none
  | f9 + 1, a2_36, a4_36, V_36 => bd_X10_blowOnce_36 i a3_22 kx (lp_X10_blowOnce_36 i a3_22 kx f9) a2_36 a4_36 V_36
def bd_X10_blowOnce_22 (i : Nat) (kx kr : Int32 → Int32 → am_V → am_R) (a2_22 : Int32) (a3_22 : Int32) (V_22 : am_V) : am_R := (if (V_22 (sS i + 1) 6) ≤ a3_22 then kx a2_22 a3_22 V_22 else lp_X10_blowOnce_36 i a3_22 (fun (a2_36 : Int32) (a4_36 : Int32) (V_36x : am_V) => kr a2_36 (a3_22 + nI 1) V_36x) 1000 a2_22 (nI 0) V_22)
def lp_X10_blowOnce_22 (i : Nat) (kx : Int32 → Int32 → am_V → am_R) : Nat → Int32 → Int32 → am_V → am_R
  | 0, _, _, _ => none
  | f9 + 1, a2_22, a3_22, V_22 => bd_X10_blowOnce_22 i kx (lp_X10_blowOnce_22 i kx f9) a2_22 a3_22 V_22
def d_X10_blowOnce (i : Nat) (V : am_V) : am_R := rU (d_X7_grow 30 i (V (sS i + 2) 3) V) (fun (V1 : am_V) => lp_X10_blowOnce_22 i (fun (a2_22 : Int32) (a3_22 : Int32) (V_22x : am_V) => rB (fun (V_113 : am_V) => rV (am_set V_113 (sS i + 2) 6 ((V_113 (sS i + 2) 6) + (nI 1))) (fun (V5 : am_V) => rU (d_X10_endIfDue i V5) (fun (V6 : am_V) => some (.inl (some (.int (a2_22))), V6)))) (fun (j113 : am_V → am_R) => (if (V_22x (sS i + 2) 5) = 0 then j113 V_22x else rU (d_X10_rebuildMissing i V_22x) (fun (V4 : am_V) => j113 V4)))) 1000 (nI 0) (nI 1) V1)
set_option maxRecDepth 100000 in
set_option maxHeartbeats 4000000 in
theorem bk_X10_blowOnce_36 {U : am_U} {l : Launch} (B : am_base xx U) (hfl : l.stackTraces = false) {G : am_G} (K : aK U l G RX10 cX10_blowOnce 5 (some .int) 3 0 84) (hex : am_nx G) {r : (Option Value ⊕ String) × am_V} {i : Nat} {a3_22 : Int32} (hi : i < 12) {kc : Nat} (hkc : kc ≤ 0) {kx kr : Int32 → Int32 → am_V → am_R} (hx : ∀ (a2_36 : Int32) (a4_36 : Int32) (Vq : am_V), kx a2_36 a4_36 Vq = some r → AE U G 5 3 0 84 r kc Vq 92 [some (.ref (11)), some (.ref (sS i)), some (.int (a2_36)), some (.int (a3_22)), none] []) (hr : ∀ (a2_36 : Int32) (a4_36 : Int32) (Vq : am_V), kr a2_36 a4_36 Vq = some r → AE U G 5 3 0 84 r kc Vq 36 [some (.ref (11)), some (.ref (sS i)), some (.int (a2_36)), some (.int (a3_22)), some (.int (a4_36))] []) (a2_36 : Int32) (a4_36 : Int32) (V_36 : am_V) (h : bd_X10_blowOnce_36 i a3_22 kx kr a2_36 a4_36 V_36 = some r) : AE U G 5 3 0 84 r kc V_36 36 [some (.ref (11)), some (.ref (sS i)), some (.int (a2_36)), some (.int (a3_22)), some (.int (a4_36))] [] := by
  unfold bd_X10_blowOnce_36 at h
  refine AE.run K eX10_blowOnce 19 2 (show am_run 5 ((tX10_blowOnce.drop 19).take 2) 36 [some (.ref (11)), some (.ref (sS i)), some (.int (a2_36)), some (.int (a3_22)), some (.int (a4_36))] [] = some (39, [some (.ref (11)), some (.ref (sS i)), some (.int (a2_36)), some (.int (a3_22)), some (.int (a4_36))], [.ref (sS i), .int (a4_36)]) from rfl) ?_
  refine AE.getR K gf_X10_18 (sh_S0 hi) rfl (am_at eX10_blowOnce 21 rfl) ?_
  refine AE.getI K gf_X10_38 (sh_S1 hi) rfl (am_at eX10_blowOnce 22 rfl) ?_
  refine AE.ic K 92 (am_at eX10_blowOnce 23 rfl) (by decide) rfl h (fun h => ?_) (fun h => ?_)
  · exact AE.sub (L' := [some (.ref (11)), some (.ref (sS i)), some (.int (a2_36)), some (.int (a3_22)), none]) (And.intro rfl (And.intro rfl (And.intro rfl (And.intro rfl trivial)))) (hx a2_36 a4_36 V_36 h)
  · refine AE.run K eX10_blowOnce 24 1 (show am_run 5 ((tX10_blowOnce.drop 24).take 1) 48 [some (.ref (11)), some (.ref (sS i)), some (.int (a2_36)), some (.int (a3_22)), some (.int (a4_36))] [] = some (49, [some (.ref (11)), some (.ref (sS i)), some (.int (a2_36)), some (.int (a3_22)), some (.int (a4_36))], [.ref (11)]) from rfl) ?_
    refine AE.getR K gf_X10_12 rfl rfl (am_at eX10_blowOnce 25 rfl) ?_
    refine AE.getR K gf_X10_43 (sh_T0 (by decide)) rfl (am_at eX10_blowOnce 26 rfl) ?_
    refine AE.run K eX10_blowOnce 27 1 (show am_run 5 ((tX10_blowOnce.drop 27).take 1) 55 [some (.ref (11)), some (.ref (sS i)), some (.int (a2_36)), some (.int (a3_22)), some (.int (a4_36))] [.ref (30 + 3)] = some (57, [some (.ref (11)), some (.ref (sS i)), some (.int (a2_36)), some (.int (a3_22)), some (.int (a4_36))], [.int (a4_36), .ref (30 + 3)]) from rfl) ?_
    refine AE.iald K (sh_T3 (by decide)) (am_at eX10_blowOnce 28 rfl) h (fun h => ?_)
    refine AE.run K eX10_blowOnce 29 1 (show am_run 5 ((tX10_blowOnce.drop 29).take 1) 58 [some (.ref (11)), some (.ref (sS i)), some (.int (a2_36)), some (.int (a3_22)), some (.int (a4_36))] [.int (V_36 (30 + 3) (iN a4_36))] = some (59, [some (.ref (11)), some (.ref (sS i)), some (.int (a2_36)), some (.int (a3_22)), some (.int (a4_36))], [.int (a3_22), .int (V_36 (30 + 3) (iN a4_36))]) from rfl) ?_
    refine rB_of (P := fun (j : Int32 → am_V → am_R) => ∀ (b2_86 : Int32) (V_86 : am_V), j b2_86 V_86 = some r → AE U G 5 3 0 84 r (kc) V_86 86 [some (.ref (11)), some (.ref (sS i)), some (.int (b2_86)), some (.int (a3_22)), some (.int (a4_36))] []) h (fun b2_86 V_86 h => ?_) (fun j86 hj86 h => ?_)
    · refine AE.run K eX10_blowOnce 45 2 (show am_run 5 ((tX10_blowOnce.drop 45).take 2) 86 [some (.ref (11)), some (.ref (sS i)), some (.int (b2_86)), some (.int (a3_22)), some (.int (a4_36))] [] = some (36, [some (.ref (11)), some (.ref (sS i)), some (.int (b2_86)), some (.int (a3_22)), some (.int (a4_36 + nI 1))], []) from rfl) ?_
      exact AE.sub (L' := [some (.ref (11)), some (.ref (sS i)), some (.int (b2_86)), some (.int (a3_22)), some (.int (a4_36 + nI 1))]) (And.intro rfl (And.intro rfl (And.intro rfl (And.intro rfl (And.intro rfl trivial))))) (hr b2_86 (a4_36 + nI 1) V_86 h)
    refine AE.ic K 86 (am_at eX10_blowOnce 30 rfl) (by decide) rfl h (fun h => ?_) (fun h => ?_)
    · exact AE.sub (L' := [some (.ref (11)), some (.ref (sS i)), some (.int (a2_36)), some (.int (a3_22)), some (.int (a4_36))]) (And.intro rfl (And.intro rfl (And.intro rfl (And.intro rfl (And.intro rfl trivial))))) (hj86 a2_36 V_36 h)
    · refine AE.run K eX10_blowOnce 31 1 (show am_run 5 ((tX10_blowOnce.drop 31).take 1) 62 [some (.ref (11)), some (.ref (sS i)), some (.int (a2_36)), some (.int (a3_22)), some (.int (a4_36))] [] = some (63, [some (.ref (11)), some (.ref (sS i)), some (.int (a2_36)), some (.int (a3_22)), some (.int (a4_36))], [.ref (11)]) from rfl) ?_
      refine AE.getR K gf_X10_12 rfl rfl (am_at eX10_blowOnce 32 rfl) ?_
      refine AE.getR K gf_X10_47 (sh_T0 (by decide)) rfl (am_at eX10_blowOnce 33 rfl) ?_
      refine AE.run K eX10_blowOnce 34 1 (show am_run 5 ((tX10_blowOnce.drop 34).take 1) 69 [some (.ref (11)), some (.ref (sS i)), some (.int (a2_36)), some (.int (a3_22)), some (.int (a4_36))] [.ref (30 + 1)] = some (71, [some (.ref (11)), some (.ref (sS i)), some (.int (a2_36)), some (.int (a3_22)), some (.int (a4_36))], [.int (a4_36), .ref (30 + 1)]) from rfl) ?_
      refine AE.iald K (sh_T1 (by decide)) (am_at eX10_blowOnce 35 rfl) h (fun h => ?_)
      refine AE.run K eX10_blowOnce 36 1 (show am_run 5 ((tX10_blowOnce.drop 36).take 1) 72 [some (.ref (11)), some (.ref (sS i)), some (.int (a2_36)), some (.int (a3_22)), some (.int (a4_36))] [.int (V_36 (30 + 1) (iN a4_36))] = some (73, [some (.ref (11)), some (.ref (sS i)), some (.int (a2_36)), some (.int (a3_22)), some (.int (a4_36))], [.int (-1), .int (V_36 (30 + 1) (iN a4_36))]) from rfl) ?_
      refine AE.ic K 86 (am_at eX10_blowOnce 37 rfl) (by decide) rfl h (fun h => ?_) (fun h => ?_)
      · exact AE.sub (L' := [some (.ref (11)), some (.ref (sS i)), some (.int (a2_36)), some (.int (a3_22)), some (.int (a4_36))]) (And.intro rfl (And.intro rfl (And.intro rfl (And.intro rfl (And.intro rfl trivial))))) (hj86 a2_36 V_36 h)
      · refine AE.run K eX10_blowOnce 38 4 (show am_run 5 ((tX10_blowOnce.drop 38).take 4) 76 [some (.ref (11)), some (.ref (sS i)), some (.int (a2_36)), some (.int (a3_22)), some (.int (a4_36))] [] = some (81, [some (.ref (11)), some (.ref (sS i)), some (.int (a2_36)), some (.int (a3_22)), some (.int (a4_36))], [.int (a4_36), .ref (sS i), .ref (11), .int (a2_36)]) from rfl) ?_
        refine AE.cv (f' := 2) (c' := 0) (lo' := 45) (st := [.int (a2_36)]) (As := [.ref (sS i), .int (a4_36)]) (m := d_X10_sendDown i a4_36 V_36) K hex (fun q hq => kX10_sendDown B hfl (i := i) hi hq) cv_X10_50 rfl (T := TX10) (N := 1) rfl rfl rfl (Nat.le_of_ble_eq_true rfl) ⟨Nat.le_of_ble_eq_true rfl, Nat.le_of_ble_eq_true rfl⟩ (by omega) (am_at eX10_blowOnce 42 rfl) h (rI_some h) (bkI (fun y3 V2 h => ?_))
        refine AE.run K eX10_blowOnce 43 2 (show am_run 5 ((tX10_blowOnce.drop 43).take 2) 84 [some (.ref (11)), some (.ref (sS i)), some (.int (a2_36)), some (.int (a3_22)), some (.int (a4_36))] [.int (y3), .int (a2_36)] = some (86, [some (.ref (11)), some (.ref (sS i)), some (.int (a2_36 + y3)), some (.int (a3_22)), some (.int (a4_36))], []) from rfl) ?_
        exact AE.sub (L' := [some (.ref (11)), some (.ref (sS i)), some (.int (a2_36 + y3)), some (.int (a3_22)), some (.int (a4_36))]) (And.intro rfl (And.intro rfl (And.intro rfl (And.intro rfl (And.intro rfl trivial))))) (hj86 (a2_36 + y3) V2 h)
theorem lk_X10_blowOnce_36 {U : am_U} {l : Launch} (B : am_base xx U) (hfl : l.stackTraces = false) {G : am_G} (K : aK U l G RX10 cX10_blowOnce 5 (some .int) 3 0 84) (hex : am_nx G) {r : (Option Value ⊕ String) × am_V} {i : Nat} {a3_22 : Int32} (hi : i < 12) {kc : Nat} (hkc : kc ≤ 0) {kx : Int32 → Int32 → am_V → am_R} (hx : ∀ (a2_36 : Int32) (a4_36 : Int32) (Vq : am_V), kx a2_36 a4_36 Vq = some r → AE U G 5 3 0 84 r kc Vq 92 [some (.ref (11)), some (.ref (sS i)), some (.int (a2_36)), some (.int (a3_22)), none] []) : ∀ (f9 : Nat) (a2_36 : Int32) (a4_36 : Int32) (Vq : am_V), lp_X10_blowOnce_36 i a3_22 kx f9 a2_36 a4_36 Vq = some r → AE U G 5 3 0 84 r kc Vq 36 [some (.ref (11)), some (.ref (sS i)), some (.int (a2_36)), some (.int (a3_22)), some (.int (a4_36))] [] := by
  intro f9
  induction f9 with
  | zero =>
    intro a2_36 a4_36 Vq h
    cases h
  | succ f9 ih =>
    intro a2_36 a4_36 Vq h
    exact bk_X10_blowOnce_36 B hfl K hex hi hkc hx ih a2_36 a4_36 Vq h
set_option maxRecDepth 100000 in
set_option maxHeartbeats 4000000 in
theorem bk_X10_blowOnce_22 {U : am_U} {l : Launch} (B : am_base xx U) (hfl : l.stackTraces = false) {G : am_G} (K : aK U l G RX10 cX10_blowOnce 5 (some .int) 3 0 84) (hex : am_nx G) {r : (Option Value ⊕ String) × am_V} {i : Nat} (hi : i < 12) {kc : Nat} (hkc : kc ≤ 0) {kx kr : Int32 → Int32 → am_V → am_R} (hx : ∀ (a2_22 : Int32) (a3_22 : Int32) (Vq : am_V), kx a2_22 a3_22 Vq = some r → AE U G 5 3 0 84 r kc Vq 98 [some (.ref (11)), some (.ref (sS i)), some (.int (a2_22)), none, none] []) (hr : ∀ (a2_22 : Int32) (a3_22 : Int32) (Vq : am_V), kr a2_22 a3_22 Vq = some r → AE U G 5 3 0 84 r kc Vq 22 [some (.ref (11)), some (.ref (sS i)), some (.int (a2_22)), some (.int (a3_22)), none] []) (a2_22 : Int32) (a3_22 : Int32) (V_22 : am_V) (h : bd_X10_blowOnce_22 i kx kr a2_22 a3_22 V_22 = some r) : AE U G 5 3 0 84 r kc V_22 22 [some (.ref (11)), some (.ref (sS i)), some (.int (a2_22)), some (.int (a3_22)), none] [] := by
  unfold bd_X10_blowOnce_22 at h
  refine AE.run K eX10_blowOnce 12 2 (show am_run 5 ((tX10_blowOnce.drop 12).take 2) 22 [some (.ref (11)), some (.ref (sS i)), some (.int (a2_22)), some (.int (a3_22)), none] [] = some (24, [some (.ref (11)), some (.ref (sS i)), some (.int (a2_22)), some (.int (a3_22)), none], [.ref (sS i), .int (a3_22)]) from rfl) ?_
  refine AE.getR K gf_X10_18 (sh_S0 hi) rfl (am_at eX10_blowOnce 14 rfl) ?_
  refine AE.getI K gf_X10_38 (sh_S1 hi) rfl (am_at eX10_blowOnce 15 rfl) ?_
  refine AE.ic K 98 (am_at eX10_blowOnce 16 rfl) (by decide) rfl h (fun h => ?_) (fun h => ?_)
  · exact AE.sub (L' := [some (.ref (11)), some (.ref (sS i)), some (.int (a2_22)), none, none]) (And.intro rfl (And.intro rfl (And.intro rfl trivial))) (hx a2_22 a3_22 V_22 h)
  · refine AE.run K eX10_blowOnce 17 2 (show am_run 5 ((tX10_blowOnce.drop 17).take 2) 33 [some (.ref (11)), some (.ref (sS i)), some (.int (a2_22)), some (.int (a3_22)), none] [] = some (36, [some (.ref (11)), some (.ref (sS i)), some (.int (a2_22)), some (.int (a3_22)), some (.int (nI 0))], []) from rfl) ?_
    refine AE.sub (L' := [some (.ref (11)), some (.ref (sS i)), some (.int (a2_22)), some (.int (a3_22)), some (.int (nI 0))]) (And.intro rfl (And.intro rfl (And.intro rfl (And.intro rfl (And.intro rfl trivial))))) ?_
    refine lk_X10_blowOnce_36 B hfl K hex hi (by omega) ?_ 1000 a2_22 (nI 0) V_22 h
    intro a2_36 a4_36 V_36x h
    refine AE.run K eX10_blowOnce 47 2 (show am_run 5 ((tX10_blowOnce.drop 47).take 2) 92 [some (.ref (11)), some (.ref (sS i)), some (.int (a2_36)), some (.int (a3_22)), none] [] = some (22, [some (.ref (11)), some (.ref (sS i)), some (.int (a2_36)), some (.int (a3_22 + nI 1)), none], []) from rfl) ?_
    exact AE.sub (L' := [some (.ref (11)), some (.ref (sS i)), some (.int (a2_36)), some (.int (a3_22 + nI 1)), none]) (And.intro rfl (And.intro rfl (And.intro rfl (And.intro rfl trivial)))) (hr a2_36 (a3_22 + nI 1) V_36x h)
theorem lk_X10_blowOnce_22 {U : am_U} {l : Launch} (B : am_base xx U) (hfl : l.stackTraces = false) {G : am_G} (K : aK U l G RX10 cX10_blowOnce 5 (some .int) 3 0 84) (hex : am_nx G) {r : (Option Value ⊕ String) × am_V} {i : Nat} (hi : i < 12) {kc : Nat} (hkc : kc ≤ 0) {kx : Int32 → Int32 → am_V → am_R} (hx : ∀ (a2_22 : Int32) (a3_22 : Int32) (Vq : am_V), kx a2_22 a3_22 Vq = some r → AE U G 5 3 0 84 r kc Vq 98 [some (.ref (11)), some (.ref (sS i)), some (.int (a2_22)), none, none] []) : ∀ (f9 : Nat) (a2_22 : Int32) (a3_22 : Int32) (Vq : am_V), lp_X10_blowOnce_22 i kx f9 a2_22 a3_22 Vq = some r → AE U G 5 3 0 84 r kc Vq 22 [some (.ref (11)), some (.ref (sS i)), some (.int (a2_22)), some (.int (a3_22)), none] [] := by
  intro f9
  induction f9 with
  | zero =>
    intro a2_22 a3_22 Vq h
    cases h
  | succ f9 ih =>
    intro a2_22 a3_22 Vq h
    exact bk_X10_blowOnce_22 B hfl K hex hi hkc hx ih a2_22 a3_22 Vq h
set_option maxRecDepth 100000 in
set_option maxHeartbeats 4000000 in
theorem kX10_blowOnce {U : am_U} {l : Launch} (B : am_base xx U) (hfl : l.stackTraces = false) {V : am_V} {i : Nat} (hi : i < 12) {r : (Option Value ⊕ String) × am_V} (h : d_X10_blowOnce i V = some r) : am_Ct xx U l yX10_blowOnce cX10_blowOnce 5 (some .int) (rk 3 0 84) [.ref (11), .ref (sS i)] V (am_is r.1 r.2) := by
  refine am_Ct.of B hfl (by decide) (Nat.le_of_ble_eq_true rfl) ?_
  intro G hgl hgR hr ok h0 hex
  have K : aK U l G RX10 cX10_blowOnce 5 (some .int) 3 0 84 := ⟨hgl, hgR, hr, ok, h0⟩
  unfold d_X10_blowOnce at h
  show AE U G 5 3 0 84 r 0 V 0 [some (.ref (11)), some (.ref (sS i)), none, none, none] []
  refine AE.run K eX10_blowOnce 0 1 (show am_run 5 ((tX10_blowOnce.drop 0).take 1) 0 [some (.ref (11)), some (.ref (sS i)), none, none, none] [] = some (1, [some (.ref (11)), some (.ref (sS i)), none, none, none], [.ref (11)]) from rfl) ?_
  refine AE.getR K gf_X10_12 rfl rfl (am_at eX10_blowOnce 1 rfl) ?_
  refine AE.run K eX10_blowOnce 2 1 (show am_run 5 ((tX10_blowOnce.drop 2).take 1) 4 [some (.ref (11)), some (.ref (sS i)), none, none, none] [.ref (30)] = some (5, [some (.ref (11)), some (.ref (sS i)), none, none, none], [.ref (sS i), .ref (30)]) from rfl) ?_
  refine AE.getR K gf_X10_18 (sh_S0 hi) rfl (am_at eX10_blowOnce 3 rfl) ?_
  refine AE.run K eX10_blowOnce 4 1 (show am_run 5 ((tX10_blowOnce.drop 4).take 1) 8 [some (.ref (11)), some (.ref (sS i)), none, none, none] [.ref (sS i + 1), .ref (30)] = some (9, [some (.ref (11)), some (.ref (sS i)), none, none, none], [.ref (sS i), .ref (sS i + 1), .ref (30)]) from rfl) ?_
  refine AE.getR K gf_X10_24 (sh_S0 hi) rfl (am_at eX10_blowOnce 5 rfl) ?_
  refine AE.getI K gf_X10_28 (sh_S2 hi) rfl (am_at eX10_blowOnce 6 rfl) ?_
  refine AE.cv (f' := 2) (c' := 0) (lo' := 47) (st := []) (As := [.ref (sS i + 1), .int (V (sS i + 2) 3)]) (m := d_X7_grow 30 i (V (sS i + 2) 3) V) K hex (fun q hq => kX7_grow B hfl (t := 30) (i := i) (by decide) hi hq) cv_X10_34 (sh_T0 (by decide)) (T := TX7) (N := 5) rfl rfl rfl (Nat.le_of_ble_eq_true rfl) ⟨Nat.le_of_ble_eq_true rfl, Nat.le_of_ble_eq_true rfl⟩ (by omega) (am_at eX10_blowOnce 7 rfl) h (rU_some h) (bkU (fun V1 h => ?_))
  refine AE.run K eX10_blowOnce 8 4 (show am_run 5 ((tX10_blowOnce.drop 8).take 4) 18 [some (.ref (11)), some (.ref (sS i)), none, none, none] [] = some (22, [some (.ref (11)), some (.ref (sS i)), some (.int (nI 0)), some (.int (nI 1)), none], []) from rfl) ?_
  refine AE.sub (L' := [some (.ref (11)), some (.ref (sS i)), some (.int (nI 0)), some (.int (nI 1)), none]) (And.intro rfl (And.intro rfl (And.intro rfl (And.intro rfl trivial)))) ?_
  refine lk_X10_blowOnce_22 B hfl K hex hi (by omega) ?_ 1000 (nI 0) (nI 1) V1 h
  intro a2_22 a3_22 V_22x h
  refine AE.run K eX10_blowOnce 49 1 (show am_run 5 ((tX10_blowOnce.drop 49).take 1) 98 [some (.ref (11)), some (.ref (sS i)), some (.int (a2_22)), none, none] [] = some (99, [some (.ref (11)), some (.ref (sS i)), some (.int (a2_22)), none, none], [.ref (sS i)]) from rfl) ?_
  refine AE.getR K gf_X10_24 (sh_S0 hi) rfl (am_at eX10_blowOnce 50 rfl) ?_
  refine AE.getI K gf_X10_54 (sh_S2 hi) rfl (am_at eX10_blowOnce 51 rfl) ?_
  refine rB_of (P := fun (j : am_V → am_R) => ∀ (V_113 : am_V), j V_113 = some r → AE U G 5 3 0 84 r 0 V_113 113 [some (.ref (11)), some (.ref (sS i)), some (.int (a2_22)), none, none] []) h (fun V_113 h => ?_) (fun j113 hj113 h => ?_)
  · refine AE.run K eX10_blowOnce 56 1 (show am_run 5 ((tX10_blowOnce.drop 56).take 1) 113 [some (.ref (11)), some (.ref (sS i)), some (.int (a2_22)), none, none] [] = some (114, [some (.ref (11)), some (.ref (sS i)), some (.int (a2_22)), none, none], [.ref (sS i)]) from rfl) ?_
    refine AE.getR K gf_X10_24 (sh_S0 hi) rfl (am_at eX10_blowOnce 57 rfl) ?_
    refine AE.run K eX10_blowOnce 58 1 (show am_run 5 ((tX10_blowOnce.drop 58).take 1) 117 [some (.ref (11)), some (.ref (sS i)), some (.int (a2_22)), none, none] [.ref (sS i + 2)] = some (118, [some (.ref (11)), some (.ref (sS i)), some (.int (a2_22)), none, none], [.ref (sS i + 2), .ref (sS i + 2)]) from rfl) ?_
    refine AE.getI K gf_X10_62 (sh_S2 hi) rfl (am_at eX10_blowOnce 59 rfl) ?_
    refine AE.run K eX10_blowOnce 60 2 (show am_run 5 ((tX10_blowOnce.drop 60).take 2) 121 [some (.ref (11)), some (.ref (sS i)), some (.int (a2_22)), none, none] [.int (V_113 (sS i + 2) 6), .ref (sS i + 2)] = some (123, [some (.ref (11)), some (.ref (sS i)), some (.int (a2_22)), none, none], [.int ((V_113 (sS i + 2) 6) + (nI 1)), .ref (sS i + 2)]) from rfl) ?_
    refine AE.putI K pf_X10_62 (sh_S2 hi) (wr_S (i := i) (k := 2) hi (by decide)) rfl (am_at eX10_blowOnce 62 rfl) h (fun V5 h => ?_)
    refine AE.run K eX10_blowOnce 63 2 (show am_run 5 ((tX10_blowOnce.drop 63).take 2) 126 [some (.ref (11)), some (.ref (sS i)), some (.int (a2_22)), none, none] [] = some (128, [some (.ref (11)), some (.ref (sS i)), some (.int (a2_22)), none, none], [.ref (sS i), .ref (11)]) from rfl) ?_
    refine AE.cv (f' := 2) (c' := 0) (lo' := 44) (st := []) (As := [.ref (sS i)]) (m := d_X10_endIfDue i V5) K hex (fun q hq => kX10_endIfDue B hfl (i := i) hi hq) cv_X10_65 rfl (T := TX10) (N := 1) rfl rfl rfl (Nat.le_of_ble_eq_true rfl) ⟨Nat.le_of_ble_eq_true rfl, Nat.le_of_ble_eq_true rfl⟩ (by omega) (am_at eX10_blowOnce 65 rfl) h (rU_some h) (bkU (fun V6 h => ?_))
    refine AE.run K eX10_blowOnce 66 1 (show am_run 5 ((tX10_blowOnce.drop 66).take 1) 131 [some (.ref (11)), some (.ref (sS i)), some (.int (a2_22)), none, none] [] = some (132, [some (.ref (11)), some (.ref (sS i)), some (.int (a2_22)), none, none], [.int (a2_22)]) from rfl) ?_
    exact AE.iret K (by omega) (am_at eX10_blowOnce 67 rfl) h
  refine AE.if0 K 113 (am_at eX10_blowOnce 52 rfl) (by decide) rfl h (fun h => ?_) (fun h => ?_)
  · exact (hj113  V_22x h)
  · refine AE.run K eX10_blowOnce 53 2 (show am_run 5 ((tX10_blowOnce.drop 53).take 2) 108 [some (.ref (11)), some (.ref (sS i)), some (.int (a2_22)), none, none] [] = some (110, [some (.ref (11)), some (.ref (sS i)), some (.int (a2_22)), none, none], [.ref (sS i), .ref (11)]) from rfl) ?_
    refine AE.cv (f' := 2) (c' := 0) (lo' := 60) (st := []) (As := [.ref (sS i)]) (m := d_X10_rebuildMissing i V_22x) K hex (fun q hq => kX10_rebuildMissing B hfl (i := i) hi hq) cv_X10_58 rfl (T := TX10) (N := 1) rfl rfl rfl (Nat.le_of_ble_eq_true rfl) ⟨Nat.le_of_ble_eq_true rfl, Nat.le_of_ble_eq_true rfl⟩ (by omega) (am_at eX10_blowOnce 55 rfl) h (rU_some h) (bkU (fun V4 h => ?_))
    exact (hj113  V4 h)
def d_X2_reject (x1 : Int32) (x2 : Int32) (V : am_V) : am_R := rV (am_set V 12 0 x1) (fun (V1 : am_V) => rV (am_set V1 12 1 x2) (fun (V2 : am_V) => some (.inl (some (.int (-3))), V2)))
set_option maxRecDepth 100000 in
set_option maxHeartbeats 4000000 in
theorem kX2_reject {U : am_U} {l : Launch} (B : am_base xx U) (hfl : l.stackTraces = false) {V : am_V} {x1 : Int32} {x2 : Int32} {r : (Option Value ⊕ String) × am_V} (h : d_X2_reject x1 x2 V = some r) : am_Ct xx U l yX2_reject cX2_reject 3 (some .int) (rk 0 0 0) [.ref (12), .int (x1), .int (x2)] V (am_is r.1 r.2) := by
  refine am_Ct.of B hfl (by decide) (Nat.le_of_ble_eq_true rfl) ?_
  intro G hgl hgR hr ok h0 hex
  have K : aK U l G RX2 cX2_reject 3 (some .int) 0 0 0 := ⟨hgl, hgR, hr, ok, h0⟩
  unfold d_X2_reject at h
  show AE U G 3 0 0 0 r 0 V 0 [some (.ref (12)), some (.int (x1)), some (.int (x2))] []
  refine AE.run K eX2_reject 0 2 (show am_run 3 ((tX2_reject.drop 0).take 2) 0 [some (.ref (12)), some (.int (x1)), some (.int (x2))] [] = some (2, [some (.ref (12)), some (.int (x1)), some (.int (x2))], [.int (x1), .ref (12)]) from rfl) ?_
  refine AE.putI K pf_X2_9 rfl rfl rfl (am_at eX2_reject 2 rfl) h (fun V1 h => ?_)
  refine AE.run K eX2_reject 3 2 (show am_run 3 ((tX2_reject.drop 3).take 2) 5 [some (.ref (12)), some (.int (x1)), some (.int (x2))] [] = some (7, [some (.ref (12)), some (.int (x1)), some (.int (x2))], [.int (x2), .ref (12)]) from rfl) ?_
  refine AE.putI K pf_X2_15 rfl rfl rfl (am_at eX2_reject 5 rfl) h (fun V2 h => ?_)
  refine AE.run K eX2_reject 6 1 (show am_run 3 ((tX2_reject.drop 6).take 1) 10 [some (.ref (12)), some (.int (x1)), some (.int (x2))] [] = some (12, [some (.ref (12)), some (.int (x1)), some (.int (x2))], [.int (-3)]) from rfl) ?_
  exact AE.iret K (by omega) (am_at eX2_reject 7 rfl) h
def d_X2_isDigit (x0 : Int32) (V : am_V) : am_R := rB (fun (bs0_15 : Int32) (V_15 : am_V) => rG (am_nb bs0_15) (some (.inl (some (.int (bs0_15))), V_15))) (fun (j15 : Int32 → am_V → am_R) => rB (fun (V_14 : am_V) => j15 (nI 0) V_14) (fun (j14 : am_V → am_R) => (if x0 < 0 then j14 V else (if (nI 9) < x0 then j14 V else j15 (nI 1) V))))
set_option maxRecDepth 100000 in
set_option maxHeartbeats 4000000 in
theorem kX2_isDigit {U : am_U} {l : Launch} (B : am_base xx U) (hfl : l.stackTraces = false) {V : am_V} {x0 : Int32} {r : (Option Value ⊕ String) × am_V} (h : d_X2_isDigit x0 V = some r) : am_Ct xx U l yX2_isDigit cX2_isDigit 1 (some .boolean) (rk 0 0 0) [.int (x0)] V (am_is r.1 r.2) := by
  refine am_Ct.of B hfl (by decide) (Nat.le_of_ble_eq_true rfl) ?_
  intro G hgl hgR hr ok h0 hex
  have K : aK U l G RX2 cX2_isDigit 1 (some .boolean) 0 0 0 := ⟨hgl, hgR, hr, ok, h0⟩
  unfold d_X2_isDigit at h
  show AE U G 1 0 0 0 r 0 V 0 [some (.int (x0))] []
  refine AE.run K eX2_isDigit 0 1 (show am_run 1 ((tX2_isDigit.drop 0).take 1) 0 [some (.int (x0))] [] = some (1, [some (.int (x0))], [.int (x0)]) from rfl) ?_
  refine rB_of (P := fun (j : Int32 → am_V → am_R) => ∀ (bs0_15 : Int32) (V_15 : am_V), j bs0_15 V_15 = some r → AE U G 1 0 0 0 r 0 V_15 15 [none] [.int (bs0_15)]) h (fun bs0_15 V_15 h => ?_) (fun j15 hj15 h => ?_)
  · exact AE.zret K (by omega) (am_at eX2_isDigit 8 rfl) h
  refine rB_of (P := fun (j : am_V → am_R) => ∀ (V_14 : am_V), j V_14 = some r → AE U G 1 0 0 0 r 0 V_14 14 [none] []) h (fun V_14 h => ?_) (fun j14 hj14 h => ?_)
  · refine AE.run K eX2_isDigit 7 1 (show am_run 1 ((tX2_isDigit.drop 7).take 1) 14 [none] [] = some (15, [none], [.int (nI 0)]) from rfl) ?_
    exact (hj15 (nI 0) V_14 h)
  refine AE.if0 K 14 (am_at eX2_isDigit 1 rfl) (by decide) rfl h (fun h => ?_) (fun h => ?_)
  · exact AE.sub (L' := [none]) trivial (hj14  V h)
  · refine AE.run K eX2_isDigit 2 2 (show am_run 1 ((tX2_isDigit.drop 2).take 2) 4 [some (.int (x0))] [] = some (7, [some (.int (x0))], [.int (nI 9), .int (x0)]) from rfl) ?_
    refine AE.ic K 14 (am_at eX2_isDigit 4 rfl) (by decide) rfl h (fun h => ?_) (fun h => ?_)
    · exact AE.sub (L' := [none]) trivial (hj14  V h)
    · refine AE.run K eX2_isDigit 5 2 (show am_run 1 ((tX2_isDigit.drop 5).take 2) 10 [some (.int (x0))] [] = some (15, [some (.int (x0))], [.int (nI 1)]) from rfl) ?_
      exact AE.sub (L' := [none]) trivial (hj15 (nI 1) V h)
def d_X2_appendField (i : Nat) (x2 : Int32) (V : am_V) : am_R := rI (d_X2_isDigit x2 V) (fun (y2 : Int32) (V1 : am_V) => (if ¬ y2 = 0 then (if (V1 (sS i + 1) 6) < (nI 9) then rG (am_in (V1 (sS i + 1) 6) 9) (rV (am_set V1 (sS i + 4) (iN (V1 (sS i + 1) 6)) x2) (fun (V3 : am_V) => rG (am_in (V3 (sS i + 1) 6) 9) (rV (am_set V3 (sS i + 9) (iN (V3 (sS i + 1) 6)) (nI 0)) (fun (V4 : am_V) => rV (am_set V4 (sS i + 1) 6 ((V4 (sS i + 1) 6) + (nI 1))) (fun (V5 : am_V) => some (.inl (some (.int ((V5 (sS i + 1) 6) - (nI 1)))), V5)))))) else rI (d_X2_reject (nI 1) (nI 9) V1) (fun (y7 : Int32) (V6 : am_V) => some (.inl (some (.int (y7))), V6))) else some (.inl (some (.int (-2))), V1)))
set_option maxRecDepth 100000 in
set_option maxHeartbeats 4000000 in
theorem kX2_appendField {U : am_U} {l : Launch} (B : am_base xx U) (hfl : l.stackTraces = false) {V : am_V} {i : Nat} {x2 : Int32} (hi : i < 12) {r : (Option Value ⊕ String) × am_V} (h : d_X2_appendField i x2 V = some r) : am_Ct xx U l yX2_appendField cX2_appendField 4 (some .int) (rk 1 0 22) [.ref (12), .ref (sS i), .int (x2)] V (am_is r.1 r.2) := by
  refine am_Ct.of B hfl (by decide) (Nat.le_of_ble_eq_true rfl) ?_
  intro G hgl hgR hr ok h0 hex
  have K : aK U l G RX2 cX2_appendField 4 (some .int) 1 0 22 := ⟨hgl, hgR, hr, ok, h0⟩
  unfold d_X2_appendField at h
  show AE U G 4 1 0 22 r 0 V 0 [some (.ref (12)), some (.ref (sS i)), some (.int (x2)), none] []
  refine AE.run K eX2_appendField 0 1 (show am_run 4 ((tX2_appendField.drop 0).take 1) 0 [some (.ref (12)), some (.ref (sS i)), some (.int (x2)), none] [] = some (1, [some (.ref (12)), some (.ref (sS i)), some (.int (x2)), none], [.ref (sS i)]) from rfl) ?_
  refine AE.getR K gf_X2_18 (sh_S0 hi) rfl (am_at eX2_appendField 1 rfl) ?_
  refine AE.run K eX2_appendField 2 2 (show am_run 4 ((tX2_appendField.drop 2).take 2) 4 [some (.ref (12)), some (.ref (sS i)), some (.int (x2)), none] [.ref (sS i + 1)] = some (6, [some (.ref (12)), some (.ref (sS i)), some (.int (x2)), some (.ref (sS i + 1))], [.int (x2)]) from rfl) ?_
  refine AE.cs (f' := 0) (c' := 0) (lo' := 0) (st := []) (As := [.int (x2)]) (m := d_X2_isDigit x2 V) K hex (fun q hq => kX2_isDigit B hfl hq) cs_X2_24 rfl rfl (Nat.le_of_ble_eq_true rfl) ⟨Nat.le_of_ble_eq_true rfl, Nat.le_of_ble_eq_true rfl⟩ (by omega) (am_at eX2_appendField 4 rfl) h (rI_some h) (bkI (fun y2 V1 h => ?_))
  refine AE.if0 K 15 (am_at eX2_appendField 5 rfl) (by decide) rfl h (fun h => ?_) (fun h => ?_)
  · refine AE.run K eX2_appendField 8 1 (show am_run 4 ((tX2_appendField.drop 8).take 1) 15 [some (.ref (12)), some (.ref (sS i)), some (.int (x2)), some (.ref (sS i + 1))] [] = some (16, [some (.ref (12)), some (.ref (sS i)), some (.int (x2)), some (.ref (sS i + 1))], [.ref (sS i + 1)]) from rfl) ?_
    refine AE.getI K gf_X2_28 (sh_S1 hi) rfl (am_at eX2_appendField 9 rfl) ?_
    refine AE.run K eX2_appendField 10 1 (show am_run 4 ((tX2_appendField.drop 10).take 1) 19 [some (.ref (12)), some (.ref (sS i)), some (.int (x2)), some (.ref (sS i + 1))] [.int (V1 (sS i + 1) 6)] = some (21, [some (.ref (12)), some (.ref (sS i)), some (.int (x2)), some (.ref (sS i + 1))], [.int (nI 9), .int (V1 (sS i + 1) 6)]) from rfl) ?_
    refine AE.ic K 32 (am_at eX2_appendField 11 rfl) (by decide) rfl h (fun h => ?_) (fun h => ?_)
    · refine AE.run K eX2_appendField 17 1 (show am_run 4 ((tX2_appendField.drop 17).take 1) 32 [some (.ref (12)), some (.ref (sS i)), some (.int (x2)), some (.ref (sS i + 1))] [] = some (33, [some (.ref (12)), some (.ref (sS i)), some (.int (x2)), some (.ref (sS i + 1))], [.ref (sS i + 1)]) from rfl) ?_
      refine AE.getR K gf_X2_37 (sh_S1 hi) rfl (am_at eX2_appendField 18 rfl) ?_
      refine AE.run K eX2_appendField 19 1 (show am_run 4 ((tX2_appendField.drop 19).take 1) 36 [some (.ref (12)), some (.ref (sS i)), some (.int (x2)), some (.ref (sS i + 1))] [.ref (sS i + 4)] = some (37, [some (.ref (12)), some (.ref (sS i)), some (.int (x2)), some (.ref (sS i + 1))], [.ref (sS i + 1), .ref (sS i + 4)]) from rfl) ?_
      refine AE.getI K gf_X2_28 (sh_S1 hi) rfl (am_at eX2_appendField 20 rfl) ?_
      refine AE.run K eX2_appendField 21 1 (show am_run 4 ((tX2_appendField.drop 21).take 1) 40 [some (.ref (12)), some (.ref (sS i)), some (.int (x2)), some (.ref (sS i + 1))] [.int (V1 (sS i + 1) 6), .ref (sS i + 4)] = some (41, [some (.ref (12)), some (.ref (sS i)), some (.int (x2)), some (.ref (sS i + 1))], [.int (x2), .int (V1 (sS i + 1) 6), .ref (sS i + 4)]) from rfl) ?_
      refine AE.iast K (sh_S4 hi) (wr_S (i := i) (k := 4) hi (by decide)) (am_at eX2_appendField 22 rfl) h (fun V3 h => ?_)
      refine AE.run K eX2_appendField 23 1 (show am_run 4 ((tX2_appendField.drop 23).take 1) 42 [some (.ref (12)), some (.ref (sS i)), some (.int (x2)), some (.ref (sS i + 1))] [] = some (43, [some (.ref (12)), some (.ref (sS i)), some (.int (x2)), some (.ref (sS i + 1))], [.ref (sS i)]) from rfl) ?_
      refine AE.getR K gf_X2_41 (sh_S0 hi) rfl (am_at eX2_appendField 24 rfl) ?_
      refine AE.getR K gf_X2_45 (sh_S2 hi) rfl (am_at eX2_appendField 25 rfl) ?_
      refine AE.run K eX2_appendField 26 1 (show am_run 4 ((tX2_appendField.drop 26).take 1) 49 [some (.ref (12)), some (.ref (sS i)), some (.int (x2)), some (.ref (sS i + 1))] [.ref (sS i + 9)] = some (50, [some (.ref (12)), some (.ref (sS i)), some (.int (x2)), some (.ref (sS i + 1))], [.ref (sS i + 1), .ref (sS i + 9)]) from rfl) ?_
      refine AE.getI K gf_X2_28 (sh_S1 hi) rfl (am_at eX2_appendField 27 rfl) ?_
      refine AE.run K eX2_appendField 28 1 (show am_run 4 ((tX2_appendField.drop 28).take 1) 53 [some (.ref (12)), some (.ref (sS i)), some (.int (x2)), some (.ref (sS i + 1))] [.int (V3 (sS i + 1) 6), .ref (sS i + 9)] = some (54, [some (.ref (12)), some (.ref (sS i)), some (.int (x2)), some (.ref (sS i + 1))], [.int (nI 0), .int (V3 (sS i + 1) 6), .ref (sS i + 9)]) from rfl) ?_
      refine AE.iast K (sh_S9 hi) (wr_S (i := i) (k := 9) hi (by decide)) (am_at eX2_appendField 29 rfl) h (fun V4 h => ?_)
      refine AE.run K eX2_appendField 30 2 (show am_run 4 ((tX2_appendField.drop 30).take 2) 55 [some (.ref (12)), some (.ref (sS i)), some (.int (x2)), some (.ref (sS i + 1))] [] = some (57, [some (.ref (12)), some (.ref (sS i)), some (.int (x2)), some (.ref (sS i + 1))], [.ref (sS i + 1), .ref (sS i + 1)]) from rfl) ?_
      refine AE.getI K gf_X2_28 (sh_S1 hi) rfl (am_at eX2_appendField 32 rfl) ?_
      refine AE.run K eX2_appendField 33 2 (show am_run 4 ((tX2_appendField.drop 33).take 2) 60 [some (.ref (12)), some (.ref (sS i)), some (.int (x2)), some (.ref (sS i + 1))] [.int (V4 (sS i + 1) 6), .ref (sS i + 1)] = some (62, [some (.ref (12)), some (.ref (sS i)), some (.int (x2)), some (.ref (sS i + 1))], [.int ((V4 (sS i + 1) 6) + (nI 1)), .ref (sS i + 1)]) from rfl) ?_
      refine AE.putI K pf_X2_28 (sh_S1 hi) (wr_S (i := i) (k := 1) hi (by decide)) rfl (am_at eX2_appendField 35 rfl) h (fun V5 h => ?_)
      refine AE.run K eX2_appendField 36 1 (show am_run 4 ((tX2_appendField.drop 36).take 1) 65 [some (.ref (12)), some (.ref (sS i)), some (.int (x2)), some (.ref (sS i + 1))] [] = some (66, [some (.ref (12)), some (.ref (sS i)), some (.int (x2)), some (.ref (sS i + 1))], [.ref (sS i + 1)]) from rfl) ?_
      refine AE.getI K gf_X2_28 (sh_S1 hi) rfl (am_at eX2_appendField 37 rfl) ?_
      refine AE.run K eX2_appendField 38 2 (show am_run 4 ((tX2_appendField.drop 38).take 2) 69 [some (.ref (12)), some (.ref (sS i)), some (.int (x2)), some (.ref (sS i + 1))] [.int (V5 (sS i + 1) 6)] = some (71, [some (.ref (12)), some (.ref (sS i)), some (.int (x2)), some (.ref (sS i + 1))], [.int ((V5 (sS i + 1) 6) - (nI 1))]) from rfl) ?_
      exact AE.iret K (by omega) (am_at eX2_appendField 40 rfl) h
    · refine AE.run K eX2_appendField 12 3 (show am_run 4 ((tX2_appendField.drop 12).take 3) 24 [some (.ref (12)), some (.ref (sS i)), some (.int (x2)), some (.ref (sS i + 1))] [] = some (28, [some (.ref (12)), some (.ref (sS i)), some (.int (x2)), some (.ref (sS i + 1))], [.int (nI 9), .int (nI 1), .ref (12)]) from rfl) ?_
      refine AE.cv (f' := 0) (c' := 0) (lo' := 0) (st := []) (As := [.int (nI 1), .int (nI 9)]) (m := d_X2_reject (nI 1) (nI 9) V1) K hex (fun q hq => kX2_reject B hfl hq) cv_X2_33 rfl (T := TX2) (N := 2) rfl rfl rfl (Nat.le_of_ble_eq_true rfl) ⟨Nat.le_of_ble_eq_true rfl, Nat.le_of_ble_eq_true rfl⟩ (by omega) (am_at eX2_appendField 15 rfl) h (rI_some h) (bkI (fun y7 V6 h => ?_))
      exact AE.iret K (by omega) (am_at eX2_appendField 16 rfl) h
  · refine AE.run K eX2_appendField 6 1 (show am_run 4 ((tX2_appendField.drop 6).take 1) 12 [some (.ref (12)), some (.ref (sS i)), some (.int (x2)), some (.ref (sS i + 1))] [] = some (14, [some (.ref (12)), some (.ref (sS i)), some (.int (x2)), some (.ref (sS i + 1))], [.int (-2)]) from rfl) ?_
    exact AE.iret K (by omega) (am_at eX2_appendField 7 rfl) h
def d_X2_replaceShield (i : Nat) (x2 : Int32) (x3 : Int32) (V : am_V) : am_R := rI (d_X6_hasField i x2 V) (fun (y2 : Int32) (V1 : am_V) => (if ¬ y2 = 0 then rI (d_X2_isDigit x3 V1) (fun (y4 : Int32) (V3 : am_V) => (if ¬ y4 = 0 then rG (am_in x2 9) (rG (am_in x2 9) (rV (am_set V3 (sS i + 4) (iN x2) x3) (fun (V5 : am_V) => some (.inl (some (.int (V3 (sS i + 4) (iN x2)))), V5)))) else some (.inl (some (.int (-2))), V3))) else some (.inl (some (.int (-1))), V1)))
set_option maxRecDepth 100000 in
set_option maxHeartbeats 4000000 in
theorem kX2_replaceShield {U : am_U} {l : Launch} (B : am_base xx U) (hfl : l.stackTraces = false) {V : am_V} {i : Nat} {x2 : Int32} {x3 : Int32} (hi : i < 12) {r : (Option Value ⊕ String) × am_V} (h : d_X2_replaceShield i x2 x3 V = some r) : am_Ct xx U l yX2_replaceShield cX2_replaceShield 5 (some .int) (rk 1 0 21) [.ref (12), .ref (sS i), .int (x2), .int (x3)] V (am_is r.1 r.2) := by
  refine am_Ct.of B hfl (by decide) (Nat.le_of_ble_eq_true rfl) ?_
  intro G hgl hgR hr ok h0 hex
  have K : aK U l G RX2 cX2_replaceShield 5 (some .int) 1 0 21 := ⟨hgl, hgR, hr, ok, h0⟩
  unfold d_X2_replaceShield at h
  show AE U G 5 1 0 21 r 0 V 0 [some (.ref (12)), some (.ref (sS i)), some (.int (x2)), some (.int (x3)), none] []
  refine AE.run K eX2_replaceShield 0 1 (show am_run 5 ((tX2_replaceShield.drop 0).take 1) 0 [some (.ref (12)), some (.ref (sS i)), some (.int (x2)), some (.int (x3)), none] [] = some (1, [some (.ref (12)), some (.ref (sS i)), some (.int (x2)), some (.int (x3)), none], [.ref (sS i)]) from rfl) ?_
  refine AE.getR K gf_X2_18 (sh_S0 hi) rfl (am_at eX2_replaceShield 1 rfl) ?_
  refine AE.run K eX2_replaceShield 2 1 (show am_run 5 ((tX2_replaceShield.drop 2).take 1) 4 [some (.ref (12)), some (.ref (sS i)), some (.int (x2)), some (.int (x3)), none] [.ref (sS i + 1)] = some (5, [some (.ref (12)), some (.ref (sS i)), some (.int (x2)), some (.int (x3)), none], [.int (x2), .ref (sS i + 1)]) from rfl) ?_
  refine AE.cv (f' := 0) (c' := 0) (lo' := 0) (st := []) (As := [.int (x2)]) (m := d_X6_hasField i x2 V) K hex (fun q hq => kX6_hasField B hfl (i := i) hi hq) cv_X2_50 (sh_S1 hi) (T := TX6) (N := 8) rfl rfl rfl (Nat.le_of_ble_eq_true rfl) ⟨Nat.le_of_ble_eq_true rfl, Nat.le_of_ble_eq_true rfl⟩ (by omega) (am_at eX2_replaceShield 3 rfl) h (rI_some h) (bkI (fun y2 V1 h => ?_))
  refine AE.if0 K 13 (am_at eX2_replaceShield 4 rfl) (by decide) rfl h (fun h => ?_) (fun h => ?_)
  · refine AE.run K eX2_replaceShield 7 1 (show am_run 5 ((tX2_replaceShield.drop 7).take 1) 13 [some (.ref (12)), some (.ref (sS i)), some (.int (x2)), some (.int (x3)), none] [] = some (14, [some (.ref (12)), some (.ref (sS i)), some (.int (x2)), some (.int (x3)), none], [.int (x3)]) from rfl) ?_
    refine AE.cs (f' := 0) (c' := 0) (lo' := 0) (st := []) (As := [.int (x3)]) (m := d_X2_isDigit x3 V1) K hex (fun q hq => kX2_isDigit B hfl hq) cs_X2_24 rfl rfl (Nat.le_of_ble_eq_true rfl) ⟨Nat.le_of_ble_eq_true rfl, Nat.le_of_ble_eq_true rfl⟩ (by omega) (am_at eX2_replaceShield 8 rfl) h (rI_some h) (bkI (fun y4 V3 h => ?_))
    refine AE.if0 K 23 (am_at eX2_replaceShield 9 rfl) (by decide) rfl h (fun h => ?_) (fun h => ?_)
    · refine AE.run K eX2_replaceShield 12 1 (show am_run 5 ((tX2_replaceShield.drop 12).take 1) 23 [some (.ref (12)), some (.ref (sS i)), some (.int (x2)), some (.int (x3)), none] [] = some (24, [some (.ref (12)), some (.ref (sS i)), some (.int (x2)), some (.int (x3)), none], [.ref (sS i)]) from rfl) ?_
      refine AE.getR K gf_X2_18 (sh_S0 hi) rfl (am_at eX2_replaceShield 13 rfl) ?_
      refine AE.getR K gf_X2_37 (sh_S1 hi) rfl (am_at eX2_replaceShield 14 rfl) ?_
      refine AE.run K eX2_replaceShield 15 1 (show am_run 5 ((tX2_replaceShield.drop 15).take 1) 30 [some (.ref (12)), some (.ref (sS i)), some (.int (x2)), some (.int (x3)), none] [.ref (sS i + 4)] = some (31, [some (.ref (12)), some (.ref (sS i)), some (.int (x2)), some (.int (x3)), none], [.int (x2), .ref (sS i + 4)]) from rfl) ?_
      refine AE.iald K (sh_S4 hi) (am_at eX2_replaceShield 16 rfl) h (fun h => ?_)
      refine AE.run K eX2_replaceShield 17 2 (show am_run 5 ((tX2_replaceShield.drop 17).take 2) 32 [some (.ref (12)), some (.ref (sS i)), some (.int (x2)), some (.int (x3)), none] [.int (V3 (sS i + 4) (iN x2))] = some (35, [some (.ref (12)), some (.ref (sS i)), some (.int (x2)), some (.int (x3)), some (.int (V3 (sS i + 4) (iN x2)))], [.ref (sS i)]) from rfl) ?_
      refine AE.getR K gf_X2_18 (sh_S0 hi) rfl (am_at eX2_replaceShield 19 rfl) ?_
      refine AE.getR K gf_X2_37 (sh_S1 hi) rfl (am_at eX2_replaceShield 20 rfl) ?_
      refine AE.run K eX2_replaceShield 21 2 (show am_run 5 ((tX2_replaceShield.drop 21).take 2) 41 [some (.ref (12)), some (.ref (sS i)), some (.int (x2)), some (.int (x3)), some (.int (V3 (sS i + 4) (iN x2)))] [.ref (sS i + 4)] = some (43, [some (.ref (12)), some (.ref (sS i)), some (.int (x2)), some (.int (x3)), some (.int (V3 (sS i + 4) (iN x2)))], [.int (x3), .int (x2), .ref (sS i + 4)]) from rfl) ?_
      refine AE.iast K (sh_S4 hi) (wr_S (i := i) (k := 4) hi (by decide)) (am_at eX2_replaceShield 23 rfl) h (fun V5 h => ?_)
      refine AE.run K eX2_replaceShield 24 1 (show am_run 5 ((tX2_replaceShield.drop 24).take 1) 44 [some (.ref (12)), some (.ref (sS i)), some (.int (x2)), some (.int (x3)), some (.int (V3 (sS i + 4) (iN x2)))] [] = some (46, [some (.ref (12)), some (.ref (sS i)), some (.int (x2)), some (.int (x3)), some (.int (V3 (sS i + 4) (iN x2)))], [.int (V3 (sS i + 4) (iN x2))]) from rfl) ?_
      exact AE.iret K (by omega) (am_at eX2_replaceShield 25 rfl) h
    · refine AE.run K eX2_replaceShield 10 1 (show am_run 5 ((tX2_replaceShield.drop 10).take 1) 20 [some (.ref (12)), some (.ref (sS i)), some (.int (x2)), some (.int (x3)), none] [] = some (22, [some (.ref (12)), some (.ref (sS i)), some (.int (x2)), some (.int (x3)), none], [.int (-2)]) from rfl) ?_
      exact AE.iret K (by omega) (am_at eX2_replaceShield 11 rfl) h
  · refine AE.run K eX2_replaceShield 5 1 (show am_run 5 ((tX2_replaceShield.drop 5).take 1) 11 [some (.ref (12)), some (.ref (sS i)), some (.int (x2)), some (.int (x3)), none] [] = some (12, [some (.ref (12)), some (.ref (sS i)), some (.int (x2)), some (.int (x3)), none], [.int (-1)]) from rfl) ?_
    exact AE.iret K (by omega) (am_at eX2_replaceShield 6 rfl) h
def d_X2_appendPath (i : Nat) (x2 : Int32) (x3 : Int32) (x4 : Int32) (x5 : Int32) (V : am_V) : am_R := rI (d_X6_hasField i x2 V) (fun (y2 : Int32) (V1 : am_V) => rB (fun (V_24 : am_V) => some (.inl (some (.int (-1))), V_24)) (fun (j24 : am_V → am_R) => (if y2 = 0 then j24 V1 else rI (d_X6_hasField i x3 V1) (fun (y4 : Int32) (V3 : am_V) => (if ¬ y4 = 0 then rB (fun (V_52 : am_V) => some (.inl (some (.int (-2))), V_52)) (fun (j52 : am_V → am_R) => (if x2 = x3 then j52 V3 else (if x4 = 0 then j52 V3 else rI (d_X2_isDigit x4 V3) (fun (y6 : Int32) (V5 : am_V) => (if y6 = 0 then j52 V5 else rI (d_X2_isDigit x5 V5) (fun (y8 : Int32) (V7 : am_V) => (if ¬ y8 = 0 then (if (V7 (sS i + 1) 7) < (nI 16) then rI (d_X6_pathBetween i x2 x3 V7) (fun (y10 : Int32) (V9 : am_V) => (if y10 = (-1) then rG (am_in (V9 (sS i + 1) 7) 16) (rV (am_set V9 (sS i + 5) (iN (V9 (sS i + 1) 7)) x2) (fun (V11 : am_V) => rG (am_in (V9 (sS i + 1) 7) 16) (rV (am_set V11 (sS i + 6) (iN (V9 (sS i + 1) 7)) x3) (fun (V12 : am_V) => rG (am_in (V9 (sS i + 1) 7) 16) (rV (am_set V12 (sS i + 7) (iN (V9 (sS i + 1) 7)) x4) (fun (V13 : am_V) => rG (am_in (V9 (sS i + 1) 7) 16) (rV (am_set V13 (sS i + 8) (iN (V9 (sS i + 1) 7)) x5) (fun (V14 : am_V) => rV (am_set V14 (sS i + 1) 5 ((V14 (sS i + 1) 5) &&& (((nI 1) <<< ((V9 (sS i + 1) 7) &&& 31)) ^^^ (-1)))) (fun (V15 : am_V) => rG (am_in (V9 (sS i + 1) 7) 16) (rV (am_set V15 (sS i + 3) (iN (V9 (sS i + 1) 7)) (nI 0)) (fun (V16 : am_V) => rV (am_set V16 (sS i + 1) 7 ((V16 (sS i + 1) 7) + (nI 1))) (fun (V17 : am_V) => some (.inl (some (.int (V9 (sS i + 1) 7))), V17))))))))))))) else rI (d_X2_reject (nI 3) y10 V9) (fun (y19 : Int32) (V18 : am_V) => some (.inl (some (.int (y19))), V18)))) else rI (d_X6_closedTotal i V7) (fun (y21 : Int32) (V20 : am_V) => rI (d_X2_reject (nI 2) ((V7 (sS i + 1) 7) - y21) V20) (fun (y23 : Int32) (V22 : am_V) => some (.inl (some (.int (y23))), V22)))) else j52 V7))))))) else j24 V3)))))
set_option maxRecDepth 100000 in
set_option maxHeartbeats 4000000 in
theorem kX2_appendPath {U : am_U} {l : Launch} (B : am_base xx U) (hfl : l.stackTraces = false) {V : am_V} {i : Nat} {x2 : Int32} {x3 : Int32} {x4 : Int32} {x5 : Int32} (hi : i < 12) {r : (Option Value ⊕ String) × am_V} (h : d_X2_appendPath i x2 x3 x4 x5 V = some r) : am_Ct xx U l yX2_appendPath cX2_appendPath 9 (some .int) (rk 3 0 80) [.ref (12), .ref (sS i), .int (x2), .int (x3), .int (x4), .int (x5)] V (am_is r.1 r.2) := by
  refine am_Ct.of B hfl (by decide) (Nat.le_of_ble_eq_true rfl) ?_
  intro G hgl hgR hr ok h0 hex
  have K : aK U l G RX2 cX2_appendPath 9 (some .int) 3 0 80 := ⟨hgl, hgR, hr, ok, h0⟩
  unfold d_X2_appendPath at h
  show AE U G 9 3 0 80 r 0 V 0 [some (.ref (12)), some (.ref (sS i)), some (.int (x2)), some (.int (x3)), some (.int (x4)), some (.int (x5)), none, none, none] []
  refine AE.run K eX2_appendPath 0 1 (show am_run 9 ((tX2_appendPath.drop 0).take 1) 0 [some (.ref (12)), some (.ref (sS i)), some (.int (x2)), some (.int (x3)), some (.int (x4)), some (.int (x5)), none, none, none] [] = some (1, [some (.ref (12)), some (.ref (sS i)), some (.int (x2)), some (.int (x3)), some (.int (x4)), some (.int (x5)), none, none, none], [.ref (sS i)]) from rfl) ?_
  refine AE.getR K gf_X2_18 (sh_S0 hi) rfl (am_at eX2_appendPath 1 rfl) ?_
  refine AE.run K eX2_appendPath 2 3 (show am_run 9 ((tX2_appendPath.drop 2).take 3) 4 [some (.ref (12)), some (.ref (sS i)), some (.int (x2)), some (.int (x3)), some (.int (x4)), some (.int (x5)), none, none, none] [.ref (sS i + 1)] = some (9, [some (.ref (12)), some (.ref (sS i)), some (.int (x2)), some (.int (x3)), some (.int (x4)), some (.int (x5)), some (.ref (sS i + 1)), none, none], [.int (x2), .ref (sS i + 1)]) from rfl) ?_
  refine AE.cv (f' := 0) (c' := 0) (lo' := 0) (st := []) (As := [.int (x2)]) (m := d_X6_hasField i x2 V) K hex (fun q hq => kX6_hasField B hfl (i := i) hi hq) cv_X2_50 (sh_S1 hi) (T := TX6) (N := 8) rfl rfl rfl (Nat.le_of_ble_eq_true rfl) ⟨Nat.le_of_ble_eq_true rfl, Nat.le_of_ble_eq_true rfl⟩ (by omega) (am_at eX2_appendPath 5 rfl) h (rI_some h) (bkI (fun y2 V1 h => ?_))
  refine rB_of (P := fun (j : am_V → am_R) => ∀ (V_24 : am_V), j V_24 = some r → AE U G 9 3 0 80 r 0 V_24 24 [none, none, none, none, none, none, none, none, none] []) h (fun V_24 h => ?_) (fun j24 hj24 h => ?_)
  · refine AE.run K eX2_appendPath 11 1 (show am_run 9 ((tX2_appendPath.drop 11).take 1) 24 [none, none, none, none, none, none, none, none, none] [] = some (25, [none, none, none, none, none, none, none, none, none], [.int (-1)]) from rfl) ?_
    exact AE.iret K (by omega) (am_at eX2_appendPath 12 rfl) h
  refine AE.if0 K 24 (am_at eX2_appendPath 6 rfl) (by decide) rfl h (fun h => ?_) (fun h => ?_)
  · exact AE.sub (L' := [none, none, none, none, none, none, none, none, none]) trivial (hj24  V1 h)
  · refine AE.run K eX2_appendPath 7 2 (show am_run 9 ((tX2_appendPath.drop 7).take 2) 15 [some (.ref (12)), some (.ref (sS i)), some (.int (x2)), some (.int (x3)), some (.int (x4)), some (.int (x5)), some (.ref (sS i + 1)), none, none] [] = some (18, [some (.ref (12)), some (.ref (sS i)), some (.int (x2)), some (.int (x3)), some (.int (x4)), some (.int (x5)), some (.ref (sS i + 1)), none, none], [.int (x3), .ref (sS i + 1)]) from rfl) ?_
    refine AE.cv (f' := 0) (c' := 0) (lo' := 0) (st := []) (As := [.int (x3)]) (m := d_X6_hasField i x3 V1) K hex (fun q hq => kX6_hasField B hfl (i := i) hi hq) cv_X2_50 (sh_S1 hi) (T := TX6) (N := 8) rfl rfl rfl (Nat.le_of_ble_eq_true rfl) ⟨Nat.le_of_ble_eq_true rfl, Nat.le_of_ble_eq_true rfl⟩ (by omega) (am_at eX2_appendPath 9 rfl) h (rI_some h) (bkI (fun y4 V3 h => ?_))
    refine AE.if0 K 26 (am_at eX2_appendPath 10 rfl) (by decide) rfl h (fun h => ?_) (fun h => ?_)
    · refine AE.run K eX2_appendPath 13 2 (show am_run 9 ((tX2_appendPath.drop 13).take 2) 26 [some (.ref (12)), some (.ref (sS i)), some (.int (x2)), some (.int (x3)), some (.int (x4)), some (.int (x5)), some (.ref (sS i + 1)), none, none] [] = some (28, [some (.ref (12)), some (.ref (sS i)), some (.int (x2)), some (.int (x3)), some (.int (x4)), some (.int (x5)), some (.ref (sS i + 1)), none, none], [.int (x3), .int (x2)]) from rfl) ?_
      refine rB_of (P := fun (j : am_V → am_R) => ∀ (V_52 : am_V), j V_52 = some r → AE U G 9 3 0 80 r 0 V_52 52 [none, none, none, none, none, none, none, none, none] []) h (fun V_52 h => ?_) (fun j52 hj52 h => ?_)
      · refine AE.run K eX2_appendPath 24 1 (show am_run 9 ((tX2_appendPath.drop 24).take 1) 52 [none, none, none, none, none, none, none, none, none] [] = some (54, [none, none, none, none, none, none, none, none, none], [.int (-2)]) from rfl) ?_
        exact AE.iret K (by omega) (am_at eX2_appendPath 25 rfl) h
      refine AE.ic K 52 (am_at eX2_appendPath 15 rfl) (by decide) rfl h (fun h => ?_) (fun h => ?_)
      · exact AE.sub (L' := [none, none, none, none, none, none, none, none, none]) trivial (hj52  V3 h)
      · refine AE.run K eX2_appendPath 16 1 (show am_run 9 ((tX2_appendPath.drop 16).take 1) 31 [some (.ref (12)), some (.ref (sS i)), some (.int (x2)), some (.int (x3)), some (.int (x4)), some (.int (x5)), some (.ref (sS i + 1)), none, none] [] = some (33, [some (.ref (12)), some (.ref (sS i)), some (.int (x2)), some (.int (x3)), some (.int (x4)), some (.int (x5)), some (.ref (sS i + 1)), none, none], [.int (x4)]) from rfl) ?_
        refine AE.if0 K 52 (am_at eX2_appendPath 17 rfl) (by decide) rfl h (fun h => ?_) (fun h => ?_)
        · exact AE.sub (L' := [none, none, none, none, none, none, none, none, none]) trivial (hj52  V3 h)
        · refine AE.run K eX2_appendPath 18 1 (show am_run 9 ((tX2_appendPath.drop 18).take 1) 36 [some (.ref (12)), some (.ref (sS i)), some (.int (x2)), some (.int (x3)), some (.int (x4)), some (.int (x5)), some (.ref (sS i + 1)), none, none] [] = some (38, [some (.ref (12)), some (.ref (sS i)), some (.int (x2)), some (.int (x3)), some (.int (x4)), some (.int (x5)), some (.ref (sS i + 1)), none, none], [.int (x4)]) from rfl) ?_
          refine AE.cs (f' := 0) (c' := 0) (lo' := 0) (st := []) (As := [.int (x4)]) (m := d_X2_isDigit x4 V3) K hex (fun q hq => kX2_isDigit B hfl hq) cs_X2_24 rfl rfl (Nat.le_of_ble_eq_true rfl) ⟨Nat.le_of_ble_eq_true rfl, Nat.le_of_ble_eq_true rfl⟩ (by omega) (am_at eX2_appendPath 19 rfl) h (rI_some h) (bkI (fun y6 V5 h => ?_))
          refine AE.if0 K 52 (am_at eX2_appendPath 20 rfl) (by decide) rfl h (fun h => ?_) (fun h => ?_)
          · exact AE.sub (L' := [none, none, none, none, none, none, none, none, none]) trivial (hj52  V5 h)
          · refine AE.run K eX2_appendPath 21 1 (show am_run 9 ((tX2_appendPath.drop 21).take 1) 44 [some (.ref (12)), some (.ref (sS i)), some (.int (x2)), some (.int (x3)), some (.int (x4)), some (.int (x5)), some (.ref (sS i + 1)), none, none] [] = some (46, [some (.ref (12)), some (.ref (sS i)), some (.int (x2)), some (.int (x3)), some (.int (x4)), some (.int (x5)), some (.ref (sS i + 1)), none, none], [.int (x5)]) from rfl) ?_
            refine AE.cs (f' := 0) (c' := 0) (lo' := 0) (st := []) (As := [.int (x5)]) (m := d_X2_isDigit x5 V5) K hex (fun q hq => kX2_isDigit B hfl hq) cs_X2_24 rfl rfl (Nat.le_of_ble_eq_true rfl) ⟨Nat.le_of_ble_eq_true rfl, Nat.le_of_ble_eq_true rfl⟩ (by omega) (am_at eX2_appendPath 22 rfl) h (rI_some h) (bkI (fun y8 V7 h => ?_))
            refine AE.if0 K 55 (am_at eX2_appendPath 23 rfl) (by decide) rfl h (fun h => ?_) (fun h => ?_)
            · refine AE.run K eX2_appendPath 26 1 (show am_run 9 ((tX2_appendPath.drop 26).take 1) 55 [some (.ref (12)), some (.ref (sS i)), some (.int (x2)), some (.int (x3)), some (.int (x4)), some (.int (x5)), some (.ref (sS i + 1)), none, none] [] = some (57, [some (.ref (12)), some (.ref (sS i)), some (.int (x2)), some (.int (x3)), some (.int (x4)), some (.int (x5)), some (.ref (sS i + 1)), none, none], [.ref (sS i + 1)]) from rfl) ?_
              refine AE.getI K gf_X2_53 (sh_S1 hi) rfl (am_at eX2_appendPath 27 rfl) ?_
              refine AE.run K eX2_appendPath 28 1 (show am_run 9 ((tX2_appendPath.drop 28).take 1) 60 [some (.ref (12)), some (.ref (sS i)), some (.int (x2)), some (.int (x3)), some (.int (x4)), some (.int (x5)), some (.ref (sS i + 1)), none, none] [.int (V7 (sS i + 1) 7)] = some (62, [some (.ref (12)), some (.ref (sS i)), some (.int (x2)), some (.int (x3)), some (.int (x4)), some (.int (x5)), some (.ref (sS i + 1)), none, none], [.int (nI 16), .int (V7 (sS i + 1) 7)]) from rfl) ?_
              refine AE.ic K 82 (am_at eX2_appendPath 29 rfl) (by decide) rfl h (fun h => ?_) (fun h => ?_)
              · refine AE.run K eX2_appendPath 39 3 (show am_run 9 ((tX2_appendPath.drop 39).take 3) 82 [some (.ref (12)), some (.ref (sS i)), some (.int (x2)), some (.int (x3)), some (.int (x4)), some (.int (x5)), some (.ref (sS i + 1)), none, none] [] = some (86, [some (.ref (12)), some (.ref (sS i)), some (.int (x2)), some (.int (x3)), some (.int (x4)), some (.int (x5)), some (.ref (sS i + 1)), none, none], [.int (x3), .int (x2), .ref (sS i + 1)]) from rfl) ?_
                refine AE.cv (f' := 1) (c' := 0) (lo' := 21) (st := []) (As := [.int (x2), .int (x3)]) (m := d_X6_pathBetween i x2 x3 V7) K hex (fun q hq => kX6_pathBetween B hfl (i := i) hi hq) cv_X2_60 (sh_S1 hi) (T := TX6) (N := 8) rfl rfl rfl (Nat.le_of_ble_eq_true rfl) ⟨Nat.le_of_ble_eq_true rfl, Nat.le_of_ble_eq_true rfl⟩ (by omega) (am_at eX2_appendPath 42 rfl) h (rI_some h) (bkI (fun y10 V9 h => ?_))
                refine AE.run K eX2_appendPath 43 3 (show am_run 9 ((tX2_appendPath.drop 43).take 3) 89 [some (.ref (12)), some (.ref (sS i)), some (.int (x2)), some (.int (x3)), some (.int (x4)), some (.int (x5)), some (.ref (sS i + 1)), none, none] [.int (y10)] = some (94, [some (.ref (12)), some (.ref (sS i)), some (.int (x2)), some (.int (x3)), some (.int (x4)), some (.int (x5)), some (.ref (sS i + 1)), some (.int (y10)), none], [.int (-1), .int (y10)]) from rfl) ?_
                refine AE.ic K 105 (am_at eX2_appendPath 46 rfl) (by decide) rfl h (fun h => ?_) (fun h => ?_)
                · refine AE.run K eX2_appendPath 52 1 (show am_run 9 ((tX2_appendPath.drop 52).take 1) 105 [some (.ref (12)), some (.ref (sS i)), some (.int (x2)), some (.int (x3)), some (.int (x4)), some (.int (x5)), some (.ref (sS i + 1)), some (.int (y10)), none] [] = some (107, [some (.ref (12)), some (.ref (sS i)), some (.int (x2)), some (.int (x3)), some (.int (x4)), some (.int (x5)), some (.ref (sS i + 1)), some (.int (y10)), none], [.ref (sS i + 1)]) from rfl) ?_
                  refine AE.getI K gf_X2_53 (sh_S1 hi) rfl (am_at eX2_appendPath 53 rfl) ?_
                  refine AE.run K eX2_appendPath 54 2 (show am_run 9 ((tX2_appendPath.drop 54).take 2) 110 [some (.ref (12)), some (.ref (sS i)), some (.int (x2)), some (.int (x3)), some (.int (x4)), some (.int (x5)), some (.ref (sS i + 1)), some (.int (y10)), none] [.int (V9 (sS i + 1) 7)] = some (114, [some (.ref (12)), some (.ref (sS i)), some (.int (x2)), some (.int (x3)), some (.int (x4)), some (.int (x5)), some (.ref (sS i + 1)), some (.int (y10)), some (.int (V9 (sS i + 1) 7))], [.ref (sS i + 1)]) from rfl) ?_
                  refine AE.getR K gf_X2_63 (sh_S1 hi) rfl (am_at eX2_appendPath 56 rfl) ?_
                  refine AE.run K eX2_appendPath 57 2 (show am_run 9 ((tX2_appendPath.drop 57).take 2) 117 [some (.ref (12)), some (.ref (sS i)), some (.int (x2)), some (.int (x3)), some (.int (x4)), some (.int (x5)), some (.ref (sS i + 1)), some (.int (y10)), some (.int (V9 (sS i + 1) 7))] [.ref (sS i + 5)] = some (120, [some (.ref (12)), some (.ref (sS i)), some (.int (x2)), some (.int (x3)), some (.int (x4)), some (.int (x5)), some (.ref (sS i + 1)), some (.int (y10)), some (.int (V9 (sS i + 1) 7))], [.int (x2), .int (V9 (sS i + 1) 7), .ref (sS i + 5)]) from rfl) ?_
                  refine AE.iast K (sh_S5 hi) (wr_S (i := i) (k := 5) hi (by decide)) (am_at eX2_appendPath 59 rfl) h (fun V11 h => ?_)
                  refine AE.run K eX2_appendPath 60 1 (show am_run 9 ((tX2_appendPath.drop 60).take 1) 121 [some (.ref (12)), some (.ref (sS i)), some (.int (x2)), some (.int (x3)), some (.int (x4)), some (.int (x5)), some (.ref (sS i + 1)), some (.int (y10)), some (.int (V9 (sS i + 1) 7))] [] = some (123, [some (.ref (12)), some (.ref (sS i)), some (.int (x2)), some (.int (x3)), some (.int (x4)), some (.int (x5)), some (.ref (sS i + 1)), some (.int (y10)), some (.int (V9 (sS i + 1) 7))], [.ref (sS i + 1)]) from rfl) ?_
                  refine AE.getR K gf_X2_66 (sh_S1 hi) rfl (am_at eX2_appendPath 61 rfl) ?_
                  refine AE.run K eX2_appendPath 62 2 (show am_run 9 ((tX2_appendPath.drop 62).take 2) 126 [some (.ref (12)), some (.ref (sS i)), some (.int (x2)), some (.int (x3)), some (.int (x4)), some (.int (x5)), some (.ref (sS i + 1)), some (.int (y10)), some (.int (V9 (sS i + 1) 7))] [.ref (sS i + 6)] = some (129, [some (.ref (12)), some (.ref (sS i)), some (.int (x2)), some (.int (x3)), some (.int (x4)), some (.int (x5)), some (.ref (sS i + 1)), some (.int (y10)), some (.int (V9 (sS i + 1) 7))], [.int (x3), .int (V9 (sS i + 1) 7), .ref (sS i + 6)]) from rfl) ?_
                  refine AE.iast K (sh_S6 hi) (wr_S (i := i) (k := 6) hi (by decide)) (am_at eX2_appendPath 64 rfl) h (fun V12 h => ?_)
                  refine AE.run K eX2_appendPath 65 1 (show am_run 9 ((tX2_appendPath.drop 65).take 1) 130 [some (.ref (12)), some (.ref (sS i)), some (.int (x2)), some (.int (x3)), some (.int (x4)), some (.int (x5)), some (.ref (sS i + 1)), some (.int (y10)), some (.int (V9 (sS i + 1) 7))] [] = some (132, [some (.ref (12)), some (.ref (sS i)), some (.int (x2)), some (.int (x3)), some (.int (x4)), some (.int (x5)), some (.ref (sS i + 1)), some (.int (y10)), some (.int (V9 (sS i + 1) 7))], [.ref (sS i + 1)]) from rfl) ?_
                  refine AE.getR K gf_X2_69 (sh_S1 hi) rfl (am_at eX2_appendPath 66 rfl) ?_
                  refine AE.run K eX2_appendPath 67 2 (show am_run 9 ((tX2_appendPath.drop 67).take 2) 135 [some (.ref (12)), some (.ref (sS i)), some (.int (x2)), some (.int (x3)), some (.int (x4)), some (.int (x5)), some (.ref (sS i + 1)), some (.int (y10)), some (.int (V9 (sS i + 1) 7))] [.ref (sS i + 7)] = some (139, [some (.ref (12)), some (.ref (sS i)), some (.int (x2)), some (.int (x3)), some (.int (x4)), some (.int (x5)), some (.ref (sS i + 1)), some (.int (y10)), some (.int (V9 (sS i + 1) 7))], [.int (x4), .int (V9 (sS i + 1) 7), .ref (sS i + 7)]) from rfl) ?_
                  refine AE.iast K (sh_S7 hi) (wr_S (i := i) (k := 7) hi (by decide)) (am_at eX2_appendPath 69 rfl) h (fun V13 h => ?_)
                  refine AE.run K eX2_appendPath 70 1 (show am_run 9 ((tX2_appendPath.drop 70).take 1) 140 [some (.ref (12)), some (.ref (sS i)), some (.int (x2)), some (.int (x3)), some (.int (x4)), some (.int (x5)), some (.ref (sS i + 1)), some (.int (y10)), some (.int (V9 (sS i + 1) 7))] [] = some (142, [some (.ref (12)), some (.ref (sS i)), some (.int (x2)), some (.int (x3)), some (.int (x4)), some (.int (x5)), some (.ref (sS i + 1)), some (.int (y10)), some (.int (V9 (sS i + 1) 7))], [.ref (sS i + 1)]) from rfl) ?_
                  refine AE.getR K gf_X2_72 (sh_S1 hi) rfl (am_at eX2_appendPath 71 rfl) ?_
                  refine AE.run K eX2_appendPath 72 2 (show am_run 9 ((tX2_appendPath.drop 72).take 2) 145 [some (.ref (12)), some (.ref (sS i)), some (.int (x2)), some (.int (x3)), some (.int (x4)), some (.int (x5)), some (.ref (sS i + 1)), some (.int (y10)), some (.int (V9 (sS i + 1) 7))] [.ref (sS i + 8)] = some (149, [some (.ref (12)), some (.ref (sS i)), some (.int (x2)), some (.int (x3)), some (.int (x4)), some (.int (x5)), some (.ref (sS i + 1)), some (.int (y10)), some (.int (V9 (sS i + 1) 7))], [.int (x5), .int (V9 (sS i + 1) 7), .ref (sS i + 8)]) from rfl) ?_
                  refine AE.iast K (sh_S8 hi) (wr_S (i := i) (k := 8) hi (by decide)) (am_at eX2_appendPath 74 rfl) h (fun V14 h => ?_)
                  refine AE.run K eX2_appendPath 75 2 (show am_run 9 ((tX2_appendPath.drop 75).take 2) 150 [some (.ref (12)), some (.ref (sS i)), some (.int (x2)), some (.int (x3)), some (.int (x4)), some (.int (x5)), some (.ref (sS i + 1)), some (.int (y10)), some (.int (V9 (sS i + 1) 7))] [] = some (153, [some (.ref (12)), some (.ref (sS i)), some (.int (x2)), some (.int (x3)), some (.int (x4)), some (.int (x5)), some (.ref (sS i + 1)), some (.int (y10)), some (.int (V9 (sS i + 1) 7))], [.ref (sS i + 1), .ref (sS i + 1)]) from rfl) ?_
                  refine AE.getI K gf_X2_75 (sh_S1 hi) rfl (am_at eX2_appendPath 77 rfl) ?_
                  refine AE.run K eX2_appendPath 78 6 (show am_run 9 ((tX2_appendPath.drop 78).take 6) 156 [some (.ref (12)), some (.ref (sS i)), some (.int (x2)), some (.int (x3)), some (.int (x4)), some (.int (x5)), some (.ref (sS i + 1)), some (.int (y10)), some (.int (V9 (sS i + 1) 7))] [.int (V14 (sS i + 1) 5), .ref (sS i + 1)] = some (163, [some (.ref (12)), some (.ref (sS i)), some (.int (x2)), some (.int (x3)), some (.int (x4)), some (.int (x5)), some (.ref (sS i + 1)), some (.int (y10)), some (.int (V9 (sS i + 1) 7))], [.int ((V14 (sS i + 1) 5) &&& (((nI 1) <<< ((V9 (sS i + 1) 7) &&& 31)) ^^^ (-1))), .ref (sS i + 1)]) from rfl) ?_
                  refine AE.putI K pf_X2_75 (sh_S1 hi) (wr_S (i := i) (k := 1) hi (by decide)) rfl (am_at eX2_appendPath 84 rfl) h (fun V15 h => ?_)
                  refine AE.run K eX2_appendPath 85 1 (show am_run 9 ((tX2_appendPath.drop 85).take 1) 166 [some (.ref (12)), some (.ref (sS i)), some (.int (x2)), some (.int (x3)), some (.int (x4)), some (.int (x5)), some (.ref (sS i + 1)), some (.int (y10)), some (.int (V9 (sS i + 1) 7))] [] = some (167, [some (.ref (12)), some (.ref (sS i)), some (.int (x2)), some (.int (x3)), some (.int (x4)), some (.int (x5)), some (.ref (sS i + 1)), some (.int (y10)), some (.int (V9 (sS i + 1) 7))], [.ref (sS i)]) from rfl) ?_
                  refine AE.getR K gf_X2_78 (sh_S0 hi) rfl (am_at eX2_appendPath 86 rfl) ?_
                  refine AE.run K eX2_appendPath 87 2 (show am_run 9 ((tX2_appendPath.drop 87).take 2) 170 [some (.ref (12)), some (.ref (sS i)), some (.int (x2)), some (.int (x3)), some (.int (x4)), some (.int (x5)), some (.ref (sS i + 1)), some (.int (y10)), some (.int (V9 (sS i + 1) 7))] [.ref (sS i + 3)] = some (173, [some (.ref (12)), some (.ref (sS i)), some (.int (x2)), some (.int (x3)), some (.int (x4)), some (.int (x5)), some (.ref (sS i + 1)), some (.int (y10)), some (.int (V9 (sS i + 1) 7))], [.int (nI 0), .int (V9 (sS i + 1) 7), .ref (sS i + 3)]) from rfl) ?_
                  refine AE.iast K (sh_S3 hi) (wr_S (i := i) (k := 3) hi (by decide)) (am_at eX2_appendPath 89 rfl) h (fun V16 h => ?_)
                  refine AE.run K eX2_appendPath 90 2 (show am_run 9 ((tX2_appendPath.drop 90).take 2) 174 [some (.ref (12)), some (.ref (sS i)), some (.int (x2)), some (.int (x3)), some (.int (x4)), some (.int (x5)), some (.ref (sS i + 1)), some (.int (y10)), some (.int (V9 (sS i + 1) 7))] [] = some (177, [some (.ref (12)), some (.ref (sS i)), some (.int (x2)), some (.int (x3)), some (.int (x4)), some (.int (x5)), some (.ref (sS i + 1)), some (.int (y10)), some (.int (V9 (sS i + 1) 7))], [.ref (sS i + 1), .ref (sS i + 1)]) from rfl) ?_
                  refine AE.getI K gf_X2_53 (sh_S1 hi) rfl (am_at eX2_appendPath 92 rfl) ?_
                  refine AE.run K eX2_appendPath 93 2 (show am_run 9 ((tX2_appendPath.drop 93).take 2) 180 [some (.ref (12)), some (.ref (sS i)), some (.int (x2)), some (.int (x3)), some (.int (x4)), some (.int (x5)), some (.ref (sS i + 1)), some (.int (y10)), some (.int (V9 (sS i + 1) 7))] [.int (V16 (sS i + 1) 7), .ref (sS i + 1)] = some (182, [some (.ref (12)), some (.ref (sS i)), some (.int (x2)), some (.int (x3)), some (.int (x4)), some (.int (x5)), some (.ref (sS i + 1)), some (.int (y10)), some (.int (V9 (sS i + 1) 7))], [.int ((V16 (sS i + 1) 7) + (nI 1)), .ref (sS i + 1)]) from rfl) ?_
                  refine AE.putI K pf_X2_53 (sh_S1 hi) (wr_S (i := i) (k := 1) hi (by decide)) rfl (am_at eX2_appendPath 95 rfl) h (fun V17 h => ?_)
                  refine AE.run K eX2_appendPath 96 1 (show am_run 9 ((tX2_appendPath.drop 96).take 1) 185 [some (.ref (12)), some (.ref (sS i)), some (.int (x2)), some (.int (x3)), some (.int (x4)), some (.int (x5)), some (.ref (sS i + 1)), some (.int (y10)), some (.int (V9 (sS i + 1) 7))] [] = some (187, [some (.ref (12)), some (.ref (sS i)), some (.int (x2)), some (.int (x3)), some (.int (x4)), some (.int (x5)), some (.ref (sS i + 1)), some (.int (y10)), some (.int (V9 (sS i + 1) 7))], [.int (V9 (sS i + 1) 7)]) from rfl) ?_
                  exact AE.iret K (by omega) (am_at eX2_appendPath 97 rfl) h
                · refine AE.run K eX2_appendPath 47 3 (show am_run 9 ((tX2_appendPath.drop 47).take 3) 97 [some (.ref (12)), some (.ref (sS i)), some (.int (x2)), some (.int (x3)), some (.int (x4)), some (.int (x5)), some (.ref (sS i + 1)), some (.int (y10)), none] [] = some (101, [some (.ref (12)), some (.ref (sS i)), some (.int (x2)), some (.int (x3)), some (.int (x4)), some (.int (x5)), some (.ref (sS i + 1)), some (.int (y10)), none], [.int (y10), .int (nI 3), .ref (12)]) from rfl) ?_
                  refine AE.cv (f' := 0) (c' := 0) (lo' := 0) (st := []) (As := [.int (nI 3), .int (y10)]) (m := d_X2_reject (nI 3) y10 V9) K hex (fun q hq => kX2_reject B hfl hq) cv_X2_33 rfl (T := TX2) (N := 2) rfl rfl rfl (Nat.le_of_ble_eq_true rfl) ⟨Nat.le_of_ble_eq_true rfl, Nat.le_of_ble_eq_true rfl⟩ (by omega) (am_at eX2_appendPath 50 rfl) h (rI_some h) (bkI (fun y19 V18 h => ?_))
                  exact AE.iret K (by omega) (am_at eX2_appendPath 51 rfl) h
              · refine AE.run K eX2_appendPath 30 3 (show am_run 9 ((tX2_appendPath.drop 30).take 3) 65 [some (.ref (12)), some (.ref (sS i)), some (.int (x2)), some (.int (x3)), some (.int (x4)), some (.int (x5)), some (.ref (sS i + 1)), none, none] [] = some (69, [some (.ref (12)), some (.ref (sS i)), some (.int (x2)), some (.int (x3)), some (.int (x4)), some (.int (x5)), some (.ref (sS i + 1)), none, none], [.ref (sS i + 1), .int (nI 2), .ref (12)]) from rfl) ?_
                refine AE.getI K gf_X2_53 (sh_S1 hi) rfl (am_at eX2_appendPath 33 rfl) ?_
                refine AE.run K eX2_appendPath 34 1 (show am_run 9 ((tX2_appendPath.drop 34).take 1) 72 [some (.ref (12)), some (.ref (sS i)), some (.int (x2)), some (.int (x3)), some (.int (x4)), some (.int (x5)), some (.ref (sS i + 1)), none, none] [.int (V7 (sS i + 1) 7), .int (nI 2), .ref (12)] = some (74, [some (.ref (12)), some (.ref (sS i)), some (.int (x2)), some (.int (x3)), some (.int (x4)), some (.int (x5)), some (.ref (sS i + 1)), none, none], [.ref (sS i + 1), .int (V7 (sS i + 1) 7), .int (nI 2), .ref (12)]) from rfl) ?_
                refine AE.cv (f' := 2) (c' := 0) (lo' := 60) (st := [.int (V7 (sS i + 1) 7), .int (nI 2), .ref (12)]) (As := []) (m := d_X6_closedTotal i V7) K hex (fun q hq => kX6_closedTotal B hfl (i := i) hi hq) cv_X2_56 (sh_S1 hi) (T := TX6) (N := 8) rfl rfl rfl (Nat.le_of_ble_eq_true rfl) ⟨Nat.le_of_ble_eq_true rfl, Nat.le_of_ble_eq_true rfl⟩ (by omega) (am_at eX2_appendPath 35 rfl) h (rI_some h) (bkI (fun y21 V20 h => ?_))
                refine AE.run K eX2_appendPath 36 1 (show am_run 9 ((tX2_appendPath.drop 36).take 1) 77 [some (.ref (12)), some (.ref (sS i)), some (.int (x2)), some (.int (x3)), some (.int (x4)), some (.int (x5)), some (.ref (sS i + 1)), none, none] [.int (y21), .int (V7 (sS i + 1) 7), .int (nI 2), .ref (12)] = some (78, [some (.ref (12)), some (.ref (sS i)), some (.int (x2)), some (.int (x3)), some (.int (x4)), some (.int (x5)), some (.ref (sS i + 1)), none, none], [.int ((V7 (sS i + 1) 7) - y21), .int (nI 2), .ref (12)]) from rfl) ?_
                refine AE.cv (f' := 0) (c' := 0) (lo' := 0) (st := []) (As := [.int (nI 2), .int ((V7 (sS i + 1) 7) - y21)]) (m := d_X2_reject (nI 2) ((V7 (sS i + 1) 7) - y21) V20) K hex (fun q hq => kX2_reject B hfl hq) cv_X2_33 rfl (T := TX2) (N := 2) rfl rfl rfl (Nat.le_of_ble_eq_true rfl) ⟨Nat.le_of_ble_eq_true rfl, Nat.le_of_ble_eq_true rfl⟩ (by omega) (am_at eX2_appendPath 37 rfl) h (rI_some h) (bkI (fun y23 V22 h => ?_))
                exact AE.iret K (by omega) (am_at eX2_appendPath 38 rfl) h
            · exact AE.sub (L' := [none, none, none, none, none, none, none, none, none]) trivial (hj52  V7 h)
    · exact AE.sub (L' := [none, none, none, none, none, none, none, none, none]) trivial (hj24  V3 h)
def d_X2_replaceGust (i : Nat) (x2 : Int32) (x3 : Int32) (V : am_V) : am_R := rI (d_X6_hasPath i x2 V) (fun (y2 : Int32) (V1 : am_V) => (if ¬ y2 = 0 then rI (d_X2_isDigit x3 V1) (fun (y4 : Int32) (V3 : am_V) => (if ¬ y4 = 0 then rG (am_in x2 16) (rG (am_in x2 16) (rV (am_set V3 (sS i + 8) (iN x2) x3) (fun (V5 : am_V) => some (.inl (some (.int (V3 (sS i + 8) (iN x2)))), V5)))) else some (.inl (some (.int (-2))), V3))) else some (.inl (some (.int (-1))), V1)))
set_option maxRecDepth 100000 in
set_option maxHeartbeats 4000000 in
theorem kX2_replaceGust {U : am_U} {l : Launch} (B : am_base xx U) (hfl : l.stackTraces = false) {V : am_V} {i : Nat} {x2 : Int32} {x3 : Int32} (hi : i < 12) {r : (Option Value ⊕ String) × am_V} (h : d_X2_replaceGust i x2 x3 V = some r) : am_Ct xx U l yX2_replaceGust cX2_replaceGust 5 (some .int) (rk 1 0 21) [.ref (12), .ref (sS i), .int (x2), .int (x3)] V (am_is r.1 r.2) := by
  refine am_Ct.of B hfl (by decide) (Nat.le_of_ble_eq_true rfl) ?_
  intro G hgl hgR hr ok h0 hex
  have K : aK U l G RX2 cX2_replaceGust 5 (some .int) 1 0 21 := ⟨hgl, hgR, hr, ok, h0⟩
  unfold d_X2_replaceGust at h
  show AE U G 5 1 0 21 r 0 V 0 [some (.ref (12)), some (.ref (sS i)), some (.int (x2)), some (.int (x3)), none] []
  refine AE.run K eX2_replaceGust 0 1 (show am_run 5 ((tX2_replaceGust.drop 0).take 1) 0 [some (.ref (12)), some (.ref (sS i)), some (.int (x2)), some (.int (x3)), none] [] = some (1, [some (.ref (12)), some (.ref (sS i)), some (.int (x2)), some (.int (x3)), none], [.ref (sS i)]) from rfl) ?_
  refine AE.getR K gf_X2_18 (sh_S0 hi) rfl (am_at eX2_replaceGust 1 rfl) ?_
  refine AE.run K eX2_replaceGust 2 1 (show am_run 5 ((tX2_replaceGust.drop 2).take 1) 4 [some (.ref (12)), some (.ref (sS i)), some (.int (x2)), some (.int (x3)), none] [.ref (sS i + 1)] = some (5, [some (.ref (12)), some (.ref (sS i)), some (.int (x2)), some (.int (x3)), none], [.int (x2), .ref (sS i + 1)]) from rfl) ?_
  refine AE.cv (f' := 0) (c' := 0) (lo' := 0) (st := []) (As := [.int (x2)]) (m := d_X6_hasPath i x2 V) K hex (fun q hq => kX6_hasPath B hfl (i := i) hi hq) cv_X2_81 (sh_S1 hi) (T := TX6) (N := 8) rfl rfl rfl (Nat.le_of_ble_eq_true rfl) ⟨Nat.le_of_ble_eq_true rfl, Nat.le_of_ble_eq_true rfl⟩ (by omega) (am_at eX2_replaceGust 3 rfl) h (rI_some h) (bkI (fun y2 V1 h => ?_))
  refine AE.if0 K 13 (am_at eX2_replaceGust 4 rfl) (by decide) rfl h (fun h => ?_) (fun h => ?_)
  · refine AE.run K eX2_replaceGust 7 1 (show am_run 5 ((tX2_replaceGust.drop 7).take 1) 13 [some (.ref (12)), some (.ref (sS i)), some (.int (x2)), some (.int (x3)), none] [] = some (14, [some (.ref (12)), some (.ref (sS i)), some (.int (x2)), some (.int (x3)), none], [.int (x3)]) from rfl) ?_
    refine AE.cs (f' := 0) (c' := 0) (lo' := 0) (st := []) (As := [.int (x3)]) (m := d_X2_isDigit x3 V1) K hex (fun q hq => kX2_isDigit B hfl hq) cs_X2_24 rfl rfl (Nat.le_of_ble_eq_true rfl) ⟨Nat.le_of_ble_eq_true rfl, Nat.le_of_ble_eq_true rfl⟩ (by omega) (am_at eX2_replaceGust 8 rfl) h (rI_some h) (bkI (fun y4 V3 h => ?_))
    refine AE.if0 K 23 (am_at eX2_replaceGust 9 rfl) (by decide) rfl h (fun h => ?_) (fun h => ?_)
    · refine AE.run K eX2_replaceGust 12 1 (show am_run 5 ((tX2_replaceGust.drop 12).take 1) 23 [some (.ref (12)), some (.ref (sS i)), some (.int (x2)), some (.int (x3)), none] [] = some (24, [some (.ref (12)), some (.ref (sS i)), some (.int (x2)), some (.int (x3)), none], [.ref (sS i)]) from rfl) ?_
      refine AE.getR K gf_X2_18 (sh_S0 hi) rfl (am_at eX2_replaceGust 13 rfl) ?_
      refine AE.getR K gf_X2_72 (sh_S1 hi) rfl (am_at eX2_replaceGust 14 rfl) ?_
      refine AE.run K eX2_replaceGust 15 1 (show am_run 5 ((tX2_replaceGust.drop 15).take 1) 30 [some (.ref (12)), some (.ref (sS i)), some (.int (x2)), some (.int (x3)), none] [.ref (sS i + 8)] = some (31, [some (.ref (12)), some (.ref (sS i)), some (.int (x2)), some (.int (x3)), none], [.int (x2), .ref (sS i + 8)]) from rfl) ?_
      refine AE.iald K (sh_S8 hi) (am_at eX2_replaceGust 16 rfl) h (fun h => ?_)
      refine AE.run K eX2_replaceGust 17 2 (show am_run 5 ((tX2_replaceGust.drop 17).take 2) 32 [some (.ref (12)), some (.ref (sS i)), some (.int (x2)), some (.int (x3)), none] [.int (V3 (sS i + 8) (iN x2))] = some (35, [some (.ref (12)), some (.ref (sS i)), some (.int (x2)), some (.int (x3)), some (.int (V3 (sS i + 8) (iN x2)))], [.ref (sS i)]) from rfl) ?_
      refine AE.getR K gf_X2_18 (sh_S0 hi) rfl (am_at eX2_replaceGust 19 rfl) ?_
      refine AE.getR K gf_X2_72 (sh_S1 hi) rfl (am_at eX2_replaceGust 20 rfl) ?_
      refine AE.run K eX2_replaceGust 21 2 (show am_run 5 ((tX2_replaceGust.drop 21).take 2) 41 [some (.ref (12)), some (.ref (sS i)), some (.int (x2)), some (.int (x3)), some (.int (V3 (sS i + 8) (iN x2)))] [.ref (sS i + 8)] = some (43, [some (.ref (12)), some (.ref (sS i)), some (.int (x2)), some (.int (x3)), some (.int (V3 (sS i + 8) (iN x2)))], [.int (x3), .int (x2), .ref (sS i + 8)]) from rfl) ?_
      refine AE.iast K (sh_S8 hi) (wr_S (i := i) (k := 8) hi (by decide)) (am_at eX2_replaceGust 23 rfl) h (fun V5 h => ?_)
      refine AE.run K eX2_replaceGust 24 1 (show am_run 5 ((tX2_replaceGust.drop 24).take 1) 44 [some (.ref (12)), some (.ref (sS i)), some (.int (x2)), some (.int (x3)), some (.int (V3 (sS i + 8) (iN x2)))] [] = some (46, [some (.ref (12)), some (.ref (sS i)), some (.int (x2)), some (.int (x3)), some (.int (V3 (sS i + 8) (iN x2)))], [.int (V3 (sS i + 8) (iN x2))]) from rfl) ?_
      exact AE.iret K (by omega) (am_at eX2_replaceGust 25 rfl) h
    · refine AE.run K eX2_replaceGust 10 1 (show am_run 5 ((tX2_replaceGust.drop 10).take 1) 20 [some (.ref (12)), some (.ref (sS i)), some (.int (x2)), some (.int (x3)), none] [] = some (22, [some (.ref (12)), some (.ref (sS i)), some (.int (x2)), some (.int (x3)), none], [.int (-2)]) from rfl) ?_
      exact AE.iret K (by omega) (am_at eX2_replaceGust 11 rfl) h
  · refine AE.run K eX2_replaceGust 5 1 (show am_run 5 ((tX2_replaceGust.drop 5).take 1) 11 [some (.ref (12)), some (.ref (sS i)), some (.int (x2)), some (.int (x3)), none] [] = some (12, [some (.ref (12)), some (.ref (sS i)), some (.int (x2)), some (.int (x3)), none], [.int (-1)]) from rfl) ?_
    exact AE.iret K (by omega) (am_at eX2_replaceGust 6 rfl) h
def d_X2_replaceBlocked (i : Nat) (x2 : Int32) (x3 : Int32) (V : am_V) : am_R := rI (d_X6_hasPath i x2 V) (fun (y2 : Int32) (V1 : am_V) => (if ¬ y2 = 0 then rI (d_X6_isOpen i x2 V1) (fun (y4 : Int32) (V3 : am_V) => (if y4 = x3 then rV (am_set V3 (sS i + 1) 5 ((V3 (sS i + 1) 5) ^^^ ((nI 1) <<< (x2 &&& 31)))) (fun (V5 : am_V) => rI (d_X6_closedTotal i V5) (fun (y7 : Int32) (V6 : am_V) => some (.inl (some (.int (y7))), V6))) else rI (d_X6_closedTotal i V3) (fun (y9 : Int32) (V8 : am_V) => rI (d_X2_reject (nI 4) y9 V8) (fun (y11 : Int32) (V10 : am_V) => some (.inl (some (.int (y11))), V10))))) else some (.inl (some (.int (-1))), V1)))
set_option maxRecDepth 100000 in
set_option maxHeartbeats 4000000 in
theorem kX2_replaceBlocked {U : am_U} {l : Launch} (B : am_base xx U) (hfl : l.stackTraces = false) {V : am_V} {i : Nat} {x2 : Int32} {x3 : Int32} (hi : i < 12) {r : (Option Value ⊕ String) × am_V} (h : d_X2_replaceBlocked i x2 x3 V = some r) : am_Ct xx U l yX2_replaceBlocked cX2_replaceBlocked 5 (some .int) (rk 3 0 80) [.ref (12), .ref (sS i), .int (x2), .int (x3)] V (am_is r.1 r.2) := by
  refine am_Ct.of B hfl (by decide) (Nat.le_of_ble_eq_true rfl) ?_
  intro G hgl hgR hr ok h0 hex
  have K : aK U l G RX2 cX2_replaceBlocked 5 (some .int) 3 0 80 := ⟨hgl, hgR, hr, ok, h0⟩
  unfold d_X2_replaceBlocked at h
  show AE U G 5 3 0 80 r 0 V 0 [some (.ref (12)), some (.ref (sS i)), some (.int (x2)), some (.int (x3)), none] []
  refine AE.run K eX2_replaceBlocked 0 1 (show am_run 5 ((tX2_replaceBlocked.drop 0).take 1) 0 [some (.ref (12)), some (.ref (sS i)), some (.int (x2)), some (.int (x3)), none] [] = some (1, [some (.ref (12)), some (.ref (sS i)), some (.int (x2)), some (.int (x3)), none], [.ref (sS i)]) from rfl) ?_
  refine AE.getR K gf_X2_18 (sh_S0 hi) rfl (am_at eX2_replaceBlocked 1 rfl) ?_
  refine AE.run K eX2_replaceBlocked 2 3 (show am_run 5 ((tX2_replaceBlocked.drop 2).take 3) 4 [some (.ref (12)), some (.ref (sS i)), some (.int (x2)), some (.int (x3)), none] [.ref (sS i + 1)] = some (9, [some (.ref (12)), some (.ref (sS i)), some (.int (x2)), some (.int (x3)), some (.ref (sS i + 1))], [.int (x2), .ref (sS i + 1)]) from rfl) ?_
  refine AE.cv (f' := 0) (c' := 0) (lo' := 0) (st := []) (As := [.int (x2)]) (m := d_X6_hasPath i x2 V) K hex (fun q hq => kX6_hasPath B hfl (i := i) hi hq) cv_X2_81 (sh_S1 hi) (T := TX6) (N := 8) rfl rfl rfl (Nat.le_of_ble_eq_true rfl) ⟨Nat.le_of_ble_eq_true rfl, Nat.le_of_ble_eq_true rfl⟩ (by omega) (am_at eX2_replaceBlocked 5 rfl) h (rI_some h) (bkI (fun y2 V1 h => ?_))
  refine AE.if0 K 17 (am_at eX2_replaceBlocked 6 rfl) (by decide) rfl h (fun h => ?_) (fun h => ?_)
  · refine AE.run K eX2_replaceBlocked 9 2 (show am_run 5 ((tX2_replaceBlocked.drop 9).take 2) 17 [some (.ref (12)), some (.ref (sS i)), some (.int (x2)), some (.int (x3)), some (.ref (sS i + 1))] [] = some (20, [some (.ref (12)), some (.ref (sS i)), some (.int (x2)), some (.int (x3)), some (.ref (sS i + 1))], [.int (x2), .ref (sS i + 1)]) from rfl) ?_
    refine AE.cv (f' := 0) (c' := 0) (lo' := 0) (st := []) (As := [.int (x2)]) (m := d_X6_isOpen i x2 V1) K hex (fun q hq => kX6_isOpen B hfl (i := i) hi hq) cv_X2_84 (sh_S1 hi) (T := TX6) (N := 8) rfl rfl rfl (Nat.le_of_ble_eq_true rfl) ⟨Nat.le_of_ble_eq_true rfl, Nat.le_of_ble_eq_true rfl⟩ (by omega) (am_at eX2_replaceBlocked 11 rfl) h (rI_some h) (bkI (fun y4 V3 h => ?_))
    refine AE.run K eX2_replaceBlocked 12 1 (show am_run 5 ((tX2_replaceBlocked.drop 12).take 1) 23 [some (.ref (12)), some (.ref (sS i)), some (.int (x2)), some (.int (x3)), some (.ref (sS i + 1))] [.int (y4)] = some (24, [some (.ref (12)), some (.ref (sS i)), some (.int (x2)), some (.int (x3)), some (.ref (sS i + 1))], [.int (x3), .int (y4)]) from rfl) ?_
    refine AE.ic K 38 (am_at eX2_replaceBlocked 13 rfl) (by decide) rfl h (fun h => ?_) (fun h => ?_)
    · refine AE.run K eX2_replaceBlocked 20 2 (show am_run 5 ((tX2_replaceBlocked.drop 20).take 2) 38 [some (.ref (12)), some (.ref (sS i)), some (.int (x2)), some (.int (x3)), some (.ref (sS i + 1))] [] = some (41, [some (.ref (12)), some (.ref (sS i)), some (.int (x2)), some (.int (x3)), some (.ref (sS i + 1))], [.ref (sS i + 1), .ref (sS i + 1)]) from rfl) ?_
      refine AE.getI K gf_X2_75 (sh_S1 hi) rfl (am_at eX2_replaceBlocked 22 rfl) ?_
      refine AE.run K eX2_replaceBlocked 23 4 (show am_run 5 ((tX2_replaceBlocked.drop 23).take 4) 44 [some (.ref (12)), some (.ref (sS i)), some (.int (x2)), some (.int (x3)), some (.ref (sS i + 1))] [.int (V3 (sS i + 1) 5), .ref (sS i + 1)] = some (48, [some (.ref (12)), some (.ref (sS i)), some (.int (x2)), some (.int (x3)), some (.ref (sS i + 1))], [.int ((V3 (sS i + 1) 5) ^^^ ((nI 1) <<< (x2 &&& 31))), .ref (sS i + 1)]) from rfl) ?_
      refine AE.putI K pf_X2_75 (sh_S1 hi) (wr_S (i := i) (k := 1) hi (by decide)) rfl (am_at eX2_replaceBlocked 27 rfl) h (fun V5 h => ?_)
      refine AE.run K eX2_replaceBlocked 28 1 (show am_run 5 ((tX2_replaceBlocked.drop 28).take 1) 51 [some (.ref (12)), some (.ref (sS i)), some (.int (x2)), some (.int (x3)), some (.ref (sS i + 1))] [] = some (53, [some (.ref (12)), some (.ref (sS i)), some (.int (x2)), some (.int (x3)), some (.ref (sS i + 1))], [.ref (sS i + 1)]) from rfl) ?_
      refine AE.cv (f' := 2) (c' := 0) (lo' := 60) (st := []) (As := []) (m := d_X6_closedTotal i V5) K hex (fun q hq => kX6_closedTotal B hfl (i := i) hi hq) cv_X2_56 (sh_S1 hi) (T := TX6) (N := 8) rfl rfl rfl (Nat.le_of_ble_eq_true rfl) ⟨Nat.le_of_ble_eq_true rfl, Nat.le_of_ble_eq_true rfl⟩ (by omega) (am_at eX2_replaceBlocked 29 rfl) h (rI_some h) (bkI (fun y7 V6 h => ?_))
      exact AE.iret K (by omega) (am_at eX2_replaceBlocked 30 rfl) h
    · refine AE.run K eX2_replaceBlocked 14 3 (show am_run 5 ((tX2_replaceBlocked.drop 14).take 3) 27 [some (.ref (12)), some (.ref (sS i)), some (.int (x2)), some (.int (x3)), some (.ref (sS i + 1))] [] = some (31, [some (.ref (12)), some (.ref (sS i)), some (.int (x2)), some (.int (x3)), some (.ref (sS i + 1))], [.ref (sS i + 1), .int (nI 4), .ref (12)]) from rfl) ?_
      refine AE.cv (f' := 2) (c' := 0) (lo' := 60) (st := [.int (nI 4), .ref (12)]) (As := []) (m := d_X6_closedTotal i V3) K hex (fun q hq => kX6_closedTotal B hfl (i := i) hi hq) cv_X2_56 (sh_S1 hi) (T := TX6) (N := 8) rfl rfl rfl (Nat.le_of_ble_eq_true rfl) ⟨Nat.le_of_ble_eq_true rfl, Nat.le_of_ble_eq_true rfl⟩ (by omega) (am_at eX2_replaceBlocked 17 rfl) h (rI_some h) (bkI (fun y9 V8 h => ?_))
      refine AE.cv (f' := 0) (c' := 0) (lo' := 0) (st := []) (As := [.int (nI 4), .int (y9)]) (m := d_X2_reject (nI 4) y9 V8) K hex (fun q hq => kX2_reject B hfl hq) cv_X2_33 rfl (T := TX2) (N := 2) rfl rfl rfl (Nat.le_of_ble_eq_true rfl) ⟨Nat.le_of_ble_eq_true rfl, Nat.le_of_ble_eq_true rfl⟩ (by omega) (am_at eX2_replaceBlocked 18 rfl) h (rI_some h) (bkI (fun y11 V10 h => ?_))
      exact AE.iret K (by omega) (am_at eX2_replaceBlocked 19 rfl) h
  · refine AE.run K eX2_replaceBlocked 7 1 (show am_run 5 ((tX2_replaceBlocked.drop 7).take 1) 15 [some (.ref (12)), some (.ref (sS i)), some (.int (x2)), some (.int (x3)), some (.ref (sS i + 1))] [] = some (16, [some (.ref (12)), some (.ref (sS i)), some (.int (x2)), some (.int (x3)), some (.ref (sS i + 1))], [.int (-1)]) from rfl) ?_
    exact AE.iret K (by omega) (am_at eX2_replaceBlocked 8 rfl) h
def d_X2_replaceSeed (i : Nat) (x2 : Int32) (V : am_V) : am_R := rB (fun (V_11 : am_V) => some (.inl (some (.int (-2))), V_11)) (fun (j11 : am_V → am_R) => (if x2 < 0 then j11 V else (if x2 < (nI 512) then rV (am_set V (sS i + 2) 7 x2) (fun (V1 : am_V) => some (.inl (some (.int (V (sS i + 2) 7))), V1)) else j11 V)))
set_option maxRecDepth 100000 in
set_option maxHeartbeats 4000000 in
theorem kX2_replaceSeed {U : am_U} {l : Launch} (B : am_base xx U) (hfl : l.stackTraces = false) {V : am_V} {i : Nat} {x2 : Int32} (hi : i < 12) {r : (Option Value ⊕ String) × am_V} (h : d_X2_replaceSeed i x2 V = some r) : am_Ct xx U l yX2_replaceSeed cX2_replaceSeed 4 (some .int) (rk 0 0 0) [.ref (12), .ref (sS i), .int (x2)] V (am_is r.1 r.2) := by
  refine am_Ct.of B hfl (by decide) (Nat.le_of_ble_eq_true rfl) ?_
  intro G hgl hgR hr ok h0 hex
  have K : aK U l G RX2 cX2_replaceSeed 4 (some .int) 0 0 0 := ⟨hgl, hgR, hr, ok, h0⟩
  unfold d_X2_replaceSeed at h
  show AE U G 4 0 0 0 r 0 V 0 [some (.ref (12)), some (.ref (sS i)), some (.int (x2)), none] []
  refine AE.run K eX2_replaceSeed 0 1 (show am_run 4 ((tX2_replaceSeed.drop 0).take 1) 0 [some (.ref (12)), some (.ref (sS i)), some (.int (x2)), none] [] = some (1, [some (.ref (12)), some (.ref (sS i)), some (.int (x2)), none], [.int (x2)]) from rfl) ?_
  refine rB_of (P := fun (j : am_V → am_R) => ∀ (V_11 : am_V), j V_11 = some r → AE U G 4 0 0 0 r 0 V_11 11 [none, none, none, none] []) h (fun V_11 h => ?_) (fun j11 hj11 h => ?_)
  · refine AE.run K eX2_replaceSeed 5 1 (show am_run 4 ((tX2_replaceSeed.drop 5).take 1) 11 [none, none, none, none] [] = some (13, [none, none, none, none], [.int (-2)]) from rfl) ?_
    exact AE.iret K (by omega) (am_at eX2_replaceSeed 6 rfl) h
  refine AE.if0 K 11 (am_at eX2_replaceSeed 1 rfl) (by decide) rfl h (fun h => ?_) (fun h => ?_)
  · exact AE.sub (L' := [none, none, none, none]) trivial (hj11  V h)
  · refine AE.run K eX2_replaceSeed 2 2 (show am_run 4 ((tX2_replaceSeed.drop 2).take 2) 4 [some (.ref (12)), some (.ref (sS i)), some (.int (x2)), none] [] = some (8, [some (.ref (12)), some (.ref (sS i)), some (.int (x2)), none], [.int (nI 512), .int (x2)]) from rfl) ?_
    refine AE.ic K 14 (am_at eX2_replaceSeed 4 rfl) (by decide) rfl h (fun h => ?_) (fun h => ?_)
    · refine AE.run K eX2_replaceSeed 7 1 (show am_run 4 ((tX2_replaceSeed.drop 7).take 1) 14 [some (.ref (12)), some (.ref (sS i)), some (.int (x2)), none] [] = some (15, [some (.ref (12)), some (.ref (sS i)), some (.int (x2)), none], [.ref (sS i)]) from rfl) ?_
      refine AE.getR K gf_X2_41 (sh_S0 hi) rfl (am_at eX2_replaceSeed 8 rfl) ?_
      refine AE.getI K gf_X2_87 (sh_S2 hi) rfl (am_at eX2_replaceSeed 9 rfl) ?_
      refine AE.run K eX2_replaceSeed 10 2 (show am_run 4 ((tX2_replaceSeed.drop 10).take 2) 21 [some (.ref (12)), some (.ref (sS i)), some (.int (x2)), none] [.int (V (sS i + 2) 7)] = some (23, [some (.ref (12)), some (.ref (sS i)), some (.int (x2)), some (.int (V (sS i + 2) 7))], [.ref (sS i)]) from rfl) ?_
      refine AE.getR K gf_X2_41 (sh_S0 hi) rfl (am_at eX2_replaceSeed 12 rfl) ?_
      refine AE.run K eX2_replaceSeed 13 1 (show am_run 4 ((tX2_replaceSeed.drop 13).take 1) 26 [some (.ref (12)), some (.ref (sS i)), some (.int (x2)), some (.int (V (sS i + 2) 7))] [.ref (sS i + 2)] = some (27, [some (.ref (12)), some (.ref (sS i)), some (.int (x2)), some (.int (V (sS i + 2) 7))], [.int (x2), .ref (sS i + 2)]) from rfl) ?_
      refine AE.putI K pf_X2_87 (sh_S2 hi) (wr_S (i := i) (k := 2) hi (by decide)) rfl (am_at eX2_replaceSeed 14 rfl) h (fun V1 h => ?_)
      refine AE.run K eX2_replaceSeed 15 1 (show am_run 4 ((tX2_replaceSeed.drop 15).take 1) 30 [some (.ref (12)), some (.ref (sS i)), some (.int (x2)), some (.int (V (sS i + 2) 7))] [] = some (31, [some (.ref (12)), some (.ref (sS i)), some (.int (x2)), some (.int (V (sS i + 2) 7))], [.int (V (sS i + 2) 7)]) from rfl) ?_
      exact AE.iret K (by omega) (am_at eX2_replaceSeed 16 rfl) h
    · exact AE.sub (L' := [none, none, none, none]) trivial (hj11  V h)
def bd_X2_beginBroadcast_86 (i : Nat) (x2 : Int32) (kx kr : Int32 → am_V → am_R) (a6_86 : Int32) (V_86 : am_V) : am_R := (if (nI 9) ≤ a6_86 then kx a6_86 V_86 else rB (fun (bs0_115 : Int32) (V_115 : am_V) => rG (am_in a6_86 9) (rV (am_set V_115 (sS i + 9) (iN a6_86) bs0_115) (fun (V10 : am_V) => kr (a6_86 + nI 1) V10))) (fun (j115 : Int32 → am_V → am_R) => (if ¬ a6_86 = x2 then j115 (nI 0) V_86 else rI (d_X1_allPackets i V_86) (fun (y9 : Int32) (V8 : am_V) => j115 y9 V8))))
def lp_X2_beginBroadcast_86 (i : Nat) (x2 : Int32) (kx : Int32 → am_V → am_R) : Nat → Int32 → am_V → am_R
  | 0, _, _ => none
  | f9 + 1, a6_86, V_86 => bd_X2_beginBroadcast_86 i x2 kx (lp_X2_beginBroadcast_86 i x2 kx f9) a6_86 V_86
def d_X2_beginBroadcast (i : Nat) (x2 : Int32) (x3 : Int32) (x4 : Int32) (V : am_V) : am_R := rI (d_X6_hasField i x2 V) (fun (y2 : Int32) (V1 : am_V) => (if ¬ y2 = 0 then rB (fun (V_30 : am_V) => some (.inl (some (.int (-2))), V_30)) (fun (j30 : am_V → am_R) => (if x3 < (nI 1) then j30 V1 else (if x3 ≤ (nI 6) then (if (V1 (sS i + 2) 2) = 0 then rG (am_nb (nI 1)) (rV (am_set V1 (sS i + 2) 2 (nI 1)) (fun (V3 : am_V) => rV (am_set V3 (sS i + 2) 3 x2) (fun (V4 : am_V) => rV (am_set V4 (sS i + 2) 4 x3) (fun (V5 : am_V) => rG (am_nb x4) (rV (am_set V5 (sS i + 2) 5 x4) (fun (V6 : am_V) => rV (am_set V6 (sS i + 2) 6 (nI 0)) (fun (V7 : am_V) => lp_X2_beginBroadcast_86 i x2 (fun (a6_86 : Int32) (V_86x : am_V) => rV (am_set V_86x (sS i + 2) 1 ((V_86x (sS i + 2) 1) + (nI 1))) (fun (V11 : am_V) => some (.inl (some (.int (V11 (sS i + 2) 1))), V11))) 1000 (nI 0) V7))))))) else rI (d_X2_reject (nI 5) (V1 (sS i + 2) 6) V1) (fun (y13 : Int32) (V12 : am_V) => some (.inl (some (.int (y13))), V12))) else j30 V1))) else some (.inl (some (.int (-1))), V1)))
set_option maxRecDepth 100000 in
set_option maxHeartbeats 4000000 in
theorem bk_X2_beginBroadcast_86 {U : am_U} {l : Launch} (B : am_base xx U) (hfl : l.stackTraces = false) {G : am_G} (K : aK U l G RX2 cX2_beginBroadcast 7 (some .int) 2 0 40) (hex : am_nx G) {r : (Option Value ⊕ String) × am_V} {i : Nat} {x2 : Int32} (hi : i < 12) {kc : Nat} (hkc : kc ≤ 0) {kx kr : Int32 → am_V → am_R} (hx : ∀ (a6_86 : Int32) (Vq : am_V), kx a6_86 Vq = some r → AE U G 7 2 0 40 r kc Vq 122 [none, none, none, none, none, some (.ref (sS i + 2)), none] []) (hr : ∀ (a6_86 : Int32) (Vq : am_V), kr a6_86 Vq = some r → AE U G 7 2 0 40 r kc Vq 86 [none, none, some (.int (x2)), none, none, some (.ref (sS i + 2)), some (.int (a6_86))] []) (a6_86 : Int32) (V_86 : am_V) (h : bd_X2_beginBroadcast_86 i x2 kx kr a6_86 V_86 = some r) : AE U G 7 2 0 40 r kc V_86 86 [none, none, some (.int (x2)), none, none, some (.ref (sS i + 2)), some (.int (a6_86))] [] := by
  unfold bd_X2_beginBroadcast_86 at h
  refine AE.run K eX2_beginBroadcast 44 2 (show am_run 7 ((tX2_beginBroadcast.drop 44).take 2) 86 [none, none, some (.int (x2)), none, none, some (.ref (sS i + 2)), some (.int (a6_86))] [] = some (90, [none, none, some (.int (x2)), none, none, some (.ref (sS i + 2)), some (.int (a6_86))], [.int (nI 9), .int (a6_86)]) from rfl) ?_
  refine AE.ic K 122 (am_at eX2_beginBroadcast 46 rfl) (by decide) rfl h (fun h => ?_) (fun h => ?_)
  · exact AE.sub (L' := [none, none, none, none, none, some (.ref (sS i + 2)), none]) (And.intro rfl trivial) (hx a6_86 V_86 h)
  · refine AE.run K eX2_beginBroadcast 47 1 (show am_run 7 ((tX2_beginBroadcast.drop 47).take 1) 93 [none, none, some (.int (x2)), none, none, some (.ref (sS i + 2)), some (.int (a6_86))] [] = some (95, [none, none, some (.int (x2)), none, none, some (.ref (sS i + 2)), some (.int (a6_86))], [.ref (sS i + 2)]) from rfl) ?_
    refine AE.getR K gf_X2_45 (sh_S2 hi) rfl (am_at eX2_beginBroadcast 48 rfl) ?_
    refine AE.run K eX2_beginBroadcast 49 3 (show am_run 7 ((tX2_beginBroadcast.drop 49).take 3) 98 [none, none, some (.int (x2)), none, none, some (.ref (sS i + 2)), some (.int (a6_86))] [.ref (sS i + 9)] = some (103, [none, none, some (.int (x2)), none, none, some (.ref (sS i + 2)), some (.int (a6_86))], [.int (x2), .int (a6_86), .int (a6_86), .ref (sS i + 9)]) from rfl) ?_
    refine rB_of (P := fun (j : Int32 → am_V → am_R) => ∀ (bs0_115 : Int32) (V_115 : am_V), j bs0_115 V_115 = some r → AE U G 7 2 0 40 r (kc) V_115 115 [none, none, some (.int (x2)), none, none, some (.ref (sS i + 2)), some (.int (a6_86))] [.int (bs0_115), .int (a6_86), .ref (sS i + 9)]) h (fun bs0_115 V_115 h => ?_) (fun j115 hj115 h => ?_)
    · refine AE.iast K (sh_S9 hi) (wr_S (i := i) (k := 9) hi (by decide)) (am_at eX2_beginBroadcast 57 rfl) h (fun V10 h => ?_)
      refine AE.run K eX2_beginBroadcast 58 2 (show am_run 7 ((tX2_beginBroadcast.drop 58).take 2) 116 [none, none, some (.int (x2)), none, none, some (.ref (sS i + 2)), some (.int (a6_86))] [] = some (86, [none, none, some (.int (x2)), none, none, some (.ref (sS i + 2)), some (.int (a6_86 + nI 1))], []) from rfl) ?_
      exact AE.sub (L' := [none, none, some (.int (x2)), none, none, some (.ref (sS i + 2)), some (.int (a6_86 + nI 1))]) (And.intro rfl (And.intro rfl (And.intro rfl trivial))) (hr (a6_86 + nI 1) V10 h)
    refine AE.ic K 114 (am_at eX2_beginBroadcast 52 rfl) (by decide) rfl h (fun h => ?_) (fun h => ?_)
    · refine AE.run K eX2_beginBroadcast 56 1 (show am_run 7 ((tX2_beginBroadcast.drop 56).take 1) 114 [none, none, some (.int (x2)), none, none, some (.ref (sS i + 2)), some (.int (a6_86))] [.int (a6_86), .ref (sS i + 9)] = some (115, [none, none, some (.int (x2)), none, none, some (.ref (sS i + 2)), some (.int (a6_86))], [.int (nI 0), .int (a6_86), .ref (sS i + 9)]) from rfl) ?_
      exact (hj115 (nI 0) V_86 h)
    · refine AE.run K eX2_beginBroadcast 53 1 (show am_run 7 ((tX2_beginBroadcast.drop 53).take 1) 106 [none, none, some (.int (x2)), none, none, some (.ref (sS i + 2)), some (.int (a6_86))] [.int (a6_86), .ref (sS i + 9)] = some (108, [none, none, some (.int (x2)), none, none, some (.ref (sS i + 2)), some (.int (a6_86))], [.ref (sS i + 2), .int (a6_86), .ref (sS i + 9)]) from rfl) ?_
      refine AE.cv (f' := 1) (c' := 0) (lo' := 20) (st := [.int (a6_86), .ref (sS i + 9)]) (As := []) (m := d_X1_allPackets i V_86) K hex (fun q hq => kX1_allPackets B hfl (i := i) hi hq) cv_X2_106 (sh_S2 hi) (T := TX1) (N := 8) rfl rfl rfl (Nat.le_of_ble_eq_true rfl) ⟨Nat.le_of_ble_eq_true rfl, Nat.le_of_ble_eq_true rfl⟩ (by omega) (am_at eX2_beginBroadcast 54 rfl) h (rI_some h) (bkI (fun y9 V8 h => ?_))
      refine AE.run K eX2_beginBroadcast 55 1 (show am_run 7 ((tX2_beginBroadcast.drop 55).take 1) 111 [none, none, some (.int (x2)), none, none, some (.ref (sS i + 2)), some (.int (a6_86))] [.int (y9), .int (a6_86), .ref (sS i + 9)] = some (115, [none, none, some (.int (x2)), none, none, some (.ref (sS i + 2)), some (.int (a6_86))], [.int (y9), .int (a6_86), .ref (sS i + 9)]) from rfl) ?_
      exact (hj115 y9 V8 h)
theorem lk_X2_beginBroadcast_86 {U : am_U} {l : Launch} (B : am_base xx U) (hfl : l.stackTraces = false) {G : am_G} (K : aK U l G RX2 cX2_beginBroadcast 7 (some .int) 2 0 40) (hex : am_nx G) {r : (Option Value ⊕ String) × am_V} {i : Nat} {x2 : Int32} (hi : i < 12) {kc : Nat} (hkc : kc ≤ 0) {kx : Int32 → am_V → am_R} (hx : ∀ (a6_86 : Int32) (Vq : am_V), kx a6_86 Vq = some r → AE U G 7 2 0 40 r kc Vq 122 [none, none, none, none, none, some (.ref (sS i + 2)), none] []) : ∀ (f9 : Nat) (a6_86 : Int32) (Vq : am_V), lp_X2_beginBroadcast_86 i x2 kx f9 a6_86 Vq = some r → AE U G 7 2 0 40 r kc Vq 86 [none, none, some (.int (x2)), none, none, some (.ref (sS i + 2)), some (.int (a6_86))] [] := by
  intro f9
  induction f9 with
  | zero =>
    intro a6_86 Vq h
    cases h
  | succ f9 ih =>
    intro a6_86 Vq h
    exact bk_X2_beginBroadcast_86 B hfl K hex hi hkc hx ih a6_86 Vq h
set_option maxRecDepth 100000 in
set_option maxHeartbeats 4000000 in
theorem kX2_beginBroadcast {U : am_U} {l : Launch} (B : am_base xx U) (hfl : l.stackTraces = false) {V : am_V} {i : Nat} {x2 : Int32} {x3 : Int32} {x4 : Int32} (hi : i < 12) {r : (Option Value ⊕ String) × am_V} (h : d_X2_beginBroadcast i x2 x3 x4 V = some r) : am_Ct xx U l yX2_beginBroadcast cX2_beginBroadcast 7 (some .int) (rk 2 0 40) [.ref (12), .ref (sS i), .int (x2), .int (x3), .int (x4)] V (am_is r.1 r.2) := by
  refine am_Ct.of B hfl (by decide) (Nat.le_of_ble_eq_true rfl) ?_
  intro G hgl hgR hr ok h0 hex
  have K : aK U l G RX2 cX2_beginBroadcast 7 (some .int) 2 0 40 := ⟨hgl, hgR, hr, ok, h0⟩
  unfold d_X2_beginBroadcast at h
  show AE U G 7 2 0 40 r 0 V 0 [some (.ref (12)), some (.ref (sS i)), some (.int (x2)), some (.int (x3)), some (.int (x4)), none, none] []
  refine AE.run K eX2_beginBroadcast 0 1 (show am_run 7 ((tX2_beginBroadcast.drop 0).take 1) 0 [some (.ref (12)), some (.ref (sS i)), some (.int (x2)), some (.int (x3)), some (.int (x4)), none, none] [] = some (1, [some (.ref (12)), some (.ref (sS i)), some (.int (x2)), some (.int (x3)), some (.int (x4)), none, none], [.ref (sS i)]) from rfl) ?_
  refine AE.getR K gf_X2_41 (sh_S0 hi) rfl (am_at eX2_beginBroadcast 1 rfl) ?_
  refine AE.run K eX2_beginBroadcast 2 2 (show am_run 7 ((tX2_beginBroadcast.drop 2).take 2) 4 [some (.ref (12)), some (.ref (sS i)), some (.int (x2)), some (.int (x3)), some (.int (x4)), none, none] [.ref (sS i + 2)] = some (7, [some (.ref (12)), some (.ref (sS i)), some (.int (x2)), some (.int (x3)), some (.int (x4)), some (.ref (sS i + 2)), none], [.ref (sS i)]) from rfl) ?_
  refine AE.getR K gf_X2_18 (sh_S0 hi) rfl (am_at eX2_beginBroadcast 4 rfl) ?_
  refine AE.run K eX2_beginBroadcast 5 1 (show am_run 7 ((tX2_beginBroadcast.drop 5).take 1) 10 [some (.ref (12)), some (.ref (sS i)), some (.int (x2)), some (.int (x3)), some (.int (x4)), some (.ref (sS i + 2)), none] [.ref (sS i + 1)] = some (11, [some (.ref (12)), some (.ref (sS i)), some (.int (x2)), some (.int (x3)), some (.int (x4)), some (.ref (sS i + 2)), none], [.int (x2), .ref (sS i + 1)]) from rfl) ?_
  refine AE.cv (f' := 0) (c' := 0) (lo' := 0) (st := []) (As := [.int (x2)]) (m := d_X6_hasField i x2 V) K hex (fun q hq => kX6_hasField B hfl (i := i) hi hq) cv_X2_50 (sh_S1 hi) (T := TX6) (N := 8) rfl rfl rfl (Nat.le_of_ble_eq_true rfl) ⟨Nat.le_of_ble_eq_true rfl, Nat.le_of_ble_eq_true rfl⟩ (by omega) (am_at eX2_beginBroadcast 6 rfl) h (rI_some h) (bkI (fun y2 V1 h => ?_))
  refine AE.if0 K 19 (am_at eX2_beginBroadcast 7 rfl) (by decide) rfl h (fun h => ?_) (fun h => ?_)
  · refine AE.run K eX2_beginBroadcast 10 2 (show am_run 7 ((tX2_beginBroadcast.drop 10).take 2) 19 [some (.ref (12)), some (.ref (sS i)), some (.int (x2)), some (.int (x3)), some (.int (x4)), some (.ref (sS i + 2)), none] [] = some (21, [some (.ref (12)), some (.ref (sS i)), some (.int (x2)), some (.int (x3)), some (.int (x4)), some (.ref (sS i + 2)), none], [.int (nI 1), .int (x3)]) from rfl) ?_
    refine rB_of (P := fun (j : am_V → am_R) => ∀ (V_30 : am_V), j V_30 = some r → AE U G 7 2 0 40 r 0 V_30 30 [none, none, none, none, none, none, none] []) h (fun V_30 h => ?_) (fun j30 hj30 h => ?_)
    · refine AE.run K eX2_beginBroadcast 16 1 (show am_run 7 ((tX2_beginBroadcast.drop 16).take 1) 30 [none, none, none, none, none, none, none] [] = some (32, [none, none, none, none, none, none, none], [.int (-2)]) from rfl) ?_
      exact AE.iret K (by omega) (am_at eX2_beginBroadcast 17 rfl) h
    refine AE.ic K 30 (am_at eX2_beginBroadcast 12 rfl) (by decide) rfl h (fun h => ?_) (fun h => ?_)
    · exact AE.sub (L' := [none, none, none, none, none, none, none]) trivial (hj30  V1 h)
    · refine AE.run K eX2_beginBroadcast 13 2 (show am_run 7 ((tX2_beginBroadcast.drop 13).take 2) 24 [some (.ref (12)), some (.ref (sS i)), some (.int (x2)), some (.int (x3)), some (.int (x4)), some (.ref (sS i + 2)), none] [] = some (27, [some (.ref (12)), some (.ref (sS i)), some (.int (x2)), some (.int (x3)), some (.int (x4)), some (.ref (sS i + 2)), none], [.int (nI 6), .int (x3)]) from rfl) ?_
      refine AE.ic K 33 (am_at eX2_beginBroadcast 15 rfl) (by decide) rfl h (fun h => ?_) (fun h => ?_)
      · refine AE.run K eX2_beginBroadcast 18 1 (show am_run 7 ((tX2_beginBroadcast.drop 18).take 1) 33 [some (.ref (12)), some (.ref (sS i)), some (.int (x2)), some (.int (x3)), some (.int (x4)), some (.ref (sS i + 2)), none] [] = some (35, [some (.ref (12)), some (.ref (sS i)), some (.int (x2)), some (.int (x3)), some (.int (x4)), some (.ref (sS i + 2)), none], [.ref (sS i + 2)]) from rfl) ?_
        refine AE.getI K gf_X2_90 (sh_S2 hi) rfl (am_at eX2_beginBroadcast 19 rfl) ?_
        refine AE.if0 K 52 (am_at eX2_beginBroadcast 20 rfl) (by decide) rfl h (fun h => ?_) (fun h => ?_)
        · refine AE.run K eX2_beginBroadcast 27 2 (show am_run 7 ((tX2_beginBroadcast.drop 27).take 2) 52 [some (.ref (12)), some (.ref (sS i)), some (.int (x2)), some (.int (x3)), some (.int (x4)), some (.ref (sS i + 2)), none] [] = some (55, [some (.ref (12)), some (.ref (sS i)), some (.int (x2)), some (.int (x3)), some (.int (x4)), some (.ref (sS i + 2)), none], [.int (nI 1), .ref (sS i + 2)]) from rfl) ?_
          refine AE.putZ K pf_X2_90 (sh_S2 hi) (wr_S (i := i) (k := 2) hi (by decide)) rfl (am_at eX2_beginBroadcast 29 rfl) h (fun V3 h => ?_)
          refine AE.run K eX2_beginBroadcast 30 2 (show am_run 7 ((tX2_beginBroadcast.drop 30).take 2) 58 [some (.ref (12)), some (.ref (sS i)), some (.int (x2)), some (.int (x3)), some (.int (x4)), some (.ref (sS i + 2)), none] [] = some (61, [some (.ref (12)), some (.ref (sS i)), some (.int (x2)), some (.int (x3)), some (.int (x4)), some (.ref (sS i + 2)), none], [.int (x2), .ref (sS i + 2)]) from rfl) ?_
          refine AE.putI K pf_X2_97 (sh_S2 hi) (wr_S (i := i) (k := 2) hi (by decide)) rfl (am_at eX2_beginBroadcast 32 rfl) h (fun V4 h => ?_)
          refine AE.run K eX2_beginBroadcast 33 2 (show am_run 7 ((tX2_beginBroadcast.drop 33).take 2) 64 [some (.ref (12)), some (.ref (sS i)), some (.int (x2)), some (.int (x3)), some (.int (x4)), some (.ref (sS i + 2)), none] [] = some (67, [some (.ref (12)), some (.ref (sS i)), some (.int (x2)), some (.int (x3)), some (.int (x4)), some (.ref (sS i + 2)), none], [.int (x3), .ref (sS i + 2)]) from rfl) ?_
          refine AE.putI K pf_X2_100 (sh_S2 hi) (wr_S (i := i) (k := 2) hi (by decide)) rfl (am_at eX2_beginBroadcast 35 rfl) h (fun V5 h => ?_)
          refine AE.run K eX2_beginBroadcast 36 2 (show am_run 7 ((tX2_beginBroadcast.drop 36).take 2) 70 [some (.ref (12)), some (.ref (sS i)), some (.int (x2)), some (.int (x3)), some (.int (x4)), some (.ref (sS i + 2)), none] [] = some (74, [some (.ref (12)), some (.ref (sS i)), some (.int (x2)), some (.int (x3)), some (.int (x4)), some (.ref (sS i + 2)), none], [.int (x4), .ref (sS i + 2)]) from rfl) ?_
          refine AE.putZ K pf_X2_103 (sh_S2 hi) (wr_S (i := i) (k := 2) hi (by decide)) rfl (am_at eX2_beginBroadcast 38 rfl) h (fun V6 h => ?_)
          refine AE.run K eX2_beginBroadcast 39 2 (show am_run 7 ((tX2_beginBroadcast.drop 39).take 2) 77 [some (.ref (12)), some (.ref (sS i)), some (.int (x2)), some (.int (x3)), some (.int (x4)), some (.ref (sS i + 2)), none] [] = some (80, [some (.ref (12)), some (.ref (sS i)), some (.int (x2)), some (.int (x3)), some (.int (x4)), some (.ref (sS i + 2)), none], [.int (nI 0), .ref (sS i + 2)]) from rfl) ?_
          refine AE.putI K pf_X2_94 (sh_S2 hi) (wr_S (i := i) (k := 2) hi (by decide)) rfl (am_at eX2_beginBroadcast 41 rfl) h (fun V7 h => ?_)
          refine AE.run K eX2_beginBroadcast 42 2 (show am_run 7 ((tX2_beginBroadcast.drop 42).take 2) 83 [some (.ref (12)), some (.ref (sS i)), some (.int (x2)), some (.int (x3)), some (.int (x4)), some (.ref (sS i + 2)), none] [] = some (86, [some (.ref (12)), some (.ref (sS i)), some (.int (x2)), some (.int (x3)), some (.int (x4)), some (.ref (sS i + 2)), some (.int (nI 0))], []) from rfl) ?_
          refine AE.sub (L' := [none, none, some (.int (x2)), none, none, some (.ref (sS i + 2)), some (.int (nI 0))]) (And.intro rfl (And.intro rfl (And.intro rfl trivial))) ?_
          refine lk_X2_beginBroadcast_86 B hfl K hex hi (by omega) ?_ 1000 (nI 0) V7 h
          intro a6_86 V_86x h
          refine AE.run K eX2_beginBroadcast 60 2 (show am_run 7 ((tX2_beginBroadcast.drop 60).take 2) 122 [none, none, none, none, none, some (.ref (sS i + 2)), none] [] = some (125, [none, none, none, none, none, some (.ref (sS i + 2)), none], [.ref (sS i + 2), .ref (sS i + 2)]) from rfl) ?_
          refine AE.getI K gf_X2_109 (sh_S2 hi) rfl (am_at eX2_beginBroadcast 62 rfl) ?_
          refine AE.run K eX2_beginBroadcast 63 2 (show am_run 7 ((tX2_beginBroadcast.drop 63).take 2) 128 [none, none, none, none, none, some (.ref (sS i + 2)), none] [.int (V_86x (sS i + 2) 1), .ref (sS i + 2)] = some (130, [none, none, none, none, none, some (.ref (sS i + 2)), none], [.int ((V_86x (sS i + 2) 1) + (nI 1)), .ref (sS i + 2)]) from rfl) ?_
          refine AE.putI K pf_X2_109 (sh_S2 hi) (wr_S (i := i) (k := 2) hi (by decide)) rfl (am_at eX2_beginBroadcast 65 rfl) h (fun V11 h => ?_)
          refine AE.run K eX2_beginBroadcast 66 1 (show am_run 7 ((tX2_beginBroadcast.drop 66).take 1) 133 [none, none, none, none, none, some (.ref (sS i + 2)), none] [] = some (135, [none, none, none, none, none, some (.ref (sS i + 2)), none], [.ref (sS i + 2)]) from rfl) ?_
          refine AE.getI K gf_X2_109 (sh_S2 hi) rfl (am_at eX2_beginBroadcast 67 rfl) ?_
          exact AE.iret K (by omega) (am_at eX2_beginBroadcast 68 rfl) h
        · refine AE.run K eX2_beginBroadcast 21 3 (show am_run 7 ((tX2_beginBroadcast.drop 21).take 3) 41 [some (.ref (12)), some (.ref (sS i)), some (.int (x2)), some (.int (x3)), some (.int (x4)), some (.ref (sS i + 2)), none] [] = some (45, [some (.ref (12)), some (.ref (sS i)), some (.int (x2)), some (.int (x3)), some (.int (x4)), some (.ref (sS i + 2)), none], [.ref (sS i + 2), .int (nI 5), .ref (12)]) from rfl) ?_
          refine AE.getI K gf_X2_94 (sh_S2 hi) rfl (am_at eX2_beginBroadcast 24 rfl) ?_
          refine AE.cv (f' := 0) (c' := 0) (lo' := 0) (st := []) (As := [.int (nI 5), .int (V1 (sS i + 2) 6)]) (m := d_X2_reject (nI 5) (V1 (sS i + 2) 6) V1) K hex (fun q hq => kX2_reject B hfl hq) cv_X2_33 rfl (T := TX2) (N := 2) rfl rfl rfl (Nat.le_of_ble_eq_true rfl) ⟨Nat.le_of_ble_eq_true rfl, Nat.le_of_ble_eq_true rfl⟩ (by omega) (am_at eX2_beginBroadcast 25 rfl) h (rI_some h) (bkI (fun y13 V12 h => ?_))
          exact AE.iret K (by omega) (am_at eX2_beginBroadcast 26 rfl) h
      · exact AE.sub (L' := [none, none, none, none, none, none, none]) trivial (hj30  V1 h)
  · refine AE.run K eX2_beginBroadcast 8 1 (show am_run 7 ((tX2_beginBroadcast.drop 8).take 1) 17 [some (.ref (12)), some (.ref (sS i)), some (.int (x2)), some (.int (x3)), some (.int (x4)), some (.ref (sS i + 2)), none] [] = some (18, [some (.ref (12)), some (.ref (sS i)), some (.int (x2)), some (.int (x3)), some (.int (x4)), some (.ref (sS i + 2)), none], [.int (-1)]) from rfl) ?_
    exact AE.iret K (by omega) (am_at eX2_beginBroadcast 9 rfl) h
def d_X2_letBlowOnce (i : Nat) (V : am_V) : am_R := (if ¬ (V (sS i + 2) 2) = 0 then rI (d_X10_blowOnce i V) (fun (y2 : Int32) (V1 : am_V) => some (.inl (some (.int (y2))), V1)) else rI (d_X2_reject (nI 6) (V (sS i + 2) 1) V) (fun (y4 : Int32) (V3 : am_V) => some (.inl (some (.int (y4))), V3)))
set_option maxRecDepth 100000 in
set_option maxHeartbeats 4000000 in
theorem kX2_letBlowOnce {U : am_U} {l : Launch} (B : am_base xx U) (hfl : l.stackTraces = false) {V : am_V} {i : Nat} (hi : i < 12) {r : (Option Value ⊕ String) × am_V} (h : d_X2_letBlowOnce i V = some r) : am_Ct xx U l yX2_letBlowOnce cX2_letBlowOnce 3 (some .int) (rk 4 0 108) [.ref (12), .ref (sS i), .ref (11)] V (am_is r.1 r.2) := by
  refine am_Ct.of B hfl (by decide) (Nat.le_of_ble_eq_true rfl) ?_
  intro G hgl hgR hr ok h0 hex
  have K : aK U l G RX2 cX2_letBlowOnce 3 (some .int) 4 0 108 := ⟨hgl, hgR, hr, ok, h0⟩
  unfold d_X2_letBlowOnce at h
  show AE U G 3 4 0 108 r 0 V 0 [some (.ref (12)), some (.ref (sS i)), some (.ref (11))] []
  refine AE.run K eX2_letBlowOnce 0 1 (show am_run 3 ((tX2_letBlowOnce.drop 0).take 1) 0 [some (.ref (12)), some (.ref (sS i)), some (.ref (11))] [] = some (1, [some (.ref (12)), some (.ref (sS i)), some (.ref (11))], [.ref (sS i)]) from rfl) ?_
  refine AE.getR K gf_X2_41 (sh_S0 hi) rfl (am_at eX2_letBlowOnce 1 rfl) ?_
  refine AE.getI K gf_X2_90 (sh_S2 hi) rfl (am_at eX2_letBlowOnce 2 rfl) ?_
  refine AE.if0 K 24 (am_at eX2_letBlowOnce 3 rfl) (by decide) rfl h (fun h => ?_) (fun h => ?_)
  · refine AE.run K eX2_letBlowOnce 11 2 (show am_run 3 ((tX2_letBlowOnce.drop 11).take 2) 24 [some (.ref (12)), some (.ref (sS i)), some (.ref (11))] [] = some (26, [some (.ref (12)), some (.ref (sS i)), some (.ref (11))], [.ref (sS i), .ref (11)]) from rfl) ?_
    refine AE.cv (f' := 3) (c' := 0) (lo' := 84) (st := []) (As := [.ref (sS i)]) (m := d_X10_blowOnce i V) K hex (fun q hq => kX10_blowOnce B hfl (i := i) hi hq) cv_X2_112 rfl (T := TX10) (N := 1) rfl rfl rfl (Nat.le_of_ble_eq_true rfl) ⟨Nat.le_of_ble_eq_true rfl, Nat.le_of_ble_eq_true rfl⟩ (by omega) (am_at eX2_letBlowOnce 13 rfl) h (rI_some h) (bkI (fun y2 V1 h => ?_))
    exact AE.iret K (by omega) (am_at eX2_letBlowOnce 14 rfl) h
  · refine AE.run K eX2_letBlowOnce 4 3 (show am_run 3 ((tX2_letBlowOnce.drop 4).take 3) 10 [some (.ref (12)), some (.ref (sS i)), some (.ref (11))] [] = some (14, [some (.ref (12)), some (.ref (sS i)), some (.ref (11))], [.ref (sS i), .int (nI 6), .ref (12)]) from rfl) ?_
    refine AE.getR K gf_X2_41 (sh_S0 hi) rfl (am_at eX2_letBlowOnce 7 rfl) ?_
    refine AE.getI K gf_X2_109 (sh_S2 hi) rfl (am_at eX2_letBlowOnce 8 rfl) ?_
    refine AE.cv (f' := 0) (c' := 0) (lo' := 0) (st := []) (As := [.int (nI 6), .int (V (sS i + 2) 1)]) (m := d_X2_reject (nI 6) (V (sS i + 2) 1) V) K hex (fun q hq => kX2_reject B hfl hq) cv_X2_33 rfl (T := TX2) (N := 2) rfl rfl rfl (Nat.le_of_ble_eq_true rfl) ⟨Nat.le_of_ble_eq_true rfl, Nat.le_of_ble_eq_true rfl⟩ (by omega) (am_at eX2_letBlowOnce 9 rfl) h (rI_some h) (bkI (fun y4 V3 h => ?_))
    exact AE.iret K (by omega) (am_at eX2_letBlowOnce 10 rfl) h
def bd_X2_letBlowToEnd_26 (i : Nat) (kx kr : Int32 → am_V → am_R) (a3_26 : Int32) (V_26 : am_V) : am_R := (if (nI 30) ≤ a3_26 then kx a3_26 V_26 else (if (V_26 (sS i + 2) 2) = 0 then kx a3_26 V_26 else rI (d_X10_blowOnce i V_26) (fun (y2 : Int32) (V1 : am_V) => kr (a3_26 + nI 1) V1)))
def lp_X2_letBlowToEnd_26 (i : Nat) (kx : Int32 → am_V → am_R) : Nat → Int32 → am_V → am_R
  | 0, _, _ => none
  | f9 + 1, a3_26, V_26 => bd_X2_letBlowToEnd_26 i kx (lp_X2_letBlowToEnd_26 i kx f9) a3_26 V_26
def d_X2_letBlowToEnd (i : Nat) (V : am_V) : am_R := (if ¬ (V (sS i + 2) 2) = 0 then lp_X2_letBlowToEnd_26 i (fun (a3_26 : Int32) (V_26x : am_V) => some (.inl (some (.int (a3_26))), V_26x)) 1000 (nI 0) V else rI (d_X2_reject (nI 6) (V (sS i + 2) 1) V) (fun (y4 : Int32) (V3 : am_V) => some (.inl (some (.int (y4))), V3)))
set_option maxRecDepth 100000 in
set_option maxHeartbeats 4000000 in
theorem bk_X2_letBlowToEnd_26 {U : am_U} {l : Launch} (B : am_base xx U) (hfl : l.stackTraces = false) {G : am_G} (K : aK U l G RX2 cX2_letBlowToEnd 4 (some .int) 4 0 108) (hex : am_nx G) {r : (Option Value ⊕ String) × am_V} {i : Nat} (hi : i < 12) {kc : Nat} (hkc : kc ≤ 0) {kx kr : Int32 → am_V → am_R} (hx : ∀ (a3_26 : Int32) (Vq : am_V), kx a3_26 Vq = some r → AE U G 4 4 0 108 r kc Vq 54 [none, none, none, some (.int (a3_26))] []) (hr : ∀ (a3_26 : Int32) (Vq : am_V), kr a3_26 Vq = some r → AE U G 4 4 0 108 r kc Vq 26 [none, some (.ref (sS i)), some (.ref (11)), some (.int (a3_26))] []) (a3_26 : Int32) (V_26 : am_V) (h : bd_X2_letBlowToEnd_26 i kx kr a3_26 V_26 = some r) : AE U G 4 4 0 108 r kc V_26 26 [none, some (.ref (sS i)), some (.ref (11)), some (.int (a3_26))] [] := by
  unfold bd_X2_letBlowToEnd_26 at h
  refine AE.run K eX2_letBlowToEnd 13 2 (show am_run 4 ((tX2_letBlowToEnd.drop 13).take 2) 26 [none, some (.ref (sS i)), some (.ref (11)), some (.int (a3_26))] [] = some (29, [none, some (.ref (sS i)), some (.ref (11)), some (.int (a3_26))], [.int (nI 30), .int (a3_26)]) from rfl) ?_
  refine AE.ic K 54 (am_at eX2_letBlowToEnd 15 rfl) (by decide) rfl h (fun h => ?_) (fun h => ?_)
  · exact AE.sub (L' := [none, none, none, some (.int (a3_26))]) (And.intro rfl trivial) (hx a3_26 V_26 h)
  · refine AE.run K eX2_letBlowToEnd 16 1 (show am_run 4 ((tX2_letBlowToEnd.drop 16).take 1) 32 [none, some (.ref (sS i)), some (.ref (11)), some (.int (a3_26))] [] = some (33, [none, some (.ref (sS i)), some (.ref (11)), some (.int (a3_26))], [.ref (sS i)]) from rfl) ?_
    refine AE.getR K gf_X2_41 (sh_S0 hi) rfl (am_at eX2_letBlowToEnd 17 rfl) ?_
    refine AE.getI K gf_X2_90 (sh_S2 hi) rfl (am_at eX2_letBlowToEnd 18 rfl) ?_
    refine AE.if0 K 54 (am_at eX2_letBlowToEnd 19 rfl) (by decide) rfl h (fun h => ?_) (fun h => ?_)
    · exact AE.sub (L' := [none, none, none, some (.int (a3_26))]) (And.intro rfl trivial) (hx a3_26 V_26 h)
    · refine AE.run K eX2_letBlowToEnd 20 2 (show am_run 4 ((tX2_letBlowToEnd.drop 20).take 2) 42 [none, some (.ref (sS i)), some (.ref (11)), some (.int (a3_26))] [] = some (44, [none, some (.ref (sS i)), some (.ref (11)), some (.int (a3_26))], [.ref (sS i), .ref (11)]) from rfl) ?_
      refine AE.cv (f' := 3) (c' := 0) (lo' := 84) (st := []) (As := [.ref (sS i)]) (m := d_X10_blowOnce i V_26) K hex (fun q hq => kX10_blowOnce B hfl (i := i) hi hq) cv_X2_112 rfl (T := TX10) (N := 1) rfl rfl rfl (Nat.le_of_ble_eq_true rfl) ⟨Nat.le_of_ble_eq_true rfl, Nat.le_of_ble_eq_true rfl⟩ (by omega) (am_at eX2_letBlowToEnd 22 rfl) h (rI_some h) (bkI (fun y2 V1 h => ?_))
      refine AE.run K eX2_letBlowToEnd 23 3 (show am_run 4 ((tX2_letBlowToEnd.drop 23).take 3) 47 [none, some (.ref (sS i)), some (.ref (11)), some (.int (a3_26))] [.int (y2)] = some (26, [none, some (.ref (sS i)), some (.ref (11)), some (.int (a3_26 + nI 1))], []) from rfl) ?_
      exact AE.sub (L' := [none, some (.ref (sS i)), some (.ref (11)), some (.int (a3_26 + nI 1))]) (And.intro rfl (And.intro rfl (And.intro rfl trivial))) (hr (a3_26 + nI 1) V1 h)
theorem lk_X2_letBlowToEnd_26 {U : am_U} {l : Launch} (B : am_base xx U) (hfl : l.stackTraces = false) {G : am_G} (K : aK U l G RX2 cX2_letBlowToEnd 4 (some .int) 4 0 108) (hex : am_nx G) {r : (Option Value ⊕ String) × am_V} {i : Nat} (hi : i < 12) {kc : Nat} (hkc : kc ≤ 0) {kx : Int32 → am_V → am_R} (hx : ∀ (a3_26 : Int32) (Vq : am_V), kx a3_26 Vq = some r → AE U G 4 4 0 108 r kc Vq 54 [none, none, none, some (.int (a3_26))] []) : ∀ (f9 : Nat) (a3_26 : Int32) (Vq : am_V), lp_X2_letBlowToEnd_26 i kx f9 a3_26 Vq = some r → AE U G 4 4 0 108 r kc Vq 26 [none, some (.ref (sS i)), some (.ref (11)), some (.int (a3_26))] [] := by
  intro f9
  induction f9 with
  | zero =>
    intro a3_26 Vq h
    cases h
  | succ f9 ih =>
    intro a3_26 Vq h
    exact bk_X2_letBlowToEnd_26 B hfl K hex hi hkc hx ih a3_26 Vq h
set_option maxRecDepth 100000 in
set_option maxHeartbeats 4000000 in
theorem kX2_letBlowToEnd {U : am_U} {l : Launch} (B : am_base xx U) (hfl : l.stackTraces = false) {V : am_V} {i : Nat} (hi : i < 12) {r : (Option Value ⊕ String) × am_V} (h : d_X2_letBlowToEnd i V = some r) : am_Ct xx U l yX2_letBlowToEnd cX2_letBlowToEnd 4 (some .int) (rk 4 0 108) [.ref (12), .ref (sS i), .ref (11)] V (am_is r.1 r.2) := by
  refine am_Ct.of B hfl (by decide) (Nat.le_of_ble_eq_true rfl) ?_
  intro G hgl hgR hr ok h0 hex
  have K : aK U l G RX2 cX2_letBlowToEnd 4 (some .int) 4 0 108 := ⟨hgl, hgR, hr, ok, h0⟩
  unfold d_X2_letBlowToEnd at h
  show AE U G 4 4 0 108 r 0 V 0 [some (.ref (12)), some (.ref (sS i)), some (.ref (11)), none] []
  refine AE.run K eX2_letBlowToEnd 0 1 (show am_run 4 ((tX2_letBlowToEnd.drop 0).take 1) 0 [some (.ref (12)), some (.ref (sS i)), some (.ref (11)), none] [] = some (1, [some (.ref (12)), some (.ref (sS i)), some (.ref (11)), none], [.ref (sS i)]) from rfl) ?_
  refine AE.getR K gf_X2_41 (sh_S0 hi) rfl (am_at eX2_letBlowToEnd 1 rfl) ?_
  refine AE.getI K gf_X2_90 (sh_S2 hi) rfl (am_at eX2_letBlowToEnd 2 rfl) ?_
  refine AE.if0 K 24 (am_at eX2_letBlowToEnd 3 rfl) (by decide) rfl h (fun h => ?_) (fun h => ?_)
  · refine AE.run K eX2_letBlowToEnd 11 2 (show am_run 4 ((tX2_letBlowToEnd.drop 11).take 2) 24 [some (.ref (12)), some (.ref (sS i)), some (.ref (11)), none] [] = some (26, [some (.ref (12)), some (.ref (sS i)), some (.ref (11)), some (.int (nI 0))], []) from rfl) ?_
    refine AE.sub (L' := [none, some (.ref (sS i)), some (.ref (11)), some (.int (nI 0))]) (And.intro rfl (And.intro rfl (And.intro rfl trivial))) ?_
    refine lk_X2_letBlowToEnd_26 B hfl K hex hi (by omega) ?_ 1000 (nI 0) V h
    intro a3_26 V_26x h
    refine AE.run K eX2_letBlowToEnd 26 1 (show am_run 4 ((tX2_letBlowToEnd.drop 26).take 1) 54 [none, none, none, some (.int (a3_26))] [] = some (55, [none, none, none, some (.int (a3_26))], [.int (a3_26)]) from rfl) ?_
    exact AE.iret K (by omega) (am_at eX2_letBlowToEnd 27 rfl) h
  · refine AE.run K eX2_letBlowToEnd 4 3 (show am_run 4 ((tX2_letBlowToEnd.drop 4).take 3) 10 [some (.ref (12)), some (.ref (sS i)), some (.ref (11)), none] [] = some (14, [some (.ref (12)), some (.ref (sS i)), some (.ref (11)), none], [.ref (sS i), .int (nI 6), .ref (12)]) from rfl) ?_
    refine AE.getR K gf_X2_41 (sh_S0 hi) rfl (am_at eX2_letBlowToEnd 7 rfl) ?_
    refine AE.getI K gf_X2_109 (sh_S2 hi) rfl (am_at eX2_letBlowToEnd 8 rfl) ?_
    refine AE.cv (f' := 0) (c' := 0) (lo' := 0) (st := []) (As := [.int (nI 6), .int (V (sS i + 2) 1)]) (m := d_X2_reject (nI 6) (V (sS i + 2) 1) V) K hex (fun q hq => kX2_reject B hfl hq) cv_X2_33 rfl (T := TX2) (N := 2) rfl rfl rfl (Nat.le_of_ble_eq_true rfl) ⟨Nat.le_of_ble_eq_true rfl, Nat.le_of_ble_eq_true rfl⟩ (by omega) (am_at eX2_letBlowToEnd 9 rfl) h (rI_some h) (bkI (fun y4 V3 h => ?_))
    exact AE.iret K (by omega) (am_at eX2_letBlowToEnd 10 rfl) h
def d_X2_stopBroadcast (i : Nat) (V : am_V) : am_R := (if ¬ (V (sS i + 2) 2) = 0 then rG (am_nb (nI 0)) (rV (am_set V (sS i + 2) 2 (nI 0)) (fun (V1 : am_V) => some (.inl (some (.int (V1 (sS i + 2) 6))), V1))) else rI (d_X2_reject (nI 6) (V (sS i + 2) 1) V) (fun (y3 : Int32) (V2 : am_V) => some (.inl (some (.int (y3))), V2)))
set_option maxRecDepth 100000 in
set_option maxHeartbeats 4000000 in
theorem kX2_stopBroadcast {U : am_U} {l : Launch} (B : am_base xx U) (hfl : l.stackTraces = false) {V : am_V} {i : Nat} (hi : i < 12) {r : (Option Value ⊕ String) × am_V} (h : d_X2_stopBroadcast i V = some r) : am_Ct xx U l yX2_stopBroadcast cX2_stopBroadcast 2 (some .int) (rk 1 0 22) [.ref (12), .ref (sS i)] V (am_is r.1 r.2) := by
  refine am_Ct.of B hfl (by decide) (Nat.le_of_ble_eq_true rfl) ?_
  intro G hgl hgR hr ok h0 hex
  have K : aK U l G RX2 cX2_stopBroadcast 2 (some .int) 1 0 22 := ⟨hgl, hgR, hr, ok, h0⟩
  unfold d_X2_stopBroadcast at h
  show AE U G 2 1 0 22 r 0 V 0 [some (.ref (12)), some (.ref (sS i))] []
  refine AE.run K eX2_stopBroadcast 0 1 (show am_run 2 ((tX2_stopBroadcast.drop 0).take 1) 0 [some (.ref (12)), some (.ref (sS i))] [] = some (1, [some (.ref (12)), some (.ref (sS i))], [.ref (sS i)]) from rfl) ?_
  refine AE.getR K gf_X2_41 (sh_S0 hi) rfl (am_at eX2_stopBroadcast 1 rfl) ?_
  refine AE.getI K gf_X2_90 (sh_S2 hi) rfl (am_at eX2_stopBroadcast 2 rfl) ?_
  refine AE.if0 K 24 (am_at eX2_stopBroadcast 3 rfl) (by decide) rfl h (fun h => ?_) (fun h => ?_)
  · refine AE.run K eX2_stopBroadcast 11 1 (show am_run 2 ((tX2_stopBroadcast.drop 11).take 1) 24 [some (.ref (12)), some (.ref (sS i))] [] = some (25, [some (.ref (12)), some (.ref (sS i))], [.ref (sS i)]) from rfl) ?_
    refine AE.getR K gf_X2_41 (sh_S0 hi) rfl (am_at eX2_stopBroadcast 12 rfl) ?_
    refine AE.run K eX2_stopBroadcast 13 1 (show am_run 2 ((tX2_stopBroadcast.drop 13).take 1) 28 [some (.ref (12)), some (.ref (sS i))] [.ref (sS i + 2)] = some (29, [some (.ref (12)), some (.ref (sS i))], [.int (nI 0), .ref (sS i + 2)]) from rfl) ?_
    refine AE.putZ K pf_X2_90 (sh_S2 hi) (wr_S (i := i) (k := 2) hi (by decide)) rfl (am_at eX2_stopBroadcast 14 rfl) h (fun V1 h => ?_)
    refine AE.run K eX2_stopBroadcast 15 1 (show am_run 2 ((tX2_stopBroadcast.drop 15).take 1) 32 [some (.ref (12)), some (.ref (sS i))] [] = some (33, [some (.ref (12)), some (.ref (sS i))], [.ref (sS i)]) from rfl) ?_
    refine AE.getR K gf_X2_41 (sh_S0 hi) rfl (am_at eX2_stopBroadcast 16 rfl) ?_
    refine AE.getI K gf_X2_94 (sh_S2 hi) rfl (am_at eX2_stopBroadcast 17 rfl) ?_
    exact AE.iret K (by omega) (am_at eX2_stopBroadcast 18 rfl) h
  · refine AE.run K eX2_stopBroadcast 4 3 (show am_run 2 ((tX2_stopBroadcast.drop 4).take 3) 10 [some (.ref (12)), some (.ref (sS i))] [] = some (14, [some (.ref (12)), some (.ref (sS i))], [.ref (sS i), .int (nI 6), .ref (12)]) from rfl) ?_
    refine AE.getR K gf_X2_41 (sh_S0 hi) rfl (am_at eX2_stopBroadcast 7 rfl) ?_
    refine AE.getI K gf_X2_109 (sh_S2 hi) rfl (am_at eX2_stopBroadcast 8 rfl) ?_
    refine AE.cv (f' := 0) (c' := 0) (lo' := 0) (st := []) (As := [.int (nI 6), .int (V (sS i + 2) 1)]) (m := d_X2_reject (nI 6) (V (sS i + 2) 1) V) K hex (fun q hq => kX2_reject B hfl hq) cv_X2_33 rfl (T := TX2) (N := 2) rfl rfl rfl (Nat.le_of_ble_eq_true rfl) ⟨Nat.le_of_ble_eq_true rfl, Nat.le_of_ble_eq_true rfl⟩ (by omega) (am_at eX2_stopBroadcast 9 rfl) h (rI_some h) (bkI (fun y3 V2 h => ?_))
    exact AE.iret K (by omega) (am_at eX2_stopBroadcast 10 rfl) h
