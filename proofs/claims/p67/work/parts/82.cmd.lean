theorem th_X11_347_349 : am_th xx RX11 347 349 351 "java/lang/IllegalStateException" "the input is full" ["java/lang/RuntimeException", "java/lang/Exception"] := ⟨x_in 878 (by decide +kernel), x_in 65 (by decide +kernel), y_or at_X11_351, by decide +kernel, by decide +kernel, by decide +kernel, List.mem_of_getElem? (i := 9) rfl⟩
theorem th_X11_339_341 : am_th xx RX11 339 341 343 "java/lang/IllegalArgumentException" "the code is out of range" ["java/lang/RuntimeException", "java/lang/Exception"] := ⟨x_in 560 (by decide +kernel), x_in 55 (by decide +kernel), y_or at_X11_343, by decide +kernel, by decide +kernel, by decide +kernel, List.mem_of_getElem? (i := 8) rfl⟩
theorem th_X11_347_391 : am_th xx RX11 347 391 351 "java/lang/IllegalStateException" "a command fails" ["java/lang/RuntimeException", "java/lang/Exception"] := ⟨x_in 878 (by decide +kernel), x_in 65 (by decide +kernel), y_or at_X11_351, by decide +kernel, by decide +kernel, by decide +kernel, List.mem_of_getElem? (i := 5) rfl⟩
theorem th_X11_386_388 : am_th xx RX11 386 388 390 "java/lang/UnsupportedOperationException" "a command is rejected" ["java/lang/RuntimeException", "java/lang/Exception"] := ⟨x_in 580 (by decide +kernel), x_in 56 (by decide +kernel), y_or at_X11_390, by decide +kernel, by decide +kernel, by decide +kernel, List.mem_of_getElem? (i := 4) rfl⟩
theorem th_X11_339_358 : am_th xx RX11 339 358 343 "java/lang/IllegalArgumentException" "a syntax error" ["java/lang/RuntimeException", "java/lang/Exception"] := ⟨x_in 560 (by decide +kernel), x_in 55 (by decide +kernel), y_or at_X11_343, by decide +kernel, by decide +kernel, by decide +kernel, List.mem_of_getElem? (i := 3) rfl⟩
def d_X3_takeSign (x1 : Int32) (V : am_V) : am_R := rB (fun (V_36 : am_V) => rG (am_nb (nI 0)) (some (.inl (some (.int (nI 0))), V_36))) (fun (j36 : am_V → am_R) => (if (V 13 3) ≤ (V 13 5) then j36 V else rG (am_in (V 13 5) 60) ((if ¬ (V 16 (iN (V 13 5))) = x1 then j36 V else rV (am_set V 13 5 ((V 13 5) + (nI 1))) (fun (V1 : am_V) => rG (am_nb (nI 1)) (some (.inl (some (.int (nI 1))), V1)))))))
set_option maxRecDepth 100000 in
set_option maxHeartbeats 4000000 in
theorem kX3_takeSign {U : am_U} {l : Launch} (B : am_base xx U) (hfl : l.stackTraces = false) {V : am_V} {x1 : Int32} {r : (Option Value ⊕ String) × am_V} (h : d_X3_takeSign x1 V = some r) : am_Ct xx U l yX3_takeSign cX3_takeSign 2 (some .boolean) (rk 0 0 0) [.ref (13), .int (x1)] V (am_is r.1 r.2) := by
  refine am_Ct.of B hfl (by decide) (Nat.le_of_ble_eq_true rfl) ?_
  intro G hgl hgR hr ok h0 hex
  have K : aK U l G RX3 cX3_takeSign 2 (some .boolean) 0 0 0 := ⟨hgl, hgR, hr, ok, h0⟩
  unfold d_X3_takeSign at h
  show AE U G 2 0 0 0 r 0 V 0 [some (.ref (13)), some (.int (x1))] []
  refine AE.run K eX3_takeSign 0 1 (show am_run 2 ((tX3_takeSign.drop 0).take 1) 0 [some (.ref (13)), some (.int (x1))] [] = some (1, [some (.ref (13)), some (.int (x1))], [.ref (13)]) from rfl) ?_
  refine AE.getI K gf_X3_33 rfl rfl (am_at eX3_takeSign 1 rfl) ?_
  refine AE.run K eX3_takeSign 2 1 (show am_run 2 ((tX3_takeSign.drop 2).take 1) 4 [some (.ref (13)), some (.int (x1))] [.int (V 13 5)] = some (5, [some (.ref (13)), some (.int (x1))], [.ref (13), .int (V 13 5)]) from rfl) ?_
  refine AE.getI K gf_X3_26 rfl rfl (am_at eX3_takeSign 3 rfl) ?_
  refine rB_of (P := fun (j : am_V → am_R) => ∀ (V_36 : am_V), j V_36 = some r → AE U G 2 0 0 0 r 0 V_36 36 [none, none] []) h (fun V_36 h => ?_) (fun j36 hj36 h => ?_)
  · refine AE.run K eX3_takeSign 20 1 (show am_run 2 ((tX3_takeSign.drop 20).take 1) 36 [none, none] [] = some (37, [none, none], [.int (nI 0)]) from rfl) ?_
    exact AE.zret K (by omega) (am_at eX3_takeSign 21 rfl) h
  refine AE.ic K 36 (am_at eX3_takeSign 4 rfl) (by decide) rfl h (fun h => ?_) (fun h => ?_)
  · exact AE.sub (L' := [none, none]) trivial (hj36  V h)
  · refine AE.run K eX3_takeSign 5 1 (show am_run 2 ((tX3_takeSign.drop 5).take 1) 11 [some (.ref (13)), some (.int (x1))] [] = some (12, [some (.ref (13)), some (.int (x1))], [.ref (13)]) from rfl) ?_
    refine AE.getR K gf_X3_29 rfl rfl (am_at eX3_takeSign 6 rfl) ?_
    refine AE.run K eX3_takeSign 7 1 (show am_run 2 ((tX3_takeSign.drop 7).take 1) 15 [some (.ref (13)), some (.int (x1))] [.ref (16)] = some (16, [some (.ref (13)), some (.int (x1))], [.ref (13), .ref (16)]) from rfl) ?_
    refine AE.getI K gf_X3_33 rfl rfl (am_at eX3_takeSign 8 rfl) ?_
    refine AE.cald K rfl (am_at eX3_takeSign 9 rfl) h (fun h => ?_)
    refine AE.run K eX3_takeSign 10 1 (show am_run 2 ((tX3_takeSign.drop 10).take 1) 20 [some (.ref (13)), some (.int (x1))] [.int (V 16 (iN (V 13 5)))] = some (21, [some (.ref (13)), some (.int (x1))], [.int (x1), .int (V 16 (iN (V 13 5)))]) from rfl) ?_
    refine AE.ic K 36 (am_at eX3_takeSign 11 rfl) (by decide) rfl h (fun h => ?_) (fun h => ?_)
    · exact AE.sub (L' := [none, none]) trivial (hj36  V h)
    · refine AE.run K eX3_takeSign 12 2 (show am_run 2 ((tX3_takeSign.drop 12).take 2) 24 [some (.ref (13)), some (.int (x1))] [] = some (26, [some (.ref (13)), some (.int (x1))], [.ref (13), .ref (13)]) from rfl) ?_
      refine AE.getI K gf_X3_33 rfl rfl (am_at eX3_takeSign 14 rfl) ?_
      refine AE.run K eX3_takeSign 15 2 (show am_run 2 ((tX3_takeSign.drop 15).take 2) 29 [some (.ref (13)), some (.int (x1))] [.int (V 13 5), .ref (13)] = some (31, [some (.ref (13)), some (.int (x1))], [.int ((V 13 5) + (nI 1)), .ref (13)]) from rfl) ?_
      refine AE.putI K pf_X3_33 rfl rfl rfl (am_at eX3_takeSign 17 rfl) h (fun V1 h => ?_)
      refine AE.run K eX3_takeSign 18 1 (show am_run 2 ((tX3_takeSign.drop 18).take 1) 34 [some (.ref (13)), some (.int (x1))] [] = some (35, [some (.ref (13)), some (.int (x1))], [.int (nI 1)]) from rfl) ?_
      exact AE.zret K (by omega) (am_at eX3_takeSign 19 rfl) h
def bd_X3_takeDigits_4 (x1 : Int32) (kx kr : Int32 → Int32 → am_V → am_R) (a2_4 : Int32) (a3_4 : Int32) (V_4 : am_V) : am_R := (if x1 ≤ a3_4 then kx a2_4 a3_4 V_4 else rB (fun (b2_80 : Int32) (V_80 : am_V) => kr b2_80 (a3_4 + nI 1) V_80) (fun (j80 : Int32 → am_V → am_R) => (if (V_4 13 3) ≤ (V_4 13 5) then j80 a2_4 V_4 else rG (am_in (V_4 13 5) 60) ((if (V_4 16 (iN (V_4 13 5))) < (nI 48) then j80 a2_4 V_4 else rG (am_in (V_4 13 5) 60) ((if (nI 57) < (V_4 16 (iN (V_4 13 5))) then j80 a2_4 V_4 else rG (am_in (V_4 13 5) 60) (rV (am_set V_4 13 5 ((V_4 13 5) + (nI 1))) (fun (V1 : am_V) => j80 (((am_mx a2_4 (nI 0)) * (nI 10)) + ((V_4 16 (iN (V_4 13 5))) - (nI 48))) V1)))))))))
def lp_X3_takeDigits_4 (x1 : Int32) (kx : Int32 → Int32 → am_V → am_R) : Nat → Int32 → Int32 → am_V → am_R
  | 0, _, _, _ => none
  | f9 + 1, a2_4, a3_4, V_4 => bd_X3_takeDigits_4 x1 kx (lp_X3_takeDigits_4 x1 kx f9) a2_4 a3_4 V_4
def d_X3_takeDigits (x1 : Int32) (V : am_V) : am_R := lp_X3_takeDigits_4 x1 (fun (a2_4 : Int32) (a3_4 : Int32) (V_4x : am_V) => some (.inl (some (.int (a2_4))), V_4x)) 1000 (-1) (nI 0) V
set_option maxRecDepth 100000 in
set_option maxHeartbeats 4000000 in
theorem bk_X3_takeDigits_4 {U : am_U} {l : Launch} (B : am_base xx U) (hfl : l.stackTraces = false) {G : am_G} (K : aK U l G RX3 cX3_takeDigits 4 (some .int) 2 0 60) (hex : am_nx G) {r : (Option Value ⊕ String) × am_V} {x1 : Int32} {kc : Nat} (hkc : kc ≤ 0) {kx kr : Int32 → Int32 → am_V → am_R} (hx : ∀ (a2_4 : Int32) (a3_4 : Int32) (Vq : am_V), kx a2_4 a3_4 Vq = some r → AE U G 4 2 0 60 r kc Vq 86 [none, none, some (.int (a2_4)), none] []) (hr : ∀ (a2_4 : Int32) (a3_4 : Int32) (Vq : am_V), kr a2_4 a3_4 Vq = some r → AE U G 4 2 0 60 r kc Vq 4 [some (.ref (13)), some (.int (x1)), some (.int (a2_4)), some (.int (a3_4))] []) (a2_4 : Int32) (a3_4 : Int32) (V_4 : am_V) (h : bd_X3_takeDigits_4 x1 kx kr a2_4 a3_4 V_4 = some r) : AE U G 4 2 0 60 r kc V_4 4 [some (.ref (13)), some (.int (x1)), some (.int (a2_4)), some (.int (a3_4))] [] := by
  unfold bd_X3_takeDigits_4 at h
  refine AE.run K eX3_takeDigits 4 2 (show am_run 4 ((tX3_takeDigits.drop 4).take 2) 4 [some (.ref (13)), some (.int (x1)), some (.int (a2_4)), some (.int (a3_4))] [] = some (6, [some (.ref (13)), some (.int (x1)), some (.int (a2_4)), some (.int (a3_4))], [.int (x1), .int (a3_4)]) from rfl) ?_
  refine AE.ic K 86 (am_at eX3_takeDigits 6 rfl) (by decide) rfl h (fun h => ?_) (fun h => ?_)
  · exact AE.sub (L' := [none, none, some (.int (a2_4)), none]) (And.intro rfl trivial) (hx a2_4 a3_4 V_4 h)
  · refine AE.run K eX3_takeDigits 7 1 (show am_run 4 ((tX3_takeDigits.drop 7).take 1) 9 [some (.ref (13)), some (.int (x1)), some (.int (a2_4)), some (.int (a3_4))] [] = some (10, [some (.ref (13)), some (.int (x1)), some (.int (a2_4)), some (.int (a3_4))], [.ref (13)]) from rfl) ?_
    refine AE.getI K gf_X3_33 rfl rfl (am_at eX3_takeDigits 8 rfl) ?_
    refine AE.run K eX3_takeDigits 9 1 (show am_run 4 ((tX3_takeDigits.drop 9).take 1) 13 [some (.ref (13)), some (.int (x1)), some (.int (a2_4)), some (.int (a3_4))] [.int (V_4 13 5)] = some (14, [some (.ref (13)), some (.int (x1)), some (.int (a2_4)), some (.int (a3_4))], [.ref (13), .int (V_4 13 5)]) from rfl) ?_
    refine AE.getI K gf_X3_26 rfl rfl (am_at eX3_takeDigits 10 rfl) ?_
    refine rB_of (P := fun (j : Int32 → am_V → am_R) => ∀ (b2_80 : Int32) (V_80 : am_V), j b2_80 V_80 = some r → AE U G 4 2 0 60 r (kc) V_80 80 [some (.ref (13)), some (.int (x1)), some (.int (b2_80)), some (.int (a3_4))] []) h (fun b2_80 V_80 h => ?_) (fun j80 hj80 h => ?_)
    · refine AE.run K eX3_takeDigits 46 2 (show am_run 4 ((tX3_takeDigits.drop 46).take 2) 80 [some (.ref (13)), some (.int (x1)), some (.int (b2_80)), some (.int (a3_4))] [] = some (4, [some (.ref (13)), some (.int (x1)), some (.int (b2_80)), some (.int (a3_4 + nI 1))], []) from rfl) ?_
      exact AE.sub (L' := [some (.ref (13)), some (.int (x1)), some (.int (b2_80)), some (.int (a3_4 + nI 1))]) (And.intro rfl (And.intro rfl (And.intro rfl (And.intro rfl trivial)))) (hr b2_80 (a3_4 + nI 1) V_80 h)
    refine AE.ic K 80 (am_at eX3_takeDigits 11 rfl) (by decide) rfl h (fun h => ?_) (fun h => ?_)
    · exact AE.sub (L' := [some (.ref (13)), some (.int (x1)), some (.int (a2_4)), some (.int (a3_4))]) (And.intro rfl (And.intro rfl (And.intro rfl (And.intro rfl trivial)))) (hj80 a2_4 V_4 h)
    · refine AE.run K eX3_takeDigits 12 1 (show am_run 4 ((tX3_takeDigits.drop 12).take 1) 20 [some (.ref (13)), some (.int (x1)), some (.int (a2_4)), some (.int (a3_4))] [] = some (21, [some (.ref (13)), some (.int (x1)), some (.int (a2_4)), some (.int (a3_4))], [.ref (13)]) from rfl) ?_
      refine AE.getR K gf_X3_29 rfl rfl (am_at eX3_takeDigits 13 rfl) ?_
      refine AE.run K eX3_takeDigits 14 1 (show am_run 4 ((tX3_takeDigits.drop 14).take 1) 24 [some (.ref (13)), some (.int (x1)), some (.int (a2_4)), some (.int (a3_4))] [.ref (16)] = some (25, [some (.ref (13)), some (.int (x1)), some (.int (a2_4)), some (.int (a3_4))], [.ref (13), .ref (16)]) from rfl) ?_
      refine AE.getI K gf_X3_33 rfl rfl (am_at eX3_takeDigits 15 rfl) ?_
      refine AE.cald K rfl (am_at eX3_takeDigits 16 rfl) h (fun h => ?_)
      refine AE.run K eX3_takeDigits 17 1 (show am_run 4 ((tX3_takeDigits.drop 17).take 1) 29 [some (.ref (13)), some (.int (x1)), some (.int (a2_4)), some (.int (a3_4))] [.int (V_4 16 (iN (V_4 13 5)))] = some (31, [some (.ref (13)), some (.int (x1)), some (.int (a2_4)), some (.int (a3_4))], [.int (nI 48), .int (V_4 16 (iN (V_4 13 5)))]) from rfl) ?_
      refine AE.ic K 80 (am_at eX3_takeDigits 18 rfl) (by decide) rfl h (fun h => ?_) (fun h => ?_)
      · exact AE.sub (L' := [some (.ref (13)), some (.int (x1)), some (.int (a2_4)), some (.int (a3_4))]) (And.intro rfl (And.intro rfl (And.intro rfl (And.intro rfl trivial)))) (hj80 a2_4 V_4 h)
      · refine AE.run K eX3_takeDigits 19 1 (show am_run 4 ((tX3_takeDigits.drop 19).take 1) 34 [some (.ref (13)), some (.int (x1)), some (.int (a2_4)), some (.int (a3_4))] [] = some (35, [some (.ref (13)), some (.int (x1)), some (.int (a2_4)), some (.int (a3_4))], [.ref (13)]) from rfl) ?_
        refine AE.getR K gf_X3_29 rfl rfl (am_at eX3_takeDigits 20 rfl) ?_
        refine AE.run K eX3_takeDigits 21 1 (show am_run 4 ((tX3_takeDigits.drop 21).take 1) 38 [some (.ref (13)), some (.int (x1)), some (.int (a2_4)), some (.int (a3_4))] [.ref (16)] = some (39, [some (.ref (13)), some (.int (x1)), some (.int (a2_4)), some (.int (a3_4))], [.ref (13), .ref (16)]) from rfl) ?_
        refine AE.getI K gf_X3_33 rfl rfl (am_at eX3_takeDigits 22 rfl) ?_
        refine AE.cald K rfl (am_at eX3_takeDigits 23 rfl) h (fun h => ?_)
        refine AE.run K eX3_takeDigits 24 1 (show am_run 4 ((tX3_takeDigits.drop 24).take 1) 43 [some (.ref (13)), some (.int (x1)), some (.int (a2_4)), some (.int (a3_4))] [.int (V_4 16 (iN (V_4 13 5)))] = some (45, [some (.ref (13)), some (.int (x1)), some (.int (a2_4)), some (.int (a3_4))], [.int (nI 57), .int (V_4 16 (iN (V_4 13 5)))]) from rfl) ?_
        refine AE.ic K 80 (am_at eX3_takeDigits 25 rfl) (by decide) rfl h (fun h => ?_) (fun h => ?_)
        · exact AE.sub (L' := [some (.ref (13)), some (.int (x1)), some (.int (a2_4)), some (.int (a3_4))]) (And.intro rfl (And.intro rfl (And.intro rfl (And.intro rfl trivial)))) (hj80 a2_4 V_4 h)
        · refine AE.run K eX3_takeDigits 26 2 (show am_run 4 ((tX3_takeDigits.drop 26).take 2) 48 [some (.ref (13)), some (.int (x1)), some (.int (a2_4)), some (.int (a3_4))] [] = some (50, [some (.ref (13)), some (.int (x1)), some (.int (a2_4)), some (.int (a3_4))], [.int (nI 0), .int (a2_4)]) from rfl) ?_
          refine AE.mmax K mm_X3_59 (by decide) (Nat.le_of_ble_eq_true rfl) (by omega) (am_at eX3_takeDigits 28 rfl) ?_
          refine AE.run K eX3_takeDigits 29 3 (show am_run 4 ((tX3_takeDigits.drop 29).take 3) 53 [some (.ref (13)), some (.int (x1)), some (.int (a2_4)), some (.int (a3_4))] [.int (am_mx a2_4 (nI 0))] = some (57, [some (.ref (13)), some (.int (x1)), some (.int (a2_4)), some (.int (a3_4))], [.ref (13), .int ((am_mx a2_4 (nI 0)) * (nI 10))]) from rfl) ?_
          refine AE.getR K gf_X3_29 rfl rfl (am_at eX3_takeDigits 32 rfl) ?_
          refine AE.run K eX3_takeDigits 33 1 (show am_run 4 ((tX3_takeDigits.drop 33).take 1) 60 [some (.ref (13)), some (.int (x1)), some (.int (a2_4)), some (.int (a3_4))] [.ref (16), .int ((am_mx a2_4 (nI 0)) * (nI 10))] = some (61, [some (.ref (13)), some (.int (x1)), some (.int (a2_4)), some (.int (a3_4))], [.ref (13), .ref (16), .int ((am_mx a2_4 (nI 0)) * (nI 10))]) from rfl) ?_
          refine AE.getI K gf_X3_33 rfl rfl (am_at eX3_takeDigits 34 rfl) ?_
          refine AE.cald K rfl (am_at eX3_takeDigits 35 rfl) h (fun h => ?_)
          refine AE.run K eX3_takeDigits 36 6 (show am_run 4 ((tX3_takeDigits.drop 36).take 6) 65 [some (.ref (13)), some (.int (x1)), some (.int (a2_4)), some (.int (a3_4))] [.int (V_4 16 (iN (V_4 13 5))), .int ((am_mx a2_4 (nI 0)) * (nI 10))] = some (72, [some (.ref (13)), some (.int (x1)), some (.int (((am_mx a2_4 (nI 0)) * (nI 10)) + ((V_4 16 (iN (V_4 13 5))) - (nI 48)))), some (.int (a3_4))], [.ref (13), .ref (13)]) from rfl) ?_
          refine AE.getI K gf_X3_33 rfl rfl (am_at eX3_takeDigits 42 rfl) ?_
          refine AE.run K eX3_takeDigits 43 2 (show am_run 4 ((tX3_takeDigits.drop 43).take 2) 75 [some (.ref (13)), some (.int (x1)), some (.int (((am_mx a2_4 (nI 0)) * (nI 10)) + ((V_4 16 (iN (V_4 13 5))) - (nI 48)))), some (.int (a3_4))] [.int (V_4 13 5), .ref (13)] = some (77, [some (.ref (13)), some (.int (x1)), some (.int (((am_mx a2_4 (nI 0)) * (nI 10)) + ((V_4 16 (iN (V_4 13 5))) - (nI 48)))), some (.int (a3_4))], [.int ((V_4 13 5) + (nI 1)), .ref (13)]) from rfl) ?_
          refine AE.putI K pf_X3_33 rfl rfl rfl (am_at eX3_takeDigits 45 rfl) h (fun V1 h => ?_)
          exact AE.sub (L' := [some (.ref (13)), some (.int (x1)), some (.int (((am_mx a2_4 (nI 0)) * (nI 10)) + ((V_4 16 (iN (V_4 13 5))) - (nI 48)))), some (.int (a3_4))]) (And.intro rfl (And.intro rfl (And.intro rfl (And.intro rfl trivial)))) (hj80 (((am_mx a2_4 (nI 0)) * (nI 10)) + ((V_4 16 (iN (V_4 13 5))) - (nI 48))) V1 h)
theorem lk_X3_takeDigits_4 {U : am_U} {l : Launch} (B : am_base xx U) (hfl : l.stackTraces = false) {G : am_G} (K : aK U l G RX3 cX3_takeDigits 4 (some .int) 2 0 60) (hex : am_nx G) {r : (Option Value ⊕ String) × am_V} {x1 : Int32} {kc : Nat} (hkc : kc ≤ 0) {kx : Int32 → Int32 → am_V → am_R} (hx : ∀ (a2_4 : Int32) (a3_4 : Int32) (Vq : am_V), kx a2_4 a3_4 Vq = some r → AE U G 4 2 0 60 r kc Vq 86 [none, none, some (.int (a2_4)), none] []) : ∀ (f9 : Nat) (a2_4 : Int32) (a3_4 : Int32) (Vq : am_V), lp_X3_takeDigits_4 x1 kx f9 a2_4 a3_4 Vq = some r → AE U G 4 2 0 60 r kc Vq 4 [some (.ref (13)), some (.int (x1)), some (.int (a2_4)), some (.int (a3_4))] [] := by
  intro f9
  induction f9 with
  | zero =>
    intro a2_4 a3_4 Vq h
    cases h
  | succ f9 ih =>
    intro a2_4 a3_4 Vq h
    exact bk_X3_takeDigits_4 B hfl K hex  hkc hx ih a2_4 a3_4 Vq h
set_option maxRecDepth 100000 in
set_option maxHeartbeats 4000000 in
theorem kX3_takeDigits {U : am_U} {l : Launch} (B : am_base xx U) (hfl : l.stackTraces = false) {V : am_V} {x1 : Int32} {r : (Option Value ⊕ String) × am_V} (h : d_X3_takeDigits x1 V = some r) : am_Ct xx U l yX3_takeDigits cX3_takeDigits 4 (some .int) (rk 2 0 60) [.ref (13), .int (x1)] V (am_is r.1 r.2) := by
  refine am_Ct.of B hfl (by decide) (Nat.le_of_ble_eq_true rfl) ?_
  intro G hgl hgR hr ok h0 hex
  have K : aK U l G RX3 cX3_takeDigits 4 (some .int) 2 0 60 := ⟨hgl, hgR, hr, ok, h0⟩
  unfold d_X3_takeDigits at h
  show AE U G 4 2 0 60 r 0 V 0 [some (.ref (13)), some (.int (x1)), none, none] []
  refine AE.run K eX3_takeDigits 0 4 (show am_run 4 ((tX3_takeDigits.drop 0).take 4) 0 [some (.ref (13)), some (.int (x1)), none, none] [] = some (4, [some (.ref (13)), some (.int (x1)), some (.int (-1)), some (.int (nI 0))], []) from rfl) ?_
  refine AE.sub (L' := [some (.ref (13)), some (.int (x1)), some (.int (-1)), some (.int (nI 0))]) (And.intro rfl (And.intro rfl (And.intro rfl (And.intro rfl trivial)))) ?_
  refine lk_X3_takeDigits_4 B hfl K hex  (by omega) ?_ 1000 (-1) (nI 0) V h
  intro a2_4 a3_4 V_4x h
  refine AE.run K eX3_takeDigits 48 1 (show am_run 4 ((tX3_takeDigits.drop 48).take 1) 86 [none, none, some (.int (a2_4)), none] [] = some (87, [none, none, some (.int (a2_4)), none], [.int (a2_4)]) from rfl) ?_
  exact AE.iret K (by omega) (am_at eX3_takeDigits 49 rfl) h
def d_X3_takeValue (x1 : Int32) (V : am_V) : am_R := (if ¬ x1 = (nI 42) then rB (fun (bs0_33 : Int32) (V_33 : am_V) => rI (d_X3_takeDigits bs0_33 V_33) (fun (y2 : Int32) (V1 : am_V) => some (.inl (some (.int (y2))), V1))) (fun (j33 : Int32 → am_V → am_R) => (if ¬ x1 = (nI 35) then j33 (nI 3) V else j33 (nI 1) V)) else rI (d_X3_takeSign (nI 43) V) (fun (y4 : Int32) (V3 : am_V) => rB (fun (bs0_20 : Int32) (V_20 : am_V) => some (.inl (some (.int (bs0_20))), V_20)) (fun (j20 : Int32 → am_V → am_R) => (if y4 = 0 then j20 (nI 0) V3 else j20 (nI 1) V3))))
set_option maxRecDepth 100000 in
set_option maxHeartbeats 4000000 in
theorem kX3_takeValue {U : am_U} {l : Launch} (B : am_base xx U) (hfl : l.stackTraces = false) {V : am_V} {x1 : Int32} {r : (Option Value ⊕ String) × am_V} (h : d_X3_takeValue x1 V = some r) : am_Ct xx U l yX3_takeValue cX3_takeValue 2 (some .int) (rk 3 0 83) [.ref (13), .int (x1)] V (am_is r.1 r.2) := by
  refine am_Ct.of B hfl (by decide) (Nat.le_of_ble_eq_true rfl) ?_
  intro G hgl hgR hr ok h0 hex
  have K : aK U l G RX3 cX3_takeValue 2 (some .int) 3 0 83 := ⟨hgl, hgR, hr, ok, h0⟩
  unfold d_X3_takeValue at h
  show AE U G 2 3 0 83 r 0 V 0 [some (.ref (13)), some (.int (x1))] []
  refine AE.run K eX3_takeValue 0 2 (show am_run 2 ((tX3_takeValue.drop 0).take 2) 0 [some (.ref (13)), some (.int (x1))] [] = some (3, [some (.ref (13)), some (.int (x1))], [.int (nI 42), .int (x1)]) from rfl) ?_
  refine AE.ic K 21 (am_at eX3_takeValue 2 rfl) (by decide) rfl h (fun h => ?_) (fun h => ?_)
  · refine AE.run K eX3_takeValue 11 3 (show am_run 2 ((tX3_takeValue.drop 11).take 3) 21 [some (.ref (13)), some (.int (x1))] [] = some (25, [some (.ref (13)), some (.int (x1))], [.int (nI 35), .int (x1), .ref (13)]) from rfl) ?_
    refine rB_of (P := fun (j : Int32 → am_V → am_R) => ∀ (bs0_33 : Int32) (V_33 : am_V), j bs0_33 V_33 = some r → AE U G 2 3 0 83 r 0 V_33 33 [none, none] [.int (bs0_33), .ref (13)]) h (fun bs0_33 V_33 h => ?_) (fun j33 hj33 h => ?_)
    · refine AE.cv (f' := 2) (c' := 0) (lo' := 60) (st := []) (As := [.int (bs0_33)]) (m := d_X3_takeDigits bs0_33 V_33) K hex (fun q hq => kX3_takeDigits B hfl hq) cv_X3_77 rfl (T := TX3) (N := 6) rfl rfl rfl (Nat.le_of_ble_eq_true rfl) ⟨Nat.le_of_ble_eq_true rfl, Nat.le_of_ble_eq_true rfl⟩ (by omega) (am_at eX3_takeValue 18 rfl) h (rI_some h) (bkI (fun y2 V1 h => ?_))
      exact AE.iret K (by omega) (am_at eX3_takeValue 19 rfl) h
    refine AE.ic K 32 (am_at eX3_takeValue 14 rfl) (by decide) rfl h (fun h => ?_) (fun h => ?_)
    · refine AE.run K eX3_takeValue 17 1 (show am_run 2 ((tX3_takeValue.drop 17).take 1) 32 [some (.ref (13)), some (.int (x1))] [.ref (13)] = some (33, [some (.ref (13)), some (.int (x1))], [.int (nI 3), .ref (13)]) from rfl) ?_
      exact AE.sub (L' := [none, none]) trivial (hj33 (nI 3) V h)
    · refine AE.run K eX3_takeValue 15 2 (show am_run 2 ((tX3_takeValue.drop 15).take 2) 28 [some (.ref (13)), some (.int (x1))] [.ref (13)] = some (33, [some (.ref (13)), some (.int (x1))], [.int (nI 1), .ref (13)]) from rfl) ?_
      exact AE.sub (L' := [none, none]) trivial (hj33 (nI 1) V h)
  · refine AE.run K eX3_takeValue 3 2 (show am_run 2 ((tX3_takeValue.drop 3).take 2) 6 [some (.ref (13)), some (.int (x1))] [] = some (9, [some (.ref (13)), some (.int (x1))], [.int (nI 43), .ref (13)]) from rfl) ?_
    refine AE.cv (f' := 0) (c' := 0) (lo' := 0) (st := []) (As := [.int (nI 43)]) (m := d_X3_takeSign (nI 43) V) K hex (fun q hq => kX3_takeSign B hfl hq) cv_X3_44 rfl (T := TX3) (N := 6) rfl rfl rfl (Nat.le_of_ble_eq_true rfl) ⟨Nat.le_of_ble_eq_true rfl, Nat.le_of_ble_eq_true rfl⟩ (by omega) (am_at eX3_takeValue 5 rfl) h (rI_some h) (bkI (fun y4 V3 h => ?_))
    refine rB_of (P := fun (j : Int32 → am_V → am_R) => ∀ (bs0_20 : Int32) (V_20 : am_V), j bs0_20 V_20 = some r → AE U G 2 3 0 83 r 0 V_20 20 [none, none] [.int (bs0_20)]) h (fun bs0_20 V_20 h => ?_) (fun j20 hj20 h => ?_)
    · exact AE.iret K (by omega) (am_at eX3_takeValue 10 rfl) h
    refine AE.if0 K 19 (am_at eX3_takeValue 6 rfl) (by decide) rfl h (fun h => ?_) (fun h => ?_)
    · refine AE.run K eX3_takeValue 9 1 (show am_run 2 ((tX3_takeValue.drop 9).take 1) 19 [some (.ref (13)), some (.int (x1))] [] = some (20, [some (.ref (13)), some (.int (x1))], [.int (nI 0)]) from rfl) ?_
      exact AE.sub (L' := [none, none]) trivial (hj20 (nI 0) V3 h)
    · refine AE.run K eX3_takeValue 7 2 (show am_run 2 ((tX3_takeValue.drop 7).take 2) 15 [some (.ref (13)), some (.int (x1))] [] = some (20, [some (.ref (13)), some (.int (x1))], [.int (nI 1)]) from rfl) ?_
      exact AE.sub (L' := [none, none]) trivial (hj20 (nI 1) V3 h)
def d_X3_append (x1 : Int32) (V : am_V) : am_R := rB (fun (V_29 : am_V) => some (.inl none, V_29)) (fun (j29 : am_V → am_R) => (if (nI 60) ≤ (V 13 3) then j29 V else rG (am_in (V 13 3) 60) (rG (am_nc x1) (rV (am_set V 16 (iN (V 13 3)) x1) (fun (V1 : am_V) => rV (am_set V1 13 3 ((V1 13 3) + (nI 1))) (fun (V2 : am_V) => j29 V2))))))
set_option maxRecDepth 100000 in
set_option maxHeartbeats 4000000 in
theorem kX3_append {U : am_U} {l : Launch} (B : am_base xx U) (hfl : l.stackTraces = false) {V : am_V} {x1 : Int32} {r : (Option Value ⊕ String) × am_V} (h : d_X3_append x1 V = some r) : am_Ct xx U l yX3_append cX3_append 2 none (rk 0 0 0) [.ref (13), .int (x1)] V (am_is r.1 r.2) := by
  refine am_Ct.of B hfl (by decide) (Nat.le_of_ble_eq_true rfl) ?_
  intro G hgl hgR hr ok h0 hex
  have K : aK U l G RX3 cX3_append 2 none 0 0 0 := ⟨hgl, hgR, hr, ok, h0⟩
  unfold d_X3_append at h
  show AE U G 2 0 0 0 r 0 V 0 [some (.ref (13)), some (.int (x1))] []
  refine AE.run K eX3_append 0 1 (show am_run 2 ((tX3_append.drop 0).take 1) 0 [some (.ref (13)), some (.int (x1))] [] = some (1, [some (.ref (13)), some (.int (x1))], [.ref (13)]) from rfl) ?_
  refine AE.getI K gf_X3_26 rfl rfl (am_at eX3_append 1 rfl) ?_
  refine AE.run K eX3_append 2 1 (show am_run 2 ((tX3_append.drop 2).take 1) 4 [some (.ref (13)), some (.int (x1))] [.int (V 13 3)] = some (6, [some (.ref (13)), some (.int (x1))], [.int (nI 60), .int (V 13 3)]) from rfl) ?_
  refine rB_of (P := fun (j : am_V → am_R) => ∀ (V_29 : am_V), j V_29 = some r → AE U G 2 0 0 0 r 0 V_29 29 [none, none] []) h (fun V_29 h => ?_) (fun j29 hj29 h => ?_)
  · exact AE.vret K (by omega) (am_at eX3_append 16 rfl) h
  refine AE.ic K 29 (am_at eX3_append 3 rfl) (by decide) rfl h (fun h => ?_) (fun h => ?_)
  · exact AE.sub (L' := [none, none]) trivial (hj29  V h)
  · refine AE.run K eX3_append 4 1 (show am_run 2 ((tX3_append.drop 4).take 1) 9 [some (.ref (13)), some (.int (x1))] [] = some (10, [some (.ref (13)), some (.int (x1))], [.ref (13)]) from rfl) ?_
    refine AE.getR K gf_X3_29 rfl rfl (am_at eX3_append 5 rfl) ?_
    refine AE.run K eX3_append 6 1 (show am_run 2 ((tX3_append.drop 6).take 1) 13 [some (.ref (13)), some (.int (x1))] [.ref (16)] = some (14, [some (.ref (13)), some (.int (x1))], [.ref (13), .ref (16)]) from rfl) ?_
    refine AE.getI K gf_X3_26 rfl rfl (am_at eX3_append 7 rfl) ?_
    refine AE.run K eX3_append 8 1 (show am_run 2 ((tX3_append.drop 8).take 1) 17 [some (.ref (13)), some (.int (x1))] [.int (V 13 3), .ref (16)] = some (18, [some (.ref (13)), some (.int (x1))], [.int (x1), .int (V 13 3), .ref (16)]) from rfl) ?_
    refine AE.cast K rfl rfl (am_at eX3_append 9 rfl) h (fun V1 h => ?_)
    refine AE.run K eX3_append 10 2 (show am_run 2 ((tX3_append.drop 10).take 2) 19 [some (.ref (13)), some (.int (x1))] [] = some (21, [some (.ref (13)), some (.int (x1))], [.ref (13), .ref (13)]) from rfl) ?_
    refine AE.getI K gf_X3_26 rfl rfl (am_at eX3_append 12 rfl) ?_
    refine AE.run K eX3_append 13 2 (show am_run 2 ((tX3_append.drop 13).take 2) 24 [some (.ref (13)), some (.int (x1))] [.int (V1 13 3), .ref (13)] = some (26, [some (.ref (13)), some (.int (x1))], [.int ((V1 13 3) + (nI 1)), .ref (13)]) from rfl) ?_
    refine AE.putI K pf_X3_26 rfl rfl rfl (am_at eX3_append 15 rfl) h (fun V2 h => ?_)
    exact AE.sub (L' := [none, none]) trivial (hj29  V2 h)
def d_X11_appendInput (x1 : Int32) (V : am_V) : am_R := rB (fun (V_12 : am_V) => some (.inr "java/lang/IllegalArgumentException", V_12)) (fun (j12 : am_V → am_R) => (if x1 < (nI 32) then j12 V else (if x1 ≤ (nI 126) then (if (V 13 3) < (nI 60) then rU (d_X3_append x1 V) (fun (V1 : am_V) => some (.inl (some (.int (V1 13 3))), V1)) else some (.inr "java/lang/IllegalStateException", V)) else j12 V)))
set_option maxRecDepth 100000 in
set_option maxHeartbeats 4000000 in
theorem kX11_appendInput {U : am_U} {l : Launch} (B : am_base xx U) (hfl : l.stackTraces = false) {V : am_V} {x1 : Int32} {r : (Option Value ⊕ String) × am_V} (h : d_X11_appendInput x1 V = some r) : am_Ct xx U l yX11_appendInput cX11_appendInput 2 (some .int) (rk 7 1 200) [.ref (1), .int (x1)] V (am_is r.1 r.2) := by
  refine am_Ct.of B hfl (by decide) (Nat.le_of_ble_eq_true rfl) ?_
  intro G hgl hgR hr ok h0 hex
  have K : aK U l G RX11 cX11_appendInput 2 (some .int) 7 1 200 := ⟨hgl, hgR, hr, ok, h0⟩
  unfold d_X11_appendInput at h
  show AE U G 2 7 1 200 r 0 V 0 [some (.ref (1)), some (.int (x1))] []
  refine AE.run K eX11_appendInput 0 2 (show am_run 2 ((tX11_appendInput.drop 0).take 2) 0 [some (.ref (1)), some (.int (x1))] [] = some (3, [some (.ref (1)), some (.int (x1))], [.int (nI 32), .int (x1)]) from rfl) ?_
  refine rB_of (P := fun (j : am_V → am_R) => ∀ (V_12 : am_V), j V_12 = some r → AE U G 2 7 1 200 r 0 V_12 12 [none, none] []) h (fun V_12 h => ?_) (fun j12 hj12 h => ?_)
  · exact AE.throwSW K hex th_X11_339_341 (am_at eX11_appendInput 6 rfl) (am_at eX11_appendInput 7 rfl) (am_at eX11_appendInput 8 rfl) (am_at eX11_appendInput 9 rfl) (am_at eX11_appendInput 10 rfl) (by decide) (Nat.le_of_ble_eq_true rfl) (by omega) h
  refine AE.ic K 12 (am_at eX11_appendInput 2 rfl) (by decide) rfl h (fun h => ?_) (fun h => ?_)
  · exact AE.sub (L' := [none, none]) trivial (hj12  V h)
  · refine AE.run K eX11_appendInput 3 2 (show am_run 2 ((tX11_appendInput.drop 3).take 2) 6 [some (.ref (1)), some (.int (x1))] [] = some (9, [some (.ref (1)), some (.int (x1))], [.int (nI 126), .int (x1)]) from rfl) ?_
    refine AE.ic K 23 (am_at eX11_appendInput 5 rfl) (by decide) rfl h (fun h => ?_) (fun h => ?_)
    · refine AE.run K eX11_appendInput 11 1 (show am_run 2 ((tX11_appendInput.drop 11).take 1) 23 [some (.ref (1)), some (.int (x1))] [] = some (24, [some (.ref (1)), some (.int (x1))], [.ref (1)]) from rfl) ?_
      refine AE.getR K gf_X11_60 rfl rfl (am_at eX11_appendInput 12 rfl) ?_
      refine AE.getI K gf_X11_344 rfl rfl (am_at eX11_appendInput 13 rfl) ?_
      refine AE.run K eX11_appendInput 14 1 (show am_run 2 ((tX11_appendInput.drop 14).take 1) 30 [some (.ref (1)), some (.int (x1))] [.int (V 13 3)] = some (32, [some (.ref (1)), some (.int (x1))], [.int (nI 60), .int (V 13 3)]) from rfl) ?_
      refine AE.ic K 46 (am_at eX11_appendInput 15 rfl) (by decide) rfl h (fun h => ?_) (fun h => ?_)
      · refine AE.run K eX11_appendInput 21 1 (show am_run 2 ((tX11_appendInput.drop 21).take 1) 46 [some (.ref (1)), some (.int (x1))] [] = some (47, [some (.ref (1)), some (.int (x1))], [.ref (1)]) from rfl) ?_
        refine AE.getR K gf_X11_60 rfl rfl (am_at eX11_appendInput 22 rfl) ?_
        refine AE.run K eX11_appendInput 23 1 (show am_run 2 ((tX11_appendInput.drop 23).take 1) 50 [some (.ref (1)), some (.int (x1))] [.ref (13)] = some (51, [some (.ref (1)), some (.int (x1))], [.int (x1), .ref (13)]) from rfl) ?_
        refine AE.cv (f' := 0) (c' := 0) (lo' := 0) (st := []) (As := [.int (x1)]) (m := d_X3_append x1 V) K hex (fun q hq => kX3_append B hfl hq) cv_X11_352 rfl (T := TX3) (N := 6) rfl rfl rfl (Nat.le_of_ble_eq_true rfl) ⟨Nat.le_of_ble_eq_true rfl, Nat.le_of_ble_eq_true rfl⟩ (by omega) (am_at eX11_appendInput 24 rfl) h (rU_some h) (bkU (fun V1 h => ?_))
        refine AE.run K eX11_appendInput 25 1 (show am_run 2 ((tX11_appendInput.drop 25).take 1) 54 [some (.ref (1)), some (.int (x1))] [] = some (55, [some (.ref (1)), some (.int (x1))], [.ref (1)]) from rfl) ?_
        refine AE.getR K gf_X11_60 rfl rfl (am_at eX11_appendInput 26 rfl) ?_
        refine AE.getI K gf_X11_344 rfl rfl (am_at eX11_appendInput 27 rfl) ?_
        exact AE.iret K (by omega) (am_at eX11_appendInput 28 rfl) h
      · exact AE.throwSW K hex th_X11_347_349 (am_at eX11_appendInput 16 rfl) (am_at eX11_appendInput 17 rfl) (am_at eX11_appendInput 18 rfl) (am_at eX11_appendInput 19 rfl) (am_at eX11_appendInput 20 rfl) (by decide) (Nat.le_of_ble_eq_true rfl) (by omega) h
    · exact AE.sub (L' := [none, none]) trivial (hj12  V h)
def bd_X3_takeShape_5 (z : Nat) (w : Nat) (kx kr : Int32 → Int32 → am_V → am_R) (a3_5 : Int32) (a4_5 : Int32) (V_5 : am_V) : am_R := rI (d_J0_length_8abf5 z V_5) (fun (y2 : Int32) (V1 : am_V) => (if y2 ≤ a4_5 then kx a3_5 a4_5 V1 else rI (d_J0_charAt_5068e z a4_5 V1) (fun (y4 : Int32) (V3 : am_V) => rB (fun (b3_86 : Int32) (V_86 : am_V) => kr b3_86 (a4_5 + nI 1) V_86) (fun (j86 : Int32 → am_V → am_R) => rB (fun (V_43 : am_V) => rI (d_X3_takeValue y4 V_43) (fun (y8 : Int32) (V7 : am_V) => rB (fun (V_62 : am_V) => rG (am_nb (nI 0)) (some (.inl (some (.int (nI 0))), V_62))) (fun (j62 : am_V → am_R) => (if y8 = (-1) then j62 V7 else (if a3_5 < (nI 4) then rG (am_in a3_5 4) (rV (am_set V7 (40 + w) (iN a3_5) y8) (fun (V9 : am_V) => j86 (a3_5 + nI 1) V9)) else j62 V7))))) (fun (j43 : am_V → am_R) => (if y4 = (nI 35) then j43 V3 else (if y4 = (nI 64) then j43 V3 else (if ¬ y4 = (nI 42) then rI (d_X3_takeSign y4 V3) (fun (y6 : Int32) (V5 : am_V) => (if ¬ y6 = 0 then j86 a3_5 V5 else rG (am_nb (nI 0)) (some (.inl (some (.int (nI 0))), V5)))) else j43 V3))))))))
def lp_X3_takeShape_5 (z : Nat) (w : Nat) (kx : Int32 → Int32 → am_V → am_R) : Nat → Int32 → Int32 → am_V → am_R
  | 0, _, _, _ => none
  | f9 + 1, a3_5, a4_5, V_5 => bd_X3_takeShape_5 z w kx (lp_X3_takeShape_5 z w kx f9) a3_5 a4_5 V_5
def d_X3_takeShape (z : Nat) (w : Nat) (V : am_V) : am_R := lp_X3_takeShape_5 z w (fun (a3_5 : Int32) (a4_5 : Int32) (V_5x : am_V) => rG (am_nb (nI 1)) (some (.inl (some (.int (nI 1))), V_5x))) 1000 (nI 0) (nI 0) V
set_option maxRecDepth 100000 in
set_option maxHeartbeats 4000000 in
theorem bk_X3_takeShape_5 {U : am_U} {l : Launch} (B : am_B2 U) (hfl : l.stackTraces = false) {G : am_G} (K : aK U l G RX3 cX3_takeShape 7 (some .boolean) 4 0 104) (hex : am_nx G) {r : (Option Value ⊕ String) × am_V} {z : Nat} {w : Nat} (hz : z < 39) (hw : w < 12) {kc : Nat} (hkc : kc ≤ 0) {kx kr : Int32 → Int32 → am_V → am_R} (hx : ∀ (a3_5 : Int32) (a4_5 : Int32) (Vq : am_V), kx a3_5 a4_5 Vq = some r → AE U G 7 4 0 104 r kc Vq 92 [none, none, none, none, none, none, none] []) (hr : ∀ (a3_5 : Int32) (a4_5 : Int32) (Vq : am_V), kr a3_5 a4_5 Vq = some r → AE U G 7 4 0 104 r kc Vq 5 [some (.ref (13)), some (.ref (400 + z)), some (.ref (40 + w)), some (.int (a3_5)), some (.int (a4_5)), none, none] []) (a3_5 : Int32) (a4_5 : Int32) (V_5 : am_V) (h : bd_X3_takeShape_5 z w kx kr a3_5 a4_5 V_5 = some r) : AE U G 7 4 0 104 r kc V_5 5 [some (.ref (13)), some (.ref (400 + z)), some (.ref (40 + w)), some (.int (a3_5)), some (.int (a4_5)), none, none] [] := by
  unfold bd_X3_takeShape_5 at h
  refine AE.run K eX3_takeShape 4 2 (show am_run 7 ((tX3_takeShape.drop 4).take 2) 5 [some (.ref (13)), some (.ref (400 + z)), some (.ref (40 + w)), some (.int (a3_5)), some (.int (a4_5)), none, none] [] = some (8, [some (.ref (13)), some (.ref (400 + z)), some (.ref (40 + w)), some (.int (a3_5)), some (.int (a4_5)), none, none], [.ref (400 + z), .int (a4_5)]) from rfl) ?_
  refine AE.cvC (f' := 1) (c' := 0) (lo' := 20) (st := [.int (a4_5)]) (As := []) (m := d_J0_length_8abf5 z V_5) K hex (fun q hq => kJ0_length_8abf5 B hfl (z := z) hz hq) cv_X3_65 (B.2.1 z hz).1 rfl rfl (Nat.le_of_ble_eq_true rfl) ⟨Nat.le_of_ble_eq_true rfl, Nat.le_of_ble_eq_true rfl⟩ (by omega) (am_at eX3_takeShape 6 rfl) h (rI_some h) (bkI (fun y2 V1 h => ?_))
  refine AE.ic K 92 (am_at eX3_takeShape 7 rfl) (by decide) rfl h (fun h => ?_) (fun h => ?_)
  · exact AE.sub (L' := [none, none, none, none, none, none, none]) trivial (hx a3_5 a4_5 V1 h)
  · refine AE.run K eX3_takeShape 8 2 (show am_run 7 ((tX3_takeShape.drop 8).take 2) 14 [some (.ref (13)), some (.ref (400 + z)), some (.ref (40 + w)), some (.int (a3_5)), some (.int (a4_5)), none, none] [] = some (17, [some (.ref (13)), some (.ref (400 + z)), some (.ref (40 + w)), some (.int (a3_5)), some (.int (a4_5)), none, none], [.int (a4_5), .ref (400 + z)]) from rfl) ?_
    refine AE.cvC (f' := 3) (c' := 0) (lo' := 64) (st := []) (As := [.int (a4_5)]) (m := d_J0_charAt_5068e z a4_5 V1) K hex (fun q hq => kJ0_charAt_5068e B hfl (z := z) hz hq) cv_X3_69 (B.2.1 z hz).1 rfl rfl (Nat.le_of_ble_eq_true rfl) ⟨Nat.le_of_ble_eq_true rfl, Nat.le_of_ble_eq_true rfl⟩ (by omega) (am_at eX3_takeShape 10 rfl) h (rI_some h) (bkI (fun y4 V3 h => ?_))
    refine AE.run K eX3_takeShape 11 3 (show am_run 7 ((tX3_takeShape.drop 11).take 3) 20 [some (.ref (13)), some (.ref (400 + z)), some (.ref (40 + w)), some (.int (a3_5)), some (.int (a4_5)), none, none] [.int (y4)] = some (26, [some (.ref (13)), some (.ref (400 + z)), some (.ref (40 + w)), some (.int (a3_5)), some (.int (a4_5)), some (.int (y4)), none], [.int (nI 35), .int (y4)]) from rfl) ?_
    refine rB_of (P := fun (j : Int32 → am_V → am_R) => ∀ (b3_86 : Int32) (V_86 : am_V), j b3_86 V_86 = some r → AE U G 7 4 0 104 r (kc) V_86 86 [some (.ref (13)), some (.ref (400 + z)), some (.ref (40 + w)), some (.int (b3_86)), some (.int (a4_5)), none, none] []) h (fun b3_86 V_86 h => ?_) (fun j86 hj86 h => ?_)
    · refine AE.run K eX3_takeShape 45 2 (show am_run 7 ((tX3_takeShape.drop 45).take 2) 86 [some (.ref (13)), some (.ref (400 + z)), some (.ref (40 + w)), some (.int (b3_86)), some (.int (a4_5)), none, none] [] = some (5, [some (.ref (13)), some (.ref (400 + z)), some (.ref (40 + w)), some (.int (b3_86)), some (.int (a4_5 + nI 1)), none, none], []) from rfl) ?_
      exact AE.sub (L' := [some (.ref (13)), some (.ref (400 + z)), some (.ref (40 + w)), some (.int (b3_86)), some (.int (a4_5 + nI 1)), none, none]) (And.intro rfl (And.intro rfl (And.intro rfl (And.intro rfl (And.intro rfl trivial))))) (hr b3_86 (a4_5 + nI 1) V_86 h)
    refine rB_of (P := fun (j : am_V → am_R) => ∀ (V_43 : am_V), j V_43 = some r → AE U G 7 4 0 104 r (kc) V_43 43 [some (.ref (13)), some (.ref (400 + z)), some (.ref (40 + w)), some (.int (a3_5)), some (.int (a4_5)), some (.int (y4)), none] []) h (fun V_43 h => ?_) (fun j43 hj43 h => ?_)
    · refine AE.run K eX3_takeShape 21 2 (show am_run 7 ((tX3_takeShape.drop 21).take 2) 43 [some (.ref (13)), some (.ref (400 + z)), some (.ref (40 + w)), some (.int (a3_5)), some (.int (a4_5)), some (.int (y4)), none] [] = some (46, [some (.ref (13)), some (.ref (400 + z)), some (.ref (40 + w)), some (.int (a3_5)), some (.int (a4_5)), some (.int (y4)), none], [.int (y4), .ref (13)]) from rfl) ?_
      refine AE.cv (f' := 3) (c' := 0) (lo' := 83) (st := []) (As := [.int (y4)]) (m := d_X3_takeValue y4 V_43) K hex (fun q hq => kX3_takeValue B.1 hfl hq) cv_X3_73 rfl (T := TX3) (N := 6) rfl rfl rfl (Nat.le_of_ble_eq_true rfl) ⟨Nat.le_of_ble_eq_true rfl, Nat.le_of_ble_eq_true rfl⟩ (by omega) (am_at eX3_takeShape 23 rfl) h (rI_some h) (bkI (fun y8 V7 h => ?_))
      refine AE.run K eX3_takeShape 24 3 (show am_run 7 ((tX3_takeShape.drop 24).take 3) 49 [some (.ref (13)), some (.ref (400 + z)), some (.ref (40 + w)), some (.int (a3_5)), some (.int (a4_5)), some (.int (y4)), none] [.int (y8)] = some (54, [some (.ref (13)), some (.ref (400 + z)), some (.ref (40 + w)), some (.int (a3_5)), some (.int (a4_5)), some (.int (y4)), some (.int (y8))], [.int (-1), .int (y8)]) from rfl) ?_
      refine rB_of (P := fun (j : am_V → am_R) => ∀ (V_62 : am_V), j V_62 = some r → AE U G 7 4 0 104 r (kc) V_62 62 [none, none, none, none, none, none, none] []) h (fun V_62 h => ?_) (fun j62 hj62 h => ?_)
      · refine AE.run K eX3_takeShape 31 1 (show am_run 7 ((tX3_takeShape.drop 31).take 1) 62 [none, none, none, none, none, none, none] [] = some (63, [none, none, none, none, none, none, none], [.int (nI 0)]) from rfl) ?_
        exact AE.zret K (by omega) (am_at eX3_takeShape 32 rfl) h
      refine AE.ic K 62 (am_at eX3_takeShape 27 rfl) (by decide) rfl h (fun h => ?_) (fun h => ?_)
      · exact AE.sub (L' := [none, none, none, none, none, none, none]) trivial (hj62  V7 h)
      · refine AE.run K eX3_takeShape 28 2 (show am_run 7 ((tX3_takeShape.drop 28).take 2) 57 [some (.ref (13)), some (.ref (400 + z)), some (.ref (40 + w)), some (.int (a3_5)), some (.int (a4_5)), some (.int (y4)), some (.int (y8))] [] = some (59, [some (.ref (13)), some (.ref (400 + z)), some (.ref (40 + w)), some (.int (a3_5)), some (.int (a4_5)), some (.int (y4)), some (.int (y8))], [.int (nI 4), .int (a3_5)]) from rfl) ?_
        refine AE.ic K 64 (am_at eX3_takeShape 30 rfl) (by decide) rfl h (fun h => ?_) (fun h => ?_)
        · refine AE.run K eX3_takeShape 33 3 (show am_run 7 ((tX3_takeShape.drop 33).take 3) 64 [some (.ref (13)), some (.ref (400 + z)), some (.ref (40 + w)), some (.int (a3_5)), some (.int (a4_5)), some (.int (y4)), some (.int (y8))] [] = some (68, [some (.ref (13)), some (.ref (400 + z)), some (.ref (40 + w)), some (.int (a3_5)), some (.int (a4_5)), some (.int (y4)), some (.int (y8))], [.int (y8), .int (a3_5), .ref (40 + w)]) from rfl) ?_
          refine AE.iast K (sh_row hw) (wr_row hw) (am_at eX3_takeShape 36 rfl) h (fun V9 h => ?_)
          refine AE.run K eX3_takeShape 37 2 (show am_run 7 ((tX3_takeShape.drop 37).take 2) 69 [some (.ref (13)), some (.ref (400 + z)), some (.ref (40 + w)), some (.int (a3_5)), some (.int (a4_5)), some (.int (y4)), some (.int (y8))] [] = some (86, [some (.ref (13)), some (.ref (400 + z)), some (.ref (40 + w)), some (.int (a3_5 + nI 1)), some (.int (a4_5)), some (.int (y4)), some (.int (y8))], []) from rfl) ?_
          exact AE.sub (L' := [some (.ref (13)), some (.ref (400 + z)), some (.ref (40 + w)), some (.int (a3_5 + nI 1)), some (.int (a4_5)), none, none]) (And.intro rfl (And.intro rfl (And.intro rfl (And.intro rfl (And.intro rfl trivial))))) (hj86 (a3_5 + nI 1) V9 h)
        · exact AE.sub (L' := [none, none, none, none, none, none, none]) trivial (hj62  V7 h)
    refine AE.ic K 43 (am_at eX3_takeShape 14 rfl) (by decide) rfl h (fun h => ?_) (fun h => ?_)
    · exact (hj43  V3 h)
    · refine AE.run K eX3_takeShape 15 2 (show am_run 7 ((tX3_takeShape.drop 15).take 2) 29 [some (.ref (13)), some (.ref (400 + z)), some (.ref (40 + w)), some (.int (a3_5)), some (.int (a4_5)), some (.int (y4)), none] [] = some (33, [some (.ref (13)), some (.ref (400 + z)), some (.ref (40 + w)), some (.int (a3_5)), some (.int (a4_5)), some (.int (y4)), none], [.int (nI 64), .int (y4)]) from rfl) ?_
      refine AE.ic K 43 (am_at eX3_takeShape 17 rfl) (by decide) rfl h (fun h => ?_) (fun h => ?_)
      · exact (hj43  V3 h)
      · refine AE.run K eX3_takeShape 18 2 (show am_run 7 ((tX3_takeShape.drop 18).take 2) 36 [some (.ref (13)), some (.ref (400 + z)), some (.ref (40 + w)), some (.int (a3_5)), some (.int (a4_5)), some (.int (y4)), none] [] = some (40, [some (.ref (13)), some (.ref (400 + z)), some (.ref (40 + w)), some (.int (a3_5)), some (.int (a4_5)), some (.int (y4)), none], [.int (nI 42), .int (y4)]) from rfl) ?_
        refine AE.ic K 75 (am_at eX3_takeShape 20 rfl) (by decide) rfl h (fun h => ?_) (fun h => ?_)
        · refine AE.run K eX3_takeShape 39 2 (show am_run 7 ((tX3_takeShape.drop 39).take 2) 75 [some (.ref (13)), some (.ref (400 + z)), some (.ref (40 + w)), some (.int (a3_5)), some (.int (a4_5)), some (.int (y4)), none] [] = some (78, [some (.ref (13)), some (.ref (400 + z)), some (.ref (40 + w)), some (.int (a3_5)), some (.int (a4_5)), some (.int (y4)), none], [.int (y4), .ref (13)]) from rfl) ?_
          refine AE.cv (f' := 0) (c' := 0) (lo' := 0) (st := []) (As := [.int (y4)]) (m := d_X3_takeSign y4 V3) K hex (fun q hq => kX3_takeSign B.1 hfl hq) cv_X3_44 rfl (T := TX3) (N := 6) rfl rfl rfl (Nat.le_of_ble_eq_true rfl) ⟨Nat.le_of_ble_eq_true rfl, Nat.le_of_ble_eq_true rfl⟩ (by omega) (am_at eX3_takeShape 41 rfl) h (rI_some h) (bkI (fun y6 V5 h => ?_))
          refine AE.if0 K 86 (am_at eX3_takeShape 42 rfl) (by decide) rfl h (fun h => ?_) (fun h => ?_)
          · exact AE.sub (L' := [some (.ref (13)), some (.ref (400 + z)), some (.ref (40 + w)), some (.int (a3_5)), some (.int (a4_5)), none, none]) (And.intro rfl (And.intro rfl (And.intro rfl (And.intro rfl (And.intro rfl trivial))))) (hj86 a3_5 V5 h)
          · refine AE.run K eX3_takeShape 43 1 (show am_run 7 ((tX3_takeShape.drop 43).take 1) 84 [some (.ref (13)), some (.ref (400 + z)), some (.ref (40 + w)), some (.int (a3_5)), some (.int (a4_5)), some (.int (y4)), none] [] = some (85, [some (.ref (13)), some (.ref (400 + z)), some (.ref (40 + w)), some (.int (a3_5)), some (.int (a4_5)), some (.int (y4)), none], [.int (nI 0)]) from rfl) ?_
            exact AE.zret K (by omega) (am_at eX3_takeShape 44 rfl) h
        · exact (hj43  V3 h)
theorem lk_X3_takeShape_5 {U : am_U} {l : Launch} (B : am_B2 U) (hfl : l.stackTraces = false) {G : am_G} (K : aK U l G RX3 cX3_takeShape 7 (some .boolean) 4 0 104) (hex : am_nx G) {r : (Option Value ⊕ String) × am_V} {z : Nat} {w : Nat} (hz : z < 39) (hw : w < 12) {kc : Nat} (hkc : kc ≤ 0) {kx : Int32 → Int32 → am_V → am_R} (hx : ∀ (a3_5 : Int32) (a4_5 : Int32) (Vq : am_V), kx a3_5 a4_5 Vq = some r → AE U G 7 4 0 104 r kc Vq 92 [none, none, none, none, none, none, none] []) : ∀ (f9 : Nat) (a3_5 : Int32) (a4_5 : Int32) (Vq : am_V), lp_X3_takeShape_5 z w kx f9 a3_5 a4_5 Vq = some r → AE U G 7 4 0 104 r kc Vq 5 [some (.ref (13)), some (.ref (400 + z)), some (.ref (40 + w)), some (.int (a3_5)), some (.int (a4_5)), none, none] [] := by
  intro f9
  induction f9 with
  | zero =>
    intro a3_5 a4_5 Vq h
    cases h
  | succ f9 ih =>
    intro a3_5 a4_5 Vq h
    exact bk_X3_takeShape_5 B hfl K hex hz hw hkc hx ih a3_5 a4_5 Vq h
set_option maxRecDepth 100000 in
set_option maxHeartbeats 4000000 in
theorem kX3_takeShape {U : am_U} {l : Launch} (B : am_B2 U) (hfl : l.stackTraces = false) {V : am_V} {z : Nat} {w : Nat} (hz : z < 39) (hw : w < 12) {r : (Option Value ⊕ String) × am_V} (h : d_X3_takeShape z w V = some r) : am_Ct xx U l yX3_takeShape cX3_takeShape 7 (some .boolean) (rk 4 0 104) [.ref (13), .ref (400 + z), .ref (40 + w)] V (am_is r.1 r.2) := by
  refine am_Ct.of B.1 hfl (by decide) (Nat.le_of_ble_eq_true rfl) ?_
  intro G hgl hgR hr ok h0 hex
  have K : aK U l G RX3 cX3_takeShape 7 (some .boolean) 4 0 104 := ⟨hgl, hgR, hr, ok, h0⟩
  unfold d_X3_takeShape at h
  show AE U G 7 4 0 104 r 0 V 0 [some (.ref (13)), some (.ref (400 + z)), some (.ref (40 + w)), none, none, none, none] []
  refine AE.run K eX3_takeShape 0 4 (show am_run 7 ((tX3_takeShape.drop 0).take 4) 0 [some (.ref (13)), some (.ref (400 + z)), some (.ref (40 + w)), none, none, none, none] [] = some (5, [some (.ref (13)), some (.ref (400 + z)), some (.ref (40 + w)), some (.int (nI 0)), some (.int (nI 0)), none, none], []) from rfl) ?_
  refine AE.sub (L' := [some (.ref (13)), some (.ref (400 + z)), some (.ref (40 + w)), some (.int (nI 0)), some (.int (nI 0)), none, none]) (And.intro rfl (And.intro rfl (And.intro rfl (And.intro rfl (And.intro rfl trivial))))) ?_
  refine lk_X3_takeShape_5 B hfl K hex hz hw (by omega) ?_ 1000 (nI 0) (nI 0) V h
  intro a3_5 a4_5 V_5x h
  refine AE.run K eX3_takeShape 47 1 (show am_run 7 ((tX3_takeShape.drop 47).take 1) 92 [none, none, none, none, none, none, none] [] = some (93, [none, none, none, none, none, none, none], [.int (nI 1)]) from rfl) ?_
  exact AE.zret K (by omega) (am_at eX3_takeShape 48 rfl) h
def bd_X3_readCommand_4 (x1 : Int32) (kx kr : Int32 → Int32 → am_V → am_R) (a2_4 : Int32) (a3_4 : Int32) (V_4 : am_V) : am_R := (if (Int32.ofNat 11) ≤ a3_4 then kx a2_4 a3_4 V_4 else rV (am_set V_4 13 5 x1) (fun (V1 : am_V) => rG (am_in a3_4 11) (rG (am_in (V1 13 2) 12) (rI (d_X3_takeShape ((28 + (iN a3_4))) ((iN (V1 13 2))) V1) (fun (y3 : Int32) (V2 : am_V) => (if y3 = 0 then kr (am_mx a2_4 (V2 13 5)) (a3_4 + nI 1) V2 else rG (am_in a3_4 11) (rG (am_in (V2 13 2) 12) (rV (am_set V2 14 (iN (V2 13 2)) (a3_4 + 1)) (fun (V4 : am_V) => rG (am_nb (nI 1)) (some (.inl (some (.int (nI 1))), V4)))))))))))
def lp_X3_readCommand_4 (x1 : Int32) (kx : Int32 → Int32 → am_V → am_R) : Nat → Int32 → Int32 → am_V → am_R
  | 0, _, _, _ => none
  | f9 + 1, a2_4, a3_4, V_4 => bd_X3_readCommand_4 x1 kx (lp_X3_readCommand_4 x1 kx f9) a2_4 a3_4 V_4
def d_X3_readCommand (x1 : Int32) (V : am_V) : am_R := lp_X3_readCommand_4 x1 (fun (a2_4 : Int32) (a3_4 : Int32) (V_4x : am_V) => rV (am_set V_4x 13 5 a2_4) (fun (V5 : am_V) => rG (am_nb (nI 0)) (some (.inl (some (.int (nI 0))), V5)))) 1000 x1 (nI 0) V
set_option maxRecDepth 100000 in
set_option maxHeartbeats 4000000 in
theorem bk_X3_readCommand_4 {U : am_U} {l : Launch} (B : am_B2 U) (hfl : l.stackTraces = false) {G : am_G} (K : aK U l G RX3 cX3_readCommand 4 (some .boolean) 5 0 130) (hex : am_nx G) {r : (Option Value ⊕ String) × am_V} {x1 : Int32} {kc : Nat} (hkc : kc ≤ 0) {kx kr : Int32 → Int32 → am_V → am_R} (hx : ∀ (a2_4 : Int32) (a3_4 : Int32) (Vq : am_V), kx a2_4 a3_4 Vq = some r → AE U G 4 5 0 130 r kc Vq 72 [some (.ref (13)), none, some (.int (a2_4)), none] []) (hr : ∀ (a2_4 : Int32) (a3_4 : Int32) (Vq : am_V), kr a2_4 a3_4 Vq = some r → AE U G 4 5 0 130 r kc Vq 4 [some (.ref (13)), some (.int (x1)), some (.int (a2_4)), some (.int (a3_4))] []) (a2_4 : Int32) (a3_4 : Int32) (V_4 : am_V) (h : bd_X3_readCommand_4 x1 kx kr a2_4 a3_4 V_4 = some r) : AE U G 4 5 0 130 r kc V_4 4 [some (.ref (13)), some (.int (x1)), some (.int (a2_4)), some (.int (a3_4))] [] := by
  unfold bd_X3_readCommand_4 at h
  refine AE.run K eX3_readCommand 4 1 (show am_run 4 ((tX3_readCommand.drop 4).take 1) 4 [some (.ref (13)), some (.int (x1)), some (.int (a2_4)), some (.int (a3_4))] [] = some (5, [some (.ref (13)), some (.int (x1)), some (.int (a2_4)), some (.int (a3_4))], [.int (a3_4)]) from rfl) ?_
  refine AE.getsN (host := "DandelionBroadcast") K (List.mem_of_getElem? (i := 2) rfl) (y_inN 707 (by decide +kernel)) (am_at eX3_readCommand 5 rfl) ?_
  refine AE.alenC K B.2.2.2.2.1 (am_at eX3_readCommand 6 rfl) ?_
  refine AE.ic K 72 (am_at eX3_readCommand 7 rfl) (by decide) rfl h (fun h => ?_) (fun h => ?_)
  · exact AE.sub (L' := [some (.ref (13)), none, some (.int (a2_4)), none]) (And.intro rfl (And.intro rfl trivial)) (hx a2_4 a3_4 V_4 h)
  · refine AE.run K eX3_readCommand 8 2 (show am_run 4 ((tX3_readCommand.drop 8).take 2) 12 [some (.ref (13)), some (.int (x1)), some (.int (a2_4)), some (.int (a3_4))] [] = some (14, [some (.ref (13)), some (.int (x1)), some (.int (a2_4)), some (.int (a3_4))], [.int (x1), .ref (13)]) from rfl) ?_
    refine AE.putI K pf_X3_33 rfl rfl rfl (am_at eX3_readCommand 10 rfl) h (fun V1 h => ?_)
    refine AE.run K eX3_readCommand 11 1 (show am_run 4 ((tX3_readCommand.drop 11).take 1) 17 [some (.ref (13)), some (.int (x1)), some (.int (a2_4)), some (.int (a3_4))] [] = some (18, [some (.ref (13)), some (.int (x1)), some (.int (a2_4)), some (.int (a3_4))], [.ref (13)]) from rfl) ?_
    refine AE.getsN (host := "DandelionBroadcast") K (List.mem_of_getElem? (i := 2) rfl) (y_inN 707 (by decide +kernel)) (am_at eX3_readCommand 12 rfl) ?_
    refine AE.run K eX3_readCommand 13 1 (show am_run 4 ((tX3_readCommand.drop 13).take 1) 21 [some (.ref (13)), some (.int (x1)), some (.int (a2_4)), some (.int (a3_4))] [.ref (601), .ref (13)] = some (22, [some (.ref (13)), some (.int (x1)), some (.int (a2_4)), some (.int (a3_4))], [.int (a3_4), .ref (601), .ref (13)]) from rfl) ?_
    refine AE.aaldA K B.2 (am_at eX3_readCommand 14 rfl) h (fun hs22 h => ?_)
    refine AE.getC (v := .ref (400 + (28 + (iN a3_4)))) K (cst_shape B.2 hs22.1) (x_in 1465 (by decide +kernel)) (am_at eX3_readCommand 15 rfl) ?_
    refine AE.run K eX3_readCommand 16 1 (show am_run 4 ((tX3_readCommand.drop 16).take 1) 26 [some (.ref (13)), some (.int (x1)), some (.int (a2_4)), some (.int (a3_4))] [.ref (400 + (28 + (iN a3_4))), .ref (13)] = some (27, [some (.ref (13)), some (.int (x1)), some (.int (a2_4)), some (.int (a3_4))], [.ref (13), .ref (400 + (28 + (iN a3_4))), .ref (13)]) from rfl) ?_
    refine AE.getR K gf_X3_19 rfl rfl (am_at eX3_readCommand 17 rfl) ?_
    refine AE.run K eX3_readCommand 18 1 (show am_run 4 ((tX3_readCommand.drop 18).take 1) 30 [some (.ref (13)), some (.int (x1)), some (.int (a2_4)), some (.int (a3_4))] [.ref (15), .ref (400 + (28 + (iN a3_4))), .ref (13)] = some (31, [some (.ref (13)), some (.int (x1)), some (.int (a2_4)), some (.int (a3_4))], [.ref (13), .ref (15), .ref (400 + (28 + (iN a3_4))), .ref (13)]) from rfl) ?_
    refine AE.getI K gf_X3_22 rfl rfl (am_at eX3_readCommand 19 rfl) ?_
    refine AE.aaldR K (am_at eX3_readCommand 20 rfl) h (fun hs34 h => ?_)
    refine AE.cv (f' := 4) (c' := 0) (lo' := 104) (st := []) (As := [.ref (400 + (28 + (iN a3_4))), .ref (40 + iN (V1 13 2))]) (m := d_X3_takeShape ((28 + (iN a3_4))) ((iN (V1 13 2))) V1) K hex (fun q hq => kX3_takeShape B hfl (z := (28 + (iN a3_4))) (w := (iN (V1 13 2))) (cst_28 hs22.1) hs34 hq) cv_X3_55 rfl (T := TX3) (N := 6) rfl rfl rfl (Nat.le_of_ble_eq_true rfl) ⟨Nat.le_of_ble_eq_true rfl, Nat.le_of_ble_eq_true rfl⟩ (by omega) (am_at eX3_readCommand 21 rfl) h (rI_some h) (bkI (fun y3 V2 h => ?_))
    refine AE.if0 K 57 (am_at eX3_readCommand 22 rfl) (by decide) rfl h (fun h => ?_) (fun h => ?_)
    · refine AE.run K eX3_readCommand 33 2 (show am_run 4 ((tX3_readCommand.drop 33).take 2) 57 [some (.ref (13)), some (.int (x1)), some (.int (a2_4)), some (.int (a3_4))] [] = some (59, [some (.ref (13)), some (.int (x1)), some (.int (a2_4)), some (.int (a3_4))], [.ref (13), .int (a2_4)]) from rfl) ?_
      refine AE.getI K gf_X3_33 rfl rfl (am_at eX3_readCommand 35 rfl) ?_
      refine AE.mmax K mm_X3_59 (by decide) (Nat.le_of_ble_eq_true rfl) (by omega) (am_at eX3_readCommand 36 rfl) ?_
      refine AE.run K eX3_readCommand 37 3 (show am_run 4 ((tX3_readCommand.drop 37).take 3) 65 [some (.ref (13)), some (.int (x1)), some (.int (a2_4)), some (.int (a3_4))] [.int (am_mx a2_4 (V2 13 5))] = some (4, [some (.ref (13)), some (.int (x1)), some (.int (am_mx a2_4 (V2 13 5))), some (.int (a3_4 + nI 1))], []) from rfl) ?_
      exact AE.sub (L' := [some (.ref (13)), some (.int (x1)), some (.int (am_mx a2_4 (V2 13 5))), some (.int (a3_4 + nI 1))]) (And.intro rfl (And.intro rfl (And.intro rfl (And.intro rfl trivial)))) (hr (am_mx a2_4 (V2 13 5)) (a3_4 + nI 1) V2 h)
    · refine AE.run K eX3_readCommand 23 1 (show am_run 4 ((tX3_readCommand.drop 23).take 1) 41 [some (.ref (13)), some (.int (x1)), some (.int (a2_4)), some (.int (a3_4))] [] = some (42, [some (.ref (13)), some (.int (x1)), some (.int (a2_4)), some (.int (a3_4))], [.ref (13)]) from rfl) ?_
      refine AE.getR K gf_X3_11 rfl rfl (am_at eX3_readCommand 24 rfl) ?_
      refine AE.run K eX3_readCommand 25 1 (show am_run 4 ((tX3_readCommand.drop 25).take 1) 45 [some (.ref (13)), some (.int (x1)), some (.int (a2_4)), some (.int (a3_4))] [.ref (14)] = some (46, [some (.ref (13)), some (.int (x1)), some (.int (a2_4)), some (.int (a3_4))], [.ref (13), .ref (14)]) from rfl) ?_
      refine AE.getI K gf_X3_22 rfl rfl (am_at eX3_readCommand 26 rfl) ?_
      refine AE.getsN (host := "DandelionBroadcast") K (List.mem_of_getElem? (i := 2) rfl) (y_inN 707 (by decide +kernel)) (am_at eX3_readCommand 27 rfl) ?_
      refine AE.run K eX3_readCommand 28 1 (show am_run 4 ((tX3_readCommand.drop 28).take 1) 52 [some (.ref (13)), some (.int (x1)), some (.int (a2_4)), some (.int (a3_4))] [.ref (601), .int (V2 13 2), .ref (14)] = some (53, [some (.ref (13)), some (.int (x1)), some (.int (a2_4)), some (.int (a3_4))], [.int (a3_4), .ref (601), .int (V2 13 2), .ref (14)]) from rfl) ?_
      refine AE.aaldA K B.2 (am_at eX3_readCommand 29 rfl) h (fun hs53 h => ?_)
      refine AE.aastK (x := a3_4) B.2 K hs53.1 hs53.2 (am_at eX3_readCommand 30 rfl) h (fun V4 h => ?_)
      refine AE.run K eX3_readCommand 31 1 (show am_run 4 ((tX3_readCommand.drop 31).take 1) 55 [some (.ref (13)), some (.int (x1)), some (.int (a2_4)), some (.int (a3_4))] [] = some (56, [some (.ref (13)), some (.int (x1)), some (.int (a2_4)), some (.int (a3_4))], [.int (nI 1)]) from rfl) ?_
      exact AE.zret K (by omega) (am_at eX3_readCommand 32 rfl) h
theorem lk_X3_readCommand_4 {U : am_U} {l : Launch} (B : am_B2 U) (hfl : l.stackTraces = false) {G : am_G} (K : aK U l G RX3 cX3_readCommand 4 (some .boolean) 5 0 130) (hex : am_nx G) {r : (Option Value ⊕ String) × am_V} {x1 : Int32} {kc : Nat} (hkc : kc ≤ 0) {kx : Int32 → Int32 → am_V → am_R} (hx : ∀ (a2_4 : Int32) (a3_4 : Int32) (Vq : am_V), kx a2_4 a3_4 Vq = some r → AE U G 4 5 0 130 r kc Vq 72 [some (.ref (13)), none, some (.int (a2_4)), none] []) : ∀ (f9 : Nat) (a2_4 : Int32) (a3_4 : Int32) (Vq : am_V), lp_X3_readCommand_4 x1 kx f9 a2_4 a3_4 Vq = some r → AE U G 4 5 0 130 r kc Vq 4 [some (.ref (13)), some (.int (x1)), some (.int (a2_4)), some (.int (a3_4))] [] := by
  intro f9
  induction f9 with
  | zero =>
    intro a2_4 a3_4 Vq h
    cases h
  | succ f9 ih =>
    intro a2_4 a3_4 Vq h
    exact bk_X3_readCommand_4 B hfl K hex  hkc hx ih a2_4 a3_4 Vq h
set_option maxRecDepth 100000 in
set_option maxHeartbeats 4000000 in
theorem kX3_readCommand {U : am_U} {l : Launch} (B : am_B2 U) (hfl : l.stackTraces = false) {V : am_V} {x1 : Int32} {r : (Option Value ⊕ String) × am_V} (h : d_X3_readCommand x1 V = some r) : am_Ct xx U l yX3_readCommand cX3_readCommand 4 (some .boolean) (rk 5 0 130) [.ref (13), .int (x1)] V (am_is r.1 r.2) := by
  refine am_Ct.of B.1 hfl (by decide) (Nat.le_of_ble_eq_true rfl) ?_
  intro G hgl hgR hr ok h0 hex
  have K : aK U l G RX3 cX3_readCommand 4 (some .boolean) 5 0 130 := ⟨hgl, hgR, hr, ok, h0⟩
  unfold d_X3_readCommand at h
  show AE U G 4 5 0 130 r 0 V 0 [some (.ref (13)), some (.int (x1)), none, none] []
  refine AE.run K eX3_readCommand 0 4 (show am_run 4 ((tX3_readCommand.drop 0).take 4) 0 [some (.ref (13)), some (.int (x1)), none, none] [] = some (4, [some (.ref (13)), some (.int (x1)), some (.int (x1)), some (.int (nI 0))], []) from rfl) ?_
  refine AE.sub (L' := [some (.ref (13)), some (.int (x1)), some (.int (x1)), some (.int (nI 0))]) (And.intro rfl (And.intro rfl (And.intro rfl (And.intro rfl trivial)))) ?_
  refine lk_X3_readCommand_4 B hfl K hex  (by omega) ?_ 1000 x1 (nI 0) V h
  intro a2_4 a3_4 V_4x h
  refine AE.run K eX3_readCommand 40 2 (show am_run 4 ((tX3_readCommand.drop 40).take 2) 72 [some (.ref (13)), none, some (.int (a2_4)), none] [] = some (74, [some (.ref (13)), none, some (.int (a2_4)), none], [.int (a2_4), .ref (13)]) from rfl) ?_
  refine AE.putI K pf_X3_33 rfl rfl rfl (am_at eX3_readCommand 42 rfl) h (fun V5 h => ?_)
  refine AE.run K eX3_readCommand 43 1 (show am_run 4 ((tX3_readCommand.drop 43).take 1) 77 [some (.ref (13)), none, some (.int (a2_4)), none] [] = some (78, [some (.ref (13)), none, some (.int (a2_4)), none], [.int (nI 0)]) from rfl) ?_
  exact AE.zret K (by omega) (am_at eX3_readCommand 44 rfl) h
def bd_X3_readAll_10 (kx kr : am_V → am_R) (V_10 : am_V) : am_R := rB (fun (V_67 : am_V) => some (.inl (some (.int (V_67 13 5))), V_67)) (fun (j67 : am_V → am_R) => (if (nI 12) ≤ (V_10 13 2) then j67 V_10 else rI (d_X3_readCommand (V_10 13 5) V_10) (fun (y4 : Int32) (V3 : am_V) => (if y4 = 0 then j67 V3 else rV (am_set V3 13 2 ((V3 13 2) + (nI 1))) (fun (V5 : am_V) => (if (V5 13 5) < (V5 13 3) then rI (d_X3_takeSign (nI 59) V5) (fun (y7 : Int32) (V6 : am_V) => (if ¬ y7 = 0 then kr V6 else kx V6)) else some (.inl (some (.int (-1))), V5)))))))
def lp_X3_readAll_10 (kx : am_V → am_R) : Nat → am_V → am_R
  | 0, _ => none
  | f9 + 1, V_10 => bd_X3_readAll_10 kx (lp_X3_readAll_10 kx f9)  V_10
def d_X3_readAll (V : am_V) : am_R := rV (am_set V 13 2 (nI 0)) (fun (V1 : am_V) => rV (am_set V1 13 5 (nI 0)) (fun (V2 : am_V) => lp_X3_readAll_10  (fun (V_10x : am_V) => some (.inl (some (.int (V_10x 13 5))), V_10x)) 1000  V2))
set_option maxRecDepth 100000 in
set_option maxHeartbeats 4000000 in
theorem bk_X3_readAll_10 {U : am_U} {l : Launch} (B : am_B2 U) (hfl : l.stackTraces = false) {G : am_G} (K : aK U l G RX3 cX3_readAll 1 (some .int) 6 0 153) (hex : am_nx G) {r : (Option Value ⊕ String) × am_V} {kc : Nat} (hkc : kc ≤ 0) {kx kr : am_V → am_R} (hx : ∀ (Vq : am_V), kx  Vq = some r → AE U G 1 6 0 153 r kc Vq 62 [some (.ref (13))] []) (hr : ∀ (Vq : am_V), kr  Vq = some r → AE U G 1 6 0 153 r kc Vq 10 [some (.ref (13))] []) (V_10 : am_V) (h : bd_X3_readAll_10  kx kr  V_10 = some r) : AE U G 1 6 0 153 r kc V_10 10 [some (.ref (13))] [] := by
  unfold bd_X3_readAll_10 at h
  refine AE.run K eX3_readAll 6 1 (show am_run 1 ((tX3_readAll.drop 6).take 1) 10 [some (.ref (13))] [] = some (11, [some (.ref (13))], [.ref (13)]) from rfl) ?_
  refine AE.getI K gf_X3_22 rfl rfl (am_at eX3_readAll 7 rfl) ?_
  refine AE.run K eX3_readAll 8 1 (show am_run 1 ((tX3_readAll.drop 8).take 1) 14 [some (.ref (13))] [.int (V_10 13 2)] = some (16, [some (.ref (13))], [.int (nI 12), .int (V_10 13 2)]) from rfl) ?_
  refine rB_of (P := fun (j : am_V → am_R) => ∀ (V_67 : am_V), j V_67 = some r → AE U G 1 6 0 153 r (kc) V_67 67 [some (.ref (13))] []) h (fun V_67 h => ?_) (fun j67 hj67 h => ?_)
  · refine AE.run K eX3_readAll 35 1 (show am_run 1 ((tX3_readAll.drop 35).take 1) 67 [some (.ref (13))] [] = some (68, [some (.ref (13))], [.ref (13)]) from rfl) ?_
    refine AE.getI K gf_X3_33 rfl rfl (am_at eX3_readAll 36 rfl) ?_
    exact AE.iret K (by omega) (am_at eX3_readAll 37 rfl) h
  refine AE.ic K 67 (am_at eX3_readAll 9 rfl) (by decide) rfl h (fun h => ?_) (fun h => ?_)
  · exact (hj67  V_10 h)
  · refine AE.run K eX3_readAll 10 2 (show am_run 1 ((tX3_readAll.drop 10).take 2) 19 [some (.ref (13))] [] = some (21, [some (.ref (13))], [.ref (13), .ref (13)]) from rfl) ?_
    refine AE.getI K gf_X3_33 rfl rfl (am_at eX3_readAll 12 rfl) ?_
    refine AE.cv (f' := 5) (c' := 0) (lo' := 130) (st := []) (As := [.int (V_10 13 5)]) (m := d_X3_readCommand (V_10 13 5) V_10) K hex (fun q hq => kX3_readCommand B hfl hq) cv_X3_40 rfl (T := TX3) (N := 6) rfl rfl rfl (Nat.le_of_ble_eq_true rfl) ⟨Nat.le_of_ble_eq_true rfl, Nat.le_of_ble_eq_true rfl⟩ (by omega) (am_at eX3_readAll 13 rfl) h (rI_some h) (bkI (fun y4 V3 h => ?_))
    refine AE.if0 K 67 (am_at eX3_readAll 14 rfl) (by decide) rfl h (fun h => ?_) (fun h => ?_)
    · exact (hj67  V3 h)
    · refine AE.run K eX3_readAll 15 2 (show am_run 1 ((tX3_readAll.drop 15).take 2) 30 [some (.ref (13))] [] = some (32, [some (.ref (13))], [.ref (13), .ref (13)]) from rfl) ?_
      refine AE.getI K gf_X3_22 rfl rfl (am_at eX3_readAll 17 rfl) ?_
      refine AE.run K eX3_readAll 18 2 (show am_run 1 ((tX3_readAll.drop 18).take 2) 35 [some (.ref (13))] [.int (V3 13 2), .ref (13)] = some (37, [some (.ref (13))], [.int ((V3 13 2) + (nI 1)), .ref (13)]) from rfl) ?_
      refine AE.putI K pf_X3_22 rfl rfl rfl (am_at eX3_readAll 20 rfl) h (fun V5 h => ?_)
      refine AE.run K eX3_readAll 21 1 (show am_run 1 ((tX3_readAll.drop 21).take 1) 40 [some (.ref (13))] [] = some (41, [some (.ref (13))], [.ref (13)]) from rfl) ?_
      refine AE.getI K gf_X3_33 rfl rfl (am_at eX3_readAll 22 rfl) ?_
      refine AE.run K eX3_readAll 23 1 (show am_run 1 ((tX3_readAll.drop 23).take 1) 44 [some (.ref (13))] [.int (V5 13 5)] = some (45, [some (.ref (13))], [.ref (13), .int (V5 13 5)]) from rfl) ?_
      refine AE.getI K gf_X3_26 rfl rfl (am_at eX3_readAll 24 rfl) ?_
      refine AE.ic K 53 (am_at eX3_readAll 25 rfl) (by decide) rfl h (fun h => ?_) (fun h => ?_)
      · refine AE.run K eX3_readAll 28 2 (show am_run 1 ((tX3_readAll.drop 28).take 2) 53 [some (.ref (13))] [] = some (56, [some (.ref (13))], [.int (nI 59), .ref (13)]) from rfl) ?_
        refine AE.cv (f' := 0) (c' := 0) (lo' := 0) (st := []) (As := [.int (nI 59)]) (m := d_X3_takeSign (nI 59) V5) K hex (fun q hq => kX3_takeSign B.1 hfl hq) cv_X3_44 rfl (T := TX3) (N := 6) rfl rfl rfl (Nat.le_of_ble_eq_true rfl) ⟨Nat.le_of_ble_eq_true rfl, Nat.le_of_ble_eq_true rfl⟩ (by omega) (am_at eX3_readAll 30 rfl) h (rI_some h) (bkI (fun y7 V6 h => ?_))
        refine AE.if0 K 10 (am_at eX3_readAll 31 rfl) (by decide) rfl h (fun h => ?_) (fun h => ?_)
        · exact (hr  V6 h)
        · exact (hx  V6 h)
      · refine AE.run K eX3_readAll 26 1 (show am_run 1 ((tX3_readAll.drop 26).take 1) 51 [some (.ref (13))] [] = some (52, [some (.ref (13))], [.int (-1)]) from rfl) ?_
        exact AE.iret K (by omega) (am_at eX3_readAll 27 rfl) h
theorem lk_X3_readAll_10 {U : am_U} {l : Launch} (B : am_B2 U) (hfl : l.stackTraces = false) {G : am_G} (K : aK U l G RX3 cX3_readAll 1 (some .int) 6 0 153) (hex : am_nx G) {r : (Option Value ⊕ String) × am_V} {kc : Nat} (hkc : kc ≤ 0) {kx : am_V → am_R} (hx : ∀ (Vq : am_V), kx  Vq = some r → AE U G 1 6 0 153 r kc Vq 62 [some (.ref (13))] []) : ∀ (f9 : Nat) (Vq : am_V), lp_X3_readAll_10  kx f9  Vq = some r → AE U G 1 6 0 153 r kc Vq 10 [some (.ref (13))] [] := by
  intro f9
  induction f9 with
  | zero =>
    intro  Vq h
    cases h
  | succ f9 ih =>
    intro  Vq h
    exact bk_X3_readAll_10 B hfl K hex  hkc hx ih  Vq h
set_option maxRecDepth 100000 in
set_option maxHeartbeats 4000000 in
theorem kX3_readAll {U : am_U} {l : Launch} (B : am_B2 U) (hfl : l.stackTraces = false) {V : am_V} {r : (Option Value ⊕ String) × am_V} (h : d_X3_readAll V = some r) : am_Ct xx U l yX3_readAll cX3_readAll 1 (some .int) (rk 6 0 153) [.ref (13)] V (am_is r.1 r.2) := by
  refine am_Ct.of B.1 hfl (by decide) (Nat.le_of_ble_eq_true rfl) ?_
  intro G hgl hgR hr ok h0 hex
  have K : aK U l G RX3 cX3_readAll 1 (some .int) 6 0 153 := ⟨hgl, hgR, hr, ok, h0⟩
  unfold d_X3_readAll at h
  show AE U G 1 6 0 153 r 0 V 0 [some (.ref (13))] []
  refine AE.run K eX3_readAll 0 2 (show am_run 1 ((tX3_readAll.drop 0).take 2) 0 [some (.ref (13))] [] = some (2, [some (.ref (13))], [.int (nI 0), .ref (13)]) from rfl) ?_
  refine AE.putI K pf_X3_22 rfl rfl rfl (am_at eX3_readAll 2 rfl) h (fun V1 h => ?_)
  refine AE.run K eX3_readAll 3 2 (show am_run 1 ((tX3_readAll.drop 3).take 2) 5 [some (.ref (13))] [] = some (7, [some (.ref (13))], [.int (nI 0), .ref (13)]) from rfl) ?_
  refine AE.putI K pf_X3_33 rfl rfl rfl (am_at eX3_readAll 5 rfl) h (fun V2 h => ?_)
  refine lk_X3_readAll_10 B hfl K hex  (by omega) ?_ 1000  V2 h
  intro  V_10x h
  refine AE.run K eX3_readAll 32 1 (show am_run 1 ((tX3_readAll.drop 32).take 1) 62 [some (.ref (13))] [] = some (63, [some (.ref (13))], [.ref (13)]) from rfl) ?_
  refine AE.getI K gf_X3_33 rfl rfl (am_at eX3_readAll 33 rfl) ?_
  exact AE.iret K (by omega) (am_at eX3_readAll 34 rfl) h
def d_X3_read (V : am_V) : am_R := rI (d_X3_readAll V) (fun (y2 : Int32) (V1 : am_V) => rV (am_set V1 13 3 (nI 0)) (fun (V3 : am_V) => some (.inl (some (.int (y2))), V3)))
set_option maxRecDepth 100000 in
set_option maxHeartbeats 4000000 in
theorem kX3_read {U : am_U} {l : Launch} (B : am_B2 U) (hfl : l.stackTraces = false) {V : am_V} {r : (Option Value ⊕ String) × am_V} (h : d_X3_read V = some r) : am_Ct xx U l yX3_read cX3_read 2 (some .int) (rk 7 0 173) [.ref (13)] V (am_is r.1 r.2) := by
  refine am_Ct.of B.1 hfl (by decide) (Nat.le_of_ble_eq_true rfl) ?_
  intro G hgl hgR hr ok h0 hex
  have K : aK U l G RX3 cX3_read 2 (some .int) 7 0 173 := ⟨hgl, hgR, hr, ok, h0⟩
  unfold d_X3_read at h
  show AE U G 2 7 0 173 r 0 V 0 [some (.ref (13)), none] []
  refine AE.run K eX3_read 0 1 (show am_run 2 ((tX3_read.drop 0).take 1) 0 [some (.ref (13)), none] [] = some (1, [some (.ref (13)), none], [.ref (13)]) from rfl) ?_
  refine AE.cv (f' := 6) (c' := 0) (lo' := 153) (st := []) (As := []) (m := d_X3_readAll V) K hex (fun q hq => kX3_readAll B hfl hq) cv_X3_36 rfl (T := TX3) (N := 6) rfl rfl rfl (Nat.le_of_ble_eq_true rfl) ⟨Nat.le_of_ble_eq_true rfl, Nat.le_of_ble_eq_true rfl⟩ (by omega) (am_at eX3_read 1 rfl) h (rI_some h) (bkI (fun y2 V1 h => ?_))
  refine AE.run K eX3_read 2 3 (show am_run 2 ((tX3_read.drop 2).take 3) 4 [some (.ref (13)), none] [.int (y2)] = some (7, [some (.ref (13)), some (.int (y2))], [.int (nI 0), .ref (13)]) from rfl) ?_
  refine AE.putI K pf_X3_26 rfl rfl rfl (am_at eX3_read 5 rfl) h (fun V3 h => ?_)
  refine AE.run K eX3_read 6 1 (show am_run 2 ((tX3_read.drop 6).take 1) 10 [some (.ref (13)), some (.int (y2))] [] = some (11, [some (.ref (13)), some (.int (y2))], [.int (y2)]) from rfl) ?_
  exact AE.iret K (by omega) (am_at eX3_read 7 rfl) h
def d_X11_perform (kd : Nat) (w : Nat) (V : am_V) : am_R := (if (nI 4) ≤ (Int32.ofNat 4) then rI (d_Jx29ce0_ordinal_8abf5 kd V) (fun (y2 : Int32) (V1 : am_V) => rG (am_in y2 11) ((if (nI (iN y2 + 1)) = nI 1 then rG (am_in (nI 0) 4) (rI (d_X2_appendField 0 (V1 (40 + w) (iN (nI 0))) V1) (fun (y4 : Int32) (V3 : am_V) => some (.inl (some (.int (y4))), V3))) else (if (nI (iN y2 + 1)) = nI 2 then rG (am_in (nI 0) 4) (rG (am_in (nI 1) 4) (rG (am_in (nI 2) 4) (rG (am_in (nI 3) 4) (rI (d_X2_appendPath 0 (V1 (40 + w) (iN (nI 0))) (V1 (40 + w) (iN (nI 1))) (V1 (40 + w) (iN (nI 2))) (V1 (40 + w) (iN (nI 3))) V1) (fun (y6 : Int32) (V5 : am_V) => some (.inl (some (.int (y6))), V5)))))) else (if (nI (iN y2 + 1)) = nI 3 then rG (am_in (nI 0) 4) (rG (am_in (nI 1) 4) (rI (d_X2_replaceShield 0 (V1 (40 + w) (iN (nI 0))) (V1 (40 + w) (iN (nI 1))) V1) (fun (y8 : Int32) (V7 : am_V) => some (.inl (some (.int (y8))), V7)))) else (if (nI (iN y2 + 1)) = nI 4 then rG (am_in (nI 0) 4) (rG (am_in (nI 1) 4) (rI (d_X2_replaceGust 0 (V1 (40 + w) (iN (nI 0))) (V1 (40 + w) (iN (nI 1))) V1) (fun (y10 : Int32) (V9 : am_V) => some (.inl (some (.int (y10))), V9)))) else (if (nI (iN y2 + 1)) = nI 5 then rG (am_in (nI 0) 4) (rI (d_X2_replaceBlocked 0 (V1 (40 + w) (iN (nI 0))) (nI 1) V1) (fun (y12 : Int32) (V11 : am_V) => some (.inl (some (.int (y12))), V11))) else (if (nI (iN y2 + 1)) = nI 6 then rG (am_in (nI 0) 4) (rI (d_X2_replaceBlocked 0 (V1 (40 + w) (iN (nI 0))) (nI 0) V1) (fun (y14 : Int32) (V13 : am_V) => some (.inl (some (.int (y14))), V13))) else (if (nI (iN y2 + 1)) = nI 7 then rG (am_in (nI 0) 4) (rI (d_X2_replaceSeed 0 (V1 (40 + w) (iN (nI 0))) V1) (fun (y16 : Int32) (V15 : am_V) => some (.inl (some (.int (y16))), V15))) else (if (nI (iN y2 + 1)) = nI 8 then rG (am_in (nI 0) 4) (rG (am_in (nI 1) 4) (rG (am_in (nI 2) 4) (rB (fun (bs0_232 : Int32) (V_232 : am_V) => rI (d_X2_beginBroadcast 0 (V1 (40 + w) (iN (nI 0))) (V1 (40 + w) (iN (nI 1))) bs0_232 V_232) (fun (y18 : Int32) (V17 : am_V) => some (.inl (some (.int (y18))), V17))) (fun (j232 : Int32 → am_V → am_R) => (if ¬ (V1 (40 + w) (iN (nI 2))) = (nI 1) then j232 (nI 0) V1 else j232 (nI 1) V1))))) else (if (nI (iN y2 + 1)) = nI 9 then rI (d_X2_letBlowOnce 0 V1) (fun (y20 : Int32) (V19 : am_V) => some (.inl (some (.int (y20))), V19)) else (if (nI (iN y2 + 1)) = nI 10 then rI (d_X2_letBlowToEnd 0 V1) (fun (y22 : Int32) (V21 : am_V) => some (.inl (some (.int (y22))), V21)) else (if (nI (iN y2 + 1)) = nI 11 then rI (d_X2_stopBroadcast 0 V1) (fun (y24 : Int32) (V23 : am_V) => some (.inl (some (.int (y24))), V23)) else some (.inl (some (.int (-2))), V1)))))))))))))) else some (.inl (some (.int (-2))), V))
set_option maxRecDepth 100000 in
set_option maxHeartbeats 4000000 in
theorem kX11_perform {U : am_U} {l : Launch} (B : am_B2 U) (hfl : l.stackTraces = false) {V : am_V} {kd : Nat} {w : Nat} (hkd : kd < 11) (hw : w < 12) {r : (Option Value ⊕ String) × am_V} (h : d_X11_perform kd w V = some r) : am_Ct xx U l yX11_perform cX11_perform 3 (some .int) (rk 5 0 131) [.ref (1), .ref (300 + kd), .ref (40 + w)] V (am_is r.1 r.2) := by
  refine am_Ct.of B.1 hfl (by decide) (Nat.le_of_ble_eq_true rfl) ?_
  intro G hgl hgR hr ok h0 hex
  have K : aK U l G RX11 cX11_perform 3 (some .int) 5 0 131 := ⟨hgl, hgR, hr, ok, h0⟩
  unfold d_X11_perform at h
  show AE U G 3 5 0 131 r 0 V 0 [some (.ref (1)), some (.ref (300 + kd)), some (.ref (40 + w))] []
  refine AE.run K eX11_perform 0 1 (show am_run 3 ((tX11_perform.drop 0).take 1) 0 [some (.ref (1)), some (.ref (300 + kd)), some (.ref (40 + w))] [] = some (1, [some (.ref (1)), some (.ref (300 + kd)), some (.ref (40 + w))], [.ref (300 + kd)]) from rfl) ?_
  refine AE.nonnull K (am_at eX11_perform 1 rfl) ?_
  refine AE.run K eX11_perform 2 1 (show am_run 3 ((tX11_perform.drop 2).take 1) 4 [some (.ref (1)), some (.ref (300 + kd)), some (.ref (40 + w))] [] = some (5, [some (.ref (1)), some (.ref (300 + kd)), some (.ref (40 + w))], [.ref (40 + w)]) from rfl) ?_
  refine AE.nonnull K (am_at eX11_perform 3 rfl) ?_
  refine AE.run K eX11_perform 4 1 (show am_run 3 ((tX11_perform.drop 4).take 1) 8 [some (.ref (1)), some (.ref (300 + kd)), some (.ref (40 + w))] [] = some (9, [some (.ref (1)), some (.ref (300 + kd)), some (.ref (40 + w))], [.ref (40 + w)]) from rfl) ?_
  refine AE.alen K (sh_row hw) (by decide) (am_at eX11_perform 5 rfl) ?_
  refine AE.run K eX11_perform 6 1 (show am_run 3 ((tX11_perform.drop 6).take 1) 10 [some (.ref (1)), some (.ref (300 + kd)), some (.ref (40 + w))] [.int (Int32.ofNat 4)] = some (11, [some (.ref (1)), some (.ref (300 + kd)), some (.ref (40 + w))], [.int (nI 4), .int (Int32.ofNat 4)]) from rfl) ?_
  refine AE.ic K 17 (am_at eX11_perform 7 rfl) (by decide) rfl h (fun h => ?_) (fun h => ?_)
  · refine AE.gets K (List.mem_of_getElem? (i := 3) rfl) (x_in 781 (by decide +kernel)) (am_at eX11_perform 10 rfl) ?_
    refine AE.run K eX11_perform 11 1 (show am_run 3 ((tX11_perform.drop 11).take 1) 20 [some (.ref (1)), some (.ref (300 + kd)), some (.ref (40 + w))] [.ref (602)] = some (21, [some (.ref (1)), some (.ref (300 + kd)), some (.ref (40 + w))], [.ref (300 + kd), .ref (602)]) from rfl) ?_
    refine AE.cvU (f' := 0) (c' := 0) (lo' := 0) (st := [.ref (602)]) (As := []) (m := d_Jx29ce0_ordinal_8abf5 kd V) K hex (fun q hq => kJx29ce0_ordinal_8abf5 B hfl (kd := kd) hkd hq) cvU_X11_458 (B.2.2.1 kd hkd).1 rfl rfl (Nat.le_of_ble_eq_true rfl) ⟨Nat.le_of_ble_eq_true rfl, Nat.le_of_ble_eq_true rfl⟩ (by omega) (am_at eX11_perform 12 rfl) h (rI_some h) (bkI (fun y2 V1 h => ?_))
    refine AE.ialdM K B.2 (am_at eX11_perform 13 rfl) h (fun h => ?_)
    refine AE.cse h (fun hc0 h => ?_) (fun hc0 h => ?_)
    · have k9 : AE U G 3 5 0 131 r 0 V1 84 [some (.ref (1)), some (.ref (300 + kd)), some (.ref (40 + w))] [] := by
        refine AE.run K eX11_perform 15 1 (show am_run 3 ((tX11_perform.drop 15).take 1) 84 [some (.ref (1)), some (.ref (300 + kd)), some (.ref (40 + w))] [] = some (85, [some (.ref (1)), some (.ref (300 + kd)), some (.ref (40 + w))], [.ref (1)]) from rfl) ?_
        refine AE.getR K gf_X11_53 rfl rfl (am_at eX11_perform 16 rfl) ?_
        refine AE.run K eX11_perform 17 1 (show am_run 3 ((tX11_perform.drop 17).take 1) 88 [some (.ref (1)), some (.ref (300 + kd)), some (.ref (40 + w))] [.ref (12)] = some (89, [some (.ref (1)), some (.ref (300 + kd)), some (.ref (40 + w))], [.ref (1), .ref (12)]) from rfl) ?_
        refine AE.getR K gf_X11_10 rfl rfl (am_at eX11_perform 18 rfl) ?_
        refine AE.run K eX11_perform 19 2 (show am_run 3 ((tX11_perform.drop 19).take 2) 92 [some (.ref (1)), some (.ref (300 + kd)), some (.ref (40 + w))] [.ref (sS 0), .ref (12)] = some (94, [some (.ref (1)), some (.ref (300 + kd)), some (.ref (40 + w))], [.int (nI 0), .ref (40 + w), .ref (sS 0), .ref (12)]) from rfl) ?_
        refine AE.iald K (sh_row hw) (am_at eX11_perform 21 rfl) h (fun h => ?_)
        refine AE.cv (f' := 1) (c' := 0) (lo' := 22) (st := []) (As := [.ref (sS 0), .int (V1 (40 + w) (iN (nI 0)))]) (m := d_X2_appendField 0 (V1 (40 + w) (iN (nI 0))) V1) K hex (fun q hq => kX2_appendField B.1 hfl (i := 0) (by decide) hq) cv_X11_92 rfl (T := TX2) (N := 2) rfl rfl rfl (Nat.le_of_ble_eq_true rfl) ⟨Nat.le_of_ble_eq_true rfl, Nat.le_of_ble_eq_true rfl⟩ (by omega) (am_at eX11_perform 22 rfl) h (rI_some h) (bkI (fun y4 V3 h => ?_))
        exact AE.iret K (by omega) (am_at eX11_perform 23 rfl) h
      (rw [hc0]; exact AE.tswIn K 84 (am_at eX11_perform 14 rfl) (by decide) (by decide) rfl rfl k9)
    refine AE.cse h (fun hc1 h => ?_) (fun hc1 h => ?_)
    · have k9 : AE U G 3 5 0 131 r 0 V1 99 [some (.ref (1)), some (.ref (300 + kd)), some (.ref (40 + w))] [] := by
        refine AE.run K eX11_perform 24 1 (show am_run 3 ((tX11_perform.drop 24).take 1) 99 [some (.ref (1)), some (.ref (300 + kd)), some (.ref (40 + w))] [] = some (100, [some (.ref (1)), some (.ref (300 + kd)), some (.ref (40 + w))], [.ref (1)]) from rfl) ?_
        refine AE.getR K gf_X11_53 rfl rfl (am_at eX11_perform 25 rfl) ?_
        refine AE.run K eX11_perform 26 1 (show am_run 3 ((tX11_perform.drop 26).take 1) 103 [some (.ref (1)), some (.ref (300 + kd)), some (.ref (40 + w))] [.ref (12)] = some (104, [some (.ref (1)), some (.ref (300 + kd)), some (.ref (40 + w))], [.ref (1), .ref (12)]) from rfl) ?_
        refine AE.getR K gf_X11_10 rfl rfl (am_at eX11_perform 27 rfl) ?_
        refine AE.run K eX11_perform 28 2 (show am_run 3 ((tX11_perform.drop 28).take 2) 107 [some (.ref (1)), some (.ref (300 + kd)), some (.ref (40 + w))] [.ref (sS 0), .ref (12)] = some (109, [some (.ref (1)), some (.ref (300 + kd)), some (.ref (40 + w))], [.int (nI 0), .ref (40 + w), .ref (sS 0), .ref (12)]) from rfl) ?_
        refine AE.iald K (sh_row hw) (am_at eX11_perform 30 rfl) h (fun h => ?_)
        refine AE.run K eX11_perform 31 2 (show am_run 3 ((tX11_perform.drop 31).take 2) 110 [some (.ref (1)), some (.ref (300 + kd)), some (.ref (40 + w))] [.int (V1 (40 + w) (iN (nI 0))), .ref (sS 0), .ref (12)] = some (112, [some (.ref (1)), some (.ref (300 + kd)), some (.ref (40 + w))], [.int (nI 1), .ref (40 + w), .int (V1 (40 + w) (iN (nI 0))), .ref (sS 0), .ref (12)]) from rfl) ?_
        refine AE.iald K (sh_row hw) (am_at eX11_perform 33 rfl) h (fun h => ?_)
        refine AE.run K eX11_perform 34 2 (show am_run 3 ((tX11_perform.drop 34).take 2) 113 [some (.ref (1)), some (.ref (300 + kd)), some (.ref (40 + w))] [.int (V1 (40 + w) (iN (nI 1))), .int (V1 (40 + w) (iN (nI 0))), .ref (sS 0), .ref (12)] = some (115, [some (.ref (1)), some (.ref (300 + kd)), some (.ref (40 + w))], [.int (nI 2), .ref (40 + w), .int (V1 (40 + w) (iN (nI 1))), .int (V1 (40 + w) (iN (nI 0))), .ref (sS 0), .ref (12)]) from rfl) ?_
        refine AE.iald K (sh_row hw) (am_at eX11_perform 36 rfl) h (fun h => ?_)
        refine AE.run K eX11_perform 37 2 (show am_run 3 ((tX11_perform.drop 37).take 2) 116 [some (.ref (1)), some (.ref (300 + kd)), some (.ref (40 + w))] [.int (V1 (40 + w) (iN (nI 2))), .int (V1 (40 + w) (iN (nI 1))), .int (V1 (40 + w) (iN (nI 0))), .ref (sS 0), .ref (12)] = some (118, [some (.ref (1)), some (.ref (300 + kd)), some (.ref (40 + w))], [.int (nI 3), .ref (40 + w), .int (V1 (40 + w) (iN (nI 2))), .int (V1 (40 + w) (iN (nI 1))), .int (V1 (40 + w) (iN (nI 0))), .ref (sS 0), .ref (12)]) from rfl) ?_
        refine AE.iald K (sh_row hw) (am_at eX11_perform 39 rfl) h (fun h => ?_)
        refine AE.cv (f' := 3) (c' := 0) (lo' := 80) (st := []) (As := [.ref (sS 0), .int (V1 (40 + w) (iN (nI 0))), .int (V1 (40 + w) (iN (nI 1))), .int (V1 (40 + w) (iN (nI 2))), .int (V1 (40 + w) (iN (nI 3)))]) (m := d_X2_appendPath 0 (V1 (40 + w) (iN (nI 0))) (V1 (40 + w) (iN (nI 1))) (V1 (40 + w) (iN (nI 2))) (V1 (40 + w) (iN (nI 3))) V1) K hex (fun q hq => kX2_appendPath B.1 hfl (i := 0) (by decide) hq) cv_X11_104 rfl (T := TX2) (N := 2) rfl rfl rfl (Nat.le_of_ble_eq_true rfl) ⟨Nat.le_of_ble_eq_true rfl, Nat.le_of_ble_eq_true rfl⟩ (by omega) (am_at eX11_perform 40 rfl) h (rI_some h) (bkI (fun y6 V5 h => ?_))
        exact AE.iret K (by omega) (am_at eX11_perform 41 rfl) h
      (rw [hc1]; exact AE.tswIn K 99 (am_at eX11_perform 14 rfl) (by decide) (by decide) rfl rfl k9)
    refine AE.cse h (fun hc2 h => ?_) (fun hc2 h => ?_)
    · have k9 : AE U G 3 5 0 131 r 0 V1 123 [some (.ref (1)), some (.ref (300 + kd)), some (.ref (40 + w))] [] := by
        refine AE.run K eX11_perform 42 1 (show am_run 3 ((tX11_perform.drop 42).take 1) 123 [some (.ref (1)), some (.ref (300 + kd)), some (.ref (40 + w))] [] = some (124, [some (.ref (1)), some (.ref (300 + kd)), some (.ref (40 + w))], [.ref (1)]) from rfl) ?_
        refine AE.getR K gf_X11_53 rfl rfl (am_at eX11_perform 43 rfl) ?_
        refine AE.run K eX11_perform 44 1 (show am_run 3 ((tX11_perform.drop 44).take 1) 127 [some (.ref (1)), some (.ref (300 + kd)), some (.ref (40 + w))] [.ref (12)] = some (128, [some (.ref (1)), some (.ref (300 + kd)), some (.ref (40 + w))], [.ref (1), .ref (12)]) from rfl) ?_
        refine AE.getR K gf_X11_10 rfl rfl (am_at eX11_perform 45 rfl) ?_
        refine AE.run K eX11_perform 46 2 (show am_run 3 ((tX11_perform.drop 46).take 2) 131 [some (.ref (1)), some (.ref (300 + kd)), some (.ref (40 + w))] [.ref (sS 0), .ref (12)] = some (133, [some (.ref (1)), some (.ref (300 + kd)), some (.ref (40 + w))], [.int (nI 0), .ref (40 + w), .ref (sS 0), .ref (12)]) from rfl) ?_
        refine AE.iald K (sh_row hw) (am_at eX11_perform 48 rfl) h (fun h => ?_)
        refine AE.run K eX11_perform 49 2 (show am_run 3 ((tX11_perform.drop 49).take 2) 134 [some (.ref (1)), some (.ref (300 + kd)), some (.ref (40 + w))] [.int (V1 (40 + w) (iN (nI 0))), .ref (sS 0), .ref (12)] = some (136, [some (.ref (1)), some (.ref (300 + kd)), some (.ref (40 + w))], [.int (nI 1), .ref (40 + w), .int (V1 (40 + w) (iN (nI 0))), .ref (sS 0), .ref (12)]) from rfl) ?_
        refine AE.iald K (sh_row hw) (am_at eX11_perform 51 rfl) h (fun h => ?_)
        refine AE.cv (f' := 1) (c' := 0) (lo' := 21) (st := []) (As := [.ref (sS 0), .int (V1 (40 + w) (iN (nI 0))), .int (V1 (40 + w) (iN (nI 1)))]) (m := d_X2_replaceShield 0 (V1 (40 + w) (iN (nI 0))) (V1 (40 + w) (iN (nI 1))) V1) K hex (fun q hq => kX2_replaceShield B.1 hfl (i := 0) (by decide) hq) cv_X11_100 rfl (T := TX2) (N := 2) rfl rfl rfl (Nat.le_of_ble_eq_true rfl) ⟨Nat.le_of_ble_eq_true rfl, Nat.le_of_ble_eq_true rfl⟩ (by omega) (am_at eX11_perform 52 rfl) h (rI_some h) (bkI (fun y8 V7 h => ?_))
        exact AE.iret K (by omega) (am_at eX11_perform 53 rfl) h
      (rw [hc2]; exact AE.tswIn K 123 (am_at eX11_perform 14 rfl) (by decide) (by decide) rfl rfl k9)
    refine AE.cse h (fun hc3 h => ?_) (fun hc3 h => ?_)
    · have k9 : AE U G 3 5 0 131 r 0 V1 141 [some (.ref (1)), some (.ref (300 + kd)), some (.ref (40 + w))] [] := by
        refine AE.run K eX11_perform 54 1 (show am_run 3 ((tX11_perform.drop 54).take 1) 141 [some (.ref (1)), some (.ref (300 + kd)), some (.ref (40 + w))] [] = some (142, [some (.ref (1)), some (.ref (300 + kd)), some (.ref (40 + w))], [.ref (1)]) from rfl) ?_
        refine AE.getR K gf_X11_53 rfl rfl (am_at eX11_perform 55 rfl) ?_
        refine AE.run K eX11_perform 56 1 (show am_run 3 ((tX11_perform.drop 56).take 1) 145 [some (.ref (1)), some (.ref (300 + kd)), some (.ref (40 + w))] [.ref (12)] = some (146, [some (.ref (1)), some (.ref (300 + kd)), some (.ref (40 + w))], [.ref (1), .ref (12)]) from rfl) ?_
        refine AE.getR K gf_X11_10 rfl rfl (am_at eX11_perform 57 rfl) ?_
        refine AE.run K eX11_perform 58 2 (show am_run 3 ((tX11_perform.drop 58).take 2) 149 [some (.ref (1)), some (.ref (300 + kd)), some (.ref (40 + w))] [.ref (sS 0), .ref (12)] = some (151, [some (.ref (1)), some (.ref (300 + kd)), some (.ref (40 + w))], [.int (nI 0), .ref (40 + w), .ref (sS 0), .ref (12)]) from rfl) ?_
        refine AE.iald K (sh_row hw) (am_at eX11_perform 60 rfl) h (fun h => ?_)
        refine AE.run K eX11_perform 61 2 (show am_run 3 ((tX11_perform.drop 61).take 2) 152 [some (.ref (1)), some (.ref (300 + kd)), some (.ref (40 + w))] [.int (V1 (40 + w) (iN (nI 0))), .ref (sS 0), .ref (12)] = some (154, [some (.ref (1)), some (.ref (300 + kd)), some (.ref (40 + w))], [.int (nI 1), .ref (40 + w), .int (V1 (40 + w) (iN (nI 0))), .ref (sS 0), .ref (12)]) from rfl) ?_
        refine AE.iald K (sh_row hw) (am_at eX11_perform 63 rfl) h (fun h => ?_)
        refine AE.cv (f' := 1) (c' := 0) (lo' := 21) (st := []) (As := [.ref (sS 0), .int (V1 (40 + w) (iN (nI 0))), .int (V1 (40 + w) (iN (nI 1)))]) (m := d_X2_replaceGust 0 (V1 (40 + w) (iN (nI 0))) (V1 (40 + w) (iN (nI 1))) V1) K hex (fun q hq => kX2_replaceGust B.1 hfl (i := 0) (by decide) hq) cv_X11_108 rfl (T := TX2) (N := 2) rfl rfl rfl (Nat.le_of_ble_eq_true rfl) ⟨Nat.le_of_ble_eq_true rfl, Nat.le_of_ble_eq_true rfl⟩ (by omega) (am_at eX11_perform 64 rfl) h (rI_some h) (bkI (fun y10 V9 h => ?_))
        exact AE.iret K (by omega) (am_at eX11_perform 65 rfl) h
      (rw [hc3]; exact AE.tswIn K 141 (am_at eX11_perform 14 rfl) (by decide) (by decide) rfl rfl k9)
    refine AE.cse h (fun hc4 h => ?_) (fun hc4 h => ?_)
    · have k9 : AE U G 3 5 0 131 r 0 V1 159 [some (.ref (1)), some (.ref (300 + kd)), some (.ref (40 + w))] [] := by
        refine AE.run K eX11_perform 66 1 (show am_run 3 ((tX11_perform.drop 66).take 1) 159 [some (.ref (1)), some (.ref (300 + kd)), some (.ref (40 + w))] [] = some (160, [some (.ref (1)), some (.ref (300 + kd)), some (.ref (40 + w))], [.ref (1)]) from rfl) ?_
        refine AE.getR K gf_X11_53 rfl rfl (am_at eX11_perform 67 rfl) ?_
        refine AE.run K eX11_perform 68 1 (show am_run 3 ((tX11_perform.drop 68).take 1) 163 [some (.ref (1)), some (.ref (300 + kd)), some (.ref (40 + w))] [.ref (12)] = some (164, [some (.ref (1)), some (.ref (300 + kd)), some (.ref (40 + w))], [.ref (1), .ref (12)]) from rfl) ?_
        refine AE.getR K gf_X11_10 rfl rfl (am_at eX11_perform 69 rfl) ?_
        refine AE.run K eX11_perform 70 2 (show am_run 3 ((tX11_perform.drop 70).take 2) 167 [some (.ref (1)), some (.ref (300 + kd)), some (.ref (40 + w))] [.ref (sS 0), .ref (12)] = some (169, [some (.ref (1)), some (.ref (300 + kd)), some (.ref (40 + w))], [.int (nI 0), .ref (40 + w), .ref (sS 0), .ref (12)]) from rfl) ?_
        refine AE.iald K (sh_row hw) (am_at eX11_perform 72 rfl) h (fun h => ?_)
        refine AE.run K eX11_perform 73 1 (show am_run 3 ((tX11_perform.drop 73).take 1) 170 [some (.ref (1)), some (.ref (300 + kd)), some (.ref (40 + w))] [.int (V1 (40 + w) (iN (nI 0))), .ref (sS 0), .ref (12)] = some (171, [some (.ref (1)), some (.ref (300 + kd)), some (.ref (40 + w))], [.int (nI 1), .int (V1 (40 + w) (iN (nI 0))), .ref (sS 0), .ref (12)]) from rfl) ?_
        refine AE.cv (f' := 3) (c' := 0) (lo' := 80) (st := []) (As := [.ref (sS 0), .int (V1 (40 + w) (iN (nI 0))), .int (nI 1)]) (m := d_X2_replaceBlocked 0 (V1 (40 + w) (iN (nI 0))) (nI 1) V1) K hex (fun q hq => kX2_replaceBlocked B.1 hfl (i := 0) (by decide) hq) cv_X11_111 rfl (T := TX2) (N := 2) rfl rfl rfl (Nat.le_of_ble_eq_true rfl) ⟨Nat.le_of_ble_eq_true rfl, Nat.le_of_ble_eq_true rfl⟩ (by omega) (am_at eX11_perform 74 rfl) h (rI_some h) (bkI (fun y12 V11 h => ?_))
        exact AE.iret K (by omega) (am_at eX11_perform 75 rfl) h
      (rw [hc4]; exact AE.tswIn K 159 (am_at eX11_perform 14 rfl) (by decide) (by decide) rfl rfl k9)
    refine AE.cse h (fun hc5 h => ?_) (fun hc5 h => ?_)
    · have k9 : AE U G 3 5 0 131 r 0 V1 175 [some (.ref (1)), some (.ref (300 + kd)), some (.ref (40 + w))] [] := by
        refine AE.run K eX11_perform 76 1 (show am_run 3 ((tX11_perform.drop 76).take 1) 175 [some (.ref (1)), some (.ref (300 + kd)), some (.ref (40 + w))] [] = some (176, [some (.ref (1)), some (.ref (300 + kd)), some (.ref (40 + w))], [.ref (1)]) from rfl) ?_
        refine AE.getR K gf_X11_53 rfl rfl (am_at eX11_perform 77 rfl) ?_
        refine AE.run K eX11_perform 78 1 (show am_run 3 ((tX11_perform.drop 78).take 1) 179 [some (.ref (1)), some (.ref (300 + kd)), some (.ref (40 + w))] [.ref (12)] = some (180, [some (.ref (1)), some (.ref (300 + kd)), some (.ref (40 + w))], [.ref (1), .ref (12)]) from rfl) ?_
        refine AE.getR K gf_X11_10 rfl rfl (am_at eX11_perform 79 rfl) ?_
        refine AE.run K eX11_perform 80 2 (show am_run 3 ((tX11_perform.drop 80).take 2) 183 [some (.ref (1)), some (.ref (300 + kd)), some (.ref (40 + w))] [.ref (sS 0), .ref (12)] = some (185, [some (.ref (1)), some (.ref (300 + kd)), some (.ref (40 + w))], [.int (nI 0), .ref (40 + w), .ref (sS 0), .ref (12)]) from rfl) ?_
        refine AE.iald K (sh_row hw) (am_at eX11_perform 82 rfl) h (fun h => ?_)
        refine AE.run K eX11_perform 83 1 (show am_run 3 ((tX11_perform.drop 83).take 1) 186 [some (.ref (1)), some (.ref (300 + kd)), some (.ref (40 + w))] [.int (V1 (40 + w) (iN (nI 0))), .ref (sS 0), .ref (12)] = some (187, [some (.ref (1)), some (.ref (300 + kd)), some (.ref (40 + w))], [.int (nI 0), .int (V1 (40 + w) (iN (nI 0))), .ref (sS 0), .ref (12)]) from rfl) ?_
        refine AE.cv (f' := 3) (c' := 0) (lo' := 80) (st := []) (As := [.ref (sS 0), .int (V1 (40 + w) (iN (nI 0))), .int (nI 0)]) (m := d_X2_replaceBlocked 0 (V1 (40 + w) (iN (nI 0))) (nI 0) V1) K hex (fun q hq => kX2_replaceBlocked B.1 hfl (i := 0) (by decide) hq) cv_X11_111 rfl (T := TX2) (N := 2) rfl rfl rfl (Nat.le_of_ble_eq_true rfl) ⟨Nat.le_of_ble_eq_true rfl, Nat.le_of_ble_eq_true rfl⟩ (by omega) (am_at eX11_perform 84 rfl) h (rI_some h) (bkI (fun y14 V13 h => ?_))
        exact AE.iret K (by omega) (am_at eX11_perform 85 rfl) h
      (rw [hc5]; exact AE.tswIn K 175 (am_at eX11_perform 14 rfl) (by decide) (by decide) rfl rfl k9)
    refine AE.cse h (fun hc6 h => ?_) (fun hc6 h => ?_)
    · have k9 : AE U G 3 5 0 131 r 0 V1 191 [some (.ref (1)), some (.ref (300 + kd)), some (.ref (40 + w))] [] := by
        refine AE.run K eX11_perform 86 1 (show am_run 3 ((tX11_perform.drop 86).take 1) 191 [some (.ref (1)), some (.ref (300 + kd)), some (.ref (40 + w))] [] = some (192, [some (.ref (1)), some (.ref (300 + kd)), some (.ref (40 + w))], [.ref (1)]) from rfl) ?_
        refine AE.getR K gf_X11_53 rfl rfl (am_at eX11_perform 87 rfl) ?_
        refine AE.run K eX11_perform 88 1 (show am_run 3 ((tX11_perform.drop 88).take 1) 195 [some (.ref (1)), some (.ref (300 + kd)), some (.ref (40 + w))] [.ref (12)] = some (196, [some (.ref (1)), some (.ref (300 + kd)), some (.ref (40 + w))], [.ref (1), .ref (12)]) from rfl) ?_
        refine AE.getR K gf_X11_10 rfl rfl (am_at eX11_perform 89 rfl) ?_
        refine AE.run K eX11_perform 90 2 (show am_run 3 ((tX11_perform.drop 90).take 2) 199 [some (.ref (1)), some (.ref (300 + kd)), some (.ref (40 + w))] [.ref (sS 0), .ref (12)] = some (201, [some (.ref (1)), some (.ref (300 + kd)), some (.ref (40 + w))], [.int (nI 0), .ref (40 + w), .ref (sS 0), .ref (12)]) from rfl) ?_
        refine AE.iald K (sh_row hw) (am_at eX11_perform 92 rfl) h (fun h => ?_)
        refine AE.cv (f' := 0) (c' := 0) (lo' := 0) (st := []) (As := [.ref (sS 0), .int (V1 (40 + w) (iN (nI 0)))]) (m := d_X2_replaceSeed 0 (V1 (40 + w) (iN (nI 0))) V1) K hex (fun q hq => kX2_replaceSeed B.1 hfl (i := 0) (by decide) hq) cv_X11_228 rfl (T := TX2) (N := 2) rfl rfl rfl (Nat.le_of_ble_eq_true rfl) ⟨Nat.le_of_ble_eq_true rfl, Nat.le_of_ble_eq_true rfl⟩ (by omega) (am_at eX11_perform 93 rfl) h (rI_some h) (bkI (fun y16 V15 h => ?_))
        exact AE.iret K (by omega) (am_at eX11_perform 94 rfl) h
      (rw [hc6]; exact AE.tswIn K 191 (am_at eX11_perform 14 rfl) (by decide) (by decide) rfl rfl k9)
    refine AE.cse h (fun hc7 h => ?_) (fun hc7 h => ?_)
    · have k9 : AE U G 3 5 0 131 r 0 V1 206 [some (.ref (1)), some (.ref (300 + kd)), some (.ref (40 + w))] [] := by
        refine AE.run K eX11_perform 95 1 (show am_run 3 ((tX11_perform.drop 95).take 1) 206 [some (.ref (1)), some (.ref (300 + kd)), some (.ref (40 + w))] [] = some (207, [some (.ref (1)), some (.ref (300 + kd)), some (.ref (40 + w))], [.ref (1)]) from rfl) ?_
        refine AE.getR K gf_X11_53 rfl rfl (am_at eX11_perform 96 rfl) ?_
        refine AE.run K eX11_perform 97 1 (show am_run 3 ((tX11_perform.drop 97).take 1) 210 [some (.ref (1)), some (.ref (300 + kd)), some (.ref (40 + w))] [.ref (12)] = some (211, [some (.ref (1)), some (.ref (300 + kd)), some (.ref (40 + w))], [.ref (1), .ref (12)]) from rfl) ?_
        refine AE.getR K gf_X11_10 rfl rfl (am_at eX11_perform 98 rfl) ?_
        refine AE.run K eX11_perform 99 2 (show am_run 3 ((tX11_perform.drop 99).take 2) 214 [some (.ref (1)), some (.ref (300 + kd)), some (.ref (40 + w))] [.ref (sS 0), .ref (12)] = some (216, [some (.ref (1)), some (.ref (300 + kd)), some (.ref (40 + w))], [.int (nI 0), .ref (40 + w), .ref (sS 0), .ref (12)]) from rfl) ?_
        refine AE.iald K (sh_row hw) (am_at eX11_perform 101 rfl) h (fun h => ?_)
        refine AE.run K eX11_perform 102 2 (show am_run 3 ((tX11_perform.drop 102).take 2) 217 [some (.ref (1)), some (.ref (300 + kd)), some (.ref (40 + w))] [.int (V1 (40 + w) (iN (nI 0))), .ref (sS 0), .ref (12)] = some (219, [some (.ref (1)), some (.ref (300 + kd)), some (.ref (40 + w))], [.int (nI 1), .ref (40 + w), .int (V1 (40 + w) (iN (nI 0))), .ref (sS 0), .ref (12)]) from rfl) ?_
        refine AE.iald K (sh_row hw) (am_at eX11_perform 104 rfl) h (fun h => ?_)
        refine AE.run K eX11_perform 105 2 (show am_run 3 ((tX11_perform.drop 105).take 2) 220 [some (.ref (1)), some (.ref (300 + kd)), some (.ref (40 + w))] [.int (V1 (40 + w) (iN (nI 1))), .int (V1 (40 + w) (iN (nI 0))), .ref (sS 0), .ref (12)] = some (222, [some (.ref (1)), some (.ref (300 + kd)), some (.ref (40 + w))], [.int (nI 2), .ref (40 + w), .int (V1 (40 + w) (iN (nI 1))), .int (V1 (40 + w) (iN (nI 0))), .ref (sS 0), .ref (12)]) from rfl) ?_
        refine AE.iald K (sh_row hw) (am_at eX11_perform 107 rfl) h (fun h => ?_)
        refine AE.run K eX11_perform 108 1 (show am_run 3 ((tX11_perform.drop 108).take 1) 223 [some (.ref (1)), some (.ref (300 + kd)), some (.ref (40 + w))] [.int (V1 (40 + w) (iN (nI 2))), .int (V1 (40 + w) (iN (nI 1))), .int (V1 (40 + w) (iN (nI 0))), .ref (sS 0), .ref (12)] = some (224, [some (.ref (1)), some (.ref (300 + kd)), some (.ref (40 + w))], [.int (nI 1), .int (V1 (40 + w) (iN (nI 2))), .int (V1 (40 + w) (iN (nI 1))), .int (V1 (40 + w) (iN (nI 0))), .ref (sS 0), .ref (12)]) from rfl) ?_
        refine rB_of (P := fun (j : Int32 → am_V → am_R) => ∀ (bs0_232 : Int32) (V_232 : am_V), j bs0_232 V_232 = some r → AE U G 3 5 0 131 r 0 V_232 232 [none, none, none] [.int (bs0_232), .int (V1 (40 + w) (iN (nI 1))), .int (V1 (40 + w) (iN (nI 0))), .ref (sS 0), .ref (12)]) h (fun bs0_232 V_232 h => ?_) (fun j232 hj232 h => ?_)
        · refine AE.cv (f' := 2) (c' := 0) (lo' := 40) (st := []) (As := [.ref (sS 0), .int (V1 (40 + w) (iN (nI 0))), .int (V1 (40 + w) (iN (nI 1))), .int (bs0_232)]) (m := d_X2_beginBroadcast 0 (V1 (40 + w) (iN (nI 0))) (V1 (40 + w) (iN (nI 1))) bs0_232 V_232) K hex (fun q hq => kX2_beginBroadcast B.1 hfl (i := 0) (by decide) hq) cv_X11_231 rfl (T := TX2) (N := 2) rfl rfl rfl (Nat.le_of_ble_eq_true rfl) ⟨Nat.le_of_ble_eq_true rfl, Nat.le_of_ble_eq_true rfl⟩ (by omega) (am_at eX11_perform 113 rfl) h (rI_some h) (bkI (fun y18 V17 h => ?_))
          exact AE.iret K (by omega) (am_at eX11_perform 114 rfl) h
        refine AE.ic K 231 (am_at eX11_perform 109 rfl) (by decide) rfl h (fun h => ?_) (fun h => ?_)
        · refine AE.run K eX11_perform 112 1 (show am_run 3 ((tX11_perform.drop 112).take 1) 231 [some (.ref (1)), some (.ref (300 + kd)), some (.ref (40 + w))] [.int (V1 (40 + w) (iN (nI 1))), .int (V1 (40 + w) (iN (nI 0))), .ref (sS 0), .ref (12)] = some (232, [some (.ref (1)), some (.ref (300 + kd)), some (.ref (40 + w))], [.int (nI 0), .int (V1 (40 + w) (iN (nI 1))), .int (V1 (40 + w) (iN (nI 0))), .ref (sS 0), .ref (12)]) from rfl) ?_
          exact AE.sub (L' := [none, none, none]) trivial (hj232 (nI 0) V1 h)
        · refine AE.run K eX11_perform 110 2 (show am_run 3 ((tX11_perform.drop 110).take 2) 227 [some (.ref (1)), some (.ref (300 + kd)), some (.ref (40 + w))] [.int (V1 (40 + w) (iN (nI 1))), .int (V1 (40 + w) (iN (nI 0))), .ref (sS 0), .ref (12)] = some (232, [some (.ref (1)), some (.ref (300 + kd)), some (.ref (40 + w))], [.int (nI 1), .int (V1 (40 + w) (iN (nI 1))), .int (V1 (40 + w) (iN (nI 0))), .ref (sS 0), .ref (12)]) from rfl) ?_
          exact AE.sub (L' := [none, none, none]) trivial (hj232 (nI 1) V1 h)
      (rw [hc7]; exact AE.tswIn K 206 (am_at eX11_perform 14 rfl) (by decide) (by decide) rfl rfl k9)
    refine AE.cse h (fun hc8 h => ?_) (fun hc8 h => ?_)
    · have k9 : AE U G 3 5 0 131 r 0 V1 236 [some (.ref (1)), some (.ref (300 + kd)), some (.ref (40 + w))] [] := by
        refine AE.run K eX11_perform 115 1 (show am_run 3 ((tX11_perform.drop 115).take 1) 236 [some (.ref (1)), some (.ref (300 + kd)), some (.ref (40 + w))] [] = some (237, [some (.ref (1)), some (.ref (300 + kd)), some (.ref (40 + w))], [.ref (1)]) from rfl) ?_
        refine AE.getR K gf_X11_53 rfl rfl (am_at eX11_perform 116 rfl) ?_
        refine AE.run K eX11_perform 117 1 (show am_run 3 ((tX11_perform.drop 117).take 1) 240 [some (.ref (1)), some (.ref (300 + kd)), some (.ref (40 + w))] [.ref (12)] = some (241, [some (.ref (1)), some (.ref (300 + kd)), some (.ref (40 + w))], [.ref (1), .ref (12)]) from rfl) ?_
        refine AE.getR K gf_X11_10 rfl rfl (am_at eX11_perform 118 rfl) ?_
        refine AE.run K eX11_perform 119 1 (show am_run 3 ((tX11_perform.drop 119).take 1) 244 [some (.ref (1)), some (.ref (300 + kd)), some (.ref (40 + w))] [.ref (sS 0), .ref (12)] = some (245, [some (.ref (1)), some (.ref (300 + kd)), some (.ref (40 + w))], [.ref (1), .ref (sS 0), .ref (12)]) from rfl) ?_
        refine AE.getR K gf_X11_46 rfl rfl (am_at eX11_perform 120 rfl) ?_
        refine AE.cv (f' := 4) (c' := 0) (lo' := 108) (st := []) (As := [.ref (sS 0), .ref (11)]) (m := d_X2_letBlowOnce 0 V1) K hex (fun q hq => kX2_letBlowOnce B.1 hfl (i := 0) (by decide) hq) cv_X11_235 rfl (T := TX2) (N := 2) rfl rfl rfl (Nat.le_of_ble_eq_true rfl) ⟨Nat.le_of_ble_eq_true rfl, Nat.le_of_ble_eq_true rfl⟩ (by omega) (am_at eX11_perform 121 rfl) h (rI_some h) (bkI (fun y20 V19 h => ?_))
        exact AE.iret K (by omega) (am_at eX11_perform 122 rfl) h
      (rw [hc8]; exact AE.tswIn K 236 (am_at eX11_perform 14 rfl) (by decide) (by decide) rfl rfl k9)
    refine AE.cse h (fun hc9 h => ?_) (fun hc9 h => ?_)
    · have k9 : AE U G 3 5 0 131 r 0 V1 252 [some (.ref (1)), some (.ref (300 + kd)), some (.ref (40 + w))] [] := by
        refine AE.run K eX11_perform 123 1 (show am_run 3 ((tX11_perform.drop 123).take 1) 252 [some (.ref (1)), some (.ref (300 + kd)), some (.ref (40 + w))] [] = some (253, [some (.ref (1)), some (.ref (300 + kd)), some (.ref (40 + w))], [.ref (1)]) from rfl) ?_
        refine AE.getR K gf_X11_53 rfl rfl (am_at eX11_perform 124 rfl) ?_
        refine AE.run K eX11_perform 125 1 (show am_run 3 ((tX11_perform.drop 125).take 1) 256 [some (.ref (1)), some (.ref (300 + kd)), some (.ref (40 + w))] [.ref (12)] = some (257, [some (.ref (1)), some (.ref (300 + kd)), some (.ref (40 + w))], [.ref (1), .ref (12)]) from rfl) ?_
        refine AE.getR K gf_X11_10 rfl rfl (am_at eX11_perform 126 rfl) ?_
        refine AE.run K eX11_perform 127 1 (show am_run 3 ((tX11_perform.drop 127).take 1) 260 [some (.ref (1)), some (.ref (300 + kd)), some (.ref (40 + w))] [.ref (sS 0), .ref (12)] = some (261, [some (.ref (1)), some (.ref (300 + kd)), some (.ref (40 + w))], [.ref (1), .ref (sS 0), .ref (12)]) from rfl) ?_
        refine AE.getR K gf_X11_46 rfl rfl (am_at eX11_perform 128 rfl) ?_
        refine AE.cv (f' := 4) (c' := 0) (lo' := 108) (st := []) (As := [.ref (sS 0), .ref (11)]) (m := d_X2_letBlowToEnd 0 V1) K hex (fun q hq => kX2_letBlowToEnd B.1 hfl (i := 0) (by decide) hq) cv_X11_239 rfl (T := TX2) (N := 2) rfl rfl rfl (Nat.le_of_ble_eq_true rfl) ⟨Nat.le_of_ble_eq_true rfl, Nat.le_of_ble_eq_true rfl⟩ (by omega) (am_at eX11_perform 129 rfl) h (rI_some h) (bkI (fun y22 V21 h => ?_))
        exact AE.iret K (by omega) (am_at eX11_perform 130 rfl) h
      (rw [hc9]; exact AE.tswIn K 252 (am_at eX11_perform 14 rfl) (by decide) (by decide) rfl rfl k9)
    refine AE.cse h (fun hc10 h => ?_) (fun hc10 h => ?_)
    · have k9 : AE U G 3 5 0 131 r 0 V1 268 [some (.ref (1)), some (.ref (300 + kd)), some (.ref (40 + w))] [] := by
        refine AE.run K eX11_perform 131 1 (show am_run 3 ((tX11_perform.drop 131).take 1) 268 [some (.ref (1)), some (.ref (300 + kd)), some (.ref (40 + w))] [] = some (269, [some (.ref (1)), some (.ref (300 + kd)), some (.ref (40 + w))], [.ref (1)]) from rfl) ?_
        refine AE.getR K gf_X11_53 rfl rfl (am_at eX11_perform 132 rfl) ?_
        refine AE.run K eX11_perform 133 1 (show am_run 3 ((tX11_perform.drop 133).take 1) 272 [some (.ref (1)), some (.ref (300 + kd)), some (.ref (40 + w))] [.ref (12)] = some (273, [some (.ref (1)), some (.ref (300 + kd)), some (.ref (40 + w))], [.ref (1), .ref (12)]) from rfl) ?_
        refine AE.getR K gf_X11_10 rfl rfl (am_at eX11_perform 134 rfl) ?_
        refine AE.cv (f' := 1) (c' := 0) (lo' := 22) (st := []) (As := [.ref (sS 0)]) (m := d_X2_stopBroadcast 0 V1) K hex (fun q hq => kX2_stopBroadcast B.1 hfl (i := 0) (by decide) hq) cv_X11_242 rfl (T := TX2) (N := 2) rfl rfl rfl (Nat.le_of_ble_eq_true rfl) ⟨Nat.le_of_ble_eq_true rfl, Nat.le_of_ble_eq_true rfl⟩ (by omega) (am_at eX11_perform 135 rfl) h (rI_some h) (bkI (fun y24 V23 h => ?_))
        exact AE.iret K (by omega) (am_at eX11_perform 136 rfl) h
      (rw [hc10]; exact AE.tswIn K 268 (am_at eX11_perform 14 rfl) (by decide) (by decide) rfl rfl k9)
    refine AE.tswOut (l1 := 1) (hi := 11) K 280 (am_at eX11_perform 14 rfl) (sw_def (lo := 1) (n := 11) (by decide) (by decide) (fun c9 h9 => match c9, h9 with | 0, _ => fun e9 => hc0 (e9) | 1, _ => fun e9 => hc1 (e9) | 2, _ => fun e9 => hc2 (e9) | 3, _ => fun e9 => hc3 (e9) | 4, _ => fun e9 => hc4 (e9) | 5, _ => fun e9 => hc5 (e9) | 6, _ => fun e9 => hc6 (e9) | 7, _ => fun e9 => hc7 (e9) | 8, _ => fun e9 => hc8 (e9) | 9, _ => fun e9 => hc9 (e9) | 10, _ => fun e9 => hc10 (e9))) rfl ?_
    refine AE.run K eX11_perform 137 1 (show am_run 3 ((tX11_perform.drop 137).take 1) 280 [some (.ref (1)), some (.ref (300 + kd)), some (.ref (40 + w))] [] = some (282, [some (.ref (1)), some (.ref (300 + kd)), some (.ref (40 + w))], [.int (-2)]) from rfl) ?_
    exact AE.iret K (by omega) (am_at eX11_perform 138 rfl) h
  · refine AE.run K eX11_perform 8 1 (show am_run 3 ((tX11_perform.drop 8).take 1) 14 [some (.ref (1)), some (.ref (300 + kd)), some (.ref (40 + w))] [] = some (16, [some (.ref (1)), some (.ref (300 + kd)), some (.ref (40 + w))], [.int (-2)]) from rfl) ?_
    exact AE.iret K (by omega) (am_at eX11_perform 9 rfl) h
def bd_X11_execute_44 (kx kr : Int32 → Int32 → am_V → am_R) (a2_44 : Int32) (a3_44 : Int32) (V_44 : am_V) : am_R := (if (V_44 13 2) ≤ a2_44 then kx a2_44 a3_44 V_44 else (if a3_44 < 0 then kx a2_44 a3_44 V_44 else rG (am_in a2_44 12) (rG (decide (nI 1 ≤ V_44 14 (iN a2_44) ∧ V_44 14 (iN a2_44) ≤ nI 11)) (rG (am_in a2_44 12) (rI (d_X11_perform ((iN (V_44 14 (iN a2_44)) - 1)) ((iN a2_44)) V_44) (fun (y5 : Int32) (V4 : am_V) => kr (a2_44 + nI 1) y5 V4))))))
def lp_X11_execute_44 (kx : Int32 → Int32 → am_V → am_R) : Nat → Int32 → Int32 → am_V → am_R
  | 0, _, _, _ => none
  | f9 + 1, a2_44, a3_44, V_44 => bd_X11_execute_44 kx (lp_X11_execute_44 kx f9) a2_44 a3_44 V_44
def d_X11_execute (V : am_V) : am_R := rI (d_X3_read V) (fun (y2 : Int32) (V1 : am_V) => (if y2 = (-1) then rU (d_X4_note 0 V1) (fun (V3 : am_V) => lp_X11_execute_44  (fun (a2_44 : Int32) (a3_44 : Int32) (V_44x : am_V) => rB (fun (V_106 : am_V) => (if ¬ a3_44 = (-3) then (if 0 ≤ a3_44 then rU (d_X4_keep V_106) (fun (V8 : am_V) => some (.inl (some (.int (a2_44))), V8)) else some (.inr "java/lang/IllegalStateException", V_106)) else rU (d_X11_noteRejection (nI 7) (a2_44 - (nI 1)) (V_106 12 0) V_106) (fun (V9 : am_V) => some (.inr "java/lang/UnsupportedOperationException", V9)))) (fun (j106 : am_V → am_R) => (if 0 ≤ a3_44 then j106 V_44x else rG (am_in (V_44x 2 1) 9) (rA (sS (3 + iN (V_44x 2 1))) (d_X4_noted V_44x) (fun (V6 : am_V) => rU (d_X8_copyFrom 0 ((3 + iN (V_44x 2 1))) V6) (fun (V7 : am_V) => j106 V7)))))) 1000 (nI 0) (nI 0) V3) else rV (am_set V1 1 15 y2) (fun (V10 : am_V) => some (.inr "java/lang/IllegalArgumentException", V10))))
set_option maxRecDepth 100000 in
set_option maxHeartbeats 4000000 in
theorem bk_X11_execute_44 {U : am_U} {l : Launch} (B : am_B2 U) (hfl : l.stackTraces = false) {G : am_G} (K : aK U l G RX11 cX11_execute 4 (some .int) 8 1 200) (hex : am_nx G) {r : (Option Value ⊕ String) × am_V} {kc : Nat} (hkc : kc ≤ 1) {kx kr : Int32 → Int32 → am_V → am_R} (hx : ∀ (a2_44 : Int32) (a3_44 : Int32) (Vq : am_V), kx a2_44 a3_44 Vq = some r → AE U G 4 8 1 200 r kc Vq 88 [some (.ref (1)), none, some (.int (a2_44)), some (.int (a3_44))] []) (hr : ∀ (a2_44 : Int32) (a3_44 : Int32) (Vq : am_V), kr a2_44 a3_44 Vq = some r → AE U G 4 8 1 200 r kc Vq 44 [some (.ref (1)), none, some (.int (a2_44)), some (.int (a3_44))] []) (a2_44 : Int32) (a3_44 : Int32) (V_44 : am_V) (h : bd_X11_execute_44  kx kr a2_44 a3_44 V_44 = some r) : AE U G 4 8 1 200 r kc V_44 44 [some (.ref (1)), none, some (.int (a2_44)), some (.int (a3_44))] [] := by
  unfold bd_X11_execute_44 at h
  refine AE.run K eX11_execute 24 2 (show am_run 4 ((tX11_execute.drop 24).take 2) 44 [some (.ref (1)), none, some (.int (a2_44)), some (.int (a3_44))] [] = some (46, [some (.ref (1)), none, some (.int (a2_44)), some (.int (a3_44))], [.ref (1), .int (a2_44)]) from rfl) ?_
  refine AE.getR K gf_X11_60 rfl rfl (am_at eX11_execute 26 rfl) ?_
  refine AE.getI K gf_X11_360 rfl rfl (am_at eX11_execute 27 rfl) ?_
  refine AE.ic K 88 (am_at eX11_execute 28 rfl) (by decide) rfl h (fun h => ?_) (fun h => ?_)
  · exact (hx a2_44 a3_44 V_44 h)
  · refine AE.run K eX11_execute 29 1 (show am_run 4 ((tX11_execute.drop 29).take 1) 55 [some (.ref (1)), none, some (.int (a2_44)), some (.int (a3_44))] [] = some (56, [some (.ref (1)), none, some (.int (a2_44)), some (.int (a3_44))], [.int (a3_44)]) from rfl) ?_
    refine AE.if0 K 88 (am_at eX11_execute 30 rfl) (by decide) rfl h (fun h => ?_) (fun h => ?_)
    · exact (hx a2_44 a3_44 V_44 h)
    · refine AE.run K eX11_execute 31 2 (show am_run 4 ((tX11_execute.drop 31).take 2) 59 [some (.ref (1)), none, some (.int (a2_44)), some (.int (a3_44))] [] = some (61, [some (.ref (1)), none, some (.int (a2_44)), some (.int (a3_44))], [.ref (1), .ref (1)]) from rfl) ?_
      refine AE.getR K gf_X11_60 rfl rfl (am_at eX11_execute 33 rfl) ?_
      refine AE.getR K gf_X11_363 rfl rfl (am_at eX11_execute 34 rfl) ?_
      refine AE.run K eX11_execute 35 1 (show am_run 4 ((tX11_execute.drop 35).take 1) 67 [some (.ref (1)), none, some (.int (a2_44)), some (.int (a3_44))] [.ref (14), .ref (1)] = some (68, [some (.ref (1)), none, some (.int (a2_44)), some (.int (a3_44))], [.int (a2_44), .ref (14), .ref (1)]) from rfl) ?_
      refine AE.aaldK K (am_at eX11_execute 36 rfl) h (fun hs68 h => ?_)
      refine AE.run K eX11_execute 37 1 (show am_run 4 ((tX11_execute.drop 37).take 1) 69 [some (.ref (1)), none, some (.int (a2_44)), some (.int (a3_44))] [.ref (300 + (iN (V_44 14 (iN a2_44)) - 1)), .ref (1)] = some (70, [some (.ref (1)), none, some (.int (a2_44)), some (.int (a3_44))], [.ref (1), .ref (300 + (iN (V_44 14 (iN a2_44)) - 1)), .ref (1)]) from rfl) ?_
      refine AE.getR K gf_X11_60 rfl rfl (am_at eX11_execute 38 rfl) ?_
      refine AE.getR K gf_X11_367 rfl rfl (am_at eX11_execute 39 rfl) ?_
      refine AE.run K eX11_execute 40 1 (show am_run 4 ((tX11_execute.drop 40).take 1) 76 [some (.ref (1)), none, some (.int (a2_44)), some (.int (a3_44))] [.ref (15), .ref (300 + (iN (V_44 14 (iN a2_44)) - 1)), .ref (1)] = some (77, [some (.ref (1)), none, some (.int (a2_44)), some (.int (a3_44))], [.int (a2_44), .ref (15), .ref (300 + (iN (V_44 14 (iN a2_44)) - 1)), .ref (1)]) from rfl) ?_
      refine AE.aaldR K (am_at eX11_execute 41 rfl) h (fun hs77 h => ?_)
      refine AE.cv (f' := 5) (c' := 0) (lo' := 131) (st := []) (As := [.ref (300 + (iN (V_44 14 (iN a2_44)) - 1)), .ref (40 + iN a2_44)]) (m := d_X11_perform ((iN (V_44 14 (iN a2_44)) - 1)) ((iN a2_44)) V_44) K hex (fun q hq => kX11_perform B hfl (kd := (iN (V_44 14 (iN a2_44)) - 1)) (w := (iN a2_44)) hs68 hs77 hq) cv_X11_371 rfl (T := TX11) (N := 16) rfl rfl rfl (Nat.le_of_ble_eq_true rfl) ⟨Nat.le_of_ble_eq_true rfl, Nat.le_of_ble_eq_true rfl⟩ (by omega) (am_at eX11_execute 42 rfl) h (rI_some h) (bkI (fun y5 V4 h => ?_))
      refine AE.run K eX11_execute 43 3 (show am_run 4 ((tX11_execute.drop 43).take 3) 81 [some (.ref (1)), none, some (.int (a2_44)), some (.int (a3_44))] [.int (y5)] = some (44, [some (.ref (1)), none, some (.int (a2_44 + nI 1)), some (.int (y5))], []) from rfl) ?_
      exact AE.sub (L' := [some (.ref (1)), none, some (.int (a2_44 + nI 1)), some (.int (y5))]) (And.intro rfl (And.intro rfl (And.intro rfl trivial))) (hr (a2_44 + nI 1) y5 V4 h)
theorem lk_X11_execute_44 {U : am_U} {l : Launch} (B : am_B2 U) (hfl : l.stackTraces = false) {G : am_G} (K : aK U l G RX11 cX11_execute 4 (some .int) 8 1 200) (hex : am_nx G) {r : (Option Value ⊕ String) × am_V} {kc : Nat} (hkc : kc ≤ 1) {kx : Int32 → Int32 → am_V → am_R} (hx : ∀ (a2_44 : Int32) (a3_44 : Int32) (Vq : am_V), kx a2_44 a3_44 Vq = some r → AE U G 4 8 1 200 r kc Vq 88 [some (.ref (1)), none, some (.int (a2_44)), some (.int (a3_44))] []) : ∀ (f9 : Nat) (a2_44 : Int32) (a3_44 : Int32) (Vq : am_V), lp_X11_execute_44  kx f9 a2_44 a3_44 Vq = some r → AE U G 4 8 1 200 r kc Vq 44 [some (.ref (1)), none, some (.int (a2_44)), some (.int (a3_44))] [] := by
  intro f9
  induction f9 with
  | zero =>
    intro a2_44 a3_44 Vq h
    cases h
  | succ f9 ih =>
    intro a2_44 a3_44 Vq h
    exact bk_X11_execute_44 B hfl K hex  hkc hx ih a2_44 a3_44 Vq h
set_option maxRecDepth 100000 in
set_option maxHeartbeats 4000000 in
theorem kX11_execute {U : am_U} {l : Launch} (B : am_B2 U) (hfl : l.stackTraces = false) {V : am_V} {r : (Option Value ⊕ String) × am_V} (h : d_X11_execute V = some r) : am_Ct xx U l yX11_execute cX11_execute 4 (some .int) (rk 8 1 200) [.ref (1)] V (am_is r.1 r.2) := by
  refine am_Ct.of B.1 hfl (by decide) (Nat.le_of_ble_eq_true rfl) ?_
  intro G hgl hgR hr ok h0 hex
  have K : aK U l G RX11 cX11_execute 4 (some .int) 8 1 200 := ⟨hgl, hgR, hr, ok, h0⟩
  unfold d_X11_execute at h
  show AE U G 4 8 1 200 r 0 V 0 [some (.ref (1)), none, none, none] []
  refine AE.run K eX11_execute 0 1 (show am_run 4 ((tX11_execute.drop 0).take 1) 0 [some (.ref (1)), none, none, none] [] = some (1, [some (.ref (1)), none, none, none], [.ref (1)]) from rfl) ?_
  refine AE.getR K gf_X11_60 rfl rfl (am_at eX11_execute 1 rfl) ?_
  refine AE.cv (f' := 7) (c' := 0) (lo' := 173) (st := []) (As := []) (m := d_X3_read V) K hex (fun q hq => kX3_read B hfl hq) cv_X11_355 rfl (T := TX3) (N := 6) rfl rfl rfl (Nat.le_of_ble_eq_true rfl) ⟨Nat.le_of_ble_eq_true rfl, Nat.le_of_ble_eq_true rfl⟩ (by omega) (am_at eX11_execute 2 rfl) h (rI_some h) (bkI (fun y2 V1 h => ?_))
  refine AE.run K eX11_execute 3 3 (show am_run 4 ((tX11_execute.drop 3).take 3) 7 [some (.ref (1)), none, none, none] [.int (y2)] = some (10, [some (.ref (1)), some (.int (y2)), none, none], [.int (-1), .int (y2)]) from rfl) ?_
  refine AE.ic K 29 (am_at eX11_execute 6 rfl) (by decide) rfl h (fun h => ?_) (fun h => ?_)
  · refine AE.run K eX11_execute 15 1 (show am_run 4 ((tX11_execute.drop 15).take 1) 29 [some (.ref (1)), some (.int (y2)), none, none] [] = some (30, [some (.ref (1)), some (.int (y2)), none, none], [.ref (1)]) from rfl) ?_
    refine AE.getR K gf_X11_25 rfl rfl (am_at eX11_execute 16 rfl) ?_
    refine AE.run K eX11_execute 17 1 (show am_run 4 ((tX11_execute.drop 17).take 1) 33 [some (.ref (1)), some (.int (y2)), none, none] [.ref (2)] = some (34, [some (.ref (1)), some (.int (y2)), none, none], [.ref (1), .ref (2)]) from rfl) ?_
    refine AE.getR K gf_X11_10 rfl rfl (am_at eX11_execute 18 rfl) ?_
    refine AE.cv (f' := 4) (c' := 0) (lo' := 102) (st := []) (As := [.ref (sS 0)]) (m := d_X4_note 0 V1) K hex (fun q hq => kX4_note B.1 hfl (i := 0) (by decide) hq) cv_X11_88 rfl (T := TX4) (N := 3) rfl rfl rfl (Nat.le_of_ble_eq_true rfl) ⟨Nat.le_of_ble_eq_true rfl, Nat.le_of_ble_eq_true rfl⟩ (by omega) (am_at eX11_execute 19 rfl) h (rU_some h) (bkU (fun V3 h => ?_))
    refine AE.run K eX11_execute 20 4 (show am_run 4 ((tX11_execute.drop 20).take 4) 40 [some (.ref (1)), some (.int (y2)), none, none] [] = some (44, [some (.ref (1)), some (.int (y2)), some (.int (nI 0)), some (.int (nI 0))], []) from rfl) ?_
    refine AE.sub (L' := [some (.ref (1)), none, some (.int (nI 0)), some (.int (nI 0))]) (And.intro rfl (And.intro rfl (And.intro rfl trivial))) ?_
    refine lk_X11_execute_44 B hfl K hex  (by omega) ?_ 1000 (nI 0) (nI 0) V3 h
    intro a2_44 a3_44 V_44x h
    refine AE.run K eX11_execute 46 1 (show am_run 4 ((tX11_execute.drop 46).take 1) 88 [some (.ref (1)), none, some (.int (a2_44)), some (.int (a3_44))] [] = some (89, [some (.ref (1)), none, some (.int (a2_44)), some (.int (a3_44))], [.int (a3_44)]) from rfl) ?_
    refine rB_of (P := fun (j : am_V → am_R) => ∀ (V_106 : am_V), j V_106 = some r → AE U G 4 8 1 200 r 0 V_106 106 [some (.ref (1)), none, some (.int (a2_44)), some (.int (a3_44))] []) h (fun V_106 h => ?_) (fun j106 hj106 h => ?_)
    · refine AE.run K eX11_execute 54 2 (show am_run 4 ((tX11_execute.drop 54).take 2) 106 [some (.ref (1)), none, some (.int (a2_44)), some (.int (a3_44))] [] = some (109, [some (.ref (1)), none, some (.int (a2_44)), some (.int (a3_44))], [.int (-3), .int (a3_44)]) from rfl) ?_
      refine AE.ic K 139 (am_at eX11_execute 56 rfl) (by decide) rfl h (fun h => ?_) (fun h => ?_)
      · refine AE.run K eX11_execute 71 1 (show am_run 4 ((tX11_execute.drop 71).take 1) 139 [some (.ref (1)), none, some (.int (a2_44)), some (.int (a3_44))] [] = some (140, [some (.ref (1)), none, some (.int (a2_44)), some (.int (a3_44))], [.int (a3_44)]) from rfl) ?_
        refine AE.if0 K 154 (am_at eX11_execute 72 rfl) (by decide) rfl h (fun h => ?_) (fun h => ?_)
        · refine AE.run K eX11_execute 78 1 (show am_run 4 ((tX11_execute.drop 78).take 1) 154 [some (.ref (1)), none, some (.int (a2_44)), some (.int (a3_44))] [] = some (155, [some (.ref (1)), none, some (.int (a2_44)), some (.int (a3_44))], [.ref (1)]) from rfl) ?_
          refine AE.getR K gf_X11_25 rfl rfl (am_at eX11_execute 79 rfl) ?_
          refine AE.cv (f' := 2) (c' := 0) (lo' := 60) (st := []) (As := []) (m := d_X4_keep V_106) K hex (fun q hq => kX4_keep B.1 hfl hq) cv_X11_393 rfl (T := TX4) (N := 3) rfl rfl rfl (Nat.le_of_ble_eq_true rfl) ⟨Nat.le_of_ble_eq_true rfl, Nat.le_of_ble_eq_true rfl⟩ (by omega) (am_at eX11_execute 80 rfl) h (rU_some h) (bkU (fun V8 h => ?_))
          refine AE.run K eX11_execute 81 1 (show am_run 4 ((tX11_execute.drop 81).take 1) 161 [some (.ref (1)), none, some (.int (a2_44)), some (.int (a3_44))] [] = some (162, [some (.ref (1)), none, some (.int (a2_44)), some (.int (a3_44))], [.int (a2_44)]) from rfl) ?_
          exact AE.iret K (by omega) (am_at eX11_execute 82 rfl) h
        · exact AE.throwSW K hex th_X11_347_391 (am_at eX11_execute 73 rfl) (am_at eX11_execute 74 rfl) (am_at eX11_execute 75 rfl) (am_at eX11_execute 76 rfl) (am_at eX11_execute 77 rfl) (by decide) (Nat.le_of_ble_eq_true rfl) (by omega) h
      · refine AE.run K eX11_execute 57 6 (show am_run 4 ((tX11_execute.drop 57).take 6) 112 [some (.ref (1)), none, some (.int (a2_44)), some (.int (a3_44))] [] = some (119, [some (.ref (1)), none, some (.int (a2_44)), some (.int (a3_44))], [.ref (1), .int (a2_44 - (nI 1)), .int (nI 7), .ref (1)]) from rfl) ?_
        refine AE.getR K gf_X11_53 rfl rfl (am_at eX11_execute 63 rfl) ?_
        refine AE.getI K gf_X11_379 rfl rfl (am_at eX11_execute 64 rfl) ?_
        refine AE.cv (f' := 0) (c' := 0) (lo' := 0) (st := []) (As := [.int (nI 7), .int (a2_44 - (nI 1)), .int (V_106 12 0)]) (m := d_X11_noteRejection (nI 7) (a2_44 - (nI 1)) (V_106 12 0) V_106) K hex (fun q hq => kX11_noteRejection B.1 hfl hq) cv_X11_382 rfl (T := TX11) (N := 16) rfl rfl rfl (Nat.le_of_ble_eq_true rfl) ⟨Nat.le_of_ble_eq_true rfl, Nat.le_of_ble_eq_true rfl⟩ (by omega) (am_at eX11_execute 65 rfl) h (rU_some h) (bkU (fun V9 h => ?_))
        exact AE.throwSW K hex th_X11_386_388 (am_at eX11_execute 66 rfl) (am_at eX11_execute 67 rfl) (am_at eX11_execute 68 rfl) (am_at eX11_execute 69 rfl) (am_at eX11_execute 70 rfl) (by decide) (Nat.le_of_ble_eq_true rfl) (by omega) h
    refine AE.if0 K 106 (am_at eX11_execute 47 rfl) (by decide) rfl h (fun h => ?_) (fun h => ?_)
    · exact (hj106  V_44x h)
    · refine AE.run K eX11_execute 48 1 (show am_run 4 ((tX11_execute.drop 48).take 1) 92 [some (.ref (1)), none, some (.int (a2_44)), some (.int (a3_44))] [] = some (93, [some (.ref (1)), none, some (.int (a2_44)), some (.int (a3_44))], [.ref (1)]) from rfl) ?_
      refine AE.getR K gf_X11_10 rfl rfl (am_at eX11_execute 49 rfl) ?_
      refine AE.run K eX11_execute 50 1 (show am_run 4 ((tX11_execute.drop 50).take 1) 96 [some (.ref (1)), none, some (.int (a2_44)), some (.int (a3_44))] [.ref (sS 0)] = some (97, [some (.ref (1)), none, some (.int (a2_44)), some (.int (a3_44))], [.ref (1), .ref (sS 0)]) from rfl) ?_
      refine AE.getR K gf_X11_25 rfl rfl (am_at eX11_execute 51 rfl) ?_
      refine AE.gd h (fun hg100 h => ?_)
      refine AE.cv (f' := 0) (c' := 0) (lo' := 0) (st := [.ref (sS 0)]) (As := []) (m := d_X4_noted V_44x) K hex (fun q hq => kX4_noted B.1 hfl hq) cv_X11_375 rfl (T := TX4) (N := 3) rfl rfl rfl (Nat.le_of_ble_eq_true rfl) ⟨Nat.le_of_ble_eq_true rfl, Nat.le_of_ble_eq_true rfl⟩ (by omega) (am_at eX11_execute 52 rfl) h (rA_some h) (bkA (fun V6 h => ?_))
      refine AE.cv (f' := 3) (c' := 0) (lo' := 81) (st := []) (As := [.ref (sS (3 + iN (V_44x 2 1)))]) (m := d_X8_copyFrom 0 ((3 + iN (V_44x 2 1))) V6) K hex (fun q hq => kX8_copyFrom B.1 hfl (i := 0) (j := (3 + iN (V_44x 2 1))) (by decide) (by have := am_in_lt hg100; omega) hq) cv_X11_281 (sh_S0 (by decide)) (T := TX8) (N := 9) rfl rfl rfl (Nat.le_of_ble_eq_true rfl) ⟨Nat.le_of_ble_eq_true rfl, Nat.le_of_ble_eq_true rfl⟩ (by omega) (am_at eX11_execute 53 rfl) h (rU_some h) (bkU (fun V7 h => ?_))
      exact (hj106  V7 h)
  · refine AE.run K eX11_execute 7 2 (show am_run 4 ((tX11_execute.drop 7).take 2) 13 [some (.ref (1)), some (.int (y2)), none, none] [] = some (15, [some (.ref (1)), some (.int (y2)), none, none], [.int (y2), .ref (1)]) from rfl) ?_
    refine AE.putI K pf_X11_85 rfl rfl rfl (am_at eX11_execute 9 rfl) h (fun V10 h => ?_)
    exact AE.throwSW K hex th_X11_339_358 (am_at eX11_execute 10 rfl) (am_at eX11_execute 11 rfl) (am_at eX11_execute 12 rfl) (am_at eX11_execute 13 rfl) (am_at eX11_execute 14 rfl) (by decide) (Nat.le_of_ble_eq_true rfl) (by omega) h
