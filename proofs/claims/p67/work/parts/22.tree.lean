def bd_X7_firstPathOut_4 (t : Nat) (i : Nat) (kx kr : Int32 → Int32 → am_V → am_R) (a2_4 : Int32) (a3_4 : Int32) (V_4 : am_V) : am_R := (if (V_4 (sS i + 1) 7) ≤ a3_4 then kx a2_4 a3_4 V_4 else rG (am_in a3_4 16) (rG (am_in (V_4 (sS i + 5) (iN a3_4)) 9) (rB (fun (bs0_32 : Int32) (V_32 : am_V) => rG (am_in a3_4 16) (rG (am_in (V_32 (sS i + 6) (iN a3_4)) 9) (rB (fun (bs0_52 : Int32) (V_52 : am_V) => rB (fun (bs0_60 : Int32) (V_60 : am_V) => rI (d_X6_isOpen i a3_4 V_60) (fun (y2 : Int32) (V1 : am_V) => rB (fun (b2_97 : Int32) (V_97 : am_V) => kr b2_97 (a3_4 + nI 1) V_97) (fun (j97 : Int32 → am_V → am_R) => (if y2 = 0 then j97 a2_4 V1 else (if bs0_60 = 0 then j97 a2_4 V1 else rB (fun (V_95 : am_V) => j97 a3_4 V_95) (fun (j95 : am_V → am_R) => (if a2_4 = (-1) then j95 V1 else rG (am_in a3_4 16) (rG (am_in a2_4 16) ((if (V1 (sS i + 7) (iN a2_4)) ≤ (V1 (sS i + 7) (iN a3_4)) then j97 a2_4 V1 else j95 V1)))))))))) (fun (j60 : Int32 → am_V → am_R) => (if bs0_32 = bs0_52 then j60 (nI 0) V_52 else j60 (nI 1) V_52))) (fun (j52 : Int32 → am_V → am_R) => (if ¬ (V_32 (t + 3) (iN (V_32 (sS i + 6) (iN a3_4)))) = (-1) then j52 (nI 0) V_32 else j52 (nI 1) V_32))))) (fun (j32 : Int32 → am_V → am_R) => (if ¬ (V_4 (t + 3) (iN (V_4 (sS i + 5) (iN a3_4)))) = (-1) then j32 (nI 0) V_4 else j32 (nI 1) V_4)))))
def lp_X7_firstPathOut_4 (t : Nat) (i : Nat) (kx : Int32 → Int32 → am_V → am_R) : Nat → Int32 → Int32 → am_V → am_R
  | 0, _, _, _ => none
  | f9 + 1, a2_4, a3_4, V_4 => bd_X7_firstPathOut_4 t i kx (lp_X7_firstPathOut_4 t i kx f9) a2_4 a3_4 V_4
def d_X7_firstPathOut (t : Nat) (i : Nat) (V : am_V) : am_R := lp_X7_firstPathOut_4 t i (fun (a2_4 : Int32) (a3_4 : Int32) (V_4x : am_V) => some (.inl (some (.int (a2_4))), V_4x)) 1000 (-1) (nI 0) V
set_option maxRecDepth 100000 in
set_option maxHeartbeats 4000000 in
theorem bk_X7_firstPathOut_4 {U : am_U} {l : Launch} (B : am_base xx U) (hfl : l.stackTraces = false) {G : am_G} (K : aK U l G RX7 cX7_firstPathOut 5 (some .int) 1 0 21) (hex : am_nx G) {r : (Option Value ⊕ String) × am_V} {t : Nat} {i : Nat} (ht : t = 20 ∨ t = 30) (hi : i < 12) {kc : Nat} (hkc : kc ≤ 0) {kx kr : Int32 → Int32 → am_V → am_R} (hx : ∀ (a2_4 : Int32) (a3_4 : Int32) (Vq : am_V), kx a2_4 a3_4 Vq = some r → AE U G 5 1 0 21 r kc Vq 103 [none, none, some (.int (a2_4)), none, none] []) (hr : ∀ (a2_4 : Int32) (a3_4 : Int32) (Vq : am_V), kr a2_4 a3_4 Vq = some r → AE U G 5 1 0 21 r kc Vq 4 [some (.ref (t)), some (.ref (sS i + 1)), some (.int (a2_4)), some (.int (a3_4)), none] []) (a2_4 : Int32) (a3_4 : Int32) (V_4 : am_V) (h : bd_X7_firstPathOut_4 t i kx kr a2_4 a3_4 V_4 = some r) : AE U G 5 1 0 21 r kc V_4 4 [some (.ref (t)), some (.ref (sS i + 1)), some (.int (a2_4)), some (.int (a3_4)), none] [] := by
  unfold bd_X7_firstPathOut_4 at h
  refine AE.run K eX7_firstPathOut 4 2 (show am_run 5 ((tX7_firstPathOut.drop 4).take 2) 4 [some (.ref (t)), some (.ref (sS i + 1)), some (.int (a2_4)), some (.int (a3_4)), none] [] = some (6, [some (.ref (t)), some (.ref (sS i + 1)), some (.int (a2_4)), some (.int (a3_4)), none], [.ref (sS i + 1), .int (a3_4)]) from rfl) ?_
  refine AE.getI K gf_X7_42 (sh_S1 hi) rfl (am_at eX7_firstPathOut 6 rfl) ?_
  refine AE.ic K 103 (am_at eX7_firstPathOut 7 rfl) (by decide) rfl h (fun h => ?_) (fun h => ?_)
  · exact AE.sub (L' := [none, none, some (.int (a2_4)), none, none]) (And.intro rfl trivial) (hx a2_4 a3_4 V_4 h)
  · refine AE.run K eX7_firstPathOut 8 1 (show am_run 5 ((tX7_firstPathOut.drop 8).take 1) 12 [some (.ref (t)), some (.ref (sS i + 1)), some (.int (a2_4)), some (.int (a3_4)), none] [] = some (13, [some (.ref (t)), some (.ref (sS i + 1)), some (.int (a2_4)), some (.int (a3_4)), none], [.ref (t)]) from rfl) ?_
    refine AE.getR K gf_X7_18 (sh_T0 ht) rfl (am_at eX7_firstPathOut 9 rfl) ?_
    refine AE.run K eX7_firstPathOut 10 1 (show am_run 5 ((tX7_firstPathOut.drop 10).take 1) 16 [some (.ref (t)), some (.ref (sS i + 1)), some (.int (a2_4)), some (.int (a3_4)), none] [.ref (t + 3)] = some (17, [some (.ref (t)), some (.ref (sS i + 1)), some (.int (a2_4)), some (.int (a3_4)), none], [.ref (sS i + 1), .ref (t + 3)]) from rfl) ?_
    refine AE.getR K gf_X7_45 (sh_S1 hi) rfl (am_at eX7_firstPathOut 11 rfl) ?_
    refine AE.run K eX7_firstPathOut 12 1 (show am_run 5 ((tX7_firstPathOut.drop 12).take 1) 20 [some (.ref (t)), some (.ref (sS i + 1)), some (.int (a2_4)), some (.int (a3_4)), none] [.ref (sS i + 5), .ref (t + 3)] = some (21, [some (.ref (t)), some (.ref (sS i + 1)), some (.int (a2_4)), some (.int (a3_4)), none], [.int (a3_4), .ref (sS i + 5), .ref (t + 3)]) from rfl) ?_
    refine AE.iald K (sh_S5 hi) (am_at eX7_firstPathOut 13 rfl) h (fun h => ?_)
    refine AE.iald K (sh_T3 ht) (am_at eX7_firstPathOut 14 rfl) h (fun h => ?_)
    refine AE.run K eX7_firstPathOut 15 1 (show am_run 5 ((tX7_firstPathOut.drop 15).take 1) 23 [some (.ref (t)), some (.ref (sS i + 1)), some (.int (a2_4)), some (.int (a3_4)), none] [.int (V_4 (t + 3) (iN (V_4 (sS i + 5) (iN a3_4))))] = some (24, [some (.ref (t)), some (.ref (sS i + 1)), some (.int (a2_4)), some (.int (a3_4)), none], [.int (-1), .int (V_4 (t + 3) (iN (V_4 (sS i + 5) (iN a3_4))))]) from rfl) ?_
    refine rB_of (P := fun (j : Int32 → am_V → am_R) => ∀ (bs0_32 : Int32) (V_32 : am_V), j bs0_32 V_32 = some r → AE U G 5 1 0 21 r (kc) V_32 32 [some (.ref (t)), some (.ref (sS i + 1)), some (.int (a2_4)), some (.int (a3_4)), none] [.int (bs0_32)]) h (fun bs0_32 V_32 h => ?_) (fun j32 hj32 h => ?_)
    · refine AE.run K eX7_firstPathOut 20 1 (show am_run 5 ((tX7_firstPathOut.drop 20).take 1) 32 [some (.ref (t)), some (.ref (sS i + 1)), some (.int (a2_4)), some (.int (a3_4)), none] [.int (bs0_32)] = some (33, [some (.ref (t)), some (.ref (sS i + 1)), some (.int (a2_4)), some (.int (a3_4)), none], [.ref (t), .int (bs0_32)]) from rfl) ?_
      refine AE.getR K gf_X7_18 (sh_T0 ht) rfl (am_at eX7_firstPathOut 21 rfl) ?_
      refine AE.run K eX7_firstPathOut 22 1 (show am_run 5 ((tX7_firstPathOut.drop 22).take 1) 36 [some (.ref (t)), some (.ref (sS i + 1)), some (.int (a2_4)), some (.int (a3_4)), none] [.ref (t + 3), .int (bs0_32)] = some (37, [some (.ref (t)), some (.ref (sS i + 1)), some (.int (a2_4)), some (.int (a3_4)), none], [.ref (sS i + 1), .ref (t + 3), .int (bs0_32)]) from rfl) ?_
      refine AE.getR K gf_X7_48 (sh_S1 hi) rfl (am_at eX7_firstPathOut 23 rfl) ?_
      refine AE.run K eX7_firstPathOut 24 1 (show am_run 5 ((tX7_firstPathOut.drop 24).take 1) 40 [some (.ref (t)), some (.ref (sS i + 1)), some (.int (a2_4)), some (.int (a3_4)), none] [.ref (sS i + 6), .ref (t + 3), .int (bs0_32)] = some (41, [some (.ref (t)), some (.ref (sS i + 1)), some (.int (a2_4)), some (.int (a3_4)), none], [.int (a3_4), .ref (sS i + 6), .ref (t + 3), .int (bs0_32)]) from rfl) ?_
      refine AE.iald K (sh_S6 hi) (am_at eX7_firstPathOut 25 rfl) h (fun h => ?_)
      refine AE.iald K (sh_T3 ht) (am_at eX7_firstPathOut 26 rfl) h (fun h => ?_)
      refine AE.run K eX7_firstPathOut 27 1 (show am_run 5 ((tX7_firstPathOut.drop 27).take 1) 43 [some (.ref (t)), some (.ref (sS i + 1)), some (.int (a2_4)), some (.int (a3_4)), none] [.int (V_32 (t + 3) (iN (V_32 (sS i + 6) (iN a3_4)))), .int (bs0_32)] = some (44, [some (.ref (t)), some (.ref (sS i + 1)), some (.int (a2_4)), some (.int (a3_4)), none], [.int (-1), .int (V_32 (t + 3) (iN (V_32 (sS i + 6) (iN a3_4)))), .int (bs0_32)]) from rfl) ?_
      refine rB_of (P := fun (j : Int32 → am_V → am_R) => ∀ (bs0_52 : Int32) (V_52 : am_V), j bs0_52 V_52 = some r → AE U G 5 1 0 21 r (kc) V_52 52 [some (.ref (t)), some (.ref (sS i + 1)), some (.int (a2_4)), some (.int (a3_4)), none] [.int (bs0_52), .int (bs0_32)]) h (fun bs0_52 V_52 h => ?_) (fun j52 hj52 h => ?_)
      · refine rB_of (P := fun (j : Int32 → am_V → am_R) => ∀ (bs0_60 : Int32) (V_60 : am_V), j bs0_60 V_60 = some r → AE U G 5 1 0 21 r (kc) V_60 60 [some (.ref (t)), some (.ref (sS i + 1)), some (.int (a2_4)), some (.int (a3_4)), none] [.int (bs0_60)]) h (fun bs0_60 V_60 h => ?_) (fun j60 hj60 h => ?_)
        · refine AE.run K eX7_firstPathOut 36 3 (show am_run 5 ((tX7_firstPathOut.drop 36).take 3) 60 [some (.ref (t)), some (.ref (sS i + 1)), some (.int (a2_4)), some (.int (a3_4)), none] [.int (bs0_60)] = some (64, [some (.ref (t)), some (.ref (sS i + 1)), some (.int (a2_4)), some (.int (a3_4)), some (.int (bs0_60))], [.int (a3_4), .ref (sS i + 1)]) from rfl) ?_
          refine AE.cv (f' := 0) (c' := 0) (lo' := 0) (st := []) (As := [.int (a3_4)]) (m := d_X6_isOpen i a3_4 V_60) K hex (fun q hq => kX6_isOpen B hfl (i := i) hi hq) cv_X7_51 (sh_S1 hi) (T := TX6) (N := 8) rfl rfl rfl (Nat.le_of_ble_eq_true rfl) ⟨Nat.le_of_ble_eq_true rfl, Nat.le_of_ble_eq_true rfl⟩ (by omega) (am_at eX7_firstPathOut 39 rfl) h (rI_some h) (bkI (fun y2 V1 h => ?_))
          refine rB_of (P := fun (j : Int32 → am_V → am_R) => ∀ (b2_97 : Int32) (V_97 : am_V), j b2_97 V_97 = some r → AE U G 5 1 0 21 r (kc) V_97 97 [some (.ref (t)), some (.ref (sS i + 1)), some (.int (b2_97)), some (.int (a3_4)), none] []) h (fun b2_97 V_97 h => ?_) (fun j97 hj97 h => ?_)
          · refine AE.run K eX7_firstPathOut 57 2 (show am_run 5 ((tX7_firstPathOut.drop 57).take 2) 97 [some (.ref (t)), some (.ref (sS i + 1)), some (.int (b2_97)), some (.int (a3_4)), none] [] = some (4, [some (.ref (t)), some (.ref (sS i + 1)), some (.int (b2_97)), some (.int (a3_4 + nI 1)), none], []) from rfl) ?_
            exact AE.sub (L' := [some (.ref (t)), some (.ref (sS i + 1)), some (.int (b2_97)), some (.int (a3_4 + nI 1)), none]) (And.intro rfl (And.intro rfl (And.intro rfl (And.intro rfl trivial)))) (hr b2_97 (a3_4 + nI 1) V_97 h)
          refine AE.if0 K 97 (am_at eX7_firstPathOut 40 rfl) (by decide) rfl h (fun h => ?_) (fun h => ?_)
          · exact AE.sub (L' := [some (.ref (t)), some (.ref (sS i + 1)), some (.int (a2_4)), some (.int (a3_4)), none]) (And.intro rfl (And.intro rfl (And.intro rfl (And.intro rfl trivial)))) (hj97 a2_4 V1 h)
          · refine AE.run K eX7_firstPathOut 41 1 (show am_run 5 ((tX7_firstPathOut.drop 41).take 1) 70 [some (.ref (t)), some (.ref (sS i + 1)), some (.int (a2_4)), some (.int (a3_4)), some (.int (bs0_60))] [] = some (72, [some (.ref (t)), some (.ref (sS i + 1)), some (.int (a2_4)), some (.int (a3_4)), some (.int (bs0_60))], [.int (bs0_60)]) from rfl) ?_
            refine AE.if0 K 97 (am_at eX7_firstPathOut 42 rfl) (by decide) rfl h (fun h => ?_) (fun h => ?_)
            · exact AE.sub (L' := [some (.ref (t)), some (.ref (sS i + 1)), some (.int (a2_4)), some (.int (a3_4)), none]) (And.intro rfl (And.intro rfl (And.intro rfl (And.intro rfl trivial)))) (hj97 a2_4 V1 h)
            · refine AE.run K eX7_firstPathOut 43 2 (show am_run 5 ((tX7_firstPathOut.drop 43).take 2) 75 [some (.ref (t)), some (.ref (sS i + 1)), some (.int (a2_4)), some (.int (a3_4)), some (.int (bs0_60))] [] = some (77, [some (.ref (t)), some (.ref (sS i + 1)), some (.int (a2_4)), some (.int (a3_4)), some (.int (bs0_60))], [.int (-1), .int (a2_4)]) from rfl) ?_
              refine rB_of (P := fun (j : am_V → am_R) => ∀ (V_95 : am_V), j V_95 = some r → AE U G 5 1 0 21 r (kc) V_95 95 [some (.ref (t)), some (.ref (sS i + 1)), none, some (.int (a3_4)), none] []) h (fun V_95 h => ?_) (fun j95 hj95 h => ?_)
              · refine AE.run K eX7_firstPathOut 55 2 (show am_run 5 ((tX7_firstPathOut.drop 55).take 2) 95 [some (.ref (t)), some (.ref (sS i + 1)), none, some (.int (a3_4)), none] [] = some (97, [some (.ref (t)), some (.ref (sS i + 1)), some (.int (a3_4)), some (.int (a3_4)), none], []) from rfl) ?_
                exact AE.sub (L' := [some (.ref (t)), some (.ref (sS i + 1)), some (.int (a3_4)), some (.int (a3_4)), none]) (And.intro rfl (And.intro rfl (And.intro rfl (And.intro rfl trivial)))) (hj97 a3_4 V_95 h)
              refine AE.ic K 95 (am_at eX7_firstPathOut 45 rfl) (by decide) rfl h (fun h => ?_) (fun h => ?_)
              · exact AE.sub (L' := [some (.ref (t)), some (.ref (sS i + 1)), none, some (.int (a3_4)), none]) (And.intro rfl (And.intro rfl (And.intro rfl trivial))) (hj95  V1 h)
              · refine AE.run K eX7_firstPathOut 46 1 (show am_run 5 ((tX7_firstPathOut.drop 46).take 1) 80 [some (.ref (t)), some (.ref (sS i + 1)), some (.int (a2_4)), some (.int (a3_4)), some (.int (bs0_60))] [] = some (81, [some (.ref (t)), some (.ref (sS i + 1)), some (.int (a2_4)), some (.int (a3_4)), some (.int (bs0_60))], [.ref (sS i + 1)]) from rfl) ?_
                refine AE.getR K gf_X7_55 (sh_S1 hi) rfl (am_at eX7_firstPathOut 47 rfl) ?_
                refine AE.run K eX7_firstPathOut 48 1 (show am_run 5 ((tX7_firstPathOut.drop 48).take 1) 84 [some (.ref (t)), some (.ref (sS i + 1)), some (.int (a2_4)), some (.int (a3_4)), some (.int (bs0_60))] [.ref (sS i + 7)] = some (85, [some (.ref (t)), some (.ref (sS i + 1)), some (.int (a2_4)), some (.int (a3_4)), some (.int (bs0_60))], [.int (a3_4), .ref (sS i + 7)]) from rfl) ?_
                refine AE.iald K (sh_S7 hi) (am_at eX7_firstPathOut 49 rfl) h (fun h => ?_)
                refine AE.run K eX7_firstPathOut 50 1 (show am_run 5 ((tX7_firstPathOut.drop 50).take 1) 86 [some (.ref (t)), some (.ref (sS i + 1)), some (.int (a2_4)), some (.int (a3_4)), some (.int (bs0_60))] [.int (V1 (sS i + 7) (iN a3_4))] = some (87, [some (.ref (t)), some (.ref (sS i + 1)), some (.int (a2_4)), some (.int (a3_4)), some (.int (bs0_60))], [.ref (sS i + 1), .int (V1 (sS i + 7) (iN a3_4))]) from rfl) ?_
                refine AE.getR K gf_X7_55 (sh_S1 hi) rfl (am_at eX7_firstPathOut 51 rfl) ?_
                refine AE.run K eX7_firstPathOut 52 1 (show am_run 5 ((tX7_firstPathOut.drop 52).take 1) 90 [some (.ref (t)), some (.ref (sS i + 1)), some (.int (a2_4)), some (.int (a3_4)), some (.int (bs0_60))] [.ref (sS i + 7), .int (V1 (sS i + 7) (iN a3_4))] = some (91, [some (.ref (t)), some (.ref (sS i + 1)), some (.int (a2_4)), some (.int (a3_4)), some (.int (bs0_60))], [.int (a2_4), .ref (sS i + 7), .int (V1 (sS i + 7) (iN a3_4))]) from rfl) ?_
                refine AE.iald K (sh_S7 hi) (am_at eX7_firstPathOut 53 rfl) h (fun h => ?_)
                refine AE.ic K 97 (am_at eX7_firstPathOut 54 rfl) (by decide) rfl h (fun h => ?_) (fun h => ?_)
                · exact AE.sub (L' := [some (.ref (t)), some (.ref (sS i + 1)), some (.int (a2_4)), some (.int (a3_4)), none]) (And.intro rfl (And.intro rfl (And.intro rfl (And.intro rfl trivial)))) (hj97 a2_4 V1 h)
                · exact AE.sub (L' := [some (.ref (t)), some (.ref (sS i + 1)), none, some (.int (a3_4)), none]) (And.intro rfl (And.intro rfl (And.intro rfl trivial))) (hj95  V1 h)
        refine AE.ic K 59 (am_at eX7_firstPathOut 32 rfl) (by decide) rfl h (fun h => ?_) (fun h => ?_)
        · refine AE.run K eX7_firstPathOut 35 1 (show am_run 5 ((tX7_firstPathOut.drop 35).take 1) 59 [some (.ref (t)), some (.ref (sS i + 1)), some (.int (a2_4)), some (.int (a3_4)), none] [] = some (60, [some (.ref (t)), some (.ref (sS i + 1)), some (.int (a2_4)), some (.int (a3_4)), none], [.int (nI 0)]) from rfl) ?_
          exact (hj60 (nI 0) V_52 h)
        · refine AE.run K eX7_firstPathOut 33 2 (show am_run 5 ((tX7_firstPathOut.drop 33).take 2) 55 [some (.ref (t)), some (.ref (sS i + 1)), some (.int (a2_4)), some (.int (a3_4)), none] [] = some (60, [some (.ref (t)), some (.ref (sS i + 1)), some (.int (a2_4)), some (.int (a3_4)), none], [.int (nI 1)]) from rfl) ?_
          exact (hj60 (nI 1) V_52 h)
      refine AE.ic K 51 (am_at eX7_firstPathOut 28 rfl) (by decide) rfl h (fun h => ?_) (fun h => ?_)
      · refine AE.run K eX7_firstPathOut 31 1 (show am_run 5 ((tX7_firstPathOut.drop 31).take 1) 51 [some (.ref (t)), some (.ref (sS i + 1)), some (.int (a2_4)), some (.int (a3_4)), none] [.int (bs0_32)] = some (52, [some (.ref (t)), some (.ref (sS i + 1)), some (.int (a2_4)), some (.int (a3_4)), none], [.int (nI 0), .int (bs0_32)]) from rfl) ?_
        exact (hj52 (nI 0) V_32 h)
      · refine AE.run K eX7_firstPathOut 29 2 (show am_run 5 ((tX7_firstPathOut.drop 29).take 2) 47 [some (.ref (t)), some (.ref (sS i + 1)), some (.int (a2_4)), some (.int (a3_4)), none] [.int (bs0_32)] = some (52, [some (.ref (t)), some (.ref (sS i + 1)), some (.int (a2_4)), some (.int (a3_4)), none], [.int (nI 1), .int (bs0_32)]) from rfl) ?_
        exact (hj52 (nI 1) V_32 h)
    refine AE.ic K 31 (am_at eX7_firstPathOut 16 rfl) (by decide) rfl h (fun h => ?_) (fun h => ?_)
    · refine AE.run K eX7_firstPathOut 19 1 (show am_run 5 ((tX7_firstPathOut.drop 19).take 1) 31 [some (.ref (t)), some (.ref (sS i + 1)), some (.int (a2_4)), some (.int (a3_4)), none] [] = some (32, [some (.ref (t)), some (.ref (sS i + 1)), some (.int (a2_4)), some (.int (a3_4)), none], [.int (nI 0)]) from rfl) ?_
      exact (hj32 (nI 0) V_4 h)
    · refine AE.run K eX7_firstPathOut 17 2 (show am_run 5 ((tX7_firstPathOut.drop 17).take 2) 27 [some (.ref (t)), some (.ref (sS i + 1)), some (.int (a2_4)), some (.int (a3_4)), none] [] = some (32, [some (.ref (t)), some (.ref (sS i + 1)), some (.int (a2_4)), some (.int (a3_4)), none], [.int (nI 1)]) from rfl) ?_
      exact (hj32 (nI 1) V_4 h)
theorem lk_X7_firstPathOut_4 {U : am_U} {l : Launch} (B : am_base xx U) (hfl : l.stackTraces = false) {G : am_G} (K : aK U l G RX7 cX7_firstPathOut 5 (some .int) 1 0 21) (hex : am_nx G) {r : (Option Value ⊕ String) × am_V} {t : Nat} {i : Nat} (ht : t = 20 ∨ t = 30) (hi : i < 12) {kc : Nat} (hkc : kc ≤ 0) {kx : Int32 → Int32 → am_V → am_R} (hx : ∀ (a2_4 : Int32) (a3_4 : Int32) (Vq : am_V), kx a2_4 a3_4 Vq = some r → AE U G 5 1 0 21 r kc Vq 103 [none, none, some (.int (a2_4)), none, none] []) : ∀ (f9 : Nat) (a2_4 : Int32) (a3_4 : Int32) (Vq : am_V), lp_X7_firstPathOut_4 t i kx f9 a2_4 a3_4 Vq = some r → AE U G 5 1 0 21 r kc Vq 4 [some (.ref (t)), some (.ref (sS i + 1)), some (.int (a2_4)), some (.int (a3_4)), none] [] := by
  intro f9
  induction f9 with
  | zero =>
    intro a2_4 a3_4 Vq h
    cases h
  | succ f9 ih =>
    intro a2_4 a3_4 Vq h
    exact bk_X7_firstPathOut_4 B hfl K hex ht hi hkc hx ih a2_4 a3_4 Vq h
set_option maxRecDepth 100000 in
set_option maxHeartbeats 4000000 in
theorem kX7_firstPathOut {U : am_U} {l : Launch} (B : am_base xx U) (hfl : l.stackTraces = false) {V : am_V} {t : Nat} {i : Nat} (ht : t = 20 ∨ t = 30) (hi : i < 12) {r : (Option Value ⊕ String) × am_V} (h : d_X7_firstPathOut t i V = some r) : am_Ct xx U l yX7_firstPathOut cX7_firstPathOut 5 (some .int) (rk 1 0 21) [.ref (t), .ref (sS i + 1)] V (am_is r.1 r.2) := by
  refine am_Ct.of B hfl (by decide) (Nat.le_of_ble_eq_true rfl) ?_
  intro G hgl hgR hr ok h0 hex
  have K : aK U l G RX7 cX7_firstPathOut 5 (some .int) 1 0 21 := ⟨hgl, hgR, hr, ok, h0⟩
  unfold d_X7_firstPathOut at h
  show AE U G 5 1 0 21 r 0 V 0 [some (.ref (t)), some (.ref (sS i + 1)), none, none, none] []
  refine AE.run K eX7_firstPathOut 0 4 (show am_run 5 ((tX7_firstPathOut.drop 0).take 4) 0 [some (.ref (t)), some (.ref (sS i + 1)), none, none, none] [] = some (4, [some (.ref (t)), some (.ref (sS i + 1)), some (.int (-1)), some (.int (nI 0)), none], []) from rfl) ?_
  refine AE.sub (L' := [some (.ref (t)), some (.ref (sS i + 1)), some (.int (-1)), some (.int (nI 0)), none]) (And.intro rfl (And.intro rfl (And.intro rfl (And.intro rfl trivial)))) ?_
  refine lk_X7_firstPathOut_4 B hfl K hex ht hi (by omega) ?_ 1000 (-1) (nI 0) V h
  intro a2_4 a3_4 V_4x h
  refine AE.run K eX7_firstPathOut 59 1 (show am_run 5 ((tX7_firstPathOut.drop 59).take 1) 103 [none, none, some (.int (a2_4)), none, none] [] = some (104, [none, none, some (.int (a2_4)), none, none], [.int (a2_4)]) from rfl) ?_
  exact AE.iret K (by omega) (am_at eX7_firstPathOut 60 rfl) h
def d_X7_attach (t : Nat) (i : Nat) (x2 : Int32) (V : am_V) : am_R := rG (am_in x2 16) (rG (am_in (V (sS i + 6) (iN x2)) 9) (rB (fun (bs0_20 : Int32) (V_20 : am_V) => rB (fun (bs0_40 : Int32) (V_40 : am_V) => rB (fun (bs0_61 : Int32) (V_61 : am_V) => rG (am_in bs0_61 9) (rV (am_set V_61 (t + 1) (iN bs0_61) bs0_40) (fun (V1 : am_V) => rG (am_in bs0_61 9) (rV (am_set V1 (t + 2) (iN bs0_61) x2) (fun (V2 : am_V) => rG (am_in bs0_40 9) (rG (am_in bs0_61 9) (rV (am_set V2 (t + 3) (iN bs0_61) ((V2 (t + 3) (iN bs0_40)) + (nI 1))) (fun (V3 : am_V) => rG (am_in bs0_40 9) (rI (d_X6_dangerOf i x2 bs0_61 V3) (fun (y5 : Int32) (V4 : am_V) => rG (am_n32 (FP.fdiv (FP.i2f ((nI 10) - y5)) ((1092616192 : UInt32)))) (rG (am_n32 (FP.fmul ((V3 (t + 4) (iN bs0_40)).toUInt32) (FP.fdiv (FP.i2f ((nI 10) - y5)) ((1092616192 : UInt32))))) (rG (am_in bs0_61 9) (rV (am_set V4 (t + 4) (iN bs0_61) (FP.fmul ((V3 (t + 4) (iN bs0_40)).toUInt32) (FP.fdiv (FP.i2f ((nI 10) - y5)) ((1092616192 : UInt32)))).toInt32) (fun (V6 : am_V) => some (.inl none, V6))))))))))))))) (fun (j61 : Int32 → am_V → am_R) => (if bs0_20 = 0 then rG (am_in x2 16) (j61 (V_40 (sS i + 5) (iN x2)) V_40) else rG (am_in x2 16) (j61 (V_40 (sS i + 6) (iN x2)) V_40)))) (fun (j40 : Int32 → am_V → am_R) => (if bs0_20 = 0 then rG (am_in x2 16) (j40 (V_20 (sS i + 6) (iN x2)) V_20) else rG (am_in x2 16) (j40 (V_20 (sS i + 5) (iN x2)) V_20)))) (fun (j20 : Int32 → am_V → am_R) => (if ¬ (V (t + 3) (iN (V (sS i + 6) (iN x2)))) = (-1) then j20 (nI 0) V else j20 (nI 1) V))))
set_option maxRecDepth 100000 in
set_option maxHeartbeats 4000000 in
theorem kX7_attach {U : am_U} {l : Launch} (B : am_base xx U) (hfl : l.stackTraces = false) {V : am_V} {t : Nat} {i : Nat} {x2 : Int32} (ht : t = 20 ∨ t = 30) (hi : i < 12) {r : (Option Value ⊕ String) × am_V} (h : d_X7_attach t i x2 V = some r) : am_Ct xx U l yX7_attach cX7_attach 6 none (rk 1 0 22) [.ref (t), .ref (sS i + 1), .int (x2)] V (am_is r.1 r.2) := by
  refine am_Ct.of B hfl (by decide) (Nat.le_of_ble_eq_true rfl) ?_
  intro G hgl hgR hr ok h0 hex
  have K : aK U l G RX7 cX7_attach 6 none 1 0 22 := ⟨hgl, hgR, hr, ok, h0⟩
  unfold d_X7_attach at h
  show AE U G 6 1 0 22 r 0 V 0 [some (.ref (t)), some (.ref (sS i + 1)), some (.int (x2)), none, none, none] []
  refine AE.run K eX7_attach 0 1 (show am_run 6 ((tX7_attach.drop 0).take 1) 0 [some (.ref (t)), some (.ref (sS i + 1)), some (.int (x2)), none, none, none] [] = some (1, [some (.ref (t)), some (.ref (sS i + 1)), some (.int (x2)), none, none, none], [.ref (t)]) from rfl) ?_
  refine AE.getR K gf_X7_18 (sh_T0 ht) rfl (am_at eX7_attach 1 rfl) ?_
  refine AE.run K eX7_attach 2 1 (show am_run 6 ((tX7_attach.drop 2).take 1) 4 [some (.ref (t)), some (.ref (sS i + 1)), some (.int (x2)), none, none, none] [.ref (t + 3)] = some (5, [some (.ref (t)), some (.ref (sS i + 1)), some (.int (x2)), none, none, none], [.ref (sS i + 1), .ref (t + 3)]) from rfl) ?_
  refine AE.getR K gf_X7_48 (sh_S1 hi) rfl (am_at eX7_attach 3 rfl) ?_
  refine AE.run K eX7_attach 4 1 (show am_run 6 ((tX7_attach.drop 4).take 1) 8 [some (.ref (t)), some (.ref (sS i + 1)), some (.int (x2)), none, none, none] [.ref (sS i + 6), .ref (t + 3)] = some (9, [some (.ref (t)), some (.ref (sS i + 1)), some (.int (x2)), none, none, none], [.int (x2), .ref (sS i + 6), .ref (t + 3)]) from rfl) ?_
  refine AE.iald K (sh_S6 hi) (am_at eX7_attach 5 rfl) h (fun h => ?_)
  refine AE.iald K (sh_T3 ht) (am_at eX7_attach 6 rfl) h (fun h => ?_)
  refine AE.run K eX7_attach 7 1 (show am_run 6 ((tX7_attach.drop 7).take 1) 11 [some (.ref (t)), some (.ref (sS i + 1)), some (.int (x2)), none, none, none] [.int (V (t + 3) (iN (V (sS i + 6) (iN x2))))] = some (12, [some (.ref (t)), some (.ref (sS i + 1)), some (.int (x2)), none, none, none], [.int (-1), .int (V (t + 3) (iN (V (sS i + 6) (iN x2))))]) from rfl) ?_
  refine rB_of (P := fun (j : Int32 → am_V → am_R) => ∀ (bs0_20 : Int32) (V_20 : am_V), j bs0_20 V_20 = some r → AE U G 6 1 0 22 r 0 V_20 20 [some (.ref (t)), some (.ref (sS i + 1)), some (.int (x2)), none, none, none] [.int (bs0_20)]) h (fun bs0_20 V_20 h => ?_) (fun j20 hj20 h => ?_)
  · refine AE.run K eX7_attach 12 2 (show am_run 6 ((tX7_attach.drop 12).take 2) 20 [some (.ref (t)), some (.ref (sS i + 1)), some (.int (x2)), none, none, none] [.int (bs0_20)] = some (22, [some (.ref (t)), some (.ref (sS i + 1)), some (.int (x2)), some (.int (bs0_20)), none, none], [.int (bs0_20)]) from rfl) ?_
    refine rB_of (P := fun (j : Int32 → am_V → am_R) => ∀ (bs0_40 : Int32) (V_40 : am_V), j bs0_40 V_40 = some r → AE U G 6 1 0 22 r 0 V_40 40 [some (.ref (t)), some (.ref (sS i + 1)), some (.int (x2)), some (.int (bs0_20)), none, none] [.int (bs0_40)]) h (fun bs0_40 V_40 h => ?_) (fun j40 hj40 h => ?_)
    · refine AE.run K eX7_attach 24 2 (show am_run 6 ((tX7_attach.drop 24).take 2) 40 [some (.ref (t)), some (.ref (sS i + 1)), some (.int (x2)), some (.int (bs0_20)), none, none] [.int (bs0_40)] = some (43, [some (.ref (t)), some (.ref (sS i + 1)), some (.int (x2)), some (.int (bs0_20)), some (.int (bs0_40)), none], [.int (bs0_20)]) from rfl) ?_
      refine rB_of (P := fun (j : Int32 → am_V → am_R) => ∀ (bs0_61 : Int32) (V_61 : am_V), j bs0_61 V_61 = some r → AE U G 6 1 0 22 r 0 V_61 61 [some (.ref (t)), some (.ref (sS i + 1)), some (.int (x2)), none, some (.int (bs0_40)), none] [.int (bs0_61)]) h (fun bs0_61 V_61 h => ?_) (fun j61 hj61 h => ?_)
      · refine AE.run K eX7_attach 36 2 (show am_run 6 ((tX7_attach.drop 36).take 2) 61 [some (.ref (t)), some (.ref (sS i + 1)), some (.int (x2)), none, some (.int (bs0_40)), none] [.int (bs0_61)] = some (64, [some (.ref (t)), some (.ref (sS i + 1)), some (.int (x2)), none, some (.int (bs0_40)), some (.int (bs0_61))], [.ref (t)]) from rfl) ?_
        refine AE.getR K gf_X7_9 (sh_T0 ht) rfl (am_at eX7_attach 38 rfl) ?_
        refine AE.run K eX7_attach 39 2 (show am_run 6 ((tX7_attach.drop 39).take 2) 67 [some (.ref (t)), some (.ref (sS i + 1)), some (.int (x2)), none, some (.int (bs0_40)), some (.int (bs0_61))] [.ref (t + 1)] = some (71, [some (.ref (t)), some (.ref (sS i + 1)), some (.int (x2)), none, some (.int (bs0_40)), some (.int (bs0_61))], [.int (bs0_40), .int (bs0_61), .ref (t + 1)]) from rfl) ?_
        refine AE.iast K (sh_T1 ht) (wr_T1 ht) (am_at eX7_attach 41 rfl) h (fun V1 h => ?_)
        refine AE.run K eX7_attach 42 1 (show am_run 6 ((tX7_attach.drop 42).take 1) 72 [some (.ref (t)), some (.ref (sS i + 1)), some (.int (x2)), none, some (.int (bs0_40)), some (.int (bs0_61))] [] = some (73, [some (.ref (t)), some (.ref (sS i + 1)), some (.int (x2)), none, some (.int (bs0_40)), some (.int (bs0_61))], [.ref (t)]) from rfl) ?_
        refine AE.getR K gf_X7_15 (sh_T0 ht) rfl (am_at eX7_attach 43 rfl) ?_
        refine AE.run K eX7_attach 44 2 (show am_run 6 ((tX7_attach.drop 44).take 2) 76 [some (.ref (t)), some (.ref (sS i + 1)), some (.int (x2)), none, some (.int (bs0_40)), some (.int (bs0_61))] [.ref (t + 2)] = some (79, [some (.ref (t)), some (.ref (sS i + 1)), some (.int (x2)), none, some (.int (bs0_40)), some (.int (bs0_61))], [.int (x2), .int (bs0_61), .ref (t + 2)]) from rfl) ?_
        refine AE.iast K (sh_T2 ht) (wr_T2 ht) (am_at eX7_attach 46 rfl) h (fun V2 h => ?_)
        refine AE.run K eX7_attach 47 1 (show am_run 6 ((tX7_attach.drop 47).take 1) 80 [some (.ref (t)), some (.ref (sS i + 1)), some (.int (x2)), none, some (.int (bs0_40)), some (.int (bs0_61))] [] = some (81, [some (.ref (t)), some (.ref (sS i + 1)), some (.int (x2)), none, some (.int (bs0_40)), some (.int (bs0_61))], [.ref (t)]) from rfl) ?_
        refine AE.getR K gf_X7_18 (sh_T0 ht) rfl (am_at eX7_attach 48 rfl) ?_
        refine AE.run K eX7_attach 49 2 (show am_run 6 ((tX7_attach.drop 49).take 2) 84 [some (.ref (t)), some (.ref (sS i + 1)), some (.int (x2)), none, some (.int (bs0_40)), some (.int (bs0_61))] [.ref (t + 3)] = some (87, [some (.ref (t)), some (.ref (sS i + 1)), some (.int (x2)), none, some (.int (bs0_40)), some (.int (bs0_61))], [.ref (t), .int (bs0_61), .ref (t + 3)]) from rfl) ?_
        refine AE.getR K gf_X7_18 (sh_T0 ht) rfl (am_at eX7_attach 51 rfl) ?_
        refine AE.run K eX7_attach 52 1 (show am_run 6 ((tX7_attach.drop 52).take 1) 90 [some (.ref (t)), some (.ref (sS i + 1)), some (.int (x2)), none, some (.int (bs0_40)), some (.int (bs0_61))] [.ref (t + 3), .int (bs0_61), .ref (t + 3)] = some (92, [some (.ref (t)), some (.ref (sS i + 1)), some (.int (x2)), none, some (.int (bs0_40)), some (.int (bs0_61))], [.int (bs0_40), .ref (t + 3), .int (bs0_61), .ref (t + 3)]) from rfl) ?_
        refine AE.iald K (sh_T3 ht) (am_at eX7_attach 53 rfl) h (fun h => ?_)
        refine AE.run K eX7_attach 54 2 (show am_run 6 ((tX7_attach.drop 54).take 2) 93 [some (.ref (t)), some (.ref (sS i + 1)), some (.int (x2)), none, some (.int (bs0_40)), some (.int (bs0_61))] [.int (V2 (t + 3) (iN bs0_40)), .int (bs0_61), .ref (t + 3)] = some (95, [some (.ref (t)), some (.ref (sS i + 1)), some (.int (x2)), none, some (.int (bs0_40)), some (.int (bs0_61))], [.int ((V2 (t + 3) (iN bs0_40)) + (nI 1)), .int (bs0_61), .ref (t + 3)]) from rfl) ?_
        refine AE.iast K (sh_T3 ht) (wr_T3 ht) (am_at eX7_attach 56 rfl) h (fun V3 h => ?_)
        refine AE.run K eX7_attach 57 1 (show am_run 6 ((tX7_attach.drop 57).take 1) 96 [some (.ref (t)), some (.ref (sS i + 1)), some (.int (x2)), none, some (.int (bs0_40)), some (.int (bs0_61))] [] = some (97, [some (.ref (t)), some (.ref (sS i + 1)), some (.int (x2)), none, some (.int (bs0_40)), some (.int (bs0_61))], [.ref (t)]) from rfl) ?_
        refine AE.getR K gf_X7_21 (sh_T0 ht) rfl (am_at eX7_attach 58 rfl) ?_
        refine AE.run K eX7_attach 59 2 (show am_run 6 ((tX7_attach.drop 59).take 2) 100 [some (.ref (t)), some (.ref (sS i + 1)), some (.int (x2)), none, some (.int (bs0_40)), some (.int (bs0_61))] [.ref (t + 4)] = some (103, [some (.ref (t)), some (.ref (sS i + 1)), some (.int (x2)), none, some (.int (bs0_40)), some (.int (bs0_61))], [.ref (t), .int (bs0_61), .ref (t + 4)]) from rfl) ?_
        refine AE.getR K gf_X7_21 (sh_T0 ht) rfl (am_at eX7_attach 61 rfl) ?_
        refine AE.run K eX7_attach 62 1 (show am_run 6 ((tX7_attach.drop 62).take 1) 106 [some (.ref (t)), some (.ref (sS i + 1)), some (.int (x2)), none, some (.int (bs0_40)), some (.int (bs0_61))] [.ref (t + 4), .int (bs0_61), .ref (t + 4)] = some (108, [some (.ref (t)), some (.ref (sS i + 1)), some (.int (x2)), none, some (.int (bs0_40)), some (.int (bs0_61))], [.int (bs0_40), .ref (t + 4), .int (bs0_61), .ref (t + 4)]) from rfl) ?_
        refine AE.fald K (sh_T4 ht) (am_at eX7_attach 63 rfl) h (fun h => ?_)
        refine AE.run K eX7_attach 64 4 (show am_run 6 ((tX7_attach.drop 64).take 4) 109 [some (.ref (t)), some (.ref (sS i + 1)), some (.int (x2)), none, some (.int (bs0_40)), some (.int (bs0_61))] [.float ((V3 (t + 4) (iN bs0_40)).toUInt32), .int (bs0_61), .ref (t + 4)] = some (115, [some (.ref (t)), some (.ref (sS i + 1)), some (.int (x2)), none, some (.int (bs0_40)), some (.int (bs0_61))], [.int (bs0_61), .int (x2), .ref (sS i + 1), .int (nI 10), .float ((V3 (t + 4) (iN bs0_40)).toUInt32), .int (bs0_61), .ref (t + 4)]) from rfl) ?_
        refine AE.cv (f' := 0) (c' := 0) (lo' := 0) (st := [.int (nI 10), .float ((V3 (t + 4) (iN bs0_40)).toUInt32), .int (bs0_61), .ref (t + 4)]) (As := [.int (x2), .int (bs0_61)]) (m := d_X6_dangerOf i x2 bs0_61 V3) K hex (fun q hq => kX6_dangerOf B hfl (i := i) hi hq) cv_X7_58 (sh_S1 hi) (T := TX6) (N := 8) rfl rfl rfl (Nat.le_of_ble_eq_true rfl) ⟨Nat.le_of_ble_eq_true rfl, Nat.le_of_ble_eq_true rfl⟩ (by omega) (am_at eX7_attach 68 rfl) h (rI_some h) (bkI (fun y5 V4 h => ?_))
        refine AE.run K eX7_attach 69 2 (show am_run 6 ((tX7_attach.drop 69).take 2) 118 [some (.ref (t)), some (.ref (sS i + 1)), some (.int (x2)), none, some (.int (bs0_40)), some (.int (bs0_61))] [.int (y5), .int (nI 10), .float ((V3 (t + 4) (iN bs0_40)).toUInt32), .int (bs0_61), .ref (t + 4)] = some (120, [some (.ref (t)), some (.ref (sS i + 1)), some (.int (x2)), none, some (.int (bs0_40)), some (.int (bs0_61))], [.float (FP.i2f ((nI 10) - y5)), .float ((V3 (t + 4) (iN bs0_40)).toUInt32), .int (bs0_61), .ref (t + 4)]) from rfl) ?_
        refine AE.ldcF (index := 62) (v := 1092616192) K (x_in 838 (by decide +kernel)) (am_at eX7_attach 71 rfl) ?_
        refine AE.fdiv K (am_at eX7_attach 72 rfl) h (fun h => ?_)
        refine AE.fmul K (am_at eX7_attach 73 rfl) h (fun h => ?_)
        refine AE.fast K (sh_T4 ht) (wr_T4 ht) (am_at eX7_attach 74 rfl) h (fun V6 h => ?_)
        exact AE.vret K (by omega) (am_at eX7_attach 75 rfl) h
      refine AE.if0 K 55 (am_at eX7_attach 26 rfl) (by decide) rfl h (fun h => ?_) (fun h => ?_)
      · refine AE.run K eX7_attach 32 1 (show am_run 6 ((tX7_attach.drop 32).take 1) 55 [some (.ref (t)), some (.ref (sS i + 1)), some (.int (x2)), some (.int (bs0_20)), some (.int (bs0_40)), none] [] = some (56, [some (.ref (t)), some (.ref (sS i + 1)), some (.int (x2)), some (.int (bs0_20)), some (.int (bs0_40)), none], [.ref (sS i + 1)]) from rfl) ?_
        refine AE.getR K gf_X7_45 (sh_S1 hi) rfl (am_at eX7_attach 33 rfl) ?_
        refine AE.run K eX7_attach 34 1 (show am_run 6 ((tX7_attach.drop 34).take 1) 59 [some (.ref (t)), some (.ref (sS i + 1)), some (.int (x2)), some (.int (bs0_20)), some (.int (bs0_40)), none] [.ref (sS i + 5)] = some (60, [some (.ref (t)), some (.ref (sS i + 1)), some (.int (x2)), some (.int (bs0_20)), some (.int (bs0_40)), none], [.int (x2), .ref (sS i + 5)]) from rfl) ?_
        refine AE.iald K (sh_S5 hi) (am_at eX7_attach 35 rfl) h (fun h => ?_)
        exact AE.sub (L' := [some (.ref (t)), some (.ref (sS i + 1)), some (.int (x2)), none, some (.int (bs0_40)), none]) (And.intro rfl (And.intro rfl (And.intro rfl (And.intro rfl trivial)))) (hj61 (V_40 (sS i + 5) (iN x2)) V_40 h)
      · refine AE.run K eX7_attach 27 1 (show am_run 6 ((tX7_attach.drop 27).take 1) 46 [some (.ref (t)), some (.ref (sS i + 1)), some (.int (x2)), some (.int (bs0_20)), some (.int (bs0_40)), none] [] = some (47, [some (.ref (t)), some (.ref (sS i + 1)), some (.int (x2)), some (.int (bs0_20)), some (.int (bs0_40)), none], [.ref (sS i + 1)]) from rfl) ?_
        refine AE.getR K gf_X7_48 (sh_S1 hi) rfl (am_at eX7_attach 28 rfl) ?_
        refine AE.run K eX7_attach 29 1 (show am_run 6 ((tX7_attach.drop 29).take 1) 50 [some (.ref (t)), some (.ref (sS i + 1)), some (.int (x2)), some (.int (bs0_20)), some (.int (bs0_40)), none] [.ref (sS i + 6)] = some (51, [some (.ref (t)), some (.ref (sS i + 1)), some (.int (x2)), some (.int (bs0_20)), some (.int (bs0_40)), none], [.int (x2), .ref (sS i + 6)]) from rfl) ?_
        refine AE.iald K (sh_S6 hi) (am_at eX7_attach 30 rfl) h (fun h => ?_)
        refine AE.run K eX7_attach 31 1 (show am_run 6 ((tX7_attach.drop 31).take 1) 52 [some (.ref (t)), some (.ref (sS i + 1)), some (.int (x2)), some (.int (bs0_20)), some (.int (bs0_40)), none] [.int (V_40 (sS i + 6) (iN x2))] = some (61, [some (.ref (t)), some (.ref (sS i + 1)), some (.int (x2)), some (.int (bs0_20)), some (.int (bs0_40)), none], [.int (V_40 (sS i + 6) (iN x2))]) from rfl) ?_
        exact AE.sub (L' := [some (.ref (t)), some (.ref (sS i + 1)), some (.int (x2)), none, some (.int (bs0_40)), none]) (And.intro rfl (And.intro rfl (And.intro rfl (And.intro rfl trivial)))) (hj61 (V_40 (sS i + 6) (iN x2)) V_40 h)
    refine AE.if0 K 34 (am_at eX7_attach 14 rfl) (by decide) rfl h (fun h => ?_) (fun h => ?_)
    · refine AE.run K eX7_attach 20 1 (show am_run 6 ((tX7_attach.drop 20).take 1) 34 [some (.ref (t)), some (.ref (sS i + 1)), some (.int (x2)), some (.int (bs0_20)), none, none] [] = some (35, [some (.ref (t)), some (.ref (sS i + 1)), some (.int (x2)), some (.int (bs0_20)), none, none], [.ref (sS i + 1)]) from rfl) ?_
      refine AE.getR K gf_X7_48 (sh_S1 hi) rfl (am_at eX7_attach 21 rfl) ?_
      refine AE.run K eX7_attach 22 1 (show am_run 6 ((tX7_attach.drop 22).take 1) 38 [some (.ref (t)), some (.ref (sS i + 1)), some (.int (x2)), some (.int (bs0_20)), none, none] [.ref (sS i + 6)] = some (39, [some (.ref (t)), some (.ref (sS i + 1)), some (.int (x2)), some (.int (bs0_20)), none, none], [.int (x2), .ref (sS i + 6)]) from rfl) ?_
      refine AE.iald K (sh_S6 hi) (am_at eX7_attach 23 rfl) h (fun h => ?_)
      exact (hj40 (V_20 (sS i + 6) (iN x2)) V_20 h)
    · refine AE.run K eX7_attach 15 1 (show am_run 6 ((tX7_attach.drop 15).take 1) 25 [some (.ref (t)), some (.ref (sS i + 1)), some (.int (x2)), some (.int (bs0_20)), none, none] [] = some (26, [some (.ref (t)), some (.ref (sS i + 1)), some (.int (x2)), some (.int (bs0_20)), none, none], [.ref (sS i + 1)]) from rfl) ?_
      refine AE.getR K gf_X7_45 (sh_S1 hi) rfl (am_at eX7_attach 16 rfl) ?_
      refine AE.run K eX7_attach 17 1 (show am_run 6 ((tX7_attach.drop 17).take 1) 29 [some (.ref (t)), some (.ref (sS i + 1)), some (.int (x2)), some (.int (bs0_20)), none, none] [.ref (sS i + 5)] = some (30, [some (.ref (t)), some (.ref (sS i + 1)), some (.int (x2)), some (.int (bs0_20)), none, none], [.int (x2), .ref (sS i + 5)]) from rfl) ?_
      refine AE.iald K (sh_S5 hi) (am_at eX7_attach 18 rfl) h (fun h => ?_)
      refine AE.run K eX7_attach 19 1 (show am_run 6 ((tX7_attach.drop 19).take 1) 31 [some (.ref (t)), some (.ref (sS i + 1)), some (.int (x2)), some (.int (bs0_20)), none, none] [.int (V_20 (sS i + 5) (iN x2))] = some (40, [some (.ref (t)), some (.ref (sS i + 1)), some (.int (x2)), some (.int (bs0_20)), none, none], [.int (V_20 (sS i + 5) (iN x2))]) from rfl) ?_
      exact (hj40 (V_20 (sS i + 5) (iN x2)) V_20 h)
  refine AE.ic K 19 (am_at eX7_attach 8 rfl) (by decide) rfl h (fun h => ?_) (fun h => ?_)
  · refine AE.run K eX7_attach 11 1 (show am_run 6 ((tX7_attach.drop 11).take 1) 19 [some (.ref (t)), some (.ref (sS i + 1)), some (.int (x2)), none, none, none] [] = some (20, [some (.ref (t)), some (.ref (sS i + 1)), some (.int (x2)), none, none, none], [.int (nI 0)]) from rfl) ?_
    exact (hj20 (nI 0) V h)
  · refine AE.run K eX7_attach 9 2 (show am_run 6 ((tX7_attach.drop 9).take 2) 15 [some (.ref (t)), some (.ref (sS i + 1)), some (.int (x2)), none, none, none] [] = some (20, [some (.ref (t)), some (.ref (sS i + 1)), some (.int (x2)), none, none, none], [.int (nI 1)]) from rfl) ?_
    exact (hj20 (nI 1) V h)
def bd_X7_grow_2 (t : Nat) (i : Nat) (x2 : Int32) (kx kr : Int32 → am_V → am_R) (a3_2 : Int32) (V_2 : am_V) : am_R := (if (nI 9) ≤ a3_2 then kx a3_2 V_2 else rG (am_in a3_2 9) (rV (am_set V_2 (t + 1) (iN a3_2) (-1)) (fun (V1 : am_V) => rG (am_in a3_2 9) (rV (am_set V1 (t + 2) (iN a3_2) (-1)) (fun (V2 : am_V) => rB (fun (bs0_37 : Int32) (V_37 : am_V) => rG (am_in a3_2 9) (rV (am_set V_37 (t + 3) (iN a3_2) bs0_37) (fun (V3 : am_V) => rB (fun (bs0_53 : UInt32) (V_53 : am_V) => rG (am_in a3_2 9) (rV (am_set V_53 (t + 4) (iN a3_2) bs0_53.toInt32) (fun (V4 : am_V) => kr (a3_2 + nI 1) V4))) (fun (j53 : UInt32 → am_V → am_R) => (if ¬ a3_2 = x2 then j53 FP.fconst0 V3 else j53 FP.fconst1 V3))))) (fun (j37 : Int32 → am_V → am_R) => (if ¬ a3_2 = x2 then j37 (-1) V2 else j37 (nI 0) V2)))))))
def lp_X7_grow_2 (t : Nat) (i : Nat) (x2 : Int32) (kx : Int32 → am_V → am_R) : Nat → Int32 → am_V → am_R
  | 0, _, _ => none
  | f9 + 1, a3_2, V_2 => bd_X7_grow_2 t i x2 kx (lp_X7_grow_2 t i x2 kx f9) a3_2 V_2
def bd_X7_grow_62 (t : Nat) (i : Nat) (kx kr : Int32 → am_V → am_R) (a3_62 : Int32) (V_62 : am_V) : am_R := (if (V_62 (sS i + 1) 6) ≤ a3_62 then kx a3_62 V_62 else rI (d_X7_firstPathOut t i V_62) (fun (y6 : Int32) (V5 : am_V) => rB (fun (V_90 : am_V) => kr (a3_62 + nI 1) V_90) (fun (j90 : am_V → am_R) => (if y6 = (-1) then j90 V5 else rU (d_X7_attach t i y6 V5) (fun (V7 : am_V) => j90 V7)))))
def lp_X7_grow_62 (t : Nat) (i : Nat) (kx : Int32 → am_V → am_R) : Nat → Int32 → am_V → am_R
  | 0, _, _ => none
  | f9 + 1, a3_62, V_62 => bd_X7_grow_62 t i kx (lp_X7_grow_62 t i kx f9) a3_62 V_62
def d_X7_grow (t : Nat) (i : Nat) (x2 : Int32) (V : am_V) : am_R := lp_X7_grow_2 t i x2 (fun (a3_2 : Int32) (V_2x : am_V) => lp_X7_grow_62 t i (fun (a3_62 : Int32) (V_62x : am_V) => some (.inl none, V_62x)) 1000 (nI 1) V_2x) 1000 (nI 0) V
set_option maxRecDepth 100000 in
set_option maxHeartbeats 4000000 in
theorem bk_X7_grow_2 {U : am_U} {l : Launch} (B : am_base xx U) (hfl : l.stackTraces = false) {G : am_G} (K : aK U l G RX7 cX7_grow 5 none 2 0 47) (hex : am_nx G) {r : (Option Value ⊕ String) × am_V} {t : Nat} {i : Nat} {x2 : Int32} (ht : t = 20 ∨ t = 30) (hi : i < 12) {kc : Nat} (hkc : kc ≤ 0) {kx kr : Int32 → am_V → am_R} (hx : ∀ (a3_2 : Int32) (Vq : am_V), kx a3_2 Vq = some r → AE U G 5 2 0 47 r kc Vq 60 [some (.ref (t)), some (.ref (sS i + 1)), none, none, none] []) (hr : ∀ (a3_2 : Int32) (Vq : am_V), kr a3_2 Vq = some r → AE U G 5 2 0 47 r kc Vq 2 [some (.ref (t)), some (.ref (sS i + 1)), some (.int (x2)), some (.int (a3_2)), none] []) (a3_2 : Int32) (V_2 : am_V) (h : bd_X7_grow_2 t i x2 kx kr a3_2 V_2 = some r) : AE U G 5 2 0 47 r kc V_2 2 [some (.ref (t)), some (.ref (sS i + 1)), some (.int (x2)), some (.int (a3_2)), none] [] := by
  unfold bd_X7_grow_2 at h
  refine AE.run K eX7_grow 2 2 (show am_run 5 ((tX7_grow.drop 2).take 2) 2 [some (.ref (t)), some (.ref (sS i + 1)), some (.int (x2)), some (.int (a3_2)), none] [] = some (5, [some (.ref (t)), some (.ref (sS i + 1)), some (.int (x2)), some (.int (a3_2)), none], [.int (nI 9), .int (a3_2)]) from rfl) ?_
  refine AE.ic K 60 (am_at eX7_grow 4 rfl) (by decide) rfl h (fun h => ?_) (fun h => ?_)
  · exact AE.sub (L' := [some (.ref (t)), some (.ref (sS i + 1)), none, none, none]) (And.intro rfl (And.intro rfl trivial)) (hx a3_2 V_2 h)
  · refine AE.run K eX7_grow 5 1 (show am_run 5 ((tX7_grow.drop 5).take 1) 8 [some (.ref (t)), some (.ref (sS i + 1)), some (.int (x2)), some (.int (a3_2)), none] [] = some (9, [some (.ref (t)), some (.ref (sS i + 1)), some (.int (x2)), some (.int (a3_2)), none], [.ref (t)]) from rfl) ?_
    refine AE.getR K gf_X7_9 (sh_T0 ht) rfl (am_at eX7_grow 6 rfl) ?_
    refine AE.run K eX7_grow 7 2 (show am_run 5 ((tX7_grow.drop 7).take 2) 12 [some (.ref (t)), some (.ref (sS i + 1)), some (.int (x2)), some (.int (a3_2)), none] [.ref (t + 1)] = some (14, [some (.ref (t)), some (.ref (sS i + 1)), some (.int (x2)), some (.int (a3_2)), none], [.int (-1), .int (a3_2), .ref (t + 1)]) from rfl) ?_
    refine AE.iast K (sh_T1 ht) (wr_T1 ht) (am_at eX7_grow 9 rfl) h (fun V1 h => ?_)
    refine AE.run K eX7_grow 10 1 (show am_run 5 ((tX7_grow.drop 10).take 1) 15 [some (.ref (t)), some (.ref (sS i + 1)), some (.int (x2)), some (.int (a3_2)), none] [] = some (16, [some (.ref (t)), some (.ref (sS i + 1)), some (.int (x2)), some (.int (a3_2)), none], [.ref (t)]) from rfl) ?_
    refine AE.getR K gf_X7_15 (sh_T0 ht) rfl (am_at eX7_grow 11 rfl) ?_
    refine AE.run K eX7_grow 12 2 (show am_run 5 ((tX7_grow.drop 12).take 2) 19 [some (.ref (t)), some (.ref (sS i + 1)), some (.int (x2)), some (.int (a3_2)), none] [.ref (t + 2)] = some (21, [some (.ref (t)), some (.ref (sS i + 1)), some (.int (x2)), some (.int (a3_2)), none], [.int (-1), .int (a3_2), .ref (t + 2)]) from rfl) ?_
    refine AE.iast K (sh_T2 ht) (wr_T2 ht) (am_at eX7_grow 14 rfl) h (fun V2 h => ?_)
    refine AE.run K eX7_grow 15 1 (show am_run 5 ((tX7_grow.drop 15).take 1) 22 [some (.ref (t)), some (.ref (sS i + 1)), some (.int (x2)), some (.int (a3_2)), none] [] = some (23, [some (.ref (t)), some (.ref (sS i + 1)), some (.int (x2)), some (.int (a3_2)), none], [.ref (t)]) from rfl) ?_
    refine AE.getR K gf_X7_18 (sh_T0 ht) rfl (am_at eX7_grow 16 rfl) ?_
    refine AE.run K eX7_grow 17 3 (show am_run 5 ((tX7_grow.drop 17).take 3) 26 [some (.ref (t)), some (.ref (sS i + 1)), some (.int (x2)), some (.int (a3_2)), none] [.ref (t + 3)] = some (29, [some (.ref (t)), some (.ref (sS i + 1)), some (.int (x2)), some (.int (a3_2)), none], [.int (x2), .int (a3_2), .int (a3_2), .ref (t + 3)]) from rfl) ?_
    refine rB_of (P := fun (j : Int32 → am_V → am_R) => ∀ (bs0_37 : Int32) (V_37 : am_V), j bs0_37 V_37 = some r → AE U G 5 2 0 47 r (kc) V_37 37 [some (.ref (t)), some (.ref (sS i + 1)), some (.int (x2)), some (.int (a3_2)), none] [.int (bs0_37), .int (a3_2), .ref (t + 3)]) h (fun bs0_37 V_37 h => ?_) (fun j37 hj37 h => ?_)
    · refine AE.iast K (sh_T3 ht) (wr_T3 ht) (am_at eX7_grow 24 rfl) h (fun V3 h => ?_)
      refine AE.run K eX7_grow 25 1 (show am_run 5 ((tX7_grow.drop 25).take 1) 38 [some (.ref (t)), some (.ref (sS i + 1)), some (.int (x2)), some (.int (a3_2)), none] [] = some (39, [some (.ref (t)), some (.ref (sS i + 1)), some (.int (x2)), some (.int (a3_2)), none], [.ref (t)]) from rfl) ?_
      refine AE.getR K gf_X7_21 (sh_T0 ht) rfl (am_at eX7_grow 26 rfl) ?_
      refine AE.run K eX7_grow 27 3 (show am_run 5 ((tX7_grow.drop 27).take 3) 42 [some (.ref (t)), some (.ref (sS i + 1)), some (.int (x2)), some (.int (a3_2)), none] [.ref (t + 4)] = some (45, [some (.ref (t)), some (.ref (sS i + 1)), some (.int (x2)), some (.int (a3_2)), none], [.int (x2), .int (a3_2), .int (a3_2), .ref (t + 4)]) from rfl) ?_
      refine rB_of (P := fun (j : UInt32 → am_V → am_R) => ∀ (bs0_53 : UInt32) (V_53 : am_V), j bs0_53 V_53 = some r → AE U G 5 2 0 47 r (kc) V_53 53 [some (.ref (t)), some (.ref (sS i + 1)), some (.int (x2)), some (.int (a3_2)), none] [.float (bs0_53), .int (a3_2), .ref (t + 4)]) h (fun bs0_53 V_53 h => ?_) (fun j53 hj53 h => ?_)
      · refine AE.fast K (sh_T4 ht) (wr_T4 ht) (am_at eX7_grow 34 rfl) h (fun V4 h => ?_)
        refine AE.run K eX7_grow 35 2 (show am_run 5 ((tX7_grow.drop 35).take 2) 54 [some (.ref (t)), some (.ref (sS i + 1)), some (.int (x2)), some (.int (a3_2)), none] [] = some (2, [some (.ref (t)), some (.ref (sS i + 1)), some (.int (x2)), some (.int (a3_2 + nI 1)), none], []) from rfl) ?_
        exact AE.sub (L' := [some (.ref (t)), some (.ref (sS i + 1)), some (.int (x2)), some (.int (a3_2 + nI 1)), none]) (And.intro rfl (And.intro rfl (And.intro rfl (And.intro rfl trivial)))) (hr (a3_2 + nI 1) V4 h)
      refine AE.ic K 52 (am_at eX7_grow 30 rfl) (by decide) rfl h (fun h => ?_) (fun h => ?_)
      · refine AE.fc0 K (am_at eX7_grow 33 rfl) ?_
        exact (hj53 FP.fconst0 V3 h)
      · refine AE.fc1 K (am_at eX7_grow 31 rfl) ?_
        refine AE.run K eX7_grow 32 1 (show am_run 5 ((tX7_grow.drop 32).take 1) 49 [some (.ref (t)), some (.ref (sS i + 1)), some (.int (x2)), some (.int (a3_2)), none] [.float (FP.fconst1), .int (a3_2), .ref (t + 4)] = some (53, [some (.ref (t)), some (.ref (sS i + 1)), some (.int (x2)), some (.int (a3_2)), none], [.float (FP.fconst1), .int (a3_2), .ref (t + 4)]) from rfl) ?_
        exact (hj53 FP.fconst1 V3 h)
    refine AE.ic K 36 (am_at eX7_grow 20 rfl) (by decide) rfl h (fun h => ?_) (fun h => ?_)
    · refine AE.run K eX7_grow 23 1 (show am_run 5 ((tX7_grow.drop 23).take 1) 36 [some (.ref (t)), some (.ref (sS i + 1)), some (.int (x2)), some (.int (a3_2)), none] [.int (a3_2), .ref (t + 3)] = some (37, [some (.ref (t)), some (.ref (sS i + 1)), some (.int (x2)), some (.int (a3_2)), none], [.int (-1), .int (a3_2), .ref (t + 3)]) from rfl) ?_
      exact (hj37 (-1) V2 h)
    · refine AE.run K eX7_grow 21 2 (show am_run 5 ((tX7_grow.drop 21).take 2) 32 [some (.ref (t)), some (.ref (sS i + 1)), some (.int (x2)), some (.int (a3_2)), none] [.int (a3_2), .ref (t + 3)] = some (37, [some (.ref (t)), some (.ref (sS i + 1)), some (.int (x2)), some (.int (a3_2)), none], [.int (nI 0), .int (a3_2), .ref (t + 3)]) from rfl) ?_
      exact (hj37 (nI 0) V2 h)
theorem lk_X7_grow_2 {U : am_U} {l : Launch} (B : am_base xx U) (hfl : l.stackTraces = false) {G : am_G} (K : aK U l G RX7 cX7_grow 5 none 2 0 47) (hex : am_nx G) {r : (Option Value ⊕ String) × am_V} {t : Nat} {i : Nat} {x2 : Int32} (ht : t = 20 ∨ t = 30) (hi : i < 12) {kc : Nat} (hkc : kc ≤ 0) {kx : Int32 → am_V → am_R} (hx : ∀ (a3_2 : Int32) (Vq : am_V), kx a3_2 Vq = some r → AE U G 5 2 0 47 r kc Vq 60 [some (.ref (t)), some (.ref (sS i + 1)), none, none, none] []) : ∀ (f9 : Nat) (a3_2 : Int32) (Vq : am_V), lp_X7_grow_2 t i x2 kx f9 a3_2 Vq = some r → AE U G 5 2 0 47 r kc Vq 2 [some (.ref (t)), some (.ref (sS i + 1)), some (.int (x2)), some (.int (a3_2)), none] [] := by
  intro f9
  induction f9 with
  | zero =>
    intro a3_2 Vq h
    cases h
  | succ f9 ih =>
    intro a3_2 Vq h
    exact bk_X7_grow_2 B hfl K hex ht hi hkc hx ih a3_2 Vq h
set_option maxRecDepth 100000 in
set_option maxHeartbeats 4000000 in
theorem bk_X7_grow_62 {U : am_U} {l : Launch} (B : am_base xx U) (hfl : l.stackTraces = false) {G : am_G} (K : aK U l G RX7 cX7_grow 5 none 2 0 47) (hex : am_nx G) {r : (Option Value ⊕ String) × am_V} {t : Nat} {i : Nat} (ht : t = 20 ∨ t = 30) (hi : i < 12) {kc : Nat} (hkc : kc ≤ 0) {kx kr : Int32 → am_V → am_R} (hx : ∀ (a3_62 : Int32) (Vq : am_V), kx a3_62 Vq = some r → AE U G 5 2 0 47 r kc Vq 96 [none, none, none, none, none] []) (hr : ∀ (a3_62 : Int32) (Vq : am_V), kr a3_62 Vq = some r → AE U G 5 2 0 47 r kc Vq 62 [some (.ref (t)), some (.ref (sS i + 1)), none, some (.int (a3_62)), none] []) (a3_62 : Int32) (V_62 : am_V) (h : bd_X7_grow_62 t i kx kr a3_62 V_62 = some r) : AE U G 5 2 0 47 r kc V_62 62 [some (.ref (t)), some (.ref (sS i + 1)), none, some (.int (a3_62)), none] [] := by
  unfold bd_X7_grow_62 at h
  refine AE.run K eX7_grow 39 2 (show am_run 5 ((tX7_grow.drop 39).take 2) 62 [some (.ref (t)), some (.ref (sS i + 1)), none, some (.int (a3_62)), none] [] = some (64, [some (.ref (t)), some (.ref (sS i + 1)), none, some (.int (a3_62)), none], [.ref (sS i + 1), .int (a3_62)]) from rfl) ?_
  refine AE.getI K gf_X7_28 (sh_S1 hi) rfl (am_at eX7_grow 41 rfl) ?_
  refine AE.ic K 96 (am_at eX7_grow 42 rfl) (by decide) rfl h (fun h => ?_) (fun h => ?_)
  · exact AE.sub (L' := [none, none, none, none, none]) trivial (hx a3_62 V_62 h)
  · refine AE.run K eX7_grow 43 2 (show am_run 5 ((tX7_grow.drop 43).take 2) 70 [some (.ref (t)), some (.ref (sS i + 1)), none, some (.int (a3_62)), none] [] = some (72, [some (.ref (t)), some (.ref (sS i + 1)), none, some (.int (a3_62)), none], [.ref (sS i + 1), .ref (t)]) from rfl) ?_
    refine AE.cv (f' := 1) (c' := 0) (lo' := 21) (st := []) (As := [.ref (sS i + 1)]) (m := d_X7_firstPathOut t i V_62) K hex (fun q hq => kX7_firstPathOut B hfl (t := t) (i := i) ht hi hq) cv_X7_34 (sh_T0 ht) (T := TX7) (N := 5) rfl rfl rfl (Nat.le_of_ble_eq_true rfl) ⟨Nat.le_of_ble_eq_true rfl, Nat.le_of_ble_eq_true rfl⟩ (by omega) (am_at eX7_grow 45 rfl) h (rI_some h) (bkI (fun y6 V5 h => ?_))
    refine AE.run K eX7_grow 46 3 (show am_run 5 ((tX7_grow.drop 46).take 3) 75 [some (.ref (t)), some (.ref (sS i + 1)), none, some (.int (a3_62)), none] [.int (y6)] = some (80, [some (.ref (t)), some (.ref (sS i + 1)), none, some (.int (a3_62)), some (.int (y6))], [.int (-1), .int (y6)]) from rfl) ?_
    refine rB_of (P := fun (j : am_V → am_R) => ∀ (V_90 : am_V), j V_90 = some r → AE U G 5 2 0 47 r (kc) V_90 90 [some (.ref (t)), some (.ref (sS i + 1)), none, some (.int (a3_62)), none] []) h (fun V_90 h => ?_) (fun j90 hj90 h => ?_)
    · refine AE.run K eX7_grow 54 2 (show am_run 5 ((tX7_grow.drop 54).take 2) 90 [some (.ref (t)), some (.ref (sS i + 1)), none, some (.int (a3_62)), none] [] = some (62, [some (.ref (t)), some (.ref (sS i + 1)), none, some (.int (a3_62 + nI 1)), none], []) from rfl) ?_
      exact AE.sub (L' := [some (.ref (t)), some (.ref (sS i + 1)), none, some (.int (a3_62 + nI 1)), none]) (And.intro rfl (And.intro rfl (And.intro rfl trivial))) (hr (a3_62 + nI 1) V_90 h)
    refine AE.ic K 90 (am_at eX7_grow 49 rfl) (by decide) rfl h (fun h => ?_) (fun h => ?_)
    · exact AE.sub (L' := [some (.ref (t)), some (.ref (sS i + 1)), none, some (.int (a3_62)), none]) (And.intro rfl (And.intro rfl (And.intro rfl trivial))) (hj90  V5 h)
    · refine AE.run K eX7_grow 50 3 (show am_run 5 ((tX7_grow.drop 50).take 3) 83 [some (.ref (t)), some (.ref (sS i + 1)), none, some (.int (a3_62)), some (.int (y6))] [] = some (87, [some (.ref (t)), some (.ref (sS i + 1)), none, some (.int (a3_62)), some (.int (y6))], [.int (y6), .ref (sS i + 1), .ref (t)]) from rfl) ?_
      refine AE.cv (f' := 1) (c' := 0) (lo' := 22) (st := []) (As := [.ref (sS i + 1), .int (y6)]) (m := d_X7_attach t i y6 V5) K hex (fun q hq => kX7_attach B hfl (t := t) (i := i) ht hi hq) cv_X7_38 (sh_T0 ht) (T := TX7) (N := 5) rfl rfl rfl (Nat.le_of_ble_eq_true rfl) ⟨Nat.le_of_ble_eq_true rfl, Nat.le_of_ble_eq_true rfl⟩ (by omega) (am_at eX7_grow 53 rfl) h (rU_some h) (bkU (fun V7 h => ?_))
      exact AE.sub (L' := [some (.ref (t)), some (.ref (sS i + 1)), none, some (.int (a3_62)), none]) (And.intro rfl (And.intro rfl (And.intro rfl trivial))) (hj90  V7 h)
theorem lk_X7_grow_62 {U : am_U} {l : Launch} (B : am_base xx U) (hfl : l.stackTraces = false) {G : am_G} (K : aK U l G RX7 cX7_grow 5 none 2 0 47) (hex : am_nx G) {r : (Option Value ⊕ String) × am_V} {t : Nat} {i : Nat} (ht : t = 20 ∨ t = 30) (hi : i < 12) {kc : Nat} (hkc : kc ≤ 0) {kx : Int32 → am_V → am_R} (hx : ∀ (a3_62 : Int32) (Vq : am_V), kx a3_62 Vq = some r → AE U G 5 2 0 47 r kc Vq 96 [none, none, none, none, none] []) : ∀ (f9 : Nat) (a3_62 : Int32) (Vq : am_V), lp_X7_grow_62 t i kx f9 a3_62 Vq = some r → AE U G 5 2 0 47 r kc Vq 62 [some (.ref (t)), some (.ref (sS i + 1)), none, some (.int (a3_62)), none] [] := by
  intro f9
  induction f9 with
  | zero =>
    intro a3_62 Vq h
    cases h
  | succ f9 ih =>
    intro a3_62 Vq h
    exact bk_X7_grow_62 B hfl K hex ht hi hkc hx ih a3_62 Vq h
set_option maxRecDepth 100000 in
set_option maxHeartbeats 4000000 in
theorem kX7_grow {U : am_U} {l : Launch} (B : am_base xx U) (hfl : l.stackTraces = false) {V : am_V} {t : Nat} {i : Nat} {x2 : Int32} (ht : t = 20 ∨ t = 30) (hi : i < 12) {r : (Option Value ⊕ String) × am_V} (h : d_X7_grow t i x2 V = some r) : am_Ct xx U l yX7_grow cX7_grow 5 none (rk 2 0 47) [.ref (t), .ref (sS i + 1), .int (x2)] V (am_is r.1 r.2) := by
  refine am_Ct.of B hfl (by decide) (Nat.le_of_ble_eq_true rfl) ?_
  intro G hgl hgR hr ok h0 hex
  have K : aK U l G RX7 cX7_grow 5 none 2 0 47 := ⟨hgl, hgR, hr, ok, h0⟩
  unfold d_X7_grow at h
  show AE U G 5 2 0 47 r 0 V 0 [some (.ref (t)), some (.ref (sS i + 1)), some (.int (x2)), none, none] []
  refine AE.run K eX7_grow 0 2 (show am_run 5 ((tX7_grow.drop 0).take 2) 0 [some (.ref (t)), some (.ref (sS i + 1)), some (.int (x2)), none, none] [] = some (2, [some (.ref (t)), some (.ref (sS i + 1)), some (.int (x2)), some (.int (nI 0)), none], []) from rfl) ?_
  refine AE.sub (L' := [some (.ref (t)), some (.ref (sS i + 1)), some (.int (x2)), some (.int (nI 0)), none]) (And.intro rfl (And.intro rfl (And.intro rfl (And.intro rfl trivial)))) ?_
  refine lk_X7_grow_2 B hfl K hex ht hi (by omega) ?_ 1000 (nI 0) V h
  intro a3_2 V_2x h
  refine AE.run K eX7_grow 37 2 (show am_run 5 ((tX7_grow.drop 37).take 2) 60 [some (.ref (t)), some (.ref (sS i + 1)), none, none, none] [] = some (62, [some (.ref (t)), some (.ref (sS i + 1)), none, some (.int (nI 1)), none], []) from rfl) ?_
  refine AE.sub (L' := [some (.ref (t)), some (.ref (sS i + 1)), none, some (.int (nI 1)), none]) (And.intro rfl (And.intro rfl (And.intro rfl trivial))) ?_
  refine lk_X7_grow_62 B hfl K hex ht hi (by omega) ?_ 1000 (nI 1) V_2x h
  intro a3_62 V_62x h
  exact AE.vret K (by omega) (am_at eX7_grow 56 rfl) h
def bd_X7_costGrown_11 (t : Nat) (i : Nat) (kx kr : Int32 → Int32 → am_V → am_R) (a3_11 : Int32) (a4_11 : Int32) (V_11 : am_V) : am_R := (if (V_11 (sS i + 1) 6) ≤ a4_11 then kx a3_11 a4_11 V_11 else rG (am_in a4_11 9) (rB (fun (b3_46 : Int32) (V_46 : am_V) => kr b3_46 (a4_11 + nI 1) V_46) (fun (j46 : Int32 → am_V → am_R) => (if (V_11 (t + 2) (iN a4_11)) = (-1) then j46 a3_11 V_11 else rG (am_in a4_11 9) (rG (am_in (V_11 (t + 2) (iN a4_11)) 16) (j46 (a3_11 + (V_11 (sS i + 7) (iN (V_11 (t + 2) (iN a4_11))))) V_11))))))
def lp_X7_costGrown_11 (t : Nat) (i : Nat) (kx : Int32 → Int32 → am_V → am_R) : Nat → Int32 → Int32 → am_V → am_R
  | 0, _, _, _ => none
  | f9 + 1, a3_11, a4_11, V_11 => bd_X7_costGrown_11 t i kx (lp_X7_costGrown_11 t i kx f9) a3_11 a4_11 V_11
def d_X7_costGrown (t : Nat) (i : Nat) (x2 : Int32) (V : am_V) : am_R := rU (d_X7_grow t i x2 V) (fun (V1 : am_V) => lp_X7_costGrown_11 t i (fun (a3_11 : Int32) (a4_11 : Int32) (V_11x : am_V) => some (.inl (some (.int (a3_11))), V_11x)) 1000 (nI 0) (nI 0) V1)
set_option maxRecDepth 100000 in
set_option maxHeartbeats 4000000 in
theorem bk_X7_costGrown_11 {U : am_U} {l : Launch} (B : am_base xx U) (hfl : l.stackTraces = false) {G : am_G} (K : aK U l G RX7 cX7_costGrown 5 (some .int) 3 0 71) (hex : am_nx G) {r : (Option Value ⊕ String) × am_V} {t : Nat} {i : Nat} (ht : t = 20 ∨ t = 30) (hi : i < 12) {kc : Nat} (hkc : kc ≤ 0) {kx kr : Int32 → Int32 → am_V → am_R} (hx : ∀ (a3_11 : Int32) (a4_11 : Int32) (Vq : am_V), kx a3_11 a4_11 Vq = some r → AE U G 5 3 0 71 r kc Vq 52 [none, none, none, some (.int (a3_11)), none] []) (hr : ∀ (a3_11 : Int32) (a4_11 : Int32) (Vq : am_V), kr a3_11 a4_11 Vq = some r → AE U G 5 3 0 71 r kc Vq 11 [some (.ref (t)), some (.ref (sS i + 1)), none, some (.int (a3_11)), some (.int (a4_11))] []) (a3_11 : Int32) (a4_11 : Int32) (V_11 : am_V) (h : bd_X7_costGrown_11 t i kx kr a3_11 a4_11 V_11 = some r) : AE U G 5 3 0 71 r kc V_11 11 [some (.ref (t)), some (.ref (sS i + 1)), none, some (.int (a3_11)), some (.int (a4_11))] [] := by
  unfold bd_X7_costGrown_11 at h
  refine AE.run K eX7_costGrown 8 2 (show am_run 5 ((tX7_costGrown.drop 8).take 2) 11 [some (.ref (t)), some (.ref (sS i + 1)), none, some (.int (a3_11)), some (.int (a4_11))] [] = some (14, [some (.ref (t)), some (.ref (sS i + 1)), none, some (.int (a3_11)), some (.int (a4_11))], [.ref (sS i + 1), .int (a4_11)]) from rfl) ?_
  refine AE.getI K gf_X7_28 (sh_S1 hi) rfl (am_at eX7_costGrown 10 rfl) ?_
  refine AE.ic K 52 (am_at eX7_costGrown 11 rfl) (by decide) rfl h (fun h => ?_) (fun h => ?_)
  · exact AE.sub (L' := [none, none, none, some (.int (a3_11)), none]) (And.intro rfl trivial) (hx a3_11 a4_11 V_11 h)
  · refine AE.run K eX7_costGrown 12 1 (show am_run 5 ((tX7_costGrown.drop 12).take 1) 20 [some (.ref (t)), some (.ref (sS i + 1)), none, some (.int (a3_11)), some (.int (a4_11))] [] = some (21, [some (.ref (t)), some (.ref (sS i + 1)), none, some (.int (a3_11)), some (.int (a4_11))], [.ref (t)]) from rfl) ?_
    refine AE.getR K gf_X7_15 (sh_T0 ht) rfl (am_at eX7_costGrown 13 rfl) ?_
    refine AE.run K eX7_costGrown 14 1 (show am_run 5 ((tX7_costGrown.drop 14).take 1) 24 [some (.ref (t)), some (.ref (sS i + 1)), none, some (.int (a3_11)), some (.int (a4_11))] [.ref (t + 2)] = some (26, [some (.ref (t)), some (.ref (sS i + 1)), none, some (.int (a3_11)), some (.int (a4_11))], [.int (a4_11), .ref (t + 2)]) from rfl) ?_
    refine AE.iald K (sh_T2 ht) (am_at eX7_costGrown 15 rfl) h (fun h => ?_)
    refine AE.run K eX7_costGrown 16 1 (show am_run 5 ((tX7_costGrown.drop 16).take 1) 27 [some (.ref (t)), some (.ref (sS i + 1)), none, some (.int (a3_11)), some (.int (a4_11))] [.int (V_11 (t + 2) (iN a4_11))] = some (28, [some (.ref (t)), some (.ref (sS i + 1)), none, some (.int (a3_11)), some (.int (a4_11))], [.int (-1), .int (V_11 (t + 2) (iN a4_11))]) from rfl) ?_
    refine rB_of (P := fun (j : Int32 → am_V → am_R) => ∀ (b3_46 : Int32) (V_46 : am_V), j b3_46 V_46 = some r → AE U G 5 3 0 71 r (kc) V_46 46 [some (.ref (t)), some (.ref (sS i + 1)), none, some (.int (b3_46)), some (.int (a4_11))] []) h (fun b3_46 V_46 h => ?_) (fun j46 hj46 h => ?_)
    · refine AE.run K eX7_costGrown 28 2 (show am_run 5 ((tX7_costGrown.drop 28).take 2) 46 [some (.ref (t)), some (.ref (sS i + 1)), none, some (.int (b3_46)), some (.int (a4_11))] [] = some (11, [some (.ref (t)), some (.ref (sS i + 1)), none, some (.int (b3_46)), some (.int (a4_11 + nI 1))], []) from rfl) ?_
      exact AE.sub (L' := [some (.ref (t)), some (.ref (sS i + 1)), none, some (.int (b3_46)), some (.int (a4_11 + nI 1))]) (And.intro rfl (And.intro rfl (And.intro rfl (And.intro rfl trivial)))) (hr b3_46 (a4_11 + nI 1) V_46 h)
    refine AE.ic K 46 (am_at eX7_costGrown 17 rfl) (by decide) rfl h (fun h => ?_) (fun h => ?_)
    · exact AE.sub (L' := [some (.ref (t)), some (.ref (sS i + 1)), none, some (.int (a3_11)), some (.int (a4_11))]) (And.intro rfl (And.intro rfl (And.intro rfl (And.intro rfl trivial)))) (hj46 a3_11 V_11 h)
    · refine AE.run K eX7_costGrown 18 2 (show am_run 5 ((tX7_costGrown.drop 18).take 2) 31 [some (.ref (t)), some (.ref (sS i + 1)), none, some (.int (a3_11)), some (.int (a4_11))] [] = some (33, [some (.ref (t)), some (.ref (sS i + 1)), none, some (.int (a3_11)), some (.int (a4_11))], [.ref (sS i + 1), .int (a3_11)]) from rfl) ?_
      refine AE.getR K gf_X7_55 (sh_S1 hi) rfl (am_at eX7_costGrown 20 rfl) ?_
      refine AE.run K eX7_costGrown 21 1 (show am_run 5 ((tX7_costGrown.drop 21).take 1) 36 [some (.ref (t)), some (.ref (sS i + 1)), none, some (.int (a3_11)), some (.int (a4_11))] [.ref (sS i + 7), .int (a3_11)] = some (37, [some (.ref (t)), some (.ref (sS i + 1)), none, some (.int (a3_11)), some (.int (a4_11))], [.ref (t), .ref (sS i + 7), .int (a3_11)]) from rfl) ?_
      refine AE.getR K gf_X7_15 (sh_T0 ht) rfl (am_at eX7_costGrown 22 rfl) ?_
      refine AE.run K eX7_costGrown 23 1 (show am_run 5 ((tX7_costGrown.drop 23).take 1) 40 [some (.ref (t)), some (.ref (sS i + 1)), none, some (.int (a3_11)), some (.int (a4_11))] [.ref (t + 2), .ref (sS i + 7), .int (a3_11)] = some (42, [some (.ref (t)), some (.ref (sS i + 1)), none, some (.int (a3_11)), some (.int (a4_11))], [.int (a4_11), .ref (t + 2), .ref (sS i + 7), .int (a3_11)]) from rfl) ?_
      refine AE.iald K (sh_T2 ht) (am_at eX7_costGrown 24 rfl) h (fun h => ?_)
      refine AE.iald K (sh_S7 hi) (am_at eX7_costGrown 25 rfl) h (fun h => ?_)
      refine AE.run K eX7_costGrown 26 2 (show am_run 5 ((tX7_costGrown.drop 26).take 2) 44 [some (.ref (t)), some (.ref (sS i + 1)), none, some (.int (a3_11)), some (.int (a4_11))] [.int (V_11 (sS i + 7) (iN (V_11 (t + 2) (iN a4_11)))), .int (a3_11)] = some (46, [some (.ref (t)), some (.ref (sS i + 1)), none, some (.int (a3_11 + (V_11 (sS i + 7) (iN (V_11 (t + 2) (iN a4_11)))))), some (.int (a4_11))], []) from rfl) ?_
      exact AE.sub (L' := [some (.ref (t)), some (.ref (sS i + 1)), none, some (.int (a3_11 + (V_11 (sS i + 7) (iN (V_11 (t + 2) (iN a4_11)))))), some (.int (a4_11))]) (And.intro rfl (And.intro rfl (And.intro rfl (And.intro rfl trivial)))) (hj46 (a3_11 + (V_11 (sS i + 7) (iN (V_11 (t + 2) (iN a4_11))))) V_11 h)
theorem lk_X7_costGrown_11 {U : am_U} {l : Launch} (B : am_base xx U) (hfl : l.stackTraces = false) {G : am_G} (K : aK U l G RX7 cX7_costGrown 5 (some .int) 3 0 71) (hex : am_nx G) {r : (Option Value ⊕ String) × am_V} {t : Nat} {i : Nat} (ht : t = 20 ∨ t = 30) (hi : i < 12) {kc : Nat} (hkc : kc ≤ 0) {kx : Int32 → Int32 → am_V → am_R} (hx : ∀ (a3_11 : Int32) (a4_11 : Int32) (Vq : am_V), kx a3_11 a4_11 Vq = some r → AE U G 5 3 0 71 r kc Vq 52 [none, none, none, some (.int (a3_11)), none] []) : ∀ (f9 : Nat) (a3_11 : Int32) (a4_11 : Int32) (Vq : am_V), lp_X7_costGrown_11 t i kx f9 a3_11 a4_11 Vq = some r → AE U G 5 3 0 71 r kc Vq 11 [some (.ref (t)), some (.ref (sS i + 1)), none, some (.int (a3_11)), some (.int (a4_11))] [] := by
  intro f9
  induction f9 with
  | zero =>
    intro a3_11 a4_11 Vq h
    cases h
  | succ f9 ih =>
    intro a3_11 a4_11 Vq h
    exact bk_X7_costGrown_11 B hfl K hex ht hi hkc hx ih a3_11 a4_11 Vq h
set_option maxRecDepth 100000 in
set_option maxHeartbeats 4000000 in
theorem kX7_costGrown {U : am_U} {l : Launch} (B : am_base xx U) (hfl : l.stackTraces = false) {V : am_V} {t : Nat} {i : Nat} {x2 : Int32} (ht : t = 20 ∨ t = 30) (hi : i < 12) {r : (Option Value ⊕ String) × am_V} (h : d_X7_costGrown t i x2 V = some r) : am_Ct xx U l yX7_costGrown cX7_costGrown 5 (some .int) (rk 3 0 71) [.ref (t), .ref (sS i + 1), .int (x2)] V (am_is r.1 r.2) := by
  refine am_Ct.of B hfl (by decide) (Nat.le_of_ble_eq_true rfl) ?_
  intro G hgl hgR hr ok h0 hex
  have K : aK U l G RX7 cX7_costGrown 5 (some .int) 3 0 71 := ⟨hgl, hgR, hr, ok, h0⟩
  unfold d_X7_costGrown at h
  show AE U G 5 3 0 71 r 0 V 0 [some (.ref (t)), some (.ref (sS i + 1)), some (.int (x2)), none, none] []
  refine AE.run K eX7_costGrown 0 3 (show am_run 5 ((tX7_costGrown.drop 0).take 3) 0 [some (.ref (t)), some (.ref (sS i + 1)), some (.int (x2)), none, none] [] = some (3, [some (.ref (t)), some (.ref (sS i + 1)), some (.int (x2)), none, none], [.int (x2), .ref (sS i + 1), .ref (t)]) from rfl) ?_
  refine AE.cv (f' := 2) (c' := 0) (lo' := 47) (st := []) (As := [.ref (sS i + 1), .int (x2)]) (m := d_X7_grow t i x2 V) K hex (fun q hq => kX7_grow B hfl (t := t) (i := i) ht hi hq) cv_X7_63 (sh_T0 ht) (T := TX7) (N := 5) rfl rfl rfl (Nat.le_of_ble_eq_true rfl) ⟨Nat.le_of_ble_eq_true rfl, Nat.le_of_ble_eq_true rfl⟩ (by omega) (am_at eX7_costGrown 3 rfl) h (rU_some h) (bkU (fun V1 h => ?_))
  refine AE.run K eX7_costGrown 4 4 (show am_run 5 ((tX7_costGrown.drop 4).take 4) 6 [some (.ref (t)), some (.ref (sS i + 1)), some (.int (x2)), none, none] [] = some (11, [some (.ref (t)), some (.ref (sS i + 1)), some (.int (x2)), some (.int (nI 0)), some (.int (nI 0))], []) from rfl) ?_
  refine AE.sub (L' := [some (.ref (t)), some (.ref (sS i + 1)), none, some (.int (nI 0)), some (.int (nI 0))]) (And.intro rfl (And.intro rfl (And.intro rfl (And.intro rfl trivial)))) ?_
  refine lk_X7_costGrown_11 B hfl K hex ht hi (by omega) ?_ 1000 (nI 0) (nI 0) V1 h
  intro a3_11 a4_11 V_11x h
  refine AE.run K eX7_costGrown 30 1 (show am_run 5 ((tX7_costGrown.drop 30).take 1) 52 [none, none, none, some (.int (a3_11)), none] [] = some (53, [none, none, none, some (.int (a3_11)), none], [.int (a3_11)]) from rfl) ?_
  exact AE.iret K (by omega) (am_at eX7_costGrown 31 rfl) h
def bd_X7_joinLabels_28 (t : Nat) (i : Nat) (x2 : Int32) (V : am_V) (kx kr : Int32 → am_V → am_R) (a5_28 : Int32) (V_28 : am_V) : am_R := (if (V_28 (sS i + 1) 6) ≤ a5_28 then kx a5_28 V_28 else rG (am_in a5_28 9) (rB (fun (V_57 : am_V) => kr (a5_28 + nI 1) V_57) (fun (j57 : am_V → am_R) => (if ¬ (V_28 (t + 5) (iN a5_28)) = (V (t + 5) (iN (V (sS i + 6) (iN x2)))) then j57 V_28 else rG (am_in a5_28 9) (rV (am_set V_28 (t + 5) (iN a5_28) (V (t + 5) (iN (V (sS i + 5) (iN x2))))) (fun (V1 : am_V) => j57 V1))))))
def lp_X7_joinLabels_28 (t : Nat) (i : Nat) (x2 : Int32) (V : am_V) (kx : Int32 → am_V → am_R) : Nat → Int32 → am_V → am_R
  | 0, _, _ => none
  | f9 + 1, a5_28, V_28 => bd_X7_joinLabels_28 t i x2 V kx (lp_X7_joinLabels_28 t i x2 V kx f9) a5_28 V_28
def d_X7_joinLabels (t : Nat) (i : Nat) (x2 : Int32) (V : am_V) : am_R := rG (am_in x2 16) (rG (am_in (V (sS i + 5) (iN x2)) 9) (rG (am_in x2 16) (rG (am_in (V (sS i + 6) (iN x2)) 9) (lp_X7_joinLabels_28 t i x2 V (fun (a5_28 : Int32) (V_28x : am_V) => rB (fun (bs0_74 : Int32) (V_74 : am_V) => rG (am_nb bs0_74) (some (.inl (some (.int (bs0_74))), V_74))) (fun (j74 : Int32 → am_V → am_R) => (if (V (t + 5) (iN (V (sS i + 5) (iN x2)))) = (V (t + 5) (iN (V (sS i + 6) (iN x2)))) then j74 (nI 0) V_28x else j74 (nI 1) V_28x))) 1000 (nI 0) V))))
set_option maxRecDepth 100000 in
set_option maxHeartbeats 4000000 in
theorem bk_X7_joinLabels_28 {U : am_U} {l : Launch} (B : am_base xx U) (hfl : l.stackTraces = false) {G : am_G} (K : aK U l G RX7 cX7_joinLabels 6 (some .boolean) 0 0 0) (hex : am_nx G) {r : (Option Value ⊕ String) × am_V} {t : Nat} {i : Nat} {x2 : Int32} {V : am_V} (ht : t = 20 ∨ t = 30) (hi : i < 12) {kc : Nat} (hkc : kc ≤ 0) {kx kr : Int32 → am_V → am_R} (hx : ∀ (a5_28 : Int32) (Vq : am_V), kx a5_28 Vq = some r → AE U G 6 0 0 0 r kc Vq 63 [none, none, none, some (.int (V (t + 5) (iN (V (sS i + 5) (iN x2))))), some (.int (V (t + 5) (iN (V (sS i + 6) (iN x2))))), none] []) (hr : ∀ (a5_28 : Int32) (Vq : am_V), kr a5_28 Vq = some r → AE U G 6 0 0 0 r kc Vq 28 [some (.ref (t)), some (.ref (sS i + 1)), none, some (.int (V (t + 5) (iN (V (sS i + 5) (iN x2))))), some (.int (V (t + 5) (iN (V (sS i + 6) (iN x2))))), some (.int (a5_28))] []) (a5_28 : Int32) (V_28 : am_V) (h : bd_X7_joinLabels_28 t i x2 V kx kr a5_28 V_28 = some r) : AE U G 6 0 0 0 r kc V_28 28 [some (.ref (t)), some (.ref (sS i + 1)), none, some (.int (V (t + 5) (iN (V (sS i + 5) (iN x2))))), some (.int (V (t + 5) (iN (V (sS i + 6) (iN x2))))), some (.int (a5_28))] [] := by
  unfold bd_X7_joinLabels_28 at h
  refine AE.run K eX7_joinLabels 18 2 (show am_run 6 ((tX7_joinLabels.drop 18).take 2) 28 [some (.ref (t)), some (.ref (sS i + 1)), none, some (.int (V (t + 5) (iN (V (sS i + 5) (iN x2))))), some (.int (V (t + 5) (iN (V (sS i + 6) (iN x2))))), some (.int (a5_28))] [] = some (31, [some (.ref (t)), some (.ref (sS i + 1)), none, some (.int (V (t + 5) (iN (V (sS i + 5) (iN x2))))), some (.int (V (t + 5) (iN (V (sS i + 6) (iN x2))))), some (.int (a5_28))], [.ref (sS i + 1), .int (a5_28)]) from rfl) ?_
  refine AE.getI K gf_X7_28 (sh_S1 hi) rfl (am_at eX7_joinLabels 20 rfl) ?_
  refine AE.ic K 63 (am_at eX7_joinLabels 21 rfl) (by decide) rfl h (fun h => ?_) (fun h => ?_)
  · exact AE.sub (L' := [none, none, none, some (.int (V (t + 5) (iN (V (sS i + 5) (iN x2))))), some (.int (V (t + 5) (iN (V (sS i + 6) (iN x2))))), none]) (And.intro rfl (And.intro rfl trivial)) (hx a5_28 V_28 h)
  · refine AE.run K eX7_joinLabels 22 1 (show am_run 6 ((tX7_joinLabels.drop 22).take 1) 37 [some (.ref (t)), some (.ref (sS i + 1)), none, some (.int (V (t + 5) (iN (V (sS i + 5) (iN x2))))), some (.int (V (t + 5) (iN (V (sS i + 6) (iN x2))))), some (.int (a5_28))] [] = some (38, [some (.ref (t)), some (.ref (sS i + 1)), none, some (.int (V (t + 5) (iN (V (sS i + 5) (iN x2))))), some (.int (V (t + 5) (iN (V (sS i + 6) (iN x2))))), some (.int (a5_28))], [.ref (t)]) from rfl) ?_
    refine AE.getR K gf_X7_25 (sh_T0 ht) rfl (am_at eX7_joinLabels 23 rfl) ?_
    refine AE.run K eX7_joinLabels 24 1 (show am_run 6 ((tX7_joinLabels.drop 24).take 1) 41 [some (.ref (t)), some (.ref (sS i + 1)), none, some (.int (V (t + 5) (iN (V (sS i + 5) (iN x2))))), some (.int (V (t + 5) (iN (V (sS i + 6) (iN x2))))), some (.int (a5_28))] [.ref (t + 5)] = some (43, [some (.ref (t)), some (.ref (sS i + 1)), none, some (.int (V (t + 5) (iN (V (sS i + 5) (iN x2))))), some (.int (V (t + 5) (iN (V (sS i + 6) (iN x2))))), some (.int (a5_28))], [.int (a5_28), .ref (t + 5)]) from rfl) ?_
    refine AE.iald K (sh_T5 ht) (am_at eX7_joinLabels 25 rfl) h (fun h => ?_)
    refine AE.run K eX7_joinLabels 26 1 (show am_run 6 ((tX7_joinLabels.drop 26).take 1) 44 [some (.ref (t)), some (.ref (sS i + 1)), none, some (.int (V (t + 5) (iN (V (sS i + 5) (iN x2))))), some (.int (V (t + 5) (iN (V (sS i + 6) (iN x2))))), some (.int (a5_28))] [.int (V_28 (t + 5) (iN a5_28))] = some (46, [some (.ref (t)), some (.ref (sS i + 1)), none, some (.int (V (t + 5) (iN (V (sS i + 5) (iN x2))))), some (.int (V (t + 5) (iN (V (sS i + 6) (iN x2))))), some (.int (a5_28))], [.int (V (t + 5) (iN (V (sS i + 6) (iN x2)))), .int (V_28 (t + 5) (iN a5_28))]) from rfl) ?_
    refine rB_of (P := fun (j : am_V → am_R) => ∀ (V_57 : am_V), j V_57 = some r → AE U G 6 0 0 0 r (kc) V_57 57 [some (.ref (t)), some (.ref (sS i + 1)), none, some (.int (V (t + 5) (iN (V (sS i + 5) (iN x2))))), some (.int (V (t + 5) (iN (V (sS i + 6) (iN x2))))), some (.int (a5_28))] []) h (fun V_57 h => ?_) (fun j57 hj57 h => ?_)
    · refine AE.run K eX7_joinLabels 33 2 (show am_run 6 ((tX7_joinLabels.drop 33).take 2) 57 [some (.ref (t)), some (.ref (sS i + 1)), none, some (.int (V (t + 5) (iN (V (sS i + 5) (iN x2))))), some (.int (V (t + 5) (iN (V (sS i + 6) (iN x2))))), some (.int (a5_28))] [] = some (28, [some (.ref (t)), some (.ref (sS i + 1)), none, some (.int (V (t + 5) (iN (V (sS i + 5) (iN x2))))), some (.int (V (t + 5) (iN (V (sS i + 6) (iN x2))))), some (.int (a5_28 + nI 1))], []) from rfl) ?_
      exact AE.sub (L' := [some (.ref (t)), some (.ref (sS i + 1)), none, some (.int (V (t + 5) (iN (V (sS i + 5) (iN x2))))), some (.int (V (t + 5) (iN (V (sS i + 6) (iN x2))))), some (.int (a5_28 + nI 1))]) (And.intro rfl (And.intro rfl (And.intro rfl (And.intro rfl (And.intro rfl trivial))))) (hr (a5_28 + nI 1) V_57 h)
    refine AE.ic K 57 (am_at eX7_joinLabels 27 rfl) (by decide) rfl h (fun h => ?_) (fun h => ?_)
    · exact (hj57  V_28 h)
    · refine AE.run K eX7_joinLabels 28 1 (show am_run 6 ((tX7_joinLabels.drop 28).take 1) 49 [some (.ref (t)), some (.ref (sS i + 1)), none, some (.int (V (t + 5) (iN (V (sS i + 5) (iN x2))))), some (.int (V (t + 5) (iN (V (sS i + 6) (iN x2))))), some (.int (a5_28))] [] = some (50, [some (.ref (t)), some (.ref (sS i + 1)), none, some (.int (V (t + 5) (iN (V (sS i + 5) (iN x2))))), some (.int (V (t + 5) (iN (V (sS i + 6) (iN x2))))), some (.int (a5_28))], [.ref (t)]) from rfl) ?_
      refine AE.getR K gf_X7_25 (sh_T0 ht) rfl (am_at eX7_joinLabels 29 rfl) ?_
      refine AE.run K eX7_joinLabels 30 2 (show am_run 6 ((tX7_joinLabels.drop 30).take 2) 53 [some (.ref (t)), some (.ref (sS i + 1)), none, some (.int (V (t + 5) (iN (V (sS i + 5) (iN x2))))), some (.int (V (t + 5) (iN (V (sS i + 6) (iN x2))))), some (.int (a5_28))] [.ref (t + 5)] = some (56, [some (.ref (t)), some (.ref (sS i + 1)), none, some (.int (V (t + 5) (iN (V (sS i + 5) (iN x2))))), some (.int (V (t + 5) (iN (V (sS i + 6) (iN x2))))), some (.int (a5_28))], [.int (V (t + 5) (iN (V (sS i + 5) (iN x2)))), .int (a5_28), .ref (t + 5)]) from rfl) ?_
      refine AE.iast K (sh_T5 ht) (wr_T5 ht) (am_at eX7_joinLabels 32 rfl) h (fun V1 h => ?_)
      exact (hj57  V1 h)
theorem lk_X7_joinLabels_28 {U : am_U} {l : Launch} (B : am_base xx U) (hfl : l.stackTraces = false) {G : am_G} (K : aK U l G RX7 cX7_joinLabels 6 (some .boolean) 0 0 0) (hex : am_nx G) {r : (Option Value ⊕ String) × am_V} {t : Nat} {i : Nat} {x2 : Int32} {V : am_V} (ht : t = 20 ∨ t = 30) (hi : i < 12) {kc : Nat} (hkc : kc ≤ 0) {kx : Int32 → am_V → am_R} (hx : ∀ (a5_28 : Int32) (Vq : am_V), kx a5_28 Vq = some r → AE U G 6 0 0 0 r kc Vq 63 [none, none, none, some (.int (V (t + 5) (iN (V (sS i + 5) (iN x2))))), some (.int (V (t + 5) (iN (V (sS i + 6) (iN x2))))), none] []) : ∀ (f9 : Nat) (a5_28 : Int32) (Vq : am_V), lp_X7_joinLabels_28 t i x2 V kx f9 a5_28 Vq = some r → AE U G 6 0 0 0 r kc Vq 28 [some (.ref (t)), some (.ref (sS i + 1)), none, some (.int (V (t + 5) (iN (V (sS i + 5) (iN x2))))), some (.int (V (t + 5) (iN (V (sS i + 6) (iN x2))))), some (.int (a5_28))] [] := by
  intro f9
  induction f9 with
  | zero =>
    intro a5_28 Vq h
    cases h
  | succ f9 ih =>
    intro a5_28 Vq h
    exact bk_X7_joinLabels_28 B hfl K hex ht hi hkc hx ih a5_28 Vq h
set_option maxRecDepth 100000 in
set_option maxHeartbeats 4000000 in
theorem kX7_joinLabels {U : am_U} {l : Launch} (B : am_base xx U) (hfl : l.stackTraces = false) {V : am_V} {t : Nat} {i : Nat} {x2 : Int32} (ht : t = 20 ∨ t = 30) (hi : i < 12) {r : (Option Value ⊕ String) × am_V} (h : d_X7_joinLabels t i x2 V = some r) : am_Ct xx U l yX7_joinLabels cX7_joinLabels 6 (some .boolean) (rk 0 0 0) [.ref (t), .ref (sS i + 1), .int (x2)] V (am_is r.1 r.2) := by
  refine am_Ct.of B hfl (by decide) (Nat.le_of_ble_eq_true rfl) ?_
  intro G hgl hgR hr ok h0 hex
  have K : aK U l G RX7 cX7_joinLabels 6 (some .boolean) 0 0 0 := ⟨hgl, hgR, hr, ok, h0⟩
  unfold d_X7_joinLabels at h
  show AE U G 6 0 0 0 r 0 V 0 [some (.ref (t)), some (.ref (sS i + 1)), some (.int (x2)), none, none, none] []
  refine AE.run K eX7_joinLabels 0 1 (show am_run 6 ((tX7_joinLabels.drop 0).take 1) 0 [some (.ref (t)), some (.ref (sS i + 1)), some (.int (x2)), none, none, none] [] = some (1, [some (.ref (t)), some (.ref (sS i + 1)), some (.int (x2)), none, none, none], [.ref (t)]) from rfl) ?_
  refine AE.getR K gf_X7_25 (sh_T0 ht) rfl (am_at eX7_joinLabels 1 rfl) ?_
  refine AE.run K eX7_joinLabels 2 1 (show am_run 6 ((tX7_joinLabels.drop 2).take 1) 4 [some (.ref (t)), some (.ref (sS i + 1)), some (.int (x2)), none, none, none] [.ref (t + 5)] = some (5, [some (.ref (t)), some (.ref (sS i + 1)), some (.int (x2)), none, none, none], [.ref (sS i + 1), .ref (t + 5)]) from rfl) ?_
  refine AE.getR K gf_X7_45 (sh_S1 hi) rfl (am_at eX7_joinLabels 3 rfl) ?_
  refine AE.run K eX7_joinLabels 4 1 (show am_run 6 ((tX7_joinLabels.drop 4).take 1) 8 [some (.ref (t)), some (.ref (sS i + 1)), some (.int (x2)), none, none, none] [.ref (sS i + 5), .ref (t + 5)] = some (9, [some (.ref (t)), some (.ref (sS i + 1)), some (.int (x2)), none, none, none], [.int (x2), .ref (sS i + 5), .ref (t + 5)]) from rfl) ?_
  refine AE.iald K (sh_S5 hi) (am_at eX7_joinLabels 5 rfl) h (fun h => ?_)
  refine AE.iald K (sh_T5 ht) (am_at eX7_joinLabels 6 rfl) h (fun h => ?_)
  refine AE.run K eX7_joinLabels 7 2 (show am_run 6 ((tX7_joinLabels.drop 7).take 2) 11 [some (.ref (t)), some (.ref (sS i + 1)), some (.int (x2)), none, none, none] [.int (V (t + 5) (iN (V (sS i + 5) (iN x2))))] = some (13, [some (.ref (t)), some (.ref (sS i + 1)), some (.int (x2)), some (.int (V (t + 5) (iN (V (sS i + 5) (iN x2))))), none, none], [.ref (t)]) from rfl) ?_
  refine AE.getR K gf_X7_25 (sh_T0 ht) rfl (am_at eX7_joinLabels 9 rfl) ?_
  refine AE.run K eX7_joinLabels 10 1 (show am_run 6 ((tX7_joinLabels.drop 10).take 1) 16 [some (.ref (t)), some (.ref (sS i + 1)), some (.int (x2)), some (.int (V (t + 5) (iN (V (sS i + 5) (iN x2))))), none, none] [.ref (t + 5)] = some (17, [some (.ref (t)), some (.ref (sS i + 1)), some (.int (x2)), some (.int (V (t + 5) (iN (V (sS i + 5) (iN x2))))), none, none], [.ref (sS i + 1), .ref (t + 5)]) from rfl) ?_
  refine AE.getR K gf_X7_48 (sh_S1 hi) rfl (am_at eX7_joinLabels 11 rfl) ?_
  refine AE.run K eX7_joinLabels 12 1 (show am_run 6 ((tX7_joinLabels.drop 12).take 1) 20 [some (.ref (t)), some (.ref (sS i + 1)), some (.int (x2)), some (.int (V (t + 5) (iN (V (sS i + 5) (iN x2))))), none, none] [.ref (sS i + 6), .ref (t + 5)] = some (21, [some (.ref (t)), some (.ref (sS i + 1)), some (.int (x2)), some (.int (V (t + 5) (iN (V (sS i + 5) (iN x2))))), none, none], [.int (x2), .ref (sS i + 6), .ref (t + 5)]) from rfl) ?_
  refine AE.iald K (sh_S6 hi) (am_at eX7_joinLabels 13 rfl) h (fun h => ?_)
  refine AE.iald K (sh_T5 ht) (am_at eX7_joinLabels 14 rfl) h (fun h => ?_)
  refine AE.run K eX7_joinLabels 15 3 (show am_run 6 ((tX7_joinLabels.drop 15).take 3) 23 [some (.ref (t)), some (.ref (sS i + 1)), some (.int (x2)), some (.int (V (t + 5) (iN (V (sS i + 5) (iN x2))))), none, none] [.int (V (t + 5) (iN (V (sS i + 6) (iN x2))))] = some (28, [some (.ref (t)), some (.ref (sS i + 1)), some (.int (x2)), some (.int (V (t + 5) (iN (V (sS i + 5) (iN x2))))), some (.int (V (t + 5) (iN (V (sS i + 6) (iN x2))))), some (.int (nI 0))], []) from rfl) ?_
  refine AE.sub (L' := [some (.ref (t)), some (.ref (sS i + 1)), none, some (.int (V (t + 5) (iN (V (sS i + 5) (iN x2))))), some (.int (V (t + 5) (iN (V (sS i + 6) (iN x2))))), some (.int (nI 0))]) (And.intro rfl (And.intro rfl (And.intro rfl (And.intro rfl (And.intro rfl trivial))))) ?_
  refine lk_X7_joinLabels_28 B hfl K hex ht hi (by omega) ?_ 1000 (nI 0) V h
  intro a5_28 V_28x h
  refine AE.run K eX7_joinLabels 35 2 (show am_run 6 ((tX7_joinLabels.drop 35).take 2) 63 [none, none, none, some (.int (V (t + 5) (iN (V (sS i + 5) (iN x2))))), some (.int (V (t + 5) (iN (V (sS i + 6) (iN x2))))), none] [] = some (66, [none, none, none, some (.int (V (t + 5) (iN (V (sS i + 5) (iN x2))))), some (.int (V (t + 5) (iN (V (sS i + 6) (iN x2))))), none], [.int (V (t + 5) (iN (V (sS i + 6) (iN x2)))), .int (V (t + 5) (iN (V (sS i + 5) (iN x2))))]) from rfl) ?_
  refine rB_of (P := fun (j : Int32 → am_V → am_R) => ∀ (bs0_74 : Int32) (V_74 : am_V), j bs0_74 V_74 = some r → AE U G 6 0 0 0 r 0 V_74 74 [none, none, none, none, none, none] [.int (bs0_74)]) h (fun bs0_74 V_74 h => ?_) (fun j74 hj74 h => ?_)
  · exact AE.zret K (by omega) (am_at eX7_joinLabels 41 rfl) h
  refine AE.ic K 73 (am_at eX7_joinLabels 37 rfl) (by decide) rfl h (fun h => ?_) (fun h => ?_)
  · refine AE.run K eX7_joinLabels 40 1 (show am_run 6 ((tX7_joinLabels.drop 40).take 1) 73 [none, none, none, some (.int (V (t + 5) (iN (V (sS i + 5) (iN x2))))), some (.int (V (t + 5) (iN (V (sS i + 6) (iN x2))))), none] [] = some (74, [none, none, none, some (.int (V (t + 5) (iN (V (sS i + 5) (iN x2))))), some (.int (V (t + 5) (iN (V (sS i + 6) (iN x2))))), none], [.int (nI 0)]) from rfl) ?_
    exact AE.sub (L' := [none, none, none, none, none, none]) trivial (hj74 (nI 0) V_28x h)
  · refine AE.run K eX7_joinLabels 38 2 (show am_run 6 ((tX7_joinLabels.drop 38).take 2) 69 [none, none, none, some (.int (V (t + 5) (iN (V (sS i + 5) (iN x2))))), some (.int (V (t + 5) (iN (V (sS i + 6) (iN x2))))), none] [] = some (74, [none, none, none, some (.int (V (t + 5) (iN (V (sS i + 5) (iN x2))))), some (.int (V (t + 5) (iN (V (sS i + 6) (iN x2))))), none], [.int (nI 1)]) from rfl) ?_
    exact AE.sub (L' := [none, none, none, none, none, none]) trivial (hj74 (nI 1) V_28x h)
def bd_X7_onlyAround_6 (t : Nat) (i : Nat) (x2 : Int32) (x3 : Int32) (kx kr : Int32 → Int32 → am_V → am_R) (a4_6 : Int32) (a5_6 : Int32) (V_6 : am_V) : am_R := (if (V_6 (sS i + 1) 7) ≤ a5_6 then kx a4_6 a5_6 V_6 else rI (d_X11_hasBit x3 a5_6 V_6) (fun (y2 : Int32) (V1 : am_V) => rB (fun (b4_54 : Int32) (V_54 : am_V) => kr b4_54 (a5_6 + nI 1) V_54) (fun (j54 : Int32 → am_V → am_R) => (if y2 = 0 then j54 a4_6 V1 else rG (am_in a5_6 16) (rG (am_in (V1 (sS i + 5) (iN a5_6)) 9) (rG (am_in x2 9) ((if ¬ (V1 (t + 5) (iN (V1 (sS i + 5) (iN a5_6)))) = (V1 (t + 5) (iN x2)) then j54 a4_6 V1 else j54 (a4_6 ||| ((nI 1) <<< (a5_6 &&& 31))) V1))))))))
def lp_X7_onlyAround_6 (t : Nat) (i : Nat) (x2 : Int32) (x3 : Int32) (kx : Int32 → Int32 → am_V → am_R) : Nat → Int32 → Int32 → am_V → am_R
  | 0, _, _, _ => none
  | f9 + 1, a4_6, a5_6, V_6 => bd_X7_onlyAround_6 t i x2 x3 kx (lp_X7_onlyAround_6 t i x2 x3 kx f9) a4_6 a5_6 V_6
def d_X7_onlyAround (t : Nat) (i : Nat) (x2 : Int32) (x3 : Int32) (V : am_V) : am_R := lp_X7_onlyAround_6 t i x2 x3 (fun (a4_6 : Int32) (a5_6 : Int32) (V_6x : am_V) => some (.inl (some (.int (a4_6))), V_6x)) 1000 (nI 0) (nI 0) V
set_option maxRecDepth 100000 in
set_option maxHeartbeats 4000000 in
theorem bk_X7_onlyAround_6 {U : am_U} {l : Launch} (B : am_base xx U) (hfl : l.stackTraces = false) {G : am_G} (K : aK U l G RX7 cX7_onlyAround 6 (some .int) 1 0 21) (hex : am_nx G) {r : (Option Value ⊕ String) × am_V} {t : Nat} {i : Nat} {x2 : Int32} {x3 : Int32} (ht : t = 20 ∨ t = 30) (hi : i < 12) {kc : Nat} (hkc : kc ≤ 0) {kx kr : Int32 → Int32 → am_V → am_R} (hx : ∀ (a4_6 : Int32) (a5_6 : Int32) (Vq : am_V), kx a4_6 a5_6 Vq = some r → AE U G 6 1 0 21 r kc Vq 60 [none, none, none, none, some (.int (a4_6)), none] []) (hr : ∀ (a4_6 : Int32) (a5_6 : Int32) (Vq : am_V), kr a4_6 a5_6 Vq = some r → AE U G 6 1 0 21 r kc Vq 6 [some (.ref (t)), some (.ref (sS i + 1)), some (.int (x2)), some (.int (x3)), some (.int (a4_6)), some (.int (a5_6))] []) (a4_6 : Int32) (a5_6 : Int32) (V_6 : am_V) (h : bd_X7_onlyAround_6 t i x2 x3 kx kr a4_6 a5_6 V_6 = some r) : AE U G 6 1 0 21 r kc V_6 6 [some (.ref (t)), some (.ref (sS i + 1)), some (.int (x2)), some (.int (x3)), some (.int (a4_6)), some (.int (a5_6))] [] := by
  unfold bd_X7_onlyAround_6 at h
  refine AE.run K eX7_onlyAround 4 2 (show am_run 6 ((tX7_onlyAround.drop 4).take 2) 6 [some (.ref (t)), some (.ref (sS i + 1)), some (.int (x2)), some (.int (x3)), some (.int (a4_6)), some (.int (a5_6))] [] = some (9, [some (.ref (t)), some (.ref (sS i + 1)), some (.int (x2)), some (.int (x3)), some (.int (a4_6)), some (.int (a5_6))], [.ref (sS i + 1), .int (a5_6)]) from rfl) ?_
  refine AE.getI K gf_X7_42 (sh_S1 hi) rfl (am_at eX7_onlyAround 6 rfl) ?_
  refine AE.ic K 60 (am_at eX7_onlyAround 7 rfl) (by decide) rfl h (fun h => ?_) (fun h => ?_)
  · exact AE.sub (L' := [none, none, none, none, some (.int (a4_6)), none]) (And.intro rfl trivial) (hx a4_6 a5_6 V_6 h)
  · refine AE.run K eX7_onlyAround 8 2 (show am_run 6 ((tX7_onlyAround.drop 8).take 2) 15 [some (.ref (t)), some (.ref (sS i + 1)), some (.int (x2)), some (.int (x3)), some (.int (a4_6)), some (.int (a5_6))] [] = some (18, [some (.ref (t)), some (.ref (sS i + 1)), some (.int (x2)), some (.int (x3)), some (.int (a4_6)), some (.int (a5_6))], [.int (a5_6), .int (x3)]) from rfl) ?_
    refine AE.cn (f' := 0) (c' := 0) (lo' := 0) (st := []) (As := [.int (x3), .int (a5_6)]) (m := d_X11_hasBit x3 a5_6 V_6) K hex (fun q hq => kX11_hasBit B hfl hq) cn_X7_74 rfl rfl (Nat.le_of_ble_eq_true rfl) ⟨Nat.le_of_ble_eq_true rfl, Nat.le_of_ble_eq_true rfl⟩ (by omega) (am_at eX7_onlyAround 10 rfl) h (rI_some h) (bkI (fun y2 V1 h => ?_))
    refine rB_of (P := fun (j : Int32 → am_V → am_R) => ∀ (b4_54 : Int32) (V_54 : am_V), j b4_54 V_54 = some r → AE U G 6 1 0 21 r (kc) V_54 54 [some (.ref (t)), some (.ref (sS i + 1)), some (.int (x2)), some (.int (x3)), some (.int (b4_54)), some (.int (a5_6))] []) h (fun b4_54 V_54 h => ?_) (fun j54 hj54 h => ?_)
    · refine AE.run K eX7_onlyAround 30 2 (show am_run 6 ((tX7_onlyAround.drop 30).take 2) 54 [some (.ref (t)), some (.ref (sS i + 1)), some (.int (x2)), some (.int (x3)), some (.int (b4_54)), some (.int (a5_6))] [] = some (6, [some (.ref (t)), some (.ref (sS i + 1)), some (.int (x2)), some (.int (x3)), some (.int (b4_54)), some (.int (a5_6 + nI 1))], []) from rfl) ?_
      exact AE.sub (L' := [some (.ref (t)), some (.ref (sS i + 1)), some (.int (x2)), some (.int (x3)), some (.int (b4_54)), some (.int (a5_6 + nI 1))]) (And.intro rfl (And.intro rfl (And.intro rfl (And.intro rfl (And.intro rfl (And.intro rfl trivial)))))) (hr b4_54 (a5_6 + nI 1) V_54 h)
    refine AE.if0 K 54 (am_at eX7_onlyAround 11 rfl) (by decide) rfl h (fun h => ?_) (fun h => ?_)
    · exact AE.sub (L' := [some (.ref (t)), some (.ref (sS i + 1)), some (.int (x2)), some (.int (x3)), some (.int (a4_6)), some (.int (a5_6))]) (And.intro rfl (And.intro rfl (And.intro rfl (And.intro rfl (And.intro rfl (And.intro rfl trivial)))))) (hj54 a4_6 V1 h)
    · refine AE.run K eX7_onlyAround 12 1 (show am_run 6 ((tX7_onlyAround.drop 12).take 1) 24 [some (.ref (t)), some (.ref (sS i + 1)), some (.int (x2)), some (.int (x3)), some (.int (a4_6)), some (.int (a5_6))] [] = some (25, [some (.ref (t)), some (.ref (sS i + 1)), some (.int (x2)), some (.int (x3)), some (.int (a4_6)), some (.int (a5_6))], [.ref (t)]) from rfl) ?_
      refine AE.getR K gf_X7_25 (sh_T0 ht) rfl (am_at eX7_onlyAround 13 rfl) ?_
      refine AE.run K eX7_onlyAround 14 1 (show am_run 6 ((tX7_onlyAround.drop 14).take 1) 28 [some (.ref (t)), some (.ref (sS i + 1)), some (.int (x2)), some (.int (x3)), some (.int (a4_6)), some (.int (a5_6))] [.ref (t + 5)] = some (29, [some (.ref (t)), some (.ref (sS i + 1)), some (.int (x2)), some (.int (x3)), some (.int (a4_6)), some (.int (a5_6))], [.ref (sS i + 1), .ref (t + 5)]) from rfl) ?_
      refine AE.getR K gf_X7_45 (sh_S1 hi) rfl (am_at eX7_onlyAround 15 rfl) ?_
      refine AE.run K eX7_onlyAround 16 1 (show am_run 6 ((tX7_onlyAround.drop 16).take 1) 32 [some (.ref (t)), some (.ref (sS i + 1)), some (.int (x2)), some (.int (x3)), some (.int (a4_6)), some (.int (a5_6))] [.ref (sS i + 5), .ref (t + 5)] = some (34, [some (.ref (t)), some (.ref (sS i + 1)), some (.int (x2)), some (.int (x3)), some (.int (a4_6)), some (.int (a5_6))], [.int (a5_6), .ref (sS i + 5), .ref (t + 5)]) from rfl) ?_
      refine AE.iald K (sh_S5 hi) (am_at eX7_onlyAround 17 rfl) h (fun h => ?_)
      refine AE.iald K (sh_T5 ht) (am_at eX7_onlyAround 18 rfl) h (fun h => ?_)
      refine AE.run K eX7_onlyAround 19 1 (show am_run 6 ((tX7_onlyAround.drop 19).take 1) 36 [some (.ref (t)), some (.ref (sS i + 1)), some (.int (x2)), some (.int (x3)), some (.int (a4_6)), some (.int (a5_6))] [.int (V1 (t + 5) (iN (V1 (sS i + 5) (iN a5_6))))] = some (37, [some (.ref (t)), some (.ref (sS i + 1)), some (.int (x2)), some (.int (x3)), some (.int (a4_6)), some (.int (a5_6))], [.ref (t), .int (V1 (t + 5) (iN (V1 (sS i + 5) (iN a5_6))))]) from rfl) ?_
      refine AE.getR K gf_X7_25 (sh_T0 ht) rfl (am_at eX7_onlyAround 20 rfl) ?_
      refine AE.run K eX7_onlyAround 21 1 (show am_run 6 ((tX7_onlyAround.drop 21).take 1) 40 [some (.ref (t)), some (.ref (sS i + 1)), some (.int (x2)), some (.int (x3)), some (.int (a4_6)), some (.int (a5_6))] [.ref (t + 5), .int (V1 (t + 5) (iN (V1 (sS i + 5) (iN a5_6))))] = some (41, [some (.ref (t)), some (.ref (sS i + 1)), some (.int (x2)), some (.int (x3)), some (.int (a4_6)), some (.int (a5_6))], [.int (x2), .ref (t + 5), .int (V1 (t + 5) (iN (V1 (sS i + 5) (iN a5_6))))]) from rfl) ?_
      refine AE.iald K (sh_T5 ht) (am_at eX7_onlyAround 22 rfl) h (fun h => ?_)
      refine AE.ic K 54 (am_at eX7_onlyAround 23 rfl) (by decide) rfl h (fun h => ?_) (fun h => ?_)
      · exact AE.sub (L' := [some (.ref (t)), some (.ref (sS i + 1)), some (.int (x2)), some (.int (x3)), some (.int (a4_6)), some (.int (a5_6))]) (And.intro rfl (And.intro rfl (And.intro rfl (And.intro rfl (And.intro rfl (And.intro rfl trivial)))))) (hj54 a4_6 V1 h)
      · refine AE.run K eX7_onlyAround 24 6 (show am_run 6 ((tX7_onlyAround.drop 24).take 6) 45 [some (.ref (t)), some (.ref (sS i + 1)), some (.int (x2)), some (.int (x3)), some (.int (a4_6)), some (.int (a5_6))] [] = some (54, [some (.ref (t)), some (.ref (sS i + 1)), some (.int (x2)), some (.int (x3)), some (.int (a4_6 ||| ((nI 1) <<< (a5_6 &&& 31)))), some (.int (a5_6))], []) from rfl) ?_
        exact AE.sub (L' := [some (.ref (t)), some (.ref (sS i + 1)), some (.int (x2)), some (.int (x3)), some (.int (a4_6 ||| ((nI 1) <<< (a5_6 &&& 31)))), some (.int (a5_6))]) (And.intro rfl (And.intro rfl (And.intro rfl (And.intro rfl (And.intro rfl (And.intro rfl trivial)))))) (hj54 (a4_6 ||| ((nI 1) <<< (a5_6 &&& 31))) V1 h)
theorem lk_X7_onlyAround_6 {U : am_U} {l : Launch} (B : am_base xx U) (hfl : l.stackTraces = false) {G : am_G} (K : aK U l G RX7 cX7_onlyAround 6 (some .int) 1 0 21) (hex : am_nx G) {r : (Option Value ⊕ String) × am_V} {t : Nat} {i : Nat} {x2 : Int32} {x3 : Int32} (ht : t = 20 ∨ t = 30) (hi : i < 12) {kc : Nat} (hkc : kc ≤ 0) {kx : Int32 → Int32 → am_V → am_R} (hx : ∀ (a4_6 : Int32) (a5_6 : Int32) (Vq : am_V), kx a4_6 a5_6 Vq = some r → AE U G 6 1 0 21 r kc Vq 60 [none, none, none, none, some (.int (a4_6)), none] []) : ∀ (f9 : Nat) (a4_6 : Int32) (a5_6 : Int32) (Vq : am_V), lp_X7_onlyAround_6 t i x2 x3 kx f9 a4_6 a5_6 Vq = some r → AE U G 6 1 0 21 r kc Vq 6 [some (.ref (t)), some (.ref (sS i + 1)), some (.int (x2)), some (.int (x3)), some (.int (a4_6)), some (.int (a5_6))] [] := by
  intro f9
  induction f9 with
  | zero =>
    intro a4_6 a5_6 Vq h
    cases h
  | succ f9 ih =>
    intro a4_6 a5_6 Vq h
    exact bk_X7_onlyAround_6 B hfl K hex ht hi hkc hx ih a4_6 a5_6 Vq h
set_option maxRecDepth 100000 in
set_option maxHeartbeats 4000000 in
theorem kX7_onlyAround {U : am_U} {l : Launch} (B : am_base xx U) (hfl : l.stackTraces = false) {V : am_V} {t : Nat} {i : Nat} {x2 : Int32} {x3 : Int32} (ht : t = 20 ∨ t = 30) (hi : i < 12) {r : (Option Value ⊕ String) × am_V} (h : d_X7_onlyAround t i x2 x3 V = some r) : am_Ct xx U l yX7_onlyAround cX7_onlyAround 6 (some .int) (rk 1 0 21) [.ref (t), .ref (sS i + 1), .int (x2), .int (x3)] V (am_is r.1 r.2) := by
  refine am_Ct.of B hfl (by decide) (Nat.le_of_ble_eq_true rfl) ?_
  intro G hgl hgR hr ok h0 hex
  have K : aK U l G RX7 cX7_onlyAround 6 (some .int) 1 0 21 := ⟨hgl, hgR, hr, ok, h0⟩
  unfold d_X7_onlyAround at h
  show AE U G 6 1 0 21 r 0 V 0 [some (.ref (t)), some (.ref (sS i + 1)), some (.int (x2)), some (.int (x3)), none, none] []
  refine AE.run K eX7_onlyAround 0 4 (show am_run 6 ((tX7_onlyAround.drop 0).take 4) 0 [some (.ref (t)), some (.ref (sS i + 1)), some (.int (x2)), some (.int (x3)), none, none] [] = some (6, [some (.ref (t)), some (.ref (sS i + 1)), some (.int (x2)), some (.int (x3)), some (.int (nI 0)), some (.int (nI 0))], []) from rfl) ?_
  refine AE.sub (L' := [some (.ref (t)), some (.ref (sS i + 1)), some (.int (x2)), some (.int (x3)), some (.int (nI 0)), some (.int (nI 0))]) (And.intro rfl (And.intro rfl (And.intro rfl (And.intro rfl (And.intro rfl (And.intro rfl trivial)))))) ?_
  refine lk_X7_onlyAround_6 B hfl K hex ht hi (by omega) ?_ 1000 (nI 0) (nI 0) V h
  intro a4_6 a5_6 V_6x h
  refine AE.run K eX7_onlyAround 32 1 (show am_run 6 ((tX7_onlyAround.drop 32).take 1) 60 [none, none, none, none, some (.int (a4_6)), none] [] = some (62, [none, none, none, none, some (.int (a4_6)), none], [.int (a4_6)]) from rfl) ?_
  exact AE.iret K (by omega) (am_at eX7_onlyAround 33 rfl) h
def bd_X7_chooseInOrder_2 (t : Nat) (i : Nat) (x2 : Int32) (kx kr : Int32 → am_V → am_R) (a3_2 : Int32) (V_2 : am_V) : am_R := (if (nI 9) ≤ a3_2 then kx a3_2 V_2 else rG (am_in a3_2 9) (rV (am_set V_2 (t + 5) (iN a3_2) a3_2) (fun (V1 : am_V) => kr (a3_2 + nI 1) V1)))
def lp_X7_chooseInOrder_2 (t : Nat) (i : Nat) (x2 : Int32) (kx : Int32 → am_V → am_R) : Nat → Int32 → am_V → am_R
  | 0, _, _ => none
  | f9 + 1, a3_2, V_2 => bd_X7_chooseInOrder_2 t i x2 kx (lp_X7_chooseInOrder_2 t i x2 kx f9) a3_2 V_2
def bd_X7_chooseInOrder_36 (t : Nat) (i : Nat) (x2 : Int32) (a4_26 : Int32) (kx kr : Int32 → Int32 → am_V → am_R) (a3_36 : Int32) (a5_36 : Int32) (V_36 : am_V) : am_R := (if (V_36 (sS i + 1) 7) ≤ a5_36 then kx a3_36 a5_36 V_36 else rG (am_in a5_36 16) (rB (fun (b3_83 : Int32) (V_83 : am_V) => kr b3_83 (a5_36 + nI 1) V_83) (fun (j83 : Int32 → am_V → am_R) => (if ¬ (V_36 (sS i + 7) (iN a5_36)) = a4_26 then j83 a3_36 V_36 else rI (d_X6_isOpen i a5_36 V_36) (fun (y3 : Int32) (V2 : am_V) => (if y3 = 0 then j83 a3_36 V2 else rI (d_X7_joinLabels t i a5_36 V2) (fun (y5 : Int32) (V4 : am_V) => (if y5 = 0 then j83 a3_36 V4 else j83 (a3_36 ||| ((nI 1) <<< (a5_36 &&& 31))) V4))))))))
def lp_X7_chooseInOrder_36 (t : Nat) (i : Nat) (x2 : Int32) (a4_26 : Int32) (kx : Int32 → Int32 → am_V → am_R) : Nat → Int32 → Int32 → am_V → am_R
  | 0, _, _, _ => none
  | f9 + 1, a3_36, a5_36, V_36 => bd_X7_chooseInOrder_36 t i x2 a4_26 kx (lp_X7_chooseInOrder_36 t i x2 a4_26 kx f9) a3_36 a5_36 V_36
def bd_X7_chooseInOrder_26 (t : Nat) (i : Nat) (x2 : Int32) (kx kr : Int32 → Int32 → am_V → am_R) (a3_26 : Int32) (a4_26 : Int32) (V_26 : am_V) : am_R := (if (nI 9) < a4_26 then kx a3_26 a4_26 V_26 else lp_X7_chooseInOrder_36 t i x2 a4_26 (fun (a3_36 : Int32) (a5_36 : Int32) (V_36x : am_V) => kr a3_36 (a4_26 + nI 1) V_36x) 1000 a3_26 (nI 0) V_26)
def lp_X7_chooseInOrder_26 (t : Nat) (i : Nat) (x2 : Int32) (kx : Int32 → Int32 → am_V → am_R) : Nat → Int32 → Int32 → am_V → am_R
  | 0, _, _, _ => none
  | f9 + 1, a3_26, a4_26, V_26 => bd_X7_chooseInOrder_26 t i x2 kx (lp_X7_chooseInOrder_26 t i x2 kx f9) a3_26 a4_26 V_26
def d_X7_chooseInOrder (t : Nat) (i : Nat) (x2 : Int32) (V : am_V) : am_R := lp_X7_chooseInOrder_2 t i x2 (fun (a3_2 : Int32) (V_2x : am_V) => lp_X7_chooseInOrder_26 t i x2 (fun (a3_26 : Int32) (a4_26 : Int32) (V_26x : am_V) => rI (d_X7_onlyAround t i x2 a3_26 V_26x) (fun (y7 : Int32) (V6 : am_V) => some (.inl (some (.int (y7))), V6))) 1000 (nI 0) (nI 1) V_2x) 1000 (nI 0) V
set_option maxRecDepth 100000 in
set_option maxHeartbeats 4000000 in
theorem bk_X7_chooseInOrder_2 {U : am_U} {l : Launch} (B : am_base xx U) (hfl : l.stackTraces = false) {G : am_G} (K : aK U l G RX7 cX7_chooseInOrder 6 (some .int) 2 0 46) (hex : am_nx G) {r : (Option Value ⊕ String) × am_V} {t : Nat} {i : Nat} {x2 : Int32} (ht : t = 20 ∨ t = 30) (hi : i < 12) {kc : Nat} (hkc : kc ≤ 0) {kx kr : Int32 → am_V → am_R} (hx : ∀ (a3_2 : Int32) (Vq : am_V), kx a3_2 Vq = some r → AE U G 6 2 0 46 r kc Vq 21 [some (.ref (t)), some (.ref (sS i + 1)), some (.int (x2)), none, none, none] []) (hr : ∀ (a3_2 : Int32) (Vq : am_V), kr a3_2 Vq = some r → AE U G 6 2 0 46 r kc Vq 2 [some (.ref (t)), some (.ref (sS i + 1)), some (.int (x2)), some (.int (a3_2)), none, none] []) (a3_2 : Int32) (V_2 : am_V) (h : bd_X7_chooseInOrder_2 t i x2 kx kr a3_2 V_2 = some r) : AE U G 6 2 0 46 r kc V_2 2 [some (.ref (t)), some (.ref (sS i + 1)), some (.int (x2)), some (.int (a3_2)), none, none] [] := by
  unfold bd_X7_chooseInOrder_2 at h
  refine AE.run K eX7_chooseInOrder 2 2 (show am_run 6 ((tX7_chooseInOrder.drop 2).take 2) 2 [some (.ref (t)), some (.ref (sS i + 1)), some (.int (x2)), some (.int (a3_2)), none, none] [] = some (5, [some (.ref (t)), some (.ref (sS i + 1)), some (.int (x2)), some (.int (a3_2)), none, none], [.int (nI 9), .int (a3_2)]) from rfl) ?_
  refine AE.ic K 21 (am_at eX7_chooseInOrder 4 rfl) (by decide) rfl h (fun h => ?_) (fun h => ?_)
  · exact AE.sub (L' := [some (.ref (t)), some (.ref (sS i + 1)), some (.int (x2)), none, none, none]) (And.intro rfl (And.intro rfl (And.intro rfl trivial))) (hx a3_2 V_2 h)
  · refine AE.run K eX7_chooseInOrder 5 1 (show am_run 6 ((tX7_chooseInOrder.drop 5).take 1) 8 [some (.ref (t)), some (.ref (sS i + 1)), some (.int (x2)), some (.int (a3_2)), none, none] [] = some (9, [some (.ref (t)), some (.ref (sS i + 1)), some (.int (x2)), some (.int (a3_2)), none, none], [.ref (t)]) from rfl) ?_
    refine AE.getR K gf_X7_25 (sh_T0 ht) rfl (am_at eX7_chooseInOrder 6 rfl) ?_
    refine AE.run K eX7_chooseInOrder 7 2 (show am_run 6 ((tX7_chooseInOrder.drop 7).take 2) 12 [some (.ref (t)), some (.ref (sS i + 1)), some (.int (x2)), some (.int (a3_2)), none, none] [.ref (t + 5)] = some (14, [some (.ref (t)), some (.ref (sS i + 1)), some (.int (x2)), some (.int (a3_2)), none, none], [.int (a3_2), .int (a3_2), .ref (t + 5)]) from rfl) ?_
    refine AE.iast K (sh_T5 ht) (wr_T5 ht) (am_at eX7_chooseInOrder 9 rfl) h (fun V1 h => ?_)
    refine AE.run K eX7_chooseInOrder 10 2 (show am_run 6 ((tX7_chooseInOrder.drop 10).take 2) 15 [some (.ref (t)), some (.ref (sS i + 1)), some (.int (x2)), some (.int (a3_2)), none, none] [] = some (2, [some (.ref (t)), some (.ref (sS i + 1)), some (.int (x2)), some (.int (a3_2 + nI 1)), none, none], []) from rfl) ?_
    exact AE.sub (L' := [some (.ref (t)), some (.ref (sS i + 1)), some (.int (x2)), some (.int (a3_2 + nI 1)), none, none]) (And.intro rfl (And.intro rfl (And.intro rfl (And.intro rfl trivial)))) (hr (a3_2 + nI 1) V1 h)
theorem lk_X7_chooseInOrder_2 {U : am_U} {l : Launch} (B : am_base xx U) (hfl : l.stackTraces = false) {G : am_G} (K : aK U l G RX7 cX7_chooseInOrder 6 (some .int) 2 0 46) (hex : am_nx G) {r : (Option Value ⊕ String) × am_V} {t : Nat} {i : Nat} {x2 : Int32} (ht : t = 20 ∨ t = 30) (hi : i < 12) {kc : Nat} (hkc : kc ≤ 0) {kx : Int32 → am_V → am_R} (hx : ∀ (a3_2 : Int32) (Vq : am_V), kx a3_2 Vq = some r → AE U G 6 2 0 46 r kc Vq 21 [some (.ref (t)), some (.ref (sS i + 1)), some (.int (x2)), none, none, none] []) : ∀ (f9 : Nat) (a3_2 : Int32) (Vq : am_V), lp_X7_chooseInOrder_2 t i x2 kx f9 a3_2 Vq = some r → AE U G 6 2 0 46 r kc Vq 2 [some (.ref (t)), some (.ref (sS i + 1)), some (.int (x2)), some (.int (a3_2)), none, none] [] := by
  intro f9
  induction f9 with
  | zero =>
    intro a3_2 Vq h
    cases h
  | succ f9 ih =>
    intro a3_2 Vq h
    exact bk_X7_chooseInOrder_2 B hfl K hex ht hi hkc hx ih a3_2 Vq h
set_option maxRecDepth 100000 in
set_option maxHeartbeats 4000000 in
theorem bk_X7_chooseInOrder_36 {U : am_U} {l : Launch} (B : am_base xx U) (hfl : l.stackTraces = false) {G : am_G} (K : aK U l G RX7 cX7_chooseInOrder 6 (some .int) 2 0 46) (hex : am_nx G) {r : (Option Value ⊕ String) × am_V} {t : Nat} {i : Nat} {x2 : Int32} {a4_26 : Int32} (ht : t = 20 ∨ t = 30) (hi : i < 12) {kc : Nat} (hkc : kc ≤ 0) {kx kr : Int32 → Int32 → am_V → am_R} (hx : ∀ (a3_36 : Int32) (a5_36 : Int32) (Vq : am_V), kx a3_36 a5_36 Vq = some r → AE U G 6 2 0 46 r kc Vq 89 [some (.ref (t)), some (.ref (sS i + 1)), some (.int (x2)), some (.int (a3_36)), some (.int (a4_26)), none] []) (hr : ∀ (a3_36 : Int32) (a5_36 : Int32) (Vq : am_V), kr a3_36 a5_36 Vq = some r → AE U G 6 2 0 46 r kc Vq 36 [some (.ref (t)), some (.ref (sS i + 1)), some (.int (x2)), some (.int (a3_36)), some (.int (a4_26)), some (.int (a5_36))] []) (a3_36 : Int32) (a5_36 : Int32) (V_36 : am_V) (h : bd_X7_chooseInOrder_36 t i x2 a4_26 kx kr a3_36 a5_36 V_36 = some r) : AE U G 6 2 0 46 r kc V_36 36 [some (.ref (t)), some (.ref (sS i + 1)), some (.int (x2)), some (.int (a3_36)), some (.int (a4_26)), some (.int (a5_36))] [] := by
  unfold bd_X7_chooseInOrder_36 at h
  refine AE.run K eX7_chooseInOrder 21 2 (show am_run 6 ((tX7_chooseInOrder.drop 21).take 2) 36 [some (.ref (t)), some (.ref (sS i + 1)), some (.int (x2)), some (.int (a3_36)), some (.int (a4_26)), some (.int (a5_36))] [] = some (39, [some (.ref (t)), some (.ref (sS i + 1)), some (.int (x2)), some (.int (a3_36)), some (.int (a4_26)), some (.int (a5_36))], [.ref (sS i + 1), .int (a5_36)]) from rfl) ?_
  refine AE.getI K gf_X7_42 (sh_S1 hi) rfl (am_at eX7_chooseInOrder 23 rfl) ?_
  refine AE.ic K 89 (am_at eX7_chooseInOrder 24 rfl) (by decide) rfl h (fun h => ?_) (fun h => ?_)
  · exact AE.sub (L' := [some (.ref (t)), some (.ref (sS i + 1)), some (.int (x2)), some (.int (a3_36)), some (.int (a4_26)), none]) (And.intro rfl (And.intro rfl (And.intro rfl (And.intro rfl (And.intro rfl trivial))))) (hx a3_36 a5_36 V_36 h)
  · refine AE.run K eX7_chooseInOrder 25 1 (show am_run 6 ((tX7_chooseInOrder.drop 25).take 1) 45 [some (.ref (t)), some (.ref (sS i + 1)), some (.int (x2)), some (.int (a3_36)), some (.int (a4_26)), some (.int (a5_36))] [] = some (46, [some (.ref (t)), some (.ref (sS i + 1)), some (.int (x2)), some (.int (a3_36)), some (.int (a4_26)), some (.int (a5_36))], [.ref (sS i + 1)]) from rfl) ?_
    refine AE.getR K gf_X7_55 (sh_S1 hi) rfl (am_at eX7_chooseInOrder 26 rfl) ?_
    refine AE.run K eX7_chooseInOrder 27 1 (show am_run 6 ((tX7_chooseInOrder.drop 27).take 1) 49 [some (.ref (t)), some (.ref (sS i + 1)), some (.int (x2)), some (.int (a3_36)), some (.int (a4_26)), some (.int (a5_36))] [.ref (sS i + 7)] = some (51, [some (.ref (t)), some (.ref (sS i + 1)), some (.int (x2)), some (.int (a3_36)), some (.int (a4_26)), some (.int (a5_36))], [.int (a5_36), .ref (sS i + 7)]) from rfl) ?_
    refine AE.iald K (sh_S7 hi) (am_at eX7_chooseInOrder 28 rfl) h (fun h => ?_)
    refine AE.run K eX7_chooseInOrder 29 1 (show am_run 6 ((tX7_chooseInOrder.drop 29).take 1) 52 [some (.ref (t)), some (.ref (sS i + 1)), some (.int (x2)), some (.int (a3_36)), some (.int (a4_26)), some (.int (a5_36))] [.int (V_36 (sS i + 7) (iN a5_36))] = some (54, [some (.ref (t)), some (.ref (sS i + 1)), some (.int (x2)), some (.int (a3_36)), some (.int (a4_26)), some (.int (a5_36))], [.int (a4_26), .int (V_36 (sS i + 7) (iN a5_36))]) from rfl) ?_
    refine rB_of (P := fun (j : Int32 → am_V → am_R) => ∀ (b3_83 : Int32) (V_83 : am_V), j b3_83 V_83 = some r → AE U G 6 2 0 46 r (kc) V_83 83 [some (.ref (t)), some (.ref (sS i + 1)), some (.int (x2)), some (.int (b3_83)), some (.int (a4_26)), some (.int (a5_36))] []) h (fun b3_83 V_83 h => ?_) (fun j83 hj83 h => ?_)
    · refine AE.run K eX7_chooseInOrder 46 2 (show am_run 6 ((tX7_chooseInOrder.drop 46).take 2) 83 [some (.ref (t)), some (.ref (sS i + 1)), some (.int (x2)), some (.int (b3_83)), some (.int (a4_26)), some (.int (a5_36))] [] = some (36, [some (.ref (t)), some (.ref (sS i + 1)), some (.int (x2)), some (.int (b3_83)), some (.int (a4_26)), some (.int (a5_36 + nI 1))], []) from rfl) ?_
      exact AE.sub (L' := [some (.ref (t)), some (.ref (sS i + 1)), some (.int (x2)), some (.int (b3_83)), some (.int (a4_26)), some (.int (a5_36 + nI 1))]) (And.intro rfl (And.intro rfl (And.intro rfl (And.intro rfl (And.intro rfl (And.intro rfl trivial)))))) (hr b3_83 (a5_36 + nI 1) V_83 h)
    refine AE.ic K 83 (am_at eX7_chooseInOrder 30 rfl) (by decide) rfl h (fun h => ?_) (fun h => ?_)
    · exact AE.sub (L' := [some (.ref (t)), some (.ref (sS i + 1)), some (.int (x2)), some (.int (a3_36)), some (.int (a4_26)), some (.int (a5_36))]) (And.intro rfl (And.intro rfl (And.intro rfl (And.intro rfl (And.intro rfl (And.intro rfl trivial)))))) (hj83 a3_36 V_36 h)
    · refine AE.run K eX7_chooseInOrder 31 2 (show am_run 6 ((tX7_chooseInOrder.drop 31).take 2) 57 [some (.ref (t)), some (.ref (sS i + 1)), some (.int (x2)), some (.int (a3_36)), some (.int (a4_26)), some (.int (a5_36))] [] = some (60, [some (.ref (t)), some (.ref (sS i + 1)), some (.int (x2)), some (.int (a3_36)), some (.int (a4_26)), some (.int (a5_36))], [.int (a5_36), .ref (sS i + 1)]) from rfl) ?_
      refine AE.cv (f' := 0) (c' := 0) (lo' := 0) (st := []) (As := [.int (a5_36)]) (m := d_X6_isOpen i a5_36 V_36) K hex (fun q hq => kX6_isOpen B hfl (i := i) hi hq) cv_X7_51 (sh_S1 hi) (T := TX6) (N := 8) rfl rfl rfl (Nat.le_of_ble_eq_true rfl) ⟨Nat.le_of_ble_eq_true rfl, Nat.le_of_ble_eq_true rfl⟩ (by omega) (am_at eX7_chooseInOrder 33 rfl) h (rI_some h) (bkI (fun y3 V2 h => ?_))
      refine AE.if0 K 83 (am_at eX7_chooseInOrder 34 rfl) (by decide) rfl h (fun h => ?_) (fun h => ?_)
      · exact AE.sub (L' := [some (.ref (t)), some (.ref (sS i + 1)), some (.int (x2)), some (.int (a3_36)), some (.int (a4_26)), some (.int (a5_36))]) (And.intro rfl (And.intro rfl (And.intro rfl (And.intro rfl (And.intro rfl (And.intro rfl trivial)))))) (hj83 a3_36 V2 h)
      · refine AE.run K eX7_chooseInOrder 35 3 (show am_run 6 ((tX7_chooseInOrder.drop 35).take 3) 66 [some (.ref (t)), some (.ref (sS i + 1)), some (.int (x2)), some (.int (a3_36)), some (.int (a4_26)), some (.int (a5_36))] [] = some (70, [some (.ref (t)), some (.ref (sS i + 1)), some (.int (x2)), some (.int (a3_36)), some (.int (a4_26)), some (.int (a5_36))], [.int (a5_36), .ref (sS i + 1), .ref (t)]) from rfl) ?_
        refine AE.cv (f' := 0) (c' := 0) (lo' := 0) (st := []) (As := [.ref (sS i + 1), .int (a5_36)]) (m := d_X7_joinLabels t i a5_36 V2) K hex (fun q hq => kX7_joinLabels B hfl (t := t) (i := i) ht hi hq) cv_X7_66 (sh_T0 ht) (T := TX7) (N := 5) rfl rfl rfl (Nat.le_of_ble_eq_true rfl) ⟨Nat.le_of_ble_eq_true rfl, Nat.le_of_ble_eq_true rfl⟩ (by omega) (am_at eX7_chooseInOrder 38 rfl) h (rI_some h) (bkI (fun y5 V4 h => ?_))
        refine AE.if0 K 83 (am_at eX7_chooseInOrder 39 rfl) (by decide) rfl h (fun h => ?_) (fun h => ?_)
        · exact AE.sub (L' := [some (.ref (t)), some (.ref (sS i + 1)), some (.int (x2)), some (.int (a3_36)), some (.int (a4_26)), some (.int (a5_36))]) (And.intro rfl (And.intro rfl (And.intro rfl (And.intro rfl (And.intro rfl (And.intro rfl trivial)))))) (hj83 a3_36 V4 h)
        · refine AE.run K eX7_chooseInOrder 40 6 (show am_run 6 ((tX7_chooseInOrder.drop 40).take 6) 76 [some (.ref (t)), some (.ref (sS i + 1)), some (.int (x2)), some (.int (a3_36)), some (.int (a4_26)), some (.int (a5_36))] [] = some (83, [some (.ref (t)), some (.ref (sS i + 1)), some (.int (x2)), some (.int (a3_36 ||| ((nI 1) <<< (a5_36 &&& 31)))), some (.int (a4_26)), some (.int (a5_36))], []) from rfl) ?_
          exact AE.sub (L' := [some (.ref (t)), some (.ref (sS i + 1)), some (.int (x2)), some (.int (a3_36 ||| ((nI 1) <<< (a5_36 &&& 31)))), some (.int (a4_26)), some (.int (a5_36))]) (And.intro rfl (And.intro rfl (And.intro rfl (And.intro rfl (And.intro rfl (And.intro rfl trivial)))))) (hj83 (a3_36 ||| ((nI 1) <<< (a5_36 &&& 31))) V4 h)
theorem lk_X7_chooseInOrder_36 {U : am_U} {l : Launch} (B : am_base xx U) (hfl : l.stackTraces = false) {G : am_G} (K : aK U l G RX7 cX7_chooseInOrder 6 (some .int) 2 0 46) (hex : am_nx G) {r : (Option Value ⊕ String) × am_V} {t : Nat} {i : Nat} {x2 : Int32} {a4_26 : Int32} (ht : t = 20 ∨ t = 30) (hi : i < 12) {kc : Nat} (hkc : kc ≤ 0) {kx : Int32 → Int32 → am_V → am_R} (hx : ∀ (a3_36 : Int32) (a5_36 : Int32) (Vq : am_V), kx a3_36 a5_36 Vq = some r → AE U G 6 2 0 46 r kc Vq 89 [some (.ref (t)), some (.ref (sS i + 1)), some (.int (x2)), some (.int (a3_36)), some (.int (a4_26)), none] []) : ∀ (f9 : Nat) (a3_36 : Int32) (a5_36 : Int32) (Vq : am_V), lp_X7_chooseInOrder_36 t i x2 a4_26 kx f9 a3_36 a5_36 Vq = some r → AE U G 6 2 0 46 r kc Vq 36 [some (.ref (t)), some (.ref (sS i + 1)), some (.int (x2)), some (.int (a3_36)), some (.int (a4_26)), some (.int (a5_36))] [] := by
  intro f9
  induction f9 with
  | zero =>
    intro a3_36 a5_36 Vq h
    cases h
  | succ f9 ih =>
    intro a3_36 a5_36 Vq h
    exact bk_X7_chooseInOrder_36 B hfl K hex ht hi hkc hx ih a3_36 a5_36 Vq h
set_option maxRecDepth 100000 in
set_option maxHeartbeats 4000000 in
theorem bk_X7_chooseInOrder_26 {U : am_U} {l : Launch} (B : am_base xx U) (hfl : l.stackTraces = false) {G : am_G} (K : aK U l G RX7 cX7_chooseInOrder 6 (some .int) 2 0 46) (hex : am_nx G) {r : (Option Value ⊕ String) × am_V} {t : Nat} {i : Nat} {x2 : Int32} (ht : t = 20 ∨ t = 30) (hi : i < 12) {kc : Nat} (hkc : kc ≤ 0) {kx kr : Int32 → Int32 → am_V → am_R} (hx : ∀ (a3_26 : Int32) (a4_26 : Int32) (Vq : am_V), kx a3_26 a4_26 Vq = some r → AE U G 6 2 0 46 r kc Vq 95 [some (.ref (t)), some (.ref (sS i + 1)), some (.int (x2)), some (.int (a3_26)), none, none] []) (hr : ∀ (a3_26 : Int32) (a4_26 : Int32) (Vq : am_V), kr a3_26 a4_26 Vq = some r → AE U G 6 2 0 46 r kc Vq 26 [some (.ref (t)), some (.ref (sS i + 1)), some (.int (x2)), some (.int (a3_26)), some (.int (a4_26)), none] []) (a3_26 : Int32) (a4_26 : Int32) (V_26 : am_V) (h : bd_X7_chooseInOrder_26 t i x2 kx kr a3_26 a4_26 V_26 = some r) : AE U G 6 2 0 46 r kc V_26 26 [some (.ref (t)), some (.ref (sS i + 1)), some (.int (x2)), some (.int (a3_26)), some (.int (a4_26)), none] [] := by
  unfold bd_X7_chooseInOrder_26 at h
  refine AE.run K eX7_chooseInOrder 16 2 (show am_run 6 ((tX7_chooseInOrder.drop 16).take 2) 26 [some (.ref (t)), some (.ref (sS i + 1)), some (.int (x2)), some (.int (a3_26)), some (.int (a4_26)), none] [] = some (30, [some (.ref (t)), some (.ref (sS i + 1)), some (.int (x2)), some (.int (a3_26)), some (.int (a4_26)), none], [.int (nI 9), .int (a4_26)]) from rfl) ?_
  refine AE.ic K 95 (am_at eX7_chooseInOrder 18 rfl) (by decide) rfl h (fun h => ?_) (fun h => ?_)
  · exact AE.sub (L' := [some (.ref (t)), some (.ref (sS i + 1)), some (.int (x2)), some (.int (a3_26)), none, none]) (And.intro rfl (And.intro rfl (And.intro rfl (And.intro rfl trivial)))) (hx a3_26 a4_26 V_26 h)
  · refine AE.run K eX7_chooseInOrder 19 2 (show am_run 6 ((tX7_chooseInOrder.drop 19).take 2) 33 [some (.ref (t)), some (.ref (sS i + 1)), some (.int (x2)), some (.int (a3_26)), some (.int (a4_26)), none] [] = some (36, [some (.ref (t)), some (.ref (sS i + 1)), some (.int (x2)), some (.int (a3_26)), some (.int (a4_26)), some (.int (nI 0))], []) from rfl) ?_
    refine AE.sub (L' := [some (.ref (t)), some (.ref (sS i + 1)), some (.int (x2)), some (.int (a3_26)), some (.int (a4_26)), some (.int (nI 0))]) (And.intro rfl (And.intro rfl (And.intro rfl (And.intro rfl (And.intro rfl (And.intro rfl trivial)))))) ?_
    refine lk_X7_chooseInOrder_36 B hfl K hex ht hi (by omega) ?_ 1000 a3_26 (nI 0) V_26 h
    intro a3_36 a5_36 V_36x h
    refine AE.run K eX7_chooseInOrder 48 2 (show am_run 6 ((tX7_chooseInOrder.drop 48).take 2) 89 [some (.ref (t)), some (.ref (sS i + 1)), some (.int (x2)), some (.int (a3_36)), some (.int (a4_26)), none] [] = some (26, [some (.ref (t)), some (.ref (sS i + 1)), some (.int (x2)), some (.int (a3_36)), some (.int (a4_26 + nI 1)), none], []) from rfl) ?_
    exact AE.sub (L' := [some (.ref (t)), some (.ref (sS i + 1)), some (.int (x2)), some (.int (a3_36)), some (.int (a4_26 + nI 1)), none]) (And.intro rfl (And.intro rfl (And.intro rfl (And.intro rfl (And.intro rfl trivial))))) (hr a3_36 (a4_26 + nI 1) V_36x h)
theorem lk_X7_chooseInOrder_26 {U : am_U} {l : Launch} (B : am_base xx U) (hfl : l.stackTraces = false) {G : am_G} (K : aK U l G RX7 cX7_chooseInOrder 6 (some .int) 2 0 46) (hex : am_nx G) {r : (Option Value ⊕ String) × am_V} {t : Nat} {i : Nat} {x2 : Int32} (ht : t = 20 ∨ t = 30) (hi : i < 12) {kc : Nat} (hkc : kc ≤ 0) {kx : Int32 → Int32 → am_V → am_R} (hx : ∀ (a3_26 : Int32) (a4_26 : Int32) (Vq : am_V), kx a3_26 a4_26 Vq = some r → AE U G 6 2 0 46 r kc Vq 95 [some (.ref (t)), some (.ref (sS i + 1)), some (.int (x2)), some (.int (a3_26)), none, none] []) : ∀ (f9 : Nat) (a3_26 : Int32) (a4_26 : Int32) (Vq : am_V), lp_X7_chooseInOrder_26 t i x2 kx f9 a3_26 a4_26 Vq = some r → AE U G 6 2 0 46 r kc Vq 26 [some (.ref (t)), some (.ref (sS i + 1)), some (.int (x2)), some (.int (a3_26)), some (.int (a4_26)), none] [] := by
  intro f9
  induction f9 with
  | zero =>
    intro a3_26 a4_26 Vq h
    cases h
  | succ f9 ih =>
    intro a3_26 a4_26 Vq h
    exact bk_X7_chooseInOrder_26 B hfl K hex ht hi hkc hx ih a3_26 a4_26 Vq h
set_option maxRecDepth 100000 in
set_option maxHeartbeats 4000000 in
theorem kX7_chooseInOrder {U : am_U} {l : Launch} (B : am_base xx U) (hfl : l.stackTraces = false) {V : am_V} {t : Nat} {i : Nat} {x2 : Int32} (ht : t = 20 ∨ t = 30) (hi : i < 12) {r : (Option Value ⊕ String) × am_V} (h : d_X7_chooseInOrder t i x2 V = some r) : am_Ct xx U l yX7_chooseInOrder cX7_chooseInOrder 6 (some .int) (rk 2 0 46) [.ref (t), .ref (sS i + 1), .int (x2)] V (am_is r.1 r.2) := by
  refine am_Ct.of B hfl (by decide) (Nat.le_of_ble_eq_true rfl) ?_
  intro G hgl hgR hr ok h0 hex
  have K : aK U l G RX7 cX7_chooseInOrder 6 (some .int) 2 0 46 := ⟨hgl, hgR, hr, ok, h0⟩
  unfold d_X7_chooseInOrder at h
  show AE U G 6 2 0 46 r 0 V 0 [some (.ref (t)), some (.ref (sS i + 1)), some (.int (x2)), none, none, none] []
  refine AE.run K eX7_chooseInOrder 0 2 (show am_run 6 ((tX7_chooseInOrder.drop 0).take 2) 0 [some (.ref (t)), some (.ref (sS i + 1)), some (.int (x2)), none, none, none] [] = some (2, [some (.ref (t)), some (.ref (sS i + 1)), some (.int (x2)), some (.int (nI 0)), none, none], []) from rfl) ?_
  refine AE.sub (L' := [some (.ref (t)), some (.ref (sS i + 1)), some (.int (x2)), some (.int (nI 0)), none, none]) (And.intro rfl (And.intro rfl (And.intro rfl (And.intro rfl trivial)))) ?_
  refine lk_X7_chooseInOrder_2 B hfl K hex ht hi (by omega) ?_ 1000 (nI 0) V h
  intro a3_2 V_2x h
  refine AE.run K eX7_chooseInOrder 12 4 (show am_run 6 ((tX7_chooseInOrder.drop 12).take 4) 21 [some (.ref (t)), some (.ref (sS i + 1)), some (.int (x2)), none, none, none] [] = some (26, [some (.ref (t)), some (.ref (sS i + 1)), some (.int (x2)), some (.int (nI 0)), some (.int (nI 1)), none], []) from rfl) ?_
  refine AE.sub (L' := [some (.ref (t)), some (.ref (sS i + 1)), some (.int (x2)), some (.int (nI 0)), some (.int (nI 1)), none]) (And.intro rfl (And.intro rfl (And.intro rfl (And.intro rfl (And.intro rfl trivial))))) ?_
  refine lk_X7_chooseInOrder_26 B hfl K hex ht hi (by omega) ?_ 1000 (nI 0) (nI 1) V_2x h
  intro a3_26 a4_26 V_26x h
  refine AE.run K eX7_chooseInOrder 50 4 (show am_run 6 ((tX7_chooseInOrder.drop 50).take 4) 95 [some (.ref (t)), some (.ref (sS i + 1)), some (.int (x2)), some (.int (a3_26)), none, none] [] = some (99, [some (.ref (t)), some (.ref (sS i + 1)), some (.int (x2)), some (.int (a3_26)), none, none], [.int (a3_26), .int (x2), .ref (sS i + 1), .ref (t)]) from rfl) ?_
  refine AE.cv (f' := 1) (c' := 0) (lo' := 21) (st := []) (As := [.ref (sS i + 1), .int (x2), .int (a3_26)]) (m := d_X7_onlyAround t i x2 a3_26 V_26x) K hex (fun q hq => kX7_onlyAround B hfl (t := t) (i := i) ht hi hq) cv_X7_70 (sh_T0 ht) (T := TX7) (N := 5) rfl rfl rfl (Nat.le_of_ble_eq_true rfl) ⟨Nat.le_of_ble_eq_true rfl, Nat.le_of_ble_eq_true rfl⟩ (by omega) (am_at eX7_chooseInOrder 54 rfl) h (rI_some h) (bkI (fun y7 V6 h => ?_))
  exact AE.iret K (by omega) (am_at eX7_chooseInOrder 55 rfl) h
def bd_X7_costInOrder_13 (i : Nat) (y2 : Int32) (kx kr : Int32 → Int32 → am_V → am_R) (a4_13 : Int32) (a5_13 : Int32) (V_13 : am_V) : am_R := (if (V_13 (sS i + 1) 7) ≤ a5_13 then kx a4_13 a5_13 V_13 else rI (d_X11_hasBit y2 a5_13 V_13) (fun (y4 : Int32) (V3 : am_V) => rB (fun (b4_43 : Int32) (V_43 : am_V) => kr b4_43 (a5_13 + nI 1) V_43) (fun (j43 : Int32 → am_V → am_R) => (if y4 = 0 then j43 a4_13 V3 else rG (am_in a5_13 16) (j43 (a4_13 + (V3 (sS i + 7) (iN a5_13))) V3)))))
def lp_X7_costInOrder_13 (i : Nat) (y2 : Int32) (kx : Int32 → Int32 → am_V → am_R) : Nat → Int32 → Int32 → am_V → am_R
  | 0, _, _, _ => none
  | f9 + 1, a4_13, a5_13, V_13 => bd_X7_costInOrder_13 i y2 kx (lp_X7_costInOrder_13 i y2 kx f9) a4_13 a5_13 V_13
def d_X7_costInOrder (t : Nat) (i : Nat) (x2 : Int32) (V : am_V) : am_R := rI (d_X7_chooseInOrder t i x2 V) (fun (y2 : Int32) (V1 : am_V) => lp_X7_costInOrder_13 i y2 (fun (a4_13 : Int32) (a5_13 : Int32) (V_13x : am_V) => some (.inl (some (.int (a4_13))), V_13x)) 1000 (nI 0) (nI 0) V1)
set_option maxRecDepth 100000 in
set_option maxHeartbeats 4000000 in
theorem bk_X7_costInOrder_13 {U : am_U} {l : Launch} (B : am_base xx U) (hfl : l.stackTraces = false) {G : am_G} (K : aK U l G RX7 cX7_costInOrder 6 (some .int) 3 0 71) (hex : am_nx G) {r : (Option Value ⊕ String) × am_V} {i : Nat} {y2 : Int32} (hi : i < 12) {kc : Nat} (hkc : kc ≤ 0) {kx kr : Int32 → Int32 → am_V → am_R} (hx : ∀ (a4_13 : Int32) (a5_13 : Int32) (Vq : am_V), kx a4_13 a5_13 Vq = some r → AE U G 6 3 0 71 r kc Vq 49 [none, none, none, none, some (.int (a4_13)), none] []) (hr : ∀ (a4_13 : Int32) (a5_13 : Int32) (Vq : am_V), kr a4_13 a5_13 Vq = some r → AE U G 6 3 0 71 r kc Vq 13 [none, some (.ref (sS i + 1)), none, some (.int (y2)), some (.int (a4_13)), some (.int (a5_13))] []) (a4_13 : Int32) (a5_13 : Int32) (V_13 : am_V) (h : bd_X7_costInOrder_13 i y2 kx kr a4_13 a5_13 V_13 = some r) : AE U G 6 3 0 71 r kc V_13 13 [none, some (.ref (sS i + 1)), none, some (.int (y2)), some (.int (a4_13)), some (.int (a5_13))] [] := by
  unfold bd_X7_costInOrder_13 at h
  refine AE.run K eX7_costInOrder 9 2 (show am_run 6 ((tX7_costInOrder.drop 9).take 2) 13 [none, some (.ref (sS i + 1)), none, some (.int (y2)), some (.int (a4_13)), some (.int (a5_13))] [] = some (16, [none, some (.ref (sS i + 1)), none, some (.int (y2)), some (.int (a4_13)), some (.int (a5_13))], [.ref (sS i + 1), .int (a5_13)]) from rfl) ?_
  refine AE.getI K gf_X7_42 (sh_S1 hi) rfl (am_at eX7_costInOrder 11 rfl) ?_
  refine AE.ic K 49 (am_at eX7_costInOrder 12 rfl) (by decide) rfl h (fun h => ?_) (fun h => ?_)
  · exact AE.sub (L' := [none, none, none, none, some (.int (a4_13)), none]) (And.intro rfl trivial) (hx a4_13 a5_13 V_13 h)
  · refine AE.run K eX7_costInOrder 13 2 (show am_run 6 ((tX7_costInOrder.drop 13).take 2) 22 [none, some (.ref (sS i + 1)), none, some (.int (y2)), some (.int (a4_13)), some (.int (a5_13))] [] = some (25, [none, some (.ref (sS i + 1)), none, some (.int (y2)), some (.int (a4_13)), some (.int (a5_13))], [.int (a5_13), .int (y2)]) from rfl) ?_
    refine AE.cn (f' := 0) (c' := 0) (lo' := 0) (st := []) (As := [.int (y2), .int (a5_13)]) (m := d_X11_hasBit y2 a5_13 V_13) K hex (fun q hq => kX11_hasBit B hfl hq) cn_X7_74 rfl rfl (Nat.le_of_ble_eq_true rfl) ⟨Nat.le_of_ble_eq_true rfl, Nat.le_of_ble_eq_true rfl⟩ (by omega) (am_at eX7_costInOrder 15 rfl) h (rI_some h) (bkI (fun y4 V3 h => ?_))
    refine rB_of (P := fun (j : Int32 → am_V → am_R) => ∀ (b4_43 : Int32) (V_43 : am_V), j b4_43 V_43 = some r → AE U G 6 3 0 71 r (kc) V_43 43 [none, some (.ref (sS i + 1)), none, some (.int (y2)), some (.int (b4_43)), some (.int (a5_13))] []) h (fun b4_43 V_43 h => ?_) (fun j43 hj43 h => ?_)
    · refine AE.run K eX7_costInOrder 24 2 (show am_run 6 ((tX7_costInOrder.drop 24).take 2) 43 [none, some (.ref (sS i + 1)), none, some (.int (y2)), some (.int (b4_43)), some (.int (a5_13))] [] = some (13, [none, some (.ref (sS i + 1)), none, some (.int (y2)), some (.int (b4_43)), some (.int (a5_13 + nI 1))], []) from rfl) ?_
      exact AE.sub (L' := [none, some (.ref (sS i + 1)), none, some (.int (y2)), some (.int (b4_43)), some (.int (a5_13 + nI 1))]) (And.intro rfl (And.intro rfl (And.intro rfl (And.intro rfl trivial)))) (hr b4_43 (a5_13 + nI 1) V_43 h)
    refine AE.if0 K 43 (am_at eX7_costInOrder 16 rfl) (by decide) rfl h (fun h => ?_) (fun h => ?_)
    · exact AE.sub (L' := [none, some (.ref (sS i + 1)), none, some (.int (y2)), some (.int (a4_13)), some (.int (a5_13))]) (And.intro rfl (And.intro rfl (And.intro rfl (And.intro rfl trivial)))) (hj43 a4_13 V3 h)
    · refine AE.run K eX7_costInOrder 17 2 (show am_run 6 ((tX7_costInOrder.drop 17).take 2) 31 [none, some (.ref (sS i + 1)), none, some (.int (y2)), some (.int (a4_13)), some (.int (a5_13))] [] = some (34, [none, some (.ref (sS i + 1)), none, some (.int (y2)), some (.int (a4_13)), some (.int (a5_13))], [.ref (sS i + 1), .int (a4_13)]) from rfl) ?_
      refine AE.getR K gf_X7_55 (sh_S1 hi) rfl (am_at eX7_costInOrder 19 rfl) ?_
      refine AE.run K eX7_costInOrder 20 1 (show am_run 6 ((tX7_costInOrder.drop 20).take 1) 37 [none, some (.ref (sS i + 1)), none, some (.int (y2)), some (.int (a4_13)), some (.int (a5_13))] [.ref (sS i + 7), .int (a4_13)] = some (39, [none, some (.ref (sS i + 1)), none, some (.int (y2)), some (.int (a4_13)), some (.int (a5_13))], [.int (a5_13), .ref (sS i + 7), .int (a4_13)]) from rfl) ?_
      refine AE.iald K (sh_S7 hi) (am_at eX7_costInOrder 21 rfl) h (fun h => ?_)
      refine AE.run K eX7_costInOrder 22 2 (show am_run 6 ((tX7_costInOrder.drop 22).take 2) 40 [none, some (.ref (sS i + 1)), none, some (.int (y2)), some (.int (a4_13)), some (.int (a5_13))] [.int (V3 (sS i + 7) (iN a5_13)), .int (a4_13)] = some (43, [none, some (.ref (sS i + 1)), none, some (.int (y2)), some (.int (a4_13 + (V3 (sS i + 7) (iN a5_13)))), some (.int (a5_13))], []) from rfl) ?_
      exact AE.sub (L' := [none, some (.ref (sS i + 1)), none, some (.int (y2)), some (.int (a4_13 + (V3 (sS i + 7) (iN a5_13)))), some (.int (a5_13))]) (And.intro rfl (And.intro rfl (And.intro rfl (And.intro rfl trivial)))) (hj43 (a4_13 + (V3 (sS i + 7) (iN a5_13))) V3 h)
theorem lk_X7_costInOrder_13 {U : am_U} {l : Launch} (B : am_base xx U) (hfl : l.stackTraces = false) {G : am_G} (K : aK U l G RX7 cX7_costInOrder 6 (some .int) 3 0 71) (hex : am_nx G) {r : (Option Value ⊕ String) × am_V} {i : Nat} {y2 : Int32} (hi : i < 12) {kc : Nat} (hkc : kc ≤ 0) {kx : Int32 → Int32 → am_V → am_R} (hx : ∀ (a4_13 : Int32) (a5_13 : Int32) (Vq : am_V), kx a4_13 a5_13 Vq = some r → AE U G 6 3 0 71 r kc Vq 49 [none, none, none, none, some (.int (a4_13)), none] []) : ∀ (f9 : Nat) (a4_13 : Int32) (a5_13 : Int32) (Vq : am_V), lp_X7_costInOrder_13 i y2 kx f9 a4_13 a5_13 Vq = some r → AE U G 6 3 0 71 r kc Vq 13 [none, some (.ref (sS i + 1)), none, some (.int (y2)), some (.int (a4_13)), some (.int (a5_13))] [] := by
  intro f9
  induction f9 with
  | zero =>
    intro a4_13 a5_13 Vq h
    cases h
  | succ f9 ih =>
    intro a4_13 a5_13 Vq h
    exact bk_X7_costInOrder_13 B hfl K hex hi hkc hx ih a4_13 a5_13 Vq h
set_option maxRecDepth 100000 in
set_option maxHeartbeats 4000000 in
theorem kX7_costInOrder {U : am_U} {l : Launch} (B : am_base xx U) (hfl : l.stackTraces = false) {V : am_V} {t : Nat} {i : Nat} {x2 : Int32} (ht : t = 20 ∨ t = 30) (hi : i < 12) {r : (Option Value ⊕ String) × am_V} (h : d_X7_costInOrder t i x2 V = some r) : am_Ct xx U l yX7_costInOrder cX7_costInOrder 6 (some .int) (rk 3 0 71) [.ref (t), .ref (sS i + 1), .int (x2)] V (am_is r.1 r.2) := by
  refine am_Ct.of B hfl (by decide) (Nat.le_of_ble_eq_true rfl) ?_
  intro G hgl hgR hr ok h0 hex
  have K : aK U l G RX7 cX7_costInOrder 6 (some .int) 3 0 71 := ⟨hgl, hgR, hr, ok, h0⟩
  unfold d_X7_costInOrder at h
  show AE U G 6 3 0 71 r 0 V 0 [some (.ref (t)), some (.ref (sS i + 1)), some (.int (x2)), none, none, none] []
  refine AE.run K eX7_costInOrder 0 3 (show am_run 6 ((tX7_costInOrder.drop 0).take 3) 0 [some (.ref (t)), some (.ref (sS i + 1)), some (.int (x2)), none, none, none] [] = some (3, [some (.ref (t)), some (.ref (sS i + 1)), some (.int (x2)), none, none, none], [.int (x2), .ref (sS i + 1), .ref (t)]) from rfl) ?_
  refine AE.cv (f' := 2) (c' := 0) (lo' := 46) (st := []) (As := [.ref (sS i + 1), .int (x2)]) (m := d_X7_chooseInOrder t i x2 V) K hex (fun q hq => kX7_chooseInOrder B hfl (t := t) (i := i) ht hi hq) cv_X7_78 (sh_T0 ht) (T := TX7) (N := 5) rfl rfl rfl (Nat.le_of_ble_eq_true rfl) ⟨Nat.le_of_ble_eq_true rfl, Nat.le_of_ble_eq_true rfl⟩ (by omega) (am_at eX7_costInOrder 3 rfl) h (rI_some h) (bkI (fun y2 V1 h => ?_))
  refine AE.run K eX7_costInOrder 4 5 (show am_run 6 ((tX7_costInOrder.drop 4).take 5) 6 [some (.ref (t)), some (.ref (sS i + 1)), some (.int (x2)), none, none, none] [.int (y2)] = some (13, [some (.ref (t)), some (.ref (sS i + 1)), some (.int (x2)), some (.int (y2)), some (.int (nI 0)), some (.int (nI 0))], []) from rfl) ?_
  refine AE.sub (L' := [none, some (.ref (sS i + 1)), none, some (.int (y2)), some (.int (nI 0)), some (.int (nI 0))]) (And.intro rfl (And.intro rfl (And.intro rfl (And.intro rfl trivial)))) ?_
  refine lk_X7_costInOrder_13 B hfl K hex hi (by omega) ?_ 1000 (nI 0) (nI 0) V1 h
  intro a4_13 a5_13 V_13x h
  refine AE.run K eX7_costInOrder 26 1 (show am_run 6 ((tX7_costInOrder.drop 26).take 1) 49 [none, none, none, none, some (.int (a4_13)), none] [] = some (51, [none, none, none, none, some (.int (a4_13)), none], [.int (a4_13)]) from rfl) ?_
  exact AE.iret K (by omega) (am_at eX7_costInOrder 27 rfl) h
