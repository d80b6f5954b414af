def bd_L_isFit_29 (kx kr : Int32 → Int32 → am_V → am_R) (a1_29 : Int32) (a2_29 : Int32) (V_29 : am_V) : am_R := (if a1_29 = 0 then kx a1_29 a2_29 V_29 else rI (d_X11_fieldCount V_29) (fun (y8 : Int32) (V7 : am_V) => (if y8 ≤ a2_29 then kx a1_29 a2_29 V7 else rI (d_L_isTree a2_29 V7) (fun (y10 : Int32) (V9 : am_V) => kr y10 (a2_29 + nI 2) V9))))
def lp_L_isFit_29 (kx : Int32 → Int32 → am_V → am_R) : Nat → Int32 → Int32 → am_V → am_R
  | 0, _, _, _ => none
  | f9 + 1, a1_29, a2_29, V_29 => bd_L_isFit_29 kx (lp_L_isFit_29 kx f9) a1_29 a2_29 V_29
def d_L_isFit (V : am_V) : am_R := rI (d_L_arePairs V) (fun (y2 : Int32) (V1 : am_V) => rB (fun (bs0_26 : Int32) (V_26 : am_V) => lp_L_isFit_29  (fun (a1_29 : Int32) (a2_29 : Int32) (V_29x : am_V) => rG (am_nb a1_29) (some (.inl (some (.int (a1_29))), V_29x))) 17 bs0_26 (nI 0) V_26) (fun (j26 : Int32 → am_V → am_R) => rB (fun (V_25 : am_V) => j26 (nI 0) V_25) (fun (j25 : am_V → am_R) => (if y2 = 0 then j25 V1 else rI (d_L_arePackets V1) (fun (y4 : Int32) (V3 : am_V) => (if y4 = 0 then j25 V3 else rI (d_L_isEnded V3) (fun (y6 : Int32) (V5 : am_V) => (if y6 = 0 then j25 V5 else j26 (nI 1) V5))))))))
set_option maxRecDepth 100000 in
set_option maxHeartbeats 4000000 in
theorem bk_L_isFit_29 {U : am_U} {l : Launch} (B : am_base xx U) (hfl : l.stackTraces = false) {G : am_G} (K : aK U l G RL cL_isFit 3 (some .boolean) 12 82380 323) (hex : am_nx G) {r : (Option Value ⊕ String) × am_V} {A9 f9 kc29 : Nat} (hA : A9 ≤ 82380) (hk : kc29 + (f9 + 1) * 4238 ≤ A9) {kx kr : Int32 → Int32 → am_V → am_R} (hx : ∀ kc : Nat, kc ≤ A9 → ∀ (a1_29 : Int32) (a2_29 : Int32) (Vq : am_V), kx a1_29 a2_29 Vq = some r → AE U G 3 12 82380 323 r kc Vq 53 [none, some (.int (a1_29)), none] []) (hr : ∀ kc : Nat, kc + f9 * 4238 ≤ A9 → ∀ (a1_29 : Int32) (a2_29 : Int32) (Vq : am_V), kr a1_29 a2_29 Vq = some r → AE U G 3 12 82380 323 r kc Vq 29 [some (.ref (1)), some (.int (a1_29)), some (.int (a2_29))] []) (a1_29 : Int32) (a2_29 : Int32) (V_29 : am_V) (h : bd_L_isFit_29  kx kr a1_29 a2_29 V_29 = some r) : AE U G 3 12 82380 323 r kc29 V_29 29 [some (.ref (1)), some (.int (a1_29)), some (.int (a2_29))] [] := by
  unfold bd_L_isFit_29 at h
  refine AE.run K eL_isFit 15 1 (show am_run 3 ((tL_isFit.drop 15).take 1) 29 [some (.ref (1)), some (.int (a1_29)), some (.int (a2_29))] [] = some (30, [some (.ref (1)), some (.int (a1_29)), some (.int (a2_29))], [.int (a1_29)]) from rfl) ?_
  refine AE.if0 K 53 (am_at eL_isFit 16 rfl) (by decide) rfl h (fun h => ?_) (fun h => ?_)
  · exact AE.sub (L' := [none, some (.int (a1_29)), none]) (And.intro rfl trivial) (hx _ (by omega) a1_29 a2_29 V_29 h)
  · refine AE.run K eL_isFit 17 2 (show am_run 3 ((tL_isFit.drop 17).take 2) 33 [some (.ref (1)), some (.int (a1_29)), some (.int (a2_29))] [] = some (35, [some (.ref (1)), some (.int (a1_29)), some (.int (a2_29))], [.ref (1), .int (a2_29)]) from rfl) ?_
    refine AE.cv (f' := 0) (c' := 0) (lo' := 0) (st := [.int (a2_29)]) (As := []) (m := d_X11_fieldCount V_29) K hex (fun q hq => kX11_fieldCount B hfl hq) cv_L_212 rfl (T := TX11) (N := 16) rfl rfl rfl (Nat.le_of_ble_eq_true rfl) ⟨Nat.le_of_ble_eq_true rfl, Nat.le_of_ble_eq_true rfl⟩ (by omega) (am_at eL_isFit 19 rfl) h (rI_some h) (bkI (fun y8 V7 h => ?_))
    refine AE.ic K 53 (am_at eL_isFit 20 rfl) (by decide) rfl h (fun h => ?_) (fun h => ?_)
    · exact AE.sub (L' := [none, some (.int (a1_29)), none]) (And.intro rfl trivial) (hx _ (by omega) a1_29 a2_29 V7 h)
    · refine AE.run K eL_isFit 21 2 (show am_run 3 ((tL_isFit.drop 21).take 2) 41 [some (.ref (1)), some (.int (a1_29)), some (.int (a2_29))] [] = some (43, [some (.ref (1)), some (.int (a1_29)), some (.int (a2_29))], [.int (a2_29), .ref (1)]) from rfl) ?_
      refine AE.cs (f' := 11) (c' := 4238) (lo' := 293) (st := []) (As := [.ref (1), .int (a2_29)]) (m := d_L_isTree a2_29 V7) K hex (fun q hq => kL_isTree B hfl hq) cs_L_337 rfl rfl (Nat.le_of_ble_eq_true rfl) ⟨Nat.le_of_ble_eq_true rfl, Nat.le_of_ble_eq_true rfl⟩ (by omega) (am_at eL_isFit 23 rfl) h (rI_some h) (bkI (fun y10 V9 h => ?_))
      refine AE.run K eL_isFit 24 3 (show am_run 3 ((tL_isFit.drop 24).take 3) 46 [some (.ref (1)), some (.int (a1_29)), some (.int (a2_29))] [.int (y10)] = some (29, [some (.ref (1)), some (.int (y10)), some (.int (a2_29 + nI 2))], []) from rfl) ?_
      exact AE.sub (L' := [some (.ref (1)), some (.int (y10)), some (.int (a2_29 + nI 2))]) (And.intro rfl (And.intro rfl (And.intro rfl trivial))) (hr _ (by omega) y10 (a2_29 + nI 2) V9 h)
theorem lk_L_isFit_29 {U : am_U} {l : Launch} (B : am_base xx U) (hfl : l.stackTraces = false) {G : am_G} (K : aK U l G RL cL_isFit 3 (some .boolean) 12 82380 323) (hex : am_nx G) {r : (Option Value ⊕ String) × am_V} {A9 : Nat} (hA : A9 ≤ 82380) {kx : Int32 → Int32 → am_V → am_R} (hx : ∀ kc : Nat, kc ≤ A9 → ∀ (a1_29 : Int32) (a2_29 : Int32) (Vq : am_V), kx a1_29 a2_29 Vq = some r → AE U G 3 12 82380 323 r kc Vq 53 [none, some (.int (a1_29)), none] []) : ∀ (f9 kc : Nat), kc + f9 * 4238 ≤ A9 → ∀ (a1_29 : Int32) (a2_29 : Int32) (Vq : am_V), lp_L_isFit_29  kx f9 a1_29 a2_29 Vq = some r → AE U G 3 12 82380 323 r kc Vq 29 [some (.ref (1)), some (.int (a1_29)), some (.int (a2_29))] [] := by
  intro f9
  induction f9 with
  | zero =>
    intro kc hk a1_29 a2_29 Vq h
    cases h
  | succ f9 ih =>
    intro kc hk a1_29 a2_29 Vq h
    exact bk_L_isFit_29 B hfl K hex  hA hk hx ih a1_29 a2_29 Vq h
set_option maxRecDepth 100000 in
set_option maxHeartbeats 4000000 in
theorem kL_isFit {U : am_U} {l : Launch} (B : am_base xx U) (hfl : l.stackTraces = false) {V : am_V} {r : (Option Value ⊕ String) × am_V} (h : d_L_isFit V = some r) : am_Ct xx U l yL_isFit cL_isFit 3 (some .boolean) (rk 12 82380 323) [.ref (1)] V (am_is r.1 r.2) := by
  refine am_Ct.of B hfl (by decide) (Nat.le_of_ble_eq_true rfl) ?_
  intro G hgl hgR hr ok h0 hex
  have K : aK U l G RL cL_isFit 3 (some .boolean) 12 82380 323 := ⟨hgl, hgR, hr, ok, h0⟩
  unfold d_L_isFit at h
  show AE U G 3 12 82380 323 r 0 V 0 [some (.ref (1)), none, none] []
  refine AE.run K eL_isFit 0 1 (show am_run 3 ((tL_isFit.drop 0).take 1) 0 [some (.ref (1)), none, none] [] = some (1, [some (.ref (1)), none, none], [.ref (1)]) from rfl) ?_
  refine AE.cs (f' := 11) (c' := 6052) (lo' := 296) (st := []) (As := [.ref (1)]) (m := d_L_arePairs V) K hex (fun q hq => kL_arePairs B hfl hq) cs_L_331 rfl rfl (Nat.le_of_ble_eq_true rfl) ⟨Nat.le_of_ble_eq_true rfl, Nat.le_of_ble_eq_true rfl⟩ (by omega) (am_at eL_isFit 1 rfl) h (rI_some h) (bkI (fun y2 V1 h => ?_))
  refine rB_of (P := fun (j : Int32 → am_V → am_R) => ∀ kc26 : Nat, kc26 ≤ 0 + 10334 → ∀ (bs0_26 : Int32) (V_26 : am_V), j bs0_26 V_26 = some r → AE U G 3 12 82380 323 r kc26 V_26 26 [some (.ref (1)), none, none] [.int (bs0_26)]) h (fun kc26 hk26 bs0_26 V_26 h => ?_) (fun j26 hj26 h => ?_)
  · refine AE.run K eL_isFit 12 3 (show am_run 3 ((tL_isFit.drop 12).take 3) 26 [some (.ref (1)), none, none] [.int (bs0_26)] = some (29, [some (.ref (1)), some (.int (bs0_26)), some (.int (nI 0))], []) from rfl) ?_
    refine AE.sub (L' := [some (.ref (1)), some (.int (bs0_26)), some (.int (nI 0))]) (And.intro rfl (And.intro rfl (And.intro rfl trivial))) ?_
    refine lk_L_isFit_29 B hfl K hex  (A9 := kc26 + 72046) (by omega) ?_ 17 kc26 (Nat.le_refl _) bs0_26 (nI 0) V_26 h
    intro kx29 hkx29 a1_29 a2_29 V_29x h
    refine AE.run K eL_isFit 27 1 (show am_run 3 ((tL_isFit.drop 27).take 1) 53 [none, some (.int (a1_29)), none] [] = some (54, [none, some (.int (a1_29)), none], [.int (a1_29)]) from rfl) ?_
    exact AE.zret K (by omega) (am_at eL_isFit 28 rfl) h
  refine rB_of (P := fun (j : am_V → am_R) => ∀ kc25 : Nat, kc25 ≤ 0 + 10334 → ∀ (V_25 : am_V), j V_25 = some r → AE U G 3 12 82380 323 r kc25 V_25 25 [some (.ref (1)), none, none] []) h (fun kc25 hk25 V_25 h => ?_) (fun j25 hj25 h => ?_)
  · refine AE.run K eL_isFit 11 1 (show am_run 3 ((tL_isFit.drop 11).take 1) 25 [some (.ref (1)), none, none] [] = some (26, [some (.ref (1)), none, none], [.int (nI 0)]) from rfl) ?_
    exact (hj26 _ (by omega) (nI 0) V_25 h)
  refine AE.if0 K 25 (am_at eL_isFit 2 rfl) (by decide) rfl h (fun h => ?_) (fun h => ?_)
  · exact (hj25 _ (by omega)  V1 h)
  · refine AE.run K eL_isFit 3 1 (show am_run 3 ((tL_isFit.drop 3).take 1) 7 [some (.ref (1)), none, none] [] = some (8, [some (.ref (1)), none, none], [.ref (1)]) from rfl) ?_
    refine AE.cs (f' := 10) (c' := 1179) (lo' := 263) (st := []) (As := [.ref (1)]) (m := d_L_arePackets V1) K hex (fun q hq => kL_arePackets B hfl hq) cs_L_328 rfl rfl (Nat.le_of_ble_eq_true rfl) ⟨Nat.le_of_ble_eq_true rfl, Nat.le_of_ble_eq_true rfl⟩ (by omega) (am_at eL_isFit 4 rfl) h (rI_some h) (bkI (fun y4 V3 h => ?_))
    refine AE.if0 K 25 (am_at eL_isFit 5 rfl) (by decide) rfl h (fun h => ?_) (fun h => ?_)
    · exact (hj25 _ (by omega)  V3 h)
    · refine AE.run K eL_isFit 6 1 (show am_run 3 ((tL_isFit.drop 6).take 1) 14 [some (.ref (1)), none, none] [] = some (15, [some (.ref (1)), none, none], [.ref (1)]) from rfl) ?_
      refine AE.cs (f' := 11) (c' := 3103) (lo' := 296) (st := []) (As := [.ref (1)]) (m := d_L_isEnded V3) K hex (fun q hq => kL_isEnded B hfl hq) cs_L_334 rfl rfl (Nat.le_of_ble_eq_true rfl) ⟨Nat.le_of_ble_eq_true rfl, Nat.le_of_ble_eq_true rfl⟩ (by omega) (am_at eL_isFit 7 rfl) h (rI_some h) (bkI (fun y6 V5 h => ?_))
      refine AE.if0 K 25 (am_at eL_isFit 8 rfl) (by decide) rfl h (fun h => ?_) (fun h => ?_)
      · exact (hj25 _ (by omega)  V5 h)
      · refine AE.run K eL_isFit 9 2 (show am_run 3 ((tL_isFit.drop 9).take 2) 21 [some (.ref (1)), none, none] [] = some (26, [some (.ref (1)), none, none], [.int (nI 1)]) from rfl) ?_
        exact (hj26 _ (by omega) (nI 1) V5 h)

