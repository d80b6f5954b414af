/-! ===== History: the next slot, how many are kept ===== -/
def vH (V : am_V) (nx kp : Nat) : Prop := V 2 1 = nI nx ∧ V 2 2 = nI kp ∧ nx < 9 ∧ kp ≤ 8
def pH (V : am_V) (nx kp : Nat) : am_P := fun x W => x = .inl none ∧ vH W nx kp ∧ ∀ c, c ≠ 2 → W c = V c
set_option maxHeartbeats 4000000 in
theorem kX4_note {U : am_U} {l : Launch} (B : am_base xx U) (hfl : l.stackTraces = false) {V : am_V} {i j nx kp : Nat} (hH : vH V nx kp) (hix : i = 3 + nx) (hi : i < 12) (hj : j < 12) (hij : i ≠ j) {Nj : nT} {Cj : cT} {Aj : aT} (hNj : vN V j Nj) (hCj : vC V j Cj) (hAj : vA V j Aj) : am_Ct xx U l yX4_note cX4_note 2 none { frames := 4, cells := 0, slots := 0, locals := 102 } [.ref (2), .ref (sS j)] V (pS V i Nj Cj Aj) := by
  refine am_Ct.of B hfl (by decide) (Nat.le_of_ble_eq_true rfl) ?_
  intro G hgl hgR hr ok h0 hex
  obtain ⟨hq1, hq2, hq3, hq4⟩ := id hH
  show AW xx U G 2 0 0 V _ 0 [some (.ref (2)), some (.ref (sS j))] []
  refine AW.run ok eX4_note 0 1 (show am_run 2 ((tX4_note.drop 0).take 1) 0 [some (.ref (2)), some (.ref (sS j))] [] = some (1, [some (.ref (2)), some (.ref (sS j))], [.ref (2)]) from rfl) ?_
  refine AW.getR ok gf_X4_13 rfl rfl (am_at eX4_note 1 rfl) ?_
  refine AW.run ok eX4_note 2 1 (show am_run 2 ((tX4_note.drop 2).take 1) 4 [some (.ref (2)), some (.ref (sS j))] [.ref (3)] = some (5, [some (.ref (2)), some (.ref (sS j))], [.ref (2), .ref (3)]) from rfl) ?_
  refine AW.getI (x := nI (nx)) ok gf_X4_17 rfl rfl hH.1 (am_at eX4_note 3 rfl) ?_
  refine AW.aldR (j := nx) (d := sS i) ok (show am_sh xx 3 = some (.inr (3, 9, .inr (fun j _ => some (sS (3 + j))))) from rfl) (by decide) rfl rfl (by omega : (nx) < 9) (by decide) (show some (sS (3 + (nx))) = some (sS i) by rw [hix]) (am_at eX4_note 4 rfl) ?_
  refine AW.run ok eX4_note 5 1 (show am_run 2 ((tX4_note.drop 5).take 1) 9 [some (.ref (2)), some (.ref (sS j))] [.ref (sS i)] = some (10, [some (.ref (2)), some (.ref (sS j))], [.ref (sS j), .ref (sS i)]) from rfl) ?_
  refine AW.cvP (rm := { frames := 3, cells := 0, slots := 0, locals := 81 }) (st := []) (As := [.ref (sS j)]) ok (by rw [hgl]; exact kX8_copyFrom B hfl hi hj (by omega) hNj hCj hAj) cv_X4_25 (sh_S0 hi) (T := TX8) (N := 9) rfl rfl rfl (Nat.le_of_ble_eq_true rfl) (by rw [hgR]; exact ⟨Nat.le_of_ble_eq_true rfl, Nat.le_of_ble_eq_true rfl⟩) (by rw [hgR]; exact ⟨Nat.le_of_ble_eq_true rfl, Nat.le_of_ble_eq_true rfl⟩) (am_at eX4_note 6 rfl) (fun E9 W9 h9 => by cases h9.1) (fun r9 W1 hW1 => ?_)
  obtain ⟨e9, hW1⟩ := hW1
  cases e9
  exact AW.vret ok (⟨rfl, hW1⟩) hr (Nat.zero_le _) (Nat.zero_le _) (am_at eX4_note 7 rfl)
set_option maxHeartbeats 4000000 in
theorem kX4_keep {U : am_U} {l : Launch} (B : am_base xx U) (hfl : l.stackTraces = false) {V : am_V} {nx kp : Nat} (hH : vH V nx kp) : am_Ct xx U l yX4_keep cX4_keep 1 none { frames := 2, cells := 0, slots := 0, locals := 60 } [.ref (2)] V (pH V ((nx + 1) % 9) (min (kp + 1) 8)) := by
  refine am_Ct.of B hfl (by decide) (Nat.le_of_ble_eq_true rfl) ?_
  intro G hgl hgR hr ok h0 hex
  obtain ⟨hq1, hq2, hq3, hq4⟩ := id hH
  show AW xx U G 1 0 0 V _ 0 [some (.ref (2))] []
  refine AW.run ok eX4_keep 0 2 (show am_run 1 ((tX4_keep.drop 0).take 2) 0 [some (.ref (2))] [] = some (2, [some (.ref (2))], [.ref (2), .ref (2)]) from rfl) ?_
  refine AW.getI (x := nI (nx)) ok gf_X4_17 rfl rfl hH.1 (am_at eX4_keep 2 rfl) ?_
  refine AW.run ok eX4_keep 3 2 (show am_run 1 ((tX4_keep.drop 3).take 2) 5 [some (.ref (2))] [.int (nI (nx)), .ref (2)] = some (7, [some (.ref (2))], [.int (nI (nx) + nI (1)), .ref (2)]) from rfl) ?_
  refine AW.top (show nI (nx) + nI (1) = nI (nx + 1) from nI_add _ _) ?_
  refine AW.run ok eX4_keep 5 1 (show am_run 1 ((tX4_keep.drop 5).take 1) 7 [some (.ref (2))] [.int (nI (nx + 1)), .ref (2)] = some (9, [some (.ref (2))], [.int (nI (9)), .int (nI (nx + 1)), .ref (2)]) from rfl) ?_
  refine AW.irem (x := nI (nx + 1)) (y := nI (9)) ok (nI_ne0 (by omega) (by omega)) (am_at eX4_keep 6 rfl) ?_
  refine AW.top (i_rem (a := nx + 1) (d := 9) (by omega) (by omega) (by omega)) ?_
  refine AW.putI ok pf_X4_17 rfl (rfl) rfl ⟨rfl, rfl⟩ (am_at eX4_keep 7 rfl) ?_
  refine AW.run ok eX4_keep 8 2 (show am_run 1 ((tX4_keep.drop 8).take 2) 13 [some (.ref (2))] [] = some (15, [some (.ref (2))], [.ref (2), .ref (2)]) from rfl) ?_
  refine AW.getI (x := nI (kp)) ok gf_X4_21 rfl rfl (by rw [am_set_nk _ _ _ (show (2) ≠ (1) by omega)]; exact hH.2.1) (am_at eX4_keep 10 rfl) ?_
  refine AW.run ok eX4_keep 11 2 (show am_run 1 ((tX4_keep.drop 11).take 2) 18 [some (.ref (2))] [.int (nI (kp)), .ref (2)] = some (20, [some (.ref (2))], [.int (nI (kp) + nI (1)), .ref (2)]) from rfl) ?_
  refine AW.top (show nI (kp) + nI (1) = nI (kp + 1) from nI_add _ _) ?_
  refine AW.run ok eX4_keep 13 1 (show am_run 1 ((tX4_keep.drop 13).take 1) 20 [some (.ref (2))] [.int (nI (kp + 1)), .ref (2)] = some (22, [some (.ref (2))], [.int (nI (8)), .int (nI (kp + 1)), .ref (2)]) from rfl) ?_
  refine AW.mmin (x := nI (kp + 1)) (y := nI (8)) ok mm_X4_29 (by rw [hgR]; exact Nat.le_of_ble_eq_true rfl) (by rw [hgR]; exact Nat.le_of_ble_eq_true rfl) (by rw [hgR]; exact Nat.le_of_ble_eq_true rfl) (by rw [hgR]; exact Nat.le_of_ble_eq_true rfl) (am_at eX4_keep 14 rfl) ?_
  refine AW.top (i_min (a := kp + 1) (b := 8) (by omega) (by omega)) ?_
  refine AW.putI ok pf_X4_21 rfl (rfl) rfl ⟨rfl, rfl⟩ (am_at eX4_keep 15 rfl) ?_
  exact AW.vret ok (⟨rfl, ⟨(by rw [am_set_nk _ _ _ (show (1) ≠ (2) by omega), am_set_eq]), (by rw [am_set_eq]), by omega, by omega⟩, fun c q1 => (by rw [am_set_ne _ _ _ (show c ≠ (2) by (first | omega | (unfold sS at *; omega))), am_set_ne _ _ _ (show c ≠ (2) by (first | omega | (unfold sS at *; omega)))])⟩) hr (Nat.zero_le _) (Nat.zero_le _) (am_at eX4_keep 16 rfl)
set_option maxHeartbeats 4000000 in
theorem kX4_forget {U : am_U} {l : Launch} (B : am_base xx U) (hfl : l.stackTraces = false) {V : am_V} {nx kp : Nat} (hH : vH V nx kp) : am_Ct xx U l yX4_forget cX4_forget 1 none { frames := 0, cells := 0, slots := 0, locals := 0 } [.ref (2)] V (pH V nx 0) := by
  refine am_Ct.of B hfl (by decide) (Nat.le_of_ble_eq_true rfl) ?_
  intro G hgl hgR hr ok h0 hex
  obtain ⟨hq1, hq2, hq3, hq4⟩ := id hH
  show AW xx U G 1 0 0 V _ 0 [some (.ref (2))] []
  refine AW.run ok eX4_forget 0 2 (show am_run 1 ((tX4_forget.drop 0).take 2) 0 [some (.ref (2))] [] = some (2, [some (.ref (2))], [.int (nI (0)), .ref (2)]) from rfl) ?_
  refine AW.putI ok pf_X4_21 rfl (rfl) rfl ⟨rfl, rfl⟩ (am_at eX4_forget 2 rfl) ?_
  exact AW.vret ok (⟨rfl, ⟨(by rw [am_set_nk _ _ _ (show (1) ≠ (2) by omega)]; exact hH.1), (by rw [am_set_eq]), by omega, by omega⟩, fun c q1 => (by rw [am_set_ne _ _ _ (show c ≠ (2) by (first | omega | (unfold sS at *; omega)))])⟩) hr (Nat.zero_le _) (Nat.zero_le _) (am_at eX4_forget 3 rfl)
set_option maxHeartbeats 4000000 in
theorem kX4_noted {U : am_U} {l : Launch} (B : am_base xx U) (hfl : l.stackTraces = false) {V : am_V} {i nx kp : Nat} (hH : vH V nx kp) (hix : i = 3 + nx) : am_Ct xx U l yX4_noted cX4_noted 1 (some (.object "DandelionBroadcast$State")) { frames := 0, cells := 0, slots := 0, locals := 0 } [.ref (2)] V (am_is (.inl (some (.ref (sS i)))) V) := by
  refine am_Ct.of B hfl (by decide) (Nat.le_of_ble_eq_true rfl) ?_
  intro G hgl hgR hr ok h0 hex
  obtain ⟨hq1, hq2, hq3, hq4⟩ := id hH
  show AW xx U G 1 0 0 V _ 0 [some (.ref (2))] []
  refine AW.run ok eX4_noted 0 1 (show am_run 1 ((tX4_noted.drop 0).take 1) 0 [some (.ref (2))] [] = some (1, [some (.ref (2))], [.ref (2)]) from rfl) ?_
  refine AW.getR ok gf_X4_13 rfl rfl (am_at eX4_noted 1 rfl) ?_
  refine AW.run ok eX4_noted 2 1 (show am_run 1 ((tX4_noted.drop 2).take 1) 4 [some (.ref (2))] [.ref (3)] = some (5, [some (.ref (2))], [.ref (2), .ref (3)]) from rfl) ?_
  refine AW.getI (x := nI (nx)) ok gf_X4_17 rfl rfl hH.1 (am_at eX4_noted 3 rfl) ?_
  refine AW.aldR (j := nx) (d := sS i) ok (show am_sh xx 3 = some (.inr (3, 9, .inr (fun j _ => some (sS (3 + j))))) from rfl) (by decide) rfl rfl (by omega : (nx) < 9) (by decide) (show some (sS (3 + (nx))) = some (sS i) by rw [hix]) (am_at eX4_noted 4 rfl) ?_
  exact AW.aret ok ⟨rfl, rfl⟩ hr (Or.inl ⟨_, rfl⟩) (Nat.zero_le _) (Nat.zero_le _) (am_at eX4_noted 5 rfl)
