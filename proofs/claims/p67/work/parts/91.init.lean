/-! ===== the constructors ===== -/
def n_O (U : am_U) : Prop := va_AO "DandelionBroadcast$State" (am_s0 U) ∧ va_AO "DandelionBroadcast$Kind" (am_s0 U) ∧ n_AO (am_s0 U)
theorem nset_n {E : nE} {j q : Nat} {e : va_E} (h : q ≠ j) : nset E j e q = E q := if_neg h
theorem n_w2 : Cond.instanceMethod Lib.objectInit ∈ am_WS xx := x_in 76 (by decide +kernel)
theorem n_w3 : Cond.code Lib.objectInit ⟨#[0xb1]⟩ 1 none ∈ am_WS xx := x_in 77 (by decide +kernel)
theorem n_fsX1 : ∀ j, j < 8 → defaultValue (tyX1 j) = vp_V [.null, .int 0, .int 0, .int 0, .int 0, .int 0, .int 0, .int 0] j := fun j hj => by rcases (show j = 0 ∨ j = 1 ∨ j = 2 ∨ j = 3 ∨ j = 4 ∨ j = 5 ∨ j = 6 ∨ j = 7 by omega) with rfl | rfl | rfl | rfl | rfl | rfl | rfl | rfl <;> rfl
theorem n_fsX2 : ∀ j, j < 2 → defaultValue (tyX2 j) = vp_V [.int 0, .int 0] j := fun j hj => by rcases (show j = 0 ∨ j = 1 by omega) with rfl | rfl <;> rfl
theorem n_fsX3 : ∀ j, j < 6 → defaultValue (tyX3 j) = vp_V [.null, .null, .int 0, .int 0, .null, .int 0] j := fun j hj => by rcases (show j = 0 ∨ j = 1 ∨ j = 2 ∨ j = 3 ∨ j = 4 ∨ j = 5 by omega) with rfl | rfl | rfl | rfl | rfl | rfl <;> rfl
theorem n_fsX4 : ∀ j, j < 3 → defaultValue (tyX4 j) = vp_V [.null, .int 0, .int 0] j := fun j hj => by rcases (show j = 0 ∨ j = 1 ∨ j = 2 by omega) with rfl | rfl | rfl <;> rfl
theorem n_fsX6 : ∀ j, j < 8 → defaultValue (tyX6 j) = vp_V [.null, .null, .null, .null, .null, .int 0, .int 0, .int 0] j := fun j hj => by rcases (show j = 0 ∨ j = 1 ∨ j = 2 ∨ j = 3 ∨ j = 4 ∨ j = 5 ∨ j = 6 ∨ j = 7 by omega) with rfl | rfl | rfl | rfl | rfl | rfl | rfl | rfl <;> rfl
theorem n_fsX7 : ∀ j, j < 5 → defaultValue (tyX7 j) = vp_V [.null, .null, .null, .null, .null] j := fun j hj => by rcases (show j = 0 ∨ j = 1 ∨ j = 2 ∨ j = 3 ∨ j = 4 by omega) with rfl | rfl | rfl | rfl | rfl <;> rfl
theorem n_fsX8 : ∀ j, j < 9 → defaultValue (tyX8 j) = vp_V [.null, .null, .null, .int 0, .int 0, .int 0, .int 0, .int 0, .int 0] j := fun j hj => by rcases (show j = 0 ∨ j = 1 ∨ j = 2 ∨ j = 3 ∨ j = 4 ∨ j = 5 ∨ j = 6 ∨ j = 7 ∨ j = 8 by omega) with rfl | rfl | rfl | rfl | rfl | rfl | rfl | rfl | rfl <;> rfl
theorem n_fsX9 : ∀ j, j < 7 → defaultValue (tyX9 j) = vp_V [.null, .null, .null, .null, .null, .null, .int 0] j := fun j hj => by rcases (show j = 0 ∨ j = 1 ∨ j = 2 ∨ j = 3 ∨ j = 4 ∨ j = 5 ∨ j = 6 by omega) with rfl | rfl | rfl | rfl | rfl | rfl | rfl <;> rfl
theorem n_fsX10 : ∀ j, j < 1 → defaultValue (tyX10 j) = vp_V [.null] j := fun j hj => by rcases (show j = 0 by omega) with rfl <;> rfl
theorem n_fsX11 : ∀ j, j < 16 → defaultValue (tyX11 j) = vp_V [.null, .null, .null, .null, .null, .null, .null, .null, .null, .null, .int 0, .int 0, .int 0, .int 0, .int 0, .int 0] j := fun j hj => by rcases (show j = 0 ∨ j = 1 ∨ j = 2 ∨ j = 3 ∨ j = 4 ∨ j = 5 ∨ j = 6 ∨ j = 7 ∨ j = 8 ∨ j = 9 ∨ j = 10 ∨ j = 11 ∨ j = 12 ∨ j = 13 ∨ j = 14 ∨ j = 15 by omega) with rfl | rfl | rfl | rfl | rfl | rfl | rfl | rfl | rfl | rfl | rfl | rfl | rfl | rfl | rfl | rfl <;> rfl
theorem n_mold {U : am_U} {E : nE} {n q : Nat} (h : q < n) : n_multi U E n q = E q := by
  unfold n_multi
  rw [if_neg (by omega), if_neg (by omega)]
def nX1_1 (U : am_U) (E : nE) (a n : Nat) : nE := nset E (n) (.inl (am_dA U 0, 9, .inl (fun _ => 0)))
def nX1_2 (U : am_U) (E : nE) (a n : Nat) : nE := nset (nX1_1 U E a n) a (.inr (2, [.ref (n_sz U + (n)), .int 0, .int 0, .int 0, .int 0, .int 0, .int 0, .int 0]))
def nX1_3 (U : am_U) (E : nE) (a n : Nat) : nE := nset (nX1_2 U E a n) a (.inr (2, [.ref (n_sz U + (n)), .int (nI 0), .int 0, .int 0, .int 0, .int 0, .int 0, .int 0]))
def nX1_4 (U : am_U) (E : nE) (a n : Nat) : nE := nset (nX1_3 U E a n) a (.inr (2, [.ref (n_sz U + (n)), .int (nI 0), .int (nI 0), .int 0, .int 0, .int 0, .int 0, .int 0]))
def nX1_5 (U : am_U) (E : nE) (a n : Nat) : nE := nset (nX1_4 U E a n) a (.inr (2, [.ref (n_sz U + (n)), .int (nI 0), .int (nI 0), .int (-1), .int 0, .int 0, .int 0, .int 0]))
def nX1_6 (U : am_U) (E : nE) (a n : Nat) : nE := nset (nX1_5 U E a n) a (.inr (2, [.ref (n_sz U + (n)), .int (nI 0), .int (nI 0), .int (-1), .int (nI 0), .int 0, .int 0, .int 0]))
def nX1_7 (U : am_U) (E : nE) (a n : Nat) : nE := nset (nX1_6 U E a n) a (.inr (2, [.ref (n_sz U + (n)), .int (nI 0), .int (nI 0), .int (-1), .int (nI 0), .int (nI 0), .int 0, .int 0]))
def nX1_8 (U : am_U) (E : nE) (a n : Nat) : nE := nset (nX1_7 U E a n) a (.inr (2, [.ref (n_sz U + (n)), .int (nI 0), .int (nI 0), .int (-1), .int (nI 0), .int (nI 0), .int (nI 0), .int 0]))
def nX1_9 (U : am_U) (E : nE) (a n : Nat) : nE := nset (nX1_8 U E a n) a (.inr (2, [.ref (n_sz U + (n)), .int (nI 0), .int (nI 0), .int (-1), .int (nI 0), .int (nI 0), .int (nI 0), .int (nI 0)]))
def nX1 (U : am_U) (E : nE) (a n : Nat) : nE := (nX1_9 U E a n)
def n_rX1 : Room := { frames := 1, cells := 1, slots := 9, locals := 12 }
theorem nX1_old {U : am_U} {E : nE} {a n q : Nat} (h1 : q ≠ a) (h2 : q < n) : nX1 U E a n q = E q := by
  unfold nX1
  unfold nX1_9
  rw [nset_n (by omega)]
  unfold nX1_8
  rw [nset_n (by omega)]
  unfold nX1_7
  rw [nset_n (by omega)]
  unfold nX1_6
  rw [nset_n (by omega)]
  unfold nX1_5
  rw [nset_n (by omega)]
  unfold nX1_4
  rw [nset_n (by omega)]
  unfold nX1_3
  rw [nset_n (by omega)]
  unfold nX1_2
  rw [nset_n (by omega)]
  unfold nX1_1
  rw [nset_n (by omega)]
theorem nX1_at {U : am_U} {E : nE} {a n : Nat} (h : a < n) : nX1 U E a n a = some (.inr (2, [.ref (n_sz U + (n)), .int (nI 0), .int (nI 0), .int (-1), .int (nI 0), .int (nI 0), .int (nI 0), .int (nI 0)])) := by
  unfold nX1
  unfold nX1_9
  exact nset_e
set_option maxRecDepth 100000 in
set_option maxHeartbeats 8000000 in
theorem kX1_init (U : am_U) (l : Launch) (B : am_base xx U) (hfl : l.stackTraces = false) (O : n_O U) {E : nE} {a n : Nat} (hE : E a = some (.inr (2, [.null, .int 0, .int 0, .int 0, .int 0, .int 0, .int 0, .int 0]))) (ha : a < n) : n_Ct U l yX1_init cX1_init 1 n_rX1 a E n (nX1 U E a n) (n + 1) := by
  refine n_Ct.of B hfl (by decide) (Nat.le_of_ble_eq_true rfl) rfl ?_
  intro G hgl hgR hr ok hin
  have ok : am_ok xx U G RX1 cX1_init 1 := ok
  show NW U G 1 0 0 E (n) _ 0 [some (.ref (n_sz U + a))] []
  refine NW.run ok eX1_init 0 1 (show am_run 1 ((tX1_init.drop 0).take 1) 0 [some (.ref (n_sz U + a))] [] = some (1, [some (.ref (n_sz U + a))], [.ref (n_sz U + a)]) from rfl) ?_
  refine NW.objInit ok (x_in 152 (by decide +kernel)) n_w2 n_w3 (by rw [hgR]; exact ⟨Nat.le_of_ble_eq_true rfl, Nat.le_of_ble_eq_true rfl⟩) (am_at eX1_init 1 rfl) ?_
  refine NW.run ok eX1_init 2 2 (show am_run 1 ((tX1_init.drop 2).take 2) 4 [some (.ref (n_sz U + a))] [] = some (7, [some (.ref (n_sz U + a))], [.int (nI 9), .ref (n_sz U + a)]) from rfl) ?_
  refine NW.newa (ty := .int) (N := 9) (t := 0) (a0 := (9, .inl (fun _ => 0))) ok (x_in 146 (by decide +kernel)) rfl (by decide) rfl (fun _ _ h => h) (fun _ => rfl) (by decide) (by decide) (by decide) (by rw [hgR]; exact ⟨Nat.le_of_ble_eq_true rfl, Nat.le_of_ble_eq_true rfl⟩) (am_at eX1_init 4 rfl) ?_
  show NW U G 1 1 9 (nX1_1 U E a n) (n + 1) _ 9 [some (.ref (n_sz U + a))] [.ref (n_sz U + (n)), .ref (n_sz U + a)]
  refine NW.put (fs := [.null, .int 0, .int 0, .int 0, .int 0, .int 0, .int 0, .int 0]) (ci := 2) (k := 0) (ty0 := tyX1) ok ⟨rfl, in_X1, by decide, (x_in 153 (by decide +kernel)), tyX1_ok, nmX1⟩ (Or.inr ⟨rfl, hin, rfl⟩) rfl rfl ((nset_n (by omega)).trans hE) (Nat.le_of_ble_eq_true rfl) (am_at eX1_init 5 rfl) ?_
  show NW U G 1 1 9 (nX1_2 U E a n) (n + 1) _ 12 [some (.ref (n_sz U + a))] []
  refine NW.run ok eX1_init 6 2 (show am_run 1 ((tX1_init.drop 6).take 2) 12 [some (.ref (n_sz U + a))] [] = some (14, [some (.ref (n_sz U + a))], [.int (nI 0), .ref (n_sz U + a)]) from rfl) ?_
  refine NW.put (fs := [.ref (n_sz U + (n)), .int 0, .int 0, .int 0, .int 0, .int 0, .int 0, .int 0]) (ci := 2) (k := 1) (ty0 := tyX1) ok ⟨rfl, in_X1, by decide, (x_in 158 (by decide +kernel)), tyX1_ok, nmX1⟩ (Or.inl rfl) rfl rfl nset_e (Nat.le_of_ble_eq_true rfl) (am_at eX1_init 8 rfl) ?_
  show NW U G 1 1 9 (nX1_3 U E a n) (n + 1) _ 17 [some (.ref (n_sz U + a))] []
  refine NW.run ok eX1_init 9 2 (show am_run 1 ((tX1_init.drop 9).take 2) 17 [some (.ref (n_sz U + a))] [] = some (19, [some (.ref (n_sz U + a))], [.int (nI 0), .ref (n_sz U + a)]) from rfl) ?_
  refine NW.put (fs := [.ref (n_sz U + (n)), .int (nI 0), .int 0, .int 0, .int 0, .int 0, .int 0, .int 0]) (ci := 2) (k := 2) (ty0 := tyX1) ok ⟨rfl, in_X1, by decide, (x_in 161 (by decide +kernel)), tyX1_ok, nmX1⟩ (Or.inl rfl) rfl rfl nset_e (Nat.le_of_ble_eq_true rfl) (am_at eX1_init 11 rfl) ?_
  show NW U G 1 1 9 (nX1_4 U E a n) (n + 1) _ 22 [some (.ref (n_sz U + a))] []
  refine NW.run ok eX1_init 12 2 (show am_run 1 ((tX1_init.drop 12).take 2) 22 [some (.ref (n_sz U + a))] [] = some (24, [some (.ref (n_sz U + a))], [.int (-1), .ref (n_sz U + a)]) from rfl) ?_
  refine NW.put (fs := [.ref (n_sz U + (n)), .int (nI 0), .int (nI 0), .int 0, .int 0, .int 0, .int 0, .int 0]) (ci := 2) (k := 3) (ty0 := tyX1) ok ⟨rfl, in_X1, by decide, (x_in 165 (by decide +kernel)), tyX1_ok, nmX1⟩ (Or.inl rfl) rfl rfl nset_e (Nat.le_of_ble_eq_true rfl) (am_at eX1_init 14 rfl) ?_
  show NW U G 1 1 9 (nX1_5 U E a n) (n + 1) _ 27 [some (.ref (n_sz U + a))] []
  refine NW.run ok eX1_init 15 2 (show am_run 1 ((tX1_init.drop 15).take 2) 27 [some (.ref (n_sz U + a))] [] = some (29, [some (.ref (n_sz U + a))], [.int (nI 0), .ref (n_sz U + a)]) from rfl) ?_
  refine NW.put (fs := [.ref (n_sz U + (n)), .int (nI 0), .int (nI 0), .int (-1), .int 0, .int 0, .int 0, .int 0]) (ci := 2) (k := 4) (ty0 := tyX1) ok ⟨rfl, in_X1, by decide, (x_in 169 (by decide +kernel)), tyX1_ok, nmX1⟩ (Or.inl rfl) rfl rfl nset_e (Nat.le_of_ble_eq_true rfl) (am_at eX1_init 17 rfl) ?_
  show NW U G 1 1 9 (nX1_6 U E a n) (n + 1) _ 32 [some (.ref (n_sz U + a))] []
  refine NW.run ok eX1_init 18 2 (show am_run 1 ((tX1_init.drop 18).take 2) 32 [some (.ref (n_sz U + a))] [] = some (34, [some (.ref (n_sz U + a))], [.int (nI 0), .ref (n_sz U + a)]) from rfl) ?_
  refine NW.put (fs := [.ref (n_sz U + (n)), .int (nI 0), .int (nI 0), .int (-1), .int (nI 0), .int 0, .int 0, .int 0]) (ci := 2) (k := 5) (ty0 := tyX1) ok ⟨rfl, in_X1, by decide, (x_in 171 (by decide +kernel)), tyX1_ok, nmX1⟩ (Or.inl rfl) rfl rfl nset_e (Nat.le_of_ble_eq_true rfl) (am_at eX1_init 20 rfl) ?_
  show NW U G 1 1 9 (nX1_7 U E a n) (n + 1) _ 37 [some (.ref (n_sz U + a))] []
  refine NW.run ok eX1_init 21 2 (show am_run 1 ((tX1_init.drop 21).take 2) 37 [some (.ref (n_sz U + a))] [] = some (39, [some (.ref (n_sz U + a))], [.int (nI 0), .ref (n_sz U + a)]) from rfl) ?_
  refine NW.put (fs := [.ref (n_sz U + (n)), .int (nI 0), .int (nI 0), .int (-1), .int (nI 0), .int (nI 0), .int 0, .int 0]) (ci := 2) (k := 6) (ty0 := tyX1) ok ⟨rfl, in_X1, by decide, (x_in 174 (by decide +kernel)), tyX1_ok, nmX1⟩ (Or.inl rfl) rfl rfl nset_e (Nat.le_of_ble_eq_true rfl) (am_at eX1_init 23 rfl) ?_
  show NW U G 1 1 9 (nX1_8 U E a n) (n + 1) _ 42 [some (.ref (n_sz U + a))] []
  refine NW.run ok eX1_init 24 2 (show am_run 1 ((tX1_init.drop 24).take 2) 42 [some (.ref (n_sz U + a))] [] = some (44, [some (.ref (n_sz U + a))], [.int (nI 0), .ref (n_sz U + a)]) from rfl) ?_
  refine NW.put (fs := [.ref (n_sz U + (n)), .int (nI 0), .int (nI 0), .int (-1), .int (nI 0), .int (nI 0), .int (nI 0), .int 0]) (ci := 2) (k := 7) (ty0 := tyX1) ok ⟨rfl, in_X1, by decide, (x_in 177 (by decide +kernel)), tyX1_ok, nmX1⟩ (Or.inl rfl) rfl rfl nset_e (Nat.le_of_ble_eq_true rfl) (am_at eX1_init 26 rfl) ?_
  show NW U G 1 1 9 (nX1_9 U E a n) (n + 1) _ 47 [some (.ref (n_sz U + a))] []
  exact NW.vret ok hr (Nat.le_refl _) (Nat.le_refl _) (am_at eX1_init 27 rfl)
def nX6_1 (U : am_U) (E : nE) (a n : Nat) : nE := nset E (n) (.inl (am_dA U 0, 9, .inl (fun _ => 0)))
def nX6_2 (U : am_U) (E : nE) (a n : Nat) : nE := nset (nX6_1 U E a n) a (.inr (6, [.ref (n_sz U + (n)), .null, .null, .null, .null, .int 0, .int 0, .int 0]))
def nX6_3 (U : am_U) (E : nE) (a n : Nat) : nE := nset (nX6_2 U E a n) (n + 1) (.inl (am_dA U 0, 16, .inl (fun _ => 0)))
def nX6_4 (U : am_U) (E : nE) (a n : Nat) : nE := nset (nX6_3 U E a n) a (.inr (6, [.ref (n_sz U + (n)), .ref (n_sz U + (n + 1)), .null, .null, .null, .int 0, .int 0, .int 0]))
def nX6_5 (U : am_U) (E : nE) (a n : Nat) : nE := nset (nX6_4 U E a n) (n + 2) (.inl (am_dA U 0, 16, .inl (fun _ => 0)))
def nX6_6 (U : am_U) (E : nE) (a n : Nat) : nE := nset (nX6_5 U E a n) a (.inr (6, [.ref (n_sz U + (n)), .ref (n_sz U + (n + 1)), .ref (n_sz U + (n + 2)), .null, .null, .int 0, .int 0, .int 0]))
def nX6_7 (U : am_U) (E : nE) (a n : Nat) : nE := nset (nX6_6 U E a n) (n + 3) (.inl (am_dA U 0, 16, .inl (fun _ => 0)))
def nX6_8 (U : am_U) (E : nE) (a n : Nat) : nE := nset (nX6_7 U E a n) a (.inr (6, [.ref (n_sz U + (n)), .ref (n_sz U + (n + 1)), .ref (n_sz U + (n + 2)), .ref (n_sz U + (n + 3)), .null, .int 0, .int 0, .int 0]))
def nX6_9 (U : am_U) (E : nE) (a n : Nat) : nE := nset (nX6_8 U E a n) (n + 4) (.inl (am_dA U 0, 16, .inl (fun _ => 0)))
def nX6_10 (U : am_U) (E : nE) (a n : Nat) : nE := nset (nX6_9 U E a n) a (.inr (6, [.ref (n_sz U + (n)), .ref (n_sz U + (n + 1)), .ref (n_sz U + (n + 2)), .ref (n_sz U + (n + 3)), .ref (n_sz U + (n + 4)), .int 0, .int 0, .int 0]))
def nX6_11 (U : am_U) (E : nE) (a n : Nat) : nE := nset (nX6_10 U E a n) a (.inr (6, [.ref (n_sz U + (n)), .ref (n_sz U + (n + 1)), .ref (n_sz U + (n + 2)), .ref (n_sz U + (n + 3)), .ref (n_sz U + (n + 4)), .int (nI 0), .int 0, .int 0]))
def nX6_12 (U : am_U) (E : nE) (a n : Nat) : nE := nset (nX6_11 U E a n) a (.inr (6, [.ref (n_sz U + (n)), .ref (n_sz U + (n + 1)), .ref (n_sz U + (n + 2)), .ref (n_sz U + (n + 3)), .ref (n_sz U + (n + 4)), .int (nI 0), .int (nI 0), .int 0]))
def nX6_13 (U : am_U) (E : nE) (a n : Nat) : nE := nset (nX6_12 U E a n) a (.inr (6, [.ref (n_sz U + (n)), .ref (n_sz U + (n + 1)), .ref (n_sz U + (n + 2)), .ref (n_sz U + (n + 3)), .ref (n_sz U + (n + 4)), .int (nI 0), .int (nI 0), .int (nI 0)]))
def nX6 (U : am_U) (E : nE) (a n : Nat) : nE := (nX6_13 U E a n)
def n_rX6 : Room := { frames := 1, cells := 5, slots := 73, locals := 12 }
theorem nX6_old {U : am_U} {E : nE} {a n q : Nat} (h1 : q ≠ a) (h2 : q < n) : nX6 U E a n q = E q := by
  unfold nX6
  unfold nX6_13
  rw [nset_n (by omega)]
  unfold nX6_12
  rw [nset_n (by omega)]
  unfold nX6_11
  rw [nset_n (by omega)]
  unfold nX6_10
  rw [nset_n (by omega)]
  unfold nX6_9
  rw [nset_n (by omega)]
  unfold nX6_8
  rw [nset_n (by omega)]
  unfold nX6_7
  rw [nset_n (by omega)]
  unfold nX6_6
  rw [nset_n (by omega)]
  unfold nX6_5
  rw [nset_n (by omega)]
  unfold nX6_4
  rw [nset_n (by omega)]
  unfold nX6_3
  rw [nset_n (by omega)]
  unfold nX6_2
  rw [nset_n (by omega)]
  unfold nX6_1
  rw [nset_n (by omega)]
theorem nX6_at {U : am_U} {E : nE} {a n : Nat} (h : a < n) : nX6 U E a n a = some (.inr (6, [.ref (n_sz U + (n)), .ref (n_sz U + (n + 1)), .ref (n_sz U + (n + 2)), .ref (n_sz U + (n + 3)), .ref (n_sz U + (n + 4)), .int (nI 0), .int (nI 0), .int (nI 0)])) := by
  unfold nX6
  unfold nX6_13
  exact nset_e
set_option maxRecDepth 100000 in
set_option maxHeartbeats 8000000 in
theorem kX6_init (U : am_U) (l : Launch) (B : am_base xx U) (hfl : l.stackTraces = false) (O : n_O U) {E : nE} {a n : Nat} (hE : E a = some (.inr (6, [.null, .null, .null, .null, .null, .int 0, .int 0, .int 0]))) (ha : a < n) : n_Ct U l yX6_init cX6_init 1 n_rX6 a E n (nX6 U E a n) (n + 5) := by
  refine n_Ct.of B hfl (by decide) (Nat.le_of_ble_eq_true rfl) rfl ?_
  intro G hgl hgR hr ok hin
  have ok : am_ok xx U G RX6 cX6_init 1 := ok
  show NW U G 1 0 0 E (n) _ 0 [some (.ref (n_sz U + a))] []
  refine NW.run ok eX6_init 0 1 (show am_run 1 ((tX6_init.drop 0).take 1) 0 [some (.ref (n_sz U + a))] [] = some (1, [some (.ref (n_sz U + a))], [.ref (n_sz U + a)]) from rfl) ?_
  refine NW.objInit ok (x_in 89 (by decide +kernel)) n_w2 n_w3 (by rw [hgR]; exact ⟨Nat.le_of_ble_eq_true rfl, Nat.le_of_ble_eq_true rfl⟩) (am_at eX6_init 1 rfl) ?_
  refine NW.run ok eX6_init 2 2 (show am_run 1 ((tX6_init.drop 2).take 2) 4 [some (.ref (n_sz U + a))] [] = some (7, [some (.ref (n_sz U + a))], [.int (nI 9), .ref (n_sz U + a)]) from rfl) ?_
  refine NW.newa (ty := .int) (N := 9) (t := 0) (a0 := (9, .inl (fun _ => 0))) ok (x_in 146 (by decide +kernel)) rfl (by decide) rfl (fun _ _ h => h) (fun _ => rfl) (by decide) (by decide) (by decide) (by rw [hgR]; exact ⟨Nat.le_of_ble_eq_true rfl, Nat.le_of_ble_eq_true rfl⟩) (am_at eX6_init 4 rfl) ?_
  show NW U G 1 1 9 (nX6_1 U E a n) (n + 1) _ 9 [some (.ref (n_sz U + a))] [.ref (n_sz U + (n)), .ref (n_sz U + a)]
  refine NW.put (fs := [.null, .null, .null, .null, .null, .int 0, .int 0, .int 0]) (ci := 6) (k := 0) (ty0 := tyX6) ok ⟨rfl, in_X6, by decide, (x_in 90 (by decide +kernel)), tyX6_ok, nmX6⟩ (Or.inr ⟨rfl, hin, rfl⟩) rfl rfl ((nset_n (by omega)).trans hE) (Nat.le_of_ble_eq_true rfl) (am_at eX6_init 5 rfl) ?_
  show NW U G 1 1 9 (nX6_2 U E a n) (n + 1) _ 12 [some (.ref (n_sz U + a))] []
  refine NW.run ok eX6_init 6 2 (show am_run 1 ((tX6_init.drop 6).take 2) 12 [some (.ref (n_sz U + a))] [] = some (15, [some (.ref (n_sz U + a))], [.int (nI 16), .ref (n_sz U + a)]) from rfl) ?_
  refine NW.newa (ty := .int) (N := 16) (t := 0) (a0 := (16, .inl (fun _ => 0))) ok (x_in 146 (by decide +kernel)) rfl (by decide) rfl (fun _ _ h => h) (fun _ => rfl) (by decide) (by decide) (by decide) (by rw [hgR]; exact ⟨Nat.le_of_ble_eq_true rfl, Nat.le_of_ble_eq_true rfl⟩) (am_at eX6_init 8 rfl) ?_
  show NW U G 1 2 25 (nX6_3 U E a n) (n + 2) _ 17 [some (.ref (n_sz U + a))] [.ref (n_sz U + (n + 1)), .ref (n_sz U + a)]
  refine NW.put (fs := [.ref (n_sz U + (n)), .null, .null, .null, .null, .int 0, .int 0, .int 0]) (ci := 6) (k := 1) (ty0 := tyX6) ok ⟨rfl, in_X6, by decide, (x_in 94 (by decide +kernel)), tyX6_ok, nmX6⟩ (Or.inr ⟨rfl, hin, rfl⟩) rfl rfl ((nset_n (by omega)).trans nset_e) (Nat.le_of_ble_eq_true rfl) (am_at eX6_init 9 rfl) ?_
  show NW U G 1 2 25 (nX6_4 U E a n) (n + 2) _ 20 [some (.ref (n_sz U + a))] []
  refine NW.run ok eX6_init 10 2 (show am_run 1 ((tX6_init.drop 10).take 2) 20 [some (.ref (n_sz U + a))] [] = some (23, [some (.ref (n_sz U + a))], [.int (nI 16), .ref (n_sz U + a)]) from rfl) ?_
  refine NW.newa (ty := .int) (N := 16) (t := 0) (a0 := (16, .inl (fun _ => 0))) ok (x_in 146 (by decide +kernel)) rfl (by decide) rfl (fun _ _ h => h) (fun _ => rfl) (by decide) (by decide) (by decide) (by rw [hgR]; exact ⟨Nat.le_of_ble_eq_true rfl, Nat.le_of_ble_eq_true rfl⟩) (am_at eX6_init 12 rfl) ?_
  show NW U G 1 3 41 (nX6_5 U E a n) (n + 3) _ 25 [some (.ref (n_sz U + a))] [.ref (n_sz U + (n + 2)), .ref (n_sz U + a)]
  refine NW.put (fs := [.ref (n_sz U + (n)), .ref (n_sz U + (n + 1)), .null, .null, .null, .int 0, .int 0, .int 0]) (ci := 6) (k := 2) (ty0 := tyX6) ok ⟨rfl, in_X6, by decide, (x_in 99 (by decide +kernel)), tyX6_ok, nmX6⟩ (Or.inr ⟨rfl, hin, rfl⟩) rfl rfl ((nset_n (by omega)).trans nset_e) (Nat.le_of_ble_eq_true rfl) (am_at eX6_init 13 rfl) ?_
  show NW U G 1 3 41 (nX6_6 U E a n) (n + 3) _ 28 [some (.ref (n_sz U + a))] []
  refine NW.run ok eX6_init 14 2 (show am_run 1 ((tX6_init.drop 14).take 2) 28 [some (.ref (n_sz U + a))] [] = some (31, [some (.ref (n_sz U + a))], [.int (nI 16), .ref (n_sz U + a)]) from rfl) ?_
  refine NW.newa (ty := .int) (N := 16) (t := 0) (a0 := (16, .inl (fun _ => 0))) ok (x_in 146 (by decide +kernel)) rfl (by decide) rfl (fun _ _ h => h) (fun _ => rfl) (by decide) (by decide) (by decide) (by rw [hgR]; exact ⟨Nat.le_of_ble_eq_true rfl, Nat.le_of_ble_eq_true rfl⟩) (am_at eX6_init 16 rfl) ?_
  show NW U G 1 4 57 (nX6_7 U E a n) (n + 4) _ 33 [some (.ref (n_sz U + a))] [.ref (n_sz U + (n + 3)), .ref (n_sz U + a)]
  refine NW.put (fs := [.ref (n_sz U + (n)), .ref (n_sz U + (n + 1)), .ref (n_sz U + (n + 2)), .null, .null, .int 0, .int 0, .int 0]) (ci := 6) (k := 3) (ty0 := tyX6) ok ⟨rfl, in_X6, by decide, (x_in 104 (by decide +kernel)), tyX6_ok, nmX6⟩ (Or.inr ⟨rfl, hin, rfl⟩) rfl rfl ((nset_n (by omega)).trans nset_e) (Nat.le_of_ble_eq_true rfl) (am_at eX6_init 17 rfl) ?_
  show NW U G 1 4 57 (nX6_8 U E a n) (n + 4) _ 36 [some (.ref (n_sz U + a))] []
  refine NW.run ok eX6_init 18 2 (show am_run 1 ((tX6_init.drop 18).take 2) 36 [some (.ref (n_sz U + a))] [] = some (39, [some (.ref (n_sz U + a))], [.int (nI 16), .ref (n_sz U + a)]) from rfl) ?_
  refine NW.newa (ty := .int) (N := 16) (t := 0) (a0 := (16, .inl (fun _ => 0))) ok (x_in 146 (by decide +kernel)) rfl (by decide) rfl (fun _ _ h => h) (fun _ => rfl) (by decide) (by decide) (by decide) (by rw [hgR]; exact ⟨Nat.le_of_ble_eq_true rfl, Nat.le_of_ble_eq_true rfl⟩) (am_at eX6_init 20 rfl) ?_
  show NW U G 1 5 73 (nX6_9 U E a n) (n + 5) _ 41 [some (.ref (n_sz U + a))] [.ref (n_sz U + (n + 4)), .ref (n_sz U + a)]
  refine NW.put (fs := [.ref (n_sz U + (n)), .ref (n_sz U + (n + 1)), .ref (n_sz U + (n + 2)), .ref (n_sz U + (n + 3)), .null, .int 0, .int 0, .int 0]) (ci := 6) (k := 4) (ty0 := tyX6) ok ⟨rfl, in_X6, by decide, (x_in 111 (by decide +kernel)), tyX6_ok, nmX6⟩ (Or.inr ⟨rfl, hin, rfl⟩) rfl rfl ((nset_n (by omega)).trans nset_e) (Nat.le_of_ble_eq_true rfl) (am_at eX6_init 21 rfl) ?_
  show NW U G 1 5 73 (nX6_10 U E a n) (n + 5) _ 44 [some (.ref (n_sz U + a))] []
  refine NW.run ok eX6_init 22 2 (show am_run 1 ((tX6_init.drop 22).take 2) 44 [some (.ref (n_sz U + a))] [] = some (46, [some (.ref (n_sz U + a))], [.int (nI 0), .ref (n_sz U + a)]) from rfl) ?_
  refine NW.put (fs := [.ref (n_sz U + (n)), .ref (n_sz U + (n + 1)), .ref (n_sz U + (n + 2)), .ref (n_sz U + (n + 3)), .ref (n_sz U + (n + 4)), .int 0, .int 0, .int 0]) (ci := 6) (k := 5) (ty0 := tyX6) ok ⟨rfl, in_X6, by decide, (x_in 114 (by decide +kernel)), tyX6_ok, nmX6⟩ (Or.inl rfl) rfl rfl nset_e (Nat.le_of_ble_eq_true rfl) (am_at eX6_init 24 rfl) ?_
  show NW U G 1 5 73 (nX6_11 U E a n) (n + 5) _ 49 [some (.ref (n_sz U + a))] []
  refine NW.run ok eX6_init 25 2 (show am_run 1 ((tX6_init.drop 25).take 2) 49 [some (.ref (n_sz U + a))] [] = some (51, [some (.ref (n_sz U + a))], [.int (nI 0), .ref (n_sz U + a)]) from rfl) ?_
  refine NW.put (fs := [.ref (n_sz U + (n)), .ref (n_sz U + (n + 1)), .ref (n_sz U + (n + 2)), .ref (n_sz U + (n + 3)), .ref (n_sz U + (n + 4)), .int (nI 0), .int 0, .int 0]) (ci := 6) (k := 6) (ty0 := tyX6) ok ⟨rfl, in_X6, by decide, (x_in 116 (by decide +kernel)), tyX6_ok, nmX6⟩ (Or.inl rfl) rfl rfl nset_e (Nat.le_of_ble_eq_true rfl) (am_at eX6_init 27 rfl) ?_
  show NW U G 1 5 73 (nX6_12 U E a n) (n + 5) _ 54 [some (.ref (n_sz U + a))] []
  refine NW.run ok eX6_init 28 2 (show am_run 1 ((tX6_init.drop 28).take 2) 54 [some (.ref (n_sz U + a))] [] = some (56, [some (.ref (n_sz U + a))], [.int (nI 0), .ref (n_sz U + a)]) from rfl) ?_
  refine NW.put (fs := [.ref (n_sz U + (n)), .ref (n_sz U + (n + 1)), .ref (n_sz U + (n + 2)), .ref (n_sz U + (n + 3)), .ref (n_sz U + (n + 4)), .int (nI 0), .int (nI 0), .int 0]) (ci := 6) (k := 7) (ty0 := tyX6) ok ⟨rfl, in_X6, by decide, (x_in 123 (by decide +kernel)), tyX6_ok, nmX6⟩ (Or.inl rfl) rfl rfl nset_e (Nat.le_of_ble_eq_true rfl) (am_at eX6_init 30 rfl) ?_
  show NW U G 1 5 73 (nX6_13 U E a n) (n + 5) _ 59 [some (.ref (n_sz U + a))] []
  exact NW.vret ok hr (Nat.le_refl _) (Nat.le_refl _) (am_at eX6_init 31 rfl)
def nX8_1 (U : am_U) (E : nE) (a n : Nat) : nE := nset E (n) (.inr (6, [.null, .null, .null, .null, .null, .int 0, .int 0, .int 0]))
def nX8_2 (U : am_U) (E : nE) (a n : Nat) : nE := nX6 U (nX8_1 U E a n) (n) (n + 1)
def nX8_3 (U : am_U) (E : nE) (a n : Nat) : nE := nset (nX8_2 U E a n) a (.inr (8, [.ref (n_sz U + (n)), .null, .null, .int 0, .int 0, .int 0, .int 0, .int 0, .int 0]))
def nX8_4 (U : am_U) (E : nE) (a n : Nat) : nE := nset (nX8_3 U E a n) (n + 6) (.inr (2, [.null, .int 0, .int 0, .int 0, .int 0, .int 0, .int 0, .int 0]))
def nX8_5 (U : am_U) (E : nE) (a n : Nat) : nE := nX1 U (nX8_4 U E a n) (n + 6) (n + 7)
def nX8_6 (U : am_U) (E : nE) (a n : Nat) : nE := nset (nX8_5 U E a n) a (.inr (8, [.ref (n_sz U + (n)), .ref (n_sz U + (n + 6)), .null, .int 0, .int 0, .int 0, .int 0, .int 0, .int 0]))
def nX8_7 (U : am_U) (E : nE) (a n : Nat) : nE := nset (nX8_6 U E a n) (n + 8) (.inl (am_dA U 0, 16, .inl (fun _ => 0)))
def nX8_8 (U : am_U) (E : nE) (a n : Nat) : nE := nset (nX8_7 U E a n) a (.inr (8, [.ref (n_sz U + (n)), .ref (n_sz U + (n + 6)), .ref (n_sz U + (n + 8)), .int 0, .int 0, .int 0, .int 0, .int 0, .int 0]))
def nX8_9 (U : am_U) (E : nE) (a n : Nat) : nE := nset (nX8_8 U E a n) a (.inr (8, [.ref (n_sz U + (n)), .ref (n_sz U + (n + 6)), .ref (n_sz U + (n + 8)), .int (nI 0), .int 0, .int 0, .int 0, .int 0, .int 0]))
def nX8_10 (U : am_U) (E : nE) (a n : Nat) : nE := nset (nX8_9 U E a n) a (.inr (8, [.ref (n_sz U + (n)), .ref (n_sz U + (n + 6)), .ref (n_sz U + (n + 8)), .int (nI 0), .int (nI 0), .int 0, .int 0, .int 0, .int 0]))
def nX8_11 (U : am_U) (E : nE) (a n : Nat) : nE := nset (nX8_10 U E a n) a (.inr (8, [.ref (n_sz U + (n)), .ref (n_sz U + (n + 6)), .ref (n_sz U + (n + 8)), .int (nI 0), .int (nI 0), .int (nI 0), .int 0, .int 0, .int 0]))
def nX8_12 (U : am_U) (E : nE) (a n : Nat) : nE := nset (nX8_11 U E a n) a (.inr (8, [.ref (n_sz U + (n)), .ref (n_sz U + (n + 6)), .ref (n_sz U + (n + 8)), .int (nI 0), .int (nI 0), .int (nI 0), .int (nI 0), .int 0, .int 0]))
def nX8_13 (U : am_U) (E : nE) (a n : Nat) : nE := nset (nX8_12 U E a n) a (.inr (8, [.ref (n_sz U + (n)), .ref (n_sz U + (n + 6)), .ref (n_sz U + (n + 8)), .int (nI 0), .int (nI 0), .int (nI 0), .int (nI 0), .int (nI 0), .int 0]))
def nX8_14 (U : am_U) (E : nE) (a n : Nat) : nE := nset (nX8_13 U E a n) a (.inr (8, [.ref (n_sz U + (n)), .ref (n_sz U + (n + 6)), .ref (n_sz U + (n + 8)), .int (nI 0), .int (nI 0), .int (nI 0), .int (nI 0), .int (nI 0), .int (nI 0)]))
def nX8 (U : am_U) (E : nE) (a n : Nat) : nE := (nX8_14 U E a n)
def n_rX8 : Room := { frames := 2, cells := 9, slots := 114, locals := 32 }
theorem nX8_old {U : am_U} {E : nE} {a n q : Nat} (h1 : q ≠ a) (h2 : q < n) : nX8 U E a n q = E q := by
  unfold nX8
  unfold nX8_14
  rw [nset_n (by omega)]
  unfold nX8_13
  rw [nset_n (by omega)]
  unfold nX8_12
  rw [nset_n (by omega)]
  unfold nX8_11
  rw [nset_n (by omega)]
  unfold nX8_10
  rw [nset_n (by omega)]
  unfold nX8_9
  rw [nset_n (by omega)]
  unfold nX8_8
  rw [nset_n (by omega)]
  unfold nX8_7
  rw [nset_n (by omega)]
  unfold nX8_6
  rw [nset_n (by omega)]
  unfold nX8_5
  rw [nX1_old (by omega) (by omega)]
  unfold nX8_4
  rw [nset_n (by omega)]
  unfold nX8_3
  rw [nset_n (by omega)]
  unfold nX8_2
  rw [nX6_old (by omega) (by omega)]
  unfold nX8_1
  rw [nset_n (by omega)]
theorem nX8_at {U : am_U} {E : nE} {a n : Nat} (h : a < n) : nX8 U E a n a = some (.inr (8, [.ref (n_sz U + (n)), .ref (n_sz U + (n + 6)), .ref (n_sz U + (n + 8)), .int (nI 0), .int (nI 0), .int (nI 0), .int (nI 0), .int (nI 0), .int (nI 0)])) := by
  unfold nX8
  unfold nX8_14
  exact nset_e
set_option maxRecDepth 100000 in
set_option maxHeartbeats 8000000 in
theorem kX8_init (U : am_U) (l : Launch) (B : am_base xx U) (hfl : l.stackTraces = false) (O : n_O U) {E : nE} {a n : Nat} (hE : E a = some (.inr (8, [.null, .null, .null, .int 0, .int 0, .int 0, .int 0, .int 0, .int 0]))) (ha : a < n) : n_Ct U l yX8_init cX8_init 1 n_rX8 a E n (nX8 U E a n) (n + 9) := by
  refine n_Ct.of B hfl (by decide) (Nat.le_of_ble_eq_true rfl) rfl ?_
  intro G hgl hgR hr ok hin
  have ok : am_ok xx U G RX8 cX8_init 1 := ok
  show NW U G 1 0 0 E (n) _ 0 [some (.ref (n_sz U + a))] []
  refine NW.run ok eX8_init 0 1 (show am_run 1 ((tX8_init.drop 0).take 1) 0 [some (.ref (n_sz U + a))] [] = some (1, [some (.ref (n_sz U + a))], [.ref (n_sz U + a)]) from rfl) ?_
  refine NW.objInit ok (x_in 83 (by decide +kernel)) n_w2 n_w3 (by rw [hgR]; exact ⟨Nat.le_of_ble_eq_true rfl, Nat.le_of_ble_eq_true rfl⟩) (am_at eX8_init 1 rfl) ?_
  refine NW.run ok eX8_init 2 1 (show am_run 1 ((tX8_init.drop 2).take 1) 4 [some (.ref (n_sz U + a))] [] = some (5, [some (.ref (n_sz U + a))], [.ref (n_sz U + a)]) from rfl) ?_
  refine NW.new (fs := [.null, .null, .null, .null, .null, .int 0, .int 0, .int 0]) tyX6 ok in_X6 tyX6_ok (x_in 84 (by decide +kernel)) (x_in 85 (by decide +kernel)) (x_in 42 (by decide +kernel)) (ci := 6) rfl n_fsX6 (by rw [hgR]; exact ⟨Nat.le_of_ble_eq_true rfl, Nat.le_of_ble_eq_true rfl⟩) (am_at eX8_init 3 rfl) ?_
  show NW U G 1 1 8 (nX8_1 U E a n) (n + 1) _ 8 [some (.ref (n_sz U + a))] [.ref (n_sz U + (n)), .ref (n_sz U + a)]
  refine NW.run ok eX8_init 4 1 (show am_run 1 ((tX8_init.drop 4).take 1) 8 [some (.ref (n_sz U + a))] [.ref (n_sz U + (n)), .ref (n_sz U + a)] = some (9, [some (.ref (n_sz U + a))], [.ref (n_sz U + (n)), .ref (n_sz U + (n)), .ref (n_sz U + a)]) from rfl) ?_
  refine NW.call (rm := n_rX6) (host := some "DandelionBroadcast") ok (by rw [hgl]; exact kX6_init U l B hfl O nset_e (by omega)) ⟨(y_inN 86 (by decide +kernel)), (x_in 87 (by decide +kernel)), (x_in 42 (by decide +kernel)), (x_in 88 (by decide +kernel)), rfl, by decide +kernel, by decide +kernel, by decide +kernel⟩ (Nat.le_of_ble_eq_true rfl) (by rw [hgR]; exact ⟨Nat.le_of_ble_eq_true rfl, Nat.le_of_ble_eq_true rfl⟩) (by rw [hgR]; exact ⟨Nat.le_of_ble_eq_true rfl, Nat.le_of_ble_eq_true rfl⟩) (am_at eX8_init 5 rfl) ?_
  show NW U G 1 6 81 (nX8_2 U E a n) (n + 6) _ 12 [some (.ref (n_sz U + a))] [.ref (n_sz U + (n)), .ref (n_sz U + a)]
  refine NW.put (fs := [.null, .null, .null, .int 0, .int 0, .int 0, .int 0, .int 0, .int 0]) (ci := 8) (k := 0) (ty0 := tyX8) ok ⟨rfl, in_X8, by decide, (x_in 197 (by decide +kernel)), tyX8_ok, nmX8⟩ (Or.inr ⟨rfl, hin, rfl⟩) rfl rfl ((nX6_old (by omega) (by omega)).trans ((nset_n (by omega)).trans hE)) (Nat.le_of_ble_eq_true rfl) (am_at eX8_init 6 rfl) ?_
  show NW U G 1 6 81 (nX8_3 U E a n) (n + 6) _ 15 [some (.ref (n_sz U + a))] []
  refine NW.run ok eX8_init 7 1 (show am_run 1 ((tX8_init.drop 7).take 1) 15 [some (.ref (n_sz U + a))] [] = some (16, [some (.ref (n_sz U + a))], [.ref (n_sz U + a)]) from rfl) ?_
  refine NW.new (fs := [.null, .int 0, .int 0, .int 0, .int 0, .int 0, .int 0, .int 0]) tyX1 ok in_X1 tyX1_ok (x_in 147 (by decide +kernel)) (x_in 148 (by decide +kernel)) (x_in 43 (by decide +kernel)) (ci := 2) rfl n_fsX1 (by rw [hgR]; exact ⟨Nat.le_of_ble_eq_true rfl, Nat.le_of_ble_eq_true rfl⟩) (am_at eX8_init 8 rfl) ?_
  show NW U G 1 7 89 (nX8_4 U E a n) (n + 7) _ 19 [some (.ref (n_sz U + a))] [.ref (n_sz U + (n + 6)), .ref (n_sz U + a)]
  refine NW.run ok eX8_init 9 1 (show am_run 1 ((tX8_init.drop 9).take 1) 19 [some (.ref (n_sz U + a))] [.ref (n_sz U + (n + 6)), .ref (n_sz U + a)] = some (20, [some (.ref (n_sz U + a))], [.ref (n_sz U + (n + 6)), .ref (n_sz U + (n + 6)), .ref (n_sz U + a)]) from rfl) ?_
  refine NW.call (rm := n_rX1) (host := some "DandelionBroadcast") ok (by rw [hgl]; exact kX1_init U l B hfl O nset_e (by omega)) ⟨(y_inN 149 (by decide +kernel)), (x_in 150 (by decide +kernel)), (x_in 43 (by decide +kernel)), (x_in 151 (by decide +kernel)), rfl, by decide +kernel, by decide +kernel, by decide +kernel⟩ (Nat.le_of_ble_eq_true rfl) (by rw [hgR]; exact ⟨Nat.le_of_ble_eq_true rfl, Nat.le_of_ble_eq_true rfl⟩) (by rw [hgR]; exact ⟨Nat.le_of_ble_eq_true rfl, Nat.le_of_ble_eq_true rfl⟩) (am_at eX8_init 10 rfl) ?_
  show NW U G 1 8 98 (nX8_5 U E a n) (n + 8) _ 23 [some (.ref (n_sz U + a))] [.ref (n_sz U + (n + 6)), .ref (n_sz U + a)]
  refine NW.put (fs := [.ref (n_sz U + (n)), .null, .null, .int 0, .int 0, .int 0, .int 0, .int 0, .int 0]) (ci := 8) (k := 1) (ty0 := tyX8) ok ⟨rfl, in_X8, by decide, (x_in 201 (by decide +kernel)), tyX8_ok, nmX8⟩ (Or.inr ⟨rfl, hin, rfl⟩) rfl rfl ((nX1_old (by omega) (by omega)).trans ((nset_n (by omega)).trans nset_e)) (Nat.le_of_ble_eq_true rfl) (am_at eX8_init 11 rfl) ?_
  show NW U G 1 8 98 (nX8_6 U E a n) (n + 8) _ 26 [some (.ref (n_sz U + a))] []
  refine NW.run ok eX8_init 12 2 (show am_run 1 ((tX8_init.drop 12).take 2) 26 [some (.ref (n_sz U + a))] [] = some (29, [some (.ref (n_sz U + a))], [.int (nI 16), .ref (n_sz U + a)]) from rfl) ?_
  refine NW.newa (ty := .int) (N := 16) (t := 0) (a0 := (16, .inl (fun _ => 0))) ok (x_in 146 (by decide +kernel)) rfl (by decide) rfl (fun _ _ h => h) (fun _ => rfl) (by decide) (by decide) (by decide) (by rw [hgR]; exact ⟨Nat.le_of_ble_eq_true rfl, Nat.le_of_ble_eq_true rfl⟩) (am_at eX8_init 14 rfl) ?_
  show NW U G 1 9 114 (nX8_7 U E a n) (n + 9) _ 31 [some (.ref (n_sz U + a))] [.ref (n_sz U + (n + 8)), .ref (n_sz U + a)]
  refine NW.put (fs := [.ref (n_sz U + (n)), .ref (n_sz U + (n + 6)), .null, .int 0, .int 0, .int 0, .int 0, .int 0, .int 0]) (ci := 8) (k := 2) (ty0 := tyX8) ok ⟨rfl, in_X8, by decide, (x_in 205 (by decide +kernel)), tyX8_ok, nmX8⟩ (Or.inr ⟨rfl, hin, rfl⟩) rfl rfl ((nset_n (by omega)).trans nset_e) (Nat.le_of_ble_eq_true rfl) (am_at eX8_init 15 rfl) ?_
  show NW U G 1 9 114 (nX8_8 U E a n) (n + 9) _ 34 [some (.ref (n_sz U + a))] []
  refine NW.run ok eX8_init 16 2 (show am_run 1 ((tX8_init.drop 16).take 2) 34 [some (.ref (n_sz U + a))] [] = some (36, [some (.ref (n_sz U + a))], [.int (nI 0), .ref (n_sz U + a)]) from rfl) ?_
  refine NW.put (fs := [.ref (n_sz U + (n)), .ref (n_sz U + (n + 6)), .ref (n_sz U + (n + 8)), .int 0, .int 0, .int 0, .int 0, .int 0, .int 0]) (ci := 8) (k := 3) (ty0 := tyX8) ok ⟨rfl, in_X8, by decide, (x_in 209 (by decide +kernel)), tyX8_ok, nmX8⟩ (Or.inl rfl) rfl rfl nset_e (Nat.le_of_ble_eq_true rfl) (am_at eX8_init 18 rfl) ?_
  show NW U G 1 9 114 (nX8_9 U E a n) (n + 9) _ 39 [some (.ref (n_sz U + a))] []
  refine NW.run ok eX8_init 19 2 (show am_run 1 ((tX8_init.drop 19).take 2) 39 [some (.ref (n_sz U + a))] [] = some (41, [some (.ref (n_sz U + a))], [.int (nI 0), .ref (n_sz U + a)]) from rfl) ?_
  refine NW.put (fs := [.ref (n_sz U + (n)), .ref (n_sz U + (n + 6)), .ref (n_sz U + (n + 8)), .int (nI 0), .int 0, .int 0, .int 0, .int 0, .int 0]) (ci := 8) (k := 4) (ty0 := tyX8) ok ⟨rfl, in_X8, by decide, (x_in 212 (by decide +kernel)), tyX8_ok, nmX8⟩ (Or.inl rfl) rfl rfl nset_e (Nat.le_of_ble_eq_true rfl) (am_at eX8_init 21 rfl) ?_
  show NW U G 1 9 114 (nX8_10 U E a n) (n + 9) _ 44 [some (.ref (n_sz U + a))] []
  refine NW.run ok eX8_init 22 2 (show am_run 1 ((tX8_init.drop 22).take 2) 44 [some (.ref (n_sz U + a))] [] = some (46, [some (.ref (n_sz U + a))], [.int (nI 0), .ref (n_sz U + a)]) from rfl) ?_
  refine NW.put (fs := [.ref (n_sz U + (n)), .ref (n_sz U + (n + 6)), .ref (n_sz U + (n + 8)), .int (nI 0), .int (nI 0), .int 0, .int 0, .int 0, .int 0]) (ci := 8) (k := 5) (ty0 := tyX8) ok ⟨rfl, in_X8, by decide, (x_in 215 (by decide +kernel)), tyX8_ok, nmX8⟩ (Or.inl rfl) rfl rfl nset_e (Nat.le_of_ble_eq_true rfl) (am_at eX8_init 24 rfl) ?_
  show NW U G 1 9 114 (nX8_11 U E a n) (n + 9) _ 49 [some (.ref (n_sz U + a))] []
  refine NW.run ok eX8_init 25 2 (show am_run 1 ((tX8_init.drop 25).take 2) 49 [some (.ref (n_sz U + a))] [] = some (51, [some (.ref (n_sz U + a))], [.int (nI 0), .ref (n_sz U + a)]) from rfl) ?_
  refine NW.put (fs := [.ref (n_sz U + (n)), .ref (n_sz U + (n + 6)), .ref (n_sz U + (n + 8)), .int (nI 0), .int (nI 0), .int (nI 0), .int 0, .int 0, .int 0]) (ci := 8) (k := 6) (ty0 := tyX8) ok ⟨rfl, in_X8, by decide, (x_in 218 (by decide +kernel)), tyX8_ok, nmX8⟩ (Or.inl rfl) rfl rfl nset_e (Nat.le_of_ble_eq_true rfl) (am_at eX8_init 27 rfl) ?_
  show NW U G 1 9 114 (nX8_12 U E a n) (n + 9) _ 54 [some (.ref (n_sz U + a))] []
  refine NW.run ok eX8_init 28 2 (show am_run 1 ((tX8_init.drop 28).take 2) 54 [some (.ref (n_sz U + a))] [] = some (56, [some (.ref (n_sz U + a))], [.int (nI 0), .ref (n_sz U + a)]) from rfl) ?_
  refine NW.put (fs := [.ref (n_sz U + (n)), .ref (n_sz U + (n + 6)), .ref (n_sz U + (n + 8)), .int (nI 0), .int (nI 0), .int (nI 0), .int (nI 0), .int 0, .int 0]) (ci := 8) (k := 7) (ty0 := tyX8) ok ⟨rfl, in_X8, by decide, (x_in 221 (by decide +kernel)), tyX8_ok, nmX8⟩ (Or.inl rfl) rfl rfl nset_e (Nat.le_of_ble_eq_true rfl) (am_at eX8_init 30 rfl) ?_
  show NW U G 1 9 114 (nX8_13 U E a n) (n + 9) _ 59 [some (.ref (n_sz U + a))] []
  refine NW.run ok eX8_init 31 2 (show am_run 1 ((tX8_init.drop 31).take 2) 59 [some (.ref (n_sz U + a))] [] = some (61, [some (.ref (n_sz U + a))], [.int (nI 0), .ref (n_sz U + a)]) from rfl) ?_
  refine NW.put (fs := [.ref (n_sz U + (n)), .ref (n_sz U + (n + 6)), .ref (n_sz U + (n + 8)), .int (nI 0), .int (nI 0), .int (nI 0), .int (nI 0), .int (nI 0), .int 0]) (ci := 8) (k := 8) (ty0 := tyX8) ok ⟨rfl, in_X8, by decide, (x_in 224 (by decide +kernel)), tyX8_ok, nmX8⟩ (Or.inl rfl) rfl rfl nset_e (Nat.le_of_ble_eq_true rfl) (am_at eX8_init 33 rfl) ?_
  show NW U G 1 9 114 (nX8_14 U E a n) (n + 9) _ 64 [some (.ref (n_sz U + a))] []
  exact NW.vret ok hr (Nat.le_refl _) (Nat.le_refl _) (am_at eX8_init 34 rfl)
def nX4_1 (U : am_U) (E : nE) (a n : Nat) : nE := nset E (n) (.inl (am_dA U 3, 9, .inr (.inr (.inr (.inr (fun _ => none))))))
def nX4_2 (U : am_U) (E : nE) (a n : Nat) : nE := nset (nX4_1 U E a n) a (.inr (5, [.ref (n_sz U + (n)), .int 0, .int 0]))
def nX4_3 (U : am_U) (E : nE) (a n : Nat) : nE := nset (nX4_2 U E a n) a (.inr (5, [.ref (n_sz U + (n)), .int (nI 0), .int 0]))
def nX4_4 (U : am_U) (E : nE) (a n : Nat) : nE := nset (nX4_3 U E a n) a (.inr (5, [.ref (n_sz U + (n)), .int (nI 0), .int (nI 0)]))
def nX4_5 (U : am_U) (E : nE) (a n : Nat) : nE := nset (nX4_4 U E a n) (n + 1) (.inr (8, [.null, .null, .null, .int 0, .int 0, .int 0, .int 0, .int 0, .int 0]))
def nX4_6 (U : am_U) (E : nE) (a n : Nat) : nE := nX8 U (nX4_5 U E a n) (n + 1) (n + 2)
def nX4_f1 (U : am_U) (n : Nat) : Nat → Option Nat := fun q => if q = (nI 0).toNatClampNeg then some (n_sz U + (n + 1)) else (fun _ => none) q
def nX4_7 (U : am_U) (E : nE) (a n : Nat) : nE := nset (nX4_6 U E a n) (n) (.inl (am_dA U 3, 9, .inr (.inr (.inr (.inr (nX4_f1 U n))))))
def nX4_8 (U : am_U) (E : nE) (a n : Nat) : nE := nset (nX4_7 U E a n) (n + 11) (.inr (8, [.null, .null, .null, .int 0, .int 0, .int 0, .int 0, .int 0, .int 0]))
def nX4_9 (U : am_U) (E : nE) (a n : Nat) : nE := nX8 U (nX4_8 U E a n) (n + 11) (n + 12)
def nX4_f2 (U : am_U) (n : Nat) : Nat → Option Nat := fun q => if q = (nI 1).toNatClampNeg then some (n_sz U + (n + 11)) else (nX4_f1 U n) q
def nX4_10 (U : am_U) (E : nE) (a n : Nat) : nE := nset (nX4_9 U E a n) (n) (.inl (am_dA U 3, 9, .inr (.inr (.inr (.inr (nX4_f2 U n))))))
def nX4_11 (U : am_U) (E : nE) (a n : Nat) : nE := nset (nX4_10 U E a n) (n + 21) (.inr (8, [.null, .null, .null, .int 0, .int 0, .int 0, .int 0, .int 0, .int 0]))
def nX4_12 (U : am_U) (E : nE) (a n : Nat) : nE := nX8 U (nX4_11 U E a n) (n + 21) (n + 22)
def nX4_f3 (U : am_U) (n : Nat) : Nat → Option Nat := fun q => if q = (nI 2).toNatClampNeg then some (n_sz U + (n + 21)) else (nX4_f2 U n) q
def nX4_13 (U : am_U) (E : nE) (a n : Nat) : nE := nset (nX4_12 U E a n) (n) (.inl (am_dA U 3, 9, .inr (.inr (.inr (.inr (nX4_f3 U n))))))
def nX4_14 (U : am_U) (E : nE) (a n : Nat) : nE := nset (nX4_13 U E a n) (n + 31) (.inr (8, [.null, .null, .null, .int 0, .int 0, .int 0, .int 0, .int 0, .int 0]))
def nX4_15 (U : am_U) (E : nE) (a n : Nat) : nE := nX8 U (nX4_14 U E a n) (n + 31) (n + 32)
def nX4_f4 (U : am_U) (n : Nat) : Nat → Option Nat := fun q => if q = (nI 3).toNatClampNeg then some (n_sz U + (n + 31)) else (nX4_f3 U n) q
def nX4_16 (U : am_U) (E : nE) (a n : Nat) : nE := nset (nX4_15 U E a n) (n) (.inl (am_dA U 3, 9, .inr (.inr (.inr (.inr (nX4_f4 U n))))))
def nX4_17 (U : am_U) (E : nE) (a n : Nat) : nE := nset (nX4_16 U E a n) (n + 41) (.inr (8, [.null, .null, .null, .int 0, .int 0, .int 0, .int 0, .int 0, .int 0]))
def nX4_18 (U : am_U) (E : nE) (a n : Nat) : nE := nX8 U (nX4_17 U E a n) (n + 41) (n + 42)
def nX4_f5 (U : am_U) (n : Nat) : Nat → Option Nat := fun q => if q = (nI 4).toNatClampNeg then some (n_sz U + (n + 41)) else (nX4_f4 U n) q
def nX4_19 (U : am_U) (E : nE) (a n : Nat) : nE := nset (nX4_18 U E a n) (n) (.inl (am_dA U 3, 9, .inr (.inr (.inr (.inr (nX4_f5 U n))))))
def nX4_20 (U : am_U) (E : nE) (a n : Nat) : nE := nset (nX4_19 U E a n) (n + 51) (.inr (8, [.null, .null, .null, .int 0, .int 0, .int 0, .int 0, .int 0, .int 0]))
def nX4_21 (U : am_U) (E : nE) (a n : Nat) : nE := nX8 U (nX4_20 U E a n) (n + 51) (n + 52)
def nX4_f6 (U : am_U) (n : Nat) : Nat → Option Nat := fun q => if q = (nI 5).toNatClampNeg then some (n_sz U + (n + 51)) else (nX4_f5 U n) q
def nX4_22 (U : am_U) (E : nE) (a n : Nat) : nE := nset (nX4_21 U E a n) (n) (.inl (am_dA U 3, 9, .inr (.inr (.inr (.inr (nX4_f6 U n))))))
def nX4_23 (U : am_U) (E : nE) (a n : Nat) : nE := nset (nX4_22 U E a n) (n + 61) (.inr (8, [.null, .null, .null, .int 0, .int 0, .int 0, .int 0, .int 0, .int 0]))
def nX4_24 (U : am_U) (E : nE) (a n : Nat) : nE := nX8 U (nX4_23 U E a n) (n + 61) (n + 62)
def nX4_f7 (U : am_U) (n : Nat) : Nat → Option Nat := fun q => if q = (nI 6).toNatClampNeg then some (n_sz U + (n + 61)) else (nX4_f6 U n) q
def nX4_25 (U : am_U) (E : nE) (a n : Nat) : nE := nset (nX4_24 U E a n) (n) (.inl (am_dA U 3, 9, .inr (.inr (.inr (.inr (nX4_f7 U n))))))
def nX4_26 (U : am_U) (E : nE) (a n : Nat) : nE := nset (nX4_25 U E a n) (n + 71) (.inr (8, [.null, .null, .null, .int 0, .int 0, .int 0, .int 0, .int 0, .int 0]))
def nX4_27 (U : am_U) (E : nE) (a n : Nat) : nE := nX8 U (nX4_26 U E a n) (n + 71) (n + 72)
def nX4_f8 (U : am_U) (n : Nat) : Nat → Option Nat := fun q => if q = (nI 7).toNatClampNeg then some (n_sz U + (n + 71)) else (nX4_f7 U n) q
def nX4_28 (U : am_U) (E : nE) (a n : Nat) : nE := nset (nX4_27 U E a n) (n) (.inl (am_dA U 3, 9, .inr (.inr (.inr (.inr (nX4_f8 U n))))))
def nX4_29 (U : am_U) (E : nE) (a n : Nat) : nE := nset (nX4_28 U E a n) (n + 81) (.inr (8, [.null, .null, .null, .int 0, .int 0, .int 0, .int 0, .int 0, .int 0]))
def nX4_30 (U : am_U) (E : nE) (a n : Nat) : nE := nX8 U (nX4_29 U E a n) (n + 81) (n + 82)
def nX4_f9 (U : am_U) (n : Nat) : Nat → Option Nat := fun q => if q = (nI 8).toNatClampNeg then some (n_sz U + (n + 81)) else (nX4_f8 U n) q
def nX4_31 (U : am_U) (E : nE) (a n : Nat) : nE := nset (nX4_30 U E a n) (n) (.inl (am_dA U 3, 9, .inr (.inr (.inr (.inr (nX4_f9 U n))))))
def nX4 (U : am_U) (E : nE) (a n : Nat) : nE := (nX4_31 U E a n)
def n_rX4 : Room := { frames := 3, cells := 91, slots := 1116, locals := 52 }
theorem nX4_old {U : am_U} {E : nE} {a n q : Nat} (h1 : q ≠ a) (h2 : q < n) : nX4 U E a n q = E q := by
  unfold nX4
  unfold nX4_31
  rw [nset_n (by omega)]
  unfold nX4_30
  rw [nX8_old (by omega) (by omega)]
  unfold nX4_29
  rw [nset_n (by omega)]
  unfold nX4_28
  rw [nset_n (by omega)]
  unfold nX4_27
  rw [nX8_old (by omega) (by omega)]
  unfold nX4_26
  rw [nset_n (by omega)]
  unfold nX4_25
  rw [nset_n (by omega)]
  unfold nX4_24
  rw [nX8_old (by omega) (by omega)]
  unfold nX4_23
  rw [nset_n (by omega)]
  unfold nX4_22
  rw [nset_n (by omega)]
  unfold nX4_21
  rw [nX8_old (by omega) (by omega)]
  unfold nX4_20
  rw [nset_n (by omega)]
  unfold nX4_19
  rw [nset_n (by omega)]
  unfold nX4_18
  rw [nX8_old (by omega) (by omega)]
  unfold nX4_17
  rw [nset_n (by omega)]
  unfold nX4_16
  rw [nset_n (by omega)]
  unfold nX4_15
  rw [nX8_old (by omega) (by omega)]
  unfold nX4_14
  rw [nset_n (by omega)]
  unfold nX4_13
  rw [nset_n (by omega)]
  unfold nX4_12
  rw [nX8_old (by omega) (by omega)]
  unfold nX4_11
  rw [nset_n (by omega)]
  unfold nX4_10
  rw [nset_n (by omega)]
  unfold nX4_9
  rw [nX8_old (by omega) (by omega)]
  unfold nX4_8
  rw [nset_n (by omega)]
  unfold nX4_7
  rw [nset_n (by omega)]
  unfold nX4_6
  rw [nX8_old (by omega) (by omega)]
  unfold nX4_5
  rw [nset_n (by omega)]
  unfold nX4_4
  rw [nset_n (by omega)]
  unfold nX4_3
  rw [nset_n (by omega)]
  unfold nX4_2
  rw [nset_n (by omega)]
  unfold nX4_1
  rw [nset_n (by omega)]
theorem nX4_at {U : am_U} {E : nE} {a n : Nat} (h : a < n) : nX4 U E a n a = some (.inr (5, [.ref (n_sz U + (n)), .int (nI 0), .int (nI 0)])) := by
  unfold nX4
  unfold nX4_31
  rw [nset_n (by omega)]
  unfold nX4_30
  rw [nX8_old (by omega) (by omega)]
  unfold nX4_29
  rw [nset_n (by omega)]
  unfold nX4_28
  rw [nset_n (by omega)]
  unfold nX4_27
  rw [nX8_old (by omega) (by omega)]
  unfold nX4_26
  rw [nset_n (by omega)]
  unfold nX4_25
  rw [nset_n (by omega)]
  unfold nX4_24
  rw [nX8_old (by omega) (by omega)]
  unfold nX4_23
  rw [nset_n (by omega)]
  unfold nX4_22
  rw [nset_n (by omega)]
  unfold nX4_21
  rw [nX8_old (by omega) (by omega)]
  unfold nX4_20
  rw [nset_n (by omega)]
  unfold nX4_19
  rw [nset_n (by omega)]
  unfold nX4_18
  rw [nX8_old (by omega) (by omega)]
  unfold nX4_17
  rw [nset_n (by omega)]
  unfold nX4_16
  rw [nset_n (by omega)]
  unfold nX4_15
  rw [nX8_old (by omega) (by omega)]
  unfold nX4_14
  rw [nset_n (by omega)]
  unfold nX4_13
  rw [nset_n (by omega)]
  unfold nX4_12
  rw [nX8_old (by omega) (by omega)]
  unfold nX4_11
  rw [nset_n (by omega)]
  unfold nX4_10
  rw [nset_n (by omega)]
  unfold nX4_9
  rw [nX8_old (by omega) (by omega)]
  unfold nX4_8
  rw [nset_n (by omega)]
  unfold nX4_7
  rw [nset_n (by omega)]
  unfold nX4_6
  rw [nX8_old (by omega) (by omega)]
  unfold nX4_5
  rw [nset_n (by omega)]
  unfold nX4_4
  exact nset_e
set_option maxRecDepth 100000 in
set_option maxHeartbeats 8000000 in
theorem kX4_init (U : am_U) (l : Launch) (B : am_base xx U) (hfl : l.stackTraces = false) (O : n_O U) {E : nE} {a n : Nat} (hE : E a = some (.inr (5, [.null, .int 0, .int 0]))) (ha : a < n) : n_Ct U l yX4_init cX4_init 2 n_rX4 a E n (nX4 U E a n) (n + 91) := by
  refine n_Ct.of B hfl (by decide) (Nat.le_of_ble_eq_true rfl) rfl ?_
  intro G hgl hgR hr ok hin
  have ok : am_ok xx U G RX4 cX4_init 2 := ok
  show NW U G 2 0 0 E (n) _ 0 [some (.ref (n_sz U + a)), none] []
  refine NW.run ok eX4_init 0 1 (show am_run 2 ((tX4_init.drop 0).take 1) 0 [some (.ref (n_sz U + a)), none] [] = some (1, [some (.ref (n_sz U + a)), none], [.ref (n_sz U + a)]) from rfl) ?_
  refine NW.objInit ok (x_in 251 (by decide +kernel)) n_w2 n_w3 (by rw [hgR]; exact ⟨Nat.le_of_ble_eq_true rfl, Nat.le_of_ble_eq_true rfl⟩) (am_at eX4_init 1 rfl) ?_
  refine NW.run ok eX4_init 2 2 (show am_run 2 ((tX4_init.drop 2).take 2) 4 [some (.ref (n_sz U + a)), none] [] = some (7, [some (.ref (n_sz U + a)), none], [.int (nI 9), .ref (n_sz U + a)]) from rfl) ?_
  refine NW.anew (C := "DandelionBroadcast$State") (N := 9) (t := 3) ok O.1 (x_in 252 (by decide +kernel)) (by decide) rfl (by decide) (by decide) (by decide) (by rw [hgR]; exact ⟨Nat.le_of_ble_eq_true rfl, Nat.le_of_ble_eq_true rfl⟩) (am_at eX4_init 4 rfl) ?_
  show NW U G 2 1 9 (nX4_1 U E a n) (n + 1) _ 10 [some (.ref (n_sz U + a)), none] [.ref (n_sz U + (n)), .ref (n_sz U + a)]
  refine NW.put (fs := [.null, .int 0, .int 0]) (ci := 5) (k := 0) (ty0 := tyX4) ok ⟨rfl, in_X4, by decide, (x_in 255 (by decide +kernel)), tyX4_ok, nmX4⟩ (Or.inr ⟨rfl, hin, rfl⟩) rfl rfl ((nset_n (by omega)).trans hE) (Nat.le_of_ble_eq_true rfl) (am_at eX4_init 5 rfl) ?_
  show NW U G 2 1 9 (nX4_2 U E a n) (n + 1) _ 13 [some (.ref (n_sz U + a)), none] []
  refine NW.run ok eX4_init 6 2 (show am_run 2 ((tX4_init.drop 6).take 2) 13 [some (.ref (n_sz U + a)), none] [] = some (15, [some (.ref (n_sz U + a)), none], [.int (nI 0), .ref (n_sz U + a)]) from rfl) ?_
  refine NW.put (fs := [.ref (n_sz U + (n)), .int 0, .int 0]) (ci := 5) (k := 1) (ty0 := tyX4) ok ⟨rfl, in_X4, by decide, (x_in 256 (by decide +kernel)), tyX4_ok, nmX4⟩ (Or.inl rfl) rfl rfl nset_e (Nat.le_of_ble_eq_true rfl) (am_at eX4_init 8 rfl) ?_
  show NW U G 2 1 9 (nX4_3 U E a n) (n + 1) _ 18 [some (.ref (n_sz U + a)), none] []
  refine NW.run ok eX4_init 9 2 (show am_run 2 ((tX4_init.drop 9).take 2) 18 [some (.ref (n_sz U + a)), none] [] = some (20, [some (.ref (n_sz U + a)), none], [.int (nI 0), .ref (n_sz U + a)]) from rfl) ?_
  refine NW.put (fs := [.ref (n_sz U + (n)), .int (nI 0), .int 0]) (ci := 5) (k := 2) (ty0 := tyX4) ok ⟨rfl, in_X4, by decide, (x_in 257 (by decide +kernel)), tyX4_ok, nmX4⟩ (Or.inl rfl) rfl rfl nset_e (Nat.le_of_ble_eq_true rfl) (am_at eX4_init 11 rfl) ?_
  show NW U G 2 1 9 (nX4_4 U E a n) (n + 1) _ 23 [some (.ref (n_sz U + a)), none] []
  refine NW.run ok eX4_init 12 4 (show am_run 2 ((tX4_init.drop 12).take 4) 23 [some (.ref (n_sz U + a)), none] [] = some (28, [some (.ref (n_sz U + a)), some (.int (nI 0))], [.int (nI 9), .int (nI 0)]) from rfl) ?_
  refine NW.ic ok 50 (am_at eX4_init 16 rfl) (by decide) (fun h9 => absurd (show nI 9 ≤ nI 0 from h9) (by decide)) (fun _ => ?_)
  show NW U G 2 1 9 (nX4_4 U E a n) (n + 1) _ 31 [some (.ref (n_sz U + a)), some (.int (nI 0))] []
  refine NW.run ok eX4_init 17 1 (show am_run 2 ((tX4_init.drop 17).take 1) 31 [some (.ref (n_sz U + a)), some (.int (nI 0))] [] = some (32, [some (.ref (n_sz U + a)), some (.int (nI 0))], [.ref (n_sz U + a)]) from rfl) ?_
  refine NW.get (v := .ref (n_sz U + (n))) (fs := [.ref (n_sz U + (n)), .int (nI 0), .int (nI 0)]) (ci := 5) (k := 0) ok rfl in_X4 (by decide) (x_in 255 (by decide +kernel)) nset_e rfl (am_at eX4_init 18 rfl) ?_
  refine NW.run ok eX4_init 19 1 (show am_run 2 ((tX4_init.drop 19).take 1) 35 [some (.ref (n_sz U + a)), some (.int (nI 0))] [.ref (n_sz U + (n))] = some (36, [some (.ref (n_sz U + a)), some (.int (nI 0))], [.int (nI 0), .ref (n_sz U + (n))]) from rfl) ?_
  refine NW.new (fs := [.null, .null, .null, .int 0, .int 0, .int 0, .int 0, .int 0, .int 0]) tyX8 ok in_X8 tyX8_ok (x_in 252 (by decide +kernel)) (x_in 79 (by decide +kernel)) (x_in 41 (by decide +kernel)) (ci := 8) rfl n_fsX8 (by rw [hgR]; exact ⟨Nat.le_of_ble_eq_true rfl, Nat.le_of_ble_eq_true rfl⟩) (am_at eX4_init 20 rfl) ?_
  show NW U G 2 2 18 (nX4_5 U E a n) (n + 2) _ 39 [some (.ref (n_sz U + a)), some (.int (nI 0))] [.ref (n_sz U + (n + 1)), .int (nI 0), .ref (n_sz U + (n))]
  refine NW.run ok eX4_init 21 1 (show am_run 2 ((tX4_init.drop 21).take 1) 39 [some (.ref (n_sz U + a)), some (.int (nI 0))] [.ref (n_sz U + (n + 1)), .int (nI 0), .ref (n_sz U + (n))] = some (40, [some (.ref (n_sz U + a)), some (.int (nI 0))], [.ref (n_sz U + (n + 1)), .ref (n_sz U + (n + 1)), .int (nI 0), .ref (n_sz U + (n))]) from rfl) ?_
  refine NW.call (rm := n_rX8) (host := some "DandelionBroadcast") ok (by rw [hgl]; exact kX8_init U l B hfl O nset_e (by omega)) ⟨(y_inN 254 (by decide +kernel)), (x_in 81 (by decide +kernel)), (x_in 41 (by decide +kernel)), (x_in 82 (by decide +kernel)), rfl, by decide +kernel, by decide +kernel, by decide +kernel⟩ (Nat.le_of_ble_eq_true rfl) (by rw [hgR]; exact ⟨Nat.le_of_ble_eq_true rfl, Nat.le_of_ble_eq_true rfl⟩) (by rw [hgR]; exact ⟨Nat.le_of_ble_eq_true rfl, Nat.le_of_ble_eq_true rfl⟩) (am_at eX4_init 22 rfl) ?_
  show NW U G 2 11 132 (nX4_6 U E a n) (n + 11) _ 43 [some (.ref (n_sz U + a)), some (.int (nI 0))] [.ref (n_sz U + (n + 1)), .int (nI 0), .ref (n_sz U + (n))]
  refine NW.aast (t := 3) (ci := 8) (f := (fun _ => none)) (fs := [.ref (n_sz U + (n + 2)), .ref (n_sz U + (n + 8)), .ref (n_sz U + (n + 10)), .int (nI 0), .int (nI 0), .int (nI 0), .int (nI 0), .int (nI 0), .int (nI 0)]) ok (by decide) rfl rfl ((nX8_old (by omega) (by omega)).trans ((nset_n (by omega)).trans ((nset_n (by omega)).trans ((nset_n (by omega)).trans ((nset_n (by omega)).trans nset_e))))) (nX8_at (by omega)) (am_in_ok (show am_in (nI 0) 9 = true by decide)) (am_at eX4_init 23 rfl) ?_
  show NW U G 2 11 132 (nX4_7 U E a n) (n + 11) _ 44 [some (.ref (n_sz U + a)), some (.int (nI 0))] []
  refine NW.run ok eX4_init 24 2 (show am_run 2 ((tX4_init.drop 24).take 2) 44 [some (.ref (n_sz U + a)), some (.int (nI 0))] [] = some (25, [some (.ref (n_sz U + a)), some (.int (nI 1))], []) from rfl) ?_
  refine NW.run ok eX4_init 14 2 (show am_run 2 ((tX4_init.drop 14).take 2) 25 [some (.ref (n_sz U + a)), some (.int (nI 1))] [] = some (28, [some (.ref (n_sz U + a)), some (.int (nI 1))], [.int (nI 9), .int (nI 1)]) from rfl) ?_
  refine NW.ic ok 50 (am_at eX4_init 16 rfl) (by decide) (fun h9 => absurd (show nI 9 ≤ nI 1 from h9) (by decide)) (fun _ => ?_)
  show NW U G 2 11 132 (nX4_7 U E a n) (n + 11) _ 31 [some (.ref (n_sz U + a)), some (.int (nI 1))] []
  refine NW.run ok eX4_init 17 1 (show am_run 2 ((tX4_init.drop 17).take 1) 31 [some (.ref (n_sz U + a)), some (.int (nI 1))] [] = some (32, [some (.ref (n_sz U + a)), some (.int (nI 1))], [.ref (n_sz U + a)]) from rfl) ?_
  refine NW.get (v := .ref (n_sz U + (n))) (fs := [.ref (n_sz U + (n)), .int (nI 0), .int (nI 0)]) (ci := 5) (k := 0) ok rfl in_X4 (by decide) (x_in 255 (by decide +kernel)) ((nset_n (by omega)).trans ((nX8_old (by omega) (by omega)).trans ((nset_n (by omega)).trans nset_e))) rfl (am_at eX4_init 18 rfl) ?_
  refine NW.run ok eX4_init 19 1 (show am_run 2 ((tX4_init.drop 19).take 1) 35 [some (.ref (n_sz U + a)), some (.int (nI 1))] [.ref (n_sz U + (n))] = some (36, [some (.ref (n_sz U + a)), some (.int (nI 1))], [.int (nI 1), .ref (n_sz U + (n))]) from rfl) ?_
  refine NW.new (fs := [.null, .null, .null, .int 0, .int 0, .int 0, .int 0, .int 0, .int 0]) tyX8 ok in_X8 tyX8_ok (x_in 252 (by decide +kernel)) (x_in 79 (by decide +kernel)) (x_in 41 (by decide +kernel)) (ci := 8) rfl n_fsX8 (by rw [hgR]; exact ⟨Nat.le_of_ble_eq_true rfl, Nat.le_of_ble_eq_true rfl⟩) (am_at eX4_init 20 rfl) ?_
  show NW U G 2 12 141 (nX4_8 U E a n) (n + 12) _ 39 [some (.ref (n_sz U + a)), some (.int (nI 1))] [.ref (n_sz U + (n + 11)), .int (nI 1), .ref (n_sz U + (n))]
  refine NW.run ok eX4_init 21 1 (show am_run 2 ((tX4_init.drop 21).take 1) 39 [some (.ref (n_sz U + a)), some (.int (nI 1))] [.ref (n_sz U + (n + 11)), .int (nI 1), .ref (n_sz U + (n))] = some (40, [some (.ref (n_sz U + a)), some (.int (nI 1))], [.ref (n_sz U + (n + 11)), .ref (n_sz U + (n + 11)), .int (nI 1), .ref (n_sz U + (n))]) from rfl) ?_
  refine NW.call (rm := n_rX8) (host := some "DandelionBroadcast") ok (by rw [hgl]; exact kX8_init U l B hfl O nset_e (by omega)) ⟨(y_inN 254 (by decide +kernel)), (x_in 81 (by decide +kernel)), (x_in 41 (by decide +kernel)), (x_in 82 (by decide +kernel)), rfl, by decide +kernel, by decide +kernel, by decide +kernel⟩ (Nat.le_of_ble_eq_true rfl) (by rw [hgR]; exact ⟨Nat.le_of_ble_eq_true rfl, Nat.le_of_ble_eq_true rfl⟩) (by rw [hgR]; exact ⟨Nat.le_of_ble_eq_true rfl, Nat.le_of_ble_eq_true rfl⟩) (am_at eX4_init 22 rfl) ?_
  show NW U G 2 21 255 (nX4_9 U E a n) (n + 21) _ 43 [some (.ref (n_sz U + a)), some (.int (nI 1))] [.ref (n_sz U + (n + 11)), .int (nI 1), .ref (n_sz U + (n))]
  refine NW.aast (t := 3) (ci := 8) (f := (nX4_f1 U n)) (fs := [.ref (n_sz U + (n + 12)), .ref (n_sz U + (n + 18)), .ref (n_sz U + (n + 20)), .int (nI 0), .int (nI 0), .int (nI 0), .int (nI 0), .int (nI 0), .int (nI 0)]) ok (by decide) rfl rfl ((nX8_old (by omega) (by omega)).trans ((nset_n (by omega)).trans nset_e)) (nX8_at (by omega)) (am_in_ok (show am_in (nI 1) 9 = true by decide)) (am_at eX4_init 23 rfl) ?_
  show NW U G 2 21 255 (nX4_10 U E a n) (n + 21) _ 44 [some (.ref (n_sz U + a)), some (.int (nI 1))] []
  refine NW.run ok eX4_init 24 2 (show am_run 2 ((tX4_init.drop 24).take 2) 44 [some (.ref (n_sz U + a)), some (.int (nI 1))] [] = some (25, [some (.ref (n_sz U + a)), some (.int (nI 2))], []) from rfl) ?_
  refine NW.run ok eX4_init 14 2 (show am_run 2 ((tX4_init.drop 14).take 2) 25 [some (.ref (n_sz U + a)), some (.int (nI 2))] [] = some (28, [some (.ref (n_sz U + a)), some (.int (nI 2))], [.int (nI 9), .int (nI 2)]) from rfl) ?_
  refine NW.ic ok 50 (am_at eX4_init 16 rfl) (by decide) (fun h9 => absurd (show nI 9 ≤ nI 2 from h9) (by decide)) (fun _ => ?_)
  show NW U G 2 21 255 (nX4_10 U E a n) (n + 21) _ 31 [some (.ref (n_sz U + a)), some (.int (nI 2))] []
  refine NW.run ok eX4_init 17 1 (show am_run 2 ((tX4_init.drop 17).take 1) 31 [some (.ref (n_sz U + a)), some (.int (nI 2))] [] = some (32, [some (.ref (n_sz U + a)), some (.int (nI 2))], [.ref (n_sz U + a)]) from rfl) ?_
  refine NW.get (v := .ref (n_sz U + (n))) (fs := [.ref (n_sz U + (n)), .int (nI 0), .int (nI 0)]) (ci := 5) (k := 0) ok rfl in_X4 (by decide) (x_in 255 (by decide +kernel)) ((nset_n (by omega)).trans ((nX8_old (by omega) (by omega)).trans ((nset_n (by omega)).trans ((nset_n (by omega)).trans ((nX8_old (by omega) (by omega)).trans ((nset_n (by omega)).trans nset_e)))))) rfl (am_at eX4_init 18 rfl) ?_
  refine NW.run ok eX4_init 19 1 (show am_run 2 ((tX4_init.drop 19).take 1) 35 [some (.ref (n_sz U + a)), some (.int (nI 2))] [.ref (n_sz U + (n))] = some (36, [some (.ref (n_sz U + a)), some (.int (nI 2))], [.int (nI 2), .ref (n_sz U + (n))]) from rfl) ?_
  refine NW.new (fs := [.null, .null, .null, .int 0, .int 0, .int 0, .int 0, .int 0, .int 0]) tyX8 ok in_X8 tyX8_ok (x_in 252 (by decide +kernel)) (x_in 79 (by decide +kernel)) (x_in 41 (by decide +kernel)) (ci := 8) rfl n_fsX8 (by rw [hgR]; exact ⟨Nat.le_of_ble_eq_true rfl, Nat.le_of_ble_eq_true rfl⟩) (am_at eX4_init 20 rfl) ?_
  show NW U G 2 22 264 (nX4_11 U E a n) (n + 22) _ 39 [some (.ref (n_sz U + a)), some (.int (nI 2))] [.ref (n_sz U + (n + 21)), .int (nI 2), .ref (n_sz U + (n))]
  refine NW.run ok eX4_init 21 1 (show am_run 2 ((tX4_init.drop 21).take 1) 39 [some (.ref (n_sz U + a)), some (.int (nI 2))] [.ref (n_sz U + (n + 21)), .int (nI 2), .ref (n_sz U + (n))] = some (40, [some (.ref (n_sz U + a)), some (.int (nI 2))], [.ref (n_sz U + (n + 21)), .ref (n_sz U + (n + 21)), .int (nI 2), .ref (n_sz U + (n))]) from rfl) ?_
  refine NW.call (rm := n_rX8) (host := some "DandelionBroadcast") ok (by rw [hgl]; exact kX8_init U l B hfl O nset_e (by omega)) ⟨(y_inN 254 (by decide +kernel)), (x_in 81 (by decide +kernel)), (x_in 41 (by decide +kernel)), (x_in 82 (by decide +kernel)), rfl, by decide +kernel, by decide +kernel, by decide +kernel⟩ (Nat.le_of_ble_eq_true rfl) (by rw [hgR]; exact ⟨Nat.le_of_ble_eq_true rfl, Nat.le_of_ble_eq_true rfl⟩) (by rw [hgR]; exact ⟨Nat.le_of_ble_eq_true rfl, Nat.le_of_ble_eq_true rfl⟩) (am_at eX4_init 22 rfl) ?_
  show NW U G 2 31 378 (nX4_12 U E a n) (n + 31) _ 43 [some (.ref (n_sz U + a)), some (.int (nI 2))] [.ref (n_sz U + (n + 21)), .int (nI 2), .ref (n_sz U + (n))]
  refine NW.aast (t := 3) (ci := 8) (f := (nX4_f2 U n)) (fs := [.ref (n_sz U + (n + 22)), .ref (n_sz U + (n + 28)), .ref (n_sz U + (n + 30)), .int (nI 0), .int (nI 0), .int (nI 0), .int (nI 0), .int (nI 0), .int (nI 0)]) ok (by decide) rfl rfl ((nX8_old (by omega) (by omega)).trans ((nset_n (by omega)).trans nset_e)) (nX8_at (by omega)) (am_in_ok (show am_in (nI 2) 9 = true by decide)) (am_at eX4_init 23 rfl) ?_
  show NW U G 2 31 378 (nX4_13 U E a n) (n + 31) _ 44 [some (.ref (n_sz U + a)), some (.int (nI 2))] []
  refine NW.run ok eX4_init 24 2 (show am_run 2 ((tX4_init.drop 24).take 2) 44 [some (.ref (n_sz U + a)), some (.int (nI 2))] [] = some (25, [some (.ref (n_sz U + a)), some (.int (nI 3))], []) from rfl) ?_
  refine NW.run ok eX4_init 14 2 (show am_run 2 ((tX4_init.drop 14).take 2) 25 [some (.ref (n_sz U + a)), some (.int (nI 3))] [] = some (28, [some (.ref (n_sz U + a)), some (.int (nI 3))], [.int (nI 9), .int (nI 3)]) from rfl) ?_
  refine NW.ic ok 50 (am_at eX4_init 16 rfl) (by decide) (fun h9 => absurd (show nI 9 ≤ nI 3 from h9) (by decide)) (fun _ => ?_)
  show NW U G 2 31 378 (nX4_13 U E a n) (n + 31) _ 31 [some (.ref (n_sz U + a)), some (.int (nI 3))] []
  refine NW.run ok eX4_init 17 1 (show am_run 2 ((tX4_init.drop 17).take 1) 31 [some (.ref (n_sz U + a)), some (.int (nI 3))] [] = some (32, [some (.ref (n_sz U + a)), some (.int (nI 3))], [.ref (n_sz U + a)]) from rfl) ?_
  refine NW.get (v := .ref (n_sz U + (n))) (fs := [.ref (n_sz U + (n)), .int (nI 0), .int (nI 0)]) (ci := 5) (k := 0) ok rfl in_X4 (by decide) (x_in 255 (by decide +kernel)) ((nset_n (by omega)).trans ((nX8_old (by omega) (by omega)).trans ((nset_n (by omega)).trans ((nset_n (by omega)).trans ((nX8_old (by omega) (by omega)).trans ((nset_n (by omega)).trans ((nset_n (by omega)).trans ((nX8_old (by omega) (by omega)).trans ((nset_n (by omega)).trans nset_e))))))))) rfl (am_at eX4_init 18 rfl) ?_
  refine NW.run ok eX4_init 19 1 (show am_run 2 ((tX4_init.drop 19).take 1) 35 [some (.ref (n_sz U + a)), some (.int (nI 3))] [.ref (n_sz U + (n))] = some (36, [some (.ref (n_sz U + a)), some (.int (nI 3))], [.int (nI 3), .ref (n_sz U + (n))]) from rfl) ?_
  refine NW.new (fs := [.null, .null, .null, .int 0, .int 0, .int 0, .int 0, .int 0, .int 0]) tyX8 ok in_X8 tyX8_ok (x_in 252 (by decide +kernel)) (x_in 79 (by decide +kernel)) (x_in 41 (by decide +kernel)) (ci := 8) rfl n_fsX8 (by rw [hgR]; exact ⟨Nat.le_of_ble_eq_true rfl, Nat.le_of_ble_eq_true rfl⟩) (am_at eX4_init 20 rfl) ?_
  show NW U G 2 32 387 (nX4_14 U E a n) (n + 32) _ 39 [some (.ref (n_sz U + a)), some (.int (nI 3))] [.ref (n_sz U + (n + 31)), .int (nI 3), .ref (n_sz U + (n))]
  refine NW.run ok eX4_init 21 1 (show am_run 2 ((tX4_init.drop 21).take 1) 39 [some (.ref (n_sz U + a)), some (.int (nI 3))] [.ref (n_sz U + (n + 31)), .int (nI 3), .ref (n_sz U + (n))] = some (40, [some (.ref (n_sz U + a)), some (.int (nI 3))], [.ref (n_sz U + (n + 31)), .ref (n_sz U + (n + 31)), .int (nI 3), .ref (n_sz U + (n))]) from rfl) ?_
  refine NW.call (rm := n_rX8) (host := some "DandelionBroadcast") ok (by rw [hgl]; exact kX8_init U l B hfl O nset_e (by omega)) ⟨(y_inN 254 (by decide +kernel)), (x_in 81 (by decide +kernel)), (x_in 41 (by decide +kernel)), (x_in 82 (by decide +kernel)), rfl, by decide +kernel, by decide +kernel, by decide +kernel⟩ (Nat.le_of_ble_eq_true rfl) (by rw [hgR]; exact ⟨Nat.le_of_ble_eq_true rfl, Nat.le_of_ble_eq_true rfl⟩) (by rw [hgR]; exact ⟨Nat.le_of_ble_eq_true rfl, Nat.le_of_ble_eq_true rfl⟩) (am_at eX4_init 22 rfl) ?_
  show NW U G 2 41 501 (nX4_15 U E a n) (n + 41) _ 43 [some (.ref (n_sz U + a)), some (.int (nI 3))] [.ref (n_sz U + (n + 31)), .int (nI 3), .ref (n_sz U + (n))]
  refine NW.aast (t := 3) (ci := 8) (f := (nX4_f3 U n)) (fs := [.ref (n_sz U + (n + 32)), .ref (n_sz U + (n + 38)), .ref (n_sz U + (n + 40)), .int (nI 0), .int (nI 0), .int (nI 0), .int (nI 0), .int (nI 0), .int (nI 0)]) ok (by decide) rfl rfl ((nX8_old (by omega) (by omega)).trans ((nset_n (by omega)).trans nset_e)) (nX8_at (by omega)) (am_in_ok (show am_in (nI 3) 9 = true by decide)) (am_at eX4_init 23 rfl) ?_
  show NW U G 2 41 501 (nX4_16 U E a n) (n + 41) _ 44 [some (.ref (n_sz U + a)), some (.int (nI 3))] []
  refine NW.run ok eX4_init 24 2 (show am_run 2 ((tX4_init.drop 24).take 2) 44 [some (.ref (n_sz U + a)), some (.int (nI 3))] [] = some (25, [some (.ref (n_sz U + a)), some (.int (nI 4))], []) from rfl) ?_
  refine NW.run ok eX4_init 14 2 (show am_run 2 ((tX4_init.drop 14).take 2) 25 [some (.ref (n_sz U + a)), some (.int (nI 4))] [] = some (28, [some (.ref (n_sz U + a)), some (.int (nI 4))], [.int (nI 9), .int (nI 4)]) from rfl) ?_
  refine NW.ic ok 50 (am_at eX4_init 16 rfl) (by decide) (fun h9 => absurd (show nI 9 ≤ nI 4 from h9) (by decide)) (fun _ => ?_)
  show NW U G 2 41 501 (nX4_16 U E a n) (n + 41) _ 31 [some (.ref (n_sz U + a)), some (.int (nI 4))] []
  refine NW.run ok eX4_init 17 1 (show am_run 2 ((tX4_init.drop 17).take 1) 31 [some (.ref (n_sz U + a)), some (.int (nI 4))] [] = some (32, [some (.ref (n_sz U + a)), some (.int (nI 4))], [.ref (n_sz U + a)]) from rfl) ?_
  refine NW.get (v := .ref (n_sz U + (n))) (fs := [.ref (n_sz U + (n)), .int (nI 0), .int (nI 0)]) (ci := 5) (k := 0) ok rfl in_X4 (by decide) (x_in 255 (by decide +kernel)) ((nset_n (by omega)).trans ((nX8_old (by omega) (by omega)).trans ((nset_n (by omega)).trans ((nset_n (by omega)).trans ((nX8_old (by omega) (by omega)).trans ((nset_n (by omega)).trans ((nset_n (by omega)).trans ((nX8_old (by omega) (by omega)).trans ((nset_n (by omega)).trans ((nset_n (by omega)).trans ((nX8_old (by omega) (by omega)).trans ((nset_n (by omega)).trans nset_e)))))))))))) rfl (am_at eX4_init 18 rfl) ?_
  refine NW.run ok eX4_init 19 1 (show am_run 2 ((tX4_init.drop 19).take 1) 35 [some (.ref (n_sz U + a)), some (.int (nI 4))] [.ref (n_sz U + (n))] = some (36, [some (.ref (n_sz U + a)), some (.int (nI 4))], [.int (nI 4), .ref (n_sz U + (n))]) from rfl) ?_
  refine NW.new (fs := [.null, .null, .null, .int 0, .int 0, .int 0, .int 0, .int 0, .int 0]) tyX8 ok in_X8 tyX8_ok (x_in 252 (by decide +kernel)) (x_in 79 (by decide +kernel)) (x_in 41 (by decide +kernel)) (ci := 8) rfl n_fsX8 (by rw [hgR]; exact ⟨Nat.le_of_ble_eq_true rfl, Nat.le_of_ble_eq_true rfl⟩) (am_at eX4_init 20 rfl) ?_
  show NW U G 2 42 510 (nX4_17 U E a n) (n + 42) _ 39 [some (.ref (n_sz U + a)), some (.int (nI 4))] [.ref (n_sz U + (n + 41)), .int (nI 4), .ref (n_sz U + (n))]
  refine NW.run ok eX4_init 21 1 (show am_run 2 ((tX4_init.drop 21).take 1) 39 [some (.ref (n_sz U + a)), some (.int (nI 4))] [.ref (n_sz U + (n + 41)), .int (nI 4), .ref (n_sz U + (n))] = some (40, [some (.ref (n_sz U + a)), some (.int (nI 4))], [.ref (n_sz U + (n + 41)), .ref (n_sz U + (n + 41)), .int (nI 4), .ref (n_sz U + (n))]) from rfl) ?_
  refine NW.call (rm := n_rX8) (host := some "DandelionBroadcast") ok (by rw [hgl]; exact kX8_init U l B hfl O nset_e (by omega)) ⟨(y_inN 254 (by decide +kernel)), (x_in 81 (by decide +kernel)), (x_in 41 (by decide +kernel)), (x_in 82 (by decide +kernel)), rfl, by decide +kernel, by decide +kernel, by decide +kernel⟩ (Nat.le_of_ble_eq_true rfl) (by rw [hgR]; exact ⟨Nat.le_of_ble_eq_true rfl, Nat.le_of_ble_eq_true rfl⟩) (by rw [hgR]; exact ⟨Nat.le_of_ble_eq_true rfl, Nat.le_of_ble_eq_true rfl⟩) (am_at eX4_init 22 rfl) ?_
  show NW U G 2 51 624 (nX4_18 U E a n) (n + 51) _ 43 [some (.ref (n_sz U + a)), some (.int (nI 4))] [.ref (n_sz U + (n + 41)), .int (nI 4), .ref (n_sz U + (n))]
  refine NW.aast (t := 3) (ci := 8) (f := (nX4_f4 U n)) (fs := [.ref (n_sz U + (n + 42)), .ref (n_sz U + (n + 48)), .ref (n_sz U + (n + 50)), .int (nI 0), .int (nI 0), .int (nI 0), .int (nI 0), .int (nI 0), .int (nI 0)]) ok (by decide) rfl rfl ((nX8_old (by omega) (by omega)).trans ((nset_n (by omega)).trans nset_e)) (nX8_at (by omega)) (am_in_ok (show am_in (nI 4) 9 = true by decide)) (am_at eX4_init 23 rfl) ?_
  show NW U G 2 51 624 (nX4_19 U E a n) (n + 51) _ 44 [some (.ref (n_sz U + a)), some (.int (nI 4))] []
  refine NW.run ok eX4_init 24 2 (show am_run 2 ((tX4_init.drop 24).take 2) 44 [some (.ref (n_sz U + a)), some (.int (nI 4))] [] = some (25, [some (.ref (n_sz U + a)), some (.int (nI 5))], []) from rfl) ?_
  refine NW.run ok eX4_init 14 2 (show am_run 2 ((tX4_init.drop 14).take 2) 25 [some (.ref (n_sz U + a)), some (.int (nI 5))] [] = some (28, [some (.ref (n_sz U + a)), some (.int (nI 5))], [.int (nI 9), .int (nI 5)]) from rfl) ?_
  refine NW.ic ok 50 (am_at eX4_init 16 rfl) (by decide) (fun h9 => absurd (show nI 9 ≤ nI 5 from h9) (by decide)) (fun _ => ?_)
  show NW U G 2 51 624 (nX4_19 U E a n) (n + 51) _ 31 [some (.ref (n_sz U + a)), some (.int (nI 5))] []
  refine NW.run ok eX4_init 17 1 (show am_run 2 ((tX4_init.drop 17).take 1) 31 [some (.ref (n_sz U + a)), some (.int (nI 5))] [] = some (32, [some (.ref (n_sz U + a)), some (.int (nI 5))], [.ref (n_sz U + a)]) from rfl) ?_
  refine NW.get (v := .ref (n_sz U + (n))) (fs := [.ref (n_sz U + (n)), .int (nI 0), .int (nI 0)]) (ci := 5) (k := 0) ok rfl in_X4 (by decide) (x_in 255 (by decide +kernel)) ((nset_n (by omega)).trans ((nX8_old (by omega) (by omega)).trans ((nset_n (by omega)).trans ((nset_n (by omega)).trans ((nX8_old (by omega) (by omega)).trans ((nset_n (by omega)).trans ((nset_n (by omega)).trans ((nX8_old (by omega) (by omega)).trans ((nset_n (by omega)).trans ((nset_n (by omega)).trans ((nX8_old (by omega) (by omega)).trans ((nset_n (by omega)).trans ((nset_n (by omega)).trans ((nX8_old (by omega) (by omega)).trans ((nset_n (by omega)).trans nset_e))))))))))))))) rfl (am_at eX4_init 18 rfl) ?_
  refine NW.run ok eX4_init 19 1 (show am_run 2 ((tX4_init.drop 19).take 1) 35 [some (.ref (n_sz U + a)), some (.int (nI 5))] [.ref (n_sz U + (n))] = some (36, [some (.ref (n_sz U + a)), some (.int (nI 5))], [.int (nI 5), .ref (n_sz U + (n))]) from rfl) ?_
  refine NW.new (fs := [.null, .null, .null, .int 0, .int 0, .int 0, .int 0, .int 0, .int 0]) tyX8 ok in_X8 tyX8_ok (x_in 252 (by decide +kernel)) (x_in 79 (by decide +kernel)) (x_in 41 (by decide +kernel)) (ci := 8) rfl n_fsX8 (by rw [hgR]; exact ⟨Nat.le_of_ble_eq_true rfl, Nat.le_of_ble_eq_true rfl⟩) (am_at eX4_init 20 rfl) ?_
  show NW U G 2 52 633 (nX4_20 U E a n) (n + 52) _ 39 [some (.ref (n_sz U + a)), some (.int (nI 5))] [.ref (n_sz U + (n + 51)), .int (nI 5), .ref (n_sz U + (n))]
  refine NW.run ok eX4_init 21 1 (show am_run 2 ((tX4_init.drop 21).take 1) 39 [some (.ref (n_sz U + a)), some (.int (nI 5))] [.ref (n_sz U + (n + 51)), .int (nI 5), .ref (n_sz U + (n))] = some (40, [some (.ref (n_sz U + a)), some (.int (nI 5))], [.ref (n_sz U + (n + 51)), .ref (n_sz U + (n + 51)), .int (nI 5), .ref (n_sz U + (n))]) from rfl) ?_
  refine NW.call (rm := n_rX8) (host := some "DandelionBroadcast") ok (by rw [hgl]; exact kX8_init U l B hfl O nset_e (by omega)) ⟨(y_inN 254 (by decide +kernel)), (x_in 81 (by decide +kernel)), (x_in 41 (by decide +kernel)), (x_in 82 (by decide +kernel)), rfl, by decide +kernel, by decide +kernel, by decide +kernel⟩ (Nat.le_of_ble_eq_true rfl) (by rw [hgR]; exact ⟨Nat.le_of_ble_eq_true rfl, Nat.le_of_ble_eq_true rfl⟩) (by rw [hgR]; exact ⟨Nat.le_of_ble_eq_true rfl, Nat.le_of_ble_eq_true rfl⟩) (am_at eX4_init 22 rfl) ?_
  show NW U G 2 61 747 (nX4_21 U E a n) (n + 61) _ 43 [some (.ref (n_sz U + a)), some (.int (nI 5))] [.ref (n_sz U + (n + 51)), .int (nI 5), .ref (n_sz U + (n))]
  refine NW.aast (t := 3) (ci := 8) (f := (nX4_f5 U n)) (fs := [.ref (n_sz U + (n + 52)), .ref (n_sz U + (n + 58)), .ref (n_sz U + (n + 60)), .int (nI 0), .int (nI 0), .int (nI 0), .int (nI 0), .int (nI 0), .int (nI 0)]) ok (by decide) rfl rfl ((nX8_old (by omega) (by omega)).trans ((nset_n (by omega)).trans nset_e)) (nX8_at (by omega)) (am_in_ok (show am_in (nI 5) 9 = true by decide)) (am_at eX4_init 23 rfl) ?_
  show NW U G 2 61 747 (nX4_22 U E a n) (n + 61) _ 44 [some (.ref (n_sz U + a)), some (.int (nI 5))] []
  refine NW.run ok eX4_init 24 2 (show am_run 2 ((tX4_init.drop 24).take 2) 44 [some (.ref (n_sz U + a)), some (.int (nI 5))] [] = some (25, [some (.ref (n_sz U + a)), some (.int (nI 6))], []) from rfl) ?_
  refine NW.run ok eX4_init 14 2 (show am_run 2 ((tX4_init.drop 14).take 2) 25 [some (.ref (n_sz U + a)), some (.int (nI 6))] [] = some (28, [some (.ref (n_sz U + a)), some (.int (nI 6))], [.int (nI 9), .int (nI 6)]) from rfl) ?_
  refine NW.ic ok 50 (am_at eX4_init 16 rfl) (by decide) (fun h9 => absurd (show nI 9 ≤ nI 6 from h9) (by decide)) (fun _ => ?_)
  show NW U G 2 61 747 (nX4_22 U E a n) (n + 61) _ 31 [some (.ref (n_sz U + a)), some (.int (nI 6))] []
  refine NW.run ok eX4_init 17 1 (show am_run 2 ((tX4_init.drop 17).take 1) 31 [some (.ref (n_sz U + a)), some (.int (nI 6))] [] = some (32, [some (.ref (n_sz U + a)), some (.int (nI 6))], [.ref (n_sz U + a)]) from rfl) ?_
  refine NW.get (v := .ref (n_sz U + (n))) (fs := [.ref (n_sz U + (n)), .int (nI 0), .int (nI 0)]) (ci := 5) (k := 0) ok rfl in_X4 (by decide) (x_in 255 (by decide +kernel)) ((nset_n (by omega)).trans ((nX8_old (by omega) (by omega)).trans ((nset_n (by omega)).trans ((nset_n (by omega)).trans ((nX8_old (by omega) (by omega)).trans ((nset_n (by omega)).trans ((nset_n (by omega)).trans ((nX8_old (by omega) (by omega)).trans ((nset_n (by omega)).trans ((nset_n (by omega)).trans ((nX8_old (by omega) (by omega)).trans ((nset_n (by omega)).trans ((nset_n (by omega)).trans ((nX8_old (by omega) (by omega)).trans ((nset_n (by omega)).trans ((nset_n (by omega)).trans ((nX8_old (by omega) (by omega)).trans ((nset_n (by omega)).trans nset_e)))))))))))))))))) rfl (am_at eX4_init 18 rfl) ?_
  refine NW.run ok eX4_init 19 1 (show am_run 2 ((tX4_init.drop 19).take 1) 35 [some (.ref (n_sz U + a)), some (.int (nI 6))] [.ref (n_sz U + (n))] = some (36, [some (.ref (n_sz U + a)), some (.int (nI 6))], [.int (nI 6), .ref (n_sz U + (n))]) from rfl) ?_
  refine NW.new (fs := [.null, .null, .null, .int 0, .int 0, .int 0, .int 0, .int 0, .int 0]) tyX8 ok in_X8 tyX8_ok (x_in 252 (by decide +kernel)) (x_in 79 (by decide +kernel)) (x_in 41 (by decide +kernel)) (ci := 8) rfl n_fsX8 (by rw [hgR]; exact ⟨Nat.le_of_ble_eq_true rfl, Nat.le_of_ble_eq_true rfl⟩) (am_at eX4_init 20 rfl) ?_
  show NW U G 2 62 756 (nX4_23 U E a n) (n + 62) _ 39 [some (.ref (n_sz U + a)), some (.int (nI 6))] [.ref (n_sz U + (n + 61)), .int (nI 6), .ref (n_sz U + (n))]
  refine NW.run ok eX4_init 21 1 (show am_run 2 ((tX4_init.drop 21).take 1) 39 [some (.ref (n_sz U + a)), some (.int (nI 6))] [.ref (n_sz U + (n + 61)), .int (nI 6), .ref (n_sz U + (n))] = some (40, [some (.ref (n_sz U + a)), some (.int (nI 6))], [.ref (n_sz U + (n + 61)), .ref (n_sz U + (n + 61)), .int (nI 6), .ref (n_sz U + (n))]) from rfl) ?_
  refine NW.call (rm := n_rX8) (host := some "DandelionBroadcast") ok (by rw [hgl]; exact kX8_init U l B hfl O nset_e (by omega)) ⟨(y_inN 254 (by decide +kernel)), (x_in 81 (by decide +kernel)), (x_in 41 (by decide +kernel)), (x_in 82 (by decide +kernel)), rfl, by decide +kernel, by decide +kernel, by decide +kernel⟩ (Nat.le_of_ble_eq_true rfl) (by rw [hgR]; exact ⟨Nat.le_of_ble_eq_true rfl, Nat.le_of_ble_eq_true rfl⟩) (by rw [hgR]; exact ⟨Nat.le_of_ble_eq_true rfl, Nat.le_of_ble_eq_true rfl⟩) (am_at eX4_init 22 rfl) ?_
  show NW U G 2 71 870 (nX4_24 U E a n) (n + 71) _ 43 [some (.ref (n_sz U + a)), some (.int (nI 6))] [.ref (n_sz U + (n + 61)), .int (nI 6), .ref (n_sz U + (n))]
  refine NW.aast (t := 3) (ci := 8) (f := (nX4_f6 U n)) (fs := [.ref (n_sz U + (n + 62)), .ref (n_sz U + (n + 68)), .ref (n_sz U + (n + 70)), .int (nI 0), .int (nI 0), .int (nI 0), .int (nI 0), .int (nI 0), .int (nI 0)]) ok (by decide) rfl rfl ((nX8_old (by omega) (by omega)).trans ((nset_n (by omega)).trans nset_e)) (nX8_at (by omega)) (am_in_ok (show am_in (nI 6) 9 = true by decide)) (am_at eX4_init 23 rfl) ?_
  show NW U G 2 71 870 (nX4_25 U E a n) (n + 71) _ 44 [some (.ref (n_sz U + a)), some (.int (nI 6))] []
  refine NW.run ok eX4_init 24 2 (show am_run 2 ((tX4_init.drop 24).take 2) 44 [some (.ref (n_sz U + a)), some (.int (nI 6))] [] = some (25, [some (.ref (n_sz U + a)), some (.int (nI 7))], []) from rfl) ?_
  refine NW.run ok eX4_init 14 2 (show am_run 2 ((tX4_init.drop 14).take 2) 25 [some (.ref (n_sz U + a)), some (.int (nI 7))] [] = some (28, [some (.ref (n_sz U + a)), some (.int (nI 7))], [.int (nI 9), .int (nI 7)]) from rfl) ?_
  refine NW.ic ok 50 (am_at eX4_init 16 rfl) (by decide) (fun h9 => absurd (show nI 9 ≤ nI 7 from h9) (by decide)) (fun _ => ?_)
  show NW U G 2 71 870 (nX4_25 U E a n) (n + 71) _ 31 [some (.ref (n_sz U + a)), some (.int (nI 7))] []
  refine NW.run ok eX4_init 17 1 (show am_run 2 ((tX4_init.drop 17).take 1) 31 [some (.ref (n_sz U + a)), some (.int (nI 7))] [] = some (32, [some (.ref (n_sz U + a)), some (.int (nI 7))], [.ref (n_sz U + a)]) from rfl) ?_
  refine NW.get (v := .ref (n_sz U + (n))) (fs := [.ref (n_sz U + (n)), .int (nI 0), .int (nI 0)]) (ci := 5) (k := 0) ok rfl in_X4 (by decide) (x_in 255 (by decide +kernel)) ((nset_n (by omega)).trans ((nX8_old (by omega) (by omega)).trans ((nset_n (by omega)).trans ((nset_n (by omega)).trans ((nX8_old (by omega) (by omega)).trans ((nset_n (by omega)).trans ((nset_n (by omega)).trans ((nX8_old (by omega) (by omega)).trans ((nset_n (by omega)).trans ((nset_n (by omega)).trans ((nX8_old (by omega) (by omega)).trans ((nset_n (by omega)).trans ((nset_n (by omega)).trans ((nX8_old (by omega) (by omega)).trans ((nset_n (by omega)).trans ((nset_n (by omega)).trans ((nX8_old (by omega) (by omega)).trans ((nset_n (by omega)).trans ((nset_n (by omega)).trans ((nX8_old (by omega) (by omega)).trans ((nset_n (by omega)).trans nset_e))))))))))))))))))))) rfl (am_at eX4_init 18 rfl) ?_
  refine NW.run ok eX4_init 19 1 (show am_run 2 ((tX4_init.drop 19).take 1) 35 [some (.ref (n_sz U + a)), some (.int (nI 7))] [.ref (n_sz U + (n))] = some (36, [some (.ref (n_sz U + a)), some (.int (nI 7))], [.int (nI 7), .ref (n_sz U + (n))]) from rfl) ?_
  refine NW.new (fs := [.null, .null, .null, .int 0, .int 0, .int 0, .int 0, .int 0, .int 0]) tyX8 ok in_X8 tyX8_ok (x_in 252 (by decide +kernel)) (x_in 79 (by decide +kernel)) (x_in 41 (by decide +kernel)) (ci := 8) rfl n_fsX8 (by rw [hgR]; exact ⟨Nat.le_of_ble_eq_true rfl, Nat.le_of_ble_eq_true rfl⟩) (am_at eX4_init 20 rfl) ?_
  show NW U G 2 72 879 (nX4_26 U E a n) (n + 72) _ 39 [some (.ref (n_sz U + a)), some (.int (nI 7))] [.ref (n_sz U + (n + 71)), .int (nI 7), .ref (n_sz U + (n))]
  refine NW.run ok eX4_init 21 1 (show am_run 2 ((tX4_init.drop 21).take 1) 39 [some (.ref (n_sz U + a)), some (.int (nI 7))] [.ref (n_sz U + (n + 71)), .int (nI 7), .ref (n_sz U + (n))] = some (40, [some (.ref (n_sz U + a)), some (.int (nI 7))], [.ref (n_sz U + (n + 71)), .ref (n_sz U + (n + 71)), .int (nI 7), .ref (n_sz U + (n))]) from rfl) ?_
  refine NW.call (rm := n_rX8) (host := some "DandelionBroadcast") ok (by rw [hgl]; exact kX8_init U l B hfl O nset_e (by omega)) ⟨(y_inN 254 (by decide +kernel)), (x_in 81 (by decide +kernel)), (x_in 41 (by decide +kernel)), (x_in 82 (by decide +kernel)), rfl, by decide +kernel, by decide +kernel, by decide +kernel⟩ (Nat.le_of_ble_eq_true rfl) (by rw [hgR]; exact ⟨Nat.le_of_ble_eq_true rfl, Nat.le_of_ble_eq_true rfl⟩) (by rw [hgR]; exact ⟨Nat.le_of_ble_eq_true rfl, Nat.le_of_ble_eq_true rfl⟩) (am_at eX4_init 22 rfl) ?_
  show NW U G 2 81 993 (nX4_27 U E a n) (n + 81) _ 43 [some (.ref (n_sz U + a)), some (.int (nI 7))] [.ref (n_sz U + (n + 71)), .int (nI 7), .ref (n_sz U + (n))]
  refine NW.aast (t := 3) (ci := 8) (f := (nX4_f7 U n)) (fs := [.ref (n_sz U + (n + 72)), .ref (n_sz U + (n + 78)), .ref (n_sz U + (n + 80)), .int (nI 0), .int (nI 0), .int (nI 0), .int (nI 0), .int (nI 0), .int (nI 0)]) ok (by decide) rfl rfl ((nX8_old (by omega) (by omega)).trans ((nset_n (by omega)).trans nset_e)) (nX8_at (by omega)) (am_in_ok (show am_in (nI 7) 9 = true by decide)) (am_at eX4_init 23 rfl) ?_
  show NW U G 2 81 993 (nX4_28 U E a n) (n + 81) _ 44 [some (.ref (n_sz U + a)), some (.int (nI 7))] []
  refine NW.run ok eX4_init 24 2 (show am_run 2 ((tX4_init.drop 24).take 2) 44 [some (.ref (n_sz U + a)), some (.int (nI 7))] [] = some (25, [some (.ref (n_sz U + a)), some (.int (nI 8))], []) from rfl) ?_
  refine NW.run ok eX4_init 14 2 (show am_run 2 ((tX4_init.drop 14).take 2) 25 [some (.ref (n_sz U + a)), some (.int (nI 8))] [] = some (28, [some (.ref (n_sz U + a)), some (.int (nI 8))], [.int (nI 9), .int (nI 8)]) from rfl) ?_
  refine NW.ic ok 50 (am_at eX4_init 16 rfl) (by decide) (fun h9 => absurd (show nI 9 ≤ nI 8 from h9) (by decide)) (fun _ => ?_)
  show NW U G 2 81 993 (nX4_28 U E a n) (n + 81) _ 31 [some (.ref (n_sz U + a)), some (.int (nI 8))] []
  refine NW.run ok eX4_init 17 1 (show am_run 2 ((tX4_init.drop 17).take 1) 31 [some (.ref (n_sz U + a)), some (.int (nI 8))] [] = some (32, [some (.ref (n_sz U + a)), some (.int (nI 8))], [.ref (n_sz U + a)]) from rfl) ?_
  refine NW.get (v := .ref (n_sz U + (n))) (fs := [.ref (n_sz U + (n)), .int (nI 0), .int (nI 0)]) (ci := 5) (k := 0) ok rfl in_X4 (by decide) (x_in 255 (by decide +kernel)) ((nset_n (by omega)).trans ((nX8_old (by omega) (by omega)).trans ((nset_n (by omega)).trans ((nset_n (by omega)).trans ((nX8_old (by omega) (by omega)).trans ((nset_n (by omega)).trans ((nset_n (by omega)).trans ((nX8_old (by omega) (by omega)).trans ((nset_n (by omega)).trans ((nset_n (by omega)).trans ((nX8_old (by omega) (by omega)).trans ((nset_n (by omega)).trans ((nset_n (by omega)).trans ((nX8_old (by omega) (by omega)).trans ((nset_n (by omega)).trans ((nset_n (by omega)).trans ((nX8_old (by omega) (by omega)).trans ((nset_n (by omega)).trans ((nset_n (by omega)).trans ((nX8_old (by omega) (by omega)).trans ((nset_n (by omega)).trans ((nset_n (by omega)).trans ((nX8_old (by omega) (by omega)).trans ((nset_n (by omega)).trans nset_e)))))))))))))))))))))))) rfl (am_at eX4_init 18 rfl) ?_
  refine NW.run ok eX4_init 19 1 (show am_run 2 ((tX4_init.drop 19).take 1) 35 [some (.ref (n_sz U + a)), some (.int (nI 8))] [.ref (n_sz U + (n))] = some (36, [some (.ref (n_sz U + a)), some (.int (nI 8))], [.int (nI 8), .ref (n_sz U + (n))]) from rfl) ?_
  refine NW.new (fs := [.null, .null, .null, .int 0, .int 0, .int 0, .int 0, .int 0, .int 0]) tyX8 ok in_X8 tyX8_ok (x_in 252 (by decide +kernel)) (x_in 79 (by decide +kernel)) (x_in 41 (by decide +kernel)) (ci := 8) rfl n_fsX8 (by rw [hgR]; exact ⟨Nat.le_of_ble_eq_true rfl, Nat.le_of_ble_eq_true rfl⟩) (am_at eX4_init 20 rfl) ?_
  show NW U G 2 82 1002 (nX4_29 U E a n) (n + 82) _ 39 [some (.ref (n_sz U + a)), some (.int (nI 8))] [.ref (n_sz U + (n + 81)), .int (nI 8), .ref (n_sz U + (n))]
  refine NW.run ok eX4_init 21 1 (show am_run 2 ((tX4_init.drop 21).take 1) 39 [some (.ref (n_sz U + a)), some (.int (nI 8))] [.ref (n_sz U + (n + 81)), .int (nI 8), .ref (n_sz U + (n))] = some (40, [some (.ref (n_sz U + a)), some (.int (nI 8))], [.ref (n_sz U + (n + 81)), .ref (n_sz U + (n + 81)), .int (nI 8), .ref (n_sz U + (n))]) from rfl) ?_
  refine NW.call (rm := n_rX8) (host := some "DandelionBroadcast") ok (by rw [hgl]; exact kX8_init U l B hfl O nset_e (by omega)) ⟨(y_inN 254 (by decide +kernel)), (x_in 81 (by decide +kernel)), (x_in 41 (by decide +kernel)), (x_in 82 (by decide +kernel)), rfl, by decide +kernel, by decide +kernel, by decide +kernel⟩ (Nat.le_of_ble_eq_true rfl) (by rw [hgR]; exact ⟨Nat.le_of_ble_eq_true rfl, Nat.le_of_ble_eq_true rfl⟩) (by rw [hgR]; exact ⟨Nat.le_of_ble_eq_true rfl, Nat.le_of_ble_eq_true rfl⟩) (am_at eX4_init 22 rfl) ?_
  show NW U G 2 91 1116 (nX4_30 U E a n) (n + 91) _ 43 [some (.ref (n_sz U + a)), some (.int (nI 8))] [.ref (n_sz U + (n + 81)), .int (nI 8), .ref (n_sz U + (n))]
  refine NW.aast (t := 3) (ci := 8) (f := (nX4_f8 U n)) (fs := [.ref (n_sz U + (n + 82)), .ref (n_sz U + (n + 88)), .ref (n_sz U + (n + 90)), .int (nI 0), .int (nI 0), .int (nI 0), .int (nI 0), .int (nI 0), .int (nI 0)]) ok (by decide) rfl rfl ((nX8_old (by omega) (by omega)).trans ((nset_n (by omega)).trans nset_e)) (nX8_at (by omega)) (am_in_ok (show am_in (nI 8) 9 = true by decide)) (am_at eX4_init 23 rfl) ?_
  show NW U G 2 91 1116 (nX4_31 U E a n) (n + 91) _ 44 [some (.ref (n_sz U + a)), some (.int (nI 8))] []
  refine NW.run ok eX4_init 24 2 (show am_run 2 ((tX4_init.drop 24).take 2) 44 [some (.ref (n_sz U + a)), some (.int (nI 8))] [] = some (25, [some (.ref (n_sz U + a)), some (.int (nI 9))], []) from rfl) ?_
  refine NW.run ok eX4_init 14 2 (show am_run 2 ((tX4_init.drop 14).take 2) 25 [some (.ref (n_sz U + a)), some (.int (nI 9))] [] = some (28, [some (.ref (n_sz U + a)), some (.int (nI 9))], [.int (nI 9), .int (nI 9)]) from rfl) ?_
  refine NW.ic ok 50 (am_at eX4_init 16 rfl) (by decide) (fun _ => ?_) (fun h9 => absurd (show nI 9 ≤ nI 9 by decide) h9)
  show NW U G 2 91 1116 (nX4_31 U E a n) (n + 91) _ 50 [some (.ref (n_sz U + a)), some (.int (nI 9))] []
  exact NW.vret ok hr (Nat.le_refl _) (Nat.le_refl _) (am_at eX4_init 26 rfl)
def nX9_1 (U : am_U) (E : nE) (a n : Nat) : nE := nset E (n) (.inl (am_dA U 0, 9, .inl (fun _ => 0)))
def nX9_2 (U : am_U) (E : nE) (a n : Nat) : nE := nset (nX9_1 U E a n) a (.inr (9, [.ref (n_sz U + (n)), .null, .null, .null, .null, .null, .int 0]))
def nX9_3 (U : am_U) (E : nE) (a n : Nat) : nE := nset (nX9_2 U E a n) (n + 1) (.inl (am_dA U 0, 16, .inl (fun _ => 0)))
def nX9_4 (U : am_U) (E : nE) (a n : Nat) : nE := nset (nX9_3 U E a n) a (.inr (9, [.ref (n_sz U + (n)), .ref (n_sz U + (n + 1)), .null, .null, .null, .null, .int 0]))
def nX9_5 (U : am_U) (E : nE) (a n : Nat) : nE := nset (nX9_4 U E a n) (n + 2) (.inl (am_dA U 0, 9, .inl (fun _ => 0)))
def nX9_6 (U : am_U) (E : nE) (a n : Nat) : nE := nset (nX9_5 U E a n) a (.inr (9, [.ref (n_sz U + (n)), .ref (n_sz U + (n + 1)), .ref (n_sz U + (n + 2)), .null, .null, .null, .int 0]))
def nX9_7 (U : am_U) (E : nE) (a n : Nat) : nE := nset (nX9_6 U E a n) (n + 3) (.inl (am_dA U 0, 9, .inl (fun _ => 0)))
def nX9_8 (U : am_U) (E : nE) (a n : Nat) : nE := nset (nX9_7 U E a n) a (.inr (9, [.ref (n_sz U + (n)), .ref (n_sz U + (n + 1)), .ref (n_sz U + (n + 2)), .ref (n_sz U + (n + 3)), .null, .null, .int 0]))
def nX9_9 (U : am_U) (E : nE) (a n : Nat) : nE := nset (nX9_8 U E a n) (n + 4) (.inl (am_dA U 0, 9, .inl (fun _ => 0)))
def nX9_10 (U : am_U) (E : nE) (a n : Nat) : nE := nset (nX9_9 U E a n) a (.inr (9, [.ref (n_sz U + (n)), .ref (n_sz U + (n + 1)), .ref (n_sz U + (n + 2)), .ref (n_sz U + (n + 3)), .ref (n_sz U + (n + 4)), .null, .int 0]))
def nX9_11 (U : am_U) (E : nE) (a n : Nat) : nE := nset (nX9_10 U E a n) (n + 5) (.inl (am_dA U 0, 9, .inl (fun _ => 0)))
def nX9_12 (U : am_U) (E : nE) (a n : Nat) : nE := nset (nX9_11 U E a n) a (.inr (9, [.ref (n_sz U + (n)), .ref (n_sz U + (n + 1)), .ref (n_sz U + (n + 2)), .ref (n_sz U + (n + 3)), .ref (n_sz U + (n + 4)), .ref (n_sz U + (n + 5)), .int 0]))
def nX9_13 (U : am_U) (E : nE) (a n : Nat) : nE := nset (nX9_12 U E a n) a (.inr (9, [.ref (n_sz U + (n)), .ref (n_sz U + (n + 1)), .ref (n_sz U + (n + 2)), .ref (n_sz U + (n + 3)), .ref (n_sz U + (n + 4)), .ref (n_sz U + (n + 5)), .int (nI 0)]))
def nX9 (U : am_U) (E : nE) (a n : Nat) : nE := (nX9_13 U E a n)
def n_rX9 : Room := { frames := 1, cells := 6, slots := 61, locals := 12 }
theorem nX9_old {U : am_U} {E : nE} {a n q : Nat} (h1 : q ≠ a) (h2 : q < n) : nX9 U E a n q = E q := by
  unfold nX9
  unfold nX9_13
  rw [nset_n (by omega)]
  unfold nX9_12
  rw [nset_n (by omega)]
  unfold nX9_11
  rw [nset_n (by omega)]
  unfold nX9_10
  rw [nset_n (by omega)]
  unfold nX9_9
  rw [nset_n (by omega)]
  unfold nX9_8
  rw [nset_n (by omega)]
  unfold nX9_7
  rw [nset_n (by omega)]
  unfold nX9_6
  rw [nset_n (by omega)]
  unfold nX9_5
  rw [nset_n (by omega)]
  unfold nX9_4
  rw [nset_n (by omega)]
  unfold nX9_3
  rw [nset_n (by omega)]
  unfold nX9_2
  rw [nset_n (by omega)]
  unfold nX9_1
  rw [nset_n (by omega)]
theorem nX9_at {U : am_U} {E : nE} {a n : Nat} (h : a < n) : nX9 U E a n a = some (.inr (9, [.ref (n_sz U + (n)), .ref (n_sz U + (n + 1)), .ref (n_sz U + (n + 2)), .ref (n_sz U + (n + 3)), .ref (n_sz U + (n + 4)), .ref (n_sz U + (n + 5)), .int (nI 0)])) := by
  unfold nX9
  unfold nX9_13
  exact nset_e
set_option maxRecDepth 100000 in
set_option maxHeartbeats 8000000 in
theorem kX9_init (U : am_U) (l : Launch) (B : am_base xx U) (hfl : l.stackTraces = false) (O : n_O U) {E : nE} {a n : Nat} (hE : E a = some (.inr (9, [.null, .null, .null, .null, .null, .null, .int 0]))) (ha : a < n) : n_Ct U l yX9_init cX9_init 1 n_rX9 a E n (nX9 U E a n) (n + 6) := by
  refine n_Ct.of B hfl (by decide) (Nat.le_of_ble_eq_true rfl) rfl ?_
  intro G hgl hgR hr ok hin
  have ok : am_ok xx U G RX9 cX9_init 1 := ok
  show NW U G 1 0 0 E (n) _ 0 [some (.ref (n_sz U + a))] []
  refine NW.run ok eX9_init 0 1 (show am_run 1 ((tX9_init.drop 0).take 1) 0 [some (.ref (n_sz U + a))] [] = some (1, [some (.ref (n_sz U + a))], [.ref (n_sz U + a)]) from rfl) ?_
  refine NW.objInit ok (x_in 271 (by decide +kernel)) n_w2 n_w3 (by rw [hgR]; exact ⟨Nat.le_of_ble_eq_true rfl, Nat.le_of_ble_eq_true rfl⟩) (am_at eX9_init 1 rfl) ?_
  refine NW.run ok eX9_init 2 2 (show am_run 1 ((tX9_init.drop 2).take 2) 4 [some (.ref (n_sz U + a))] [] = some (7, [some (.ref (n_sz U + a))], [.int (nI 9), .ref (n_sz U + a)]) from rfl) ?_
  refine NW.newa (ty := .int) (N := 9) (t := 0) (a0 := (9, .inl (fun _ => 0))) ok (x_in 146 (by decide +kernel)) rfl (by decide) rfl (fun _ _ h => h) (fun _ => rfl) (by decide) (by decide) (by decide) (by rw [hgR]; exact ⟨Nat.le_of_ble_eq_true rfl, Nat.le_of_ble_eq_true rfl⟩) (am_at eX9_init 4 rfl) ?_
  show NW U G 1 1 9 (nX9_1 U E a n) (n + 1) _ 9 [some (.ref (n_sz U + a))] [.ref (n_sz U + (n)), .ref (n_sz U + a)]
  refine NW.put (fs := [.null, .null, .null, .null, .null, .null, .int 0]) (ci := 9) (k := 0) (ty0 := tyX9) ok ⟨rfl, in_X9, by decide, (x_in 272 (by decide +kernel)), tyX9_ok, nmX9⟩ (Or.inr ⟨rfl, hin, rfl⟩) rfl rfl ((nset_n (by omega)).trans hE) (Nat.le_of_ble_eq_true rfl) (am_at eX9_init 5 rfl) ?_
  show NW U G 1 1 9 (nX9_2 U E a n) (n + 1) _ 12 [some (.ref (n_sz U + a))] []
  refine NW.run ok eX9_init 6 2 (show am_run 1 ((tX9_init.drop 6).take 2) 12 [some (.ref (n_sz U + a))] [] = some (15, [some (.ref (n_sz U + a))], [.int (nI 16), .ref (n_sz U + a)]) from rfl) ?_
  refine NW.newa (ty := .int) (N := 16) (t := 0) (a0 := (16, .inl (fun _ => 0))) ok (x_in 146 (by decide +kernel)) rfl (by decide) rfl (fun _ _ h => h) (fun _ => rfl) (by decide) (by decide) (by decide) (by rw [hgR]; exact ⟨Nat.le_of_ble_eq_true rfl, Nat.le_of_ble_eq_true rfl⟩) (am_at eX9_init 8 rfl) ?_
  show NW U G 1 2 25 (nX9_3 U E a n) (n + 2) _ 17 [some (.ref (n_sz U + a))] [.ref (n_sz U + (n + 1)), .ref (n_sz U + a)]
  refine NW.put (fs := [.ref (n_sz U + (n)), .null, .null, .null, .null, .null, .int 0]) (ci := 9) (k := 1) (ty0 := tyX9) ok ⟨rfl, in_X9, by decide, (x_in 273 (by decide +kernel)), tyX9_ok, nmX9⟩ (Or.inr ⟨rfl, hin, rfl⟩) rfl rfl ((nset_n (by omega)).trans nset_e) (Nat.le_of_ble_eq_true rfl) (am_at eX9_init 9 rfl) ?_
  show NW U G 1 2 25 (nX9_4 U E a n) (n + 2) _ 20 [some (.ref (n_sz U + a))] []
  refine NW.run ok eX9_init 10 2 (show am_run 1 ((tX9_init.drop 10).take 2) 20 [some (.ref (n_sz U + a))] [] = some (23, [some (.ref (n_sz U + a))], [.int (nI 9), .ref (n_sz U + a)]) from rfl) ?_
  refine NW.newa (ty := .int) (N := 9) (t := 0) (a0 := (9, .inl (fun _ => 0))) ok (x_in 146 (by decide +kernel)) rfl (by decide) rfl (fun _ _ h => h) (fun _ => rfl) (by decide) (by decide) (by decide) (by rw [hgR]; exact ⟨Nat.le_of_ble_eq_true rfl, Nat.le_of_ble_eq_true rfl⟩) (am_at eX9_init 12 rfl) ?_
  show NW U G 1 3 34 (nX9_5 U E a n) (n + 3) _ 25 [some (.ref (n_sz U + a))] [.ref (n_sz U + (n + 2)), .ref (n_sz U + a)]
  refine NW.put (fs := [.ref (n_sz U + (n)), .ref (n_sz U + (n + 1)), .null, .null, .null, .null, .int 0]) (ci := 9) (k := 2) (ty0 := tyX9) ok ⟨rfl, in_X9, by decide, (x_in 274 (by decide +kernel)), tyX9_ok, nmX9⟩ (Or.inr ⟨rfl, hin, rfl⟩) rfl rfl ((nset_n (by omega)).trans nset_e) (Nat.le_of_ble_eq_true rfl) (am_at eX9_init 13 rfl) ?_
  show NW U G 1 3 34 (nX9_6 U E a n) (n + 3) _ 28 [some (.ref (n_sz U + a))] []
  refine NW.run ok eX9_init 14 2 (show am_run 1 ((tX9_init.drop 14).take 2) 28 [some (.ref (n_sz U + a))] [] = some (31, [some (.ref (n_sz U + a))], [.int (nI 9), .ref (n_sz U + a)]) from rfl) ?_
  refine NW.newa (ty := .int) (N := 9) (t := 0) (a0 := (9, .inl (fun _ => 0))) ok (x_in 146 (by decide +kernel)) rfl (by decide) rfl (fun _ _ h => h) (fun _ => rfl) (by decide) (by decide) (by decide) (by rw [hgR]; exact ⟨Nat.le_of_ble_eq_true rfl, Nat.le_of_ble_eq_true rfl⟩) (am_at eX9_init 16 rfl) ?_
  show NW U G 1 4 43 (nX9_7 U E a n) (n + 4) _ 33 [some (.ref (n_sz U + a))] [.ref (n_sz U + (n + 3)), .ref (n_sz U + a)]
  refine NW.put (fs := [.ref (n_sz U + (n)), .ref (n_sz U + (n + 1)), .ref (n_sz U + (n + 2)), .null, .null, .null, .int 0]) (ci := 9) (k := 3) (ty0 := tyX9) ok ⟨rfl, in_X9, by decide, (x_in 275 (by decide +kernel)), tyX9_ok, nmX9⟩ (Or.inr ⟨rfl, hin, rfl⟩) rfl rfl ((nset_n (by omega)).trans nset_e) (Nat.le_of_ble_eq_true rfl) (am_at eX9_init 17 rfl) ?_
  show NW U G 1 4 43 (nX9_8 U E a n) (n + 4) _ 36 [some (.ref (n_sz U + a))] []
  refine NW.run ok eX9_init 18 2 (show am_run 1 ((tX9_init.drop 18).take 2) 36 [some (.ref (n_sz U + a))] [] = some (39, [some (.ref (n_sz U + a))], [.int (nI 9), .ref (n_sz U + a)]) from rfl) ?_
  refine NW.newa (ty := .int) (N := 9) (t := 0) (a0 := (9, .inl (fun _ => 0))) ok (x_in 146 (by decide +kernel)) rfl (by decide) rfl (fun _ _ h => h) (fun _ => rfl) (by decide) (by decide) (by decide) (by rw [hgR]; exact ⟨Nat.le_of_ble_eq_true rfl, Nat.le_of_ble_eq_true rfl⟩) (am_at eX9_init 20 rfl) ?_
  show NW U G 1 5 52 (nX9_9 U E a n) (n + 5) _ 41 [some (.ref (n_sz U + a))] [.ref (n_sz U + (n + 4)), .ref (n_sz U + a)]
  refine NW.put (fs := [.ref (n_sz U + (n)), .ref (n_sz U + (n + 1)), .ref (n_sz U + (n + 2)), .ref (n_sz U + (n + 3)), .null, .null, .int 0]) (ci := 9) (k := 4) (ty0 := tyX9) ok ⟨rfl, in_X9, by decide, (x_in 276 (by decide +kernel)), tyX9_ok, nmX9⟩ (Or.inr ⟨rfl, hin, rfl⟩) rfl rfl ((nset_n (by omega)).trans nset_e) (Nat.le_of_ble_eq_true rfl) (am_at eX9_init 21 rfl) ?_
  show NW U G 1 5 52 (nX9_10 U E a n) (n + 5) _ 44 [some (.ref (n_sz U + a))] []
  refine NW.run ok eX9_init 22 2 (show am_run 1 ((tX9_init.drop 22).take 2) 44 [some (.ref (n_sz U + a))] [] = some (47, [some (.ref (n_sz U + a))], [.int (nI 9), .ref (n_sz U + a)]) from rfl) ?_
  refine NW.newa (ty := .int) (N := 9) (t := 0) (a0 := (9, .inl (fun _ => 0))) ok (x_in 146 (by decide +kernel)) rfl (by decide) rfl (fun _ _ h => h) (fun _ => rfl) (by decide) (by decide) (by decide) (by rw [hgR]; exact ⟨Nat.le_of_ble_eq_true rfl, Nat.le_of_ble_eq_true rfl⟩) (am_at eX9_init 24 rfl) ?_
  show NW U G 1 6 61 (nX9_11 U E a n) (n + 6) _ 49 [some (.ref (n_sz U + a))] [.ref (n_sz U + (n + 5)), .ref (n_sz U + a)]
  refine NW.put (fs := [.ref (n_sz U + (n)), .ref (n_sz U + (n + 1)), .ref (n_sz U + (n + 2)), .ref (n_sz U + (n + 3)), .ref (n_sz U + (n + 4)), .null, .int 0]) (ci := 9) (k := 5) (ty0 := tyX9) ok ⟨rfl, in_X9, by decide, (x_in 277 (by decide +kernel)), tyX9_ok, nmX9⟩ (Or.inr ⟨rfl, hin, rfl⟩) rfl rfl ((nset_n (by omega)).trans nset_e) (Nat.le_of_ble_eq_true rfl) (am_at eX9_init 25 rfl) ?_
  show NW U G 1 6 61 (nX9_12 U E a n) (n + 6) _ 52 [some (.ref (n_sz U + a))] []
  refine NW.run ok eX9_init 26 2 (show am_run 1 ((tX9_init.drop 26).take 2) 52 [some (.ref (n_sz U + a))] [] = some (54, [some (.ref (n_sz U + a))], [.int (nI 0), .ref (n_sz U + a)]) from rfl) ?_
  refine NW.put (fs := [.ref (n_sz U + (n)), .ref (n_sz U + (n + 1)), .ref (n_sz U + (n + 2)), .ref (n_sz U + (n + 3)), .ref (n_sz U + (n + 4)), .ref (n_sz U + (n + 5)), .int 0]) (ci := 9) (k := 6) (ty0 := tyX9) ok ⟨rfl, in_X9, by decide, (x_in 278 (by decide +kernel)), tyX9_ok, nmX9⟩ (Or.inl rfl) rfl rfl nset_e (Nat.le_of_ble_eq_true rfl) (am_at eX9_init 28 rfl) ?_
  show NW U G 1 6 61 (nX9_13 U E a n) (n + 6) _ 57 [some (.ref (n_sz U + a))] []
  exact NW.vret ok hr (Nat.le_refl _) (Nat.le_refl _) (am_at eX9_init 29 rfl)
def nX7_1 (U : am_U) (E : nE) (a n : Nat) : nE := nset E (n) (.inl (am_dA U 0, 9, .inl (fun _ => 0)))
def nX7_2 (U : am_U) (E : nE) (a n : Nat) : nE := nset (nX7_1 U E a n) a (.inr (7, [.ref (n_sz U + (n)), .null, .null, .null, .null]))
def nX7_3 (U : am_U) (E : nE) (a n : Nat) : nE := nset (nX7_2 U E a n) (n + 1) (.inl (am_dA U 0, 9, .inl (fun _ => 0)))
def nX7_4 (U : am_U) (E : nE) (a n : Nat) : nE := nset (nX7_3 U E a n) a (.inr (7, [.ref (n_sz U + (n)), .ref (n_sz U + (n + 1)), .null, .null, .null]))
def nX7_5 (U : am_U) (E : nE) (a n : Nat) : nE := nset (nX7_4 U E a n) (n + 2) (.inl (am_dA U 0, 9, .inl (fun _ => 0)))
def nX7_6 (U : am_U) (E : nE) (a n : Nat) : nE := nset (nX7_5 U E a n) a (.inr (7, [.ref (n_sz U + (n)), .ref (n_sz U + (n + 1)), .ref (n_sz U + (n + 2)), .null, .null]))
def nX7_7 (U : am_U) (E : nE) (a n : Nat) : nE := nset (nX7_6 U E a n) (n + 3) (.inl (am_dA U 2, 9, .inr (.inr (.inl (fun _ => 0)))))
def nX7_8 (U : am_U) (E : nE) (a n : Nat) : nE := nset (nX7_7 U E a n) a (.inr (7, [.ref (n_sz U + (n)), .ref (n_sz U + (n + 1)), .ref (n_sz U + (n + 2)), .ref (n_sz U + (n + 3)), .null]))
def nX7_9 (U : am_U) (E : nE) (a n : Nat) : nE := nset (nX7_8 U E a n) (n + 4) (.inl (am_dA U 0, 9, .inl (fun _ => 0)))
def nX7_10 (U : am_U) (E : nE) (a n : Nat) : nE := nset (nX7_9 U E a n) a (.inr (7, [.ref (n_sz U + (n)), .ref (n_sz U + (n + 1)), .ref (n_sz U + (n + 2)), .ref (n_sz U + (n + 3)), .ref (n_sz U + (n + 4))]))
def nX7 (U : am_U) (E : nE) (a n : Nat) : nE := (nX7_10 U E a n)
def n_rX7 : Room := { frames := 1, cells := 5, slots := 45, locals := 12 }
theorem nX7_old {U : am_U} {E : nE} {a n q : Nat} (h1 : q ≠ a) (h2 : q < n) : nX7 U E a n q = E q := by
  unfold nX7
  unfold nX7_10
  rw [nset_n (by omega)]
  unfold nX7_9
  rw [nset_n (by omega)]
  unfold nX7_8
  rw [nset_n (by omega)]
  unfold nX7_7
  rw [nset_n (by omega)]
  unfold nX7_6
  rw [nset_n (by omega)]
  unfold nX7_5
  rw [nset_n (by omega)]
  unfold nX7_4
  rw [nset_n (by omega)]
  unfold nX7_3
  rw [nset_n (by omega)]
  unfold nX7_2
  rw [nset_n (by omega)]
  unfold nX7_1
  rw [nset_n (by omega)]
theorem nX7_at {U : am_U} {E : nE} {a n : Nat} (h : a < n) : nX7 U E a n a = some (.inr (7, [.ref (n_sz U + (n)), .ref (n_sz U + (n + 1)), .ref (n_sz U + (n + 2)), .ref (n_sz U + (n + 3)), .ref (n_sz U + (n + 4))])) := by
  unfold nX7
  unfold nX7_10
  exact nset_e
set_option maxRecDepth 100000 in
set_option maxHeartbeats 8000000 in
theorem kX7_init (U : am_U) (l : Launch) (B : am_base xx U) (hfl : l.stackTraces = false) (O : n_O U) {E : nE} {a n : Nat} (hE : E a = some (.inr (7, [.null, .null, .null, .null, .null]))) (ha : a < n) : n_Ct U l yX7_init cX7_init 1 n_rX7 a E n (nX7 U E a n) (n + 5) := by
  refine n_Ct.of B hfl (by decide) (Nat.le_of_ble_eq_true rfl) rfl ?_
  intro G hgl hgR hr ok hin
  have ok : am_ok xx U G RX7 cX7_init 1 := ok
  show NW U G 1 0 0 E (n) _ 0 [some (.ref (n_sz U + a))] []
  refine NW.run ok eX7_init 0 1 (show am_run 1 ((tX7_init.drop 0).take 1) 0 [some (.ref (n_sz U + a))] [] = some (1, [some (.ref (n_sz U + a))], [.ref (n_sz U + a)]) from rfl) ?_
  refine NW.objInit ok (x_in 299 (by decide +kernel)) n_w2 n_w3 (by rw [hgR]; exact ⟨Nat.le_of_ble_eq_true rfl, Nat.le_of_ble_eq_true rfl⟩) (am_at eX7_init 1 rfl) ?_
  refine NW.run ok eX7_init 2 2 (show am_run 1 ((tX7_init.drop 2).take 2) 4 [some (.ref (n_sz U + a))] [] = some (7, [some (.ref (n_sz U + a))], [.int (nI 9), .ref (n_sz U + a)]) from rfl) ?_
  refine NW.newa (ty := .int) (N := 9) (t := 0) (a0 := (9, .inl (fun _ => 0))) ok (x_in 146 (by decide +kernel)) rfl (by decide) rfl (fun _ _ h => h) (fun _ => rfl) (by decide) (by decide) (by decide) (by rw [hgR]; exact ⟨Nat.le_of_ble_eq_true rfl, Nat.le_of_ble_eq_true rfl⟩) (am_at eX7_init 4 rfl) ?_
  show NW U G 1 1 9 (nX7_1 U E a n) (n + 1) _ 9 [some (.ref (n_sz U + a))] [.ref (n_sz U + (n)), .ref (n_sz U + a)]
  refine NW.put (fs := [.null, .null, .null, .null, .null]) (ci := 7) (k := 0) (ty0 := tyX7) ok ⟨rfl, in_X7, by decide, (x_in 300 (by decide +kernel)), tyX7_ok, nmX7⟩ (Or.inr ⟨rfl, hin, rfl⟩) rfl rfl ((nset_n (by omega)).trans hE) (Nat.le_of_ble_eq_true rfl) (am_at eX7_init 5 rfl) ?_
  show NW U G 1 1 9 (nX7_2 U E a n) (n + 1) _ 12 [some (.ref (n_sz U + a))] []
  refine NW.run ok eX7_init 6 2 (show am_run 1 ((tX7_init.drop 6).take 2) 12 [some (.ref (n_sz U + a))] [] = some (15, [some (.ref (n_sz U + a))], [.int (nI 9), .ref (n_sz U + a)]) from rfl) ?_
  refine NW.newa (ty := .int) (N := 9) (t := 0) (a0 := (9, .inl (fun _ => 0))) ok (x_in 146 (by decide +kernel)) rfl (by decide) rfl (fun _ _ h => h) (fun _ => rfl) (by decide) (by decide) (by decide) (by rw [hgR]; exact ⟨Nat.le_of_ble_eq_true rfl, Nat.le_of_ble_eq_true rfl⟩) (am_at eX7_init 8 rfl) ?_
  show NW U G 1 2 18 (nX7_3 U E a n) (n + 2) _ 17 [some (.ref (n_sz U + a))] [.ref (n_sz U + (n + 1)), .ref (n_sz U + a)]
  refine NW.put (fs := [.ref (n_sz U + (n)), .null, .null, .null, .null]) (ci := 7) (k := 1) (ty0 := tyX7) ok ⟨rfl, in_X7, by decide, (x_in 303 (by decide +kernel)), tyX7_ok, nmX7⟩ (Or.inr ⟨rfl, hin, rfl⟩) rfl rfl ((nset_n (by omega)).trans nset_e) (Nat.le_of_ble_eq_true rfl) (am_at eX7_init 9 rfl) ?_
  show NW U G 1 2 18 (nX7_4 U E a n) (n + 2) _ 20 [some (.ref (n_sz U + a))] []
  refine NW.run ok eX7_init 10 2 (show am_run 1 ((tX7_init.drop 10).take 2) 20 [some (.ref (n_sz U + a))] [] = some (23, [some (.ref (n_sz U + a))], [.int (nI 9), .ref (n_sz U + a)]) from rfl) ?_
  refine NW.newa (ty := .int) (N := 9) (t := 0) (a0 := (9, .inl (fun _ => 0))) ok (x_in 146 (by decide +kernel)) rfl (by decide) rfl (fun _ _ h => h) (fun _ => rfl) (by decide) (by decide) (by decide) (by rw [hgR]; exact ⟨Nat.le_of_ble_eq_true rfl, Nat.le_of_ble_eq_true rfl⟩) (am_at eX7_init 12 rfl) ?_
  show NW U G 1 3 27 (nX7_5 U E a n) (n + 3) _ 25 [some (.ref (n_sz U + a))] [.ref (n_sz U + (n + 2)), .ref (n_sz U + a)]
  refine NW.put (fs := [.ref (n_sz U + (n)), .ref (n_sz U + (n + 1)), .null, .null, .null]) (ci := 7) (k := 2) (ty0 := tyX7) ok ⟨rfl, in_X7, by decide, (x_in 305 (by decide +kernel)), tyX7_ok, nmX7⟩ (Or.inr ⟨rfl, hin, rfl⟩) rfl rfl ((nset_n (by omega)).trans nset_e) (Nat.le_of_ble_eq_true rfl) (am_at eX7_init 13 rfl) ?_
  show NW U G 1 3 27 (nX7_6 U E a n) (n + 3) _ 28 [some (.ref (n_sz U + a))] []
  refine NW.run ok eX7_init 14 2 (show am_run 1 ((tX7_init.drop 14).take 2) 28 [some (.ref (n_sz U + a))] [] = some (31, [some (.ref (n_sz U + a))], [.int (nI 9), .ref (n_sz U + a)]) from rfl) ?_
  refine NW.newa (ty := .float) (N := 9) (t := 2) (a0 := (9, .inr (.inr (.inl (fun _ => 0))))) ok (x_in 322 (by decide +kernel)) rfl (by decide) rfl (fun _ _ h => h) (fun _ => rfl) (by decide) (by decide) (by decide) (by rw [hgR]; exact ⟨Nat.le_of_ble_eq_true rfl, Nat.le_of_ble_eq_true rfl⟩) (am_at eX7_init 16 rfl) ?_
  show NW U G 1 4 36 (nX7_7 U E a n) (n + 4) _ 33 [some (.ref (n_sz U + a))] [.ref (n_sz U + (n + 3)), .ref (n_sz U + a)]
  refine NW.put (fs := [.ref (n_sz U + (n)), .ref (n_sz U + (n + 1)), .ref (n_sz U + (n + 2)), .null, .null]) (ci := 7) (k := 3) (ty0 := tyX7) ok ⟨rfl, in_X7, by decide, (x_in 308 (by decide +kernel)), tyX7_ok, nmX7⟩ (Or.inr ⟨rfl, hin, rfl⟩) rfl rfl ((nset_n (by omega)).trans nset_e) (Nat.le_of_ble_eq_true rfl) (am_at eX7_init 17 rfl) ?_
  show NW U G 1 4 36 (nX7_8 U E a n) (n + 4) _ 36 [some (.ref (n_sz U + a))] []
  refine NW.run ok eX7_init 18 2 (show am_run 1 ((tX7_init.drop 18).take 2) 36 [some (.ref (n_sz U + a))] [] = some (39, [some (.ref (n_sz U + a))], [.int (nI 9), .ref (n_sz U + a)]) from rfl) ?_
  refine NW.newa (ty := .int) (N := 9) (t := 0) (a0 := (9, .inl (fun _ => 0))) ok (x_in 146 (by decide +kernel)) rfl (by decide) rfl (fun _ _ h => h) (fun _ => rfl) (by decide) (by decide) (by decide) (by rw [hgR]; exact ⟨Nat.le_of_ble_eq_true rfl, Nat.le_of_ble_eq_true rfl⟩) (am_at eX7_init 20 rfl) ?_
  show NW U G 1 5 45 (nX7_9 U E a n) (n + 5) _ 41 [some (.ref (n_sz U + a))] [.ref (n_sz U + (n + 4)), .ref (n_sz U + a)]
  refine NW.put (fs := [.ref (n_sz U + (n)), .ref (n_sz U + (n + 1)), .ref (n_sz U + (n + 2)), .ref (n_sz U + (n + 3)), .null]) (ci := 7) (k := 4) (ty0 := tyX7) ok ⟨rfl, in_X7, by decide, (x_in 310 (by decide +kernel)), tyX7_ok, nmX7⟩ (Or.inr ⟨rfl, hin, rfl⟩) rfl rfl ((nset_n (by omega)).trans nset_e) (Nat.le_of_ble_eq_true rfl) (am_at eX7_init 21 rfl) ?_
  show NW U G 1 5 45 (nX7_10 U E a n) (n + 5) _ 44 [some (.ref (n_sz U + a))] []
  exact NW.vret ok hr (Nat.le_refl _) (Nat.le_refl _) (am_at eX7_init 22 rfl)
def nX10_1 (U : am_U) (E : nE) (a n : Nat) : nE := nset E (n) (.inr (7, [.null, .null, .null, .null, .null]))
def nX10_2 (U : am_U) (E : nE) (a n : Nat) : nE := nX7 U (nX10_1 U E a n) (n) (n + 1)
def nX10_3 (U : am_U) (E : nE) (a n : Nat) : nE := nset (nX10_2 U E a n) a (.inr (10, [.ref (n_sz U + (n))]))
def nX10 (U : am_U) (E : nE) (a n : Nat) : nE := (nX10_3 U E a n)
def n_rX10 : Room := { frames := 2, cells := 6, slots := 50, locals := 32 }
theorem nX10_old {U : am_U} {E : nE} {a n q : Nat} (h1 : q ≠ a) (h2 : q < n) : nX10 U E a n q = E q := by
  unfold nX10
  unfold nX10_3
  rw [nset_n (by omega)]
  unfold nX10_2
  rw [nX7_old (by omega) (by omega)]
  unfold nX10_1
  rw [nset_n (by omega)]
theorem nX10_at {U : am_U} {E : nE} {a n : Nat} (h : a < n) : nX10 U E a n a = some (.inr (10, [.ref (n_sz U + (n))])) := by
  unfold nX10
  unfold nX10_3
  exact nset_e
set_option maxRecDepth 100000 in
set_option maxHeartbeats 8000000 in
theorem kX10_init (U : am_U) (l : Launch) (B : am_base xx U) (hfl : l.stackTraces = false) (O : n_O U) {E : nE} {a n : Nat} (hE : E a = some (.inr (10, [.null]))) (ha : a < n) : n_Ct U l yX10_init cX10_init 1 n_rX10 a E n (nX10 U E a n) (n + 6) := by
  refine n_Ct.of B hfl (by decide) (Nat.le_of_ble_eq_true rfl) rfl ?_
  intro G hgl hgR hr ok hin
  have ok : am_ok xx U G RX10 cX10_init 1 := ok
  show NW U G 1 0 0 E (n) _ 0 [some (.ref (n_sz U + a))] []
  refine NW.run ok eX10_init 0 1 (show am_run 1 ((tX10_init.drop 0).take 1) 0 [some (.ref (n_sz U + a))] [] = some (1, [some (.ref (n_sz U + a))], [.ref (n_sz U + a)]) from rfl) ?_
  refine NW.objInit ok (x_in 328 (by decide +kernel)) n_w2 n_w3 (by rw [hgR]; exact ⟨Nat.le_of_ble_eq_true rfl, Nat.le_of_ble_eq_true rfl⟩) (am_at eX10_init 1 rfl) ?_
  refine NW.run ok eX10_init 2 1 (show am_run 1 ((tX10_init.drop 2).take 1) 4 [some (.ref (n_sz U + a))] [] = some (5, [some (.ref (n_sz U + a))], [.ref (n_sz U + a)]) from rfl) ?_
  refine NW.new (fs := [.null, .null, .null, .null, .null]) tyX7 ok in_X7 tyX7_ok (x_in 329 (by decide +kernel)) (x_in 295 (by decide +kernel)) (x_in 46 (by decide +kernel)) (ci := 7) rfl n_fsX7 (by rw [hgR]; exact ⟨Nat.le_of_ble_eq_true rfl, Nat.le_of_ble_eq_true rfl⟩) (am_at eX10_init 3 rfl) ?_
  show NW U G 1 1 5 (nX10_1 U E a n) (n + 1) _ 8 [some (.ref (n_sz U + a))] [.ref (n_sz U + (n)), .ref (n_sz U + a)]
  refine NW.run ok eX10_init 4 1 (show am_run 1 ((tX10_init.drop 4).take 1) 8 [some (.ref (n_sz U + a))] [.ref (n_sz U + (n)), .ref (n_sz U + a)] = some (9, [some (.ref (n_sz U + a))], [.ref (n_sz U + (n)), .ref (n_sz U + (n)), .ref (n_sz U + a)]) from rfl) ?_
  refine NW.call (rm := n_rX7) (host := some "DandelionBroadcast") ok (by rw [hgl]; exact kX7_init U l B hfl O nset_e (by omega)) ⟨(y_inN 330 (by decide +kernel)), (x_in 297 (by decide +kernel)), (x_in 46 (by decide +kernel)), (x_in 298 (by decide +kernel)), rfl, by decide +kernel, by decide +kernel, by decide +kernel⟩ (Nat.le_of_ble_eq_true rfl) (by rw [hgR]; exact ⟨Nat.le_of_ble_eq_true rfl, Nat.le_of_ble_eq_true rfl⟩) (by rw [hgR]; exact ⟨Nat.le_of_ble_eq_true rfl, Nat.le_of_ble_eq_true rfl⟩) (am_at eX10_init 5 rfl) ?_
  show NW U G 1 6 50 (nX10_2 U E a n) (n + 6) _ 12 [some (.ref (n_sz U + a))] [.ref (n_sz U + (n)), .ref (n_sz U + a)]
  refine NW.put (fs := [.null]) (ci := 10) (k := 0) (ty0 := tyX10) ok ⟨rfl, in_X10, by decide, (x_in 331 (by decide +kernel)), tyX10_ok, nmX10⟩ (Or.inr ⟨rfl, hin, rfl⟩) rfl rfl ((nX7_old (by omega) (by omega)).trans ((nset_n (by omega)).trans hE)) (Nat.le_of_ble_eq_true rfl) (am_at eX10_init 6 rfl) ?_
  show NW U G 1 6 50 (nX10_3 U E a n) (n + 6) _ 15 [some (.ref (n_sz U + a))] []
  exact NW.vret ok hr (Nat.le_refl _) (Nat.le_refl _) (am_at eX10_init 7 rfl)
def nX2_1 (U : am_U) (E : nE) (a n : Nat) : nE := nset E a (.inr (3, [.int (-1), .int 0]))
def nX2_2 (U : am_U) (E : nE) (a n : Nat) : nE := nset (nX2_1 U E a n) a (.inr (3, [.int (-1), .int (nI 0)]))
def nX2 (U : am_U) (E : nE) (a n : Nat) : nE := (nX2_2 U E a n)
def n_rX2 : Room := { frames := 1, cells := 0, slots := 0, locals := 12 }
theorem nX2_old {U : am_U} {E : nE} {a n q : Nat} (h1 : q ≠ a) (h2 : q < n) : nX2 U E a n q = E q := by
  unfold nX2
  unfold nX2_2
  rw [nset_n (by omega)]
  unfold nX2_1
  rw [nset_n (by omega)]
theorem nX2_at {U : am_U} {E : nE} {a n : Nat} (h : a < n) : nX2 U E a n a = some (.inr (3, [.int (-1), .int (nI 0)])) := by
  unfold nX2
  unfold nX2_2
  exact nset_e
set_option maxRecDepth 100000 in
set_option maxHeartbeats 8000000 in
theorem kX2_init (U : am_U) (l : Launch) (B : am_base xx U) (hfl : l.stackTraces = false) (O : n_O U) {E : nE} {a n : Nat} (hE : E a = some (.inr (3, [.int 0, .int 0]))) (ha : a < n) : n_Ct U l yX2_init cX2_init 1 n_rX2 a E n (nX2 U E a n) (n + 0) := by
  refine n_Ct.of B hfl (by decide) (Nat.le_of_ble_eq_true rfl) rfl ?_
  intro G hgl hgR hr ok hin
  have ok : am_ok xx U G RX2 cX2_init 1 := ok
  show NW U G 1 0 0 E (n) _ 0 [some (.ref (n_sz U + a))] []
  refine NW.run ok eX2_init 0 1 (show am_run 1 ((tX2_init.drop 0).take 1) 0 [some (.ref (n_sz U + a))] [] = some (1, [some (.ref (n_sz U + a))], [.ref (n_sz U + a)]) from rfl) ?_
  refine NW.objInit ok (x_in 340 (by decide +kernel)) n_w2 n_w3 (by rw [hgR]; exact ⟨Nat.le_of_ble_eq_true rfl, Nat.le_of_ble_eq_true rfl⟩) (am_at eX2_init 1 rfl) ?_
  refine NW.run ok eX2_init 2 2 (show am_run 1 ((tX2_init.drop 2).take 2) 4 [some (.ref (n_sz U + a))] [] = some (6, [some (.ref (n_sz U + a))], [.int (-1), .ref (n_sz U + a)]) from rfl) ?_
  refine NW.put (fs := [.int 0, .int 0]) (ci := 3) (k := 0) (ty0 := tyX2) ok ⟨rfl, in_X2, by decide, (x_in 341 (by decide +kernel)), tyX2_ok, nmX2⟩ (Or.inl rfl) rfl rfl hE (Nat.le_of_ble_eq_true rfl) (am_at eX2_init 4 rfl) ?_
  show NW U G 1 0 0 (nX2_1 U E a n) (n) _ 9 [some (.ref (n_sz U + a))] []
  refine NW.run ok eX2_init 5 2 (show am_run 1 ((tX2_init.drop 5).take 2) 9 [some (.ref (n_sz U + a))] [] = some (11, [some (.ref (n_sz U + a))], [.int (nI 0), .ref (n_sz U + a)]) from rfl) ?_
  refine NW.put (fs := [.int (-1), .int 0]) (ci := 3) (k := 1) (ty0 := tyX2) ok ⟨rfl, in_X2, by decide, (x_in 343 (by decide +kernel)), tyX2_ok, nmX2⟩ (Or.inl rfl) rfl rfl nset_e (Nat.le_of_ble_eq_true rfl) (am_at eX2_init 7 rfl) ?_
  show NW U G 1 0 0 (nX2_2 U E a n) (n) _ 14 [some (.ref (n_sz U + a))] []
  exact NW.vret ok hr (Nat.le_refl _) (Nat.le_refl _) (am_at eX2_init 8 rfl)
def nX3_1 (U : am_U) (E : nE) (a n : Nat) : nE := nset E (n) (.inl (am_dA U 4, 12, .inr (.inr (.inr (.inr (fun _ => none))))))
def nX3_2 (U : am_U) (E : nE) (a n : Nat) : nE := nset (nX3_1 U E a n) a (.inr (4, [.ref (n_sz U + (n)), .null, .int 0, .int 0, .null, .int 0]))
def nX3_3 (U : am_U) (E : nE) (a n : Nat) : nE := n_multi U (nX3_2 U E a n) (n + 1)
def nX3_4 (U : am_U) (E : nE) (a n : Nat) : nE := nset (nX3_3 U E a n) a (.inr (4, [.ref (n_sz U + (n)), .ref (n_sz U + (n + 1)), .int 0, .int 0, .null, .int 0]))
def nX3_5 (U : am_U) (E : nE) (a n : Nat) : nE := nset (nX3_4 U E a n) a (.inr (4, [.ref (n_sz U + (n)), .ref (n_sz U + (n + 1)), .int (nI 0), .int 0, .null, .int 0]))
def nX3_6 (U : am_U) (E : nE) (a n : Nat) : nE := nset (nX3_5 U E a n) a (.inr (4, [.ref (n_sz U + (n)), .ref (n_sz U + (n + 1)), .int (nI 0), .int (nI 0), .null, .int 0]))
def nX3_7 (U : am_U) (E : nE) (a n : Nat) : nE := nset (nX3_6 U E a n) (n + 14) (.inl (am_dA U 1, 60, .inl (fun _ => 0)))
def nX3_8 (U : am_U) (E : nE) (a n : Nat) : nE := nset (nX3_7 U E a n) a (.inr (4, [.ref (n_sz U + (n)), .ref (n_sz U + (n + 1)), .int (nI 0), .int (nI 0), .ref (n_sz U + (n + 14)), .int 0]))
def nX3_9 (U : am_U) (E : nE) (a n : Nat) : nE := nset (nX3_8 U E a n) a (.inr (4, [.ref (n_sz U + (n)), .ref (n_sz U + (n + 1)), .int (nI 0), .int (nI 0), .ref (n_sz U + (n + 14)), .int (nI 0)]))
def nX3 (U : am_U) (E : nE) (a n : Nat) : nE := (nX3_9 U E a n)
def n_rX3 : Room := { frames := 1, cells := 15, slots := 132, locals := 12 }
theorem nX3_old {U : am_U} {E : nE} {a n q : Nat} (h1 : q ≠ a) (h2 : q < n) : nX3 U E a n q = E q := by
  unfold nX3
  unfold nX3_9
  rw [nset_n (by omega)]
  unfold nX3_8
  rw [nset_n (by omega)]
  unfold nX3_7
  rw [nset_n (by omega)]
  unfold nX3_6
  rw [nset_n (by omega)]
  unfold nX3_5
  rw [nset_n (by omega)]
  unfold nX3_4
  rw [nset_n (by omega)]
  unfold nX3_3
  rw [n_mold (by omega)]
  unfold nX3_2
  rw [nset_n (by omega)]
  unfold nX3_1
  rw [nset_n (by omega)]
theorem nX3_at {U : am_U} {E : nE} {a n : Nat} (h : a < n) : nX3 U E a n a = some (.inr (4, [.ref (n_sz U + (n)), .ref (n_sz U + (n + 1)), .int (nI 0), .int (nI 0), .ref (n_sz U + (n + 14)), .int (nI 0)])) := by
  unfold nX3
  unfold nX3_9
  exact nset_e
set_option maxRecDepth 100000 in
set_option maxHeartbeats 8000000 in
theorem kX3_init (U : am_U) (l : Launch) (B : am_base xx U) (hfl : l.stackTraces = false) (O : n_O U) {E : nE} {a n : Nat} (hE : E a = some (.inr (4, [.null, .null, .int 0, .int 0, .null, .int 0]))) (ha : a < n) : n_Ct U l yX3_init cX3_init 1 n_rX3 a E n (nX3 U E a n) (n + 15) := by
  refine n_Ct.of B hfl (by decide) (Nat.le_of_ble_eq_true rfl) rfl ?_
  intro G hgl hgR hr ok hin
  have ok : am_ok xx U G RX3 cX3_init 1 := ok
  show NW U G 1 0 0 E (n) _ 0 [some (.ref (n_sz U + a))] []
  refine NW.run ok eX3_init 0 1 (show am_run 1 ((tX3_init.drop 0).take 1) 0 [some (.ref (n_sz U + a))] [] = some (1, [some (.ref (n_sz U + a))], [.ref (n_sz U + a)]) from rfl) ?_
  refine NW.objInit ok (x_in 355 (by decide +kernel)) n_w2 n_w3 (by rw [hgR]; exact ⟨Nat.le_of_ble_eq_true rfl, Nat.le_of_ble_eq_true rfl⟩) (am_at eX3_init 1 rfl) ?_
  refine NW.run ok eX3_init 2 2 (show am_run 1 ((tX3_init.drop 2).take 2) 4 [some (.ref (n_sz U + a))] [] = some (7, [some (.ref (n_sz U + a))], [.int (nI 12), .ref (n_sz U + a)]) from rfl) ?_
  refine NW.anew (C := "DandelionBroadcast$Kind") (N := 12) (t := 4) ok O.2.1 (x_in 356 (by decide +kernel)) (by decide) rfl (by decide) (by decide) (by decide) (by rw [hgR]; exact ⟨Nat.le_of_ble_eq_true rfl, Nat.le_of_ble_eq_true rfl⟩) (am_at eX3_init 4 rfl) ?_
  show NW U G 1 1 12 (nX3_1 U E a n) (n + 1) _ 10 [some (.ref (n_sz U + a))] [.ref (n_sz U + (n)), .ref (n_sz U + a)]
  refine NW.put (fs := [.null, .null, .int 0, .int 0, .null, .int 0]) (ci := 4) (k := 0) (ty0 := tyX3) ok ⟨rfl, in_X3, by decide, (x_in 360 (by decide +kernel)), tyX3_ok, nmX3⟩ (Or.inr ⟨rfl, hin, rfl⟩) rfl rfl ((nset_n (by omega)).trans hE) (Nat.le_of_ble_eq_true rfl) (am_at eX3_init 5 rfl) ?_
  show NW U G 1 1 12 (nX3_2 U E a n) (n + 1) _ 13 [some (.ref (n_sz U + a))] []
  refine NW.run ok eX3_init 6 3 (show am_run 1 ((tX3_init.drop 6).take 3) 13 [some (.ref (n_sz U + a))] [] = some (17, [some (.ref (n_sz U + a))], [.int (nI 4), .int (nI 12), .ref (n_sz U + a)]) from rfl) ?_
  refine NW.multi ok O.2.2 (x_in 358 (by decide +kernel)) (x_in 146 (by decide +kernel)) (by rw [hgR]; exact ⟨Nat.le_of_ble_eq_true rfl, Nat.le_of_ble_eq_true rfl⟩) (am_at eX3_init 9 rfl) ?_
  show NW U G 1 14 72 (nX3_3 U E a n) (n + 14) _ 21 [some (.ref (n_sz U + a))] [.ref (n_sz U + (n + 1)), .ref (n_sz U + a)]
  refine NW.put (fs := [.ref (n_sz U + (n)), .null, .int 0, .int 0, .null, .int 0]) (ci := 4) (k := 1) (ty0 := tyX3) ok ⟨rfl, in_X3, by decide, (x_in 362 (by decide +kernel)), tyX3_ok, nmX3⟩ (Or.inr ⟨rfl, hin, rfl⟩) rfl rfl ((n_mold (by omega)).trans nset_e) (Nat.le_of_ble_eq_true rfl) (am_at eX3_init 10 rfl) ?_
  show NW U G 1 14 72 (nX3_4 U E a n) (n + 14) _ 24 [some (.ref (n_sz U + a))] []
  refine NW.run ok eX3_init 11 2 (show am_run 1 ((tX3_init.drop 11).take 2) 24 [some (.ref (n_sz U + a))] [] = some (26, [some (.ref (n_sz U + a))], [.int (nI 0), .ref (n_sz U + a)]) from rfl) ?_
  refine NW.put (fs := [.ref (n_sz U + (n)), .ref (n_sz U + (n + 1)), .int 0, .int 0, .null, .int 0]) (ci := 4) (k := 2) (ty0 := tyX3) ok ⟨rfl, in_X3, by decide, (x_in 364 (by decide +kernel)), tyX3_ok, nmX3⟩ (Or.inl rfl) rfl rfl nset_e (Nat.le_of_ble_eq_true rfl) (am_at eX3_init 13 rfl) ?_
  show NW U G 1 14 72 (nX3_5 U E a n) (n + 14) _ 29 [some (.ref (n_sz U + a))] []
  refine NW.run ok eX3_init 14 2 (show am_run 1 ((tX3_init.drop 14).take 2) 29 [some (.ref (n_sz U + a))] [] = some (31, [some (.ref (n_sz U + a))], [.int (nI 0), .ref (n_sz U + a)]) from rfl) ?_
  refine NW.put (fs := [.ref (n_sz U + (n)), .ref (n_sz U + (n + 1)), .int (nI 0), .int 0, .null, .int 0]) (ci := 4) (k := 3) (ty0 := tyX3) ok ⟨rfl, in_X3, by decide, (x_in 366 (by decide +kernel)), tyX3_ok, nmX3⟩ (Or.inl rfl) rfl rfl nset_e (Nat.le_of_ble_eq_true rfl) (am_at eX3_init 16 rfl) ?_
  show NW U G 1 14 72 (nX3_6 U E a n) (n + 14) _ 34 [some (.ref (n_sz U + a))] []
  refine NW.run ok eX3_init 17 2 (show am_run 1 ((tX3_init.drop 17).take 2) 34 [some (.ref (n_sz U + a))] [] = some (37, [some (.ref (n_sz U + a))], [.int (nI 60), .ref (n_sz U + a)]) from rfl) ?_
  refine NW.newa (ty := .char) (N := 60) (t := 1) (a0 := (60, .inl (fun _ => 0))) ok (x_in 383 (by decide +kernel)) rfl (by decide) rfl (fun _ _ h => h) (fun _ => rfl) (by decide) (by decide) (by decide) (by rw [hgR]; exact ⟨Nat.le_of_ble_eq_true rfl, Nat.le_of_ble_eq_true rfl⟩) (am_at eX3_init 19 rfl) ?_
  show NW U G 1 15 132 (nX3_7 U E a n) (n + 15) _ 39 [some (.ref (n_sz U + a))] [.ref (n_sz U + (n + 14)), .ref (n_sz U + a)]
  refine NW.put (fs := [.ref (n_sz U + (n)), .ref (n_sz U + (n + 1)), .int (nI 0), .int (nI 0), .null, .int 0]) (ci := 4) (k := 4) (ty0 := tyX3) ok ⟨rfl, in_X3, by decide, (x_in 368 (by decide +kernel)), tyX3_ok, nmX3⟩ (Or.inr ⟨rfl, hin, rfl⟩) rfl rfl ((nset_n (by omega)).trans nset_e) (Nat.le_of_ble_eq_true rfl) (am_at eX3_init 20 rfl) ?_
  show NW U G 1 15 132 (nX3_8 U E a n) (n + 15) _ 42 [some (.ref (n_sz U + a))] []
  refine NW.run ok eX3_init 21 2 (show am_run 1 ((tX3_init.drop 21).take 2) 42 [some (.ref (n_sz U + a))] [] = some (44, [some (.ref (n_sz U + a))], [.int (nI 0), .ref (n_sz U + a)]) from rfl) ?_
  refine NW.put (fs := [.ref (n_sz U + (n)), .ref (n_sz U + (n + 1)), .int (nI 0), .int (nI 0), .ref (n_sz U + (n + 14)), .int 0]) (ci := 4) (k := 5) (ty0 := tyX3) ok ⟨rfl, in_X3, by decide, (x_in 369 (by decide +kernel)), tyX3_ok, nmX3⟩ (Or.inl rfl) rfl rfl nset_e (Nat.le_of_ble_eq_true rfl) (am_at eX3_init 23 rfl) ?_
  show NW U G 1 15 132 (nX3_9 U E a n) (n + 15) _ 47 [some (.ref (n_sz U + a))] []
  exact NW.vret ok hr (Nat.le_refl _) (Nat.le_refl _) (am_at eX3_init 24 rfl)
def nX11_1 (U : am_U) (E : nE) (a n : Nat) : nE := nset E (n) (.inr (8, [.null, .null, .null, .int 0, .int 0, .int 0, .int 0, .int 0, .int 0]))
def nX11_2 (U : am_U) (E : nE) (a n : Nat) : nE := nX8 U (nX11_1 U E a n) (n) (n + 1)
def nX11_3 (U : am_U) (E : nE) (a n : Nat) : nE := nset (nX11_2 U E a n) a (.inr (11, [.ref (n_sz U + (n)), .null, .null, .null, .null, .null, .null, .null, .null, .null, .int 0, .int 0, .int 0, .int 0, .int 0, .int 0]))
def nX11_4 (U : am_U) (E : nE) (a n : Nat) : nE := nset (nX11_3 U E a n) (n + 10) (.inr (8, [.null, .null, .null, .int 0, .int 0, .int 0, .int 0, .int 0, .int 0]))
def nX11_5 (U : am_U) (E : nE) (a n : Nat) : nE := nX8 U (nX11_4 U E a n) (n + 10) (n + 11)
def nX11_6 (U : am_U) (E : nE) (a n : Nat) : nE := nset (nX11_5 U E a n) a (.inr (11, [.ref (n_sz U + (n)), .ref (n_sz U + (n + 10)), .null, .null, .null, .null, .null, .null, .null, .null, .int 0, .int 0, .int 0, .int 0, .int 0, .int 0]))
def nX11_7 (U : am_U) (E : nE) (a n : Nat) : nE := nset (nX11_6 U E a n) (n + 20) (.inr (8, [.null, .null, .null, .int 0, .int 0, .int 0, .int 0, .int 0, .int 0]))
def nX11_8 (U : am_U) (E : nE) (a n : Nat) : nE := nX8 U (nX11_7 U E a n) (n + 20) (n + 21)
def nX11_9 (U : am_U) (E : nE) (a n : Nat) : nE := nset (nX11_8 U E a n) a (.inr (11, [.ref (n_sz U + (n)), .ref (n_sz U + (n + 10)), .ref (n_sz U + (n + 20)), .null, .null, .null, .null, .null, .null, .null, .int 0, .int 0, .int 0, .int 0, .int 0, .int 0]))
def nX11_10 (U : am_U) (E : nE) (a n : Nat) : nE := nset (nX11_9 U E a n) (n + 30) (.inr (5, [.null, .int 0, .int 0]))
def nX11_11 (U : am_U) (E : nE) (a n : Nat) : nE := nX4 U (nX11_10 U E a n) (n + 30) (n + 31)
def nX11_12 (U : am_U) (E : nE) (a n : Nat) : nE := nset (nX11_11 U E a n) a (.inr (11, [.ref (n_sz U + (n)), .ref (n_sz U + (n + 10)), .ref (n_sz U + (n + 20)), .ref (n_sz U + (n + 30)), .null, .null, .null, .null, .null, .null, .int 0, .int 0, .int 0, .int 0, .int 0, .int 0]))
def nX11_13 (U : am_U) (E : nE) (a n : Nat) : nE := nset (nX11_12 U E a n) (n + 122) (.inr (9, [.null, .null, .null, .null, .null, .null, .int 0]))
def nX11_14 (U : am_U) (E : nE) (a n : Nat) : nE := nX9 U (nX11_13 U E a n) (n + 122) (n + 123)
def nX11_15 (U : am_U) (E : nE) (a n : Nat) : nE := nset (nX11_14 U E a n) a (.inr (11, [.ref (n_sz U + (n)), .ref (n_sz U + (n + 10)), .ref (n_sz U + (n + 20)), .ref (n_sz U + (n + 30)), .ref (n_sz U + (n + 122)), .null, .null, .null, .null, .null, .int 0, .int 0, .int 0, .int 0, .int 0, .int 0]))
def nX11_16 (U : am_U) (E : nE) (a n : Nat) : nE := nset (nX11_15 U E a n) (n + 129) (.inr (7, [.null, .null, .null, .null, .null]))
def nX11_17 (U : am_U) (E : nE) (a n : Nat) : nE := nX7 U (nX11_16 U E a n) (n + 129) (n + 130)
def nX11_18 (U : am_U) (E : nE) (a n : Nat) : nE := nset (nX11_17 U E a n) a (.inr (11, [.ref (n_sz U + (n)), .ref (n_sz U + (n + 10)), .ref (n_sz U + (n + 20)), .ref (n_sz U + (n + 30)), .ref (n_sz U + (n + 122)), .ref (n_sz U + (n + 129)), .null, .null, .null, .null, .int 0, .int 0, .int 0, .int 0, .int 0, .int 0]))
def nX11_19 (U : am_U) (E : nE) (a n : Nat) : nE := nset (nX11_18 U E a n) (n + 135) (.inr (10, [.null]))
def nX11_20 (U : am_U) (E : nE) (a n : Nat) : nE := nX10 U (nX11_19 U E a n) (n + 135) (n + 136)
def nX11_21 (U : am_U) (E : nE) (a n : Nat) : nE := nset (nX11_20 U E a n) a (.inr (11, [.ref (n_sz U + (n)), .ref (n_sz U + (n + 10)), .ref (n_sz U + (n + 20)), .ref (n_sz U + (n + 30)), .ref (n_sz U + (n + 122)), .ref (n_sz U + (n + 129)), .ref (n_sz U + (n + 135)), .null, .null, .null, .int 0, .int 0, .int 0, .int 0, .int 0, .int 0]))
def nX11_22 (U : am_U) (E : nE) (a n : Nat) : nE := nset (nX11_21 U E a n) (n + 142) (.inr (3, [.int 0, .int 0]))
def nX11_23 (U : am_U) (E : nE) (a n : Nat) : nE := nX2 U (nX11_22 U E a n) (n + 142) (n + 143)
def nX11_24 (U : am_U) (E : nE) (a n : Nat) : nE := nset (nX11_23 U E a n) a (.inr (11, [.ref (n_sz U + (n)), .ref (n_sz U + (n + 10)), .ref (n_sz U + (n + 20)), .ref (n_sz U + (n + 30)), .ref (n_sz U + (n + 122)), .ref (n_sz U + (n + 129)), .ref (n_sz U + (n + 135)), .ref (n_sz U + (n + 142)), .null, .null, .int 0, .int 0, .int 0, .int 0, .int 0, .int 0]))
def nX11_25 (U : am_U) (E : nE) (a n : Nat) : nE := nset (nX11_24 U E a n) (n + 143) (.inr (4, [.null, .null, .int 0, .int 0, .null, .int 0]))
def nX11_26 (U : am_U) (E : nE) (a n : Nat) : nE := nX3 U (nX11_25 U E a n) (n + 143) (n + 144)
def nX11_27 (U : am_U) (E : nE) (a n : Nat) : nE := nset (nX11_26 U E a n) a (.inr (11, [.ref (n_sz U + (n)), .ref (n_sz U + (n + 10)), .ref (n_sz U + (n + 20)), .ref (n_sz U + (n + 30)), .ref (n_sz U + (n + 122)), .ref (n_sz U + (n + 129)), .ref (n_sz U + (n + 135)), .ref (n_sz U + (n + 142)), .ref (n_sz U + (n + 143)), .null, .int 0, .int 0, .int 0, .int 0, .int 0, .int 0]))
def nX11_28 (U : am_U) (E : nE) (a n : Nat) : nE := nset (nX11_27 U E a n) (n + 159) (.inl (am_dA U 1, 12, .inl (fun _ => 0)))
def nX11_29 (U : am_U) (E : nE) (a n : Nat) : nE := nset (nX11_28 U E a n) a (.inr (11, [.ref (n_sz U + (n)), .ref (n_sz U + (n + 10)), .ref (n_sz U + (n + 20)), .ref (n_sz U + (n + 30)), .ref (n_sz U + (n + 122)), .ref (n_sz U + (n + 129)), .ref (n_sz U + (n + 135)), .ref (n_sz U + (n + 142)), .ref (n_sz U + (n + 143)), .ref (n_sz U + (n + 159)), .int 0, .int 0, .int 0, .int 0, .int 0, .int 0]))
def nX11_30 (U : am_U) (E : nE) (a n : Nat) : nE := nset (nX11_29 U E a n) a (.inr (11, [.ref (n_sz U + (n)), .ref (n_sz U + (n + 10)), .ref (n_sz U + (n + 20)), .ref (n_sz U + (n + 30)), .ref (n_sz U + (n + 122)), .ref (n_sz U + (n + 129)), .ref (n_sz U + (n + 135)), .ref (n_sz U + (n + 142)), .ref (n_sz U + (n + 143)), .ref (n_sz U + (n + 159)), .int (nI 0), .int 0, .int 0, .int 0, .int 0, .int 0]))
def nX11_31 (U : am_U) (E : nE) (a n : Nat) : nE := nset (nX11_30 U E a n) a (.inr (11, [.ref (n_sz U + (n)), .ref (n_sz U + (n + 10)), .ref (n_sz U + (n + 20)), .ref (n_sz U + (n + 30)), .ref (n_sz U + (n + 122)), .ref (n_sz U + (n + 129)), .ref (n_sz U + (n + 135)), .ref (n_sz U + (n + 142)), .ref (n_sz U + (n + 143)), .ref (n_sz U + (n + 159)), .int (nI 0), .int (nI 0), .int 0, .int 0, .int 0, .int 0]))
def nX11_32 (U : am_U) (E : nE) (a n : Nat) : nE := nset (nX11_31 U E a n) a (.inr (11, [.ref (n_sz U + (n)), .ref (n_sz U + (n + 10)), .ref (n_sz U + (n + 20)), .ref (n_sz U + (n + 30)), .ref (n_sz U + (n + 122)), .ref (n_sz U + (n + 129)), .ref (n_sz U + (n + 135)), .ref (n_sz U + (n + 142)), .ref (n_sz U + (n + 143)), .ref (n_sz U + (n + 159)), .int (nI 0), .int (nI 0), .int (-1), .int 0, .int 0, .int 0]))
def nX11_33 (U : am_U) (E : nE) (a n : Nat) : nE := nset (nX11_32 U E a n) a (.inr (11, [.ref (n_sz U + (n)), .ref (n_sz U + (n + 10)), .ref (n_sz U + (n + 20)), .ref (n_sz U + (n + 30)), .ref (n_sz U + (n + 122)), .ref (n_sz U + (n + 129)), .ref (n_sz U + (n + 135)), .ref (n_sz U + (n + 142)), .ref (n_sz U + (n + 143)), .ref (n_sz U + (n + 159)), .int (nI 0), .int (nI 0), .int (-1), .int (nI 0), .int 0, .int 0]))
def nX11_34 (U : am_U) (E : nE) (a n : Nat) : nE := nset (nX11_33 U E a n) a (.inr (11, [.ref (n_sz U + (n)), .ref (n_sz U + (n + 10)), .ref (n_sz U + (n + 20)), .ref (n_sz U + (n + 30)), .ref (n_sz U + (n + 122)), .ref (n_sz U + (n + 129)), .ref (n_sz U + (n + 135)), .ref (n_sz U + (n + 142)), .ref (n_sz U + (n + 143)), .ref (n_sz U + (n + 159)), .int (nI 0), .int (nI 0), .int (-1), .int (nI 0), .int (-1), .int 0]))
def nX11_35 (U : am_U) (E : nE) (a n : Nat) : nE := nset (nX11_34 U E a n) a (.inr (11, [.ref (n_sz U + (n)), .ref (n_sz U + (n + 10)), .ref (n_sz U + (n + 20)), .ref (n_sz U + (n + 30)), .ref (n_sz U + (n + 122)), .ref (n_sz U + (n + 129)), .ref (n_sz U + (n + 135)), .ref (n_sz U + (n + 142)), .ref (n_sz U + (n + 143)), .ref (n_sz U + (n + 159)), .int (nI 0), .int (nI 0), .int (-1), .int (nI 0), .int (-1), .int (-1)]))
def nX11 (U : am_U) (E : nE) (a n : Nat) : nE := (nX11_35 U E a n)
def n_rX11 : Room := { frames := 4, cells := 160, slots := 1809, locals := 73 }
theorem nX11_old {U : am_U} {E : nE} {a n q : Nat} (h1 : q ≠ a) (h2 : q < n) : nX11 U E a n q = E q := by
  unfold nX11
  unfold nX11_35
  rw [nset_n (by omega)]
  unfold nX11_34
  rw [nset_n (by omega)]
  unfold nX11_33
  rw [nset_n (by omega)]
  unfold nX11_32
  rw [nset_n (by omega)]
  unfold nX11_31
  rw [nset_n (by omega)]
  unfold nX11_30
  rw [nset_n (by omega)]
  unfold nX11_29
  rw [nset_n (by omega)]
  unfold nX11_28
  rw [nset_n (by omega)]
  unfold nX11_27
  rw [nset_n (by omega)]
  unfold nX11_26
  rw [nX3_old (by omega) (by omega)]
  unfold nX11_25
  rw [nset_n (by omega)]
  unfold nX11_24
  rw [nset_n (by omega)]
  unfold nX11_23
  rw [nX2_old (by omega) (by omega)]
  unfold nX11_22
  rw [nset_n (by omega)]
  unfold nX11_21
  rw [nset_n (by omega)]
  unfold nX11_20
  rw [nX10_old (by omega) (by omega)]
  unfold nX11_19
  rw [nset_n (by omega)]
  unfold nX11_18
  rw [nset_n (by omega)]
  unfold nX11_17
  rw [nX7_old (by omega) (by omega)]
  unfold nX11_16
  rw [nset_n (by omega)]
  unfold nX11_15
  rw [nset_n (by omega)]
  unfold nX11_14
  rw [nX9_old (by omega) (by omega)]
  unfold nX11_13
  rw [nset_n (by omega)]
  unfold nX11_12
  rw [nset_n (by omega)]
  unfold nX11_11
  rw [nX4_old (by omega) (by omega)]
  unfold nX11_10
  rw [nset_n (by omega)]
  unfold nX11_9
  rw [nset_n (by omega)]
  unfold nX11_8
  rw [nX8_old (by omega) (by omega)]
  unfold nX11_7
  rw [nset_n (by omega)]
  unfold nX11_6
  rw [nset_n (by omega)]
  unfold nX11_5
  rw [nX8_old (by omega) (by omega)]
  unfold nX11_4
  rw [nset_n (by omega)]
  unfold nX11_3
  rw [nset_n (by omega)]
  unfold nX11_2
  rw [nX8_old (by omega) (by omega)]
  unfold nX11_1
  rw [nset_n (by omega)]
theorem nX11_at {U : am_U} {E : nE} {a n : Nat} (h : a < n) : nX11 U E a n a = some (.inr (11, [.ref (n_sz U + (n)), .ref (n_sz U + (n + 10)), .ref (n_sz U + (n + 20)), .ref (n_sz U + (n + 30)), .ref (n_sz U + (n + 122)), .ref (n_sz U + (n + 129)), .ref (n_sz U + (n + 135)), .ref (n_sz U + (n + 142)), .ref (n_sz U + (n + 143)), .ref (n_sz U + (n + 159)), .int (nI 0), .int (nI 0), .int (-1), .int (nI 0), .int (-1), .int (-1)])) := by
  unfold nX11
  unfold nX11_35
  exact nset_e
set_option maxRecDepth 100000 in
set_option maxHeartbeats 8000000 in
theorem kX11_init (U : am_U) (l : Launch) (B : am_base xx U) (hfl : l.stackTraces = false) (O : n_O U) {E : nE} {a n : Nat} (hE : E a = some (.inr (11, [.null, .null, .null, .null, .null, .null, .null, .null, .null, .null, .int 0, .int 0, .int 0, .int 0, .int 0, .int 0]))) (ha : a < n) : n_Ct U l yX11_init cX11_init 1 n_rX11 a E n (nX11 U E a n) (n + 160) := by
  refine n_Ct.of B hfl (by decide) (Nat.le_of_ble_eq_true rfl) rfl ?_
  intro G hgl hgR hr ok hin
  have ok : am_ok xx U G RX11 cX11_init 1 := ok
  show NW U G 1 0 0 E (n) _ 0 [some (.ref (n_sz U + a))] []
  refine NW.run ok eX11_init 0 1 (show am_run 1 ((tX11_init.drop 0).take 1) 0 [some (.ref (n_sz U + a))] [] = some (1, [some (.ref (n_sz U + a))], [.ref (n_sz U + a)]) from rfl) ?_
  refine NW.objInit ok (x_in 75 (by decide +kernel)) n_w2 n_w3 (by rw [hgR]; exact ⟨Nat.le_of_ble_eq_true rfl, Nat.le_of_ble_eq_true rfl⟩) (am_at eX11_init 1 rfl) ?_
  refine NW.run ok eX11_init 2 1 (show am_run 1 ((tX11_init.drop 2).take 1) 4 [some (.ref (n_sz U + a))] [] = some (5, [some (.ref (n_sz U + a))], [.ref (n_sz U + a)]) from rfl) ?_
  refine NW.new (fs := [.null, .null, .null, .int 0, .int 0, .int 0, .int 0, .int 0, .int 0]) tyX8 ok in_X8 tyX8_ok (x_in 78 (by decide +kernel)) (x_in 79 (by decide +kernel)) (x_in 41 (by decide +kernel)) (ci := 8) rfl n_fsX8 (by rw [hgR]; exact ⟨Nat.le_of_ble_eq_true rfl, Nat.le_of_ble_eq_true rfl⟩) (am_at eX11_init 3 rfl) ?_
  show NW U G 1 1 9 (nX11_1 U E a n) (n + 1) _ 8 [some (.ref (n_sz U + a))] [.ref (n_sz U + (n)), .ref (n_sz U + a)]
  refine NW.run ok eX11_init 4 1 (show am_run 1 ((tX11_init.drop 4).take 1) 8 [some (.ref (n_sz U + a))] [.ref (n_sz U + (n)), .ref (n_sz U + a)] = some (9, [some (.ref (n_sz U + a))], [.ref (n_sz U + (n)), .ref (n_sz U + (n)), .ref (n_sz U + a)]) from rfl) ?_
  refine NW.call (rm := n_rX8) (host := some "DandelionBroadcast") ok (by rw [hgl]; exact kX8_init U l B hfl O nset_e (by omega)) ⟨(y_inN 80 (by decide +kernel)), (x_in 81 (by decide +kernel)), (x_in 41 (by decide +kernel)), (x_in 82 (by decide +kernel)), rfl, by decide +kernel, by decide +kernel, by decide +kernel⟩ (Nat.le_of_ble_eq_true rfl) (by rw [hgR]; exact ⟨Nat.le_of_ble_eq_true rfl, Nat.le_of_ble_eq_true rfl⟩) (by rw [hgR]; exact ⟨Nat.le_of_ble_eq_true rfl, Nat.le_of_ble_eq_true rfl⟩) (am_at eX11_init 5 rfl) ?_
  show NW U G 1 10 123 (nX11_2 U E a n) (n + 10) _ 12 [some (.ref (n_sz U + a))] [.ref (n_sz U + (n)), .ref (n_sz U + a)]
  refine NW.put (fs := [.null, .null, .null, .null, .null, .null, .null, .null, .null, .null, .int 0, .int 0, .int 0, .int 0, .int 0, .int 0]) (ci := 11) (k := 0) (ty0 := tyX11) ok ⟨rfl, in_X11, by decide, (x_in 384 (by decide +kernel)), tyX11_ok, nmX11⟩ (Or.inr ⟨rfl, hin, rfl⟩) rfl rfl ((nX8_old (by omega) (by omega)).trans ((nset_n (by omega)).trans hE)) (Nat.le_of_ble_eq_true rfl) (am_at eX11_init 6 rfl) ?_
  show NW U G 1 10 123 (nX11_3 U E a n) (n + 10) _ 15 [some (.ref (n_sz U + a))] []
  refine NW.run ok eX11_init 7 1 (show am_run 1 ((tX11_init.drop 7).take 1) 15 [some (.ref (n_sz U + a))] [] = some (16, [some (.ref (n_sz U + a))], [.ref (n_sz U + a)]) from rfl) ?_
  refine NW.new (fs := [.null, .null, .null, .int 0, .int 0, .int 0, .int 0, .int 0, .int 0]) tyX8 ok in_X8 tyX8_ok (x_in 78 (by decide +kernel)) (x_in 79 (by decide +kernel)) (x_in 41 (by decide +kernel)) (ci := 8) rfl n_fsX8 (by rw [hgR]; exact ⟨Nat.le_of_ble_eq_true rfl, Nat.le_of_ble_eq_true rfl⟩) (am_at eX11_init 8 rfl) ?_
  show NW U G 1 11 132 (nX11_4 U E a n) (n + 11) _ 19 [some (.ref (n_sz U + a))] [.ref (n_sz U + (n + 10)), .ref (n_sz U + a)]
  refine NW.run ok eX11_init 9 1 (show am_run 1 ((tX11_init.drop 9).take 1) 19 [some (.ref (n_sz U + a))] [.ref (n_sz U + (n + 10)), .ref (n_sz U + a)] = some (20, [some (.ref (n_sz U + a))], [.ref (n_sz U + (n + 10)), .ref (n_sz U + (n + 10)), .ref (n_sz U + a)]) from rfl) ?_
  refine NW.call (rm := n_rX8) (host := some "DandelionBroadcast") ok (by rw [hgl]; exact kX8_init U l B hfl O nset_e (by omega)) ⟨(y_inN 80 (by decide +kernel)), (x_in 81 (by decide +kernel)), (x_in 41 (by decide +kernel)), (x_in 82 (by decide +kernel)), rfl, by decide +kernel, by decide +kernel, by decide +kernel⟩ (Nat.le_of_ble_eq_true rfl) (by rw [hgR]; exact ⟨Nat.le_of_ble_eq_true rfl, Nat.le_of_ble_eq_true rfl⟩) (by rw [hgR]; exact ⟨Nat.le_of_ble_eq_true rfl, Nat.le_of_ble_eq_true rfl⟩) (am_at eX11_init 10 rfl) ?_
  show NW U G 1 20 246 (nX11_5 U E a n) (n + 20) _ 23 [some (.ref (n_sz U + a))] [.ref (n_sz U + (n + 10)), .ref (n_sz U + a)]
  refine NW.put (fs := [.ref (n_sz U + (n)), .null, .null, .null, .null, .null, .null, .null, .null, .null, .int 0, .int 0, .int 0, .int 0, .int 0, .int 0]) (ci := 11) (k := 1) (ty0 := tyX11) ok ⟨rfl, in_X11, by decide, (x_in 385 (by decide +kernel)), tyX11_ok, nmX11⟩ (Or.inr ⟨rfl, hin, rfl⟩) rfl rfl ((nX8_old (by omega) (by omega)).trans ((nset_n (by omega)).trans nset_e)) (Nat.le_of_ble_eq_true rfl) (am_at eX11_init 11 rfl) ?_
  show NW U G 1 20 246 (nX11_6 U E a n) (n + 20) _ 26 [some (.ref (n_sz U + a))] []
  refine NW.run ok eX11_init 12 1 (show am_run 1 ((tX11_init.drop 12).take 1) 26 [some (.ref (n_sz U + a))] [] = some (27, [some (.ref (n_sz U + a))], [.ref (n_sz U + a)]) from rfl) ?_
  refine NW.new (fs := [.null, .null, .null, .int 0, .int 0, .int 0, .int 0, .int 0, .int 0]) tyX8 ok in_X8 tyX8_ok (x_in 78 (by decide +kernel)) (x_in 79 (by decide +kernel)) (x_in 41 (by decide +kernel)) (ci := 8) rfl n_fsX8 (by rw [hgR]; exact ⟨Nat.le_of_ble_eq_true rfl, Nat.le_of_ble_eq_true rfl⟩) (am_at eX11_init 13 rfl) ?_
  show NW U G 1 21 255 (nX11_7 U E a n) (n + 21) _ 30 [some (.ref (n_sz U + a))] [.ref (n_sz U + (n + 20)), .ref (n_sz U + a)]
  refine NW.run ok eX11_init 14 1 (show am_run 1 ((tX11_init.drop 14).take 1) 30 [some (.ref (n_sz U + a))] [.ref (n_sz U + (n + 20)), .ref (n_sz U + a)] = some (31, [some (.ref (n_sz U + a))], [.ref (n_sz U + (n + 20)), .ref (n_sz U + (n + 20)), .ref (n_sz U + a)]) from rfl) ?_
  refine NW.call (rm := n_rX8) (host := some "DandelionBroadcast") ok (by rw [hgl]; exact kX8_init U l B hfl O nset_e (by omega)) ⟨(y_inN 80 (by decide +kernel)), (x_in 81 (by decide +kernel)), (x_in 41 (by decide +kernel)), (x_in 82 (by decide +kernel)), rfl, by decide +kernel, by decide +kernel, by decide +kernel⟩ (Nat.le_of_ble_eq_true rfl) (by rw [hgR]; exact ⟨Nat.le_of_ble_eq_true rfl, Nat.le_of_ble_eq_true rfl⟩) (by rw [hgR]; exact ⟨Nat.le_of_ble_eq_true rfl, Nat.le_of_ble_eq_true rfl⟩) (am_at eX11_init 15 rfl) ?_
  show NW U G 1 30 369 (nX11_8 U E a n) (n + 30) _ 34 [some (.ref (n_sz U + a))] [.ref (n_sz U + (n + 20)), .ref (n_sz U + a)]
  refine NW.put (fs := [.ref (n_sz U + (n)), .ref (n_sz U + (n + 10)), .null, .null, .null, .null, .null, .null, .null, .null, .int 0, .int 0, .int 0, .int 0, .int 0, .int 0]) (ci := 11) (k := 2) (ty0 := tyX11) ok ⟨rfl, in_X11, by decide, (x_in 386 (by decide +kernel)), tyX11_ok, nmX11⟩ (Or.inr ⟨rfl, hin, rfl⟩) rfl rfl ((nX8_old (by omega) (by omega)).trans ((nset_n (by omega)).trans nset_e)) (Nat.le_of_ble_eq_true rfl) (am_at eX11_init 16 rfl) ?_
  show NW U G 1 30 369 (nX11_9 U E a n) (n + 30) _ 37 [some (.ref (n_sz U + a))] []
  refine NW.run ok eX11_init 17 1 (show am_run 1 ((tX11_init.drop 17).take 1) 37 [some (.ref (n_sz U + a))] [] = some (38, [some (.ref (n_sz U + a))], [.ref (n_sz U + a)]) from rfl) ?_
  refine NW.new (fs := [.null, .int 0, .int 0]) tyX4 ok in_X4 tyX4_ok (x_in 246 (by decide +kernel)) (x_in 247 (by decide +kernel)) (x_in 44 (by decide +kernel)) (ci := 5) rfl n_fsX4 (by rw [hgR]; exact ⟨Nat.le_of_ble_eq_true rfl, Nat.le_of_ble_eq_true rfl⟩) (am_at eX11_init 18 rfl) ?_
  show NW U G 1 31 372 (nX11_10 U E a n) (n + 31) _ 41 [some (.ref (n_sz U + a))] [.ref (n_sz U + (n + 30)), .ref (n_sz U + a)]
  refine NW.run ok eX11_init 19 1 (show am_run 1 ((tX11_init.drop 19).take 1) 41 [some (.ref (n_sz U + a))] [.ref (n_sz U + (n + 30)), .ref (n_sz U + a)] = some (42, [some (.ref (n_sz U + a))], [.ref (n_sz U + (n + 30)), .ref (n_sz U + (n + 30)), .ref (n_sz U + a)]) from rfl) ?_
  refine NW.call (rm := n_rX4) (host := none) ok (by rw [hgl]; exact kX4_init U l B hfl O nset_e (by omega)) ⟨(x_in 248 (by decide +kernel)), (x_in 249 (by decide +kernel)), (x_in 44 (by decide +kernel)), (x_in 250 (by decide +kernel)), rfl, by decide +kernel, by decide +kernel, by decide +kernel⟩ (Nat.le_of_ble_eq_true rfl) (by rw [hgR]; exact ⟨Nat.le_of_ble_eq_true rfl, Nat.le_of_ble_eq_true rfl⟩) (by rw [hgR]; exact ⟨Nat.le_of_ble_eq_true rfl, Nat.le_of_ble_eq_true rfl⟩) (am_at eX11_init 20 rfl) ?_
  show NW U G 1 122 1488 (nX11_11 U E a n) (n + 122) _ 45 [some (.ref (n_sz U + a))] [.ref (n_sz U + (n + 30)), .ref (n_sz U + a)]
  refine NW.put (fs := [.ref (n_sz U + (n)), .ref (n_sz U + (n + 10)), .ref (n_sz U + (n + 20)), .null, .null, .null, .null, .null, .null, .null, .int 0, .int 0, .int 0, .int 0, .int 0, .int 0]) (ci := 11) (k := 3) (ty0 := tyX11) ok ⟨rfl, in_X11, by decide, (x_in 387 (by decide +kernel)), tyX11_ok, nmX11⟩ (Or.inr ⟨rfl, hin, rfl⟩) rfl rfl ((nX4_old (by omega) (by omega)).trans ((nset_n (by omega)).trans nset_e)) (Nat.le_of_ble_eq_true rfl) (am_at eX11_init 21 rfl) ?_
  show NW U G 1 122 1488 (nX11_12 U E a n) (n + 122) _ 48 [some (.ref (n_sz U + a))] []
  refine NW.run ok eX11_init 22 1 (show am_run 1 ((tX11_init.drop 22).take 1) 48 [some (.ref (n_sz U + a))] [] = some (49, [some (.ref (n_sz U + a))], [.ref (n_sz U + a)]) from rfl) ?_
  refine NW.new (fs := [.null, .null, .null, .null, .null, .null, .int 0]) tyX9 ok in_X9 tyX9_ok (x_in 266 (by decide +kernel)) (x_in 267 (by decide +kernel)) (x_in 45 (by decide +kernel)) (ci := 9) rfl n_fsX9 (by rw [hgR]; exact ⟨Nat.le_of_ble_eq_true rfl, Nat.le_of_ble_eq_true rfl⟩) (am_at eX11_init 23 rfl) ?_
  show NW U G 1 123 1495 (nX11_13 U E a n) (n + 123) _ 52 [some (.ref (n_sz U + a))] [.ref (n_sz U + (n + 122)), .ref (n_sz U + a)]
  refine NW.run ok eX11_init 24 1 (show am_run 1 ((tX11_init.drop 24).take 1) 52 [some (.ref (n_sz U + a))] [.ref (n_sz U + (n + 122)), .ref (n_sz U + a)] = some (53, [some (.ref (n_sz U + a))], [.ref (n_sz U + (n + 122)), .ref (n_sz U + (n + 122)), .ref (n_sz U + a)]) from rfl) ?_
  refine NW.call (rm := n_rX9) (host := some "DandelionBroadcast") ok (by rw [hgl]; exact kX9_init U l B hfl O nset_e (by omega)) ⟨(y_inN 268 (by decide +kernel)), (x_in 269 (by decide +kernel)), (x_in 45 (by decide +kernel)), (x_in 270 (by decide +kernel)), rfl, by decide +kernel, by decide +kernel, by decide +kernel⟩ (Nat.le_of_ble_eq_true rfl) (by rw [hgR]; exact ⟨Nat.le_of_ble_eq_true rfl, Nat.le_of_ble_eq_true rfl⟩) (by rw [hgR]; exact ⟨Nat.le_of_ble_eq_true rfl, Nat.le_of_ble_eq_true rfl⟩) (am_at eX11_init 25 rfl) ?_
  show NW U G 1 129 1556 (nX11_14 U E a n) (n + 129) _ 56 [some (.ref (n_sz U + a))] [.ref (n_sz U + (n + 122)), .ref (n_sz U + a)]
  refine NW.put (fs := [.ref (n_sz U + (n)), .ref (n_sz U + (n + 10)), .ref (n_sz U + (n + 20)), .ref (n_sz U + (n + 30)), .null, .null, .null, .null, .null, .null, .int 0, .int 0, .int 0, .int 0, .int 0, .int 0]) (ci := 11) (k := 4) (ty0 := tyX11) ok ⟨rfl, in_X11, by decide, (x_in 388 (by decide +kernel)), tyX11_ok, nmX11⟩ (Or.inr ⟨rfl, hin, rfl⟩) rfl rfl ((nX9_old (by omega) (by omega)).trans ((nset_n (by omega)).trans nset_e)) (Nat.le_of_ble_eq_true rfl) (am_at eX11_init 26 rfl) ?_
  show NW U G 1 129 1556 (nX11_15 U E a n) (n + 129) _ 59 [some (.ref (n_sz U + a))] []
  refine NW.run ok eX11_init 27 1 (show am_run 1 ((tX11_init.drop 27).take 1) 59 [some (.ref (n_sz U + a))] [] = some (60, [some (.ref (n_sz U + a))], [.ref (n_sz U + a)]) from rfl) ?_
  refine NW.new (fs := [.null, .null, .null, .null, .null]) tyX7 ok in_X7 tyX7_ok (x_in 294 (by decide +kernel)) (x_in 295 (by decide +kernel)) (x_in 46 (by decide +kernel)) (ci := 7) rfl n_fsX7 (by rw [hgR]; exact ⟨Nat.le_of_ble_eq_true rfl, Nat.le_of_ble_eq_true rfl⟩) (am_at eX11_init 28 rfl) ?_
  show NW U G 1 130 1561 (nX11_16 U E a n) (n + 130) _ 63 [some (.ref (n_sz U + a))] [.ref (n_sz U + (n + 129)), .ref (n_sz U + a)]
  refine NW.run ok eX11_init 29 1 (show am_run 1 ((tX11_init.drop 29).take 1) 63 [some (.ref (n_sz U + a))] [.ref (n_sz U + (n + 129)), .ref (n_sz U + a)] = some (64, [some (.ref (n_sz U + a))], [.ref (n_sz U + (n + 129)), .ref (n_sz U + (n + 129)), .ref (n_sz U + a)]) from rfl) ?_
  refine NW.call (rm := n_rX7) (host := some "DandelionBroadcast") ok (by rw [hgl]; exact kX7_init U l B hfl O nset_e (by omega)) ⟨(y_inN 296 (by decide +kernel)), (x_in 297 (by decide +kernel)), (x_in 46 (by decide +kernel)), (x_in 298 (by decide +kernel)), rfl, by decide +kernel, by decide +kernel, by decide +kernel⟩ (Nat.le_of_ble_eq_true rfl) (by rw [hgR]; exact ⟨Nat.le_of_ble_eq_true rfl, Nat.le_of_ble_eq_true rfl⟩) (by rw [hgR]; exact ⟨Nat.le_of_ble_eq_true rfl, Nat.le_of_ble_eq_true rfl⟩) (am_at eX11_init 30 rfl) ?_
  show NW U G 1 135 1606 (nX11_17 U E a n) (n + 135) _ 67 [some (.ref (n_sz U + a))] [.ref (n_sz U + (n + 129)), .ref (n_sz U + a)]
  refine NW.put (fs := [.ref (n_sz U + (n)), .ref (n_sz U + (n + 10)), .ref (n_sz U + (n + 20)), .ref (n_sz U + (n + 30)), .ref (n_sz U + (n + 122)), .null, .null, .null, .null, .null, .int 0, .int 0, .int 0, .int 0, .int 0, .int 0]) (ci := 11) (k := 5) (ty0 := tyX11) ok ⟨rfl, in_X11, by decide, (x_in 389 (by decide +kernel)), tyX11_ok, nmX11⟩ (Or.inr ⟨rfl, hin, rfl⟩) rfl rfl ((nX7_old (by omega) (by omega)).trans ((nset_n (by omega)).trans nset_e)) (Nat.le_of_ble_eq_true rfl) (am_at eX11_init 31 rfl) ?_
  show NW U G 1 135 1606 (nX11_18 U E a n) (n + 135) _ 70 [some (.ref (n_sz U + a))] []
  refine NW.run ok eX11_init 32 1 (show am_run 1 ((tX11_init.drop 32).take 1) 70 [some (.ref (n_sz U + a))] [] = some (71, [some (.ref (n_sz U + a))], [.ref (n_sz U + a)]) from rfl) ?_
  refine NW.new (fs := [.null]) tyX10 ok in_X10 tyX10_ok (x_in 323 (by decide +kernel)) (x_in 324 (by decide +kernel)) (x_in 47 (by decide +kernel)) (ci := 10) rfl n_fsX10 (by rw [hgR]; exact ⟨Nat.le_of_ble_eq_true rfl, Nat.le_of_ble_eq_true rfl⟩) (am_at eX11_init 33 rfl) ?_
  show NW U G 1 136 1607 (nX11_19 U E a n) (n + 136) _ 74 [some (.ref (n_sz U + a))] [.ref (n_sz U + (n + 135)), .ref (n_sz U + a)]
  refine NW.run ok eX11_init 34 1 (show am_run 1 ((tX11_init.drop 34).take 1) 74 [some (.ref (n_sz U + a))] [.ref (n_sz U + (n + 135)), .ref (n_sz U + a)] = some (75, [some (.ref (n_sz U + a))], [.ref (n_sz U + (n + 135)), .ref (n_sz U + (n + 135)), .ref (n_sz U + a)]) from rfl) ?_
  refine NW.call (rm := n_rX10) (host := some "DandelionBroadcast") ok (by rw [hgl]; exact kX10_init U l B hfl O nset_e (by omega)) ⟨(y_inN 325 (by decide +kernel)), (x_in 326 (by decide +kernel)), (x_in 47 (by decide +kernel)), (x_in 327 (by decide +kernel)), rfl, by decide +kernel, by decide +kernel, by decide +kernel⟩ (Nat.le_of_ble_eq_true rfl) (by rw [hgR]; exact ⟨Nat.le_of_ble_eq_true rfl, Nat.le_of_ble_eq_true rfl⟩) (by rw [hgR]; exact ⟨Nat.le_of_ble_eq_true rfl, Nat.le_of_ble_eq_true rfl⟩) (am_at eX11_init 35 rfl) ?_
  show NW U G 1 142 1657 (nX11_20 U E a n) (n + 142) _ 78 [some (.ref (n_sz U + a))] [.ref (n_sz U + (n + 135)), .ref (n_sz U + a)]
  refine NW.put (fs := [.ref (n_sz U + (n)), .ref (n_sz U + (n + 10)), .ref (n_sz U + (n + 20)), .ref (n_sz U + (n + 30)), .ref (n_sz U + (n + 122)), .ref (n_sz U + (n + 129)), .null, .null, .null, .null, .int 0, .int 0, .int 0, .int 0, .int 0, .int 0]) (ci := 11) (k := 6) (ty0 := tyX11) ok ⟨rfl, in_X11, by decide, (x_in 390 (by decide +kernel)), tyX11_ok, nmX11⟩ (Or.inr ⟨rfl, hin, rfl⟩) rfl rfl ((nX10_old (by omega) (by omega)).trans ((nset_n (by omega)).trans nset_e)) (Nat.le_of_ble_eq_true rfl) (am_at eX11_init 36 rfl) ?_
  show NW U G 1 142 1657 (nX11_21 U E a n) (n + 142) _ 81 [some (.ref (n_sz U + a))] []
  refine NW.run ok eX11_init 37 1 (show am_run 1 ((tX11_init.drop 37).take 1) 81 [some (.ref (n_sz U + a))] [] = some (82, [some (.ref (n_sz U + a))], [.ref (n_sz U + a)]) from rfl) ?_
  refine NW.new (fs := [.int 0, .int 0]) tyX2 ok in_X2 tyX2_ok (x_in 335 (by decide +kernel)) (x_in 336 (by decide +kernel)) (x_in 48 (by decide +kernel)) (ci := 3) rfl n_fsX2 (by rw [hgR]; exact ⟨Nat.le_of_ble_eq_true rfl, Nat.le_of_ble_eq_true rfl⟩) (am_at eX11_init 38 rfl) ?_
  show NW U G 1 143 1659 (nX11_22 U E a n) (n + 143) _ 85 [some (.ref (n_sz U + a))] [.ref (n_sz U + (n + 142)), .ref (n_sz U + a)]
  refine NW.run ok eX11_init 39 1 (show am_run 1 ((tX11_init.drop 39).take 1) 85 [some (.ref (n_sz U + a))] [.ref (n_sz U + (n + 142)), .ref (n_sz U + a)] = some (86, [some (.ref (n_sz U + a))], [.ref (n_sz U + (n + 142)), .ref (n_sz U + (n + 142)), .ref (n_sz U + a)]) from rfl) ?_
  refine NW.call (rm := n_rX2) (host := some "DandelionBroadcast") ok (by rw [hgl]; exact kX2_init U l B hfl O nset_e (by omega)) ⟨(y_inN 337 (by decide +kernel)), (x_in 338 (by decide +kernel)), (x_in 48 (by decide +kernel)), (x_in 339 (by decide +kernel)), rfl, by decide +kernel, by decide +kernel, by decide +kernel⟩ (Nat.le_of_ble_eq_true rfl) (by rw [hgR]; exact ⟨Nat.le_of_ble_eq_true rfl, Nat.le_of_ble_eq_true rfl⟩) (by rw [hgR]; exact ⟨Nat.le_of_ble_eq_true rfl, Nat.le_of_ble_eq_true rfl⟩) (am_at eX11_init 40 rfl) ?_
  show NW U G 1 143 1659 (nX11_23 U E a n) (n + 143) _ 89 [some (.ref (n_sz U + a))] [.ref (n_sz U + (n + 142)), .ref (n_sz U + a)]
  refine NW.put (fs := [.ref (n_sz U + (n)), .ref (n_sz U + (n + 10)), .ref (n_sz U + (n + 20)), .ref (n_sz U + (n + 30)), .ref (n_sz U + (n + 122)), .ref (n_sz U + (n + 129)), .ref (n_sz U + (n + 135)), .null, .null, .null, .int 0, .int 0, .int 0, .int 0, .int 0, .int 0]) (ci := 11) (k := 7) (ty0 := tyX11) ok ⟨rfl, in_X11, by decide, (x_in 391 (by decide +kernel)), tyX11_ok, nmX11⟩ (Or.inr ⟨rfl, hin, rfl⟩) rfl rfl ((nX2_old (by omega) (by omega)).trans ((nset_n (by omega)).trans nset_e)) (Nat.le_of_ble_eq_true rfl) (am_at eX11_init 41 rfl) ?_
  show NW U G 1 143 1659 (nX11_24 U E a n) (n + 143) _ 92 [some (.ref (n_sz U + a))] []
  refine NW.run ok eX11_init 42 1 (show am_run 1 ((tX11_init.drop 42).take 1) 92 [some (.ref (n_sz U + a))] [] = some (93, [some (.ref (n_sz U + a))], [.ref (n_sz U + a)]) from rfl) ?_
  refine NW.new (fs := [.null, .null, .int 0, .int 0, .null, .int 0]) tyX3 ok in_X3 tyX3_ok (x_in 350 (by decide +kernel)) (x_in 351 (by decide +kernel)) (x_in 49 (by decide +kernel)) (ci := 4) rfl n_fsX3 (by rw [hgR]; exact ⟨Nat.le_of_ble_eq_true rfl, Nat.le_of_ble_eq_true rfl⟩) (am_at eX11_init 43 rfl) ?_
  show NW U G 1 144 1665 (nX11_25 U E a n) (n + 144) _ 96 [some (.ref (n_sz U + a))] [.ref (n_sz U + (n + 143)), .ref (n_sz U + a)]
  refine NW.run ok eX11_init 44 1 (show am_run 1 ((tX11_init.drop 44).take 1) 96 [some (.ref (n_sz U + a))] [.ref (n_sz U + (n + 143)), .ref (n_sz U + a)] = some (97, [some (.ref (n_sz U + a))], [.ref (n_sz U + (n + 143)), .ref (n_sz U + (n + 143)), .ref (n_sz U + a)]) from rfl) ?_
  refine NW.call (rm := n_rX3) (host := some "DandelionBroadcast") ok (by rw [hgl]; exact kX3_init U l B hfl O nset_e (by omega)) ⟨(y_inN 352 (by decide +kernel)), (x_in 353 (by decide +kernel)), (x_in 49 (by decide +kernel)), (x_in 354 (by decide +kernel)), rfl, by decide +kernel, by decide +kernel, by decide +kernel⟩ (Nat.le_of_ble_eq_true rfl) (by rw [hgR]; exact ⟨Nat.le_of_ble_eq_true rfl, Nat.le_of_ble_eq_true rfl⟩) (by rw [hgR]; exact ⟨Nat.le_of_ble_eq_true rfl, Nat.le_of_ble_eq_true rfl⟩) (am_at eX11_init 45 rfl) ?_
  show NW U G 1 159 1797 (nX11_26 U E a n) (n + 159) _ 100 [some (.ref (n_sz U + a))] [.ref (n_sz U + (n + 143)), .ref (n_sz U + a)]
  refine NW.put (fs := [.ref (n_sz U + (n)), .ref (n_sz U + (n + 10)), .ref (n_sz U + (n + 20)), .ref (n_sz U + (n + 30)), .ref (n_sz U + (n + 122)), .ref (n_sz U + (n + 129)), .ref (n_sz U + (n + 135)), .ref (n_sz U + (n + 142)), .null, .null, .int 0, .int 0, .int 0, .int 0, .int 0, .int 0]) (ci := 11) (k := 8) (ty0 := tyX11) ok ⟨rfl, in_X11, by decide, (x_in 392 (by decide +kernel)), tyX11_ok, nmX11⟩ (Or.inr ⟨rfl, hin, rfl⟩) rfl rfl ((nX3_old (by omega) (by omega)).trans ((nset_n (by omega)).trans nset_e)) (Nat.le_of_ble_eq_true rfl) (am_at eX11_init 46 rfl) ?_
  show NW U G 1 159 1797 (nX11_27 U E a n) (n + 159) _ 103 [some (.ref (n_sz U + a))] []
  refine NW.run ok eX11_init 47 2 (show am_run 1 ((tX11_init.drop 47).take 2) 103 [some (.ref (n_sz U + a))] [] = some (106, [some (.ref (n_sz U + a))], [.int (nI 12), .ref (n_sz U + a)]) from rfl) ?_
  refine NW.newa (ty := .char) (N := 12) (t := 1) (a0 := (12, .inl (fun _ => 0))) ok (x_in 383 (by decide +kernel)) rfl (by decide) rfl (fun _ _ h => h) (fun _ => rfl) (by decide) (by decide) (by decide) (by rw [hgR]; exact ⟨Nat.le_of_ble_eq_true rfl, Nat.le_of_ble_eq_true rfl⟩) (am_at eX11_init 49 rfl) ?_
  show NW U G 1 160 1809 (nX11_28 U E a n) (n + 160) _ 108 [some (.ref (n_sz U + a))] [.ref (n_sz U + (n + 159)), .ref (n_sz U + a)]
  refine NW.put (fs := [.ref (n_sz U + (n)), .ref (n_sz U + (n + 10)), .ref (n_sz U + (n + 20)), .ref (n_sz U + (n + 30)), .ref (n_sz U + (n + 122)), .ref (n_sz U + (n + 129)), .ref (n_sz U + (n + 135)), .ref (n_sz U + (n + 142)), .ref (n_sz U + (n + 143)), .null, .int 0, .int 0, .int 0, .int 0, .int 0, .int 0]) (ci := 11) (k := 9) (ty0 := tyX11) ok ⟨rfl, in_X11, by decide, (x_in 393 (by decide +kernel)), tyX11_ok, nmX11⟩ (Or.inr ⟨rfl, hin, rfl⟩) rfl rfl ((nset_n (by omega)).trans nset_e) (Nat.le_of_ble_eq_true rfl) (am_at eX11_init 50 rfl) ?_
  show NW U G 1 160 1809 (nX11_29 U E a n) (n + 160) _ 111 [some (.ref (n_sz U + a))] []
  refine NW.run ok eX11_init 51 2 (show am_run 1 ((tX11_init.drop 51).take 2) 111 [some (.ref (n_sz U + a))] [] = some (113, [some (.ref (n_sz U + a))], [.int (nI 0), .ref (n_sz U + a)]) from rfl) ?_
  refine NW.put (fs := [.ref (n_sz U + (n)), .ref (n_sz U + (n + 10)), .ref (n_sz U + (n + 20)), .ref (n_sz U + (n + 30)), .ref (n_sz U + (n + 122)), .ref (n_sz U + (n + 129)), .ref (n_sz U + (n + 135)), .ref (n_sz U + (n + 142)), .ref (n_sz U + (n + 143)), .ref (n_sz U + (n + 159)), .int 0, .int 0, .int 0, .int 0, .int 0, .int 0]) (ci := 11) (k := 10) (ty0 := tyX11) ok ⟨rfl, in_X11, by decide, (x_in 394 (by decide +kernel)), tyX11_ok, nmX11⟩ (Or.inl rfl) rfl rfl nset_e (Nat.le_of_ble_eq_true rfl) (am_at eX11_init 53 rfl) ?_
  show NW U G 1 160 1809 (nX11_30 U E a n) (n + 160) _ 116 [some (.ref (n_sz U + a))] []
  refine NW.run ok eX11_init 54 2 (show am_run 1 ((tX11_init.drop 54).take 2) 116 [some (.ref (n_sz U + a))] [] = some (118, [some (.ref (n_sz U + a))], [.int (nI 0), .ref (n_sz U + a)]) from rfl) ?_
  refine NW.put (fs := [.ref (n_sz U + (n)), .ref (n_sz U + (n + 10)), .ref (n_sz U + (n + 20)), .ref (n_sz U + (n + 30)), .ref (n_sz U + (n + 122)), .ref (n_sz U + (n + 129)), .ref (n_sz U + (n + 135)), .ref (n_sz U + (n + 142)), .ref (n_sz U + (n + 143)), .ref (n_sz U + (n + 159)), .int (nI 0), .int 0, .int 0, .int 0, .int 0, .int 0]) (ci := 11) (k := 11) (ty0 := tyX11) ok ⟨rfl, in_X11, by decide, (x_in 395 (by decide +kernel)), tyX11_ok, nmX11⟩ (Or.inl rfl) rfl rfl nset_e (Nat.le_of_ble_eq_true rfl) (am_at eX11_init 56 rfl) ?_
  show NW U G 1 160 1809 (nX11_31 U E a n) (n + 160) _ 121 [some (.ref (n_sz U + a))] []
  refine NW.run ok eX11_init 57 2 (show am_run 1 ((tX11_init.drop 57).take 2) 121 [some (.ref (n_sz U + a))] [] = some (123, [some (.ref (n_sz U + a))], [.int (-1), .ref (n_sz U + a)]) from rfl) ?_
  refine NW.put (fs := [.ref (n_sz U + (n)), .ref (n_sz U + (n + 10)), .ref (n_sz U + (n + 20)), .ref (n_sz U + (n + 30)), .ref (n_sz U + (n + 122)), .ref (n_sz U + (n + 129)), .ref (n_sz U + (n + 135)), .ref (n_sz U + (n + 142)), .ref (n_sz U + (n + 143)), .ref (n_sz U + (n + 159)), .int (nI 0), .int (nI 0), .int 0, .int 0, .int 0, .int 0]) (ci := 11) (k := 12) (ty0 := tyX11) ok ⟨rfl, in_X11, by decide, (x_in 396 (by decide +kernel)), tyX11_ok, nmX11⟩ (Or.inl rfl) rfl rfl nset_e (Nat.le_of_ble_eq_true rfl) (am_at eX11_init 59 rfl) ?_
  show NW U G 1 160 1809 (nX11_32 U E a n) (n + 160) _ 126 [some (.ref (n_sz U + a))] []
  refine NW.run ok eX11_init 60 2 (show am_run 1 ((tX11_init.drop 60).take 2) 126 [some (.ref (n_sz U + a))] [] = some (128, [some (.ref (n_sz U + a))], [.int (nI 0), .ref (n_sz U + a)]) from rfl) ?_
  refine NW.put (fs := [.ref (n_sz U + (n)), .ref (n_sz U + (n + 10)), .ref (n_sz U + (n + 20)), .ref (n_sz U + (n + 30)), .ref (n_sz U + (n + 122)), .ref (n_sz U + (n + 129)), .ref (n_sz U + (n + 135)), .ref (n_sz U + (n + 142)), .ref (n_sz U + (n + 143)), .ref (n_sz U + (n + 159)), .int (nI 0), .int (nI 0), .int (-1), .int 0, .int 0, .int 0]) (ci := 11) (k := 13) (ty0 := tyX11) ok ⟨rfl, in_X11, by decide, (x_in 397 (by decide +kernel)), tyX11_ok, nmX11⟩ (Or.inl rfl) rfl rfl nset_e (Nat.le_of_ble_eq_true rfl) (am_at eX11_init 62 rfl) ?_
  show NW U G 1 160 1809 (nX11_33 U E a n) (n + 160) _ 131 [some (.ref (n_sz U + a))] []
  refine NW.run ok eX11_init 63 2 (show am_run 1 ((tX11_init.drop 63).take 2) 131 [some (.ref (n_sz U + a))] [] = some (133, [some (.ref (n_sz U + a))], [.int (-1), .ref (n_sz U + a)]) from rfl) ?_
  refine NW.put (fs := [.ref (n_sz U + (n)), .ref (n_sz U + (n + 10)), .ref (n_sz U + (n + 20)), .ref (n_sz U + (n + 30)), .ref (n_sz U + (n + 122)), .ref (n_sz U + (n + 129)), .ref (n_sz U + (n + 135)), .ref (n_sz U + (n + 142)), .ref (n_sz U + (n + 143)), .ref (n_sz U + (n + 159)), .int (nI 0), .int (nI 0), .int (-1), .int (nI 0), .int 0, .int 0]) (ci := 11) (k := 14) (ty0 := tyX11) ok ⟨rfl, in_X11, by decide, (x_in 398 (by decide +kernel)), tyX11_ok, nmX11⟩ (Or.inl rfl) rfl rfl nset_e (Nat.le_of_ble_eq_true rfl) (am_at eX11_init 65 rfl) ?_
  show NW U G 1 160 1809 (nX11_34 U E a n) (n + 160) _ 136 [some (.ref (n_sz U + a))] []
  refine NW.run ok eX11_init 66 2 (show am_run 1 ((tX11_init.drop 66).take 2) 136 [some (.ref (n_sz U + a))] [] = some (138, [some (.ref (n_sz U + a))], [.int (-1), .ref (n_sz U + a)]) from rfl) ?_
  refine NW.put (fs := [.ref (n_sz U + (n)), .ref (n_sz U + (n + 10)), .ref (n_sz U + (n + 20)), .ref (n_sz U + (n + 30)), .ref (n_sz U + (n + 122)), .ref (n_sz U + (n + 129)), .ref (n_sz U + (n + 135)), .ref (n_sz U + (n + 142)), .ref (n_sz U + (n + 143)), .ref (n_sz U + (n + 159)), .int (nI 0), .int (nI 0), .int (-1), .int (nI 0), .int (-1), .int 0]) (ci := 11) (k := 15) (ty0 := tyX11) ok ⟨rfl, in_X11, by decide, (x_in 399 (by decide +kernel)), tyX11_ok, nmX11⟩ (Or.inl rfl) rfl rfl nset_e (Nat.le_of_ble_eq_true rfl) (am_at eX11_init 68 rfl) ?_
  show NW U G 1 160 1809 (nX11_35 U E a n) (n + 160) _ 141 [some (.ref (n_sz U + a))] []
  exact NW.vret ok hr (Nat.le_refl _) (Nat.le_refl _) (am_at eX11_init 69 rfl)
