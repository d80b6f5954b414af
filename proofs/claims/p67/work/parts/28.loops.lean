theorem lr_X6_pathBetween_11 {i : Nat} {x1 : Int32} {x2 : Int32} {kx : Int32 → am_V → am_R} {P : am_P} (I : Nat → Int32 → am_V → Prop) (hb : ∀ (n9 : Nat) (kr : Int32 → am_V → am_R), (∀ m9, m9 < n9 → ∀ (a4_11 : Int32) (V9 : am_V), I m9 a4_11 V9 → TT (kr a4_11 V9) P) → ∀ (a4_11 : Int32) (V9 : am_V), I n9 a4_11 V9 → TT (bd_X6_pathBetween_11 i x1 x2 kx kr a4_11 V9) P) : ∀ (n9 f9 : Nat), n9 < f9 → ∀ (a4_11 : Int32) (V9 : am_V), I n9 a4_11 V9 → TT (lp_X6_pathBetween_11 i x1 x2 kx f9 a4_11 V9) P := by
  intro n9
  induction n9 using Nat.strongRecOn with
  | ind n9 ih =>
    intro f9 hf a4_11 V9 hI
    cases f9 with
    | zero => exact absurd hf (Nat.not_lt_zero _)
    | succ f9 => exact hb n9 _ (fun m9 hm a4_11 V9 hI => ih m9 hm f9 (by omega) a4_11 V9 hI) a4_11 V9 hI
theorem lr_X8_fieldsAheadOf_4 {i : Nat} {x1 : Int32} {kx : Int32 → Int32 → am_V → am_R} {P : am_P} (I : Nat → Int32 → Int32 → am_V → Prop) (hb : ∀ (n9 : Nat) (kr : Int32 → Int32 → am_V → am_R), (∀ m9, m9 < n9 → ∀ (a2_4 : Int32) (a3_4 : Int32) (V9 : am_V), I m9 a2_4 a3_4 V9 → TT (kr a2_4 a3_4 V9) P) → ∀ (a2_4 : Int32) (a3_4 : Int32) (V9 : am_V), I n9 a2_4 a3_4 V9 → TT (bd_X8_fieldsAheadOf_4 i x1 kx kr a2_4 a3_4 V9) P) : ∀ (n9 f9 : Nat), n9 < f9 → ∀ (a2_4 : Int32) (a3_4 : Int32) (V9 : am_V), I n9 a2_4 a3_4 V9 → TT (lp_X8_fieldsAheadOf_4 i x1 kx f9 a2_4 a3_4 V9) P := by
  intro n9
  induction n9 using Nat.strongRecOn with
  | ind n9 ih =>
    intro f9 hf a2_4 a3_4 V9 hI
    cases f9 with
    | zero => exact absurd hf (Nat.not_lt_zero _)
    | succ f9 => exact hb n9 _ (fun m9 hm a2_4 a3_4 V9 hI => ih m9 hm f9 (by omega) a2_4 a3_4 V9 hI) a2_4 a3_4 V9 hI
theorem lr_X8_pathsAheadOf_4 {i : Nat} {x1 : Int32} {kx : Int32 → Int32 → am_V → am_R} {P : am_P} (I : Nat → Int32 → Int32 → am_V → Prop) (hb : ∀ (n9 : Nat) (kr : Int32 → Int32 → am_V → am_R), (∀ m9, m9 < n9 → ∀ (a2_4 : Int32) (a3_4 : Int32) (V9 : am_V), I m9 a2_4 a3_4 V9 → TT (kr a2_4 a3_4 V9) P) → ∀ (a2_4 : Int32) (a3_4 : Int32) (V9 : am_V), I n9 a2_4 a3_4 V9 → TT (bd_X8_pathsAheadOf_4 i x1 kx kr a2_4 a3_4 V9) P) : ∀ (n9 f9 : Nat), n9 < f9 → ∀ (a2_4 : Int32) (a3_4 : Int32) (V9 : am_V), I n9 a2_4 a3_4 V9 → TT (lp_X8_pathsAheadOf_4 i x1 kx f9 a2_4 a3_4 V9) P := by
  intro n9
  induction n9 using Nat.strongRecOn with
  | ind n9 ih =>
    intro f9 hf a2_4 a3_4 V9 hI
    cases f9 with
    | zero => exact absurd hf (Nat.not_lt_zero _)
    | succ f9 => exact hb n9 _ (fun m9 hm a2_4 a3_4 V9 hI => ih m9 hm f9 (by omega) a2_4 a3_4 V9 hI) a2_4 a3_4 V9 hI
theorem lr_X8_totalsAgree_6 {i : Nat} {kx : Int32 → Int32 → Int32 → am_V → am_R} {P : am_P} (I : Nat → Int32 → Int32 → Int32 → am_V → Prop) (hb : ∀ (n9 : Nat) (kr : Int32 → Int32 → Int32 → am_V → am_R), (∀ m9, m9 < n9 → ∀ (a1_6 : Int32) (a2_6 : Int32) (a3_6 : Int32) (V9 : am_V), I m9 a1_6 a2_6 a3_6 V9 → TT (kr a1_6 a2_6 a3_6 V9) P) → ∀ (a1_6 : Int32) (a2_6 : Int32) (a3_6 : Int32) (V9 : am_V), I n9 a1_6 a2_6 a3_6 V9 → TT (bd_X8_totalsAgree_6 i kx kr a1_6 a2_6 a3_6 V9) P) : ∀ (n9 f9 : Nat), n9 < f9 → ∀ (a1_6 : Int32) (a2_6 : Int32) (a3_6 : Int32) (V9 : am_V), I n9 a1_6 a2_6 a3_6 V9 → TT (lp_X8_totalsAgree_6 i kx f9 a1_6 a2_6 a3_6 V9) P := by
  intro n9
  induction n9 using Nat.strongRecOn with
  | ind n9 ih =>
    intro f9 hf a1_6 a2_6 a3_6 V9 hI
    cases f9 with
    | zero => exact absurd hf (Nat.not_lt_zero _)
    | succ f9 => exact hb n9 _ (fun m9 hm a1_6 a2_6 a3_6 V9 hI => ih m9 hm f9 (by omega) a1_6 a2_6 a3_6 V9 hI) a1_6 a2_6 a3_6 V9 hI
theorem lr_X7_firstPathOut_4 {t : Nat} {i : Nat} {kx : Int32 → Int32 → am_V → am_R} {P : am_P} (I : Nat → Int32 → Int32 → am_V → Prop) (hb : ∀ (n9 : Nat) (kr : Int32 → Int32 → am_V → am_R), (∀ m9, m9 < n9 → ∀ (a2_4 : Int32) (a3_4 : Int32) (V9 : am_V), I m9 a2_4 a3_4 V9 → TT (kr a2_4 a3_4 V9) P) → ∀ (a2_4 : Int32) (a3_4 : Int32) (V9 : am_V), I n9 a2_4 a3_4 V9 → TT (bd_X7_firstPathOut_4 t i kx kr a2_4 a3_4 V9) P) : ∀ (n9 f9 : Nat), n9 < f9 → ∀ (a2_4 : Int32) (a3_4 : Int32) (V9 : am_V), I n9 a2_4 a3_4 V9 → TT (lp_X7_firstPathOut_4 t i kx f9 a2_4 a3_4 V9) P := by
  intro n9
  induction n9 using Nat.strongRecOn with
  | ind n9 ih =>
    intro f9 hf a2_4 a3_4 V9 hI
    cases f9 with
    | zero => exact absurd hf (Nat.not_lt_zero _)
    | succ f9 => exact hb n9 _ (fun m9 hm a2_4 a3_4 V9 hI => ih m9 hm f9 (by omega) a2_4 a3_4 V9 hI) a2_4 a3_4 V9 hI
theorem lr_X7_grow_2 {t : Nat} {i : Nat} {x2 : Int32} {kx : Int32 → am_V → am_R} {P : am_P} (I : Nat → Int32 → am_V → Prop) (hb : ∀ (n9 : Nat) (kr : Int32 → am_V → am_R), (∀ m9, m9 < n9 → ∀ (a3_2 : Int32) (V9 : am_V), I m9 a3_2 V9 → TT (kr a3_2 V9) P) → ∀ (a3_2 : Int32) (V9 : am_V), I n9 a3_2 V9 → TT (bd_X7_grow_2 t i x2 kx kr a3_2 V9) P) : ∀ (n9 f9 : Nat), n9 < f9 → ∀ (a3_2 : Int32) (V9 : am_V), I n9 a3_2 V9 → TT (lp_X7_grow_2 t i x2 kx f9 a3_2 V9) P := by
  intro n9
  induction n9 using Nat.strongRecOn with
  | ind n9 ih =>
    intro f9 hf a3_2 V9 hI
    cases f9 with
    | zero => exact absurd hf (Nat.not_lt_zero _)
    | succ f9 => exact hb n9 _ (fun m9 hm a3_2 V9 hI => ih m9 hm f9 (by omega) a3_2 V9 hI) a3_2 V9 hI
theorem lr_X7_grow_62 {t : Nat} {i : Nat} {kx : Int32 → am_V → am_R} {P : am_P} (I : Nat → Int32 → am_V → Prop) (hb : ∀ (n9 : Nat) (kr : Int32 → am_V → am_R), (∀ m9, m9 < n9 → ∀ (a3_62 : Int32) (V9 : am_V), I m9 a3_62 V9 → TT (kr a3_62 V9) P) → ∀ (a3_62 : Int32) (V9 : am_V), I n9 a3_62 V9 → TT (bd_X7_grow_62 t i kx kr a3_62 V9) P) : ∀ (n9 f9 : Nat), n9 < f9 → ∀ (a3_62 : Int32) (V9 : am_V), I n9 a3_62 V9 → TT (lp_X7_grow_62 t i kx f9 a3_62 V9) P := by
  intro n9
  induction n9 using Nat.strongRecOn with
  | ind n9 ih =>
    intro f9 hf a3_62 V9 hI
    cases f9 with
    | zero => exact absurd hf (Nat.not_lt_zero _)
    | succ f9 => exact hb n9 _ (fun m9 hm a3_62 V9 hI => ih m9 hm f9 (by omega) a3_62 V9 hI) a3_62 V9 hI
theorem lr_X7_costGrown_11 {t : Nat} {i : Nat} {kx : Int32 → Int32 → am_V → am_R} {P : am_P} (I : Nat → Int32 → Int32 → am_V → Prop) (hb : ∀ (n9 : Nat) (kr : Int32 → Int32 → am_V → am_R), (∀ m9, m9 < n9 → ∀ (a3_11 : Int32) (a4_11 : Int32) (V9 : am_V), I m9 a3_11 a4_11 V9 → TT (kr a3_11 a4_11 V9) P) → ∀ (a3_11 : Int32) (a4_11 : Int32) (V9 : am_V), I n9 a3_11 a4_11 V9 → TT (bd_X7_costGrown_11 t i kx kr a3_11 a4_11 V9) P) : ∀ (n9 f9 : Nat), n9 < f9 → ∀ (a3_11 : Int32) (a4_11 : Int32) (V9 : am_V), I n9 a3_11 a4_11 V9 → TT (lp_X7_costGrown_11 t i kx f9 a3_11 a4_11 V9) P := by
  intro n9
  induction n9 using Nat.strongRecOn with
  | ind n9 ih =>
    intro f9 hf a3_11 a4_11 V9 hI
    cases f9 with
    | zero => exact absurd hf (Nat.not_lt_zero _)
    | succ f9 => exact hb n9 _ (fun m9 hm a3_11 a4_11 V9 hI => ih m9 hm f9 (by omega) a3_11 a4_11 V9 hI) a3_11 a4_11 V9 hI
theorem lr_X7_joinLabels_28 {t : Nat} {i : Nat} {x2 : Int32} {V : am_V} {kx : Int32 → am_V → am_R} {P : am_P} (I : Nat → Int32 → am_V → Prop) (hb : ∀ (n9 : Nat) (kr : Int32 → am_V → am_R), (∀ m9, m9 < n9 → ∀ (a5_28 : Int32) (V9 : am_V), I m9 a5_28 V9 → TT (kr a5_28 V9) P) → ∀ (a5_28 : Int32) (V9 : am_V), I n9 a5_28 V9 → TT (bd_X7_joinLabels_28 t i x2 V kx kr a5_28 V9) P) : ∀ (n9 f9 : Nat), n9 < f9 → ∀ (a5_28 : Int32) (V9 : am_V), I n9 a5_28 V9 → TT (lp_X7_joinLabels_28 t i x2 V kx f9 a5_28 V9) P := by
  intro n9
  induction n9 using Nat.strongRecOn with
  | ind n9 ih =>
    intro f9 hf a5_28 V9 hI
    cases f9 with
    | zero => exact absurd hf (Nat.not_lt_zero _)
    | succ f9 => exact hb n9 _ (fun m9 hm a5_28 V9 hI => ih m9 hm f9 (by omega) a5_28 V9 hI) a5_28 V9 hI
theorem lr_X7_onlyAround_6 {t : Nat} {i : Nat} {x2 : Int32} {x3 : Int32} {kx : Int32 → Int32 → am_V → am_R} {P : am_P} (I : Nat → Int32 → Int32 → am_V → Prop) (hb : ∀ (n9 : Nat) (kr : Int32 → Int32 → am_V → am_R), (∀ m9, m9 < n9 → ∀ (a4_6 : Int32) (a5_6 : Int32) (V9 : am_V), I m9 a4_6 a5_6 V9 → TT (kr a4_6 a5_6 V9) P) → ∀ (a4_6 : Int32) (a5_6 : Int32) (V9 : am_V), I n9 a4_6 a5_6 V9 → TT (bd_X7_onlyAround_6 t i x2 x3 kx kr a4_6 a5_6 V9) P) : ∀ (n9 f9 : Nat), n9 < f9 → ∀ (a4_6 : Int32) (a5_6 : Int32) (V9 : am_V), I n9 a4_6 a5_6 V9 → TT (lp_X7_onlyAround_6 t i x2 x3 kx f9 a4_6 a5_6 V9) P := by
  intro n9
  induction n9 using Nat.strongRecOn with
  | ind n9 ih =>
    intro f9 hf a4_6 a5_6 V9 hI
    cases f9 with
    | zero => exact absurd hf (Nat.not_lt_zero _)
    | succ f9 => exact hb n9 _ (fun m9 hm a4_6 a5_6 V9 hI => ih m9 hm f9 (by omega) a4_6 a5_6 V9 hI) a4_6 a5_6 V9 hI
theorem lr_X7_chooseInOrder_2 {t : Nat} {i : Nat} {x2 : Int32} {kx : Int32 → am_V → am_R} {P : am_P} (I : Nat → Int32 → am_V → Prop) (hb : ∀ (n9 : Nat) (kr : Int32 → am_V → am_R), (∀ m9, m9 < n9 → ∀ (a3_2 : Int32) (V9 : am_V), I m9 a3_2 V9 → TT (kr a3_2 V9) P) → ∀ (a3_2 : Int32) (V9 : am_V), I n9 a3_2 V9 → TT (bd_X7_chooseInOrder_2 t i x2 kx kr a3_2 V9) P) : ∀ (n9 f9 : Nat), n9 < f9 → ∀ (a3_2 : Int32) (V9 : am_V), I n9 a3_2 V9 → TT (lp_X7_chooseInOrder_2 t i x2 kx f9 a3_2 V9) P := by
  intro n9
  induction n9 using Nat.strongRecOn with
  | ind n9 ih =>
    intro f9 hf a3_2 V9 hI
    cases f9 with
    | zero => exact absurd hf (Nat.not_lt_zero _)
    | succ f9 => exact hb n9 _ (fun m9 hm a3_2 V9 hI => ih m9 hm f9 (by omega) a3_2 V9 hI) a3_2 V9 hI
theorem lr_X7_chooseInOrder_36 {t : Nat} {i : Nat} {x2 : Int32} {a4_26 : Int32} {kx : Int32 → Int32 → am_V → am_R} {P : am_P} (I : Nat → Int32 → Int32 → am_V → Prop) (hb : ∀ (n9 : Nat) (kr : Int32 → Int32 → am_V → am_R), (∀ m9, m9 < n9 → ∀ (a3_36 : Int32) (a5_36 : Int32) (V9 : am_V), I m9 a3_36 a5_36 V9 → TT (kr a3_36 a5_36 V9) P) → ∀ (a3_36 : Int32) (a5_36 : Int32) (V9 : am_V), I n9 a3_36 a5_36 V9 → TT (bd_X7_chooseInOrder_36 t i x2 a4_26 kx kr a3_36 a5_36 V9) P) : ∀ (n9 f9 : Nat), n9 < f9 → ∀ (a3_36 : Int32) (a5_36 : Int32) (V9 : am_V), I n9 a3_36 a5_36 V9 → TT (lp_X7_chooseInOrder_36 t i x2 a4_26 kx f9 a3_36 a5_36 V9) P := by
  intro n9
  induction n9 using Nat.strongRecOn with
  | ind n9 ih =>
    intro f9 hf a3_36 a5_36 V9 hI
    cases f9 with
    | zero => exact absurd hf (Nat.not_lt_zero _)
    | succ f9 => exact hb n9 _ (fun m9 hm a3_36 a5_36 V9 hI => ih m9 hm f9 (by omega) a3_36 a5_36 V9 hI) a3_36 a5_36 V9 hI
theorem lr_X7_chooseInOrder_26 {t : Nat} {i : Nat} {x2 : Int32} {kx : Int32 → Int32 → am_V → am_R} {P : am_P} (I : Nat → Int32 → Int32 → am_V → Prop) (hb : ∀ (n9 : Nat) (kr : Int32 → Int32 → am_V → am_R), (∀ m9, m9 < n9 → ∀ (a3_26 : Int32) (a4_26 : Int32) (V9 : am_V), I m9 a3_26 a4_26 V9 → TT (kr a3_26 a4_26 V9) P) → ∀ (a3_26 : Int32) (a4_26 : Int32) (V9 : am_V), I n9 a3_26 a4_26 V9 → TT (bd_X7_chooseInOrder_26 t i x2 kx kr a3_26 a4_26 V9) P) : ∀ (n9 f9 : Nat), n9 < f9 → ∀ (a3_26 : Int32) (a4_26 : Int32) (V9 : am_V), I n9 a3_26 a4_26 V9 → TT (lp_X7_chooseInOrder_26 t i x2 kx f9 a3_26 a4_26 V9) P := by
  intro n9
  induction n9 using Nat.strongRecOn with
  | ind n9 ih =>
    intro f9 hf a3_26 a4_26 V9 hI
    cases f9 with
    | zero => exact absurd hf (Nat.not_lt_zero _)
    | succ f9 => exact hb n9 _ (fun m9 hm a3_26 a4_26 V9 hI => ih m9 hm f9 (by omega) a3_26 a4_26 V9 hI) a3_26 a4_26 V9 hI
theorem lr_X7_costInOrder_13 {i : Nat} {y2 : Int32} {kx : Int32 → Int32 → am_V → am_R} {P : am_P} (I : Nat → Int32 → Int32 → am_V → Prop) (hb : ∀ (n9 : Nat) (kr : Int32 → Int32 → am_V → am_R), (∀ m9, m9 < n9 → ∀ (a4_13 : Int32) (a5_13 : Int32) (V9 : am_V), I m9 a4_13 a5_13 V9 → TT (kr a4_13 a5_13 V9) P) → ∀ (a4_13 : Int32) (a5_13 : Int32) (V9 : am_V), I n9 a4_13 a5_13 V9 → TT (bd_X7_costInOrder_13 i y2 kx kr a4_13 a5_13 V9) P) : ∀ (n9 f9 : Nat), n9 < f9 → ∀ (a4_13 : Int32) (a5_13 : Int32) (V9 : am_V), I n9 a4_13 a5_13 V9 → TT (lp_X7_costInOrder_13 i y2 kx f9 a4_13 a5_13 V9) P := by
  intro n9
  induction n9 using Nat.strongRecOn with
  | ind n9 ih =>
    intro f9 hf a4_13 a5_13 V9 hI
    cases f9 with
    | zero => exact absurd hf (Nat.not_lt_zero _)
    | succ f9 => exact hb n9 _ (fun m9 hm a4_13 a5_13 V9 hI => ih m9 hm f9 (by omega) a4_13 a5_13 V9 hI) a4_13 a5_13 V9 hI
theorem lr_X9_groupAround_20 {i : Nat} {x3 : Int32} {a5_8 : Int32} {kx : Int32 → Int32 → am_V → am_R} {P : am_P} (I : Nat → Int32 → Int32 → am_V → Prop) (hb : ∀ (n9 : Nat) (kr : Int32 → Int32 → am_V → am_R), (∀ m9, m9 < n9 → ∀ (a4_20 : Int32) (a6_20 : Int32) (V9 : am_V), I m9 a4_20 a6_20 V9 → TT (kr a4_20 a6_20 V9) P) → ∀ (a4_20 : Int32) (a6_20 : Int32) (V9 : am_V), I n9 a4_20 a6_20 V9 → TT (bd_X9_groupAround_20 i x3 a5_8 kx kr a4_20 a6_20 V9) P) : ∀ (n9 f9 : Nat), n9 < f9 → ∀ (a4_20 : Int32) (a6_20 : Int32) (V9 : am_V), I n9 a4_20 a6_20 V9 → TT (lp_X9_groupAround_20 i x3 a5_8 kx f9 a4_20 a6_20 V9) P := by
  intro n9
  induction n9 using Nat.strongRecOn with
  | ind n9 ih =>
    intro f9 hf a4_20 a6_20 V9 hI
    cases f9 with
    | zero => exact absurd hf (Nat.not_lt_zero _)
    | succ f9 => exact hb n9 _ (fun m9 hm a4_20 a6_20 V9 hI => ih m9 hm f9 (by omega) a4_20 a6_20 V9 hI) a4_20 a6_20 V9 hI
theorem lr_X9_groupAround_8 {i : Nat} {x3 : Int32} {kx : Int32 → Int32 → am_V → am_R} {P : am_P} (I : Nat → Int32 → Int32 → am_V → Prop) (hb : ∀ (n9 : Nat) (kr : Int32 → Int32 → am_V → am_R), (∀ m9, m9 < n9 → ∀ (a4_8 : Int32) (a5_8 : Int32) (V9 : am_V), I m9 a4_8 a5_8 V9 → TT (kr a4_8 a5_8 V9) P) → ∀ (a4_8 : Int32) (a5_8 : Int32) (V9 : am_V), I n9 a4_8 a5_8 V9 → TT (bd_X9_groupAround_8 i x3 kx kr a4_8 a5_8 V9) P) : ∀ (n9 f9 : Nat), n9 < f9 → ∀ (a4_8 : Int32) (a5_8 : Int32) (V9 : am_V), I n9 a4_8 a5_8 V9 → TT (lp_X9_groupAround_8 i x3 kx f9 a4_8 a5_8 V9) P := by
  intro n9
  induction n9 using Nat.strongRecOn with
  | ind n9 ih =>
    intro f9 hf a4_8 a5_8 V9 hI
    cases f9 with
    | zero => exact absurd hf (Nat.not_lt_zero _)
    | succ f9 => exact hb n9 _ (fun m9 hm a4_8 a5_8 V9 hI => ih m9 hm f9 (by omega) a4_8 a5_8 V9 hI) a4_8 a5_8 V9 hI
theorem lr_X9_countGroups_8 {i : Nat} {x2 : Int32} {kx : Int32 → Int32 → Int32 → am_V → am_R} {P : am_P} (I : Nat → Int32 → Int32 → Int32 → am_V → Prop) (hb : ∀ (n9 : Nat) (kr : Int32 → Int32 → Int32 → am_V → am_R), (∀ m9, m9 < n9 → ∀ (a3_8 : Int32) (a4_8 : Int32) (a5_8 : Int32) (V9 : am_V), I m9 a3_8 a4_8 a5_8 V9 → TT (kr a3_8 a4_8 a5_8 V9) P) → ∀ (a3_8 : Int32) (a4_8 : Int32) (a5_8 : Int32) (V9 : am_V), I n9 a3_8 a4_8 a5_8 V9 → TT (bd_X9_countGroups_8 i x2 kx kr a3_8 a4_8 a5_8 V9) P) : ∀ (n9 f9 : Nat), n9 < f9 → ∀ (a3_8 : Int32) (a4_8 : Int32) (a5_8 : Int32) (V9 : am_V), I n9 a3_8 a4_8 a5_8 V9 → TT (lp_X9_countGroups_8 i x2 kx f9 a3_8 a4_8 a5_8 V9) P := by
  intro n9
  induction n9 using Nat.strongRecOn with
  | ind n9 ih =>
    intro f9 hf a3_8 a4_8 a5_8 V9 hI
    cases f9 with
    | zero => exact absurd hf (Nat.not_lt_zero _)
    | succ f9 => exact hb n9 _ (fun m9 hm a3_8 a4_8 a5_8 V9 hI => ih m9 hm f9 (by omega) a3_8 a4_8 a5_8 V9 hI) a3_8 a4_8 a5_8 V9 hI
theorem lr_X9_startCosts_2 {x1 : Int32} {kx : Int32 → am_V → am_R} {P : am_P} (I : Nat → Int32 → am_V → Prop) (hb : ∀ (n9 : Nat) (kr : Int32 → am_V → am_R), (∀ m9, m9 < n9 → ∀ (a2_2 : Int32) (V9 : am_V), I m9 a2_2 V9 → TT (kr a2_2 V9) P) → ∀ (a2_2 : Int32) (V9 : am_V), I n9 a2_2 V9 → TT (bd_X9_startCosts_2 x1 kx kr a2_2 V9) P) : ∀ (n9 f9 : Nat), n9 < f9 → ∀ (a2_2 : Int32) (V9 : am_V), I n9 a2_2 V9 → TT (lp_X9_startCosts_2 x1 kx f9 a2_2 V9) P := by
  intro n9
  induction n9 using Nat.strongRecOn with
  | ind n9 ih =>
    intro f9 hf a2_2 V9 hI
    cases f9 with
    | zero => exact absurd hf (Nat.not_lt_zero _)
    | succ f9 => exact hb n9 _ (fun m9 hm a2_2 V9 hI => ih m9 hm f9 (by omega) a2_2 V9 hI) a2_2 V9 hI
theorem lr_X9_nearestOutside_10 {i : Nat} {x2 : Int32} {kx : Int32 → Int32 → Int32 → am_V → am_R} {P : am_P} (I : Nat → Int32 → Int32 → Int32 → am_V → Prop) (hb : ∀ (n9 : Nat) (kr : Int32 → Int32 → Int32 → am_V → am_R), (∀ m9, m9 < n9 → ∀ (a3_10 : Int32) (a4_10 : Int32) (a5_10 : Int32) (V9 : am_V), I m9 a3_10 a4_10 a5_10 V9 → TT (kr a3_10 a4_10 a5_10 V9) P) → ∀ (a3_10 : Int32) (a4_10 : Int32) (a5_10 : Int32) (V9 : am_V), I n9 a3_10 a4_10 a5_10 V9 → TT (bd_X9_nearestOutside_10 i x2 kx kr a3_10 a4_10 a5_10 V9) P) : ∀ (n9 f9 : Nat), n9 < f9 → ∀ (a3_10 : Int32) (a4_10 : Int32) (a5_10 : Int32) (V9 : am_V), I n9 a3_10 a4_10 a5_10 V9 → TT (lp_X9_nearestOutside_10 i x2 kx f9 a3_10 a4_10 a5_10 V9) P := by
  intro n9
  induction n9 using Nat.strongRecOn with
  | ind n9 ih =>
    intro f9 hf a3_10 a4_10 a5_10 V9 hI
    cases f9 with
    | zero => exact absurd hf (Nat.not_lt_zero _)
    | succ f9 => exact hb n9 _ (fun m9 hm a3_10 a4_10 a5_10 V9 hI => ih m9 hm f9 (by omega) a3_10 a4_10 a5_10 V9 hI) a3_10 a4_10 a5_10 V9 hI
theorem lr_X9_lowerAround_2 {i : Nat} {x2 : Int32} {kx : Int32 → am_V → am_R} {P : am_P} (I : Nat → Int32 → am_V → Prop) (hb : ∀ (n9 : Nat) (kr : Int32 → am_V → am_R), (∀ m9, m9 < n9 → ∀ (a3_2 : Int32) (V9 : am_V), I m9 a3_2 V9 → TT (kr a3_2 V9) P) → ∀ (a3_2 : Int32) (V9 : am_V), I n9 a3_2 V9 → TT (bd_X9_lowerAround_2 i x2 kx kr a3_2 V9) P) : ∀ (n9 f9 : Nat), n9 < f9 → ∀ (a3_2 : Int32) (V9 : am_V), I n9 a3_2 V9 → TT (lp_X9_lowerAround_2 i x2 kx f9 a3_2 V9) P := by
  intro n9
  induction n9 using Nat.strongRecOn with
  | ind n9 ih =>
    intro f9 hf a3_2 V9 hI
    cases f9 with
    | zero => exact absurd hf (Nat.not_lt_zero _)
    | succ f9 => exact hb n9 _ (fun m9 hm a3_2 V9 hI => ih m9 hm f9 (by omega) a3_2 V9 hI) a3_2 V9 hI
theorem lr_X9_cheapestByVisiting_11 {i : Nat} {x3 : Int32} {kx : Int32 → Int32 → am_V → am_R} {P : am_P} (I : Nat → Int32 → Int32 → am_V → Prop) (hb : ∀ (n9 : Nat) (kr : Int32 → Int32 → am_V → am_R), (∀ m9, m9 < n9 → ∀ (a4_11 : Int32) (a5_11 : Int32) (V9 : am_V), I m9 a4_11 a5_11 V9 → TT (kr a4_11 a5_11 V9) P) → ∀ (a4_11 : Int32) (a5_11 : Int32) (V9 : am_V), I n9 a4_11 a5_11 V9 → TT (bd_X9_cheapestByVisiting_11 i x3 kx kr a4_11 a5_11 V9) P) : ∀ (n9 f9 : Nat), n9 < f9 → ∀ (a4_11 : Int32) (a5_11 : Int32) (V9 : am_V), I n9 a4_11 a5_11 V9 → TT (lp_X9_cheapestByVisiting_11 i x3 kx f9 a4_11 a5_11 V9) P := by
  intro n9
  induction n9 using Nat.strongRecOn with
  | ind n9 ih =>
    intro f9 hf a4_11 a5_11 V9 hI
    cases f9 with
    | zero => exact absurd hf (Nat.not_lt_zero _)
    | succ f9 => exact hb n9 _ (fun m9 hm a4_11 a5_11 V9 hI => ih m9 hm f9 (by omega) a4_11 a5_11 V9 hI) a4_11 a5_11 V9 hI
theorem lr_X9_cheapestByLowering_20 {i : Nat} {x3 : Int32} {a4_8 : Int32} {kx : Int32 → am_V → am_R} {P : am_P} (I : Nat → Int32 → am_V → Prop) (hb : ∀ (n9 : Nat) (kr : Int32 → am_V → am_R), (∀ m9, m9 < n9 → ∀ (a5_20 : Int32) (V9 : am_V), I m9 a5_20 V9 → TT (kr a5_20 V9) P) → ∀ (a5_20 : Int32) (V9 : am_V), I n9 a5_20 V9 → TT (bd_X9_cheapestByLowering_20 i x3 a4_8 kx kr a5_20 V9) P) : ∀ (n9 f9 : Nat), n9 < f9 → ∀ (a5_20 : Int32) (V9 : am_V), I n9 a5_20 V9 → TT (lp_X9_cheapestByLowering_20 i x3 a4_8 kx f9 a5_20 V9) P := by
  intro n9
  induction n9 using Nat.strongRecOn with
  | ind n9 ih =>
    intro f9 hf a5_20 V9 hI
    cases f9 with
    | zero => exact absurd hf (Nat.not_lt_zero _)
    | succ f9 => exact hb n9 _ (fun m9 hm a5_20 V9 hI => ih m9 hm f9 (by omega) a5_20 V9 hI) a5_20 V9 hI
theorem lr_X9_cheapestByLowering_8 {i : Nat} {x3 : Int32} {kx : Int32 → am_V → am_R} {P : am_P} (I : Nat → Int32 → am_V → Prop) (hb : ∀ (n9 : Nat) (kr : Int32 → am_V → am_R), (∀ m9, m9 < n9 → ∀ (a4_8 : Int32) (V9 : am_V), I m9 a4_8 V9 → TT (kr a4_8 V9) P) → ∀ (a4_8 : Int32) (V9 : am_V), I n9 a4_8 V9 → TT (bd_X9_cheapestByLowering_8 i x3 kx kr a4_8 V9) P) : ∀ (n9 f9 : Nat), n9 < f9 → ∀ (a4_8 : Int32) (V9 : am_V), I n9 a4_8 V9 → TT (lp_X9_cheapestByLowering_8 i x3 kx f9 a4_8 V9) P := by
  intro n9
  induction n9 using Nat.strongRecOn with
  | ind n9 ih =>
    intro f9 hf a4_8 V9 hI
    cases f9 with
    | zero => exact absurd hf (Nat.not_lt_zero _)
    | succ f9 => exact hb n9 _ (fun m9 hm a4_8 V9 hI => ih m9 hm f9 (by omega) a4_8 V9 hI) a4_8 V9 hI
theorem lr_X9_reachByFlows_19 {i : Nat} {a4_7 : Int32} {kx : Int32 → Int32 → am_V → am_R} {P : am_P} (I : Nat → Int32 → Int32 → am_V → Prop) (hb : ∀ (n9 : Nat) (kr : Int32 → Int32 → am_V → am_R), (∀ m9, m9 < n9 → ∀ (a3_19 : Int32) (a5_19 : Int32) (V9 : am_V), I m9 a3_19 a5_19 V9 → TT (kr a3_19 a5_19 V9) P) → ∀ (a3_19 : Int32) (a5_19 : Int32) (V9 : am_V), I n9 a3_19 a5_19 V9 → TT (bd_X9_reachByFlows_19 i a4_7 kx kr a3_19 a5_19 V9) P) : ∀ (n9 f9 : Nat), n9 < f9 → ∀ (a3_19 : Int32) (a5_19 : Int32) (V9 : am_V), I n9 a3_19 a5_19 V9 → TT (lp_X9_reachByFlows_19 i a4_7 kx f9 a3_19 a5_19 V9) P := by
  intro n9
  induction n9 using Nat.strongRecOn with
  | ind n9 ih =>
    intro f9 hf a3_19 a5_19 V9 hI
    cases f9 with
    | zero => exact absurd hf (Nat.not_lt_zero _)
    | succ f9 => exact hb n9 _ (fun m9 hm a3_19 a5_19 V9 hI => ih m9 hm f9 (by omega) a3_19 a5_19 V9 hI) a3_19 a5_19 V9 hI
theorem lr_X9_reachByFlows_7 {i : Nat} {kx : Int32 → Int32 → am_V → am_R} {P : am_P} (I : Nat → Int32 → Int32 → am_V → Prop) (hb : ∀ (n9 : Nat) (kr : Int32 → Int32 → am_V → am_R), (∀ m9, m9 < n9 → ∀ (a3_7 : Int32) (a4_7 : Int32) (V9 : am_V), I m9 a3_7 a4_7 V9 → TT (kr a3_7 a4_7 V9) P) → ∀ (a3_7 : Int32) (a4_7 : Int32) (V9 : am_V), I n9 a3_7 a4_7 V9 → TT (bd_X9_reachByFlows_7 i kx kr a3_7 a4_7 V9) P) : ∀ (n9 f9 : Nat), n9 < f9 → ∀ (a3_7 : Int32) (a4_7 : Int32) (V9 : am_V), I n9 a3_7 a4_7 V9 → TT (lp_X9_reachByFlows_7 i kx f9 a3_7 a4_7 V9) P := by
  intro n9
  induction n9 using Nat.strongRecOn with
  | ind n9 ih =>
    intro f9 hf a3_7 a4_7 V9 hI
    cases f9 with
    | zero => exact absurd hf (Nat.not_lt_zero _)
    | succ f9 => exact hb n9 _ (fun m9 hm a3_7 a4_7 V9 hI => ih m9 hm f9 (by omega) a3_7 a4_7 V9 hI) a3_7 a4_7 V9 hI
theorem lr_X9_addWay_21 {i : Nat} {x2 : Int32} {kx : Int32 → Int32 → am_V → am_R} {P : am_P} (I : Nat → Int32 → Int32 → am_V → Prop) (hb : ∀ (n9 : Nat) (kr : Int32 → Int32 → am_V → am_R), (∀ m9, m9 < n9 → ∀ (a4_21 : Int32) (a5_21 : Int32) (V9 : am_V), I m9 a4_21 a5_21 V9 → TT (kr a4_21 a5_21 V9) P) → ∀ (a4_21 : Int32) (a5_21 : Int32) (V9 : am_V), I n9 a4_21 a5_21 V9 → TT (bd_X9_addWay_21 i x2 kx kr a4_21 a5_21 V9) P) : ∀ (n9 f9 : Nat), n9 < f9 → ∀ (a4_21 : Int32) (a5_21 : Int32) (V9 : am_V), I n9 a4_21 a5_21 V9 → TT (lp_X9_addWay_21 i x2 kx f9 a4_21 a5_21 V9) P := by
  intro n9
  induction n9 using Nat.strongRecOn with
  | ind n9 ih =>
    intro f9 hf a4_21 a5_21 V9 hI
    cases f9 with
    | zero => exact absurd hf (Nat.not_lt_zero _)
    | succ f9 => exact hb n9 _ (fun m9 hm a4_21 a5_21 V9 hI => ih m9 hm f9 (by omega) a4_21 a5_21 V9 hI) a4_21 a5_21 V9 hI
theorem lr_X9_mostDisjoint_3 {i : Nat} {x2 : Int32} {x3 : Int32} {kx : Int32 → am_V → am_R} {P : am_P} (I : Nat → Int32 → am_V → Prop) (hb : ∀ (n9 : Nat) (kr : Int32 → am_V → am_R), (∀ m9, m9 < n9 → ∀ (a4_3 : Int32) (V9 : am_V), I m9 a4_3 V9 → TT (kr a4_3 V9) P) → ∀ (a4_3 : Int32) (V9 : am_V), I n9 a4_3 V9 → TT (bd_X9_mostDisjoint_3 i x2 x3 kx kr a4_3 V9) P) : ∀ (n9 f9 : Nat), n9 < f9 → ∀ (a4_3 : Int32) (V9 : am_V), I n9 a4_3 V9 → TT (lp_X9_mostDisjoint_3 i x2 x3 kx f9 a4_3 V9) P := by
  intro n9
  induction n9 using Nat.strongRecOn with
  | ind n9 ih =>
    intro f9 hf a4_3 V9 hI
    cases f9 with
    | zero => exact absurd hf (Nat.not_lt_zero _)
    | succ f9 => exact hb n9 _ (fun m9 hm a4_3 V9 hI => ih m9 hm f9 (by omega) a4_3 V9 hI) a4_3 V9 hI
theorem lr_X9_mostDisjoint_27 {i : Nat} {x2 : Int32} {x3 : Int32} {kx : Int32 → am_V → am_R} {P : am_P} (I : Nat → Int32 → am_V → Prop) (hb : ∀ (n9 : Nat) (kr : Int32 → am_V → am_R), (∀ m9, m9 < n9 → ∀ (a4_27 : Int32) (V9 : am_V), I m9 a4_27 V9 → TT (kr a4_27 V9) P) → ∀ (a4_27 : Int32) (V9 : am_V), I n9 a4_27 V9 → TT (bd_X9_mostDisjoint_27 i x2 x3 kx kr a4_27 V9) P) : ∀ (n9 f9 : Nat), n9 < f9 → ∀ (a4_27 : Int32) (V9 : am_V), I n9 a4_27 V9 → TT (lp_X9_mostDisjoint_27 i x2 x3 kx f9 a4_27 V9) P := by
  intro n9
  induction n9 using Nat.strongRecOn with
  | ind n9 ih =>
    intro f9 hf a4_27 V9 hI
    cases f9 with
    | zero => exact absurd hf (Nat.not_lt_zero _)
    | succ f9 => exact hb n9 _ (fun m9 hm a4_27 V9 hI => ih m9 hm f9 (by omega) a4_27 V9 hI) a4_27 V9 hI
theorem lr_X9_countLeaving_4 {i : Nat} {x1 : Int32} {kx : Int32 → Int32 → am_V → am_R} {P : am_P} (I : Nat → Int32 → Int32 → am_V → Prop) (hb : ∀ (n9 : Nat) (kr : Int32 → Int32 → am_V → am_R), (∀ m9, m9 < n9 → ∀ (a2_4 : Int32) (a3_4 : Int32) (V9 : am_V), I m9 a2_4 a3_4 V9 → TT (kr a2_4 a3_4 V9) P) → ∀ (a2_4 : Int32) (a3_4 : Int32) (V9 : am_V), I n9 a2_4 a3_4 V9 → TT (bd_X9_countLeaving_4 i x1 kx kr a2_4 a3_4 V9) P) : ∀ (n9 f9 : Nat), n9 < f9 → ∀ (a2_4 : Int32) (a3_4 : Int32) (V9 : am_V), I n9 a2_4 a3_4 V9 → TT (lp_X9_countLeaving_4 i x1 kx f9 a2_4 a3_4 V9) P := by
  intro n9
  induction n9 using Nat.strongRecOn with
  | ind n9 ih =>
    intro f9 hf a2_4 a3_4 V9 hI
    cases f9 with
    | zero => exact absurd hf (Nat.not_lt_zero _)
    | succ f9 => exact hb n9 _ (fun m9 hm a2_4 a3_4 V9 hI => ih m9 hm f9 (by omega) a2_4 a3_4 V9 hI) a2_4 a3_4 V9 hI
theorem lr_X9_fewestLeaving_15 {i : Nat} {x2 : Int32} {x3 : Int32} {V : am_V} {kx : Int32 → Int32 → am_V → am_R} {P : am_P} (I : Nat → Int32 → Int32 → am_V → Prop) (hb : ∀ (n9 : Nat) (kr : Int32 → Int32 → am_V → am_R), (∀ m9, m9 < n9 → ∀ (a4_15 : Int32) (a6_15 : Int32) (V9 : am_V), I m9 a4_15 a6_15 V9 → TT (kr a4_15 a6_15 V9) P) → ∀ (a4_15 : Int32) (a6_15 : Int32) (V9 : am_V), I n9 a4_15 a6_15 V9 → TT (bd_X9_fewestLeaving_15 i x2 x3 V kx kr a4_15 a6_15 V9) P) : ∀ (n9 f9 : Nat), n9 < f9 → ∀ (a4_15 : Int32) (a6_15 : Int32) (V9 : am_V), I n9 a4_15 a6_15 V9 → TT (lp_X9_fewestLeaving_15 i x2 x3 V kx f9 a4_15 a6_15 V9) P := by
  intro n9
  induction n9 using Nat.strongRecOn with
  | ind n9 ih =>
    intro f9 hf a4_15 a6_15 V9 hI
    cases f9 with
    | zero => exact absurd hf (Nat.not_lt_zero _)
    | succ f9 => exact hb n9 _ (fun m9 hm a4_15 a6_15 V9 hI => ih m9 hm f9 (by omega) a4_15 a6_15 V9 hI) a4_15 a6_15 V9 hI
theorem lr_X9_countBridgesByGroups_4 {i : Nat} {kx : Int32 → Int32 → am_V → am_R} {P : am_P} (I : Nat → Int32 → Int32 → am_V → Prop) (hb : ∀ (n9 : Nat) (kr : Int32 → Int32 → am_V → am_R), (∀ m9, m9 < n9 → ∀ (a2_4 : Int32) (a3_4 : Int32) (V9 : am_V), I m9 a2_4 a3_4 V9 → TT (kr a2_4 a3_4 V9) P) → ∀ (a2_4 : Int32) (a3_4 : Int32) (V9 : am_V), I n9 a2_4 a3_4 V9 → TT (bd_X9_countBridgesByGroups_4 i kx kr a2_4 a3_4 V9) P) : ∀ (n9 f9 : Nat), n9 < f9 → ∀ (a2_4 : Int32) (a3_4 : Int32) (V9 : am_V), I n9 a2_4 a3_4 V9 → TT (lp_X9_countBridgesByGroups_4 i kx f9 a2_4 a3_4 V9) P := by
  intro n9
  induction n9 using Nat.strongRecOn with
  | ind n9 ih =>
    intro f9 hf a2_4 a3_4 V9 hI
    cases f9 with
    | zero => exact absurd hf (Nat.not_lt_zero _)
    | succ f9 => exact hb n9 _ (fun m9 hm a2_4 a3_4 V9 hI => ih m9 hm f9 (by omega) a2_4 a3_4 V9 hI) a2_4 a3_4 V9 hI
theorem lr_X9_countBridgesFrom_14 {i : Nat} {kx : Int32 → Int32 → Int32 → am_V → am_R} {P : am_P} (I : Nat → Int32 → Int32 → Int32 → am_V → Prop) (hb : ∀ (n9 : Nat) (kr : Int32 → Int32 → Int32 → am_V → am_R), (∀ m9, m9 < n9 → ∀ (a3_14 : Int32) (a4_14 : Int32) (a5_14 : Int32) (V9 : am_V), I m9 a3_14 a4_14 a5_14 V9 → TT (kr a3_14 a4_14 a5_14 V9) P) → ∀ (a3_14 : Int32) (a4_14 : Int32) (a5_14 : Int32) (V9 : am_V), I n9 a3_14 a4_14 a5_14 V9 → TT (bd_X9_countBridgesFrom_14 i kx kr a3_14 a4_14 a5_14 V9) P) : ∀ (n9 f9 : Nat), n9 < f9 → ∀ (a3_14 : Int32) (a4_14 : Int32) (a5_14 : Int32) (V9 : am_V), I n9 a3_14 a4_14 a5_14 V9 → TT (lp_X9_countBridgesFrom_14 i kx f9 a3_14 a4_14 a5_14 V9) P := by
  intro n9
  induction n9 using Nat.strongRecOn with
  | ind n9 ih =>
    intro f9 hf a3_14 a4_14 a5_14 V9 hI
    cases f9 with
    | zero => exact absurd hf (Nat.not_lt_zero _)
    | succ f9 => exact hb n9 _ (fun m9 hm a3_14 a4_14 a5_14 V9 hI => ih m9 hm f9 (by omega) a3_14 a4_14 a5_14 V9 hI) a3_14 a4_14 a5_14 V9 hI
theorem lr_X9_countBridgesByWalk_2 {i : Nat} {kx : Int32 → am_V → am_R} {P : am_P} (I : Nat → Int32 → am_V → Prop) (hb : ∀ (n9 : Nat) (kr : Int32 → am_V → am_R), (∀ m9, m9 < n9 → ∀ (a2_2 : Int32) (V9 : am_V), I m9 a2_2 V9 → TT (kr a2_2 V9) P) → ∀ (a2_2 : Int32) (V9 : am_V), I n9 a2_2 V9 → TT (bd_X9_countBridgesByWalk_2 i kx kr a2_2 V9) P) : ∀ (n9 f9 : Nat), n9 < f9 → ∀ (a2_2 : Int32) (V9 : am_V), I n9 a2_2 V9 → TT (lp_X9_countBridgesByWalk_2 i kx f9 a2_2 V9) P := by
  intro n9
  induction n9 using Nat.strongRecOn with
  | ind n9 ih =>
    intro f9 hf a2_2 V9 hI
    cases f9 with
    | zero => exact absurd hf (Nat.not_lt_zero _)
    | succ f9 => exact hb n9 _ (fun m9 hm a2_2 V9 hI => ih m9 hm f9 (by omega) a2_2 V9 hI) a2_2 V9 hI
theorem lr_X9_countBridgesByWalk_30 {i : Nat} {kx : Int32 → Int32 → am_V → am_R} {P : am_P} (I : Nat → Int32 → Int32 → am_V → Prop) (hb : ∀ (n9 : Nat) (kr : Int32 → Int32 → am_V → am_R), (∀ m9, m9 < n9 → ∀ (a2_30 : Int32) (a3_30 : Int32) (V9 : am_V), I m9 a2_30 a3_30 V9 → TT (kr a2_30 a3_30 V9) P) → ∀ (a2_30 : Int32) (a3_30 : Int32) (V9 : am_V), I n9 a2_30 a3_30 V9 → TT (bd_X9_countBridgesByWalk_30 i kx kr a2_30 a3_30 V9) P) : ∀ (n9 f9 : Nat), n9 < f9 → ∀ (a2_30 : Int32) (a3_30 : Int32) (V9 : am_V), I n9 a2_30 a3_30 V9 → TT (lp_X9_countBridgesByWalk_30 i kx f9 a2_30 a3_30 V9) P := by
  intro n9
  induction n9 using Nat.strongRecOn with
  | ind n9 ih =>
    intro f9 hf a2_30 a3_30 V9 hI
    cases f9 with
    | zero => exact absurd hf (Nat.not_lt_zero _)
    | succ f9 => exact hb n9 _ (fun m9 hm a2_30 a3_30 V9 hI => ih m9 hm f9 (by omega) a2_30 a3_30 V9 hI) a2_30 a3_30 V9 hI
theorem lr_X10_sendDown_33 {i : Nat} {x2 : Int32} {V : am_V} {kx : Int32 → Int32 → am_V → am_R} {P : am_P} (I : Nat → Int32 → Int32 → am_V → Prop) (hb : ∀ (n9 : Nat) (kr : Int32 → Int32 → am_V → am_R), (∀ m9, m9 < n9 → ∀ (a5_33 : Int32) (a6_33 : Int32) (V9 : am_V), I m9 a5_33 a6_33 V9 → TT (kr a5_33 a6_33 V9) P) → ∀ (a5_33 : Int32) (a6_33 : Int32) (V9 : am_V), I n9 a5_33 a6_33 V9 → TT (bd_X10_sendDown_33 i x2 V kx kr a5_33 a6_33 V9) P) : ∀ (n9 f9 : Nat), n9 < f9 → ∀ (a5_33 : Int32) (a6_33 : Int32) (V9 : am_V), I n9 a5_33 a6_33 V9 → TT (lp_X10_sendDown_33 i x2 V kx f9 a5_33 a6_33 V9) P := by
  intro n9
  induction n9 using Nat.strongRecOn with
  | ind n9 ih =>
    intro f9 hf a5_33 a6_33 V9 hI
    cases f9 with
    | zero => exact absurd hf (Nat.not_lt_zero _)
    | succ f9 => exact hb n9 _ (fun m9 hm a5_33 a6_33 V9 hI => ih m9 hm f9 (by omega) a5_33 a6_33 V9 hI) a5_33 a6_33 V9 hI
theorem lr_X10_rebuildMissing_10 {i : Nat} {y2 : Int32} {kx : Int32 → am_V → am_R} {P : am_P} (I : Nat → Int32 → am_V → Prop) (hb : ∀ (n9 : Nat) (kr : Int32 → am_V → am_R), (∀ m9, m9 < n9 → ∀ (a3_10 : Int32) (V9 : am_V), I m9 a3_10 V9 → TT (kr a3_10 V9) P) → ∀ (a3_10 : Int32) (V9 : am_V), I n9 a3_10 V9 → TT (bd_X10_rebuildMissing_10 i y2 kx kr a3_10 V9) P) : ∀ (n9 f9 : Nat), n9 < f9 → ∀ (a3_10 : Int32) (V9 : am_V), I n9 a3_10 V9 → TT (lp_X10_rebuildMissing_10 i y2 kx f9 a3_10 V9) P := by
  intro n9
  induction n9 using Nat.strongRecOn with
  | ind n9 ih =>
    intro f9 hf a3_10 V9 hI
    cases f9 with
    | zero => exact absurd hf (Nat.not_lt_zero _)
    | succ f9 => exact hb n9 _ (fun m9 hm a3_10 V9 hI => ih m9 hm f9 (by omega) a3_10 V9 hI) a3_10 V9 hI
theorem lr_X10_coversTree_2 {i : Nat} {kx : Int32 → am_V → am_R} {P : am_P} (I : Nat → Int32 → am_V → Prop) (hb : ∀ (n9 : Nat) (kr : Int32 → am_V → am_R), (∀ m9, m9 < n9 → ∀ (a2_2 : Int32) (V9 : am_V), I m9 a2_2 V9 → TT (kr a2_2 V9) P) → ∀ (a2_2 : Int32) (V9 : am_V), I n9 a2_2 V9 → TT (bd_X10_coversTree_2 i kx kr a2_2 V9) P) : ∀ (n9 f9 : Nat), n9 < f9 → ∀ (a2_2 : Int32) (V9 : am_V), I n9 a2_2 V9 → TT (lp_X10_coversTree_2 i kx f9 a2_2 V9) P := by
  intro n9
  induction n9 using Nat.strongRecOn with
  | ind n9 ih =>
    intro f9 hf a2_2 V9 hI
    cases f9 with
    | zero => exact absurd hf (Nat.not_lt_zero _)
    | succ f9 => exact hb n9 _ (fun m9 hm a2_2 V9 hI => ih m9 hm f9 (by omega) a2_2 V9 hI) a2_2 V9 hI
theorem lr_X10_blowOnce_36 {i : Nat} {a3_22 : Int32} {kx : Int32 → Int32 → am_V → am_R} {P : am_P} (I : Nat → Int32 → Int32 → am_V → Prop) (hb : ∀ (n9 : Nat) (kr : Int32 → Int32 → am_V → am_R), (∀ m9, m9 < n9 → ∀ (a2_36 : Int32) (a4_36 : Int32) (V9 : am_V), I m9 a2_36 a4_36 V9 → TT (kr a2_36 a4_36 V9) P) → ∀ (a2_36 : Int32) (a4_36 : Int32) (V9 : am_V), I n9 a2_36 a4_36 V9 → TT (bd_X10_blowOnce_36 i a3_22 kx kr a2_36 a4_36 V9) P) : ∀ (n9 f9 : Nat), n9 < f9 → ∀ (a2_36 : Int32) (a4_36 : Int32) (V9 : am_V), I n9 a2_36 a4_36 V9 → TT (lp_X10_blowOnce_36 i a3_22 kx f9 a2_36 a4_36 V9) P := by
  intro n9
  induction n9 using Nat.strongRecOn with
  | ind n9 ih =>
    intro f9 hf a2_36 a4_36 V9 hI
    cases f9 with
    | zero => exact absurd hf (Nat.not_lt_zero _)
    | succ f9 => exact hb n9 _ (fun m9 hm a2_36 a4_36 V9 hI => ih m9 hm f9 (by omega) a2_36 a4_36 V9 hI) a2_36 a4_36 V9 hI
theorem lr_X10_blowOnce_22 {i : Nat} {kx : Int32 → Int32 → am_V → am_R} {P : am_P} (I : Nat → Int32 → Int32 → am_V → Prop) (hb : ∀ (n9 : Nat) (kr : Int32 → Int32 → am_V → am_R), (∀ m9, m9 < n9 → ∀ (a2_22 : Int32) (a3_22 : Int32) (V9 : am_V), I m9 a2_22 a3_22 V9 → TT (kr a2_22 a3_22 V9) P) → ∀ (a2_22 : Int32) (a3_22 : Int32) (V9 : am_V), I n9 a2_22 a3_22 V9 → TT (bd_X10_blowOnce_22 i kx kr a2_22 a3_22 V9) P) : ∀ (n9 f9 : Nat), n9 < f9 → ∀ (a2_22 : Int32) (a3_22 : Int32) (V9 : am_V), I n9 a2_22 a3_22 V9 → TT (lp_X10_blowOnce_22 i kx f9 a2_22 a3_22 V9) P := by
  intro n9
  induction n9 using Nat.strongRecOn with
  | ind n9 ih =>
    intro f9 hf a2_22 a3_22 V9 hI
    cases f9 with
    | zero => exact absurd hf (Nat.not_lt_zero _)
    | succ f9 => exact hb n9 _ (fun m9 hm a2_22 a3_22 V9 hI => ih m9 hm f9 (by omega) a2_22 a3_22 V9 hI) a2_22 a3_22 V9 hI
theorem lr_X2_beginBroadcast_86 {i : Nat} {x2 : Int32} {kx : Int32 → am_V → am_R} {P : am_P} (I : Nat → Int32 → am_V → Prop) (hb : ∀ (n9 : Nat) (kr : Int32 → am_V → am_R), (∀ m9, m9 < n9 → ∀ (a6_86 : Int32) (V9 : am_V), I m9 a6_86 V9 → TT (kr a6_86 V9) P) → ∀ (a6_86 : Int32) (V9 : am_V), I n9 a6_86 V9 → TT (bd_X2_beginBroadcast_86 i x2 kx kr a6_86 V9) P) : ∀ (n9 f9 : Nat), n9 < f9 → ∀ (a6_86 : Int32) (V9 : am_V), I n9 a6_86 V9 → TT (lp_X2_beginBroadcast_86 i x2 kx f9 a6_86 V9) P := by
  intro n9
  induction n9 using Nat.strongRecOn with
  | ind n9 ih =>
    intro f9 hf a6_86 V9 hI
    cases f9 with
    | zero => exact absurd hf (Nat.not_lt_zero _)
    | succ f9 => exact hb n9 _ (fun m9 hm a6_86 V9 hI => ih m9 hm f9 (by omega) a6_86 V9 hI) a6_86 V9 hI
theorem lr_X2_letBlowToEnd_26 {i : Nat} {kx : Int32 → am_V → am_R} {P : am_P} (I : Nat → Int32 → am_V → Prop) (hb : ∀ (n9 : Nat) (kr : Int32 → am_V → am_R), (∀ m9, m9 < n9 → ∀ (a3_26 : Int32) (V9 : am_V), I m9 a3_26 V9 → TT (kr a3_26 V9) P) → ∀ (a3_26 : Int32) (V9 : am_V), I n9 a3_26 V9 → TT (bd_X2_letBlowToEnd_26 i kx kr a3_26 V9) P) : ∀ (n9 f9 : Nat), n9 < f9 → ∀ (a3_26 : Int32) (V9 : am_V), I n9 a3_26 V9 → TT (lp_X2_letBlowToEnd_26 i kx f9 a3_26 V9) P := by
  intro n9
  induction n9 using Nat.strongRecOn with
  | ind n9 ih =>
    intro f9 hf a3_26 V9 hI
    cases f9 with
    | zero => exact absurd hf (Nat.not_lt_zero _)
    | succ f9 => exact hb n9 _ (fun m9 hm a3_26 V9 hI => ih m9 hm f9 (by omega) a3_26 V9 hI) a3_26 V9 hI
theorem lr_X11_treeCostsAgree_2 {kx : Int32 → am_V → am_R} {P : am_P} (I : Nat → Int32 → am_V → Prop) (hb : ∀ (n9 : Nat) (kr : Int32 → am_V → am_R), (∀ m9, m9 < n9 → ∀ (a1_2 : Int32) (V9 : am_V), I m9 a1_2 V9 → TT (kr a1_2 V9) P) → ∀ (a1_2 : Int32) (V9 : am_V), I n9 a1_2 V9 → TT (bd_X11_treeCostsAgree_2  kx kr a1_2 V9) P) : ∀ (n9 f9 : Nat), n9 < f9 → ∀ (a1_2 : Int32) (V9 : am_V), I n9 a1_2 V9 → TT (lp_X11_treeCostsAgree_2  kx f9 a1_2 V9) P := by
  intro n9
  induction n9 using Nat.strongRecOn with
  | ind n9 ih =>
    intro f9 hf a1_2 V9 hI
    cases f9 with
    | zero => exact absurd hf (Nat.not_lt_zero _)
    | succ f9 => exact hb n9 _ (fun m9 hm a1_2 V9 hI => ih m9 hm f9 (by omega) a1_2 V9 hI) a1_2 V9 hI
theorem lr_X11_waysAgreeWithCuts_20 {a1_2 : Int32} {kx : Int32 → am_V → am_R} {P : am_P} (I : Nat → Int32 → am_V → Prop) (hb : ∀ (n9 : Nat) (kr : Int32 → am_V → am_R), (∀ m9, m9 < n9 → ∀ (a2_20 : Int32) (V9 : am_V), I m9 a2_20 V9 → TT (kr a2_20 V9) P) → ∀ (a2_20 : Int32) (V9 : am_V), I n9 a2_20 V9 → TT (bd_X11_waysAgreeWithCuts_20 a1_2 kx kr a2_20 V9) P) : ∀ (n9 f9 : Nat), n9 < f9 → ∀ (a2_20 : Int32) (V9 : am_V), I n9 a2_20 V9 → TT (lp_X11_waysAgreeWithCuts_20 a1_2 kx f9 a2_20 V9) P := by
  intro n9
  induction n9 using Nat.strongRecOn with
  | ind n9 ih =>
    intro f9 hf a2_20 V9 hI
    cases f9 with
    | zero => exact absurd hf (Nat.not_lt_zero _)
    | succ f9 => exact hb n9 _ (fun m9 hm a2_20 V9 hI => ih m9 hm f9 (by omega) a2_20 V9 hI) a2_20 V9 hI
theorem lr_X11_waysAgreeWithCuts_2 {kx : Int32 → am_V → am_R} {P : am_P} (I : Nat → Int32 → am_V → Prop) (hb : ∀ (n9 : Nat) (kr : Int32 → am_V → am_R), (∀ m9, m9 < n9 → ∀ (a1_2 : Int32) (V9 : am_V), I m9 a1_2 V9 → TT (kr a1_2 V9) P) → ∀ (a1_2 : Int32) (V9 : am_V), I n9 a1_2 V9 → TT (bd_X11_waysAgreeWithCuts_2  kx kr a1_2 V9) P) : ∀ (n9 f9 : Nat), n9 < f9 → ∀ (a1_2 : Int32) (V9 : am_V), I n9 a1_2 V9 → TT (lp_X11_waysAgreeWithCuts_2  kx f9 a1_2 V9) P := by
  intro n9
  induction n9 using Nat.strongRecOn with
  | ind n9 ih =>
    intro f9 hf a1_2 V9 hI
    cases f9 with
    | zero => exact absurd hf (Nat.not_lt_zero _)
    | succ f9 => exact hb n9 _ (fun m9 hm a1_2 V9 hI => ih m9 hm f9 (by omega) a1_2 V9 hI) a1_2 V9 hI
theorem lr_X11_coveredCount_4 {kx : Int32 → Int32 → am_V → am_R} {P : am_P} (I : Nat → Int32 → Int32 → am_V → Prop) (hb : ∀ (n9 : Nat) (kr : Int32 → Int32 → am_V → am_R), (∀ m9, m9 < n9 → ∀ (a1_4 : Int32) (a2_4 : Int32) (V9 : am_V), I m9 a1_4 a2_4 V9 → TT (kr a1_4 a2_4 V9) P) → ∀ (a1_4 : Int32) (a2_4 : Int32) (V9 : am_V), I n9 a1_4 a2_4 V9 → TT (bd_X11_coveredCount_4  kx kr a1_4 a2_4 V9) P) : ∀ (n9 f9 : Nat), n9 < f9 → ∀ (a1_4 : Int32) (a2_4 : Int32) (V9 : am_V), I n9 a1_4 a2_4 V9 → TT (lp_X11_coveredCount_4  kx f9 a1_4 a2_4 V9) P := by
  intro n9
  induction n9 using Nat.strongRecOn with
  | ind n9 ih =>
    intro f9 hf a1_4 a2_4 V9 hI
    cases f9 with
    | zero => exact absurd hf (Nat.not_lt_zero _)
    | succ f9 => exact hb n9 _ (fun m9 hm a1_4 a2_4 V9 hI => ih m9 hm f9 (by omega) a1_4 a2_4 V9 hI) a1_4 a2_4 V9 hI
theorem lr_X11_fieldByPackets_2 {x1 : Int32} {kx : Int32 → am_V → am_R} {P : am_P} (I : Nat → Int32 → am_V → Prop) (hb : ∀ (n9 : Nat) (kr : Int32 → am_V → am_R), (∀ m9, m9 < n9 → ∀ (a2_2 : Int32) (V9 : am_V), I m9 a2_2 V9 → TT (kr a2_2 V9) P) → ∀ (a2_2 : Int32) (V9 : am_V), I n9 a2_2 V9 → TT (bd_X11_fieldByPackets_2 x1 kx kr a2_2 V9) P) : ∀ (n9 f9 : Nat), n9 < f9 → ∀ (a2_2 : Int32) (V9 : am_V), I n9 a2_2 V9 → TT (lp_X11_fieldByPackets_2 x1 kx f9 a2_2 V9) P := by
  intro n9
  induction n9 using Nat.strongRecOn with
  | ind n9 ih =>
    intro f9 hf a2_2 V9 hI
    cases f9 with
    | zero => exact absurd hf (Nat.not_lt_zero _)
    | succ f9 => exact hb n9 _ (fun m9 hm a2_2 V9 hI => ih m9 hm f9 (by omega) a2_2 V9 hI) a2_2 V9 hI
theorem lr_X11_pathByUse_2 {x1 : Int32} {kx : Int32 → am_V → am_R} {P : am_P} (I : Nat → Int32 → am_V → Prop) (hb : ∀ (n9 : Nat) (kr : Int32 → am_V → am_R), (∀ m9, m9 < n9 → ∀ (a2_2 : Int32) (V9 : am_V), I m9 a2_2 V9 → TT (kr a2_2 V9) P) → ∀ (a2_2 : Int32) (V9 : am_V), I n9 a2_2 V9 → TT (bd_X11_pathByUse_2 x1 kx kr a2_2 V9) P) : ∀ (n9 f9 : Nat), n9 < f9 → ∀ (a2_2 : Int32) (V9 : am_V), I n9 a2_2 V9 → TT (lp_X11_pathByUse_2 x1 kx f9 a2_2 V9) P := by
  intro n9
  induction n9 using Nat.strongRecOn with
  | ind n9 ih =>
    intro f9 hf a2_2 V9 hI
    cases f9 with
    | zero => exact absurd hf (Nat.not_lt_zero _)
    | succ f9 => exact hb n9 _ (fun m9 hm a2_2 V9 hI => ih m9 hm f9 (by omega) a2_2 V9 hI) a2_2 V9 hI
theorem lr_X11_writeField_53 {x1 : Int32} {kx : Int32 → am_V → am_R} {P : am_P} (I : Nat → Int32 → am_V → Prop) (hb : ∀ (n9 : Nat) (kr : Int32 → am_V → am_R), (∀ m9, m9 < n9 → ∀ (a2_53 : Int32) (V9 : am_V), I m9 a2_53 V9 → TT (kr a2_53 V9) P) → ∀ (a2_53 : Int32) (V9 : am_V), I n9 a2_53 V9 → TT (bd_X11_writeField_53 x1 kx kr a2_53 V9) P) : ∀ (n9 f9 : Nat), n9 < f9 → ∀ (a2_53 : Int32) (V9 : am_V), I n9 a2_53 V9 → TT (lp_X11_writeField_53 x1 kx f9 a2_53 V9) P := by
  intro n9
  induction n9 using Nat.strongRecOn with
  | ind n9 ih =>
    intro f9 hf a2_53 V9 hI
    cases f9 with
    | zero => exact absurd hf (Nat.not_lt_zero _)
    | succ f9 => exact hb n9 _ (fun m9 hm a2_53 V9 hI => ih m9 hm f9 (by omega) a2_53 V9 hI) a2_53 V9 hI
