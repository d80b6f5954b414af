theorem lr_L_digest_95 {kx : Int64 → Int32 → am_V → am_R} {P : am_P} (I : Nat → Int64 → Int32 → am_V → Prop) (hb : ∀ (n9 : Nat) (kr : Int64 → Int32 → am_V → am_R), (∀ m9, m9 < n9 → ∀ (a1_95 : Int64) (a3_95 : Int32) (V9 : am_V), I m9 a1_95 a3_95 V9 → TT (kr a1_95 a3_95 V9) P) → ∀ (a1_95 : Int64) (a3_95 : Int32) (V9 : am_V), I n9 a1_95 a3_95 V9 → TT (bd_L_digest_95  kx kr a1_95 a3_95 V9) P) : ∀ (n9 f9 : Nat), n9 < f9 → ∀ (a1_95 : Int64) (a3_95 : Int32) (V9 : am_V), I n9 a1_95 a3_95 V9 → TT (lp_L_digest_95  kx f9 a1_95 a3_95 V9) P := by
  intro n9
  induction n9 using Nat.strongRecOn with
  | ind n9 ih =>
    intro f9 hf a1_95 a3_95 V9 hI
    cases f9 with
    | zero => exact absurd hf (Nat.not_lt_zero _)
    | succ f9 => exact hb n9 _ (fun m9 hm a1_95 a3_95 V9 hI => ih m9 hm f9 (by omega) a1_95 a3_95 V9 hI) a1_95 a3_95 V9 hI
theorem lr_L_digest_146 {kx : Int64 → Int32 → am_V → am_R} {P : am_P} (I : Nat → Int64 → Int32 → am_V → Prop) (hb : ∀ (n9 : Nat) (kr : Int64 → Int32 → am_V → am_R), (∀ m9, m9 < n9 → ∀ (a1_146 : Int64) (a3_146 : Int32) (V9 : am_V), I m9 a1_146 a3_146 V9 → TT (kr a1_146 a3_146 V9) P) → ∀ (a1_146 : Int64) (a3_146 : Int32) (V9 : am_V), I n9 a1_146 a3_146 V9 → TT (bd_L_digest_146  kx kr a1_146 a3_146 V9) P) : ∀ (n9 f9 : Nat), n9 < f9 → ∀ (a1_146 : Int64) (a3_146 : Int32) (V9 : am_V), I n9 a1_146 a3_146 V9 → TT (lp_L_digest_146  kx f9 a1_146 a3_146 V9) P := by
  intro n9
  induction n9 using Nat.strongRecOn with
  | ind n9 ih =>
    intro f9 hf a1_146 a3_146 V9 hI
    cases f9 with
    | zero => exact absurd hf (Nat.not_lt_zero _)
    | succ f9 => exact hb n9 _ (fun m9 hm a1_146 a3_146 V9 hI => ih m9 hm f9 (by omega) a1_146 a3_146 V9 hI) a1_146 a3_146 V9 hI
theorem lr_L_areEdges_12 {kx : Int32 → Int32 → Int32 → Int32 → Int32 → am_V → am_R} {P : am_P} (I : Nat → Int32 → Int32 → Int32 → Int32 → Int32 → am_V → Prop) (hb : ∀ (n9 : Nat) (kr : Int32 → Int32 → Int32 → Int32 → Int32 → am_V → am_R), (∀ m9, m9 < n9 → ∀ (a1_12 : Int32) (a2_12 : Int32) (a3_12 : Int32) (a4_12 : Int32) (a5_12 : Int32) (V9 : am_V), I m9 a1_12 a2_12 a3_12 a4_12 a5_12 V9 → TT (kr a1_12 a2_12 a3_12 a4_12 a5_12 V9) P) → ∀ (a1_12 : Int32) (a2_12 : Int32) (a3_12 : Int32) (a4_12 : Int32) (a5_12 : Int32) (V9 : am_V), I n9 a1_12 a2_12 a3_12 a4_12 a5_12 V9 → TT (bd_L_areEdges_12  kx kr a1_12 a2_12 a3_12 a4_12 a5_12 V9) P) : ∀ (n9 f9 : Nat), n9 < f9 → ∀ (a1_12 : Int32) (a2_12 : Int32) (a3_12 : Int32) (a4_12 : Int32) (a5_12 : Int32) (V9 : am_V), I n9 a1_12 a2_12 a3_12 a4_12 a5_12 V9 → TT (lp_L_areEdges_12  kx f9 a1_12 a2_12 a3_12 a4_12 a5_12 V9) P := by
  intro n9
  induction n9 using Nat.strongRecOn with
  | ind n9 ih =>
    intro f9 hf a1_12 a2_12 a3_12 a4_12 a5_12 V9 hI
    cases f9 with
    | zero => exact absurd hf (Nat.not_lt_zero _)
    | succ f9 => exact hb n9 _ (fun m9 hm a1_12 a2_12 a3_12 a4_12 a5_12 V9 hI => ih m9 hm f9 (by omega) a1_12 a2_12 a3_12 a4_12 a5_12 V9 hI) a1_12 a2_12 a3_12 a4_12 a5_12 V9 hI
theorem lr_L_arePairs_24 {a1_6 : Int32} {a3_6 : Int32} {kx : Int32 → Int32 → Int32 → am_V → am_R} {P : am_P} (I : Nat → Int32 → Int32 → Int32 → am_V → Prop) (hb : ∀ (n9 : Nat) (kr : Int32 → Int32 → Int32 → am_V → am_R), (∀ m9, m9 < n9 → ∀ (a2_24 : Int32) (a4_24 : Int32) (a5_24 : Int32) (V9 : am_V), I m9 a2_24 a4_24 a5_24 V9 → TT (kr a2_24 a4_24 a5_24 V9) P) → ∀ (a2_24 : Int32) (a4_24 : Int32) (a5_24 : Int32) (V9 : am_V), I n9 a2_24 a4_24 a5_24 V9 → TT (bd_L_arePairs_24 a1_6 a3_6 kx kr a2_24 a4_24 a5_24 V9) P) : ∀ (n9 f9 : Nat), n9 < f9 → ∀ (a2_24 : Int32) (a4_24 : Int32) (a5_24 : Int32) (V9 : am_V), I n9 a2_24 a4_24 a5_24 V9 → TT (lp_L_arePairs_24 a1_6 a3_6 kx f9 a2_24 a4_24 a5_24 V9) P := by
  intro n9
  induction n9 using Nat.strongRecOn with
  | ind n9 ih =>
    intro f9 hf a2_24 a4_24 a5_24 V9 hI
    cases f9 with
    | zero => exact absurd hf (Nat.not_lt_zero _)
    | succ f9 => exact hb n9 _ (fun m9 hm a2_24 a4_24 a5_24 V9 hI => ih m9 hm f9 (by omega) a2_24 a4_24 a5_24 V9 hI) a2_24 a4_24 a5_24 V9 hI
theorem lr_L_arePairs_6 {kx : Int32 → Int32 → Int32 → am_V → am_R} {P : am_P} (I : Nat → Int32 → Int32 → Int32 → am_V → Prop) (hb : ∀ (n9 : Nat) (kr : Int32 → Int32 → Int32 → am_V → am_R), (∀ m9, m9 < n9 → ∀ (a1_6 : Int32) (a2_6 : Int32) (a3_6 : Int32) (V9 : am_V), I m9 a1_6 a2_6 a3_6 V9 → TT (kr a1_6 a2_6 a3_6 V9) P) → ∀ (a1_6 : Int32) (a2_6 : Int32) (a3_6 : Int32) (V9 : am_V), I n9 a1_6 a2_6 a3_6 V9 → TT (bd_L_arePairs_6  kx kr a1_6 a2_6 a3_6 V9) P) : ∀ (n9 f9 : Nat), n9 < f9 → ∀ (a1_6 : Int32) (a2_6 : Int32) (a3_6 : Int32) (V9 : am_V), I n9 a1_6 a2_6 a3_6 V9 → TT (lp_L_arePairs_6  kx f9 a1_6 a2_6 a3_6 V9) P := by
  intro n9
  induction n9 using Nat.strongRecOn with
  | ind n9 ih =>
    intro f9 hf a1_6 a2_6 a3_6 V9 hI
    cases f9 with
    | zero => exact absurd hf (Nat.not_lt_zero _)
    | succ f9 => exact hb n9 _ (fun m9 hm a1_6 a2_6 a3_6 V9 hI => ih m9 hm f9 (by omega) a1_6 a2_6 a3_6 V9 hI) a1_6 a2_6 a3_6 V9 hI
theorem lr_L_isStep_3 {x1 : Int32} {x2 : Int32} {x3 : Int32} {kx : Int32 → am_V → am_R} {P : am_P} (I : Nat → Int32 → am_V → Prop) (hb : ∀ (n9 : Nat) (kr : Int32 → am_V → am_R), (∀ m9, m9 < n9 → ∀ (a4_3 : Int32) (V9 : am_V), I m9 a4_3 V9 → TT (kr a4_3 V9) P) → ∀ (a4_3 : Int32) (V9 : am_V), I n9 a4_3 V9 → TT (bd_L_isStep_3 x1 x2 x3 kx kr a4_3 V9) P) : ∀ (n9 f9 : Nat), n9 < f9 → ∀ (a4_3 : Int32) (V9 : am_V), I n9 a4_3 V9 → TT (lp_L_isStep_3 x1 x2 x3 kx f9 a4_3 V9) P := by
  intro n9
  induction n9 using Nat.strongRecOn with
  | ind n9 ih =>
    intro f9 hf a4_3 V9 hI
    cases f9 with
    | zero => exact absurd hf (Nat.not_lt_zero _)
    | succ f9 => exact hb n9 _ (fun m9 hm a4_3 V9 hI => ih m9 hm f9 (by omega) a4_3 V9 hI) a4_3 V9 hI
theorem lr_L_isTree_13 {x1 : Int32} {kx : Int32 → Int32 → Int32 → Int32 → am_V → am_R} {P : am_P} (I : Nat → Int32 → Int32 → Int32 → Int32 → am_V → Prop) (hb : ∀ (n9 : Nat) (kr : Int32 → Int32 → Int32 → Int32 → am_V → am_R), (∀ m9, m9 < n9 → ∀ (a2_13 : Int32) (a3_13 : Int32) (a5_13 : Int32) (a6_13 : Int32) (V9 : am_V), I m9 a2_13 a3_13 a5_13 a6_13 V9 → TT (kr a2_13 a3_13 a5_13 a6_13 V9) P) → ∀ (a2_13 : Int32) (a3_13 : Int32) (a5_13 : Int32) (a6_13 : Int32) (V9 : am_V), I n9 a2_13 a3_13 a5_13 a6_13 V9 → TT (bd_L_isTree_13 x1 kx kr a2_13 a3_13 a5_13 a6_13 V9) P) : ∀ (n9 f9 : Nat), n9 < f9 → ∀ (a2_13 : Int32) (a3_13 : Int32) (a5_13 : Int32) (a6_13 : Int32) (V9 : am_V), I n9 a2_13 a3_13 a5_13 a6_13 V9 → TT (lp_L_isTree_13 x1 kx f9 a2_13 a3_13 a5_13 a6_13 V9) P := by
  intro n9
  induction n9 using Nat.strongRecOn with
  | ind n9 ih =>
    intro f9 hf a2_13 a3_13 a5_13 a6_13 V9 hI
    cases f9 with
    | zero => exact absurd hf (Nat.not_lt_zero _)
    | succ f9 => exact hb n9 _ (fun m9 hm a2_13 a3_13 a5_13 a6_13 V9 hI => ih m9 hm f9 (by omega) a2_13 a3_13 a5_13 a6_13 V9 hI) a2_13 a3_13 a5_13 a6_13 V9 hI
theorem lr_L_isTree_95 {x1 : Int32} {a2_13 : Int32} {a3_13 : Int32} {kx : Int32 → Int32 → Int32 → am_V → am_R} {P : am_P} (I : Nat → Int32 → Int32 → Int32 → am_V → Prop) (hb : ∀ (n9 : Nat) (kr : Int32 → Int32 → Int32 → am_V → am_R), (∀ m9, m9 < n9 → ∀ (a4_95 : Int32) (a5_95 : Int32) (a6_95 : Int32) (V9 : am_V), I m9 a4_95 a5_95 a6_95 V9 → TT (kr a4_95 a5_95 a6_95 V9) P) → ∀ (a4_95 : Int32) (a5_95 : Int32) (a6_95 : Int32) (V9 : am_V), I n9 a4_95 a5_95 a6_95 V9 → TT (bd_L_isTree_95 x1 a2_13 a3_13 kx kr a4_95 a5_95 a6_95 V9) P) : ∀ (n9 f9 : Nat), n9 < f9 → ∀ (a4_95 : Int32) (a5_95 : Int32) (a6_95 : Int32) (V9 : am_V), I n9 a4_95 a5_95 a6_95 V9 → TT (lp_L_isTree_95 x1 a2_13 a3_13 kx f9 a4_95 a5_95 a6_95 V9) P := by
  intro n9
  induction n9 using Nat.strongRecOn with
  | ind n9 ih =>
    intro f9 hf a4_95 a5_95 a6_95 V9 hI
    cases f9 with
    | zero => exact absurd hf (Nat.not_lt_zero _)
    | succ f9 => exact hb n9 _ (fun m9 hm a4_95 a5_95 a6_95 V9 hI => ih m9 hm f9 (by omega) a4_95 a5_95 a6_95 V9 hI) a4_95 a5_95 a6_95 V9 hI
theorem lr_L_arePackets_104 {y2 : Int32} {bs0_22 : Int32} {a1_69 : Int32} {a5_69 : Int32} {bs0_99 : Int32} {kx : Int32 → Int32 → am_V → am_R} {P : am_P} (I : Nat → Int32 → Int32 → am_V → Prop) (hb : ∀ (n9 : Nat) (kr : Int32 → Int32 → am_V → am_R), (∀ m9, m9 < n9 → ∀ (a6_104 : Int32) (a8_104 : Int32) (V9 : am_V), I m9 a6_104 a8_104 V9 → TT (kr a6_104 a8_104 V9) P) → ∀ (a6_104 : Int32) (a8_104 : Int32) (V9 : am_V), I n9 a6_104 a8_104 V9 → TT (bd_L_arePackets_104 y2 bs0_22 a1_69 a5_69 bs0_99 kx kr a6_104 a8_104 V9) P) : ∀ (n9 f9 : Nat), n9 < f9 → ∀ (a6_104 : Int32) (a8_104 : Int32) (V9 : am_V), I n9 a6_104 a8_104 V9 → TT (lp_L_arePackets_104 y2 bs0_22 a1_69 a5_69 bs0_99 kx f9 a6_104 a8_104 V9) P := by
  intro n9
  induction n9 using Nat.strongRecOn with
  | ind n9 ih =>
    intro f9 hf a6_104 a8_104 V9 hI
    cases f9 with
    | zero => exact absurd hf (Nat.not_lt_zero _)
    | succ f9 => exact hb n9 _ (fun m9 hm a6_104 a8_104 V9 hI => ih m9 hm f9 (by omega) a6_104 a8_104 V9 hI) a6_104 a8_104 V9 hI
theorem lr_L_arePackets_69 {y2 : Int32} {bs0_22 : Int32} {kx : Int32 → Int32 → Int32 → am_V → am_R} {P : am_P} (I : Nat → Int32 → Int32 → Int32 → am_V → Prop) (hb : ∀ (n9 : Nat) (kr : Int32 → Int32 → Int32 → am_V → am_R), (∀ m9, m9 < n9 → ∀ (a1_69 : Int32) (a4_69 : Int32) (a5_69 : Int32) (V9 : am_V), I m9 a1_69 a4_69 a5_69 V9 → TT (kr a1_69 a4_69 a5_69 V9) P) → ∀ (a1_69 : Int32) (a4_69 : Int32) (a5_69 : Int32) (V9 : am_V), I n9 a1_69 a4_69 a5_69 V9 → TT (bd_L_arePackets_69 y2 bs0_22 kx kr a1_69 a4_69 a5_69 V9) P) : ∀ (n9 f9 : Nat), n9 < f9 → ∀ (a1_69 : Int32) (a4_69 : Int32) (a5_69 : Int32) (V9 : am_V), I n9 a1_69 a4_69 a5_69 V9 → TT (lp_L_arePackets_69 y2 bs0_22 kx f9 a1_69 a4_69 a5_69 V9) P := by
  intro n9
  induction n9 using Nat.strongRecOn with
  | ind n9 ih =>
    intro f9 hf a1_69 a4_69 a5_69 V9 hI
    cases f9 with
    | zero => exact absurd hf (Nat.not_lt_zero _)
    | succ f9 => exact hb n9 _ (fun m9 hm a1_69 a4_69 a5_69 V9 hI => ih m9 hm f9 (by omega) a1_69 a4_69 a5_69 V9 hI) a1_69 a4_69 a5_69 V9 hI
theorem lr_L_arePackets_222 {y2 : Int32} {a1_69 : Int32} {kx : Int32 → Int32 → am_V → am_R} {P : am_P} (I : Nat → Int32 → Int32 → am_V → Prop) (hb : ∀ (n9 : Nat) (kr : Int32 → Int32 → am_V → am_R), (∀ m9, m9 < n9 → ∀ (a4_222 : Int32) (a5_222 : Int32) (V9 : am_V), I m9 a4_222 a5_222 V9 → TT (kr a4_222 a5_222 V9) P) → ∀ (a4_222 : Int32) (a5_222 : Int32) (V9 : am_V), I n9 a4_222 a5_222 V9 → TT (bd_L_arePackets_222 y2 a1_69 kx kr a4_222 a5_222 V9) P) : ∀ (n9 f9 : Nat), n9 < f9 → ∀ (a4_222 : Int32) (a5_222 : Int32) (V9 : am_V), I n9 a4_222 a5_222 V9 → TT (lp_L_arePackets_222 y2 a1_69 kx f9 a4_222 a5_222 V9) P := by
  intro n9
  induction n9 using Nat.strongRecOn with
  | ind n9 ih =>
    intro f9 hf a4_222 a5_222 V9 hI
    cases f9 with
    | zero => exact absurd hf (Nat.not_lt_zero _)
    | succ f9 => exact hb n9 _ (fun m9 hm a4_222 a5_222 V9 hI => ih m9 hm f9 (by omega) a4_222 a5_222 V9 hI) a4_222 a5_222 V9 hI
theorem lr_L_arePackets_324 {a1_69 : Int32} {kx : Int32 → Int32 → am_V → am_R} {P : am_P} (I : Nat → Int32 → Int32 → am_V → Prop) (hb : ∀ (n9 : Nat) (kr : Int32 → Int32 → am_V → am_R), (∀ m9, m9 < n9 → ∀ (a4_324 : Int32) (a5_324 : Int32) (V9 : am_V), I m9 a4_324 a5_324 V9 → TT (kr a4_324 a5_324 V9) P) → ∀ (a4_324 : Int32) (a5_324 : Int32) (V9 : am_V), I n9 a4_324 a5_324 V9 → TT (bd_L_arePackets_324 a1_69 kx kr a4_324 a5_324 V9) P) : ∀ (n9 f9 : Nat), n9 < f9 → ∀ (a4_324 : Int32) (a5_324 : Int32) (V9 : am_V), I n9 a4_324 a5_324 V9 → TT (lp_L_arePackets_324 a1_69 kx f9 a4_324 a5_324 V9) P := by
  intro n9
  induction n9 using Nat.strongRecOn with
  | ind n9 ih =>
    intro f9 hf a4_324 a5_324 V9 hI
    cases f9 with
    | zero => exact absurd hf (Nat.not_lt_zero _)
    | succ f9 => exact hb n9 _ (fun m9 hm a4_324 a5_324 V9 hI => ih m9 hm f9 (by omega) a4_324 a5_324 V9 hI) a4_324 a5_324 V9 hI
theorem lr_L_isFit_29 {kx : Int32 → Int32 → am_V → am_R} {P : am_P} (I : Nat → Int32 → Int32 → am_V → Prop) (hb : ∀ (n9 : Nat) (kr : Int32 → Int32 → am_V → am_R), (∀ m9, m9 < n9 → ∀ (a1_29 : Int32) (a2_29 : Int32) (V9 : am_V), I m9 a1_29 a2_29 V9 → TT (kr a1_29 a2_29 V9) P) → ∀ (a1_29 : Int32) (a2_29 : Int32) (V9 : am_V), I n9 a1_29 a2_29 V9 → TT (bd_L_isFit_29  kx kr a1_29 a2_29 V9) P) : ∀ (n9 f9 : Nat), n9 < f9 → ∀ (a1_29 : Int32) (a2_29 : Int32) (V9 : am_V), I n9 a1_29 a2_29 V9 → TT (lp_L_isFit_29  kx f9 a1_29 a2_29 V9) P := by
  intro n9
  induction n9 using Nat.strongRecOn with
  | ind n9 ih =>
    intro f9 hf a1_29 a2_29 V9 hI
    cases f9 with
    | zero => exact absurd hf (Nat.not_lt_zero _)
    | succ f9 => exact hb n9 _ (fun m9 hm a1_29 a2_29 V9 hI => ih m9 hm f9 (by omega) a1_29 a2_29 V9 hI) a1_29 a2_29 V9 hI
