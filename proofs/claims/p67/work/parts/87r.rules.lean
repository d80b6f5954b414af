theorem lr_L_law_10 {sc : am_Sc} {kx : Int32 → am_V → am_R} {P : am_P} (I : Nat → Int32 → am_V → Prop) (hb : ∀ (n9 : Nat) (kr : Int32 → am_V → am_R), (∀ m9, m9 < n9 → ∀ (a2_10 : Int32) (V9 : am_V), I m9 a2_10 V9 → TT (kr a2_10 V9) P) → ∀ (a2_10 : Int32) (V9 : am_V), I n9 a2_10 V9 → TT (bd_L_law_10 sc kx kr a2_10 V9) P) : ∀ (n9 f9 : Nat), n9 < f9 → ∀ (a2_10 : Int32) (V9 : am_V), I n9 a2_10 V9 → TT (lp_L_law_10 sc kx f9 a2_10 V9) P := by
  intro n9
  induction n9 using Nat.strongRecOn with
  | ind n9 ih =>
    intro f9 hf a2_10 V9 hI
    cases f9 with
    | zero => exact absurd hf (Nat.not_lt_zero _)
    | succ f9 => exact hb n9 _ (fun m9 hm a2_10 V9 hI => ih m9 hm f9 (by omega) a2_10 V9 hI) a2_10 V9 hI
theorem lr_L_law_110 {sc : am_Sc} {bs0_107 : Int32} {kx : Int32 → am_V → am_R} {P : am_P} (I : Nat → Int32 → am_V → Prop) (hb : ∀ (n9 : Nat) (kr : Int32 → am_V → am_R), (∀ m9, m9 < n9 → ∀ (a3_110 : Int32) (V9 : am_V), I m9 a3_110 V9 → TT (kr a3_110 V9) P) → ∀ (a3_110 : Int32) (V9 : am_V), I n9 a3_110 V9 → TT (bd_L_law_110 sc bs0_107 kx kr a3_110 V9) P) : ∀ (n9 f9 : Nat), n9 < f9 → ∀ (a3_110 : Int32) (V9 : am_V), I n9 a3_110 V9 → TT (lp_L_law_110 sc bs0_107 kx f9 a3_110 V9) P := by
  intro n9
  induction n9 using Nat.strongRecOn with
  | ind n9 ih =>
    intro f9 hf a3_110 V9 hI
    cases f9 with
    | zero => exact absurd hf (Nat.not_lt_zero _)
    | succ f9 => exact hb n9 _ (fun m9 hm a3_110 V9 hI => ih m9 hm f9 (by omega) a3_110 V9 hI) a3_110 V9 hI
theorem lr_L_law_178 {y28 : Int64} {y30 : Int32} {kx : Int32 → Int32 → am_V → am_R} {P : am_P} (I : Nat → Int32 → Int32 → am_V → Prop) (hb : ∀ (n9 : Nat) (kr : Int32 → Int32 → am_V → am_R), (∀ m9, m9 < n9 → ∀ (a3_178 : Int32) (a7_178 : Int32) (V9 : am_V), I m9 a3_178 a7_178 V9 → TT (kr a3_178 a7_178 V9) P) → ∀ (a3_178 : Int32) (a7_178 : Int32) (V9 : am_V), I n9 a3_178 a7_178 V9 → TT (bd_L_law_178 y28 y30 kx kr a3_178 a7_178 V9) P) : ∀ (n9 f9 : Nat), n9 < f9 → ∀ (a3_178 : Int32) (a7_178 : Int32) (V9 : am_V), I n9 a3_178 a7_178 V9 → TT (lp_L_law_178 y28 y30 kx f9 a3_178 a7_178 V9) P := by
  intro n9
  induction n9 using Nat.strongRecOn with
  | ind n9 ih =>
    intro f9 hf a3_178 a7_178 V9 hI
    cases f9 with
    | zero => exact absurd hf (Nat.not_lt_zero _)
    | succ f9 => exact hb n9 _ (fun m9 hm a3_178 a7_178 V9 hI => ih m9 hm f9 (by omega) a3_178 a7_178 V9 hI) a3_178 a7_178 V9 hI
