theorem lr_X3_takeDigits_4 {x1 : Int32} {kx : Int32 → Int32 → am_V → am_R} {P : am_P} (I : Nat → Int32 → Int32 → am_V → Prop) (hb : ∀ (n9 : Nat) (kr : Int32 → Int32 → am_V → am_R), (∀ m9, m9 < n9 → ∀ (a2_4 : Int32) (a3_4 : Int32) (V9 : am_V), I m9 a2_4 a3_4 V9 → TT (kr a2_4 a3_4 V9) P) → ∀ (a2_4 : Int32) (a3_4 : Int32) (V9 : am_V), I n9 a2_4 a3_4 V9 → TT (bd_X3_takeDigits_4 x1 kx kr a2_4 a3_4 V9) P) : ∀ (n9 f9 : Nat), n9 < f9 → ∀ (a2_4 : Int32) (a3_4 : Int32) (V9 : am_V), I n9 a2_4 a3_4 V9 → TT (lp_X3_takeDigits_4 x1 kx f9 a2_4 a3_4 V9) P := by
  intro n9
  induction n9 using Nat.strongRecOn with
  | ind n9 ih =>
    intro f9 hf a2_4 a3_4 V9 hI
    cases f9 with
    | zero => exact absurd hf (Nat.not_lt_zero _)
    | succ f9 => exact hb n9 _ (fun m9 hm a2_4 a3_4 V9 hI => ih m9 hm f9 (by omega) a2_4 a3_4 V9 hI) a2_4 a3_4 V9 hI
theorem lr_X3_takeShape_5 {z : Nat} {w : Nat} {kx : Int32 → Int32 → am_V → am_R} {P : am_P} (I : Nat → Int32 → Int32 → am_V → Prop) (hb : ∀ (n9 : Nat) (kr : Int32 → Int32 → am_V → am_R), (∀ m9, m9 < n9 → ∀ (a3_5 : Int32) (a4_5 : Int32) (V9 : am_V), I m9 a3_5 a4_5 V9 → TT (kr a3_5 a4_5 V9) P) → ∀ (a3_5 : Int32) (a4_5 : Int32) (V9 : am_V), I n9 a3_5 a4_5 V9 → TT (bd_X3_takeShape_5 z w kx kr a3_5 a4_5 V9) P) : ∀ (n9 f9 : Nat), n9 < f9 → ∀ (a3_5 : Int32) (a4_5 : Int32) (V9 : am_V), I n9 a3_5 a4_5 V9 → TT (lp_X3_takeShape_5 z w kx f9 a3_5 a4_5 V9) P := by
  intro n9
  induction n9 using Nat.strongRecOn with
  | ind n9 ih =>
    intro f9 hf a3_5 a4_5 V9 hI
    cases f9 with
    | zero => exact absurd hf (Nat.not_lt_zero _)
    | succ f9 => exact hb n9 _ (fun m9 hm a3_5 a4_5 V9 hI => ih m9 hm f9 (by omega) a3_5 a4_5 V9 hI) a3_5 a4_5 V9 hI
theorem lr_X3_readCommand_4 {x1 : Int32} {kx : Int32 → Int32 → am_V → am_R} {P : am_P} (I : Nat → Int32 → Int32 → am_V → Prop) (hb : ∀ (n9 : Nat) (kr : Int32 → Int32 → am_V → am_R), (∀ m9, m9 < n9 → ∀ (a2_4 : Int32) (a3_4 : Int32) (V9 : am_V), I m9 a2_4 a3_4 V9 → TT (kr a2_4 a3_4 V9) P) → ∀ (a2_4 : Int32) (a3_4 : Int32) (V9 : am_V), I n9 a2_4 a3_4 V9 → TT (bd_X3_readCommand_4 x1 kx kr a2_4 a3_4 V9) P) : ∀ (n9 f9 : Nat), n9 < f9 → ∀ (a2_4 : Int32) (a3_4 : Int32) (V9 : am_V), I n9 a2_4 a3_4 V9 → TT (lp_X3_readCommand_4 x1 kx f9 a2_4 a3_4 V9) P := by
  intro n9
  induction n9 using Nat.strongRecOn with
  | ind n9 ih =>
    intro f9 hf a2_4 a3_4 V9 hI
    cases f9 with
    | zero => exact absurd hf (Nat.not_lt_zero _)
    | succ f9 => exact hb n9 _ (fun m9 hm a2_4 a3_4 V9 hI => ih m9 hm f9 (by omega) a2_4 a3_4 V9 hI) a2_4 a3_4 V9 hI
theorem lr_X3_readAll_10 {kx : am_V → am_R} {P : am_P} (I : Nat → am_V → Prop) (hb : ∀ (n9 : Nat) (kr : am_V → am_R), (∀ m9, m9 < n9 → ∀ (V9 : am_V), I m9  V9 → TT (kr  V9) P) → ∀ (V9 : am_V), I n9  V9 → TT (bd_X3_readAll_10  kx kr  V9) P) : ∀ (n9 f9 : Nat), n9 < f9 → ∀ (V9 : am_V), I n9  V9 → TT (lp_X3_readAll_10  kx f9  V9) P := by
  intro n9
  induction n9 using Nat.strongRecOn with
  | ind n9 ih =>
    intro f9 hf  V9 hI
    cases f9 with
    | zero => exact absurd hf (Nat.not_lt_zero _)
    | succ f9 => exact hb n9 _ (fun m9 hm  V9 hI => ih m9 hm f9 (by omega)  V9 hI)  V9 hI
theorem lr_X11_execute_44 {kx : Int32 → Int32 → am_V → am_R} {P : am_P} (I : Nat → Int32 → Int32 → am_V → Prop) (hb : ∀ (n9 : Nat) (kr : Int32 → Int32 → am_V → am_R), (∀ m9, m9 < n9 → ∀ (a2_44 : Int32) (a3_44 : Int32) (V9 : am_V), I m9 a2_44 a3_44 V9 → TT (kr a2_44 a3_44 V9) P) → ∀ (a2_44 : Int32) (a3_44 : Int32) (V9 : am_V), I n9 a2_44 a3_44 V9 → TT (bd_X11_execute_44  kx kr a2_44 a3_44 V9) P) : ∀ (n9 f9 : Nat), n9 < f9 → ∀ (a2_44 : Int32) (a3_44 : Int32) (V9 : am_V), I n9 a2_44 a3_44 V9 → TT (lp_X11_execute_44  kx f9 a2_44 a3_44 V9) P := by
  intro n9
  induction n9 using Nat.strongRecOn with
  | ind n9 ih =>
    intro f9 hf a2_44 a3_44 V9 hI
    cases f9 with
    | zero => exact absurd hf (Nat.not_lt_zero _)
    | succ f9 => exact hb n9 _ (fun m9 hm a2_44 a3_44 V9 hI => ih m9 hm f9 (by omega) a2_44 a3_44 V9 hI) a2_44 a3_44 V9 hI
theorem lr_L_typed_2 {z : Nat} {kx : Int32 → am_V → am_R} {P : am_P} (I : Nat → Int32 → am_V → Prop) (hb : ∀ (n9 : Nat) (kr : Int32 → am_V → am_R), (∀ m9, m9 < n9 → ∀ (a2_2 : Int32) (V9 : am_V), I m9 a2_2 V9 → TT (kr a2_2 V9) P) → ∀ (a2_2 : Int32) (V9 : am_V), I n9 a2_2 V9 → TT (bd_L_typed_2 z kx kr a2_2 V9) P) : ∀ (n9 f9 : Nat), n9 < f9 → ∀ (a2_2 : Int32) (V9 : am_V), I n9 a2_2 V9 → TT (lp_L_typed_2 z kx f9 a2_2 V9) P := by
  intro n9
  induction n9 using Nat.strongRecOn with
  | ind n9 ih =>
    intro f9 hf a2_2 V9 hI
    cases f9 with
    | zero => exact absurd hf (Nat.not_lt_zero _)
    | succ f9 => exact hb n9 _ (fun m9 hm a2_2 V9 hI => ih m9 hm f9 (by omega) a2_2 V9 hI) a2_2 V9 hI
