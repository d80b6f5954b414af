/-! shapes of the trees and of the commands' rows, slots of the history -/
theorem sh_T0 {t : Nat} (h : t = 20 ∨ t = 30) : am_sh xx t = some (.inl (7, [some (t + 1), some (t + 2), some (t + 3), some (t + 4), some (t + 5)])) := by rcases h with rfl | rfl <;> rfl
theorem sh_T1 {t : Nat} (h : t = 20 ∨ t = 30) : am_sh xx (t + 1) = some (.inr (0, 9, .inl false)) := by rcases h with rfl | rfl <;> rfl
theorem sh_T2 {t : Nat} (h : t = 20 ∨ t = 30) : am_sh xx (t + 2) = some (.inr (0, 9, .inl false)) := by rcases h with rfl | rfl <;> rfl
theorem sh_T3 {t : Nat} (h : t = 20 ∨ t = 30) : am_sh xx (t + 3) = some (.inr (0, 9, .inl false)) := by rcases h with rfl | rfl <;> rfl
theorem sh_T4 {t : Nat} (h : t = 20 ∨ t = 30) : am_sh xx (t + 4) = some (.inr (2, 9, .inl true)) := by rcases h with rfl | rfl <;> rfl
theorem sh_T5 {t : Nat} (h : t = 20 ∨ t = 30) : am_sh xx (t + 5) = some (.inr (0, 9, .inl false)) := by rcases h with rfl | rfl <;> rfl
theorem wr_T0 {t : Nat} (h : t = 20 ∨ t = 30) : am_wr xx t = true := by rcases h with rfl | rfl <;> rfl
theorem wr_T1 {t : Nat} (h : t = 20 ∨ t = 30) : am_wr xx (t + 1) = true := by rcases h with rfl | rfl <;> rfl
theorem wr_T2 {t : Nat} (h : t = 20 ∨ t = 30) : am_wr xx (t + 2) = true := by rcases h with rfl | rfl <;> rfl
theorem wr_T3 {t : Nat} (h : t = 20 ∨ t = 30) : am_wr xx (t + 3) = true := by rcases h with rfl | rfl <;> rfl
theorem wr_T4 {t : Nat} (h : t = 20 ∨ t = 30) : am_wr xx (t + 4) = true := by rcases h with rfl | rfl <;> rfl
theorem wr_T5 {t : Nat} (h : t = 20 ∨ t = 30) : am_wr xx (t + 5) = true := by rcases h with rfl | rfl <;> rfl
theorem sh_row {w : Nat} (h : w < 12) : am_sh xx (40 + w) = some (.inr (0, 4, .inl false)) := by
  show (if 40 + w < 100 then (if 40 + w = 20 ∨ 40 + w = 30 ∨ 40 + w < 20 then shA (40 + w) else if 40 + w < 26 ∨ 30 < 40 + w then shT (40 + w) else none) else if 40 + w < 292 then shS ((40 + w - 100) / 16) ((40 + w - 100) % 16) else shZ (40 + w)) = _
  rw [if_pos (by omega), if_neg (by omega), if_pos (by omega)]
  unfold shT
  rw [if_neg (by omega), if_pos (by omega)]
theorem wr_row {w : Nat} (h : w < 12) : am_wr xx (40 + w) = true := decide_eq_true (by omega)
theorem am_in_lt {i : Int32} {n : Nat} (h : am_in i n = true) : iN i < n := Nat.not_le.mp fun q => am_in_ok h (Or.inr q)
section
variable {U : am_U} {l : Launch} {G : am_G} {own : String} {cc : ByteArray} {nL fr c lo kc pc pc' : Nat} {ret : Option FieldType} {V V1 : am_V} {r : (Option Value ⊕ String) × am_V} {L L' : List (Option Value)} {st st' : List Value}
theorem AE.aaldS {i : Int32} {m : am_R} (K : aK U l G own cc nL ret fr c lo) (hdg : decode cc pc = .ok (.aaload, 1)) (h : rG (am_in i 9) m = some r) (kk : 3 + iN i < 12 → m = some r → AE U G nL fr c lo r kc V (pc + 1) L (.ref (sS (3 + iN i)) :: st)) : AE U G nL fr c lo r kc V pc L (.int i :: .ref 3 :: st) :=
  AW.aald (t := 3) (n := 9) (g := fun j _ => some (sS (3 + j))) (C := .object "DandelionBroadcast$State") K.2.2.2.1 rfl (by decide) rfl rfl (am_in_ok (rG_t h).1) rfl hdg (kk (by have := am_in_lt (rG_t h).1; omega) (rG_t h).2)
theorem AE.aaldR {i : Int32} {m : am_R} (K : aK U l G own cc nL ret fr c lo) (hdg : decode cc pc = .ok (.aaload, 1)) (h : rG (am_in i 12) m = some r) (kk : iN i < 12 → m = some r → AE U G nL fr c lo r kc V (pc + 1) L (.ref (40 + iN i) :: st)) : AE U G nL fr c lo r kc V pc L (.int i :: .ref 15 :: st) :=
  AW.aald (t := 5) (n := 12) (g := fun j _ => some (40 + j)) (C := .array .int) K.2.2.2.1 rfl (by decide) rfl rfl (am_in_ok (rG_t h).1) rfl hdg (kk (by have := am_in_lt (rG_t h).1; omega) (rG_t h).2)
theorem AE.gd {b : Bool} {m : am_R} (h : rG b m = some r) (kk : b = true → m = some r → AE U G nL fr c lo r kc V pc L st) : AE U G nL fr c lo r kc V pc L st := kk (rG_t h).1 (rG_t h).2
end
