/-! ===== the claim's own: its words by their places, its shapes ===== -/
def am_isN : Cond → Bool
  | .methodLinkNest _ _ _ _ => true
  | .fieldLinkNest _ _ _ _ _ _ => true
  | .castable _ _ => true
  | .declares _ => true
  | _ => false
def xWS : List Cond := lw_tbl.filter goodWord
def xNS : List Cond := lw_tbl.filter am_isN
theorem x_words : (∀ w ∈ xWS, (w.onTables && w.keeps) = true ∨ ∃ ty, w = .arrayClass ty) ∧ ∀ w ∈ xNS, (∃ (a : String) (i : Nat) (y : MethodName) (h : String), w = .methodLinkNest a i y h) ∨ (∃ (a : String) (i : Nat) (b n d h : String), w = .fieldLinkNest a i b n d h) ∨ (∃ a b : String, w = .castable a b) ∨ ∃ y : MethodName, w = .declares y := by
  refine ⟨fun w hw => good_of_word (List.mem_filter.mp hw).2, fun w hw => ?_⟩
  have h := (List.mem_filter.mp hw).2
  cases w <;> first | exact Or.inl ⟨_, _, _, _, rfl⟩ | exact Or.inr (Or.inl ⟨_, _, _, _, _, _, rfl⟩) | exact Or.inr (Or.inr (Or.inl ⟨_, _, rfl⟩)) | exact Or.inr (Or.inr (Or.inr ⟨_, rfl⟩)) | cases h
theorem x_in {w : Cond} (i : Nat) (h : (decide (lw_tbl[i]? = some w) && goodWord w) = true) : w ∈ xWS := by
  rw [Bool.and_eq_true] at h
  exact List.mem_filter.mpr ⟨List.mem_of_getElem? (of_decide_eq_true h.1), h.2⟩
theorem x_inN {w : Cond} (i : Nat) (h : (decide (lw_tbl[i]? = some w) && am_isN w) = true) : w ∈ xNS := by
  rw [Bool.and_eq_true] at h
  exact List.mem_filter.mpr ⟨List.mem_of_getElem? (of_decide_eq_true h.1), h.2⟩
theorem x_all {ws : List Cond} (ps : List Nat) (h : (decide (ws = ps.filterMap (fun i => lw_tbl[i]?)) && ws.all goodWord) = true) : ∀ w ∈ ws, w ∈ xWS := by
  rw [Bool.and_eq_true] at h
  intro w hw
  have h1 := List.all_eq_true.mp h.2 w hw
  rw [of_decide_eq_true h.1] at hw
  obtain ⟨i, -, hi⟩ := List.mem_filterMap.mp hw
  exact List.mem_filter.mpr ⟨List.mem_of_getElem? hi, h1⟩
/-! shapes: the state i at sS i (0: now, 1: foreseen, 2: snapshot, 3 ..: the history's) -/
def sS (i : Nat) : Nat := 100 + 16 * i
def xLEN : List Nat := [7, 15, 12, 25, 10, 21, 8, 10, 7, 14, 6, 7, 17, 8, 9, 4, 9, 6, 5, 22, 12, 12, 8, 8, 8, 8, 9, 8, 7, 12, 10, 8, 7, 6, 6, 9, 4, 6, 5]
def shA : Nat → Option am_Sh
  | 1 => some (.inl (11, [some (sS 0), some (sS 1), some (sS 2), some 2, some 4, some 20, some 11, some 12, some 13, some 17, none, none, none, none, none, none]))
  | 2 => some (.inl (5, [some 3, none, none]))
  | 3 => some (.inr (3, 9, .inr (fun j _ => some (sS (3 + j)))))
  | 4 => some (.inl (9, [some 5, some 6, some 7, some 8, some 9, some 10, none]))
  | 5 => some (.inr (0, 9, .inl false))
  | 6 => some (.inr (0, 16, .inl false))
  | 7 => some (.inr (0, 9, .inl false))
  | 8 => some (.inr (0, 9, .inl false))
  | 9 => some (.inr (0, 9, .inl false))
  | 10 => some (.inr (0, 9, .inl false))
  | 11 => some (.inl (10, [some 30]))
  | 12 => some (.inl (3, [none, none]))
  | 13 => some (.inl (4, [some 14, some 15, none, none, some 16, none]))
  | 14 => some (.inr (4, 12, .inr (fun _ x => if x = 0 then none else some (299 + x.toNatClampNeg))))
  | 15 => some (.inr (5, 12, .inr (fun j _ => some (40 + j))))
  | 16 => some (.inr (1, 60, .inl false))
  | 17 => some (.inr (1, 12, .inl false))
  | 20 => some (.inl (7, [some 21, some 22, some 23, some 24, some 25]))
  | 30 => some (.inl (7, [some 31, some 32, some 33, some 34, some 35]))
  | _ => none
/-- the trees' arrays, and the rows of the commands' values -/
def shT (c : Nat) : Option am_Sh := if c < 36 then (if c % 10 = 4 then some (.inr (2, 9, .inl true)) else some (.inr (0, 9, .inl false))) else if 40 ≤ c ∧ c < 52 then some (.inr (0, 4, .inl false)) else none
def shS (i : Nat) : Nat → Option am_Sh
  | 0 => some (.inl (8, [some (sS i + 1), some (sS i + 2), some (sS i + 3), none, none, none, none, none, none]))
  | 1 => some (.inl (6, [some (sS i + 4), some (sS i + 5), some (sS i + 6), some (sS i + 7), some (sS i + 8), none, none, none]))
  | 2 => some (.inl (2, [some (sS i + 9), none, none, none, none, none, none, none]))
  | 3 => some (.inr (0, 16, .inl false))
  | 4 => some (.inr (0, 9, .inl false))
  | 5 => some (.inr (0, 16, .inl false))
  | 6 => some (.inr (0, 16, .inl false))
  | 7 => some (.inr (0, 16, .inl false))
  | 8 => some (.inr (0, 16, .inl false))
  | 9 => some (.inr (0, 9, .inl false))
  | _ => none
/-- what stands before the law (texts, kinds, tables) is no part of the world: constants tell of it (part 80) -/
def shZ (_ : Nat) : Option am_Sh := none
def shx (c : Nat) : Option am_Sh := if c < 100 then (if c = 20 ∨ c = 30 ∨ c < 20 then shA c else if c < 26 ∨ 30 < c then shT c else none) else if c < 292 then shS ((c - 100) / 16) ((c - 100) % 16) else shZ c
def wrx (c : Nat) : Bool := decide (c < 300)
def tAx : Nat → FieldType
  | 0 => .int
  | 1 => .char
  | 2 => .float
  | 3 => .object "DandelionBroadcast$State"
  | 4 => .object "DandelionBroadcast$Kind"
  | 5 => .array .int
  | _ => .int
def xTS : List (String × Nat × String) := [("DandelionBroadcast", 444, "no such field or path"), ("DandelionBroadcast", 446, "a value is out of range"), ("DandelionBroadcast", 451, "the call is rejected"), ("DandelionBroadcast", 358, "a syntax error"), ("DandelionBroadcast", 388, "a command is rejected"), ("DandelionBroadcast", 391, "a command fails"), ("DandelionBroadcast", 406, "no change can be undone"), ("DandelionBroadcast", 411, "there is no snapshot"), ("DandelionBroadcast", 341, "the code is out of range"), ("DandelionBroadcast", 349, "the input is full"), ("DandelionBroadcast", 431, "no broadcast was started"), ("DandelionBroadcast", 433, "there is no broadcast that has not ended"), ("DandelionBroadcast", 419, "no such field"), ("DandelionBroadcast", 424, "no such path"), ("DandelionBroadcast", 308, "no such position"), ("DandelionBroadcast", 265, "the broadcast has no such packet"), ("DandelionBroadcast", 437, "no packet was sent"), ("DandelionBroadcast", 442, "there is no way"), ("DandelionBroadcast", 426, "both fields are the same"), ("DandelionBroadcast", 214, "the field has no parent in this tree"), ("DandelionBroadcast", 222, "the field is not in this tree")]
def xNC : List (String × String) := [("DandelionBroadcast", "DandelionBroadcast$Kind"), ("DandelionBroadcast", "DandelionBroadcast$State"), ("DandelionBroadcast", "java/lang/ArithmeticException"), ("DandelionBroadcast", "java/lang/IllegalArgumentException"), ("DandelionBroadcast", "java/lang/IllegalStateException"), ("DandelionBroadcast", "java/lang/IndexOutOfBoundsException"), ("DandelionBroadcast", "java/lang/UnsupportedOperationException"), ("DandelionBroadcast", "java/util/NoSuchElementException"), ("DandelionBroadcast$Cast", "DandelionBroadcast$Kind"), ("DandelionBroadcast$Cast", "DandelionBroadcast$State"), ("DandelionBroadcast$Cast", "java/lang/ArithmeticException"), ("DandelionBroadcast$Cast", "java/lang/IllegalArgumentException"), ("DandelionBroadcast$Cast", "java/lang/IllegalStateException"), ("DandelionBroadcast$Cast", "java/lang/IndexOutOfBoundsException"), ("DandelionBroadcast$Cast", "java/lang/UnsupportedOperationException"), ("DandelionBroadcast$Cast", "java/util/NoSuchElementException"), ("DandelionBroadcast$Changer", "DandelionBroadcast$Kind"), ("DandelionBroadcast$Changer", "DandelionBroadcast$State"), ("DandelionBroadcast$Changer", "java/lang/ArithmeticException"), ("DandelionBroadcast$Changer", "java/lang/IllegalArgumentException"), ("DandelionBroadcast$Changer", "java/lang/IllegalStateException"), ("DandelionBroadcast$Changer", "java/lang/IndexOutOfBoundsException"), ("DandelionBroadcast$Changer", "java/lang/UnsupportedOperationException"), ("DandelionBroadcast$Changer", "java/util/NoSuchElementException"), ("DandelionBroadcast$Commands", "DandelionBroadcast$Kind"), ("DandelionBroadcast$Commands", "DandelionBroadcast$State"), ("DandelionBroadcast$Commands", "java/lang/ArithmeticException"), ("DandelionBroadcast$Commands", "java/lang/IllegalArgumentException"), ("DandelionBroadcast$Commands", "java/lang/IllegalStateException"), ("DandelionBroadcast$Commands", "java/lang/IndexOutOfBoundsException"), ("DandelionBroadcast$Commands", "java/lang/UnsupportedOperationException"), ("DandelionBroadcast$Commands", "java/util/NoSuchElementException"), ("DandelionBroadcast$History", "DandelionBroadcast$Kind"), ("DandelionBroadcast$History", "DandelionBroadcast$State"), ("DandelionBroadcast$History", "java/lang/ArithmeticException"), ("DandelionBroadcast$History", "java/lang/IllegalArgumentException"), ("DandelionBroadcast$History", "java/lang/IllegalStateException"), ("DandelionBroadcast$History", "java/lang/IndexOutOfBoundsException"), ("DandelionBroadcast$History", "java/lang/UnsupportedOperationException"), ("DandelionBroadcast$History", "java/util/NoSuchElementException"), ("DandelionBroadcast$Kind", "DandelionBroadcast$State"), ("DandelionBroadcast$Kind", "java/lang/ArithmeticException"), ("DandelionBroadcast$Kind", "java/lang/IllegalArgumentException"), ("DandelionBroadcast$Kind", "java/lang/IllegalStateException"), ("DandelionBroadcast$Kind", "java/lang/IndexOutOfBoundsException"), ("DandelionBroadcast$Kind", "java/lang/UnsupportedOperationException"), ("DandelionBroadcast$Kind", "java/util/NoSuchElementException"), ("DandelionBroadcast$Net", "DandelionBroadcast$Kind"), ("DandelionBroadcast$Net", "DandelionBroadcast$State"), ("DandelionBroadcast$Net", "java/lang/ArithmeticException"), ("DandelionBroadcast$Net", "java/lang/IllegalArgumentException"), ("DandelionBroadcast$Net", "java/lang/IllegalStateException"), ("DandelionBroadcast$Net", "java/lang/IndexOutOfBoundsException"), ("DandelionBroadcast$Net", "java/lang/UnsupportedOperationException"), ("DandelionBroadcast$Net", "java/util/NoSuchElementException"), ("DandelionBroadcast$SpreadTree", "DandelionBroadcast$Kind"), ("DandelionBroadcast$SpreadTree", "DandelionBroadcast$State"), ("DandelionBroadcast$SpreadTree", "java/lang/ArithmeticException"), ("DandelionBroadcast$SpreadTree", "java/lang/IllegalArgumentException"), ("DandelionBroadcast$SpreadTree", "java/lang/IllegalStateException"), ("DandelionBroadcast$SpreadTree", "java/lang/IndexOutOfBoundsException"), ("DandelionBroadcast$SpreadTree", "java/lang/UnsupportedOperationException"), ("DandelionBroadcast$SpreadTree", "java/util/NoSuchElementException"), ("DandelionBroadcast$State", "DandelionBroadcast$Kind"), ("DandelionBroadcast$State", "java/lang/ArithmeticException"), ("DandelionBroadcast$State", "java/lang/IllegalArgumentException"), ("DandelionBroadcast$State", "java/lang/IllegalStateException"), ("DandelionBroadcast$State", "java/lang/IndexOutOfBoundsException"), ("DandelionBroadcast$State", "java/lang/UnsupportedOperationException"), ("DandelionBroadcast$State", "java/util/NoSuchElementException"), ("DandelionBroadcast$Ways", "DandelionBroadcast$Kind"), ("DandelionBroadcast$Ways", "DandelionBroadcast$State"), ("DandelionBroadcast$Ways", "java/lang/ArithmeticException"), ("DandelionBroadcast$Ways", "java/lang/IllegalArgumentException"), ("DandelionBroadcast$Ways", "java/lang/IllegalStateException"), ("DandelionBroadcast$Ways", "java/lang/IndexOutOfBoundsException"), ("DandelionBroadcast$Ways", "java/lang/UnsupportedOperationException"), ("DandelionBroadcast$Ways", "java/util/NoSuchElementException"), ("DandelionBroadcast$Winds", "DandelionBroadcast$Kind"), ("DandelionBroadcast$Winds", "DandelionBroadcast$State"), ("DandelionBroadcast$Winds", "java/lang/ArithmeticException"), ("DandelionBroadcast$Winds", "java/lang/IllegalArgumentException"), ("DandelionBroadcast$Winds", "java/lang/IllegalStateException"), ("DandelionBroadcast$Winds", "java/lang/IndexOutOfBoundsException"), ("DandelionBroadcast$Winds", "java/lang/UnsupportedOperationException"), ("DandelionBroadcast$Winds", "java/util/NoSuchElementException"), ("java/lang/ArithmeticException", "DandelionBroadcast$Kind"), ("java/lang/ArithmeticException", "DandelionBroadcast$State"), ("java/lang/ArithmeticException", "java/lang/IllegalArgumentException"), ("java/lang/ArithmeticException", "java/lang/IllegalStateException"), ("java/lang/ArithmeticException", "java/lang/IndexOutOfBoundsException"), ("java/lang/ArithmeticException", "java/lang/UnsupportedOperationException"), ("java/lang/ArithmeticException", "java/util/NoSuchElementException"), ("java/lang/ArrayIndexOutOfBoundsException", "DandelionBroadcast$Kind"), ("java/lang/ArrayIndexOutOfBoundsException", "DandelionBroadcast$State"), ("java/lang/ArrayIndexOutOfBoundsException", "java/lang/ArithmeticException"), ("java/lang/ArrayIndexOutOfBoundsException", "java/lang/IllegalArgumentException"), ("java/lang/ArrayIndexOutOfBoundsException", "java/lang/IllegalStateException"), ("java/lang/ArrayIndexOutOfBoundsException", "java/lang/UnsupportedOperationException"), ("java/lang/ArrayIndexOutOfBoundsException", "java/util/NoSuchElementException"), ("java/lang/IllegalArgumentException", "DandelionBroadcast$Kind"), ("java/lang/IllegalArgumentException", "DandelionBroadcast$State"), ("java/lang/IllegalArgumentException", "java/lang/ArithmeticException"), ("java/lang/IllegalArgumentException", "java/lang/IllegalStateException"), ("java/lang/IllegalArgumentException", "java/lang/IndexOutOfBoundsException"), ("java/lang/IllegalArgumentException", "java/lang/UnsupportedOperationException"), ("java/lang/IllegalArgumentException", "java/util/NoSuchElementException"), ("java/lang/IllegalStateException", "DandelionBroadcast$Kind"), ("java/lang/IllegalStateException", "DandelionBroadcast$State"), ("java/lang/IllegalStateException", "java/lang/ArithmeticException"), ("java/lang/IllegalStateException", "java/lang/IllegalArgumentException"), ("java/lang/IllegalStateException", "java/lang/IndexOutOfBoundsException"), ("java/lang/IllegalStateException", "java/lang/UnsupportedOperationException"), ("java/lang/IllegalStateException", "java/util/NoSuchElementException"), ("java/lang/IndexOutOfBoundsException", "DandelionBroadcast$Kind"), ("java/lang/IndexOutOfBoundsException", "DandelionBroadcast$State"), ("java/lang/IndexOutOfBoundsException", "java/lang/ArithmeticException"), ("java/lang/IndexOutOfBoundsException", "java/lang/IllegalArgumentException"), ("java/lang/IndexOutOfBoundsException", "java/lang/IllegalStateException"), ("java/lang/IndexOutOfBoundsException", "java/lang/UnsupportedOperationException"), ("java/lang/IndexOutOfBoundsException", "java/util/NoSuchElementException"), ("java/lang/String", "DandelionBroadcast$Kind"), ("java/lang/String", "DandelionBroadcast$State"), ("java/lang/Throwable", "DandelionBroadcast$Kind"), ("java/lang/Throwable", "DandelionBroadcast$State"), ("java/lang/UnsupportedOperationException", "DandelionBroadcast$Kind"), ("java/lang/UnsupportedOperationException", "DandelionBroadcast$State"), ("java/lang/UnsupportedOperationException", "java/lang/ArithmeticException"), ("java/lang/UnsupportedOperationException", "java/lang/IllegalArgumentException"), ("java/lang/UnsupportedOperationException", "java/lang/IllegalStateException"), ("java/lang/UnsupportedOperationException", "java/lang/IndexOutOfBoundsException"), ("java/lang/UnsupportedOperationException", "java/util/NoSuchElementException"), ("java/util/NoSuchElementException", "DandelionBroadcast$Kind"), ("java/util/NoSuchElementException", "DandelionBroadcast$State"), ("java/util/NoSuchElementException", "java/lang/ArithmeticException"), ("java/util/NoSuchElementException", "java/lang/IllegalArgumentException"), ("java/util/NoSuchElementException", "java/lang/IllegalStateException"), ("java/util/NoSuchElementException", "java/lang/IndexOutOfBoundsException"), ("java/util/NoSuchElementException", "java/lang/UnsupportedOperationException")]
def xSF : List (String × String × String × Value) := [("java/lang/String", "COMPACT_STRINGS", "Z", .int 1), ("DandelionBroadcastLaw", "INPUTS", "[Ljava/lang/String;", .ref 600), ("DandelionBroadcast$Kind", "ALL", "[LDandelionBroadcast$Kind;", .ref 601), ("DandelionBroadcast$1", "$SwitchMap$DandelionBroadcast$Kind", "[I", .ref 602)]
abbrev xx : am_X := (vwCl, xWS, xNS, shx, wrx, tAx, xTS, xNC, xSF)
theorem sh_S0 {i : Nat} (hi : i < 12) : am_sh xx (sS i + 0) = shS i 0 := by
  show (if sS i + 0 < 100 then _ else if sS i + 0 < 292 then shS ((sS i + 0 - 100) / 16) ((sS i + 0 - 100) % 16) else shZ (sS i + 0)) = _
  rw [if_neg (by unfold sS; omega), if_pos (by unfold sS; omega), show (sS i + 0 - 100) / 16 = i by unfold sS; omega, show (sS i + 0 - 100) % 16 = 0 by unfold sS; omega]
theorem sh_S1 {i : Nat} (hi : i < 12) : am_sh xx (sS i + 1) = shS i 1 := by
  show (if sS i + 1 < 100 then _ else if sS i + 1 < 292 then shS ((sS i + 1 - 100) / 16) ((sS i + 1 - 100) % 16) else shZ (sS i + 1)) = _
  rw [if_neg (by unfold sS; omega), if_pos (by unfold sS; omega), show (sS i + 1 - 100) / 16 = i by unfold sS; omega, show (sS i + 1 - 100) % 16 = 1 by unfold sS; omega]
theorem sh_S2 {i : Nat} (hi : i < 12) : am_sh xx (sS i + 2) = shS i 2 := by
  show (if sS i + 2 < 100 then _ else if sS i + 2 < 292 then shS ((sS i + 2 - 100) / 16) ((sS i + 2 - 100) % 16) else shZ (sS i + 2)) = _
  rw [if_neg (by unfold sS; omega), if_pos (by unfold sS; omega), show (sS i + 2 - 100) / 16 = i by unfold sS; omega, show (sS i + 2 - 100) % 16 = 2 by unfold sS; omega]
theorem sh_S3 {i : Nat} (hi : i < 12) : am_sh xx (sS i + 3) = shS i 3 := by
  show (if sS i + 3 < 100 then _ else if sS i + 3 < 292 then shS ((sS i + 3 - 100) / 16) ((sS i + 3 - 100) % 16) else shZ (sS i + 3)) = _
  rw [if_neg (by unfold sS; omega), if_pos (by unfold sS; omega), show (sS i + 3 - 100) / 16 = i by unfold sS; omega, show (sS i + 3 - 100) % 16 = 3 by unfold sS; omega]
theorem sh_S4 {i : Nat} (hi : i < 12) : am_sh xx (sS i + 4) = shS i 4 := by
  show (if sS i + 4 < 100 then _ else if sS i + 4 < 292 then shS ((sS i + 4 - 100) / 16) ((sS i + 4 - 100) % 16) else shZ (sS i + 4)) = _
  rw [if_neg (by unfold sS; omega), if_pos (by unfold sS; omega), show (sS i + 4 - 100) / 16 = i by unfold sS; omega, show (sS i + 4 - 100) % 16 = 4 by unfold sS; omega]
theorem sh_S5 {i : Nat} (hi : i < 12) : am_sh xx (sS i + 5) = shS i 5 := by
  show (if sS i + 5 < 100 then _ else if sS i + 5 < 292 then shS ((sS i + 5 - 100) / 16) ((sS i + 5 - 100) % 16) else shZ (sS i + 5)) = _
  rw [if_neg (by unfold sS; omega), if_pos (by unfold sS; omega), show (sS i + 5 - 100) / 16 = i by unfold sS; omega, show (sS i + 5 - 100) % 16 = 5 by unfold sS; omega]
theorem sh_S6 {i : Nat} (hi : i < 12) : am_sh xx (sS i + 6) = shS i 6 := by
  show (if sS i + 6 < 100 then _ else if sS i + 6 < 292 then shS ((sS i + 6 - 100) / 16) ((sS i + 6 - 100) % 16) else shZ (sS i + 6)) = _
  rw [if_neg (by unfold sS; omega), if_pos (by unfold sS; omega), show (sS i + 6 - 100) / 16 = i by unfold sS; omega, show (sS i + 6 - 100) % 16 = 6 by unfold sS; omega]
theorem sh_S7 {i : Nat} (hi : i < 12) : am_sh xx (sS i + 7) = shS i 7 := by
  show (if sS i + 7 < 100 then _ else if sS i + 7 < 292 then shS ((sS i + 7 - 100) / 16) ((sS i + 7 - 100) % 16) else shZ (sS i + 7)) = _
  rw [if_neg (by unfold sS; omega), if_pos (by unfold sS; omega), show (sS i + 7 - 100) / 16 = i by unfold sS; omega, show (sS i + 7 - 100) % 16 = 7 by unfold sS; omega]
theorem sh_S8 {i : Nat} (hi : i < 12) : am_sh xx (sS i + 8) = shS i 8 := by
  show (if sS i + 8 < 100 then _ else if sS i + 8 < 292 then shS ((sS i + 8 - 100) / 16) ((sS i + 8 - 100) % 16) else shZ (sS i + 8)) = _
  rw [if_neg (by unfold sS; omega), if_pos (by unfold sS; omega), show (sS i + 8 - 100) / 16 = i by unfold sS; omega, show (sS i + 8 - 100) % 16 = 8 by unfold sS; omega]
theorem sh_S9 {i : Nat} (hi : i < 12) : am_sh xx (sS i + 9) = shS i 9 := by
  show (if sS i + 9 < 100 then _ else if sS i + 9 < 292 then shS ((sS i + 9 - 100) / 16) ((sS i + 9 - 100) % 16) else shZ (sS i + 9)) = _
  rw [if_neg (by unfold sS; omega), if_pos (by unfold sS; omega), show (sS i + 9 - 100) / 16 = i by unfold sS; omega, show (sS i + 9 - 100) % 16 = 9 by unfold sS; omega]
theorem wr_S {i k : Nat} (hi : i < 12) (hk : k < 16) : am_wr xx (sS i + k) = true := decide_eq_true (by unfold sS; omega)
theorem in_X1 : ∀ w ∈ u_ws RX1 TX1 8, w ∈ am_WS xx := x_all [180, 182, 184, 186, 188, 190, 192, 194] (by decide +kernel)
theorem in_X2 : ∀ w ∈ u_ws RX2 TX2 2, w ∈ am_WS xx := x_all [345, 347] (by decide +kernel)
theorem in_X3 : ∀ w ∈ u_ws RX3 TX3 6, w ∈ am_WS xx := x_all [370, 372, 374, 376, 378, 380] (by decide +kernel)
theorem in_X4 : ∀ w ∈ u_ws RX4 TX4 3, w ∈ am_WS xx := x_all [259, 261, 263] (by decide +kernel)
theorem in_X6 : ∀ w ∈ u_ws RX6 TX6 8, w ∈ am_WS xx := x_all [129, 131, 133, 135, 137, 139, 141, 143] (by decide +kernel)
theorem in_X7 : ∀ w ∈ u_ws RX7 TX7 5, w ∈ am_WS xx := x_all [311, 313, 315, 317, 319] (by decide +kernel)
theorem in_X8 : ∀ w ∈ u_ws RX8 TX8 9, w ∈ am_WS xx := x_all [227, 229, 231, 233, 235, 237, 239, 241, 243] (by decide +kernel)
theorem in_X9 : ∀ w ∈ u_ws RX9 TX9 7, w ∈ am_WS xx := x_all [279, 281, 283, 285, 287, 289, 291] (by decide +kernel)
theorem in_X10 : ∀ w ∈ u_ws RX10 TX10 1, w ∈ am_WS xx := x_all [332] (by decide +kernel)
theorem in_X11 : ∀ w ∈ u_ws RX11 TX11 16, w ∈ am_WS xx := x_all [400, 402, 404, 406, 408, 410, 412, 414, 416, 418, 420, 422, 424, 426, 428, 430] (by decide +kernel)
theorem gf_X6_9 : am_gf xx RX6 9 6 0 := ⟨RX6, TX6, 8, rfl, in_X6, by decide, x_in 90 (by decide +kernel)⟩
theorem gf_X8_64 : am_gf xx RX8 64 6 0 := ⟨RX6, TX6, 8, rfl, in_X6, by decide, x_in 91 (by decide +kernel)⟩
theorem gf_X2_37 : am_gf xx RX2 37 6 0 := ⟨RX6, TX6, 8, rfl, in_X6, by decide, x_in 92 (by decide +kernel)⟩
theorem gf_X11_131 : am_gf xx RX11 131 6 0 := ⟨RX6, TX6, 8, rfl, in_X6, by decide, x_in 93 (by decide +kernel)⟩
theorem gf_X6_15 : am_gf xx RX6 15 6 1 := ⟨RX6, TX6, 8, rfl, in_X6, by decide, x_in 94 (by decide +kernel)⟩
theorem gf_X7_45 : am_gf xx RX7 45 6 1 := ⟨RX6, TX6, 8, rfl, in_X6, by decide, x_in 95 (by decide +kernel)⟩
theorem gf_X2_63 : am_gf xx RX2 63 6 1 := ⟨RX6, TX6, 8, rfl, in_X6, by decide, x_in 96 (by decide +kernel)⟩
theorem gf_X9_80 : am_gf xx RX9 80 6 1 := ⟨RX6, TX6, 8, rfl, in_X6, by decide, x_in 97 (by decide +kernel)⟩
theorem gf_X11_138 : am_gf xx RX11 138 6 1 := ⟨RX6, TX6, 8, rfl, in_X6, by decide, x_in 98 (by decide +kernel)⟩
theorem gf_X6_18 : am_gf xx RX6 18 6 2 := ⟨RX6, TX6, 8, rfl, in_X6, by decide, x_in 99 (by decide +kernel)⟩
theorem gf_X7_48 : am_gf xx RX7 48 6 2 := ⟨RX6, TX6, 8, rfl, in_X6, by decide, x_in 100 (by decide +kernel)⟩
theorem gf_X2_66 : am_gf xx RX2 66 6 2 := ⟨RX6, TX6, 8, rfl, in_X6, by decide, x_in 101 (by decide +kernel)⟩
theorem gf_X9_83 : am_gf xx RX9 83 6 2 := ⟨RX6, TX6, 8, rfl, in_X6, by decide, x_in 102 (by decide +kernel)⟩
theorem gf_X11_141 : am_gf xx RX11 141 6 2 := ⟨RX6, TX6, 8, rfl, in_X6, by decide, x_in 103 (by decide +kernel)⟩
theorem gf_X6_21 : am_gf xx RX6 21 6 3 := ⟨RX6, TX6, 8, rfl, in_X6, by decide, x_in 104 (by decide +kernel)⟩
theorem gf_X7_55 : am_gf xx RX7 55 6 3 := ⟨RX6, TX6, 8, rfl, in_X6, by decide, x_in 105 (by decide +kernel)⟩
theorem gf_X10_91 : am_gf xx RX10 91 6 3 := ⟨RX6, TX6, 8, rfl, in_X6, by decide, x_in 106 (by decide +kernel)⟩
theorem gf_X8_73 : am_gf xx RX8 73 6 3 := ⟨RX6, TX6, 8, rfl, in_X6, by decide, x_in 107 (by decide +kernel)⟩
theorem gf_X2_69 : am_gf xx RX2 69 6 3 := ⟨RX6, TX6, 8, rfl, in_X6, by decide, x_in 108 (by decide +kernel)⟩
theorem gf_X9_74 : am_gf xx RX9 74 6 3 := ⟨RX6, TX6, 8, rfl, in_X6, by decide, x_in 109 (by decide +kernel)⟩
theorem gf_X11_144 : am_gf xx RX11 144 6 3 := ⟨RX6, TX6, 8, rfl, in_X6, by decide, x_in 110 (by decide +kernel)⟩
theorem gf_X6_24 : am_gf xx RX6 24 6 4 := ⟨RX6, TX6, 8, rfl, in_X6, by decide, x_in 111 (by decide +kernel)⟩
theorem gf_X2_72 : am_gf xx RX2 72 6 4 := ⟨RX6, TX6, 8, rfl, in_X6, by decide, x_in 112 (by decide +kernel)⟩
theorem gf_X11_147 : am_gf xx RX11 147 6 4 := ⟨RX6, TX6, 8, rfl, in_X6, by decide, x_in 113 (by decide +kernel)⟩
theorem gf_X6_27 : am_gf xx RX6 27 6 5 := ⟨RX6, TX6, 8, rfl, in_X6, by decide, x_in 114 (by decide +kernel)⟩
theorem pf_X6_27 : am_pf xx RX6 27 6 5 .int := ⟨RX6, TX6, 8, tyX6, rfl, in_X6, by decide, x_in 114 (by decide +kernel), tyX6_ok, nmX6, rfl, by decide +kernel⟩
theorem gf_X2_75 : am_gf xx RX2 75 6 5 := ⟨RX6, TX6, 8, rfl, in_X6, by decide, x_in 115 (by decide +kernel)⟩
theorem pf_X2_75 : am_pf xx RX2 75 6 5 .int := ⟨RX6, TX6, 8, tyX6, rfl, in_X6, by decide, x_in 115 (by decide +kernel), tyX6_ok, nmX6, rfl, by decide +kernel⟩
theorem gf_X6_31 : am_gf xx RX6 31 6 6 := ⟨RX6, TX6, 8, rfl, in_X6, by decide, x_in 116 (by decide +kernel)⟩
theorem pf_X6_31 : am_pf xx RX6 31 6 6 .int := ⟨RX6, TX6, 8, tyX6, rfl, in_X6, by decide, x_in 116 (by decide +kernel), tyX6_ok, nmX6, rfl, by decide +kernel⟩
theorem gf_X8_48 : am_gf xx RX8 48 6 6 := ⟨RX6, TX6, 8, rfl, in_X6, by decide, x_in 117 (by decide +kernel)⟩
theorem pf_X8_48 : am_pf xx RX8 48 6 6 .int := ⟨RX6, TX6, 8, tyX6, rfl, in_X6, by decide, x_in 117 (by decide +kernel), tyX6_ok, nmX6, rfl, by decide +kernel⟩
theorem gf_X9_34 : am_gf xx RX9 34 6 6 := ⟨RX6, TX6, 8, rfl, in_X6, by decide, x_in 118 (by decide +kernel)⟩
theorem pf_X9_34 : am_pf xx RX9 34 6 6 .int := ⟨RX6, TX6, 8, tyX6, rfl, in_X6, by decide, x_in 118 (by decide +kernel), tyX6_ok, nmX6, rfl, by decide +kernel⟩
theorem gf_X10_38 : am_gf xx RX10 38 6 6 := ⟨RX6, TX6, 8, rfl, in_X6, by decide, x_in 119 (by decide +kernel)⟩
theorem pf_X10_38 : am_pf xx RX10 38 6 6 .int := ⟨RX6, TX6, 8, tyX6, rfl, in_X6, by decide, x_in 119 (by decide +kernel), tyX6_ok, nmX6, rfl, by decide +kernel⟩
theorem gf_X7_28 : am_gf xx RX7 28 6 6 := ⟨RX6, TX6, 8, rfl, in_X6, by decide, x_in 120 (by decide +kernel)⟩
theorem pf_X7_28 : am_pf xx RX7 28 6 6 .int := ⟨RX6, TX6, 8, tyX6, rfl, in_X6, by decide, x_in 120 (by decide +kernel), tyX6_ok, nmX6, rfl, by decide +kernel⟩
theorem gf_X2_28 : am_gf xx RX2 28 6 6 := ⟨RX6, TX6, 8, rfl, in_X6, by decide, x_in 121 (by decide +kernel)⟩
theorem pf_X2_28 : am_pf xx RX2 28 6 6 .int := ⟨RX6, TX6, 8, tyX6, rfl, in_X6, by decide, x_in 121 (by decide +kernel), tyX6_ok, nmX6, rfl, by decide +kernel⟩
theorem gf_X11_119 : am_gf xx RX11 119 6 6 := ⟨RX6, TX6, 8, rfl, in_X6, by decide, x_in 122 (by decide +kernel)⟩
theorem pf_X11_119 : am_pf xx RX11 119 6 6 .int := ⟨RX6, TX6, 8, tyX6, rfl, in_X6, by decide, x_in 122 (by decide +kernel), tyX6_ok, nmX6, rfl, by decide +kernel⟩
theorem gf_X6_34 : am_gf xx RX6 34 6 7 := ⟨RX6, TX6, 8, rfl, in_X6, by decide, x_in 123 (by decide +kernel)⟩
theorem pf_X6_34 : am_pf xx RX6 34 6 7 .int := ⟨RX6, TX6, 8, tyX6, rfl, in_X6, by decide, x_in 123 (by decide +kernel), tyX6_ok, nmX6, rfl, by decide +kernel⟩
theorem gf_X9_39 : am_gf xx RX9 39 6 7 := ⟨RX6, TX6, 8, rfl, in_X6, by decide, x_in 124 (by decide +kernel)⟩
theorem pf_X9_39 : am_pf xx RX9 39 6 7 .int := ⟨RX6, TX6, 8, tyX6, rfl, in_X6, by decide, x_in 124 (by decide +kernel), tyX6_ok, nmX6, rfl, by decide +kernel⟩
theorem gf_X7_42 : am_gf xx RX7 42 6 7 := ⟨RX6, TX6, 8, rfl, in_X6, by decide, x_in 125 (by decide +kernel)⟩
theorem pf_X7_42 : am_pf xx RX7 42 6 7 .int := ⟨RX6, TX6, 8, tyX6, rfl, in_X6, by decide, x_in 125 (by decide +kernel), tyX6_ok, nmX6, rfl, by decide +kernel⟩
theorem gf_X8_67 : am_gf xx RX8 67 6 7 := ⟨RX6, TX6, 8, rfl, in_X6, by decide, x_in 126 (by decide +kernel)⟩
theorem pf_X8_67 : am_pf xx RX8 67 6 7 .int := ⟨RX6, TX6, 8, tyX6, rfl, in_X6, by decide, x_in 126 (by decide +kernel), tyX6_ok, nmX6, rfl, by decide +kernel⟩
theorem gf_X2_53 : am_gf xx RX2 53 6 7 := ⟨RX6, TX6, 8, rfl, in_X6, by decide, x_in 127 (by decide +kernel)⟩
theorem pf_X2_53 : am_pf xx RX2 53 6 7 .int := ⟨RX6, TX6, 8, tyX6, rfl, in_X6, by decide, x_in 127 (by decide +kernel), tyX6_ok, nmX6, rfl, by decide +kernel⟩
theorem gf_X11_124 : am_gf xx RX11 124 6 7 := ⟨RX6, TX6, 8, rfl, in_X6, by decide, x_in 128 (by decide +kernel)⟩
theorem pf_X11_124 : am_pf xx RX11 124 6 7 .int := ⟨RX6, TX6, 8, tyX6, rfl, in_X6, by decide, x_in 128 (by decide +kernel), tyX6_ok, nmX6, rfl, by decide +kernel⟩
theorem gf_X1_9 : am_gf xx RX1 9 2 0 := ⟨RX1, TX1, 8, rfl, in_X1, by decide, x_in 153 (by decide +kernel)⟩
theorem gf_X10_68 : am_gf xx RX10 68 2 0 := ⟨RX1, TX1, 8, rfl, in_X1, by decide, x_in 154 (by decide +kernel)⟩
theorem gf_X8_55 : am_gf xx RX8 55 2 0 := ⟨RX1, TX1, 8, rfl, in_X1, by decide, x_in 155 (by decide +kernel)⟩
theorem gf_X2_45 : am_gf xx RX2 45 2 0 := ⟨RX1, TX1, 8, rfl, in_X1, by decide, x_in 156 (by decide +kernel)⟩
theorem gf_X11_267 : am_gf xx RX11 267 2 0 := ⟨RX1, TX1, 8, rfl, in_X1, by decide, x_in 157 (by decide +kernel)⟩
theorem gf_X1_15 : am_gf xx RX1 15 2 1 := ⟨RX1, TX1, 8, rfl, in_X1, by decide, x_in 158 (by decide +kernel)⟩
theorem pf_X1_15 : am_pf xx RX1 15 2 1 .int := ⟨RX1, TX1, 8, tyX1, rfl, in_X1, by decide, x_in 158 (by decide +kernel), tyX1_ok, nmX1, rfl, by decide +kernel⟩
theorem gf_X2_109 : am_gf xx RX2 109 2 1 := ⟨RX1, TX1, 8, rfl, in_X1, by decide, x_in 159 (by decide +kernel)⟩
theorem pf_X2_109 : am_pf xx RX2 109 2 1 .int := ⟨RX1, TX1, 8, tyX1, rfl, in_X1, by decide, x_in 159 (by decide +kernel), tyX1_ok, nmX1, rfl, by decide +kernel⟩
theorem gf_X11_428 : am_gf xx RX11 428 2 1 := ⟨RX1, TX1, 8, rfl, in_X1, by decide, x_in 160 (by decide +kernel)⟩
theorem pf_X11_428 : am_pf xx RX11 428 2 1 .int := ⟨RX1, TX1, 8, tyX1, rfl, in_X1, by decide, x_in 160 (by decide +kernel), tyX1_ok, nmX1, rfl, by decide +kernel⟩
theorem gf_X1_19 : am_gf xx RX1 19 2 2 := ⟨RX1, TX1, 8, rfl, in_X1, by decide, x_in 161 (by decide +kernel)⟩
theorem pf_X1_19 : am_pf xx RX1 19 2 2 .boolean := ⟨RX1, TX1, 8, tyX1, rfl, in_X1, by decide, x_in 161 (by decide +kernel), tyX1_ok, nmX1, rfl, by decide +kernel⟩
theorem gf_X10_121 : am_gf xx RX10 121 2 2 := ⟨RX1, TX1, 8, rfl, in_X1, by decide, x_in 162 (by decide +kernel)⟩
theorem pf_X10_121 : am_pf xx RX10 121 2 2 .boolean := ⟨RX1, TX1, 8, tyX1, rfl, in_X1, by decide, x_in 162 (by decide +kernel), tyX1_ok, nmX1, rfl, by decide +kernel⟩
theorem gf_X2_90 : am_gf xx RX2 90 2 2 := ⟨RX1, TX1, 8, rfl, in_X1, by decide, x_in 163 (by decide +kernel)⟩
theorem pf_X2_90 : am_pf xx RX2 90 2 2 .boolean := ⟨RX1, TX1, 8, tyX1, rfl, in_X1, by decide, x_in 163 (by decide +kernel), tyX1_ok, nmX1, rfl, by decide +kernel⟩
theorem gf_X11_250 : am_gf xx RX11 250 2 2 := ⟨RX1, TX1, 8, rfl, in_X1, by decide, x_in 164 (by decide +kernel)⟩
theorem pf_X11_250 : am_pf xx RX11 250 2 2 .boolean := ⟨RX1, TX1, 8, tyX1, rfl, in_X1, by decide, x_in 164 (by decide +kernel), tyX1_ok, nmX1, rfl, by decide +kernel⟩
theorem gf_X1_23 : am_gf xx RX1 23 2 3 := ⟨RX1, TX1, 8, rfl, in_X1, by decide, x_in 165 (by decide +kernel)⟩
theorem pf_X1_23 : am_pf xx RX1 23 2 3 .int := ⟨RX1, TX1, 8, tyX1, rfl, in_X1, by decide, x_in 165 (by decide +kernel), tyX1_ok, nmX1, rfl, by decide +kernel⟩
theorem gf_X10_28 : am_gf xx RX10 28 2 3 := ⟨RX1, TX1, 8, rfl, in_X1, by decide, x_in 166 (by decide +kernel)⟩
theorem pf_X10_28 : am_pf xx RX10 28 2 3 .int := ⟨RX1, TX1, 8, tyX1, rfl, in_X1, by decide, x_in 166 (by decide +kernel), tyX1_ok, nmX1, rfl, by decide +kernel⟩
theorem gf_X2_97 : am_gf xx RX2 97 2 3 := ⟨RX1, TX1, 8, rfl, in_X1, by decide, x_in 167 (by decide +kernel)⟩
theorem pf_X2_97 : am_pf xx RX2 97 2 3 .int := ⟨RX1, TX1, 8, tyX1, rfl, in_X1, by decide, x_in 167 (by decide +kernel), tyX1_ok, nmX1, rfl, by decide +kernel⟩
theorem gf_X11_258 : am_gf xx RX11 258 2 3 := ⟨RX1, TX1, 8, rfl, in_X1, by decide, x_in 168 (by decide +kernel)⟩
theorem pf_X11_258 : am_pf xx RX11 258 2 3 .int := ⟨RX1, TX1, 8, tyX1, rfl, in_X1, by decide, x_in 168 (by decide +kernel), tyX1_ok, nmX1, rfl, by decide +kernel⟩
theorem gf_X1_26 : am_gf xx RX1 26 2 4 := ⟨RX1, TX1, 8, rfl, in_X1, by decide, x_in 169 (by decide +kernel)⟩
theorem pf_X1_26 : am_pf xx RX1 26 2 4 .int := ⟨RX1, TX1, 8, tyX1, rfl, in_X1, by decide, x_in 169 (by decide +kernel), tyX1_ok, nmX1, rfl, by decide +kernel⟩
theorem gf_X2_100 : am_gf xx RX2 100 2 4 := ⟨RX1, TX1, 8, rfl, in_X1, by decide, x_in 170 (by decide +kernel)⟩
theorem pf_X2_100 : am_pf xx RX2 100 2 4 .int := ⟨RX1, TX1, 8, tyX1, rfl, in_X1, by decide, x_in 170 (by decide +kernel), tyX1_ok, nmX1, rfl, by decide +kernel⟩
theorem gf_X1_29 : am_gf xx RX1 29 2 5 := ⟨RX1, TX1, 8, rfl, in_X1, by decide, x_in 171 (by decide +kernel)⟩
theorem pf_X1_29 : am_pf xx RX1 29 2 5 .boolean := ⟨RX1, TX1, 8, tyX1, rfl, in_X1, by decide, x_in 171 (by decide +kernel), tyX1_ok, nmX1, rfl, by decide +kernel⟩
theorem gf_X10_54 : am_gf xx RX10 54 2 5 := ⟨RX1, TX1, 8, rfl, in_X1, by decide, x_in 172 (by decide +kernel)⟩
theorem pf_X10_54 : am_pf xx RX10 54 2 5 .boolean := ⟨RX1, TX1, 8, tyX1, rfl, in_X1, by decide, x_in 172 (by decide +kernel), tyX1_ok, nmX1, rfl, by decide +kernel⟩
theorem gf_X2_103 : am_gf xx RX2 103 2 5 := ⟨RX1, TX1, 8, rfl, in_X1, by decide, x_in 173 (by decide +kernel)⟩
theorem pf_X2_103 : am_pf xx RX2 103 2 5 .boolean := ⟨RX1, TX1, 8, tyX1, rfl, in_X1, by decide, x_in 173 (by decide +kernel), tyX1_ok, nmX1, rfl, by decide +kernel⟩
theorem gf_X1_32 : am_gf xx RX1 32 2 6 := ⟨RX1, TX1, 8, rfl, in_X1, by decide, x_in 174 (by decide +kernel)⟩
theorem pf_X1_32 : am_pf xx RX1 32 2 6 .int := ⟨RX1, TX1, 8, tyX1, rfl, in_X1, by decide, x_in 174 (by decide +kernel), tyX1_ok, nmX1, rfl, by decide +kernel⟩
theorem gf_X10_62 : am_gf xx RX10 62 2 6 := ⟨RX1, TX1, 8, rfl, in_X1, by decide, x_in 175 (by decide +kernel)⟩
theorem pf_X10_62 : am_pf xx RX10 62 2 6 .int := ⟨RX1, TX1, 8, tyX1, rfl, in_X1, by decide, x_in 175 (by decide +kernel), tyX1_ok, nmX1, rfl, by decide +kernel⟩
theorem gf_X2_94 : am_gf xx RX2 94 2 6 := ⟨RX1, TX1, 8, rfl, in_X1, by decide, x_in 176 (by decide +kernel)⟩
theorem pf_X2_94 : am_pf xx RX2 94 2 6 .int := ⟨RX1, TX1, 8, tyX1, rfl, in_X1, by decide, x_in 176 (by decide +kernel), tyX1_ok, nmX1, rfl, by decide +kernel⟩
theorem gf_X1_35 : am_gf xx RX1 35 2 7 := ⟨RX1, TX1, 8, rfl, in_X1, by decide, x_in 177 (by decide +kernel)⟩
theorem pf_X1_35 : am_pf xx RX1 35 2 7 .int := ⟨RX1, TX1, 8, tyX1, rfl, in_X1, by decide, x_in 177 (by decide +kernel), tyX1_ok, nmX1, rfl, by decide +kernel⟩
theorem gf_X10_94 : am_gf xx RX10 94 2 7 := ⟨RX1, TX1, 8, rfl, in_X1, by decide, x_in 178 (by decide +kernel)⟩
theorem pf_X10_94 : am_pf xx RX10 94 2 7 .int := ⟨RX1, TX1, 8, tyX1, rfl, in_X1, by decide, x_in 178 (by decide +kernel), tyX1_ok, nmX1, rfl, by decide +kernel⟩
theorem gf_X2_87 : am_gf xx RX2 87 2 7 := ⟨RX1, TX1, 8, rfl, in_X1, by decide, x_in 179 (by decide +kernel)⟩
theorem pf_X2_87 : am_pf xx RX2 87 2 7 .int := ⟨RX1, TX1, 8, tyX1, rfl, in_X1, by decide, x_in 179 (by decide +kernel), tyX1_ok, nmX1, rfl, by decide +kernel⟩
theorem gf_X8_12 : am_gf xx RX8 12 8 0 := ⟨RX8, TX8, 9, rfl, in_X8, by decide, x_in 197 (by decide +kernel)⟩
theorem gf_X10_18 : am_gf xx RX10 18 8 0 := ⟨RX8, TX8, 9, rfl, in_X8, by decide, x_in 198 (by decide +kernel)⟩
theorem gf_X2_18 : am_gf xx RX2 18 8 0 := ⟨RX8, TX8, 9, rfl, in_X8, by decide, x_in 199 (by decide +kernel)⟩
theorem gf_X11_115 : am_gf xx RX11 115 8 0 := ⟨RX8, TX8, 9, rfl, in_X8, by decide, x_in 200 (by decide +kernel)⟩
theorem gf_X8_21 : am_gf xx RX8 21 8 1 := ⟨RX8, TX8, 9, rfl, in_X8, by decide, x_in 201 (by decide +kernel)⟩
theorem gf_X10_24 : am_gf xx RX10 24 8 1 := ⟨RX8, TX8, 9, rfl, in_X8, by decide, x_in 202 (by decide +kernel)⟩
theorem gf_X2_41 : am_gf xx RX2 41 8 1 := ⟨RX8, TX8, 9, rfl, in_X8, by decide, x_in 203 (by decide +kernel)⟩
theorem gf_X11_246 : am_gf xx RX11 246 8 1 := ⟨RX8, TX8, 9, rfl, in_X8, by decide, x_in 204 (by decide +kernel)⟩
theorem gf_X8_25 : am_gf xx RX8 25 8 2 := ⟨RX8, TX8, 9, rfl, in_X8, by decide, x_in 205 (by decide +kernel)⟩
theorem gf_X10_82 : am_gf xx RX10 82 8 2 := ⟨RX8, TX8, 9, rfl, in_X8, by decide, x_in 206 (by decide +kernel)⟩
theorem gf_X2_78 : am_gf xx RX2 78 8 2 := ⟨RX8, TX8, 9, rfl, in_X8, by decide, x_in 207 (by decide +kernel)⟩
theorem gf_X11_302 : am_gf xx RX11 302 8 2 := ⟨RX8, TX8, 9, rfl, in_X8, by decide, x_in 208 (by decide +kernel)⟩
theorem gf_X8_29 : am_gf xx RX8 29 8 3 := ⟨RX8, TX8, 9, rfl, in_X8, by decide, x_in 209 (by decide +kernel)⟩
theorem pf_X8_29 : am_pf xx RX8 29 8 3 .int := ⟨RX8, TX8, 9, tyX8, rfl, in_X8, by decide, x_in 209 (by decide +kernel), tyX8_ok, nmX8, rfl, by decide +kernel⟩
theorem gf_X10_85 : am_gf xx RX10 85 8 3 := ⟨RX8, TX8, 9, rfl, in_X8, by decide, x_in 210 (by decide +kernel)⟩
theorem pf_X10_85 : am_pf xx RX10 85 8 3 .int := ⟨RX8, TX8, 9, tyX8, rfl, in_X8, by decide, x_in 210 (by decide +kernel), tyX8_ok, nmX8, rfl, by decide +kernel⟩
theorem gf_X11_287 : am_gf xx RX11 287 8 3 := ⟨RX8, TX8, 9, rfl, in_X8, by decide, x_in 211 (by decide +kernel)⟩
theorem pf_X11_287 : am_pf xx RX11 287 8 3 .int := ⟨RX8, TX8, 9, tyX8, rfl, in_X8, by decide, x_in 211 (by decide +kernel), tyX8_ok, nmX8, rfl, by decide +kernel⟩
theorem gf_X8_33 : am_gf xx RX8 33 8 4 := ⟨RX8, TX8, 9, rfl, in_X8, by decide, x_in 212 (by decide +kernel)⟩
theorem pf_X8_33 : am_pf xx RX8 33 8 4 .int := ⟨RX8, TX8, 9, tyX8, rfl, in_X8, by decide, x_in 212 (by decide +kernel), tyX8_ok, nmX8, rfl, by decide +kernel⟩
theorem gf_X10_101 : am_gf xx RX10 101 8 4 := ⟨RX8, TX8, 9, rfl, in_X8, by decide, x_in 213 (by decide +kernel)⟩
theorem pf_X10_101 : am_pf xx RX10 101 8 4 .int := ⟨RX8, TX8, 9, tyX8, rfl, in_X8, by decide, x_in 213 (by decide +kernel), tyX8_ok, nmX8, rfl, by decide +kernel⟩
theorem gf_X11_290 : am_gf xx RX11 290 8 4 := ⟨RX8, TX8, 9, rfl, in_X8, by decide, x_in 214 (by decide +kernel)⟩
theorem pf_X11_290 : am_pf xx RX11 290 8 4 .int := ⟨RX8, TX8, 9, tyX8, rfl, in_X8, by decide, x_in 214 (by decide +kernel), tyX8_ok, nmX8, rfl, by decide +kernel⟩
theorem gf_X8_36 : am_gf xx RX8 36 8 5 := ⟨RX8, TX8, 9, rfl, in_X8, by decide, x_in 215 (by decide +kernel)⟩
theorem pf_X8_36 : am_pf xx RX8 36 8 5 .int := ⟨RX8, TX8, 9, tyX8, rfl, in_X8, by decide, x_in 215 (by decide +kernel), tyX8_ok, nmX8, rfl, by decide +kernel⟩
theorem gf_X10_114 : am_gf xx RX10 114 8 5 := ⟨RX8, TX8, 9, rfl, in_X8, by decide, x_in 216 (by decide +kernel)⟩
theorem pf_X10_114 : am_pf xx RX10 114 8 5 .int := ⟨RX8, TX8, 9, tyX8, rfl, in_X8, by decide, x_in 216 (by decide +kernel), tyX8_ok, nmX8, rfl, by decide +kernel⟩
theorem gf_X11_293 : am_gf xx RX11 293 8 5 := ⟨RX8, TX8, 9, rfl, in_X8, by decide, x_in 217 (by decide +kernel)⟩
theorem pf_X11_293 : am_pf xx RX11 293 8 5 .int := ⟨RX8, TX8, 9, tyX8, rfl, in_X8, by decide, x_in 217 (by decide +kernel), tyX8_ok, nmX8, rfl, by decide +kernel⟩
theorem gf_X8_39 : am_gf xx RX8 39 8 6 := ⟨RX8, TX8, 9, rfl, in_X8, by decide, x_in 218 (by decide +kernel)⟩
theorem pf_X8_39 : am_pf xx RX8 39 8 6 .int := ⟨RX8, TX8, 9, tyX8, rfl, in_X8, by decide, x_in 218 (by decide +kernel), tyX8_ok, nmX8, rfl, by decide +kernel⟩
theorem gf_X10_88 : am_gf xx RX10 88 8 6 := ⟨RX8, TX8, 9, rfl, in_X8, by decide, x_in 219 (by decide +kernel)⟩
theorem pf_X10_88 : am_pf xx RX10 88 8 6 .int := ⟨RX8, TX8, 9, tyX8, rfl, in_X8, by decide, x_in 219 (by decide +kernel), tyX8_ok, nmX8, rfl, by decide +kernel⟩
theorem gf_X11_284 : am_gf xx RX11 284 8 6 := ⟨RX8, TX8, 9, rfl, in_X8, by decide, x_in 220 (by decide +kernel)⟩
theorem pf_X11_284 : am_pf xx RX11 284 8 6 .int := ⟨RX8, TX8, 9, tyX8, rfl, in_X8, by decide, x_in 220 (by decide +kernel), tyX8_ok, nmX8, rfl, by decide +kernel⟩
theorem gf_X8_42 : am_gf xx RX8 42 8 7 := ⟨RX8, TX8, 9, rfl, in_X8, by decide, x_in 221 (by decide +kernel)⟩
theorem pf_X8_42 : am_pf xx RX8 42 8 7 .int := ⟨RX8, TX8, 9, tyX8, rfl, in_X8, by decide, x_in 221 (by decide +kernel), tyX8_ok, nmX8, rfl, by decide +kernel⟩
theorem gf_X10_124 : am_gf xx RX10 124 8 7 := ⟨RX8, TX8, 9, rfl, in_X8, by decide, x_in 222 (by decide +kernel)⟩
theorem pf_X10_124 : am_pf xx RX10 124 8 7 .int := ⟨RX8, TX8, 9, tyX8, rfl, in_X8, by decide, x_in 222 (by decide +kernel), tyX8_ok, nmX8, rfl, by decide +kernel⟩
theorem gf_X11_296 : am_gf xx RX11 296 8 7 := ⟨RX8, TX8, 9, rfl, in_X8, by decide, x_in 223 (by decide +kernel)⟩
theorem pf_X11_296 : am_pf xx RX11 296 8 7 .int := ⟨RX8, TX8, 9, tyX8, rfl, in_X8, by decide, x_in 223 (by decide +kernel), tyX8_ok, nmX8, rfl, by decide +kernel⟩
theorem gf_X8_45 : am_gf xx RX8 45 8 8 := ⟨RX8, TX8, 9, rfl, in_X8, by decide, x_in 224 (by decide +kernel)⟩
theorem pf_X8_45 : am_pf xx RX8 45 8 8 .int := ⟨RX8, TX8, 9, tyX8, rfl, in_X8, by decide, x_in 224 (by decide +kernel), tyX8_ok, nmX8, rfl, by decide +kernel⟩
theorem gf_X10_127 : am_gf xx RX10 127 8 8 := ⟨RX8, TX8, 9, rfl, in_X8, by decide, x_in 225 (by decide +kernel)⟩
theorem pf_X10_127 : am_pf xx RX10 127 8 8 .int := ⟨RX8, TX8, 9, tyX8, rfl, in_X8, by decide, x_in 225 (by decide +kernel), tyX8_ok, nmX8, rfl, by decide +kernel⟩
theorem gf_X11_299 : am_gf xx RX11 299 8 8 := ⟨RX8, TX8, 9, rfl, in_X8, by decide, x_in 226 (by decide +kernel)⟩
theorem pf_X11_299 : am_pf xx RX11 299 8 8 .int := ⟨RX8, TX8, 9, tyX8, rfl, in_X8, by decide, x_in 226 (by decide +kernel), tyX8_ok, nmX8, rfl, by decide +kernel⟩
theorem gf_X4_13 : am_gf xx RX4 13 5 0 := ⟨RX4, TX4, 3, rfl, in_X4, by decide, x_in 255 (by decide +kernel)⟩
theorem gf_X4_17 : am_gf xx RX4 17 5 1 := ⟨RX4, TX4, 3, rfl, in_X4, by decide, x_in 256 (by decide +kernel)⟩
theorem pf_X4_17 : am_pf xx RX4 17 5 1 .int := ⟨RX4, TX4, 3, tyX4, rfl, in_X4, by decide, x_in 256 (by decide +kernel), tyX4_ok, nmX4, rfl, by decide +kernel⟩
theorem gf_X4_21 : am_gf xx RX4 21 5 2 := ⟨RX4, TX4, 3, rfl, in_X4, by decide, x_in 257 (by decide +kernel)⟩
theorem pf_X4_21 : am_pf xx RX4 21 5 2 .int := ⟨RX4, TX4, 3, tyX4, rfl, in_X4, by decide, x_in 257 (by decide +kernel), tyX4_ok, nmX4, rfl, by decide +kernel⟩
theorem gf_X11_403 : am_gf xx RX11 403 5 2 := ⟨RX4, TX4, 3, rfl, in_X4, by decide, x_in 258 (by decide +kernel)⟩
theorem pf_X11_403 : am_pf xx RX11 403 5 2 .int := ⟨RX4, TX4, 3, tyX4, rfl, in_X4, by decide, x_in 258 (by decide +kernel), tyX4_ok, nmX4, rfl, by decide +kernel⟩
theorem gf_X9_9 : am_gf xx RX9 9 9 0 := ⟨RX9, TX9, 7, rfl, in_X9, by decide, x_in 272 (by decide +kernel)⟩
theorem gf_X9_15 : am_gf xx RX9 15 9 1 := ⟨RX9, TX9, 7, rfl, in_X9, by decide, x_in 273 (by decide +kernel)⟩
theorem gf_X9_18 : am_gf xx RX9 18 9 2 := ⟨RX9, TX9, 7, rfl, in_X9, by decide, x_in 274 (by decide +kernel)⟩
theorem gf_X9_21 : am_gf xx RX9 21 9 3 := ⟨RX9, TX9, 7, rfl, in_X9, by decide, x_in 275 (by decide +kernel)⟩
theorem gf_X9_24 : am_gf xx RX9 24 9 4 := ⟨RX9, TX9, 7, rfl, in_X9, by decide, x_in 276 (by decide +kernel)⟩
theorem gf_X9_27 : am_gf xx RX9 27 9 5 := ⟨RX9, TX9, 7, rfl, in_X9, by decide, x_in 277 (by decide +kernel)⟩
theorem gf_X9_30 : am_gf xx RX9 30 9 6 := ⟨RX9, TX9, 7, rfl, in_X9, by decide, x_in 278 (by decide +kernel)⟩
theorem pf_X9_30 : am_pf xx RX9 30 9 6 .int := ⟨RX9, TX9, 7, tyX9, rfl, in_X9, by decide, x_in 278 (by decide +kernel), tyX9_ok, nmX9, rfl, by decide +kernel⟩
theorem gf_X7_9 : am_gf xx RX7 9 7 0 := ⟨RX7, TX7, 5, rfl, in_X7, by decide, x_in 300 (by decide +kernel)⟩
theorem gf_X10_47 : am_gf xx RX10 47 7 0 := ⟨RX7, TX7, 5, rfl, in_X7, by decide, x_in 301 (by decide +kernel)⟩
theorem gf_X11_209 : am_gf xx RX11 209 7 0 := ⟨RX7, TX7, 5, rfl, in_X7, by decide, x_in 302 (by decide +kernel)⟩
theorem gf_X7_15 : am_gf xx RX7 15 7 1 := ⟨RX7, TX7, 5, rfl, in_X7, by decide, x_in 303 (by decide +kernel)⟩
theorem gf_X10_79 : am_gf xx RX10 79 7 1 := ⟨RX7, TX7, 5, rfl, in_X7, by decide, x_in 304 (by decide +kernel)⟩
theorem gf_X7_18 : am_gf xx RX7 18 7 2 := ⟨RX7, TX7, 5, rfl, in_X7, by decide, x_in 305 (by decide +kernel)⟩
theorem gf_X10_43 : am_gf xx RX10 43 7 2 := ⟨RX7, TX7, 5, rfl, in_X7, by decide, x_in 306 (by decide +kernel)⟩
theorem gf_X11_219 : am_gf xx RX11 219 7 2 := ⟨RX7, TX7, 5, rfl, in_X7, by decide, x_in 307 (by decide +kernel)⟩
theorem gf_X7_21 : am_gf xx RX7 21 7 3 := ⟨RX7, TX7, 5, rfl, in_X7, by decide, x_in 308 (by decide +kernel)⟩
theorem gf_X11_224 : am_gf xx RX11 224 7 3 := ⟨RX7, TX7, 5, rfl, in_X7, by decide, x_in 309 (by decide +kernel)⟩
theorem gf_X7_25 : am_gf xx RX7 25 7 4 := ⟨RX7, TX7, 5, rfl, in_X7, by decide, x_in 310 (by decide +kernel)⟩
theorem gf_X10_12 : am_gf xx RX10 12 10 0 := ⟨RX10, TX10, 1, rfl, in_X10, by decide, x_in 331 (by decide +kernel)⟩
theorem gf_X2_9 : am_gf xx RX2 9 3 0 := ⟨RX2, TX2, 2, rfl, in_X2, by decide, x_in 341 (by decide +kernel)⟩
theorem pf_X2_9 : am_pf xx RX2 9 3 0 .int := ⟨RX2, TX2, 2, tyX2, rfl, in_X2, by decide, x_in 341 (by decide +kernel), tyX2_ok, nmX2, rfl, by decide +kernel⟩
theorem gf_X11_379 : am_gf xx RX11 379 3 0 := ⟨RX2, TX2, 2, rfl, in_X2, by decide, x_in 342 (by decide +kernel)⟩
theorem pf_X11_379 : am_pf xx RX11 379 3 0 .int := ⟨RX2, TX2, 2, tyX2, rfl, in_X2, by decide, x_in 342 (by decide +kernel), tyX2_ok, nmX2, rfl, by decide +kernel⟩
theorem gf_X2_15 : am_gf xx RX2 15 3 1 := ⟨RX2, TX2, 2, rfl, in_X2, by decide, x_in 343 (by decide +kernel)⟩
theorem pf_X2_15 : am_pf xx RX2 15 3 1 .int := ⟨RX2, TX2, 2, tyX2, rfl, in_X2, by decide, x_in 343 (by decide +kernel), tyX2_ok, nmX2, rfl, by decide +kernel⟩
theorem gf_X11_448 : am_gf xx RX11 448 3 1 := ⟨RX2, TX2, 2, rfl, in_X2, by decide, x_in 344 (by decide +kernel)⟩
theorem pf_X11_448 : am_pf xx RX11 448 3 1 .int := ⟨RX2, TX2, 2, tyX2, rfl, in_X2, by decide, x_in 344 (by decide +kernel), tyX2_ok, nmX2, rfl, by decide +kernel⟩
theorem gf_X3_11 : am_gf xx RX3 11 4 0 := ⟨RX3, TX3, 6, rfl, in_X3, by decide, x_in 360 (by decide +kernel)⟩
theorem gf_X11_363 : am_gf xx RX11 363 4 0 := ⟨RX3, TX3, 6, rfl, in_X3, by decide, x_in 361 (by decide +kernel)⟩
theorem gf_X3_19 : am_gf xx RX3 19 4 1 := ⟨RX3, TX3, 6, rfl, in_X3, by decide, x_in 362 (by decide +kernel)⟩
theorem gf_X11_367 : am_gf xx RX11 367 4 1 := ⟨RX3, TX3, 6, rfl, in_X3, by decide, x_in 363 (by decide +kernel)⟩
theorem gf_X3_22 : am_gf xx RX3 22 4 2 := ⟨RX3, TX3, 6, rfl, in_X3, by decide, x_in 364 (by decide +kernel)⟩
theorem pf_X3_22 : am_pf xx RX3 22 4 2 .int := ⟨RX3, TX3, 6, tyX3, rfl, in_X3, by decide, x_in 364 (by decide +kernel), tyX3_ok, nmX3, rfl, by decide +kernel⟩
theorem gf_X11_360 : am_gf xx RX11 360 4 2 := ⟨RX3, TX3, 6, rfl, in_X3, by decide, x_in 365 (by decide +kernel)⟩
theorem pf_X11_360 : am_pf xx RX11 360 4 2 .int := ⟨RX3, TX3, 6, tyX3, rfl, in_X3, by decide, x_in 365 (by decide +kernel), tyX3_ok, nmX3, rfl, by decide +kernel⟩
theorem gf_X3_26 : am_gf xx RX3 26 4 3 := ⟨RX3, TX3, 6, rfl, in_X3, by decide, x_in 366 (by decide +kernel)⟩
theorem pf_X3_26 : am_pf xx RX3 26 4 3 .int := ⟨RX3, TX3, 6, tyX3, rfl, in_X3, by decide, x_in 366 (by decide +kernel), tyX3_ok, nmX3, rfl, by decide +kernel⟩
theorem gf_X11_344 : am_gf xx RX11 344 4 3 := ⟨RX3, TX3, 6, rfl, in_X3, by decide, x_in 367 (by decide +kernel)⟩
theorem pf_X11_344 : am_pf xx RX11 344 4 3 .int := ⟨RX3, TX3, 6, tyX3, rfl, in_X3, by decide, x_in 367 (by decide +kernel), tyX3_ok, nmX3, rfl, by decide +kernel⟩
theorem gf_X3_29 : am_gf xx RX3 29 4 4 := ⟨RX3, TX3, 6, rfl, in_X3, by decide, x_in 368 (by decide +kernel)⟩
theorem gf_X3_33 : am_gf xx RX3 33 4 5 := ⟨RX3, TX3, 6, rfl, in_X3, by decide, x_in 369 (by decide +kernel)⟩
theorem pf_X3_33 : am_pf xx RX3 33 4 5 .int := ⟨RX3, TX3, 6, tyX3, rfl, in_X3, by decide, x_in 369 (by decide +kernel), tyX3_ok, nmX3, rfl, by decide +kernel⟩
theorem gf_X11_10 : am_gf xx RX11 10 11 0 := ⟨RX11, TX11, 16, rfl, in_X11, by decide, x_in 384 (by decide +kernel)⟩
theorem gf_X11_16 : am_gf xx RX11 16 11 1 := ⟨RX11, TX11, 16, rfl, in_X11, by decide, x_in 385 (by decide +kernel)⟩
theorem gf_X11_19 : am_gf xx RX11 19 11 2 := ⟨RX11, TX11, 16, rfl, in_X11, by decide, x_in 386 (by decide +kernel)⟩
theorem gf_X11_25 : am_gf xx RX11 25 11 3 := ⟨RX11, TX11, 16, rfl, in_X11, by decide, x_in 387 (by decide +kernel)⟩
theorem gf_X11_32 : am_gf xx RX11 32 11 4 := ⟨RX11, TX11, 16, rfl, in_X11, by decide, x_in 388 (by decide +kernel)⟩
theorem gf_X11_39 : am_gf xx RX11 39 11 5 := ⟨RX11, TX11, 16, rfl, in_X11, by decide, x_in 389 (by decide +kernel)⟩
theorem gf_X11_46 : am_gf xx RX11 46 11 6 := ⟨RX11, TX11, 16, rfl, in_X11, by decide, x_in 390 (by decide +kernel)⟩
theorem gf_X11_53 : am_gf xx RX11 53 11 7 := ⟨RX11, TX11, 16, rfl, in_X11, by decide, x_in 391 (by decide +kernel)⟩
theorem gf_X11_60 : am_gf xx RX11 60 11 8 := ⟨RX11, TX11, 16, rfl, in_X11, by decide, x_in 392 (by decide +kernel)⟩
theorem gf_X11_64 : am_gf xx RX11 64 11 9 := ⟨RX11, TX11, 16, rfl, in_X11, by decide, x_in 393 (by decide +kernel)⟩
theorem gf_X11_68 : am_gf xx RX11 68 11 10 := ⟨RX11, TX11, 16, rfl, in_X11, by decide, x_in 394 (by decide +kernel)⟩
theorem pf_X11_68 : am_pf xx RX11 68 11 10 .int := ⟨RX11, TX11, 16, tyX11, rfl, in_X11, by decide, x_in 394 (by decide +kernel), tyX11_ok, nmX11, rfl, by decide +kernel⟩
theorem gf_X11_72 : am_gf xx RX11 72 11 11 := ⟨RX11, TX11, 16, rfl, in_X11, by decide, x_in 395 (by decide +kernel)⟩
theorem pf_X11_72 : am_pf xx RX11 72 11 11 .boolean := ⟨RX11, TX11, 16, tyX11, rfl, in_X11, by decide, x_in 395 (by decide +kernel), tyX11_ok, nmX11, rfl, by decide +kernel⟩
theorem gf_X11_76 : am_gf xx RX11 76 11 12 := ⟨RX11, TX11, 16, rfl, in_X11, by decide, x_in 396 (by decide +kernel)⟩
theorem pf_X11_76 : am_pf xx RX11 76 11 12 .int := ⟨RX11, TX11, 16, tyX11, rfl, in_X11, by decide, x_in 396 (by decide +kernel), tyX11_ok, nmX11, rfl, by decide +kernel⟩
theorem gf_X11_79 : am_gf xx RX11 79 11 13 := ⟨RX11, TX11, 16, rfl, in_X11, by decide, x_in 397 (by decide +kernel)⟩
theorem pf_X11_79 : am_pf xx RX11 79 11 13 .int := ⟨RX11, TX11, 16, tyX11, rfl, in_X11, by decide, x_in 397 (by decide +kernel), tyX11_ok, nmX11, rfl, by decide +kernel⟩
theorem gf_X11_82 : am_gf xx RX11 82 11 14 := ⟨RX11, TX11, 16, rfl, in_X11, by decide, x_in 398 (by decide +kernel)⟩
theorem pf_X11_82 : am_pf xx RX11 82 11 14 .int := ⟨RX11, TX11, 16, tyX11, rfl, in_X11, by decide, x_in 398 (by decide +kernel), tyX11_ok, nmX11, rfl, by decide +kernel⟩
theorem gf_X11_85 : am_gf xx RX11 85 11 15 := ⟨RX11, TX11, 16, rfl, in_X11, by decide, x_in 399 (by decide +kernel)⟩
theorem pf_X11_85 : am_pf xx RX11 85 11 15 .int := ⟨RX11, TX11, 16, tyX11, rfl, in_X11, by decide, x_in 399 (by decide +kernel), tyX11_ok, nmX11, rfl, by decide +kernel⟩
