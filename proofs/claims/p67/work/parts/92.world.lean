/-! ===== the world behind the constructor ===== -/
def n_kk : Nat → Nat := fun k => match k with
  | 0 => 0 | 1 => 1 | 2 => 7 | 3 => 9 | 4 => 2 | 5 => 3 | 6 => 4 | 7 => 5 | 8 => 6 | _ => 8
def n_bs (i : Nat) : Nat := if i = 0 then 1 else if i = 1 then 11 else if i = 2 then 21 else 3 + 10 * i
def n_lo : List Nat := [0, 0, 31, 32, 123, 124, 125, 126, 127, 128, 129, 136, 143, 144, 145, 146, 159, 160, 0, 0, 130, 131, 132, 133, 134, 135, 0, 0, 0, 0, 137, 138, 139, 140, 141, 142, 0, 0, 0, 0, 147, 148, 149, 150, 151, 152, 153, 154, 155, 156, 157, 158, 0, 0, 0, 0, 0, 0, 0, 0, 0, 0, 0, 0, 0, 0, 0, 0, 0, 0, 0, 0, 0, 0, 0, 0, 0, 0, 0, 0, 0, 0, 0, 0, 0, 0, 0, 0, 0, 0, 0, 0, 0, 0, 0, 0, 0, 0, 0, 0]
/-- where the cell number c lies, behind the start's heap -/
def n_off (c : Nat) : Nat := if c < 100 then n_lo.getD c 0 else n_bs ((c - 100) / 16) + n_kk ((c - 100) % 16)
def n_inv : List Nat := [1, 100, 101, 104, 105, 106, 107, 108, 102, 109, 103, 116, 117, 120, 121, 122, 123, 124, 118, 125, 119, 132, 133, 136, 137, 138, 139, 140, 134, 141, 135, 2, 3, 148, 149, 152, 153, 154, 155, 156, 150, 157, 151, 164, 165, 168, 169, 170, 171, 172, 166, 173, 167, 180, 181, 184, 185, 186, 187, 188, 182, 189, 183, 196, 197, 200, 201, 202, 203, 204, 198, 205, 199, 212, 213, 216, 217, 218, 219, 220, 214, 221, 215, 228, 229, 232, 233, 234, 235, 236, 230, 237, 231, 244, 245, 248, 249, 250, 251, 252, 246, 253, 247, 260, 261, 264, 265, 266, 267, 268, 262, 269, 263, 276, 277, 280, 281, 282, 283, 284, 278, 285, 279, 4, 5, 6, 7, 8, 9, 10, 20, 21, 22, 23, 24, 25, 11, 30, 31, 32, 33, 34, 35, 12, 13, 14, 15, 40, 41, 42, 43, 44, 45, 46, 47, 48, 49, 50, 51, 16, 17]
theorem n_off_inv : ∀ c : Fin 292, (shx c.val).isSome = true → n_inv.getD (n_off c.val) 0 = c.val ∧ n_off c.val < 161 := by decide +kernel
def V0 : am_V := fun c k => if (c = 1 ∧ (k = 12 ∨ k = 14 ∨ k = 15)) ∨ (c = 12 ∧ k = 0) ∨ (100 ≤ c ∧ (c - 100) % 16 = 2 ∧ k = 3) then -1 else 0
def n_ad (h : Nat) (aK aV aN : Nat → Nat) (t0 t1 t2 tf b : Nat) (c : Nat) : Nat := if c < 292 then h + n_off c else if c < 400 then aN (c - 300) else if c < 500 then aK (c - 400) else if c < 600 then aV (c - 500) else if c = 600 then t0 else if c = 601 then t1 else if c = 602 then t2 else if c = 999 then b else tf
def n_U (D : va_G) (dA : Nat → ClassId) (aK aV aN : Nat → Nat) (t0 t1 t2 tf b : Nat) (s : State) : am_U := (D, dA, n_ad s.heap.size aK aV aN t0 t1 t2 tf b, s)
def nXF (U : am_U) : nE := nX11 U (nset (fun _ => none) 0 (.inr (11, [.null, .null, .null, .null, .null, .null, .null, .null, .null, .null, .int 0, .int 0, .int 0, .int 0, .int 0, .int 0]))) 0 1
set_option maxRecDepth 100000 in
theorem n_h_1 (D : va_G) (dA : Nat → ClassId) (aK aV aN : Nat → Nat) (t0 t1 t2 tf b : Nat) (s : State) {x : am_Sh} (h : shx 1 = some x) : nXF (n_U D dA aK aV aN t0 t1 t2 tf b s) 0 = some (am_e dA (n_ad s.heap.size aK aV aN t0 t1 t2 tf b) (V0 1) x) := by cases h; rfl
set_option maxRecDepth 100000 in
theorem n_h_2 (D : va_G) (dA : Nat → ClassId) (aK aV aN : Nat → Nat) (t0 t1 t2 tf b : Nat) (s : State) {x : am_Sh} (h : shx 2 = some x) : nXF (n_U D dA aK aV aN t0 t1 t2 tf b s) 31 = some (am_e dA (n_ad s.heap.size aK aV aN t0 t1 t2 tf b) (V0 2) x) := by cases h; rfl
set_option maxRecDepth 100000 in
theorem n_h_40 (D : va_G) (dA : Nat → ClassId) (aK aV aN : Nat → Nat) (t0 t1 t2 tf b : Nat) (s : State) {x : am_Sh} (h : shx 40 = some x) : nXF (n_U D dA aK aV aN t0 t1 t2 tf b s) 147 = some (am_e dA (n_ad s.heap.size aK aV aN t0 t1 t2 tf b) (V0 40) x) := by cases h; rfl
set_option maxRecDepth 100000 in
theorem n_h_20 (D : va_G) (dA : Nat → ClassId) (aK aV aN : Nat → Nat) (t0 t1 t2 tf b : Nat) (s : State) {x : am_Sh} (h : shx 20 = some x) : nXF (n_U D dA aK aV aN t0 t1 t2 tf b s) 130 = some (am_e dA (n_ad s.heap.size aK aV aN t0 t1 t2 tf b) (V0 20) x) := by cases h; rfl
set_option maxRecDepth 100000 in
theorem n_h_101 (D : va_G) (dA : Nat → ClassId) (aK aV aN : Nat → Nat) (t0 t1 t2 tf b : Nat) (s : State) {x : am_Sh} (h : shx 101 = some x) : nXF (n_U D dA aK aV aN t0 t1 t2 tf b s) 2 = some (am_e dA (n_ad s.heap.size aK aV aN t0 t1 t2 tf b) (V0 101) x) := by cases h; rfl
set_option maxRecDepth 100000 in
theorem n_h_102 (D : va_G) (dA : Nat → ClassId) (aK aV aN : Nat → Nat) (t0 t1 t2 tf b : Nat) (s : State) {x : am_Sh} (h : shx 102 = some x) : nXF (n_U D dA aK aV aN t0 t1 t2 tf b s) 8 = some (am_e dA (n_ad s.heap.size aK aV aN t0 t1 t2 tf b) (V0 102) x) := by cases h; rfl
set_option maxRecDepth 100000 in
theorem n_h_103 (D : va_G) (dA : Nat → ClassId) (aK aV aN : Nat → Nat) (t0 t1 t2 tf b : Nat) (s : State) {x : am_Sh} (h : shx 103 = some x) : nXF (n_U D dA aK aV aN t0 t1 t2 tf b s) 10 = some (am_e dA (n_ad s.heap.size aK aV aN t0 t1 t2 tf b) (V0 103) x) := by cases h; rfl
set_option maxRecDepth 100000 in
theorem n_h_104 (D : va_G) (dA : Nat → ClassId) (aK aV aN : Nat → Nat) (t0 t1 t2 tf b : Nat) (s : State) {x : am_Sh} (h : shx 104 = some x) : nXF (n_U D dA aK aV aN t0 t1 t2 tf b s) 3 = some (am_e dA (n_ad s.heap.size aK aV aN t0 t1 t2 tf b) (V0 104) x) := by cases h; rfl
set_option maxRecDepth 100000 in
theorem n_h_200 (D : va_G) (dA : Nat → ClassId) (aK aV aN : Nat → Nat) (t0 t1 t2 tf b : Nat) (s : State) {x : am_Sh} (h : shx 200 = some x) : nXF (n_U D dA aK aV aN t0 t1 t2 tf b s) 65 = some (am_e dA (n_ad s.heap.size aK aV aN t0 t1 t2 tf b) (V0 200) x) := by cases h; rfl
