/-! ===== the world behind the constructor ===== -/
def n_kk : Nat → Nat := fun k => match k with
  | 0 => 0 | 1 => 1 | 2 => 7 | 3 => 9 | 4 => 2 | 5 => 3 | 6 => 4 | 7 => 5 | 8 => 6 | _ => 8
def n_bs (i : Nat) : Nat := if i = 0 then 1 else if i = 1 then 11 else if i = 2 then 21 else 3 + 10 * i
def n_lo : List Nat := [0, 0, 31, 32, 123, 124, 125, 126, 127, 128, 129, 136, 143, 144, 145, 146, 159, 160, 0, 0, 130, 131, 132, 133, 134, 135, 0, 0, 0, 0, 137, 138, 139, 140, 141, 142, 0, 0, 0, 0, 147, 148, 149, 150, 151, 152, 153, 154, 155, 156, 157, 158, 0, 0, 0, 0, 0, 0, 0, 0, 0, 0, 0, 0, 0, 0, 0, 0, 0, 0, 0, 0, 0, 0, 0, 0, 0, 0, 0, 0, 0, 0, 0, 0, 0, 0, 0, 0, 0, 0, 0, 0, 0, 0, 0, 0, 0, 0, 0, 0]
/-- where the cell number c lies, behind the start's heap -/
def n_off (c : Nat) : Nat := if c < 100 then n_lo.getD c 0 else n_bs ((c - 100) / 16) + n_kk ((c - 100) % 16)
def n_inv : List Nat := [1, 100, 101, 104, 105, 106, 107, 108, 102, 109, 103, 116, 117, 120, 121, 122, 123, 124, 118, 125, 119, 132, 133, 136, 137, 138, 139, 140, 134, 141, 135, 2, 3, 148, 149, 152, 153, 154, 155, 156, 150, 157, 151, 164, 165, 168, 169, 170, 171, 172, 166, 173, 167, 180, 181, 184, 185, 186, 187, 188, 182, 189, 183, 196, 197, 200, 201, 202, 203, 204, 198, 205, 199, 212, 213, 216, 217, 218, 219, 220, 214, 221, 215, 228, 229, 232, 233, 234, 235, 236, 230, 237, 231, 244, 245, 248, 249, 250, 251, 252, 246, 253, 247, 260, 261, 264, 265, 266, 267, 268, 262, 269, 263, 276, 277, 280, 281, 282, 283, 284, 278, 285, 279, 4, 5, 6, 7, 8, 9, 10, 20, 21, 22, 23, 24, 25, 11, 30, 31, 32, 33, 34, 35, 12, 13, 14, 15, 40, 41, 42, 43, 44, 45, 46, 47, 48, 49, 50, 51, 16, 17]
theorem n_off_inv : ∀ c : Fin 292, (shx c.val).isSome = true → n_inv.getD (n_off c.val) 0 = c.val ∧ n_off c.val < 161 := by decide +kernel
def V0 : am_V := fun c k => if (c = 1 ∧ (k = 12 ∨ k = 14 ∨ k = 15)) ∨ (c = 12 ∧ k = 0) ∨ (100 ≤ c ∧ (c - 100) % 16 = 2 ∧ k = 3) then -1 else 0
def n_ad (h : Nat) (aK aV aN : Nat → Nat) (t0 t1 t2 tf b : Nat) (c : Nat) : Nat := if c < 292 then h + n_off c else if c < 400 then aN (c - 300) else if c < 500 then aK (c - 400) else if c < 600 then aV (c - 500) else if c = 600 then t0 else if c = 601 then t1 else if c = 602 then t2 else if c = 999 then b else tf
def n_U (D : va_G) (dA : Nat → ClassId) (aK aV aN : Nat → Nat) (t0 t1 t2 tf b : Nat) (s : State) : am_U := (D, dA, n_ad s.heap.size aK aV aN t0 t1 t2 tf b, s)
def nXF (U : am_U) : nE := nX11 U (nset (fun _ => none) 0 (.inr (11, [.null, .null, .null, .null, .null, .null, .null, .null, .null, .null, .int 0, .int 0, .int 0, .int 0, .int 0, .int 0]))) 0 1
section
variable {D : va_G} {dA : Nat → ClassId} {aK aV aN : Nat → Nat} {t0 t1 t2 tf b : Nat} {s : State} {H : Heap}
def n_Hf (D : va_G) (dA : Nat → ClassId) (aK aV aN : Nat → Nat) (t0 t1 t2 tf b : Nat) (s : State) (H : Heap) : Prop := n_H (n_U D dA aK aV aN t0 t1 t2 tf b s) (nXF (n_U D dA aK aV aN t0 t1 t2 tf b s)) 161 H
theorem n_refs {c : ClassId} {N : Nat} {f g : Nat → Option Nat} (h : ∀ j, j < N → f j = g j) : vp_cell c (N, .inr (.inr (.inr (.inr f)))) = vp_cell c (N, .inr (.inr (.inr (.inr g)))) := by
  rw [vp_cell_q, vp_cell_q]
  unfold arrV
  congr 2
  funext j
  exact congrArg va_rf (h j.val j.isLt)
def n_P (D : va_G) (dA : Nat → ClassId) (aK aV aN : Nat → Nat) (t0 t1 t2 tf b : Nat) (s : State) (H : Heap) (c : Nat) : Prop := ∀ x, shx c = some x → va_at D vwCl (n_ad s.heap.size aK aV aN t0 t1 t2 tf b c, am_e dA (n_ad s.heap.size aK aV aN t0 t1 t2 tf b) (V0 c) x) H
set_option maxRecDepth 100000 in
theorem n_wc1 (hH : n_Hf D dA aK aV aN t0 t1 t2 tf b s H) : n_P D dA aK aV aN t0 t1 t2 tf b s H 1 := fun x h => by cases h; exact hH.2.2 0 _ rfl
set_option maxRecDepth 100000 in
theorem n_wc100 (hH : n_Hf D dA aK aV aN t0 t1 t2 tf b s H) : n_P D dA aK aV aN t0 t1 t2 tf b s H 100 := fun x h => by cases h; exact hH.2.2 1 _ rfl
set_option maxRecDepth 100000 in
theorem n_wc101 (hH : n_Hf D dA aK aV aN t0 t1 t2 tf b s H) : n_P D dA aK aV aN t0 t1 t2 tf b s H 101 := fun x h => by cases h; exact hH.2.2 2 _ rfl
set_option maxRecDepth 100000 in
theorem n_wc104 (hH : n_Hf D dA aK aV aN t0 t1 t2 tf b s H) : n_P D dA aK aV aN t0 t1 t2 tf b s H 104 := fun x h => by cases h; exact hH.2.2 3 _ rfl
set_option maxRecDepth 100000 in
theorem n_wc105 (hH : n_Hf D dA aK aV aN t0 t1 t2 tf b s H) : n_P D dA aK aV aN t0 t1 t2 tf b s H 105 := fun x h => by cases h; exact hH.2.2 4 _ rfl
set_option maxRecDepth 100000 in
theorem n_wc106 (hH : n_Hf D dA aK aV aN t0 t1 t2 tf b s H) : n_P D dA aK aV aN t0 t1 t2 tf b s H 106 := fun x h => by cases h; exact hH.2.2 5 _ rfl
set_option maxRecDepth 100000 in
theorem n_wc107 (hH : n_Hf D dA aK aV aN t0 t1 t2 tf b s H) : n_P D dA aK aV aN t0 t1 t2 tf b s H 107 := fun x h => by cases h; exact hH.2.2 6 _ rfl
set_option maxRecDepth 100000 in
theorem n_wc108 (hH : n_Hf D dA aK aV aN t0 t1 t2 tf b s H) : n_P D dA aK aV aN t0 t1 t2 tf b s H 108 := fun x h => by cases h; exact hH.2.2 7 _ rfl
set_option maxRecDepth 100000 in
theorem n_wc102 (hH : n_Hf D dA aK aV aN t0 t1 t2 tf b s H) : n_P D dA aK aV aN t0 t1 t2 tf b s H 102 := fun x h => by cases h; exact hH.2.2 8 _ rfl
set_option maxRecDepth 100000 in
theorem n_wc109 (hH : n_Hf D dA aK aV aN t0 t1 t2 tf b s H) : n_P D dA aK aV aN t0 t1 t2 tf b s H 109 := fun x h => by cases h; exact hH.2.2 9 _ rfl
set_option maxRecDepth 100000 in
theorem n_wc103 (hH : n_Hf D dA aK aV aN t0 t1 t2 tf b s H) : n_P D dA aK aV aN t0 t1 t2 tf b s H 103 := fun x h => by cases h; exact hH.2.2 10 _ rfl
set_option maxRecDepth 100000 in
theorem n_wc116 (hH : n_Hf D dA aK aV aN t0 t1 t2 tf b s H) : n_P D dA aK aV aN t0 t1 t2 tf b s H 116 := fun x h => by cases h; exact hH.2.2 11 _ rfl
set_option maxRecDepth 100000 in
theorem n_wc117 (hH : n_Hf D dA aK aV aN t0 t1 t2 tf b s H) : n_P D dA aK aV aN t0 t1 t2 tf b s H 117 := fun x h => by cases h; exact hH.2.2 12 _ rfl
set_option maxRecDepth 100000 in
theorem n_wc120 (hH : n_Hf D dA aK aV aN t0 t1 t2 tf b s H) : n_P D dA aK aV aN t0 t1 t2 tf b s H 120 := fun x h => by cases h; exact hH.2.2 13 _ rfl
set_option maxRecDepth 100000 in
theorem n_wc121 (hH : n_Hf D dA aK aV aN t0 t1 t2 tf b s H) : n_P D dA aK aV aN t0 t1 t2 tf b s H 121 := fun x h => by cases h; exact hH.2.2 14 _ rfl
set_option maxRecDepth 100000 in
theorem n_wc122 (hH : n_Hf D dA aK aV aN t0 t1 t2 tf b s H) : n_P D dA aK aV aN t0 t1 t2 tf b s H 122 := fun x h => by cases h; exact hH.2.2 15 _ rfl
set_option maxRecDepth 100000 in
theorem n_wc123 (hH : n_Hf D dA aK aV aN t0 t1 t2 tf b s H) : n_P D dA aK aV aN t0 t1 t2 tf b s H 123 := fun x h => by cases h; exact hH.2.2 16 _ rfl
set_option maxRecDepth 100000 in
theorem n_wc124 (hH : n_Hf D dA aK aV aN t0 t1 t2 tf b s H) : n_P D dA aK aV aN t0 t1 t2 tf b s H 124 := fun x h => by cases h; exact hH.2.2 17 _ rfl
set_option maxRecDepth 100000 in
theorem n_wc118 (hH : n_Hf D dA aK aV aN t0 t1 t2 tf b s H) : n_P D dA aK aV aN t0 t1 t2 tf b s H 118 := fun x h => by cases h; exact hH.2.2 18 _ rfl
set_option maxRecDepth 100000 in
theorem n_wc125 (hH : n_Hf D dA aK aV aN t0 t1 t2 tf b s H) : n_P D dA aK aV aN t0 t1 t2 tf b s H 125 := fun x h => by cases h; exact hH.2.2 19 _ rfl
set_option maxRecDepth 100000 in
theorem n_wc119 (hH : n_Hf D dA aK aV aN t0 t1 t2 tf b s H) : n_P D dA aK aV aN t0 t1 t2 tf b s H 119 := fun x h => by cases h; exact hH.2.2 20 _ rfl
set_option maxRecDepth 100000 in
theorem n_wc132 (hH : n_Hf D dA aK aV aN t0 t1 t2 tf b s H) : n_P D dA aK aV aN t0 t1 t2 tf b s H 132 := fun x h => by cases h; exact hH.2.2 21 _ rfl
set_option maxRecDepth 100000 in
theorem n_wc133 (hH : n_Hf D dA aK aV aN t0 t1 t2 tf b s H) : n_P D dA aK aV aN t0 t1 t2 tf b s H 133 := fun x h => by cases h; exact hH.2.2 22 _ rfl
set_option maxRecDepth 100000 in
theorem n_wc136 (hH : n_Hf D dA aK aV aN t0 t1 t2 tf b s H) : n_P D dA aK aV aN t0 t1 t2 tf b s H 136 := fun x h => by cases h; exact hH.2.2 23 _ rfl
set_option maxRecDepth 100000 in
theorem n_wc137 (hH : n_Hf D dA aK aV aN t0 t1 t2 tf b s H) : n_P D dA aK aV aN t0 t1 t2 tf b s H 137 := fun x h => by cases h; exact hH.2.2 24 _ rfl
set_option maxRecDepth 100000 in
theorem n_wc138 (hH : n_Hf D dA aK aV aN t0 t1 t2 tf b s H) : n_P D dA aK aV aN t0 t1 t2 tf b s H 138 := fun x h => by cases h; exact hH.2.2 25 _ rfl
set_option maxRecDepth 100000 in
theorem n_wc139 (hH : n_Hf D dA aK aV aN t0 t1 t2 tf b s H) : n_P D dA aK aV aN t0 t1 t2 tf b s H 139 := fun x h => by cases h; exact hH.2.2 26 _ rfl
set_option maxRecDepth 100000 in
theorem n_wc140 (hH : n_Hf D dA aK aV aN t0 t1 t2 tf b s H) : n_P D dA aK aV aN t0 t1 t2 tf b s H 140 := fun x h => by cases h; exact hH.2.2 27 _ rfl
set_option maxRecDepth 100000 in
theorem n_wc134 (hH : n_Hf D dA aK aV aN t0 t1 t2 tf b s H) : n_P D dA aK aV aN t0 t1 t2 tf b s H 134 := fun x h => by cases h; exact hH.2.2 28 _ rfl
set_option maxRecDepth 100000 in
theorem n_wc141 (hH : n_Hf D dA aK aV aN t0 t1 t2 tf b s H) : n_P D dA aK aV aN t0 t1 t2 tf b s H 141 := fun x h => by cases h; exact hH.2.2 29 _ rfl
set_option maxRecDepth 100000 in
theorem n_wc135 (hH : n_Hf D dA aK aV aN t0 t1 t2 tf b s H) : n_P D dA aK aV aN t0 t1 t2 tf b s H 135 := fun x h => by cases h; exact hH.2.2 30 _ rfl
set_option maxRecDepth 100000 in
theorem n_wc2 (hH : n_Hf D dA aK aV aN t0 t1 t2 tf b s H) : n_P D dA aK aV aN t0 t1 t2 tf b s H 2 := fun x h => by cases h; exact hH.2.2 31 _ rfl
set_option maxRecDepth 100000 in
theorem n_wc3 (hH : n_Hf D dA aK aV aN t0 t1 t2 tf b s H) : n_P D dA aK aV aN t0 t1 t2 tf b s H 3 := by
  intro x h
  cases h
  have h1 := hH.2.2 32 (.inl (dA 3, 9, .inr (.inr (.inr (.inr (nX4_f9 (n_U D dA aK aV aN t0 t1 t2 tf b s) 32)))))) rfl
  have h1 : H[s.heap.size + 32]? = some (vp_cell (dA 3) _) := h1
  show H[s.heap.size + 32]? = some (vp_cell (dA 3) _)
  rw [h1]
  refine congrArg some (n_refs fun j hj => ?_)
  rcases (show j = 0 ∨ j = 1 ∨ j = 2 ∨ j = 3 ∨ j = 4 ∨ j = 5 ∨ j = 6 ∨ j = 7 ∨ j = 8 by omega) with rfl | rfl | rfl | rfl | rfl | rfl | rfl | rfl | rfl <;> rfl
set_option maxRecDepth 100000 in
theorem n_wc148 (hH : n_Hf D dA aK aV aN t0 t1 t2 tf b s H) : n_P D dA aK aV aN t0 t1 t2 tf b s H 148 := fun x h => by cases h; exact hH.2.2 33 _ rfl
set_option maxRecDepth 100000 in
theorem n_wc149 (hH : n_Hf D dA aK aV aN t0 t1 t2 tf b s H) : n_P D dA aK aV aN t0 t1 t2 tf b s H 149 := fun x h => by cases h; exact hH.2.2 34 _ rfl
set_option maxRecDepth 100000 in
theorem n_wc152 (hH : n_Hf D dA aK aV aN t0 t1 t2 tf b s H) : n_P D dA aK aV aN t0 t1 t2 tf b s H 152 := fun x h => by cases h; exact hH.2.2 35 _ rfl
set_option maxRecDepth 100000 in
theorem n_wc153 (hH : n_Hf D dA aK aV aN t0 t1 t2 tf b s H) : n_P D dA aK aV aN t0 t1 t2 tf b s H 153 := fun x h => by cases h; exact hH.2.2 36 _ rfl
set_option maxRecDepth 100000 in
theorem n_wc154 (hH : n_Hf D dA aK aV aN t0 t1 t2 tf b s H) : n_P D dA aK aV aN t0 t1 t2 tf b s H 154 := fun x h => by cases h; exact hH.2.2 37 _ rfl
set_option maxRecDepth 100000 in
theorem n_wc155 (hH : n_Hf D dA aK aV aN t0 t1 t2 tf b s H) : n_P D dA aK aV aN t0 t1 t2 tf b s H 155 := fun x h => by cases h; exact hH.2.2 38 _ rfl
set_option maxRecDepth 100000 in
theorem n_wc156 (hH : n_Hf D dA aK aV aN t0 t1 t2 tf b s H) : n_P D dA aK aV aN t0 t1 t2 tf b s H 156 := fun x h => by cases h; exact hH.2.2 39 _ rfl
set_option maxRecDepth 100000 in
theorem n_wc150 (hH : n_Hf D dA aK aV aN t0 t1 t2 tf b s H) : n_P D dA aK aV aN t0 t1 t2 tf b s H 150 := fun x h => by cases h; exact hH.2.2 40 _ rfl
set_option maxRecDepth 100000 in
theorem n_wc157 (hH : n_Hf D dA aK aV aN t0 t1 t2 tf b s H) : n_P D dA aK aV aN t0 t1 t2 tf b s H 157 := fun x h => by cases h; exact hH.2.2 41 _ rfl
set_option maxRecDepth 100000 in
theorem n_wc151 (hH : n_Hf D dA aK aV aN t0 t1 t2 tf b s H) : n_P D dA aK aV aN t0 t1 t2 tf b s H 151 := fun x h => by cases h; exact hH.2.2 42 _ rfl
set_option maxRecDepth 100000 in
theorem n_wc164 (hH : n_Hf D dA aK aV aN t0 t1 t2 tf b s H) : n_P D dA aK aV aN t0 t1 t2 tf b s H 164 := fun x h => by cases h; exact hH.2.2 43 _ rfl
set_option maxRecDepth 100000 in
theorem n_wc165 (hH : n_Hf D dA aK aV aN t0 t1 t2 tf b s H) : n_P D dA aK aV aN t0 t1 t2 tf b s H 165 := fun x h => by cases h; exact hH.2.2 44 _ rfl
set_option maxRecDepth 100000 in
theorem n_wc168 (hH : n_Hf D dA aK aV aN t0 t1 t2 tf b s H) : n_P D dA aK aV aN t0 t1 t2 tf b s H 168 := fun x h => by cases h; exact hH.2.2 45 _ rfl
set_option maxRecDepth 100000 in
theorem n_wc169 (hH : n_Hf D dA aK aV aN t0 t1 t2 tf b s H) : n_P D dA aK aV aN t0 t1 t2 tf b s H 169 := fun x h => by cases h; exact hH.2.2 46 _ rfl
set_option maxRecDepth 100000 in
theorem n_wc170 (hH : n_Hf D dA aK aV aN t0 t1 t2 tf b s H) : n_P D dA aK aV aN t0 t1 t2 tf b s H 170 := fun x h => by cases h; exact hH.2.2 47 _ rfl
set_option maxRecDepth 100000 in
theorem n_wc171 (hH : n_Hf D dA aK aV aN t0 t1 t2 tf b s H) : n_P D dA aK aV aN t0 t1 t2 tf b s H 171 := fun x h => by cases h; exact hH.2.2 48 _ rfl
set_option maxRecDepth 100000 in
theorem n_wc172 (hH : n_Hf D dA aK aV aN t0 t1 t2 tf b s H) : n_P D dA aK aV aN t0 t1 t2 tf b s H 172 := fun x h => by cases h; exact hH.2.2 49 _ rfl
set_option maxRecDepth 100000 in
theorem n_wc166 (hH : n_Hf D dA aK aV aN t0 t1 t2 tf b s H) : n_P D dA aK aV aN t0 t1 t2 tf b s H 166 := fun x h => by cases h; exact hH.2.2 50 _ rfl
set_option maxRecDepth 100000 in
theorem n_wc173 (hH : n_Hf D dA aK aV aN t0 t1 t2 tf b s H) : n_P D dA aK aV aN t0 t1 t2 tf b s H 173 := fun x h => by cases h; exact hH.2.2 51 _ rfl
set_option maxRecDepth 100000 in
theorem n_wc167 (hH : n_Hf D dA aK aV aN t0 t1 t2 tf b s H) : n_P D dA aK aV aN t0 t1 t2 tf b s H 167 := fun x h => by cases h; exact hH.2.2 52 _ rfl
set_option maxRecDepth 100000 in
theorem n_wc180 (hH : n_Hf D dA aK aV aN t0 t1 t2 tf b s H) : n_P D dA aK aV aN t0 t1 t2 tf b s H 180 := fun x h => by cases h; exact hH.2.2 53 _ rfl
set_option maxRecDepth 100000 in
theorem n_wc181 (hH : n_Hf D dA aK aV aN t0 t1 t2 tf b s H) : n_P D dA aK aV aN t0 t1 t2 tf b s H 181 := fun x h => by cases h; exact hH.2.2 54 _ rfl
set_option maxRecDepth 100000 in
theorem n_wc184 (hH : n_Hf D dA aK aV aN t0 t1 t2 tf b s H) : n_P D dA aK aV aN t0 t1 t2 tf b s H 184 := fun x h => by cases h; exact hH.2.2 55 _ rfl
set_option maxRecDepth 100000 in
theorem n_wc185 (hH : n_Hf D dA aK aV aN t0 t1 t2 tf b s H) : n_P D dA aK aV aN t0 t1 t2 tf b s H 185 := fun x h => by cases h; exact hH.2.2 56 _ rfl
set_option maxRecDepth 100000 in
theorem n_wc186 (hH : n_Hf D dA aK aV aN t0 t1 t2 tf b s H) : n_P D dA aK aV aN t0 t1 t2 tf b s H 186 := fun x h => by cases h; exact hH.2.2 57 _ rfl
set_option maxRecDepth 100000 in
theorem n_wc187 (hH : n_Hf D dA aK aV aN t0 t1 t2 tf b s H) : n_P D dA aK aV aN t0 t1 t2 tf b s H 187 := fun x h => by cases h; exact hH.2.2 58 _ rfl
set_option maxRecDepth 100000 in
theorem n_wc188 (hH : n_Hf D dA aK aV aN t0 t1 t2 tf b s H) : n_P D dA aK aV aN t0 t1 t2 tf b s H 188 := fun x h => by cases h; exact hH.2.2 59 _ rfl
set_option maxRecDepth 100000 in
theorem n_wc182 (hH : n_Hf D dA aK aV aN t0 t1 t2 tf b s H) : n_P D dA aK aV aN t0 t1 t2 tf b s H 182 := fun x h => by cases h; exact hH.2.2 60 _ rfl
set_option maxRecDepth 100000 in
theorem n_wc189 (hH : n_Hf D dA aK aV aN t0 t1 t2 tf b s H) : n_P D dA aK aV aN t0 t1 t2 tf b s H 189 := fun x h => by cases h; exact hH.2.2 61 _ rfl
set_option maxRecDepth 100000 in
theorem n_wc183 (hH : n_Hf D dA aK aV aN t0 t1 t2 tf b s H) : n_P D dA aK aV aN t0 t1 t2 tf b s H 183 := fun x h => by cases h; exact hH.2.2 62 _ rfl
set_option maxRecDepth 100000 in
theorem n_wc196 (hH : n_Hf D dA aK aV aN t0 t1 t2 tf b s H) : n_P D dA aK aV aN t0 t1 t2 tf b s H 196 := fun x h => by cases h; exact hH.2.2 63 _ rfl
set_option maxRecDepth 100000 in
theorem n_wc197 (hH : n_Hf D dA aK aV aN t0 t1 t2 tf b s H) : n_P D dA aK aV aN t0 t1 t2 tf b s H 197 := fun x h => by cases h; exact hH.2.2 64 _ rfl
set_option maxRecDepth 100000 in
theorem n_wc200 (hH : n_Hf D dA aK aV aN t0 t1 t2 tf b s H) : n_P D dA aK aV aN t0 t1 t2 tf b s H 200 := fun x h => by cases h; exact hH.2.2 65 _ rfl
set_option maxRecDepth 100000 in
theorem n_wc201 (hH : n_Hf D dA aK aV aN t0 t1 t2 tf b s H) : n_P D dA aK aV aN t0 t1 t2 tf b s H 201 := fun x h => by cases h; exact hH.2.2 66 _ rfl
set_option maxRecDepth 100000 in
theorem n_wc202 (hH : n_Hf D dA aK aV aN t0 t1 t2 tf b s H) : n_P D dA aK aV aN t0 t1 t2 tf b s H 202 := fun x h => by cases h; exact hH.2.2 67 _ rfl
set_option maxRecDepth 100000 in
theorem n_wc203 (hH : n_Hf D dA aK aV aN t0 t1 t2 tf b s H) : n_P D dA aK aV aN t0 t1 t2 tf b s H 203 := fun x h => by cases h; exact hH.2.2 68 _ rfl
set_option maxRecDepth 100000 in
theorem n_wc204 (hH : n_Hf D dA aK aV aN t0 t1 t2 tf b s H) : n_P D dA aK aV aN t0 t1 t2 tf b s H 204 := fun x h => by cases h; exact hH.2.2 69 _ rfl
set_option maxRecDepth 100000 in
theorem n_wc198 (hH : n_Hf D dA aK aV aN t0 t1 t2 tf b s H) : n_P D dA aK aV aN t0 t1 t2 tf b s H 198 := fun x h => by cases h; exact hH.2.2 70 _ rfl
set_option maxRecDepth 100000 in
theorem n_wc205 (hH : n_Hf D dA aK aV aN t0 t1 t2 tf b s H) : n_P D dA aK aV aN t0 t1 t2 tf b s H 205 := fun x h => by cases h; exact hH.2.2 71 _ rfl
set_option maxRecDepth 100000 in
theorem n_wc199 (hH : n_Hf D dA aK aV aN t0 t1 t2 tf b s H) : n_P D dA aK aV aN t0 t1 t2 tf b s H 199 := fun x h => by cases h; exact hH.2.2 72 _ rfl
set_option maxRecDepth 100000 in
theorem n_wc212 (hH : n_Hf D dA aK aV aN t0 t1 t2 tf b s H) : n_P D dA aK aV aN t0 t1 t2 tf b s H 212 := fun x h => by cases h; exact hH.2.2 73 _ rfl
set_option maxRecDepth 100000 in
theorem n_wc213 (hH : n_Hf D dA aK aV aN t0 t1 t2 tf b s H) : n_P D dA aK aV aN t0 t1 t2 tf b s H 213 := fun x h => by cases h; exact hH.2.2 74 _ rfl
set_option maxRecDepth 100000 in
theorem n_wc216 (hH : n_Hf D dA aK aV aN t0 t1 t2 tf b s H) : n_P D dA aK aV aN t0 t1 t2 tf b s H 216 := fun x h => by cases h; exact hH.2.2 75 _ rfl
set_option maxRecDepth 100000 in
theorem n_wc217 (hH : n_Hf D dA aK aV aN t0 t1 t2 tf b s H) : n_P D dA aK aV aN t0 t1 t2 tf b s H 217 := fun x h => by cases h; exact hH.2.2 76 _ rfl
set_option maxRecDepth 100000 in
theorem n_wc218 (hH : n_Hf D dA aK aV aN t0 t1 t2 tf b s H) : n_P D dA aK aV aN t0 t1 t2 tf b s H 218 := fun x h => by cases h; exact hH.2.2 77 _ rfl
set_option maxRecDepth 100000 in
theorem n_wc219 (hH : n_Hf D dA aK aV aN t0 t1 t2 tf b s H) : n_P D dA aK aV aN t0 t1 t2 tf b s H 219 := fun x h => by cases h; exact hH.2.2 78 _ rfl
set_option maxRecDepth 100000 in
theorem n_wc220 (hH : n_Hf D dA aK aV aN t0 t1 t2 tf b s H) : n_P D dA aK aV aN t0 t1 t2 tf b s H 220 := fun x h => by cases h; exact hH.2.2 79 _ rfl
set_option maxRecDepth 100000 in
theorem n_wc214 (hH : n_Hf D dA aK aV aN t0 t1 t2 tf b s H) : n_P D dA aK aV aN t0 t1 t2 tf b s H 214 := fun x h => by cases h; exact hH.2.2 80 _ rfl
set_option maxRecDepth 100000 in
theorem n_wc221 (hH : n_Hf D dA aK aV aN t0 t1 t2 tf b s H) : n_P D dA aK aV aN t0 t1 t2 tf b s H 221 := fun x h => by cases h; exact hH.2.2 81 _ rfl
set_option maxRecDepth 100000 in
theorem n_wc215 (hH : n_Hf D dA aK aV aN t0 t1 t2 tf b s H) : n_P D dA aK aV aN t0 t1 t2 tf b s H 215 := fun x h => by cases h; exact hH.2.2 82 _ rfl
set_option maxRecDepth 100000 in
theorem n_wc228 (hH : n_Hf D dA aK aV aN t0 t1 t2 tf b s H) : n_P D dA aK aV aN t0 t1 t2 tf b s H 228 := fun x h => by cases h; exact hH.2.2 83 _ rfl
set_option maxRecDepth 100000 in
theorem n_wc229 (hH : n_Hf D dA aK aV aN t0 t1 t2 tf b s H) : n_P D dA aK aV aN t0 t1 t2 tf b s H 229 := fun x h => by cases h; exact hH.2.2 84 _ rfl
set_option maxRecDepth 100000 in
theorem n_wc232 (hH : n_Hf D dA aK aV aN t0 t1 t2 tf b s H) : n_P D dA aK aV aN t0 t1 t2 tf b s H 232 := fun x h => by cases h; exact hH.2.2 85 _ rfl
set_option maxRecDepth 100000 in
theorem n_wc233 (hH : n_Hf D dA aK aV aN t0 t1 t2 tf b s H) : n_P D dA aK aV aN t0 t1 t2 tf b s H 233 := fun x h => by cases h; exact hH.2.2 86 _ rfl
set_option maxRecDepth 100000 in
theorem n_wc234 (hH : n_Hf D dA aK aV aN t0 t1 t2 tf b s H) : n_P D dA aK aV aN t0 t1 t2 tf b s H 234 := fun x h => by cases h; exact hH.2.2 87 _ rfl
set_option maxRecDepth 100000 in
theorem n_wc235 (hH : n_Hf D dA aK aV aN t0 t1 t2 tf b s H) : n_P D dA aK aV aN t0 t1 t2 tf b s H 235 := fun x h => by cases h; exact hH.2.2 88 _ rfl
set_option maxRecDepth 100000 in
theorem n_wc236 (hH : n_Hf D dA aK aV aN t0 t1 t2 tf b s H) : n_P D dA aK aV aN t0 t1 t2 tf b s H 236 := fun x h => by cases h; exact hH.2.2 89 _ rfl
set_option maxRecDepth 100000 in
theorem n_wc230 (hH : n_Hf D dA aK aV aN t0 t1 t2 tf b s H) : n_P D dA aK aV aN t0 t1 t2 tf b s H 230 := fun x h => by cases h; exact hH.2.2 90 _ rfl
set_option maxRecDepth 100000 in
theorem n_wc237 (hH : n_Hf D dA aK aV aN t0 t1 t2 tf b s H) : n_P D dA aK aV aN t0 t1 t2 tf b s H 237 := fun x h => by cases h; exact hH.2.2 91 _ rfl
set_option maxRecDepth 100000 in
theorem n_wc231 (hH : n_Hf D dA aK aV aN t0 t1 t2 tf b s H) : n_P D dA aK aV aN t0 t1 t2 tf b s H 231 := fun x h => by cases h; exact hH.2.2 92 _ rfl
set_option maxRecDepth 100000 in
theorem n_wc244 (hH : n_Hf D dA aK aV aN t0 t1 t2 tf b s H) : n_P D dA aK aV aN t0 t1 t2 tf b s H 244 := fun x h => by cases h; exact hH.2.2 93 _ rfl
set_option maxRecDepth 100000 in
theorem n_wc245 (hH : n_Hf D dA aK aV aN t0 t1 t2 tf b s H) : n_P D dA aK aV aN t0 t1 t2 tf b s H 245 := fun x h => by cases h; exact hH.2.2 94 _ rfl
set_option maxRecDepth 100000 in
theorem n_wc248 (hH : n_Hf D dA aK aV aN t0 t1 t2 tf b s H) : n_P D dA aK aV aN t0 t1 t2 tf b s H 248 := fun x h => by cases h; exact hH.2.2 95 _ rfl
set_option maxRecDepth 100000 in
theorem n_wc249 (hH : n_Hf D dA aK aV aN t0 t1 t2 tf b s H) : n_P D dA aK aV aN t0 t1 t2 tf b s H 249 := fun x h => by cases h; exact hH.2.2 96 _ rfl
set_option maxRecDepth 100000 in
theorem n_wc250 (hH : n_Hf D dA aK aV aN t0 t1 t2 tf b s H) : n_P D dA aK aV aN t0 t1 t2 tf b s H 250 := fun x h => by cases h; exact hH.2.2 97 _ rfl
set_option maxRecDepth 100000 in
theorem n_wc251 (hH : n_Hf D dA aK aV aN t0 t1 t2 tf b s H) : n_P D dA aK aV aN t0 t1 t2 tf b s H 251 := fun x h => by cases h; exact hH.2.2 98 _ rfl
set_option maxRecDepth 100000 in
theorem n_wc252 (hH : n_Hf D dA aK aV aN t0 t1 t2 tf b s H) : n_P D dA aK aV aN t0 t1 t2 tf b s H 252 := fun x h => by cases h; exact hH.2.2 99 _ rfl
set_option maxRecDepth 100000 in
theorem n_wc246 (hH : n_Hf D dA aK aV aN t0 t1 t2 tf b s H) : n_P D dA aK aV aN t0 t1 t2 tf b s H 246 := fun x h => by cases h; exact hH.2.2 100 _ rfl
set_option maxRecDepth 100000 in
theorem n_wc253 (hH : n_Hf D dA aK aV aN t0 t1 t2 tf b s H) : n_P D dA aK aV aN t0 t1 t2 tf b s H 253 := fun x h => by cases h; exact hH.2.2 101 _ rfl
set_option maxRecDepth 100000 in
theorem n_wc247 (hH : n_Hf D dA aK aV aN t0 t1 t2 tf b s H) : n_P D dA aK aV aN t0 t1 t2 tf b s H 247 := fun x h => by cases h; exact hH.2.2 102 _ rfl
set_option maxRecDepth 100000 in
theorem n_wc260 (hH : n_Hf D dA aK aV aN t0 t1 t2 tf b s H) : n_P D dA aK aV aN t0 t1 t2 tf b s H 260 := fun x h => by cases h; exact hH.2.2 103 _ rfl
set_option maxRecDepth 100000 in
theorem n_wc261 (hH : n_Hf D dA aK aV aN t0 t1 t2 tf b s H) : n_P D dA aK aV aN t0 t1 t2 tf b s H 261 := fun x h => by cases h; exact hH.2.2 104 _ rfl
set_option maxRecDepth 100000 in
theorem n_wc264 (hH : n_Hf D dA aK aV aN t0 t1 t2 tf b s H) : n_P D dA aK aV aN t0 t1 t2 tf b s H 264 := fun x h => by cases h; exact hH.2.2 105 _ rfl
set_option maxRecDepth 100000 in
theorem n_wc265 (hH : n_Hf D dA aK aV aN t0 t1 t2 tf b s H) : n_P D dA aK aV aN t0 t1 t2 tf b s H 265 := fun x h => by cases h; exact hH.2.2 106 _ rfl
set_option maxRecDepth 100000 in
theorem n_wc266 (hH : n_Hf D dA aK aV aN t0 t1 t2 tf b s H) : n_P D dA aK aV aN t0 t1 t2 tf b s H 266 := fun x h => by cases h; exact hH.2.2 107 _ rfl
set_option maxRecDepth 100000 in
theorem n_wc267 (hH : n_Hf D dA aK aV aN t0 t1 t2 tf b s H) : n_P D dA aK aV aN t0 t1 t2 tf b s H 267 := fun x h => by cases h; exact hH.2.2 108 _ rfl
set_option maxRecDepth 100000 in
theorem n_wc268 (hH : n_Hf D dA aK aV aN t0 t1 t2 tf b s H) : n_P D dA aK aV aN t0 t1 t2 tf b s H 268 := fun x h => by cases h; exact hH.2.2 109 _ rfl
set_option maxRecDepth 100000 in
theorem n_wc262 (hH : n_Hf D dA aK aV aN t0 t1 t2 tf b s H) : n_P D dA aK aV aN t0 t1 t2 tf b s H 262 := fun x h => by cases h; exact hH.2.2 110 _ rfl
set_option maxRecDepth 100000 in
theorem n_wc269 (hH : n_Hf D dA aK aV aN t0 t1 t2 tf b s H) : n_P D dA aK aV aN t0 t1 t2 tf b s H 269 := fun x h => by cases h; exact hH.2.2 111 _ rfl
set_option maxRecDepth 100000 in
theorem n_wc263 (hH : n_Hf D dA aK aV aN t0 t1 t2 tf b s H) : n_P D dA aK aV aN t0 t1 t2 tf b s H 263 := fun x h => by cases h; exact hH.2.2 112 _ rfl
set_option maxRecDepth 100000 in
theorem n_wc276 (hH : n_Hf D dA aK aV aN t0 t1 t2 tf b s H) : n_P D dA aK aV aN t0 t1 t2 tf b s H 276 := fun x h => by cases h; exact hH.2.2 113 _ rfl
set_option maxRecDepth 100000 in
theorem n_wc277 (hH : n_Hf D dA aK aV aN t0 t1 t2 tf b s H) : n_P D dA aK aV aN t0 t1 t2 tf b s H 277 := fun x h => by cases h; exact hH.2.2 114 _ rfl
set_option maxRecDepth 100000 in
theorem n_wc280 (hH : n_Hf D dA aK aV aN t0 t1 t2 tf b s H) : n_P D dA aK aV aN t0 t1 t2 tf b s H 280 := fun x h => by cases h; exact hH.2.2 115 _ rfl
set_option maxRecDepth 100000 in
theorem n_wc281 (hH : n_Hf D dA aK aV aN t0 t1 t2 tf b s H) : n_P D dA aK aV aN t0 t1 t2 tf b s H 281 := fun x h => by cases h; exact hH.2.2 116 _ rfl
set_option maxRecDepth 100000 in
theorem n_wc282 (hH : n_Hf D dA aK aV aN t0 t1 t2 tf b s H) : n_P D dA aK aV aN t0 t1 t2 tf b s H 282 := fun x h => by cases h; exact hH.2.2 117 _ rfl
set_option maxRecDepth 100000 in
theorem n_wc283 (hH : n_Hf D dA aK aV aN t0 t1 t2 tf b s H) : n_P D dA aK aV aN t0 t1 t2 tf b s H 283 := fun x h => by cases h; exact hH.2.2 118 _ rfl
set_option maxRecDepth 100000 in
theorem n_wc284 (hH : n_Hf D dA aK aV aN t0 t1 t2 tf b s H) : n_P D dA aK aV aN t0 t1 t2 tf b s H 284 := fun x h => by cases h; exact hH.2.2 119 _ rfl
set_option maxRecDepth 100000 in
theorem n_wc278 (hH : n_Hf D dA aK aV aN t0 t1 t2 tf b s H) : n_P D dA aK aV aN t0 t1 t2 tf b s H 278 := fun x h => by cases h; exact hH.2.2 120 _ rfl
set_option maxRecDepth 100000 in
theorem n_wc285 (hH : n_Hf D dA aK aV aN t0 t1 t2 tf b s H) : n_P D dA aK aV aN t0 t1 t2 tf b s H 285 := fun x h => by cases h; exact hH.2.2 121 _ rfl
set_option maxRecDepth 100000 in
theorem n_wc279 (hH : n_Hf D dA aK aV aN t0 t1 t2 tf b s H) : n_P D dA aK aV aN t0 t1 t2 tf b s H 279 := fun x h => by cases h; exact hH.2.2 122 _ rfl
set_option maxRecDepth 100000 in
theorem n_wc4 (hH : n_Hf D dA aK aV aN t0 t1 t2 tf b s H) : n_P D dA aK aV aN t0 t1 t2 tf b s H 4 := fun x h => by cases h; exact hH.2.2 123 _ rfl
set_option maxRecDepth 100000 in
theorem n_wc5 (hH : n_Hf D dA aK aV aN t0 t1 t2 tf b s H) : n_P D dA aK aV aN t0 t1 t2 tf b s H 5 := fun x h => by cases h; exact hH.2.2 124 _ rfl
set_option maxRecDepth 100000 in
theorem n_wc6 (hH : n_Hf D dA aK aV aN t0 t1 t2 tf b s H) : n_P D dA aK aV aN t0 t1 t2 tf b s H 6 := fun x h => by cases h; exact hH.2.2 125 _ rfl
set_option maxRecDepth 100000 in
theorem n_wc7 (hH : n_Hf D dA aK aV aN t0 t1 t2 tf b s H) : n_P D dA aK aV aN t0 t1 t2 tf b s H 7 := fun x h => by cases h; exact hH.2.2 126 _ rfl
set_option maxRecDepth 100000 in
theorem n_wc8 (hH : n_Hf D dA aK aV aN t0 t1 t2 tf b s H) : n_P D dA aK aV aN t0 t1 t2 tf b s H 8 := fun x h => by cases h; exact hH.2.2 127 _ rfl
set_option maxRecDepth 100000 in
theorem n_wc9 (hH : n_Hf D dA aK aV aN t0 t1 t2 tf b s H) : n_P D dA aK aV aN t0 t1 t2 tf b s H 9 := fun x h => by cases h; exact hH.2.2 128 _ rfl
set_option maxRecDepth 100000 in
theorem n_wc10 (hH : n_Hf D dA aK aV aN t0 t1 t2 tf b s H) : n_P D dA aK aV aN t0 t1 t2 tf b s H 10 := fun x h => by cases h; exact hH.2.2 129 _ rfl
set_option maxRecDepth 100000 in
theorem n_wc20 (hH : n_Hf D dA aK aV aN t0 t1 t2 tf b s H) : n_P D dA aK aV aN t0 t1 t2 tf b s H 20 := fun x h => by cases h; exact hH.2.2 130 _ rfl
set_option maxRecDepth 100000 in
theorem n_wc21 (hH : n_Hf D dA aK aV aN t0 t1 t2 tf b s H) : n_P D dA aK aV aN t0 t1 t2 tf b s H 21 := fun x h => by cases h; exact hH.2.2 131 _ rfl
set_option maxRecDepth 100000 in
theorem n_wc22 (hH : n_Hf D dA aK aV aN t0 t1 t2 tf b s H) : n_P D dA aK aV aN t0 t1 t2 tf b s H 22 := fun x h => by cases h; exact hH.2.2 132 _ rfl
set_option maxRecDepth 100000 in
theorem n_wc23 (hH : n_Hf D dA aK aV aN t0 t1 t2 tf b s H) : n_P D dA aK aV aN t0 t1 t2 tf b s H 23 := fun x h => by cases h; exact hH.2.2 133 _ rfl
set_option maxRecDepth 100000 in
theorem n_wc24 (hH : n_Hf D dA aK aV aN t0 t1 t2 tf b s H) : n_P D dA aK aV aN t0 t1 t2 tf b s H 24 := fun x h => by cases h; exact hH.2.2 134 _ rfl
set_option maxRecDepth 100000 in
theorem n_wc25 (hH : n_Hf D dA aK aV aN t0 t1 t2 tf b s H) : n_P D dA aK aV aN t0 t1 t2 tf b s H 25 := fun x h => by cases h; exact hH.2.2 135 _ rfl
set_option maxRecDepth 100000 in
theorem n_wc11 (hH : n_Hf D dA aK aV aN t0 t1 t2 tf b s H) : n_P D dA aK aV aN t0 t1 t2 tf b s H 11 := fun x h => by cases h; exact hH.2.2 136 _ rfl
set_option maxRecDepth 100000 in
theorem n_wc30 (hH : n_Hf D dA aK aV aN t0 t1 t2 tf b s H) : n_P D dA aK aV aN t0 t1 t2 tf b s H 30 := fun x h => by cases h; exact hH.2.2 137 _ rfl
set_option maxRecDepth 100000 in
theorem n_wc31 (hH : n_Hf D dA aK aV aN t0 t1 t2 tf b s H) : n_P D dA aK aV aN t0 t1 t2 tf b s H 31 := fun x h => by cases h; exact hH.2.2 138 _ rfl
set_option maxRecDepth 100000 in
theorem n_wc32 (hH : n_Hf D dA aK aV aN t0 t1 t2 tf b s H) : n_P D dA aK aV aN t0 t1 t2 tf b s H 32 := fun x h => by cases h; exact hH.2.2 139 _ rfl
set_option maxRecDepth 100000 in
theorem n_wc33 (hH : n_Hf D dA aK aV aN t0 t1 t2 tf b s H) : n_P D dA aK aV aN t0 t1 t2 tf b s H 33 := fun x h => by cases h; exact hH.2.2 140 _ rfl
set_option maxRecDepth 100000 in
theorem n_wc34 (hH : n_Hf D dA aK aV aN t0 t1 t2 tf b s H) : n_P D dA aK aV aN t0 t1 t2 tf b s H 34 := fun x h => by cases h; exact hH.2.2 141 _ rfl
set_option maxRecDepth 100000 in
theorem n_wc35 (hH : n_Hf D dA aK aV aN t0 t1 t2 tf b s H) : n_P D dA aK aV aN t0 t1 t2 tf b s H 35 := fun x h => by cases h; exact hH.2.2 142 _ rfl
set_option maxRecDepth 100000 in
theorem n_wc12 (hH : n_Hf D dA aK aV aN t0 t1 t2 tf b s H) : n_P D dA aK aV aN t0 t1 t2 tf b s H 12 := fun x h => by cases h; exact hH.2.2 143 _ rfl
set_option maxRecDepth 100000 in
theorem n_wc13 (hH : n_Hf D dA aK aV aN t0 t1 t2 tf b s H) : n_P D dA aK aV aN t0 t1 t2 tf b s H 13 := fun x h => by cases h; exact hH.2.2 144 _ rfl
set_option maxRecDepth 100000 in
theorem n_wc14 (hH : n_Hf D dA aK aV aN t0 t1 t2 tf b s H) : n_P D dA aK aV aN t0 t1 t2 tf b s H 14 := by
  intro x h
  cases h
  have h1 := hH.2.2 145 (.inl (dA 4, 12, .inr (.inr (.inr (.inr (fun _ => none)))))) rfl
  have h1 : H[s.heap.size + 145]? = some (vp_cell (dA 4) _) := h1
  show H[s.heap.size + 145]? = some (vp_cell (dA 4) _)
  rw [h1]
  refine congrArg some (n_refs fun j hj => ?_)
  rfl
set_option maxRecDepth 100000 in
theorem n_wc15 (hH : n_Hf D dA aK aV aN t0 t1 t2 tf b s H) : n_P D dA aK aV aN t0 t1 t2 tf b s H 15 := by
  intro x h
  cases h
  have h1 := hH.2.2 146 (.inl (dA 5, 12, .inr (.inr (.inr (.inr (fun i => if i < 12 then some (s.heap.size + (146 + 1 + i)) else none)))))) rfl
  have h1 : H[s.heap.size + 146]? = some (vp_cell (dA 5) _) := h1
  show H[s.heap.size + 146]? = some (vp_cell (dA 5) _)
  rw [h1]
  refine congrArg some (n_refs fun j hj => ?_)
  rcases (show j = 0 ∨ j = 1 ∨ j = 2 ∨ j = 3 ∨ j = 4 ∨ j = 5 ∨ j = 6 ∨ j = 7 ∨ j = 8 ∨ j = 9 ∨ j = 10 ∨ j = 11 by omega) with rfl | rfl | rfl | rfl | rfl | rfl | rfl | rfl | rfl | rfl | rfl | rfl <;> rfl
set_option maxRecDepth 100000 in
theorem n_wc40 (hH : n_Hf D dA aK aV aN t0 t1 t2 tf b s H) : n_P D dA aK aV aN t0 t1 t2 tf b s H 40 := fun x h => by cases h; exact hH.2.2 147 _ rfl
set_option maxRecDepth 100000 in
theorem n_wc41 (hH : n_Hf D dA aK aV aN t0 t1 t2 tf b s H) : n_P D dA aK aV aN t0 t1 t2 tf b s H 41 := fun x h => by cases h; exact hH.2.2 148 _ rfl
set_option maxRecDepth 100000 in
theorem n_wc42 (hH : n_Hf D dA aK aV aN t0 t1 t2 tf b s H) : n_P D dA aK aV aN t0 t1 t2 tf b s H 42 := fun x h => by cases h; exact hH.2.2 149 _ rfl
set_option maxRecDepth 100000 in
theorem n_wc43 (hH : n_Hf D dA aK aV aN t0 t1 t2 tf b s H) : n_P D dA aK aV aN t0 t1 t2 tf b s H 43 := fun x h => by cases h; exact hH.2.2 150 _ rfl
set_option maxRecDepth 100000 in
theorem n_wc44 (hH : n_Hf D dA aK aV aN t0 t1 t2 tf b s H) : n_P D dA aK aV aN t0 t1 t2 tf b s H 44 := fun x h => by cases h; exact hH.2.2 151 _ rfl
set_option maxRecDepth 100000 in
theorem n_wc45 (hH : n_Hf D dA aK aV aN t0 t1 t2 tf b s H) : n_P D dA aK aV aN t0 t1 t2 tf b s H 45 := fun x h => by cases h; exact hH.2.2 152 _ rfl
set_option maxRecDepth 100000 in
theorem n_wc46 (hH : n_Hf D dA aK aV aN t0 t1 t2 tf b s H) : n_P D dA aK aV aN t0 t1 t2 tf b s H 46 := fun x h => by cases h; exact hH.2.2 153 _ rfl
set_option maxRecDepth 100000 in
theorem n_wc47 (hH : n_Hf D dA aK aV aN t0 t1 t2 tf b s H) : n_P D dA aK aV aN t0 t1 t2 tf b s H 47 := fun x h => by cases h; exact hH.2.2 154 _ rfl
set_option maxRecDepth 100000 in
theorem n_wc48 (hH : n_Hf D dA aK aV aN t0 t1 t2 tf b s H) : n_P D dA aK aV aN t0 t1 t2 tf b s H 48 := fun x h => by cases h; exact hH.2.2 155 _ rfl
set_option maxRecDepth 100000 in
theorem n_wc49 (hH : n_Hf D dA aK aV aN t0 t1 t2 tf b s H) : n_P D dA aK aV aN t0 t1 t2 tf b s H 49 := fun x h => by cases h; exact hH.2.2 156 _ rfl
set_option maxRecDepth 100000 in
theorem n_wc50 (hH : n_Hf D dA aK aV aN t0 t1 t2 tf b s H) : n_P D dA aK aV aN t0 t1 t2 tf b s H 50 := fun x h => by cases h; exact hH.2.2 157 _ rfl
set_option maxRecDepth 100000 in
theorem n_wc51 (hH : n_Hf D dA aK aV aN t0 t1 t2 tf b s H) : n_P D dA aK aV aN t0 t1 t2 tf b s H 51 := fun x h => by cases h; exact hH.2.2 158 _ rfl
set_option maxRecDepth 100000 in
theorem n_wc16 (hH : n_Hf D dA aK aV aN t0 t1 t2 tf b s H) : n_P D dA aK aV aN t0 t1 t2 tf b s H 16 := fun x h => by cases h; exact hH.2.2 159 _ rfl
set_option maxRecDepth 100000 in
theorem n_wc17 (hH : n_Hf D dA aK aV aN t0 t1 t2 tf b s H) : n_P D dA aK aV aN t0 t1 t2 tf b s H 17 := fun x h => by cases h; exact hH.2.2 160 _ rfl
theorem n_ch0 (hH : n_Hf D dA aK aV aN t0 t1 t2 tf b s H) : ∀ c ∈ [1, 100, 101, 104, 105, 106, 107, 108, 102, 109, 103, 116, 117, 120, 121, 122, 123, 124, 118, 125], n_P D dA aK aV aN t0 t1 t2 tf b s H c := by
  intro c hc
  simp only [List.mem_cons, List.not_mem_nil, or_false] at hc
  rcases hc with rfl | rfl | rfl | rfl | rfl | rfl | rfl | rfl | rfl | rfl | rfl | rfl | rfl | rfl | rfl | rfl | rfl | rfl | rfl | rfl
  · exact n_wc1 hH
  · exact n_wc100 hH
  · exact n_wc101 hH
  · exact n_wc104 hH
  · exact n_wc105 hH
  · exact n_wc106 hH
  · exact n_wc107 hH
  · exact n_wc108 hH
  · exact n_wc102 hH
  · exact n_wc109 hH
  · exact n_wc103 hH
  · exact n_wc116 hH
  · exact n_wc117 hH
  · exact n_wc120 hH
  · exact n_wc121 hH
  · exact n_wc122 hH
  · exact n_wc123 hH
  · exact n_wc124 hH
  · exact n_wc118 hH
  · exact n_wc125 hH
theorem n_ch1 (hH : n_Hf D dA aK aV aN t0 t1 t2 tf b s H) : ∀ c ∈ [119, 132, 133, 136, 137, 138, 139, 140, 134, 141, 135, 2, 3, 148, 149, 152, 153, 154, 155, 156], n_P D dA aK aV aN t0 t1 t2 tf b s H c := by
  intro c hc
  simp only [List.mem_cons, List.not_mem_nil, or_false] at hc
  rcases hc with rfl | rfl | rfl | rfl | rfl | rfl | rfl | rfl | rfl | rfl | rfl | rfl | rfl | rfl | rfl | rfl | rfl | rfl | rfl | rfl
  · exact n_wc119 hH
  · exact n_wc132 hH
  · exact n_wc133 hH
  · exact n_wc136 hH
  · exact n_wc137 hH
  · exact n_wc138 hH
  · exact n_wc139 hH
  · exact n_wc140 hH
  · exact n_wc134 hH
  · exact n_wc141 hH
  · exact n_wc135 hH
  · exact n_wc2 hH
  · exact n_wc3 hH
  · exact n_wc148 hH
  · exact n_wc149 hH
  · exact n_wc152 hH
  · exact n_wc153 hH
  · exact n_wc154 hH
  · exact n_wc155 hH
  · exact n_wc156 hH
theorem n_ch2 (hH : n_Hf D dA aK aV aN t0 t1 t2 tf b s H) : ∀ c ∈ [150, 157, 151, 164, 165, 168, 169, 170, 171, 172, 166, 173, 167, 180, 181, 184, 185, 186, 187, 188], n_P D dA aK aV aN t0 t1 t2 tf b s H c := by
  intro c hc
  simp only [List.mem_cons, List.not_mem_nil, or_false] at hc
  rcases hc with rfl | rfl | rfl | rfl | rfl | rfl | rfl | rfl | rfl | rfl | rfl | rfl | rfl | rfl | rfl | rfl | rfl | rfl | rfl | rfl
  · exact n_wc150 hH
  · exact n_wc157 hH
  · exact n_wc151 hH
  · exact n_wc164 hH
  · exact n_wc165 hH
  · exact n_wc168 hH
  · exact n_wc169 hH
  · exact n_wc170 hH
  · exact n_wc171 hH
  · exact n_wc172 hH
  · exact n_wc166 hH
  · exact n_wc173 hH
  · exact n_wc167 hH
  · exact n_wc180 hH
  · exact n_wc181 hH
  · exact n_wc184 hH
  · exact n_wc185 hH
  · exact n_wc186 hH
  · exact n_wc187 hH
  · exact n_wc188 hH
theorem n_ch3 (hH : n_Hf D dA aK aV aN t0 t1 t2 tf b s H) : ∀ c ∈ [182, 189, 183, 196, 197, 200, 201, 202, 203, 204, 198, 205, 199, 212, 213, 216, 217, 218, 219, 220], n_P D dA aK aV aN t0 t1 t2 tf b s H c := by
  intro c hc
  simp only [List.mem_cons, List.not_mem_nil, or_false] at hc
  rcases hc with rfl | rfl | rfl | rfl | rfl | rfl | rfl | rfl | rfl | rfl | rfl | rfl | rfl | rfl | rfl | rfl | rfl | rfl | rfl | rfl
  · exact n_wc182 hH
  · exact n_wc189 hH
  · exact n_wc183 hH
  · exact n_wc196 hH
  · exact n_wc197 hH
  · exact n_wc200 hH
  · exact n_wc201 hH
  · exact n_wc202 hH
  · exact n_wc203 hH
  · exact n_wc204 hH
  · exact n_wc198 hH
  · exact n_wc205 hH
  · exact n_wc199 hH
  · exact n_wc212 hH
  · exact n_wc213 hH
  · exact n_wc216 hH
  · exact n_wc217 hH
  · exact n_wc218 hH
  · exact n_wc219 hH
  · exact n_wc220 hH
theorem n_ch4 (hH : n_Hf D dA aK aV aN t0 t1 t2 tf b s H) : ∀ c ∈ [214, 221, 215, 228, 229, 232, 233, 234, 235, 236, 230, 237, 231, 244, 245, 248, 249, 250, 251, 252], n_P D dA aK aV aN t0 t1 t2 tf b s H c := by
  intro c hc
  simp only [List.mem_cons, List.not_mem_nil, or_false] at hc
  rcases hc with rfl | rfl | rfl | rfl | rfl | rfl | rfl | rfl | rfl | rfl | rfl | rfl | rfl | rfl | rfl | rfl | rfl | rfl | rfl | rfl
  · exact n_wc214 hH
  · exact n_wc221 hH
  · exact n_wc215 hH
  · exact n_wc228 hH
  · exact n_wc229 hH
  · exact n_wc232 hH
  · exact n_wc233 hH
  · exact n_wc234 hH
  · exact n_wc235 hH
  · exact n_wc236 hH
  · exact n_wc230 hH
  · exact n_wc237 hH
  · exact n_wc231 hH
  · exact n_wc244 hH
  · exact n_wc245 hH
  · exact n_wc248 hH
  · exact n_wc249 hH
  · exact n_wc250 hH
  · exact n_wc251 hH
  · exact n_wc252 hH
theorem n_ch5 (hH : n_Hf D dA aK aV aN t0 t1 t2 tf b s H) : ∀ c ∈ [246, 253, 247, 260, 261, 264, 265, 266, 267, 268, 262, 269, 263, 276, 277, 280, 281, 282, 283, 284], n_P D dA aK aV aN t0 t1 t2 tf b s H c := by
  intro c hc
  simp only [List.mem_cons, List.not_mem_nil, or_false] at hc
  rcases hc with rfl | rfl | rfl | rfl | rfl | rfl | rfl | rfl | rfl | rfl | rfl | rfl | rfl | rfl | rfl | rfl | rfl | rfl | rfl | rfl
  · exact n_wc246 hH
  · exact n_wc253 hH
  · exact n_wc247 hH
  · exact n_wc260 hH
  · exact n_wc261 hH
  · exact n_wc264 hH
  · exact n_wc265 hH
  · exact n_wc266 hH
  · exact n_wc267 hH
  · exact n_wc268 hH
  · exact n_wc262 hH
  · exact n_wc269 hH
  · exact n_wc263 hH
  · exact n_wc276 hH
  · exact n_wc277 hH
  · exact n_wc280 hH
  · exact n_wc281 hH
  · exact n_wc282 hH
  · exact n_wc283 hH
  · exact n_wc284 hH
theorem n_ch6 (hH : n_Hf D dA aK aV aN t0 t1 t2 tf b s H) : ∀ c ∈ [278, 285, 279, 4, 5, 6, 7, 8, 9, 10, 20, 21, 22, 23, 24, 25, 11, 30, 31, 32], n_P D dA aK aV aN t0 t1 t2 tf b s H c := by
  intro c hc
  simp only [List.mem_cons, List.not_mem_nil, or_false] at hc
  rcases hc with rfl | rfl | rfl | rfl | rfl | rfl | rfl | rfl | rfl | rfl | rfl | rfl | rfl | rfl | rfl | rfl | rfl | rfl | rfl | rfl
  · exact n_wc278 hH
  · exact n_wc285 hH
  · exact n_wc279 hH
  · exact n_wc4 hH
  · exact n_wc5 hH
  · exact n_wc6 hH
  · exact n_wc7 hH
  · exact n_wc8 hH
  · exact n_wc9 hH
  · exact n_wc10 hH
  · exact n_wc20 hH
  · exact n_wc21 hH
  · exact n_wc22 hH
  · exact n_wc23 hH
  · exact n_wc24 hH
  · exact n_wc25 hH
  · exact n_wc11 hH
  · exact n_wc30 hH
  · exact n_wc31 hH
  · exact n_wc32 hH
theorem n_ch7 (hH : n_Hf D dA aK aV aN t0 t1 t2 tf b s H) : ∀ c ∈ [33, 34, 35, 12, 13, 14, 15, 40, 41, 42, 43, 44, 45, 46, 47, 48, 49, 50, 51, 16], n_P D dA aK aV aN t0 t1 t2 tf b s H c := by
  intro c hc
  simp only [List.mem_cons, List.not_mem_nil, or_false] at hc
  rcases hc with rfl | rfl | rfl | rfl | rfl | rfl | rfl | rfl | rfl | rfl | rfl | rfl | rfl | rfl | rfl | rfl | rfl | rfl | rfl | rfl
  · exact n_wc33 hH
  · exact n_wc34 hH
  · exact n_wc35 hH
  · exact n_wc12 hH
  · exact n_wc13 hH
  · exact n_wc14 hH
  · exact n_wc15 hH
  · exact n_wc40 hH
  · exact n_wc41 hH
  · exact n_wc42 hH
  · exact n_wc43 hH
  · exact n_wc44 hH
  · exact n_wc45 hH
  · exact n_wc46 hH
  · exact n_wc47 hH
  · exact n_wc48 hH
  · exact n_wc49 hH
  · exact n_wc50 hH
  · exact n_wc51 hH
  · exact n_wc16 hH
theorem n_ch8 (hH : n_Hf D dA aK aV aN t0 t1 t2 tf b s H) : ∀ c ∈ [17], n_P D dA aK aV aN t0 t1 t2 tf b s H c := by
  intro c hc
  simp only [List.mem_cons, List.not_mem_nil, or_false] at hc
  rcases hc with rfl
  · exact n_wc17 hH
set_option maxRecDepth 100000 in
theorem n_invs : n_inv = [1, 100, 101, 104, 105, 106, 107, 108, 102, 109, 103, 116, 117, 120, 121, 122, 123, 124, 118, 125] ++ ([119, 132, 133, 136, 137, 138, 139, 140, 134, 141, 135, 2, 3, 148, 149, 152, 153, 154, 155, 156] ++ ([150, 157, 151, 164, 165, 168, 169, 170, 171, 172, 166, 173, 167, 180, 181, 184, 185, 186, 187, 188] ++ ([182, 189, 183, 196, 197, 200, 201, 202, 203, 204, 198, 205, 199, 212, 213, 216, 217, 218, 219, 220] ++ ([214, 221, 215, 228, 229, 232, 233, 234, 235, 236, 230, 237, 231, 244, 245, 248, 249, 250, 251, 252] ++ ([246, 253, 247, 260, 261, 264, 265, 266, 267, 268, 262, 269, 263, 276, 277, 280, 281, 282, 283, 284] ++ ([278, 285, 279, 4, 5, 6, 7, 8, 9, 10, 20, 21, 22, 23, 24, 25, 11, 30, 31, 32] ++ ([33, 34, 35, 12, 13, 14, 15, 40, 41, 42, 43, 44, 45, 46, 47, 48, 49, 50, 51, 16] ++ ([17])))))))) := rfl
theorem n_world (hH : n_Hf D dA aK aV aN t0 t1 t2 tf b s H) : am_H xx (n_U D dA aK aV aN t0 t1 t2 tf b s) V0 H := by
  refine ⟨fun c x hx => ?_, by rw [hH.1]; exact Nat.le_add_right _ _, hH.2.1⟩
  have hlt : c < 292 := by
    refine Classical.byContradiction fun hn => ?_
    have hx : shx c = some x := hx
    unfold shx at hx
    rw [if_neg (by omega), if_neg hn] at hx
    cases hx
  have hi := n_off_inv ⟨c, hlt⟩ (by show (shx c).isSome = true; rw [show shx c = some x from hx]; rfl)
  dsimp only at hi
  have hm : c ∈ n_inv := by
    have h2 : n_off c < n_inv.length := hi.2
    have h4 : n_inv[n_off c]? = some c := by
      have h5 := hi.1
      rw [List.getD_eq_getElem?_getD, List.getElem?_eq_getElem h2, Option.getD_some] at h5
      rw [List.getElem?_eq_getElem h2, h5]
    exact List.mem_of_getElem? h4
  have key : n_P D dA aK aV aN t0 t1 t2 tf b s H c := by
    rw [n_invs] at hm
    simp only [List.mem_append] at hm
    rcases hm with hm | hm | hm | hm | hm | hm | hm | hm | hm
    · exact n_ch0 hH c hm
    · exact n_ch1 hH c hm
    · exact n_ch2 hH c hm
    · exact n_ch3 hH c hm
    · exact n_ch4 hH c hm
    · exact n_ch5 hH c hm
    · exact n_ch6 hH c hm
    · exact n_ch7 hH c hm
    · exact n_ch8 hH c hm
  exact key x hx
end
/-! the state that the constructor leaves -/
def s0N : sT := (((0, 0, 0), fun _ => 0, fun _ => 0, fun _ => 0, fun _ => 0, fun _ => 0), ((0, false, 4294967295, 0, false, 0, 0), fun _ => 0), ((0, 0, 0, 0, 0, 0), fun _ => 0))
def g0N : gT := (s0N, s0N, fun _ => s0N, 0, 0, false)
theorem V0_s {i m k : Nat} (hm : m < 16) : V0 (sS i + m) k = if m = 2 ∧ k = 3 then -1 else 0 := by
  unfold V0 sS
  by_cases e : m = 2 ∧ k = 3
  · rw [if_pos e, if_pos (by omega)]
  · rw [if_neg e, if_neg (by omega)]
theorem v0_S (i : Nat) : vS V0 i s0N := by
  have z : ∀ m k, m < 16 → ¬ (m = 2 ∧ k = 3) → V0 (sS i + m) k = nI 0 := fun m k hm he => (V0_s hm).trans (if_neg he)
  have z0 : ∀ k, V0 (sS i) k = nI 0 := fun k => z 0 k (by omega) (by omega)
  refine ⟨⟨z 1 5 (by omega) (by omega), z 1 6 (by omega) (by omega), z 1 7 (by omega) (by omega), fun j _ => z 4 j (by omega) (by omega), fun j _ => z 5 j (by omega) (by omega), fun j _ => z 6 j (by omega) (by omega), fun j _ => z 7 j (by omega) (by omega), fun j _ => z 8 j (by omega) (by omega)⟩,
    ⟨z 2 1 (by omega) (by omega), z 2 2 (by omega) (by omega), ?_, z 2 4 (by omega) (by omega), z 2 5 (by omega) (by omega), z 2 6 (by omega) (by omega), z 2 7 (by omega) (by omega), fun j _ => z 9 j (by omega) (by omega)⟩,
    ⟨z0 3, z0 4, z0 5, z0 6, z0 7, z0 8, fun j _ => z 3 j (by omega) (by omega)⟩⟩
  exact (V0_s (by omega)).trans (if_pos ⟨rfl, rfl⟩)
theorem w0_S : wS 0 s0N := by
  refine ⟨⟨Nat.zero_le _, Nat.zero_le _, by decide, fun j hj => absurd hj (Nat.not_lt_zero _), fun j hj => absurd hj (Nat.not_lt_zero _), fun p q hp => absurd hp (Nat.not_lt_zero _)⟩,
    ⟨by decide, Nat.zero_le _, fun h => (by cases h), Nat.le_refl _, fun _ => ⟨rfl, rfl⟩, fun h => absurd h (Nat.lt_irrefl 0), fun g hg => absurd hg (Nat.not_lt_zero _)⟩,
    ⟨Nat.le_refl _, Nat.le_refl _, Nat.le_refl _, Nat.le_refl _, Nat.le_refl _, rfl, rfl⟩⟩
theorem h0_P : hP 0 V0 g0N := by
  refine ⟨⟨⟨v0_S 0, v0_S 2, fun j _ => v0_S (3 + j), rfl, rfl, rfl⟩, ⟨by decide, by decide, w0_S, w0_S, fun _ _ => w0_S⟩, Nat.zero_le _⟩, 0, Nat.zero_le _, rfl⟩
