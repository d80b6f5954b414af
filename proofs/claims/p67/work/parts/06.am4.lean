/-! ===== AM3: fields and arrays ===== -/
theorem am_one {D : va_G} {cl : List vw_C} {q : Nat × va_E} {H : Heap} (h : va_at D cl q H) : va_P D cl [q] H := by
  intro k x hx
  have hl : k < 1 := (List.getElem?_eq_some_iff.mp hx).1
  rw [show k = 0 by omega] at hx
  cases hx
  exact h
/-- a read of a field, by the pool's entry: class ci, field k -/
def am_gf (X : am_X) (own : String) (index ci k : Nat) : Prop := ∃ (C : String) (T : u_T) (N : Nat), (am_cl X)[ci]? = some (C, T, N) ∧ (∀ w ∈ u_ws C T N, w ∈ am_WS X) ∧ k < N ∧ Cond.fieldLink own index (T k).1 (T k).2.1 (T k).2.2.1 ∈ am_WS X
/-- .. and a write of a number, of type ty, the field not final -/
def am_pf (X : am_X) (own : String) (index ci k : Nat) (ty : FieldType) : Prop := ∃ (C : String) (T : u_T) (N : Nat) (ty0 : Nat → FieldType), (am_cl X)[ci]? = some (C, T, N) ∧ (∀ w ∈ u_ws C T N, w ∈ am_WS X) ∧ k < N ∧ Cond.fieldLink own index (T k).1 (T k).2.1 (T k).2.2.1 ∈ am_WS X ∧
  (∀ k, k < N → parseFieldDescriptor (T k).2.2.1 = some (ty0 k)) ∧ (∀ a, a < N → ∀ b, b < N → a ≠ b → (T a).2.1 ≠ (T b).2.1) ∧ (T k).2.2.2 = false ∧ parseFieldDescriptor (T k).2.2.1 = some ty
section AMH
variable {X : am_X} {U : am_U} {G : am_G} {own : String} {cc : ByteArray} {nL kc ks pc pc' : Nat} {V : am_V} {Q : State → Prop} {L L' : List (Option Value)} {st st' : List Value}
theorem am_ok.K (ok : am_ok X U G own cc nL) : va_K (am_D U) (am_cl X) [] (am_gs G) := va_K.moved ok.2.2.2.2.2.1.alike ok.2.2.2.2.2.2.1.2.1
theorem am_ok.A (ok : am_ok X U G own cc nL) {t : Nat} (ht : t < 8) : ArrOfT (am_gs G) (am_dA U t) (am_tA X t) := arrOfT_moved ok.2.2.2.2.2.1.alike (ok.2.2.2.2.2.2.1.2.2.1 t ht).1
theorem am_ok.RA (ok : am_ok X U G own cc nL) {t : Nat} (ht : t < 8) : va_RA (am_gs G) (am_dA U t) (am_tA X t) := (ok.2.2.2.2.2.2.1.2.2.1 t ht).2.moved ok.2.2.2.2.2.1.alike
theorem AW.getf {c ci k index : Nat} {os : List (Option Nat)} {o : Option Nat} (ok : am_ok X U G own cc nL) (hf : am_gf X own index ci k) (hsh : am_sh X c = some (.inl (ci, os))) (ho : os[k]? = some o) (hdg : decode cc pc = .ok (.getfield index, 3))
    (kk : AW X U G nL kc ks V Q (pc + 3) L (am_fw (V c k) o :: st)) : AW X U G nL kc ks V Q pc L (.ref c :: st) := by
  intro H locs ls hH hz hlo hl
  obtain ⟨C, T, N, hc, hin, hk, hlink⟩ := hf
  have hP := am_one (hH.1 c _ hsh)
  have hv : (am_fs (am_ad U) (V c) 0 os)[k]? = some (am_fv (am_ad U) (V c k) o) := by rw [am_fs_get, ho, Nat.zero_add]; rfl
  have k2 := kk H locs ls hH hz hlo hl
  rw [List.map_cons, am_fw_v] at k2
  exact va_get (D := am_D U) (ci := ci) (C := C) (T := T) (N := N) (ws := [(am_ad U c, am_e (am_dA U) (am_ad U) (V c) (.inl (ci, os)))]) ok.1 ok.2.1 ok.2.2.2.2.1 hin ok.2.2.2.1 (am_ok.K ok) hP 0 rfl hc k hk (ok.2.2.2.2.1 _ hlink) (fun _ h9 => h9) hv hdg k2
theorem am_H.put {H H1 : Heap} {c : Nat} {x : am_Sh} {f : Nat → Int32} {V1 : am_V} (hb : am_base X U) (hH : am_H X U V H) (hx : am_sh X c = some x) (hw : am_wr X c = true) (hV : V1 c = f) (hV2 : ∀ d, d ≠ c → V1 d = V d)
    (he : va_at (am_D U) (am_cl X) (am_ad U c, am_e (am_dA U) (am_ad U) f x) H1) (hz : H1.size = H.size) (oq : ∀ q, q ≠ am_ad U c → H1[q]? = H[q]?) : am_H X U V1 H1 := by
  refine ⟨fun d y hy => ?_, by rw [hz]; exact hH.2.1, fun q hq => ?_⟩
  · by_cases e : d = c
    · subst e
      cases hx.symm.trans hy
      rw [hV]
      exact he
    · rw [hV2 d e]
      exact (hH.1 d y hy).kept (oq _ (fun q => e (hb.2.2.2.1 d c y x hy hx hw q)))
  · have h1 := hb.2.2.2.2 c x hx hw
    rw [oq q (by omega)]
    exact hH.2.2 q hq
theorem am_locs {locs : List Loc} {a i N0 : Nat} (h : ∀ q ∈ locs, N0 ≤ q.base) (ha : N0 ≤ a) : ∀ q ∈ locs ++ [(⟨a, i⟩ : Loc)], N0 ≤ q.base := by
  intro q hq
  rcases List.mem_append.mp hq with h1 | h1
  · exact h q h1
  · rw [List.mem_singleton.mp h1]
    exact ha
theorem AW.putf {c ci k index : Nat} {os : List (Option Nat)} {ty : FieldType} {x : Int32} (ok : am_ok X U G own cc nL) (hf : am_pf X own index ci k ty) (hsh : am_sh X c = some (.inl (ci, os))) (hw : am_wr X c = true) (ho : os[k]? = some none) (hn : narrow ty (.int x) = .int x) (hfit : fits ty (.int x) = true) (hdg : decode cc pc = .ok (.putfield index, 3))
    (kk : AW X U G nL kc ks (am_set V c k x) Q (pc + 3) L st) : AW X U G nL kc ks V Q pc L (.int x :: .ref c :: st) := by
  intro H locs ls hH hz hlo hl
  obtain ⟨C, T, N, ty0, hc, hin, hk, hlink, hty, hnm, hfin, hd⟩ := hf
  have hts := ok.2.2.2.2.1
  have hown := ok.2.2.2.1
  have hK := am_ok.K ok
  have hap := va_apart (own := own) hts hin ty0 hty hnm hK hc
  obtain ⟨r, h1, cell, q1, q2, q3, q4⟩ := hH.1 c _ hsh
  have hr : r = (C, T, N) := Option.some.inj (h1.symm.trans hc)
  subst hr
  obtain ⟨hS, hfc, kC, hkC, hkind⟩ := hK.1 ci _ hc
  obtain ⟨cf, kf, fi, f, hi, hsl⟩ := hS k hk
  have hlay := hts _ (hin _ (u_in_lay hk))
  unfold u_lay at hlay
  rw [if_neg (by rw [hfin]; decide)] at hlay
  have hst := (u_facts hfc hkC (u_lays hts hin hk) hi).1
  have h6 := u_store hfc hkC hkind hlay hi hd hn hfit
  have hle : k < (am_fs (am_ad U) (V c) 0 os).length := by rw [am_fs_len]; exact (List.getElem?_eq_some_iff.mp ho).1
  refine W.putK ok.1 ok.2.1 (f := f) ⟨hown, hts _ hlink, ⟨_, _, _, hi⟩, hst⟩ (by rw [q2]; exact h6) q1 q3 (by rw [hsl]; exact k2_hasslot (q4 k hk)) rfl rfl hdg fun H' e1 e2 e3 => ?_
  rw [hsl] at e1 ⊢
  have hat : va_at (am_D U) (am_cl X) (am_ad U c, am_e (am_dA U) (am_ad U) (upd (V c) k x) (.inl (ci, os))) H' := by
    refine ⟨_, hc, ?_⟩
    show t_OB (am_ad U c) _ _ _ H' (vp_V (am_fs (am_ad U) (upd (V c) k x) 0 os))
    rw [← am_fs_set ho x]
    exact t_OB.to (V := updV (vp_V (am_fs (am_ad U) (V c) 0 os)) k (.int x)) ⟨_, e1, q2, q3, t_set q4 hap hk (.int x)⟩ (fun j _ => vp_updV_set hle (.int x) j)
  exact kk H' _ ls (am_H.put ok.2.2.2.2.2.2.1 hH hsh hw (am_set_at V c k x) (fun d hd => am_set_ne V k x hd) hat e2 e3) (by rw [e2]; exact hz) (am_locs hlo (ok.2.2.2.2.2.2.1.2.2.2.2 c _ hsh hw)) hl
theorem AW.iald {c t n : Nat} {i : Int32} (ok : am_ok X U G own cc nL) (hsh : am_sh X c = some (.inr (t, n, .inl false))) (ht : t < 8) (hty : am_tA X t = .int) (hin : vp_in i n) (hdg : decode cc pc = .ok (.iaload, 1))
    (kk : AW X U G nL kc ks V Q (pc + 1) L (.int (V c i.toNatClampNeg) :: st)) : AW X U G nL kc ks V Q pc L (.int i :: .ref c :: st) := by
  intro H locs ls hH hz hlo hl
  have hA := am_ok.A ok ht
  rw [hty] at hA
  have hlt : i.toNatClampNeg < n := Nat.not_le.mp fun q => hin (Or.inr q)
  exact W.iald (v := .int (V c i.toNatClampNeg)) ok.1 ok.2.1 (hH.1 c _ hsh) (hA n (fun j => .int (V c j))) (fun q => by cases q) (by show ¬ (i < 0 ∨ (arrV _ _ _).slots.size ≤ _); rw [arrV_size]; exact hin) (by show (arrV _ _ _).slots[_]? = _; rw [arrV_read _ _ hlt]) rfl rfl hdg (kk H locs ls hH hz hlo hl)
theorem AW.cald {c t n : Nat} {i : Int32} (ok : am_ok X U G own cc nL) (hsh : am_sh X c = some (.inr (t, n, .inl false))) (ht : t < 8) (hty : am_tA X t = .char) (hin : vp_in i n) (hdg : decode cc pc = .ok (.caload, 1))
    (kk : AW X U G nL kc ks V Q (pc + 1) L (.int (V c i.toNatClampNeg) :: st)) : AW X U G nL kc ks V Q pc L (.int i :: .ref c :: st) := by
  intro H locs ls hH hz hlo hl
  have hA := am_ok.A ok ht
  rw [hty] at hA
  have hlt : i.toNatClampNeg < n := Nat.not_le.mp fun q => hin (Or.inr q)
  exact W.cald (v := .int (V c i.toNatClampNeg)) ok.1 ok.2.1 (hH.1 c _ hsh) (hA n (fun j => .int (V c j))) (fun q => by cases q) (by show ¬ (i < 0 ∨ (arrV _ _ _).slots.size ≤ _); rw [arrV_size]; exact hin) (by show (arrV _ _ _).slots[_]? = _; rw [arrV_read _ _ hlt]) rfl rfl hdg (kk H locs ls hH hz hlo hl)
theorem AW.fald {c t n : Nat} {i : Int32} (ok : am_ok X U G own cc nL) (hsh : am_sh X c = some (.inr (t, n, .inl true))) (ht : t < 8) (hty : am_tA X t = .float) (hin : vp_in i n) (hdg : decode cc pc = .ok (.faload, 1))
    (kk : AW X U G nL kc ks V Q (pc + 1) L (.float (V c i.toNatClampNeg).toUInt32 :: st)) : AW X U G nL kc ks V Q pc L (.int i :: .ref c :: st) := by
  intro H locs ls hH hz hlo hl
  have hA := am_ok.A ok ht
  rw [hty] at hA
  have hlt : i.toNatClampNeg < n := Nat.not_le.mp fun q => hin (Or.inr q)
  exact W.fald (v := .float (V c i.toNatClampNeg).toUInt32) ok.1 ok.2.1 (hH.1 c _ hsh) (hA n (fun j => .float (V c j).toUInt32)) (fun q => by cases q) (by show ¬ (i < 0 ∨ (arrV _ _ _).slots.size ≤ _); rw [arrV_size]; exact hin) (by show (arrV _ _ _).slots[_]? = _; rw [arrV_read _ _ hlt]) rfl rfl hdg (kk H locs ls hH hz hlo hl)
/-- a reference out of an array of references, not null -/
theorem AW.aald {c t n d : Nat} {i : Int32} {g : Nat → Int32 → Option Nat} {C : FieldType} (ok : am_ok X U G own cc nL) (hsh : am_sh X c = some (.inr (t, n, .inr g))) (ht : t < 8) (hty : am_tA X t = C) (hC : C.isReference = true) (hin : vp_in i n) (hg : g i.toNatClampNeg (V c i.toNatClampNeg) = some d) (hdg : decode cc pc = .ok (.aaload, 1))
    (kk : AW X U G nL kc ks V Q (pc + 1) L (.ref d :: st)) : AW X U G nL kc ks V Q pc L (.int i :: .ref c :: st) := by
  intro H locs ls hH hz hlo hl
  have hA := am_ok.A ok ht
  rw [hty] at hA
  have hlt : i.toNatClampNeg < n := Nat.not_le.mp fun q => hin (Or.inr q)
  exact W.aald (v := .ref (am_ad U d)) (ty := C) ok.1 ok.2.1 (hH.1 c _ hsh) (hA n (fun j => va_rf ((g j (V c j)).map (am_ad U)))) hC (fun q => by cases q) (by show ¬ (i < 0 ∨ (arrV _ _ _).slots.size ≤ _); rw [arrV_size]; exact hin) (by show (arrV _ _ _).slots[_]? = _; rw [arrV_read _ _ hlt]; show some (va_rf ((g i.toNatClampNeg (V c i.toNatClampNeg)).map (am_ad U))) = _; rw [hg]; rfl) rfl rfl hdg (kk H locs ls hH hz hlo hl)
theorem AW.iast {c t n : Nat} {i x : Int32} (ok : am_ok X U G own cc nL) (hsh : am_sh X c = some (.inr (t, n, .inl false))) (hw : am_wr X c = true) (ht : t < 8) (hty : am_tA X t = .int) (hin : vp_in i n) (hdg : decode cc pc = .ok (.iastore, 1))
    (kk : AW X U G nL kc ks (am_set V c i.toNatClampNeg x) Q (pc + 1) L st) : AW X U G nL kc ks V Q pc L (.int x :: .int i :: .ref c :: st) := by
  intro H locs ls hH hz hlo hl
  have hA := am_ok.A ok ht
  rw [hty] at hA
  refine W.iast ok.1 ok.2.1 (hH.1 c _ hsh) (hA n (fun j => .int (V c j))) (fun q => by cases q) (by show ¬ (i < 0 ∨ (arrV _ _ _).slots.size ≤ _); rw [arrV_size]; exact hin) rfl rfl hdg fun H1 e z oq => ?_
  have hat : va_at (am_D U) (am_cl X) (am_ad U c, am_e (am_dA U) (am_ad U) (upd (V c) i.toNatClampNeg x) (.inr (t, n, .inl false))) H1 := by
    show H1[am_ad U c]? = some (vp_cell (am_dA U t) (n, .inl (upd (V c) i.toNatClampNeg x)))
    have e : H1[am_ad U c]? = some ((vp_cell (am_dA U t) (n, .inl (V c))).setSlot i.toNatClampNeg (.int x)) := e
    rw [e, vp_cell_i, vp_cell_i, arrV_store]
    congr 2
    funext q
    by_cases hq : q = i.toNatClampNeg
    · subst hq
      simp [updV, upd]
    · simp [updV, upd, hq]
  exact kk H1 _ ls (am_H.put ok.2.2.2.2.2.2.1 hH hsh hw (am_set_at V c _ x) (fun d hd => am_set_ne V _ x hd) hat z oq) (by rw [z]; exact hz) (am_locs hlo (ok.2.2.2.2.2.2.1.2.2.2.2 c _ hsh hw)) hl
theorem AW.cast {c t n : Nat} {i x : Int32} (ok : am_ok X U G own cc nL) (hsh : am_sh X c = some (.inr (t, n, .inl false))) (hw : am_wr X c = true) (ht : t < 8) (hty : am_tA X t = .char) (hin : vp_in i n) (hx : narrow .char (.int x) = .int x) (hdg : decode cc pc = .ok (.castore, 1))
    (kk : AW X U G nL kc ks (am_set V c i.toNatClampNeg x) Q (pc + 1) L st) : AW X U G nL kc ks V Q pc L (.int x :: .int i :: .ref c :: st) := by
  intro H locs ls hH hz hlo hl
  have hA := am_ok.A ok ht
  rw [hty] at hA
  refine W.cast ok.1 ok.2.1 (hH.1 c _ hsh) (hA n (fun j => .int (V c j))) (fun q => by cases q) (by show ¬ (i < 0 ∨ (arrV _ _ _).slots.size ≤ _); rw [arrV_size]; exact hin) rfl rfl hdg fun H1 e z oq => ?_
  rw [hx] at e
  have hat : va_at (am_D U) (am_cl X) (am_ad U c, am_e (am_dA U) (am_ad U) (upd (V c) i.toNatClampNeg x) (.inr (t, n, .inl false))) H1 := by
    show H1[am_ad U c]? = some (vp_cell (am_dA U t) (n, .inl (upd (V c) i.toNatClampNeg x)))
    have e : H1[am_ad U c]? = some ((vp_cell (am_dA U t) (n, .inl (V c))).setSlot i.toNatClampNeg (.int x)) := e
    rw [e, vp_cell_i, vp_cell_i, arrV_store]
    congr 2
    funext q
    by_cases hq : q = i.toNatClampNeg
    · subst hq
      simp [updV, upd]
    · simp [updV, upd, hq]
  exact kk H1 _ ls (am_H.put ok.2.2.2.2.2.2.1 hH hsh hw (am_set_at V c _ x) (fun d hd => am_set_ne V _ x hd) hat z oq) (by rw [z]; exact hz) (am_locs hlo (ok.2.2.2.2.2.2.1.2.2.2.2 c _ hsh hw)) hl
theorem AW.fast {c t n : Nat} {i : Int32} {x : UInt32} (ok : am_ok X U G own cc nL) (hsh : am_sh X c = some (.inr (t, n, .inl true))) (hw : am_wr X c = true) (ht : t < 8) (hty : am_tA X t = .float) (hin : vp_in i n) (hdg : decode cc pc = .ok (.fastore, 1))
    (kk : AW X U G nL kc ks (am_set V c i.toNatClampNeg x.toInt32) Q (pc + 1) L st) : AW X U G nL kc ks V Q pc L (.float x :: .int i :: .ref c :: st) := by
  intro H locs ls hH hz hlo hl
  have hA := am_ok.A ok ht
  rw [hty] at hA
  refine W.fast ok.1 ok.2.1 (hH.1 c _ hsh) (hA n (fun j => .float (V c j).toUInt32)) (fun q => by cases q) (by show ¬ (i < 0 ∨ (arrV _ _ _).slots.size ≤ _); rw [arrV_size]; exact hin) rfl rfl hdg fun H1 e z oq => ?_
  have hat : va_at (am_D U) (am_cl X) (am_ad U c, am_e (am_dA U) (am_ad U) (upd (V c) i.toNatClampNeg x.toInt32) (.inr (t, n, .inl true))) H1 := by
    show H1[am_ad U c]? = some (vp_cell (am_dA U t) (n, .inr (.inr (.inl (fun j => (upd (V c) i.toNatClampNeg x.toInt32 j).toUInt32)))))
    have e : H1[am_ad U c]? = some ((vp_cell (am_dA U t) (n, .inr (.inr (.inl (fun j => (V c j).toUInt32))))).setSlot i.toNatClampNeg (.float x)) := e
    rw [e, vp_cell_f, vp_cell_f, arrV_store]
    congr 2
    funext q
    by_cases hq : q = i.toNatClampNeg
    · subst hq
      simp [updV, upd]
    · simp [updV, upd, hq]
  exact kk H1 _ ls (am_H.put ok.2.2.2.2.2.2.1 hH hsh hw (am_set_at V c _ _) (fun d hd => am_set_ne V _ _ hd) hat z oq) (by rw [z]; exact hz) (am_locs hlo (ok.2.2.2.2.2.2.1.2.2.2.2 c _ hsh hw)) hl
end AMH
