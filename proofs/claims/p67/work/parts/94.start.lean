/-! ===== the law from its entry ===== -/
section
variable {D : va_G} {dA : Nat → ClassId} {aK aV aN : Nat → Nat} {t0 t1 t2 tf b : Nat} {s : State}
theorem n_baseU {args : Array Value} (hts : ∀ w ∈ lw_tbl, w.before args s = true) (hg : (Jvm.Cond.and given_1 narrow_1).before args s = true) (hK : va_K D vwCl [] s) (hdA : ∀ t : Nat, t < 8 → ArrOfT s (dA t) (tAx t) ∧ va_RA s (dA t) (tAx t))
    (z0 : va_Z "DandelionBroadcastLaw" "INPUTS" "[Ljava/lang/String;" (.ref t0) (fun q => s.heap.size ≤ q) s s.heap) (z1 : va_Z "DandelionBroadcast$Kind" "ALL" "[LDandelionBroadcast$Kind;" (.ref t1) (fun q => s.heap.size ≤ q) s s.heap) (z2 : va_Z "DandelionBroadcast$1" "$SwitchMap$DandelionBroadcast$Kind" "[I" (.ref t2) (fun q => s.heap.size ≤ q) s s.heap) :
    am_base xx (n_U D dA aK aV aN t0 t1 t2 tf b s) := by
  have hA : ∀ a : Nat, a < s.heap.size → ¬ (fun q : Nat => s.heap.size ≤ q) a := fun a h => Nat.not_le.mpr h
  refine ⟨⟨x_words, n_NS hts, n_TS hts hg, n_NC hg, vx_Zqof (n_wd hts 515 (by decide +kernel)) (n_wd hts 51 (by decide +kernel)) (pm_at hg q_us) hA, vx_Zqof (n_wd hts 517 (by decide +kernel)) (n_wd hts 51 (by decide +kernel)) (pm_at hg q_ss) hA, fun x hx => ?_⟩, hK, hdA, ?_, ?_⟩
  · have hx : x ∈ xSF := hx
    simp only [xSF, List.mem_cons, List.not_mem_nil, or_false] at hx
    rcases hx with rfl | rfl | rfl | rfl
    · exact va_Zof (n_wd hts 722 (by decide +kernel)) (n_wd hts 59 (by decide +kernel)) (va_eqt (pm_at hg q_cs)) hA
    · exact z0
    · exact z1
    · exact z2
  · intro c d x y hx hy hw e
    have key : ∀ (c : Nat) (x : am_Sh), am_sh xx c = some x → c < 292 ∧ n_inv.getD (n_off c) 0 = c := fun c x hx => by
      have hx : shx c = some x := hx
      have hlt : c < 292 := by
        refine Classical.byContradiction fun hn => ?_
        unfold shx at hx
        rw [if_neg (by omega), if_neg hn] at hx
        cases hx
      exact ⟨hlt, (n_off_inv ⟨c, hlt⟩ (by show (shx c).isSome = true; rw [hx]; rfl)).1⟩
    obtain ⟨a1, a2⟩ := key c x hx
    obtain ⟨b1, b2⟩ := key d y hy
    have e : n_ad s.heap.size aK aV aN t0 t1 t2 tf b c = n_ad s.heap.size aK aV aN t0 t1 t2 tf b d := e
    unfold n_ad at e
    rw [if_pos a1, if_pos b1] at e
    rw [← a2, ← b2, show n_off c = n_off d by omega]
  · intro c x hx _
    have hx : shx c = some x := hx
    have hlt : c < 292 := by
      refine Classical.byContradiction fun hn => ?_
      unfold shx at hx
      rw [if_neg (by omega), if_neg hn] at hx
      cases hx
    show s.heap.size ≤ n_ad s.heap.size aK aV aN t0 t1 t2 tf b c
    unfold n_ad
    rw [if_pos hlt]
    exact Nat.le_add_right _ _
theorem n_adT (h : Nat) {i : Nat} (hi : i < 39) : n_ad h aK aV aN t0 t1 t2 tf b (400 + i) = aK i := by
  unfold n_ad
  rw [if_neg (by omega), if_neg (by omega), if_pos (by omega), Nat.add_sub_cancel_left]
theorem n_adV (h : Nat) {i : Nat} (hi : i < 39) : n_ad h aK aV aN t0 t1 t2 tf b (500 + i) = aV i := by
  unfold n_ad
  rw [if_neg (by omega), if_neg (by omega), if_neg (by omega), if_pos (by omega), Nat.add_sub_cancel_left]
theorem n_adN (h : Nat) {i : Nat} (hi : i < 11) : n_ad h aK aV aN t0 t1 t2 tf b (300 + i) = aN i := by
  unfold n_ad
  rw [if_neg (by omega), if_pos (by omega), Nat.add_sub_cancel_left]
theorem n_cst {args : Array Value}
    (hT : ∀ i, i < 39 → (tX i).eval args s none [] s = some (.ref (aK i)) ∧ va_O "java/lang/String" (aK i) (fun q => s.heap.size ≤ q) s s.heap ∧ va_OF "java/lang/String" "coder" "B" (.int 0) (aK i) (fun q => s.heap.size ≤ q) s s.heap ∧
      va_OF "java/lang/String" "value" "[B" (.ref (aV i)) (aK i) (fun q => s.heap.size ≤ q) s s.heap ∧ va_T .byte (aV i) (xLEN.getD i 0) (fun j => .int ((txB.getD i []).getD j 0)) (fun q => s.heap.size ≤ q) s s.heap)
    (hN : ∀ k, k < 11 → (kS k).eval args s none [] s = some (.ref (aN k)) ∧ va_O "DandelionBroadcast$Kind" (aN k) (fun q => s.heap.size ≤ q) s s.heap ∧ va_OF "DandelionBroadcast$Kind" "shape" "Ljava/lang/String;" (.ref (aK (28 + k))) (aN k) (fun q => s.heap.size ≤ q) s s.heap ∧
      va_OF "java/lang/Enum" "ordinal" "I" (.int (nI k)) (aN k) (fun q => s.heap.size ≤ q) s s.heap)
    (h0 : va_T (.object "java/lang/String") t0 28 (fun j => .ref (aK j)) (fun q => s.heap.size ≤ q) s s.heap) (h1 : va_T (.object "DandelionBroadcast$Kind") t1 11 (fun j => .ref (aN j)) (fun q => s.heap.size ≤ q) s s.heap) (h2 : va_T .int t2 11 (fun j => .int (nI (j + 1))) (fun q => s.heap.size ≤ q) s s.heap)
    (hF : va_Z FMC "SIOOBE_FORMATTER" FMD .null (fun q => s.heap.size ≤ q) s s.heap ∨ va_Z FMC "SIOOBE_FORMATTER" FMD (.ref tf) (fun q => s.heap.size ≤ q) s s.heap) : am_cst (n_U D dA aK aV aN t0 t1 t2 tf b s) := by
  have tc : ∀ {ty : FieldType} {t N : Nat} {f g : Nat → Value}, (∀ j, j < N → f j = g j) → va_T ty t N f (fun q => s.heap.size ≤ q) s s.heap → va_T ty t N g (fun q => s.heap.size ≤ q) s s.heap := by
    rintro ty t N f g e ⟨cell, a1, a2, a3, a4, a5, a6, a7⟩
    exact ⟨cell, a1, a2, a3, a4, a5, fun j hj => (a6 j hj).trans (congrArg some (e j hj)), a7⟩
  refine ⟨fun j hj => ?_, fun k hk => ?_, ?_, ?_, h2, hF⟩
  · obtain ⟨-, b1, b2, b3, b4⟩ := hT j hj
    show va_O _ (n_ad s.heap.size aK aV aN t0 t1 t2 tf b (400 + j)) _ _ _ ∧ va_OF _ _ _ _ (n_ad s.heap.size aK aV aN t0 t1 t2 tf b (400 + j)) _ _ _ ∧ va_OF _ _ _ (.ref (n_ad s.heap.size aK aV aN t0 t1 t2 tf b (500 + j))) (n_ad s.heap.size aK aV aN t0 t1 t2 tf b (400 + j)) _ _ _ ∧ va_T _ (n_ad s.heap.size aK aV aN t0 t1 t2 tf b (500 + j)) _ _ _ _ _
    rw [n_adT _ hj, n_adV _ hj]
    exact ⟨b1, b2, b3, b4⟩
  · obtain ⟨-, b1, b2, b3⟩ := hN k hk
    show va_O _ (n_ad s.heap.size aK aV aN t0 t1 t2 tf b (300 + k)) _ _ _ ∧ va_OF _ _ _ (.ref (n_ad s.heap.size aK aV aN t0 t1 t2 tf b (428 + k))) (n_ad s.heap.size aK aV aN t0 t1 t2 tf b (300 + k)) _ _ _ ∧ va_OF _ _ _ _ (n_ad s.heap.size aK aV aN t0 t1 t2 tf b (300 + k)) _ _ _
    rw [n_adN _ hk, show 428 + k = 400 + (28 + k) by omega, n_adT _ (show 28 + k < 39 by omega)]
    exact ⟨b1, b2, b3⟩
  · exact tc (fun j hj => by show Value.ref (aK j) = .ref (n_ad s.heap.size aK aV aN t0 t1 t2 tf b (400 + j)); rw [n_adT _ (by omega)]) h0
  · exact tc (fun j hj => by show Value.ref (aN j) = .ref (n_ad s.heap.size aK aV aN t0 t1 t2 tf b (300 + j)); rw [n_adN _ hj]) h1
theorem n_toAW {G : am_G} {kc ks : Nat} {Q : State → Prop} (h : AW xx (n_U D dA aK aV aN t0 t1 t2 tf b s) G 9 kc ks V0 Q 8 [some (.ref 999), some (.ref 1), none, none, none, none, none, none, none] []) :
    NW (n_U D dA aK aV aN t0 t1 t2 tf b s) G 9 kc ks (nXF (n_U D dA aK aV aN t0 t1 t2 tf b s)) 161 Q 8 [some (.ref b), some (.ref (s.heap.size + 0)), none, none, none, none, none, none, none] [] := by
  intro H locs ls hH hz hlo hl
  refine h H locs ls (n_world hH) hz hlo ⟨hl.1, hl.2.1, fun i v hi => ?_⟩
  match i, hi with
  | 0, hi => cases hi; exact hl.2.2 0 (.ref b) rfl
  | 1, hi => cases hi; exact hl.2.2 1 (.ref (s.heap.size + 0)) rfl
  | 2, hi => cases hi
  | 3, hi => cases hi
  | 4, hi => cases hi
  | 5, hi => cases hi
  | 6, hi => cases hi
  | 7, hi => cases hi
  | 8, hi => cases hi
  | i + 9, hi => cases hi
end
set_option maxHeartbeats 4000000 in
theorem whole_start {p : Program} {e : Env} {s : State} {m : MethodId} {below : List Frame} {meth : Method} {c : Code} (l : Launch) (hflags : l.flags = flags0) {b L : Nat} {xs : Nat → Int32} (hL : L ≤ 260) (C0 : lw_At p s m meth c b L xs) : W p l e room_1 s m #[Value.ref b] below meth c s.heap [] 0 0 (lw_Z below #[Value.ref b] s) (entryFrame m ([Value.ref b] : List Value).toArray 9) := by
  obtain ⟨hx, hb, hr, hml, hown, hts, hX, hbl, hlocks, hgv⟩ := id C0
  have hA : ∀ a : Nat, a < s.heap.size → ¬ (fun q : Nat => s.heap.size ≤ q) a := fun a h => Nat.not_le.mpr h
  obtain ⟨aK, aV, hT⟩ := n_texts hgv hA
  obtain ⟨aN, hN⟩ := n_kinds hts hgv hA (fun i hi => (hT i hi).1)
  obtain ⟨t0, t1, t2, ⟨z0, h0⟩, ⟨z1, h1⟩, z2, h2⟩ := n_tabs hts hgv hA (fun i hi => (hT i hi).1) (fun k hk => (hN k hk).1)
  have hF0 : va_Zq FMC "SIOOBE_FORMATTER" FMD (fun q : Nat => s.heap.size ≤ q) s s.heap := va_Zqof (n_wd hts 738 (by decide +kernel)) (n_wd hts 63 (by decide +kernel)) (pm_at hgv q_fm) hA
  obtain ⟨tf, hF⟩ : ∃ tf : Nat, va_Z FMC "SIOOBE_FORMATTER" FMD .null (fun q => s.heap.size ≤ q) s s.heap ∨ va_Z FMC "SIOOBE_FORMATTER" FMD (.ref tf) (fun q => s.heap.size ≤ q) s s.heap := by
    rcases hF0 with h | ⟨t, h⟩
    · exact ⟨0, Or.inl h⟩
    · exact ⟨t, Or.inr h⟩
  obtain ⟨dA, hdA⟩ := n_dA hts
  obtain ⟨D, hK⟩ := n_K hts
  have hfl : l.stackTraces = false := by
    unfold Launch.stackTraces
    rw [hflags]
    rfl
  have hB : am_base xx (n_U D dA aK aV aN t0 t1 t2 tf b s) := n_baseU hts hgv hK hdA z0 z1 z2
  have hC : am_cst (n_U D dA aK aV aN t0 t1 t2 tf b s) := n_cst hT hN h0 h1 h2 hF
  have hO : n_O (n_U D dA aK aV aN t0 t1 t2 tf b s) := ⟨va_AO.of (n_wd hts 253 (by decide +kernel)), va_AO.of (n_wd hts 357 (by decide +kernel)), show n_AO s from n_wd (w := .arrayOver (.array .int)) hts 359 (by decide +kernel)⟩
  have hsc : am_scr (n_U D dA aK aV aN t0 t1 t2 tf b s) (L, xs) := by
    obtain ⟨scr, x1, x2, x3, x4, x5⟩ := hX
    exact ⟨by show L < 2147483648; omega, scr, x1, x2, x3, by rw [x4]; exact Nat.le_refl _, by rw [x4], x5, hA b hbl⟩
  have ok : am_ok xx (n_U D dA aK aV aN t0 t1 t2 tf b s) (l, p, e, room_1, s, m, #[Value.ref b], below, meth, c) RL cL_law 9 := ⟨hx, hb, hml, hown, fun w hw => hts w (List.mem_filter.mp hw).1, State.WarmedH.refl s, hB, hlocks, hfl⟩
  obtain ⟨r, V, hm, h5⟩ := t_law (sc := (L, xs)) hsc.1 h0_P
  have K : lK (n_U D dA aK aV aN t0 t1 t2 tf b s) l (l, p, e, room_1, s, m, #[Value.ref b], below, meth, c) (lw_Z below #[Value.ref b] s) 161 1825 215273 (r, V) := by
    refine ⟨rfl, rfl, ok, ⟨Nat.le_refl _, fun q _ => rfl⟩, h5, ⟨by decide, by decide⟩, ?_⟩
    intro kc V pc L9 hc hdg H locs ls hH hz hlo hl
    refine va_forget hlo ?_
    refine W.widen (k := 602232) (n := 7283071) (by omega) (by omega) ?_
    exact lw_ret (d0 := s.drawn) (Drawn.sameBut.refl s.drawn lw_cs) hx hb hr hlocks hdg
  have hLE := kL_law ⟨hB, hC⟩ hfl hsc K hm
  have hNW : NW (n_U D dA aK aV aN t0 t1 t2 tf b s) (l, p, e, room_1, s, m, #[Value.ref b], below, meth, c) 9 0 0 (fun _ => none) 0 (lw_Z below #[Value.ref b] s) 0 [some (.ref b), none, none, none, none, none, none, none, none] [] := by
    refine NW.new (fs := [.null, .null, .null, .null, .null, .null, .null, .null, .null, .null, .int 0, .int 0, .int 0, .int 0, .int 0, .int 0]) tyX11 ok in_X11 tyX11_ok (x_in 70 (by decide +kernel)) (x_in 71 (by decide +kernel)) (x_in 40 (by decide +kernel)) (ci := 11) rfl n_fsX11 ⟨Nat.le_of_ble_eq_true rfl, Nat.le_of_ble_eq_true rfl⟩ (am_at eL_law 0 rfl) ?_
    refine NW.run ok eL_law 1 1 (show am_run 9 ((tL_law.drop 1).take 1) 3 [some (.ref b), none, none, none, none, none, none, none, none] [.ref (n_sz (n_U D dA aK aV aN t0 t1 t2 tf b s) + 0)] = some (4, [some (.ref b), none, none, none, none, none, none, none, none], [.ref (n_sz (n_U D dA aK aV aN t0 t1 t2 tf b s) + 0), .ref (n_sz (n_U D dA aK aV aN t0 t1 t2 tf b s) + 0)]) from rfl) ?_
    refine NW.call (rm := n_rX11) (host := none) ok (kX11_init _ l hB hfl hO nset_e (by omega)) ⟨x_in 72 (by decide +kernel), x_in 73 (by decide +kernel), x_in 40 (by decide +kernel), x_in 74 (by decide +kernel), rfl, by decide +kernel, by decide +kernel, by decide +kernel⟩ (Nat.le_of_ble_eq_true rfl) ⟨Nat.le_of_ble_eq_true rfl, Nat.le_of_ble_eq_true rfl⟩ ⟨Nat.le_of_ble_eq_true rfl, Nat.le_of_ble_eq_true rfl⟩ (am_at eL_law 2 rfl) ?_
    refine NW.run ok eL_law 3 1 (show am_run 9 ((tL_law.drop 3).take 1) 7 [some (.ref b), none, none, none, none, none, none, none, none] [.ref (n_sz (n_U D dA aK aV aN t0 t1 t2 tf b s) + 0)] = some (8, [some (.ref b), some (.ref (n_sz (n_U D dA aK aV aN t0 t1 t2 tf b s) + 0)), none, none, none, none, none, none, none], []) from rfl) ?_
    exact n_toAW hLE
  rw [lg_entry_eq]
  have he := lv_entry (([.ref b] : List Value).map (am_v id)) (n := 9) (Nat.le_of_ble_eq_true rfl)
  refine hNW s.heap [] _ ⟨rfl, fun q _ => rfl, fun j e' h => by cases h⟩ (Nat.le_refl _) (fun q hq => by cases hq) ⟨he.1, he.2.1, fun i v hi => ?_⟩
  have h9 := am_args id [.ref b] 9 0 i v hi
  rw [Nat.zero_add] at h9
  exact he.2.2 _ h9
