/-! ===== what the claim gives of the start ===== -/
def flatA : Jvm.Cond → List Jvm.Cond → List Jvm.Cond
  | .and a b, acc => flatA a (flatA b acc)
  | c, acc => c :: acc
theorem flatA_ok {args : Array Value} {s : State} : ∀ (T : Jvm.Cond) (acc : List Jvm.Cond), T.before args s = true → (∀ c ∈ acc, c.before args s = true) → ∀ c ∈ flatA T acc, c.before args s = true := by
  intro T
  induction T with
  | and a b iha ihb =>
    intro acc h ha c hc
    rw [Cond.before_and, Bool.and_eq_true] at h
    exact iha _ h.1 (ihb acc h.2 ha) c hc
  | _ =>
    intro acc h ha c hc
    simp only [flatA, List.mem_cons] at hc
    rcases hc with rfl | hc
    · exact h
    · exact ha c hc
def pm : List Jvm.Cond := flatA (Jvm.Cond.and given_1 narrow_1) []
theorem pm_at {args : Array Value} {s : State} (hg : (Jvm.Cond.and given_1 narrow_1).before args s = true) {i : Nat} {w : Jvm.Cond} (h : pm[i]? = some w) : w.before args s = true := flatA_ok _ [] hg (fun c hc => by cases hc) w (List.mem_of_getElem? h)
def tXi : List Nat := [352, 354, 356, 358, 360, 362, 364, 366, 368, 370, 372, 374, 376, 378, 380, 382, 383, 385, 387, 388, 390, 392, 394, 396, 398, 400, 402, 404, 61, 67, 70, 73, 76, 79, 82, 85, 88, 91, 94]
def tX (i : Nat) : Term := .string (if i < 28 then "DandelionBroadcastLaw" else "DandelionBroadcast$Kind") (tXi.getD i 0)
def kNM : List String := ["FIELD", "PATH", "SHIELD", "GUST", "BLOCK", "OPEN", "SEED", "SEND", "WIND", "FINISH", "ABORT"]
def kS (j : Nat) : Term := .static "DandelionBroadcast$Kind" (kNM.getD j "") "LDandelionBroadcast$Kind;"
def kIN : Term := .static "DandelionBroadcastLaw" "INPUTS" "[Ljava/lang/String;"
def kAL : Term := .static "DandelionBroadcast$Kind" "ALL" "[LDandelionBroadcast$Kind;"
def kSM : Term := .static "DandelionBroadcast$1" "$SwitchMap$DandelionBroadcast$Kind" "[I"
theorem pf_ex : ∀ i : Fin 39, pm[([840, 851, 870, 886, 915, 929, 954, 966, 980, 991, 1009, 1019, 1030, 1051, 1063, 1076, 1084, 1097, 1107, 1116, 1142, 1158, 1174, 1186, 1198, 1210, 1222, 1235, 1247, 1258, 1274, 1288, 1300, 1311, 1321, 1331, 1344, 1353, 1364] : List Nat).getD i.val 0]? = some (.exactly (tX i.val) "java/lang/String") := by decide +kernel
theorem pf_co : ∀ i : Fin 39, pm[([841, 852, 871, 887, 916, 930, 955, 967, 981, 992, 1010, 1020, 1031, 1052, 1064, 1077, 1085, 1098, 1108, 1117, 1143, 1159, 1175, 1187, 1199, 1211, 1223, 1236, 1248, 1259, 1275, 1289, 1301, 1312, 1322, 1332, 1345, 1354, 1365] : List Nat).getD i.val 0]? = some (.eq (.field (tX i.val) "java/lang/String" "coder" "B") (.int 0)) := by decide +kernel
theorem pf_ar : ∀ i : Fin 39, pm[([842, 853, 872, 888, 917, 931, 956, 968, 982, 993, 1011, 1021, 1032, 1053, 1065, 1078, 1086, 1099, 1109, 1118, 1144, 1160, 1176, 1188, 1200, 1212, 1224, 1237, 1249, 1260, 1276, 1290, 1302, 1313, 1323, 1333, 1346, 1355, 1366] : List Nat).getD i.val 0]? = some (.arrayOf (.field (tX i.val) "java/lang/String" "value" "[B") .byte) := by decide +kernel
theorem pf_le : ∀ i : Fin 39, pm[([843, 854, 873, 889, 918, 932, 957, 969, 983, 994, 1012, 1022, 1033, 1054, 1066, 1079, 1087, 1100, 1110, 1119, 1145, 1161, 1177, 1189, 1201, 1213, 1225, 1238, 1250, 1261, 1277, 1291, 1303, 1314, 1324, 1334, 1347, 1356, 1367] : List Nat).getD i.val 0]? = some (.eq (.length (.field (tX i.val) "java/lang/String" "value" "[B")) (.int (Int32.ofNat (xLEN.getD i.val 0)))) := by decide +kernel
theorem pf_by : ∀ i : Fin 39, ∀ j : Fin 25, j.val < xLEN.getD i.val 0 → pm[([844, 855, 874, 890, 919, 933, 958, 970, 984, 995, 1013, 1023, 1034, 1055, 1067, 1080, 1088, 1101, 1111, 1120, 1146, 1162, 1178, 1190, 1202, 1214, 1226, 1239, 1251, 1262, 1278, 1292, 1304, 1315, 1325, 1335, 1348, 1357, 1368] : List Nat).getD i.val 0 + j.val]? = some (.eq (.elem (.field (tX i.val) "java/lang/String" "value" "[B") (.int (Int32.ofNat j.val))) (.int ((txB.getD i.val []).getD j.val 0))) := by decide +kernel
theorem pf_kx : ∀ i : Fin 11, pm[([72, 75, 79, 84, 90, 97, 105, 114, 124, 135, 147] : List Nat).getD i.val 0]? = some (.exactly (kS i.val) "DandelionBroadcast$Kind") := by decide +kernel
theorem pf_ko : ∀ i : Fin 11, pm[([73, 76, 80, 85, 91, 98, 106, 115, 125, 136, 148] : List Nat).getD i.val 0]? = some (.eq (.field (kS i.val) "java/lang/Enum" "ordinal" "I") (.int (nI i.val))) := by decide +kernel
theorem pf_ks : ∀ i : Fin 11, pm[([74, 77, 81, 86, 92, 99, 107, 116, 126, 137, 149] : List Nat).getD i.val 0]? = some (.eq (.field (kS i.val) "DandelionBroadcast$Kind" "shape" "Ljava/lang/String;") (tX (28 + i.val))) := by decide +kernel
theorem pf_kd : ∀ i j : Fin 11, i.val < j.val → pm[([0, 78, 82, 87, 93, 100, 108, 117, 127, 138, 150, 0, 0, 83, 88, 94, 101, 109, 118, 128, 139, 151, 0, 0, 0, 89, 95, 102, 110, 119, 129, 140, 152, 0, 0, 0, 0, 96, 103, 111, 120, 130, 141, 153, 0, 0, 0, 0, 0, 104, 112, 121, 131, 142, 154, 0, 0, 0, 0, 0, 0, 113, 122, 132, 143, 155, 0, 0, 0, 0, 0, 0, 0, 123, 133, 144, 156, 0, 0, 0, 0, 0, 0, 0, 0, 134, 145, 157, 0, 0, 0, 0, 0, 0, 0, 0, 0, 146, 158, 0, 0, 0, 0, 0, 0, 0, 0, 0, 0, 159, 0, 0, 0, 0, 0, 0, 0, 0, 0, 0, 0] : List Nat).getD (11 * i.val + j.val) 0]? = some (.not (.eq (kS i.val) (kS j.val))) := by decide +kernel
theorem pf_in : ∀ i : Fin 28, pm[([44, 45, 46, 47, 48, 49, 50, 51, 52, 53, 54, 55, 56, 57, 58, 59, 60, 61, 62, 63, 64, 65, 66, 67, 68, 69, 70, 71] : List Nat).getD i.val 0]? = some (.eq (.elem kIN (.int (Int32.ofNat i.val))) (tX i.val)) := by decide +kernel
theorem pf_al : ∀ i : Fin 11, pm[([11, 12, 13, 14, 15, 16, 17, 18, 19, 20, 21] : List Nat).getD i.val 0]? = some (.eq (.elem kAL (.int (Int32.ofNat i.val))) (kS i.val)) := by decide +kernel
theorem pf_sm : ∀ i : Fin 11, pm[([30, 31, 32, 33, 34, 35, 36, 37, 38, 39, 40] : List Nat).getD i.val 0]? = some (.eq (.elem kSM (.int (Int32.ofNat i.val))) (.int (nI (i.val + 1)))) := by decide +kernel
theorem pf_ts : ∀ k : Fin 21, ∃ x ∈ xTS[k.val]?, pm[([299, 324, 351, 375, 393, 418, 437, 464, 488, 516, 537, 565, 609, 626, 642, 662, 698, 720, 739, 767, 807] : List Nat).getD k.val 0]? = some (.exactly (.string x.1 x.2.1) "java/lang/String") ∧ lw_tbl[([533, 569, 589, 776, 877, 887, 901, 913, 930, 931, 1042, 1061, 1075, 1105, 1146, 1166, 1202, 1252, 1281, 1419, 1431] : List Nat).getD k.val 0]? = some (.stringRef x.1 x.2.1 x.2.2) := by decide +kernel
theorem pf_nc : ∀ k : Fin 139, ∃ x ∈ xNC[k.val]?, pm[([280, 261, 244, 160, 210, 194, 177, 227, 283, 263, 247, 163, 213, 197, 180, 230, 288, 268, 252, 168, 218, 202, 185, 235, 289, 269, 253, 169, 219, 203, 186, 236, 284, 264, 248, 164, 214, 198, 181, 231, 276, 260, 175, 225, 208, 192, 242, 282, 262, 246, 162, 212, 196, 179, 229, 286, 266, 250, 166, 216, 200, 183, 233, 281, 245, 161, 211, 195, 178, 228, 285, 265, 249, 165, 215, 199, 182, 232, 287, 267, 251, 167, 217, 201, 184, 234, 296, 277, 176, 226, 209, 193, 243, 293, 273, 257, 172, 223, 189, 240, 291, 271, 255, 221, 204, 188, 238, 295, 275, 259, 174, 207, 191, 241, 290, 270, 254, 170, 220, 187, 237, 298, 279, 297, 278, 292, 272, 256, 171, 222, 205, 239, 294, 274, 258, 173, 224, 206, 190] : List Nat).getD k.val 0]? = some (.not (.castable x.1 x.2)) := by decide +kernel
theorem pf_kl : ∀ i : Fin 11, lw_tbl[([1467, 1468, 1469, 1470, 1471, 1472, 1473, 1474, 1475, 1476, 1477] : List Nat).getD i.val 0]? = some (.laysStatic "DandelionBroadcast$Kind" (kNM.getD i.val "") "LDandelionBroadcast$Kind;") := by decide +kernel
theorem q_a0 : pm[42]? = some (.arrayOf kIN (.object "java/lang/String")) := by decide +kernel
theorem q_l0 : pm[43]? = some (.eq (.length kIN) (.int (Int32.ofNat 28))) := by decide +kernel
theorem q_a1 : pm[8]? = some (.arrayOf kAL (.object "DandelionBroadcast$Kind")) := by decide +kernel
theorem q_l1 : pm[9]? = some (.eq (.length kAL) (.int (Int32.ofNat 11))) := by decide +kernel
theorem q_a2 : pm[28]? = some (.arrayOf kSM .int) := by decide +kernel
theorem q_l2 : pm[29]? = some (.eq (.length kSM) (.int (Int32.ofNat 11))) := by decide +kernel
theorem q_cs : pm[22]? = some (.eq (.static "java/lang/String" "COMPACT_STRINGS" "Z") (.int 1)) := by decide +kernel
theorem q_us : pm[4]? = some (.isRef (.static Bundle.tN "UNASSIGNED_STACK" Bundle.steD)) := by decide +kernel
theorem q_ss : pm[5]? = some (.isRef (.static Bundle.tN "SUPPRESSED_SENTINEL" Bundle.listD)) := by decide +kernel
theorem q_fm : pm[23]? = some (.isRef (.static FMC "SIOOBE_FORMATTER" FMD)) := by decide +kernel
section
variable {args : Array Value} {s : State} {A : Nat → Prop}
theorem n_wd (hts : ∀ w ∈ lw_tbl, w.before args s = true) (i : Nat) {w : Jvm.Cond} (h : decide (lw_tbl[i]? = some w) = true) : w.before args s = true := hts w (List.mem_of_getElem? (of_decide_eq_true h))
theorem n_Sof (hg : (Jvm.Cond.and given_1 narrow_1).before args s = true) (hA : ∀ a : Nat, a < s.heap.size → ¬ A a) (i : Nat) (hi : i < 39) : ∃ q : Nat × Nat, (tX i).eval args s none [] s = some (.ref q.1) ∧ va_O "java/lang/String" q.1 A s s.heap ∧ va_OF "java/lang/String" "coder" "B" (.int 0) q.1 A s s.heap ∧
    va_OF "java/lang/String" "value" "[B" (.ref q.2) q.1 A s s.heap ∧ va_T .byte q.2 (xLEN.getD i 0) (fun j => .int ((txB.getD i []).getD j 0)) A s s.heap := by
  have hl := x_len i hi
  obtain ⟨a, c, cA, kA, q1, q2, q3, q4, q5, q6, -⟩ := Cond.exactly_spec (args := args) (first := s) (o := none) (s := s) (idx := []) (t := tX i) (cls := "java/lang/String") (pm_at hg (pf_ex ⟨i, hi⟩))
  obtain ⟨t, ht, hT⟩ := va_Tof (f := fun j => .int ((txB.getD i []).getD j 0)) (A := A) (N := xLEN.getD i 0) (show xLEN.getD i 0 < 2 ^ 31 by omega) (pm_at hg (pf_ar ⟨i, hi⟩)) (va_eqt (pm_at hg (pf_le ⟨i, hi⟩))) (fun j hj => va_eqt (pm_at hg (pf_by ⟨i, hi⟩ ⟨j, by omega⟩ hj))) hA
  exact ⟨(a, t), q1, ⟨cA, q3, q5, by rw [q6]; exact q2, hA a (Array.getElem?_eq_some_iff.mp q3).1⟩, vk_OFof q1 (va_eqt (pm_at hg (pf_co ⟨i, hi⟩))) hA, vk_OFof q1 ht hA, hT⟩
theorem n_texts (hg : (Jvm.Cond.and given_1 narrow_1).before args s = true) (hA : ∀ a : Nat, a < s.heap.size → ¬ A a) : ∃ aK aV : Nat → Nat, ∀ i, i < 39 → (tX i).eval args s none [] s = some (.ref (aK i)) ∧ va_O "java/lang/String" (aK i) A s s.heap ∧ va_OF "java/lang/String" "coder" "B" (.int 0) (aK i) A s s.heap ∧
    va_OF "java/lang/String" "value" "[B" (.ref (aV i)) (aK i) A s s.heap ∧ va_T .byte (aV i) (xLEN.getD i 0) (fun j => .int ((txB.getD i []).getD j 0)) A s s.heap := by
  have h0 : ∀ i : Nat, ∃ q : Nat × Nat, i < 39 → (tX i).eval args s none [] s = some (.ref q.1) ∧ va_O "java/lang/String" q.1 A s s.heap ∧ va_OF "java/lang/String" "coder" "B" (.int 0) q.1 A s s.heap ∧
      va_OF "java/lang/String" "value" "[B" (.ref q.2) q.1 A s s.heap ∧ va_T .byte q.2 (xLEN.getD i 0) (fun j => .int ((txB.getD i []).getD j 0)) A s s.heap := by
    intro i
    by_cases hi : i < 39
    · obtain ⟨q, h⟩ := n_Sof hg hA i hi
      exact ⟨q, fun _ => h⟩
    · exact ⟨(0, 0), fun h => absurd h hi⟩
  obtain ⟨ad, had⟩ := Classical.axiomOfChoice h0
  exact ⟨fun i => (ad i).1, fun i => (ad i).2, had⟩
theorem n_kinds (hts : ∀ w ∈ lw_tbl, w.before args s = true) (hg : (Jvm.Cond.and given_1 narrow_1).before args s = true) (hA : ∀ a : Nat, a < s.heap.size → ¬ A a) {aK : Nat → Nat} (hK : ∀ i, i < 39 → (tX i).eval args s none [] s = some (.ref (aK i))) : ∃ aN : Nat → Nat, ∀ k, k < 11 → (kS k).eval args s none [] s = some (.ref (aN k)) ∧ va_O "DandelionBroadcast$Kind" (aN k) A s s.heap ∧
    va_OF "DandelionBroadcast$Kind" "shape" "Ljava/lang/String;" (.ref (aK (28 + k))) (aN k) A s s.heap ∧ va_OF "java/lang/Enum" "ordinal" "I" (.int (nI k)) (aN k) A s s.heap := by
  obtain ⟨aN, hN, hev⟩ := va_Enof2 (args := args) (s := s) (E := "DandelionBroadcast$Kind") (d := "LDandelionBroadcast$Kind;") (nm := kNM) (F := []) (A := A) (fun i hi => hts _ (List.mem_of_getElem? (pf_kl ⟨i, hi⟩))) (n_wd hts 67 (by decide +kernel)) (fun i hi => pm_at hg (pf_kx ⟨i, hi⟩)) (fun q hq => by cases hq)
    (fun i j hi hj hij => by
      rcases Nat.lt_or_gt_of_ne hij with h | h
      · exact Or.inl (pm_at hg (pf_kd ⟨i, hi⟩ ⟨j, hj⟩ h))
      · exact Or.inr (pm_at hg (pf_kd ⟨j, hj⟩ ⟨i, hi⟩ h))) hA
  have h1 := va_Efof (N := 11) (E := "DandelionBroadcast$Kind") (d0 := "LDandelionBroadcast$Kind;") (o := "DandelionBroadcast$Kind") (n := "shape") (d := "Ljava/lang/String;") (nm := kNM) (v := fun i => .ref (aK (28 + i))) (tm := fun i => tX (28 + i)) (ad := aN) (A := A) hev (fun i hi => pm_at hg (pf_ks ⟨i, hi⟩)) (fun i hi => hK (28 + i) (by omega)) hA
  have h2 := va_Efof (N := 11) (E := "DandelionBroadcast$Kind") (d0 := "LDandelionBroadcast$Kind;") (o := "java/lang/Enum") (n := "ordinal") (d := "I") (nm := kNM) (v := fun i => .int (nI i)) (tm := fun i => .int (nI i)) (ad := aN) (A := A) hev (fun i hi => pm_at hg (pf_ko ⟨i, hi⟩)) (fun i hi => rfl) hA
  exact ⟨aN, fun k hk => ⟨hev k hk, (hN.1 k hk).2.1, h1 k hk, h2 k hk⟩⟩
theorem n_tabs (hts : ∀ w ∈ lw_tbl, w.before args s = true) (hg : (Jvm.Cond.and given_1 narrow_1).before args s = true) (hA : ∀ a : Nat, a < s.heap.size → ¬ A a) {aK aN : Nat → Nat} (hK : ∀ i, i < 39 → (tX i).eval args s none [] s = some (.ref (aK i))) (hN : ∀ k, k < 11 → (kS k).eval args s none [] s = some (.ref (aN k))) : ∃ t0 t1 t2 : Nat,
    (va_Z "DandelionBroadcastLaw" "INPUTS" "[Ljava/lang/String;" (.ref t0) A s s.heap ∧ va_T (.object "java/lang/String") t0 28 (fun j => .ref (aK j)) A s s.heap) ∧ (va_Z "DandelionBroadcast$Kind" "ALL" "[LDandelionBroadcast$Kind;" (.ref t1) A s s.heap ∧ va_T (.object "DandelionBroadcast$Kind") t1 11 (fun j => .ref (aN j)) A s s.heap) ∧
    (va_Z "DandelionBroadcast$1" "$SwitchMap$DandelionBroadcast$Kind" "[I" (.ref t2) A s s.heap ∧ va_T .int t2 11 (fun j => .int (nI (j + 1))) A s s.heap) := by
  obtain ⟨t0, e0, h0⟩ := va_Tof (f := fun j => .ref (aK j)) (A := A) (by omega) (pm_at hg q_a0) (va_eqt (pm_at hg q_l0)) (fun j hj => va_eqv (pm_at hg (pf_in ⟨j, hj⟩)) (hK j (by omega))) hA
  obtain ⟨t1, e1, h1⟩ := va_Tof (f := fun j => .ref (aN j)) (A := A) (by omega) (pm_at hg q_a1) (va_eqt (pm_at hg q_l1)) (fun j hj => va_eqv (pm_at hg (pf_al ⟨j, hj⟩)) (hN j hj)) hA
  obtain ⟨t2, e2, h2⟩ := va_Tof (f := fun j => .int (nI (j + 1))) (A := A) (by omega) (pm_at hg q_a2) (va_eqt (pm_at hg q_l2)) (fun j hj => va_eqt (pm_at hg (pf_sm ⟨j, hj⟩))) hA
  exact ⟨t0, t1, t2, ⟨va_Zof (n_wd hts 982 (by decide +kernel)) (n_wd hts 39 (by decide +kernel)) e0 hA, h0⟩, ⟨va_Zof (n_wd hts 708 (by decide +kernel)) (n_wd hts 67 (by decide +kernel)) e1 hA, h1⟩, ⟨va_Zof (n_wd hts 782 (by decide +kernel)) (n_wd hts 68 (by decide +kernel)) e2 hA, h2⟩⟩
theorem n_TS (hts : ∀ w ∈ lw_tbl, w.before args s = true) (hg : (Jvm.Cond.and given_1 narrow_1).before args s = true) : ∀ x ∈ xTS, ∃ a : Nat, vk_R x.1 x.2.1 x.2.2 a s := by
  intro x hx
  obtain ⟨k, hk⟩ := List.getElem?_of_mem hx
  have hlt : k < 21 := (List.getElem?_eq_some_iff.mp hk).1
  obtain ⟨y, hy, h1, h2⟩ := pf_ts ⟨k, hlt⟩
  have hy : xTS[k]? = some y := hy
  cases hk.symm.trans hy
  obtain ⟨a, c, cA, kA, q1, -⟩ := Cond.exactly_spec (args := args) (first := s) (o := none) (s := s) (idx := []) (t := .string x.1 x.2.1) (cls := "java/lang/String") (pm_at hg h1)
  exact ⟨a, vk_R.of (hts _ (List.mem_of_getElem? h2)) q1⟩
theorem n_NC (hg : (Jvm.Cond.and given_1 narrow_1).before args s = true) : ∀ x ∈ xNC, va_Nc x.1 x.2 s := by
  intro x hx
  obtain ⟨k, hk⟩ := List.getElem?_of_mem hx
  have hlt : k < 139 := (List.getElem?_eq_some_iff.mp hk).1
  obtain ⟨y, hy, h1⟩ := pf_nc ⟨k, hlt⟩
  have hy : xNC[k]? = some y := hy
  cases hk.symm.trans hy
  exact va_Nc.of (pm_at hg h1)
theorem n_NS (hts : ∀ w ∈ lw_tbl, w.before args s = true) : ∀ w ∈ am_NS xx, va_Nw w s := by
  intro w hw
  have hm : w ∈ lw_tbl := (List.mem_filter.mp hw).1
  refine va_Nw.of ?_ (hts w hm)
  rcases x_words.2 w hw with ⟨a, i, y, h, rfl⟩ | ⟨a, i, b, n, d, h, rfl⟩ | ⟨a, b, rfl⟩ | ⟨y, rfl⟩ <;> rfl
theorem n_arr {ty : FieldType} (h : (Jvm.Cond.arrayClass ty).before args s = true) (hp : ∀ cA : ClassId, s.vm.findClass ("[" ++ ty.toString) = some cA → va_RA s cA ty) : ∃ cA : ClassId, ArrOfT s cA ty ∧ va_RA s cA ty := by
  obtain ⟨cA, kA, comp, h1, h2, h3⟩ := Cond.arrayClass_spec (first := s) (o := none) (idx := []) h
  exact ⟨cA, fun n z => ⟨fun k h => (by cases h), kA, h2, comp, h3⟩, hp cA h1⟩
theorem n_arrO {C : String} (h : (Jvm.Cond.arrayOver (.object C)).before args s = true) : ∃ cA : ClassId, ArrOfT s cA (.object C) ∧ va_RA s cA (.object C) := by
  obtain ⟨comp, cA, kA, h1, -, h2, h3, h4⟩ := Cond.arrayOver_spec (first := s) (o := none) (idx := []) h
  exact ⟨cA, fun n z => ⟨fun k h => (by cases h), kA, h2, comp, h3⟩, kA, comp, h2, h3, h1, h4⟩
theorem n_arrA (h : n_AO s) : ∃ cA : ClassId, ArrOfT s cA (.array .int) ∧ va_RA s cA (.array .int) := by
  obtain ⟨comp, cA, kA, h1, -, h2, h3, h4⟩ := Jvm.Stand.arrayOver_specB h
  exact ⟨cA, fun n z => ⟨fun k h => (by cases h), kA, h2, comp, h3⟩, h4⟩
theorem n_dA (hts : ∀ w ∈ lw_tbl, w.before args s = true) : ∃ dA : Nat → ClassId, ∀ t : Nat, t < 8 → ArrOfT s (dA t) (tAx t) ∧ va_RA s (dA t) (tAx t) := by
  obtain ⟨a0, h0⟩ := n_arr (ty := .int) (n_wd hts 146 (by decide +kernel)) (fun _ h => h)
  obtain ⟨a1, h1⟩ := n_arr (ty := .char) (n_wd hts 383 (by decide +kernel)) (fun _ h => h)
  obtain ⟨a2, h2⟩ := n_arr (ty := .float) (n_wd hts 322 (by decide +kernel)) (fun _ h => h)
  obtain ⟨a3, h3⟩ := n_arrO (C := "DandelionBroadcast$State") (n_wd hts 253 (by decide +kernel))
  obtain ⟨a4, h4⟩ := n_arrO (C := "DandelionBroadcast$Kind") (n_wd hts 357 (by decide +kernel))
  obtain ⟨a5, h5⟩ := n_arrA (s := s) (show n_AO s from n_wd (w := .arrayOver (.array .int)) hts 359 (by decide +kernel))
  refine ⟨fun t => if t = 1 then a1 else if t = 2 then a2 else if t = 3 then a3 else if t = 4 then a4 else if t = 5 then a5 else a0, fun t ht => ?_⟩
  rcases (show t = 0 ∨ t = 1 ∨ t = 2 ∨ t = 3 ∨ t = 4 ∨ t = 5 ∨ t = 6 ∨ t = 7 by omega) with rfl | rfl | rfl | rfl | rfl | rfl | rfl | rfl
  · exact h0
  · exact h1
  · exact h2
  · exact h3
  · exact h4
  · exact h5
  · exact h0
  · exact h0
theorem in_J0 : ∀ w ∈ u_ws RJ0 TJ0 2, w ∈ lw_tbl := fun w hw => (List.mem_filter.mp (x_all (ws := u_ws RJ0 TJ0 2) [623, 625] (by decide +kernel) w hw)).1
theorem in_Jx : ∀ w ∈ u_ws RJx00060 TJx00060 6, w ∈ lw_tbl := fun w hw => (List.mem_filter.mp (x_all (ws := u_ws RJx00060 TJx00060 6) [611, 612, 613, 614, 615, 616] (by decide +kernel) w hw)).1
theorem n_K (hts : ∀ w ∈ lw_tbl, w.before args s = true) : ∃ D : va_G, va_K D vwCl [] s := by
  obtain ⟨c0, i0, k0⟩ := u_known (C := RJ0) (T := TJ0) (N := 2) (n := 4) hts in_J0 (n_wd hts 622 (by decide +kernel))
  obtain ⟨c1, i1, k1⟩ := u_known (C := RJx00060) (T := TJx00060) (N := 6) (n := 6) hts in_Jx (n_wd hts 607 (by decide +kernel))
  obtain ⟨c2, i2, k2⟩ := u_known (C := RX1) (T := TX1) (N := 8) (n := 8) hts (fun w hw => (List.mem_filter.mp (in_X1 w hw)).1) (n_wd hts 148 (by decide +kernel))
  obtain ⟨c3, i3, k3⟩ := u_known (C := RX2) (T := TX2) (N := 2) (n := 2) hts (fun w hw => (List.mem_filter.mp (in_X2 w hw)).1) (n_wd hts 336 (by decide +kernel))
  obtain ⟨c4, i4, k4⟩ := u_known (C := RX3) (T := TX3) (N := 6) (n := 6) hts (fun w hw => (List.mem_filter.mp (in_X3 w hw)).1) (n_wd hts 351 (by decide +kernel))
  obtain ⟨c5, i5, k5⟩ := u_known (C := RX4) (T := TX4) (N := 3) (n := 3) hts (fun w hw => (List.mem_filter.mp (in_X4 w hw)).1) (n_wd hts 247 (by decide +kernel))
  obtain ⟨c6, i6, k6⟩ := u_known (C := RX6) (T := TX6) (N := 8) (n := 8) hts (fun w hw => (List.mem_filter.mp (in_X6 w hw)).1) (n_wd hts 85 (by decide +kernel))
  obtain ⟨c7, i7, k7⟩ := u_known (C := RX7) (T := TX7) (N := 5) (n := 5) hts (fun w hw => (List.mem_filter.mp (in_X7 w hw)).1) (n_wd hts 295 (by decide +kernel))
  obtain ⟨c8, i8, k8⟩ := u_known (C := RX8) (T := TX8) (N := 9) (n := 9) hts (fun w hw => (List.mem_filter.mp (in_X8 w hw)).1) (n_wd hts 79 (by decide +kernel))
  obtain ⟨c9, i9, k9⟩ := u_known (C := RX9) (T := TX9) (N := 7) (n := 7) hts (fun w hw => (List.mem_filter.mp (in_X9 w hw)).1) (n_wd hts 267 (by decide +kernel))
  obtain ⟨c10, i10, k10⟩ := u_known (C := RX10) (T := TX10) (N := 1) (n := 1) hts (fun w hw => (List.mem_filter.mp (in_X10 w hw)).1) (n_wd hts 324 (by decide +kernel))
  obtain ⟨c11, i11, k11⟩ := u_known (C := RX11) (T := TX11) (N := 16) (n := 16) hts (fun w hw => (List.mem_filter.mp (in_X11 w hw)).1) (n_wd hts 71 (by decide +kernel))
  refine ⟨(fun k => if k = 0 then c0 else if k = 1 then c1 else if k = 2 then c2 else if k = 3 then c3 else if k = 4 then c4 else if k = 5 then c5 else if k = 6 then c6 else if k = 7 then c7 else if k = 8 then c8 else if k = 9 then c9 else if k = 10 then c10 else c11, fun k => if k = 0 then i0 else if k = 1 then i1 else if k = 2 then i2 else if k = 3 then i3 else if k = 4 then i4 else if k = 5 then i5 else if k = 6 then i6 else if k = 7 then i7 else if k = 8 then i8 else if k = 9 then i9 else if k = 10 then i10 else i11), fun k q hq => ?_, fun k q h => by simp at h⟩
  match k, hq with
  | 0, hq => cases hq; exact k0
  | 1, hq => cases hq; exact k1
  | 2, hq => cases hq; exact k2
  | 3, hq => cases hq; exact k3
  | 4, hq => cases hq; exact k4
  | 5, hq => cases hq; exact k5
  | 6, hq => cases hq; exact k6
  | 7, hq => cases hq; exact k7
  | 8, hq => cases hq; exact k8
  | 9, hq => cases hq; exact k9
  | 10, hq => cases hq; exact k10
  | 11, hq => cases hq; exact k11
  | k + 12, hq => simp [vwCl] at hq
end
