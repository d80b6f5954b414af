/-! ===== numbers ===== -/
theorem i_10 : ¬ nI 1 = 0 := by decide
theorem i_and (a b : Nat) : nI a &&& nI b = nI (a &&& b) := by
  apply Int32.toBitVec_inj.mp
  show BitVec.ofNat 32 a &&& BitVec.ofNat 32 b = BitVec.ofNat 32 (a &&& b)
  rw [BitVec.ofNat_and]
theorem i_or (a b : Nat) : nI a ||| nI b = nI (a ||| b) := by
  apply Int32.toBitVec_inj.mp
  show BitVec.ofNat 32 a ||| BitVec.ofNat 32 b = BitVec.ofNat 32 (a ||| b)
  rw [BitVec.ofNat_or]
theorem i_xor (a b : Nat) : nI a ^^^ nI b = nI (a ^^^ b) := by
  apply Int32.toBitVec_inj.mp
  show BitVec.ofNat 32 a ^^^ BitVec.ofNat 32 b = BitVec.ofNat 32 (a ^^^ b)
  rw [BitVec.ofNat_xor]
theorem i_cnt : ∀ n, n < 32 → ((nI n &&& 31).toBitVec.smod 32).toNat = n := by decide +kernel
theorem i_shl {a k : Nat} (hk : k < 32) (h : a * 2 ^ k < 4294967296) : nI a <<< (nI k &&& 31) = nI (a * 2 ^ k) := pk_shlN _ k (i_cnt k hk) h
theorem i_shl1 {k : Nat} (hk : k < 32) : nI 1 <<< (nI k &&& 31) = nI (2 ^ k) := by
  have h : 2 ^ k < 2 ^ 32 := Nat.pow_lt_pow_right (by omega) hk
  rw [i_shl hk (by omega), Nat.one_mul]
theorem i_shr {a k : Nat} (ha : a < 2147483648) (hk : k < 32) : nI a >>> (nI k &&& 31) = nI (a / 2 ^ k) := pk_shrN ha _ k (i_cnt k hk)
theorem i_bit {a k : Nat} (ha : a < 2147483648) (hk : k < 32) : (nI a >>> (nI k &&& 31)) &&& nI 1 = nI (if a.testBit k then 1 else 0) := by
  rw [i_shr ha hk, i_and, Nat.and_one_is_mod, Nat.testBit_eq_decide_div_mod_eq]
  congr 1
  have h := Nat.mod_two_eq_zero_or_one (a / 2 ^ k)
  rcases h with h | h <;> simp [h]
theorem i_bitb {a k : Nat} (ha : a < 2147483648) (hk : k < 32) : (nI a >>> (nI k &&& 31)) &&& nI 1 = bI (a.testBit k) := by
  rw [i_bit ha hk]
  cases a.testBit k <;> rfl
theorem bI_t {b : Bool} (h : ¬ bI b = 0) : b = true := by cases b with
  | true => rfl
  | false => exact absurd rfl h
theorem bI_f {b : Bool} (h : bI b = 0) : b = false := by cases b with
  | true => exact absurd h i_10
  | false => rfl
theorem i_sub {a b : Nat} (h : b ≤ a) : nI a - nI b = nI (a - b) := pk_sub h
theorem AW.ri {U : am_U} {G : am_G} {own : String} {cc : ByteArray} {nL kc ks pc : Nat} {V : am_V} {L : List (Option Value)} {rm : Room} {x y : Int32} {ty : FieldType} {V' : am_V} (h : y = x) (hV : V = V') (ok : am_ok xx U G own cc nL) (hr : (am_gt G).sig.returnType = some ty) (hn : narrow ty (.int x) = .int x) (hc : kc ≤ rm.cells) (hs : ks ≤ rm.slots) (hdg : decode cc pc = .ok (.ireturn, 1)) :
    AW xx U G nL kc ks V (am_End xx U G rm (am_is (.inl (some (.int y))) V')) pc L [.int x] := by
  subst h
  exact AW.iret ok ⟨rfl, hV⟩ hr hn hc hs hdg
theorem AW.top {U : am_U} {G : am_G} {nL kc ks pc : Nat} {V : am_V} {Q : State → Prop} {L : List (Option Value)} {st : List Value} {x y : Int32} (h : x = y) (k : AW xx U G nL kc ks V Q pc L (.int y :: st)) : AW xx U G nL kc ks V Q pc L (.int x :: st) := by
  subst h
  exact k
theorem AW.loc {U : am_U} {G : am_G} {nL kc ks pc : Nat} {V : am_V} {Q : State → Prop} {L L' : List (Option Value)} {st : List Value} (h : L = L') (k : AW xx U G nL kc ks V Q pc L' st) : AW xx U G nL kc ks V Q pc L st := by
  subst h
  exact k
