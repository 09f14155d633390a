/-! ===== sets of calls as bits ===== -/
theorem fa_and (a b : Nat) : nI a &&& nI b = nI (a &&& b) := by
  apply Int32.toBitVec_inj.1
  show BitVec.ofNat 32 a &&& BitVec.ofNat 32 b = BitVec.ofNat 32 (a &&& b)
  apply BitVec.eq_of_getLsbD_eq
  intro i hi
  simp [hi]
theorem fa_or (a b : Nat) : nI a ||| nI b = nI (a ||| b) := by
  apply Int32.toBitVec_inj.1
  show BitVec.ofNat 32 a ||| BitVec.ofNat 32 b = BitVec.ofNat 32 (a ||| b)
  apply BitVec.eq_of_getLsbD_eq
  intro i hi
  simp [hi]
theorem sh_31 {c : Nat} (h : c < 32) : nI c &&& 31 = nI c := by
  rw [pk_andN (n := c) (by omega) (m := 31) 5 (by decide), Nat.mod_eq_of_lt h]
theorem sh_k : ∀ c : Nat, c < 31 → ((nI c).toBitVec.smod 32).toNat = c := by decide
theorem one_shl {c : Nat} (h : c < 31) : (1 : Int32) <<< (nI c &&& 31) = nI (2 ^ c) := by
  rw [sh_31 (by omega)]
  have := pk_shlN (n := 1) (nI c) c (sh_k c h) (by rw [Nat.one_mul]; exact Nat.pow_lt_pow_right (by decide) (by omega))
  rw [Nat.one_mul] at this
  exact this
theorem bit_at {m c : Nat} (hm : m < 2 ^ 31) (h : c < 31) : (nI m >>> (nI c &&& 31)) &&& 1 = if m.testBit c then 1 else 0 := by
  rw [sh_31 (by omega), pk_shrN hm (nI c) c (sh_k c h), pk_andN (Nat.lt_of_le_of_lt (Nat.div_le_self _ _) (by omega)) (m := 1) 1 (by decide), Nat.testBit_eq_decide_div_mod_eq]
  rcases Nat.mod_two_eq_zero_or_one (m / 2 ^ c) with e | e
  · rw [show (2 : Nat) ^ 1 = 2 from rfl, e]
    rfl
  · rw [show (2 : Nat) ^ 1 = 2 from rfl, e]
    rfl
theorem holds_b {m c : Nat} (hm : m < 2 ^ 31) (h : c < 31) : j_X6_holds (nI m) (nI c) = some (if m.testBit c then 1 else 0) := by
  rw [holds_eq, bit_at hm h]
  cases m.testBit c <;> rfl
