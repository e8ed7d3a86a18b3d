/-! BITS OF A NUMBER -/
/-- bit i of a, as an int has it -/
def bt (a : Int) (i : Nat) : Bool := (BitVec.ofInt 32 a).getLsbD i
abbrev yR (a : Int) : Prop := -2147483648 ≤ a ∧ a < 2147483648
theorem bv_toInt (x : Int32) : BitVec.ofInt 32 x.toInt = x.toBitVec := by
  have h := Int32.ofInt_toInt x
  have := congrArg Int32.toBitVec h
  rwa [Int32.toBitVec_ofInt] at this
theorem bt_yand (a b : Int) (i : Nat) : bt (yand a b) i = (bt a i && bt b i) := by
  unfold bt yand
  rw [bv_toInt, Int32.toBitVec_and, BitVec.getLsbD_and, Int32.toBitVec_ofInt, Int32.toBitVec_ofInt]
theorem bt_yor (a b : Int) (i : Nat) : bt (yor a b) i = (bt a i || bt b i) := by
  unfold bt yor
  rw [bv_toInt, Int32.toBitVec_or, BitVec.getLsbD_or, Int32.toBitVec_ofInt, Int32.toBitVec_ofInt]
theorem bt_yxor (a b : Int) (i : Nat) : bt (yxor a b) i = (bt a i ^^ bt b i) := by
  unfold bt yxor
  rw [bv_toInt, Int32.toBitVec_xor, BitVec.getLsbD_xor, Int32.toBitVec_ofInt, Int32.toBitVec_ofInt]
theorem bt_big {a : Int} {i : Nat} (h : 32 ≤ i) : bt a i = false := by
  unfold bt
  exact BitVec.getLsbD_of_ge _ _ h
theorem bt_neg1 (i : Nat) : bt (-1) i = decide (i < 32) := by
  unfold bt
  rw [show BitVec.ofInt 32 (-1) = BitVec.allOnes 32 by decide, BitVec.getLsbD_allOnes]
theorem bt_not (a : Int) {i : Nat} (h : i < 32) : bt (yxor a (-1)) i = !bt a i := by
  rw [bt_yxor, bt_neg1]
  simp [h]
theorem bt_0 (i : Nat) : bt 0 i = false := by
  unfold bt
  simp
theorem bt_ext {a b : Int} (ha : yR a) (hb : yR b) (h : ∀ i, i < 32 → bt a i = bt b i) : a = b := by
  have e : BitVec.ofInt 32 a = BitVec.ofInt 32 b := BitVec.eq_of_getLsbD_eq h
  have h1 : Int32.ofInt a = Int32.ofInt b := by
    apply Int32.toBitVec_inj.mp
    rw [Int32.toBitVec_ofInt, Int32.toBitVec_ofInt, e]
  exact (yof_eq ha hb).mp h1
theorem bt_nat {a : Int} (h : 0 ≤ a) {i : Nat} (hi : i < 32) : bt a i = a.toNat.testBit i := by
  unfold bt
  rw [← BitVec.testBit_toNat, BitVec.toNat_ofInt]
  obtain ⟨n, rfl⟩ := Int.eq_ofNat_of_zero_le h
  have : (((n : Int) % ((2 ^ 32 : Nat) : Int))).toNat = n % 2 ^ 32 := by
    rw [← Int.natCast_emod, Int.toNat_natCast]
  rw [this, Nat.testBit_mod_two_pow, Int.toNat_natCast]
  simp [hi]
/-- what has no bits from n on is small -/
theorem bt_lt {a : Int} {n : Nat} (ha : yR a) (hn : n ≤ 31) (h : ∀ i, n ≤ i → i < 32 → bt a i = false) : 0 ≤ a ∧ a < (2 : Int) ^ n := by
  have e1 : (BitVec.ofInt 32 a).toNat < 2 ^ n := by
    apply Nat.lt_pow_two_of_testBit
    intro i hi
    by_cases h2 : i < 32
    · rw [BitVec.testBit_toNat]; exact h i hi h2
    · rw [BitVec.testBit_toNat]; exact BitVec.getLsbD_of_ge _ _ (by omega)
  have e3 : (2 : Nat) ^ n ≤ 2 ^ 31 := Nat.pow_le_pow_right (by omega) hn
  rw [BitVec.toNat_ofInt] at e1
  have e4 : ((2 : Nat) ^ n : Int) = (2 : Int) ^ n := by norm_cast
  have e5 : (a % ((2 ^ 32 : Nat) : Int)).toNat < 2 ^ 31 := by omega
  have e6 : 0 ≤ a := by
    by_cases q : 0 ≤ a
    · exact q
    · omega
  refine ⟨e6, ?_⟩
  have e7 : (a % ((2 ^ 32 : Nat) : Int)).toNat = a.toNat := by omega
  rw [e7] at e1
  have : (a.toNat : Int) < ((2 ^ n : Nat) : Int) := by exact_mod_cast e1
  rw [Int.toNat_of_nonneg e6] at this
  rw [← e4]
  exact_mod_cast this
theorem bt_of_lt {a : Int} {n i : Nat} (h : 0 ≤ a ∧ a < (2 : Int) ^ n) (hi : n ≤ i) : bt a i = false := by
  by_cases h2 : i < 32
  · rw [bt_nat h.1 h2]
    apply Nat.testBit_lt_two_pow
    have e3 : (2 : Nat) ^ n ≤ 2 ^ i := Nat.pow_le_pow_right (by omega) hi
    have : (a.toNat : Int) < ((2 ^ n : Nat) : Int) := by
      rw [Int.toNat_of_nonneg h.1]
      exact_mod_cast h.2
    have : a.toNat < 2 ^ n := by exact_mod_cast this
    omega
  · exact bt_big (by omega)
theorem ysh_n : ∀ n : Nat, n < 32 → ((Int32.ofInt (n : Int) &&& 31).toBitVec.smod 32) = BitVec.ofNat 32 n := by decide
theorem bt_yshl (a : Int) {n : Int} (hn : 0 ≤ n ∧ n < 32) (i : Nat) : bt (yshl a n) i = (decide (i < 32) && !decide (i < n.toNat) && bt a (i - n.toNat)) := by
  obtain ⟨m, rfl⟩ := Int.eq_ofNat_of_zero_le hn.1
  unfold bt yshl
  rw [bv_toInt, Int32.toBitVec_shiftLeft, ysh_n m (by omega), BitVec.shiftLeft_eq', BitVec.getLsbD_shiftLeft, Int32.toBitVec_ofInt]
  simp [Nat.mod_eq_of_lt (show m < 4294967296 by omega)]
theorem bt_yshr {a : Int} (ha : 0 ≤ a ∧ a < 2147483648) {n : Int} (hn : 0 ≤ n ∧ n < 32) (i : Nat) : bt (yshr a n) i = bt a (i + n.toNat) := by
  obtain ⟨m, rfl⟩ := Int.eq_ofNat_of_zero_le hn.1
  have hm : (BitVec.ofInt 32 a).msb = false := by
    rw [BitVec.msb_eq_getLsbD_last]
    show bt a 31 = false
    exact bt_of_lt (n := 31) ⟨ha.1, by have : (2 : Int) ^ 31 = 2147483648 := by decide
                                       omega⟩ (by omega)
  unfold bt yshr
  rw [bv_toInt, Int32.toBitVec_shiftRight, ysh_n m (by omega), BitVec.sshiftRight_eq', BitVec.getLsbD_sshiftRight, Int32.toBitVec_ofInt, hm]
  simp only [BitVec.toNat_ofNat, Int.toNat_natCast, Nat.reducePow, Nat.mod_eq_of_lt (show m < 4294967296 by omega)]
  have hb : ¬ i + m < 32 → (BitVec.ofInt 32 a).getLsbD (i + m) = false := fun h => BitVec.getLsbD_of_ge _ _ (by omega)
  by_cases h : 32 ≤ i
  · rw [hb (by omega)]; simp [h]
  · by_cases h2 : m + i < 32
    · simp [h, h2, Nat.add_comm i m]
    · rw [hb (by omega)]; simp [h2]
/-- one bit -/
theorem bt_1 (i : Nat) : bt 1 i = decide (i = 0) := by
  unfold bt
  rw [show BitVec.ofInt 32 1 = BitVec.twoPow 32 0 by decide, BitVec.getLsbD_twoPow]
  by_cases h : i = 0
  · subst h; rfl
  · simp [h]; omega
theorem bt_bit {n : Int} (hn : 0 ≤ n ∧ n < 32) (i : Nat) : bt (yshl 1 n) i = decide (i = n.toNat) := by
  rw [bt_yshl 1 hn, bt_1]
  by_cases h : i = n.toNat
  · subst h; simp; omega
  · simp only [h, decide_false, Bool.and_eq_false_imp, Bool.and_eq_true, decide_eq_true_eq, Bool.not_eq_true', decide_eq_false_iff_not]
    intro h1; omega
/-- the test of a bit -/
theorem yand_1 (a : Int) : yand a 1 = if bt a 0 then 1 else 0 := by
  apply bt_ext (rng_yand _ _) (by split <;> omega)
  intro i hi
  rw [bt_yand, bt_1]
  by_cases h : i = 0
  · subst h
    cases hb : bt a 0 <;> simp [bt_1, bt_0]
  · cases hb : bt a 0 <;> simp [h, bt_1, bt_0]
theorem ytest {a : Int} (ha : 0 ≤ a ∧ a < 2147483648) {n : Int} (hn : 0 ≤ n ∧ n < 32) : yand (yshr a n) 1 = if bt a n.toNat then 1 else 0 := by
  rw [yand_1, bt_yshr ha hn, Nat.zero_add]
