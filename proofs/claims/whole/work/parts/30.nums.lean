/-! the machine's operations at natural numbers -/
theorem oN (n : Nat) : (Int32.ofInt (n : Int)).toBitVec = BitVec.ofNat 32 n := by
  show BitVec.ofInt 32 (n : Int) = _
  exact BitVec.ofInt_natCast 32 n
theorem toInt_small {x : Int32} {n : Nat} (h : x.toBitVec.toNat = n) (hn : n < 2147483648) : x.toInt = (n : Int) := by
  show x.toBitVec.toInt = _
  rw [BitVec.toInt_eq_toNat_of_lt (by omega), h]
theorem jand {a b : Nat} (ha : a < 2147483648) (hb : b < 2147483648) : j_iand a b = ((a &&& b : Nat) : Int) := by
  unfold j_iand
  refine toInt_small ?_ (Nat.lt_of_le_of_lt Nat.and_le_left ha)
  rw [Int32.toBitVec_and, oN, oN, BitVec.toNat_and, BitVec.toNat_ofNat, BitVec.toNat_ofNat, Nat.mod_eq_of_lt (by omega), Nat.mod_eq_of_lt (by omega)]
theorem jor {a b : Nat} (ha : a < 2147483648) (hb : b < 2147483648) : j_ior a b = ((a ||| b : Nat) : Int) := by
  unfold j_ior
  refine toInt_small ?_ (Nat.or_lt_two_pow (n := 31) ha hb)
  rw [Int32.toBitVec_or, oN, oN, BitVec.toNat_or, BitVec.toNat_ofNat, BitVec.toNat_ofNat, Nat.mod_eq_of_lt (by omega), Nat.mod_eq_of_lt (by omega)]
theorem jxor {a b : Nat} (ha : a < 2147483648) (hb : b < 2147483648) : j_ixor a b = ((a ^^^ b : Nat) : Int) := by
  unfold j_ixor
  refine toInt_small ?_ (Nat.xor_lt_two_pow (n := 31) ha hb)
  rw [Int32.toBitVec_xor, oN, oN, BitVec.toNat_xor, BitVec.toNat_ofNat, BitVec.toNat_ofNat, Nat.mod_eq_of_lt (by omega), Nat.mod_eq_of_lt (by omega)]
theorem sh31 : ∀ k : Nat, k < 32 → ((Int32.ofInt (k : Int) &&& 31).toBitVec.smod 32).toNat = k := by decide +kernel
theorem jshl {a k : Nat} (hk : k < 32) (h : a * 2 ^ k < 2147483648) : j_ishl a k = ((a * 2 ^ k : Nat) : Int) := by
  unfold j_ishl
  refine toInt_small ?_ h
  show (BitVec.toNat (Int32.toBitVec (Int32.ofInt a) <<< ((Int32.ofInt (k : Int) &&& 31).toBitVec.smod 32))) = _
  rw [BitVec.shiftLeft_eq', BitVec.toNat_shiftLeft, sh31 k hk, oN, BitVec.toNat_ofNat, Nat.shiftLeft_eq]
  have h1 : a ≤ a * 2 ^ k := Nat.le_mul_of_pos_right _ (Nat.two_pow_pos k)
  rw [Nat.mod_eq_of_lt (a := a) (by omega), Nat.mod_eq_of_lt (by omega)]
theorem jshr {a k : Nat} (hk : k < 32) (h : a < 2147483648) : j_ishr a k = ((a / 2 ^ k : Nat) : Int) := by
  unfold j_ishr
  have h2 : a / 2 ^ k ≤ a := Nat.div_le_self _ _
  refine toInt_small ?_ (by omega)
  show (BitVec.toNat (BitVec.sshiftRight (Int32.toBitVec (Int32.ofInt a)) ((Int32.ofInt (k : Int) &&& 31).toBitVec.smod 32).toNat)) = _
  rw [sh31 k hk, oN]
  have hm : (BitVec.ofNat 32 a).msb = false := by
    rw [BitVec.msb_eq_false_iff_two_mul_lt, BitVec.toNat_ofNat, Nat.mod_eq_of_lt (by omega)]
    omega
  rw [BitVec.sshiftRight_eq_of_msb_false hm, BitVec.toNat_ushiftRight, BitVec.toNat_ofNat, Nat.shiftRight_eq_div_pow, Nat.mod_eq_of_lt (by omega)]
theorem jbit {a k : Nat} (hk : k < 32) (h : a < 2147483648) : j_iand (j_ishr a k) 1 = if a.testBit k then 1 else 0 := by
  rw [jshr hk h]
  have h2 : a / 2 ^ k ≤ a := Nat.div_le_self _ _
  have e1 : j_iand ((a / 2 ^ k : Nat) : Int) 1 = (((a / 2 ^ k) &&& 1 : Nat) : Int) := jand (b := 1) (by omega) (by omega)
  rw [e1, Nat.and_one_is_mod, Nat.testBit_eq_decide_div_mod_eq]
  have h3 : a / 2 ^ k % 2 < 2 := Nat.mod_lt _ (by decide)
  by_cases h4 : a / 2 ^ k % 2 = 1
  · rw [h4, if_pos (by simp)]; rfl
  · have h5 : a / 2 ^ k % 2 = 0 := by omega
    rw [h5, if_neg (by simp)]; rfl
theorem jshl1 {k : Nat} (hk : k < 31) : j_ishl 1 k = ((2 ^ k : Nat) : Int) := by
  have h : 1 * 2 ^ k < 2147483648 := by
    have : 2 ^ k < 2 ^ 31 := Nat.pow_lt_pow_right (by decide) hk
    omega
  have := jshl (a := 1) (k := k) (by omega) h
  rw [Nat.one_mul] at this
  exact this
theorem jdiv {a b : Nat} (ha : a < 2147483648) (hb : b < 2147483648) : j_idiv a b = ((a / b : Nat) : Int) := by
  unfold j_idiv
  have h1 : rg (a : Int) := ⟨by omega, by omega⟩
  have h2 : rg (b : Int) := ⟨by omega, by omega⟩
  rw [Int32.toInt_div, o32 h1, o32 h2]
  have h3 : a / b ≤ a := Nat.div_le_self _ _
  have e1 : (a : Int) / (b : Int) = ((a / b : Nat) : Int) := (Int.natCast_ediv a b).symm
  rw [Int.tdiv_eq_ediv_of_nonneg (by omega), e1]
  generalize a / b = q at h3
  exact Int.bmod_eq_of_le (by omega) (by omega)
theorem jrem {a b : Nat} (ha : a < 2147483648) (hb : b < 2147483648) : j_irem a b = ((a % b : Nat) : Int) := by
  have h0 := jdiv ha hb
  unfold j_idiv at h0
  unfold j_irem
  have e1 : Int32.ofInt (a : Int) / Int32.ofInt (b : Int) = Int32.ofInt ((a / b : Nat) : Int) := by
    rw [← h0, Int32.ofInt_toInt]
  rw [e1, ← Int32.ofInt_mul, ← Int32.ofInt_sub]
  have h3 : a % b ≤ a := Nat.mod_le _ _
  have h4 : (a : Int) - ((a / b : Nat) : Int) * (b : Int) = ((a % b : Nat) : Int) := by
    have := Nat.div_add_mod a b
    have h5 : ((b * (a / b) + a % b : Nat) : Int) = (a : Int) := by rw [this]
    rw [Int.natCast_add, Int.natCast_mul] at h5
    rw [Int.mul_comm]
    omega
  rw [h4]
  exact o32 ⟨by omega, by omega⟩
