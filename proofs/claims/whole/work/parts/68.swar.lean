/-! the number of ones of a long -/
theorem bvI {L : BitVec 64} {n : Nat} (h : L.toNat = n) (hn : n < 9223372036854775808) : L.toInt = (n : Int) := by
  rw [BitVec.toInt_eq_toNat_of_lt (by omega), h]
theorem bvN {a : Nat} (h : a < 9223372036854775808) : ((a : Nat) : Int) = (BitVec.ofNat 64 a).toInt := by
  refine (bvI ?_ h).symm
  rw [BitVec.toNat_ofNat, Nat.mod_eq_of_lt (by omega)]
theorem ofN {a : Nat} (h : a < 9223372036854775808) : (BitVec.ofNat 64 a).toNat = a := by
  rw [BitVec.toNat_ofNat, Nat.mod_eq_of_lt (by omega)]
theorem landN {a b : Nat} (ha : a < 9223372036854775808) (hb : b < 9223372036854775808) : j_land a b = ((a &&& b : Nat) : Int) := by
  rw [bvN ha, bvN hb, jland]
  refine bvI ?_ (Nat.lt_of_le_of_lt Nat.and_le_left ha)
  rw [BitVec.toNat_and, ofN ha, ofN hb]
theorem lorN {a b : Nat} (ha : a < 9223372036854775808) (hb : b < 9223372036854775808) : j_lor a b = ((a ||| b : Nat) : Int) := by
  rw [bvN ha, bvN hb, jlor]
  refine bvI ?_ (Nat.or_lt_two_pow (n := 63) ha hb)
  rw [BitVec.toNat_or, ofN ha, ofN hb]
theorem lushrN {a k : Nat} (ha : a < 9223372036854775808) (hk : k < 64) : j_lushr a k = ((a / 2 ^ k : Nat) : Int) := by
  rw [bvN ha, jlushr hk]
  refine bvI ?_ (Nat.lt_of_le_of_lt (Nat.div_le_self _ _) ha)
  rw [BitVec.toNat_ushiftRight, ofN ha, Nat.shiftRight_eq_div_pow]
theorem laddN {a b : Nat} (h : a + b < 9223372036854775808) : j_ladd a b = ((a + b : Nat) : Int) := by
  unfold j_ladd
  rw [bvN (a := a) (by omega), bvN (a := b) (by omega)]
  show (Int64.ofInt (BitVec.ofNat 64 a).toInt + Int64.ofInt (BitVec.ofNat 64 b).toInt).toBitVec.toInt = _
  rw [Int64.toBitVec_add, ob64, ob64]
  refine bvI ?_ h
  rw [BitVec.toNat_add, ofN (by omega), ofN (by omega), Nat.mod_eq_of_lt (by omega)]
theorem lsubN {a b : Nat} (ha : a < 9223372036854775808) (h : b ≤ a) : j_lsub a b = ((a - b : Nat) : Int) := by
  unfold j_lsub
  rw [bvN (a := a) ha, bvN (a := b) (by omega)]
  show (Int64.ofInt (BitVec.ofNat 64 a).toInt - Int64.ofInt (BitVec.ofNat 64 b).toInt).toBitVec.toInt = _
  rw [Int64.toBitVec_sub, ob64, ob64]
  refine bvI ?_ (by omega)
  rw [BitVec.toNat_sub, ofN ha, ofN (by omega), show 2 ^ 64 - b + a = (a - b) + 2 ^ 64 by omega, Nat.add_mod_right, Nat.mod_eq_of_lt (by omega)]
theorem lmulN {a b : Nat} (ha : a < 9223372036854775808) (hb : b < 9223372036854775808) (h : a * b < 9223372036854775808) : j_lmul a b = ((a * b : Nat) : Int) := by
  unfold j_lmul
  rw [bvN (a := a) ha, bvN (a := b) hb]
  show (Int64.ofInt (BitVec.ofNat 64 a).toInt * Int64.ofInt (BitVec.ofNat 64 b).toInt).toBitVec.toInt = _
  rw [Int64.toBitVec_mul, ob64, ob64]
  refine bvI ?_ h
  rw [BitVec.toNat_mul, ofN ha, ofN hb, Nat.mod_eq_of_lt (by omega)]
theorem l2i127 {a : Nat} (ha : a < 9223372036854775808) : j_iand (j_l2i a) 127 = ((a % 128 : Nat) : Int) := by
  unfold j_iand j_l2i
  have e1 : (Int64.ofInt (a : Int)).toBitVec = BitVec.ofNat 64 a := by
    rw [bvN ha, ob64]
  have e2 : (Int32.ofInt ((Int64.ofInt (a : Int)).toInt32.toInt)).toBitVec = (BitVec.ofNat 64 a).setWidth 32 := by
    rw [Int32.ofInt_toInt]
    show (Int64.ofInt (a : Int)).toBitVec.signExtend 32 = _
    rw [e1, BitVec.signExtend_eq_setWidth_of_le _ (by decide)]
  refine toInt_small ?_ (by have := Nat.mod_lt a (show 128 > 0 by decide); omega)
  rw [Int32.toBitVec_and, e2, BitVec.toNat_and]
  rw [show (Int32.ofInt 127).toBitVec.toNat = 2 ^ 7 - 1 by decide, Nat.and_two_pow_sub_one_eq_mod, BitVec.toNat_setWidth, ofN ha]
  rw [show (2 : Nat) ^ 7 = 128 from rfl, show (2 : Nat) ^ 32 = 4294967296 from rfl]
  omega
theorem and256 {a b c d : Nat} (hb : b < 256) (hd : d < 256) : (256 * a + b) &&& (256 * c + d) = 256 * (a &&& c) + (b &&& d) := by
  apply Nat.eq_of_testBit_eq
  intro j
  have e1 : (256 * a + b).testBit j = if j < 8 then b.testBit j else a.testBit (j - 8) := Nat.testBit_two_pow_mul_add a (b := b) (i := 8) hb j
  have e2 : (256 * c + d).testBit j = if j < 8 then d.testBit j else c.testBit (j - 8) := Nat.testBit_two_pow_mul_add c (b := d) (i := 8) hd j
  have e3 : (256 * (a &&& c) + (b &&& d)).testBit j = if j < 8 then (b &&& d).testBit j else (a &&& c).testBit (j - 8) := Nat.testBit_two_pow_mul_add (a &&& c) (b := b &&& d) (i := 8) (Nat.lt_of_le_of_lt Nat.and_le_left hb) j
  rw [Nat.testBit_and, e1, e2, e3]
  by_cases q : j < 8
  · rw [if_pos q, if_pos q, if_pos q, Nat.testBit_and]
  · rw [if_neg q, if_neg q, if_neg q, Nat.testBit_and]
def mkN (b : Nat) : Nat → Nat
  | 0 => 0
  | n + 1 => 256 * mkN b n + b
def w1 (n x : Nat) : Nat := x - ((x / 2) &&& mkN 85 n)
def w2 (n y : Nat) : Nat := (y &&& mkN 51 n) + ((y / 4) &&& mkN 51 n)
def w3 (n z : Nat) : Nat := (z + z / 16) &&& mkN 15 n
def v1 (l : Nat) : Nat := l - ((l / 2) &&& 85)
def v2 (l : Nat) : Nat := (l &&& 51) + ((l / 4) &&& 51)
def v3 (l : Nat) : Nat := (l + l / 16) % 16
theorem tb1 : ∀ l : Nat, l < 256 → ∀ m : Nat, m < 2 → (128 * m + l / 2) &&& 85 = (l / 2) &&& 85 := by decide +kernel
theorem tb2 : ∀ l : Nat, l < 256 → ∀ m : Nat, m < 4 → (64 * m + l / 4) &&& 51 = (l / 4) &&& 51 := by decide +kernel
theorem tb3 : ∀ l : Nat, l < 256 → ((l / 2) &&& 85) ≤ l ∧ v1 l < 256 ∧ v2 (v1 l) ≤ 68 ∧ v2 (v1 l) % 16 ≤ 4 ∧ v3 (v2 (v1 l)) = pop l 8 := by decide +kernel
theorem w1_s {n h l : Nat} (hl : l < 256) : w1 (n + 1) (256 * h + l) = 256 * w1 n h + v1 l := by
  unfold w1 v1
  have hm : h % 2 < 2 := Nat.mod_lt _ (by decide)
  show 256 * h + l - ((256 * h + l) / 2 &&& (256 * mkN 85 n + 85)) = _
  rw [show (256 * h + l) / 2 = 256 * (h / 2) + (128 * (h % 2) + l / 2) by omega, and256 (by omega) (by omega), tb1 l hl (h % 2) hm]
  have a1 : (h / 2 &&& mkN 85 n) ≤ h / 2 := Nat.and_le_left
  have a2 := (tb3 l hl).1
  omega
theorem w2_s {n h l : Nat} (hl : l < 256) : w2 (n + 1) (256 * h + l) = 256 * w2 n h + v2 l := by
  unfold w2 v2
  have hm : h % 4 < 4 := Nat.mod_lt _ (by decide)
  show ((256 * h + l) &&& (256 * mkN 51 n + 51)) + ((256 * h + l) / 4 &&& (256 * mkN 51 n + 51)) = _
  rw [show (256 * h + l) / 4 = 256 * (h / 4) + (64 * (h % 4) + l / 4) by omega, and256 hl (by omega), and256 (by omega) (by omega), tb2 l hl (h % 4) hm]
  omega
theorem w3_s {n h l : Nat} (hl : l ≤ 68) (hh : h % 16 ≤ 4) : w3 (n + 1) (256 * h + l) = 256 * w3 n h + v3 l := by
  unfold w3 v3
  show ((256 * h + l) + (256 * h + l) / 16) &&& (256 * mkN 15 n + 15) = _
  rw [show (256 * h + l) + (256 * h + l) / 16 = 256 * (h + h / 16) + (l + l / 16 + 16 * (h % 16)) by omega, and256 (by omega) (by omega)]
  have e : ∀ x : Nat, x &&& 15 = x % 16 := fun x => Nat.and_two_pow_sub_one_eq_mod x 4
  rw [e]
  omega
theorem w21_low : ∀ (n x : Nat), x < 256 ^ n → w2 n (w1 n x) % 16 ≤ 4
  | 0, x, hx => by
    have e : x = 0 := by rw [Nat.pow_zero] at hx; omega
    subst e
    decide
  | n + 1, x, hx => by
    have hl : x % 256 < 256 := Nat.mod_lt _ (by decide)
    rw [show x = 256 * (x / 256) + x % 256 by omega, w1_s hl, w2_s (tb3 _ hl).2.1]
    have := (tb3 _ hl).2.2.2.1
    omega
def pvN : Nat → Nat → Nat
  | 0, _ => 0
  | n + 1, x => 256 * pvN n (x / 256) + pop (x % 256) 8
theorem w_all : ∀ (n x : Nat), x < 256 ^ n → w3 n (w2 n (w1 n x)) = pvN n x
  | 0, x, hx => by
    have e : x = 0 := by rw [Nat.pow_zero] at hx; omega
    subst e
    decide
  | n + 1, x, hx => by
    have hl : x % 256 < 256 := Nat.mod_lt _ (by decide)
    have hh : x / 256 < 256 ^ n := by rw [Nat.pow_succ] at hx; omega
    have t := tb3 _ hl
    show _ = 256 * pvN n (x / 256) + pop (x % 256) 8
    rw [← w_all n (x / 256) hh, ← t.2.2.2.2]
    have e : w1 (n + 1) x = 256 * w1 n (x / 256) + v1 (x % 256) := by
      have := w1_s (n := n) (h := x / 256) hl
      rw [show 256 * (x / 256) + x % 256 = x by omega] at this
      exact this
    rw [e, w2_s t.2.1, w3_s t.2.2.1 (w21_low n (x / 256) hh)]
theorem pop_add {x : Nat} : ∀ n : Nat, pop x (8 + n) = pop (x % 256) 8 + pop (x / 256) n
  | 0 => by
    show pop x 8 = pop (x % 256) 8 + 0
    have b : ∀ i : Nat, i < 8 → (x % 256).testBit i = x.testBit i := fun i hi => by
      have := Nat.testBit_mod_two_pow x 8 i
      rw [show (2 : Nat) ^ 8 = 256 from rfl] at this
      rw [this, decide_eq_true hi, Bool.true_and]
    have key : ∀ m : Nat, m ≤ 8 → pop x m = pop (x % 256) m := by
      intro m
      induction m with
      | zero => intro _; rfl
      | succ m ih =>
        intro hm
        show pop x m + _ = pop (x % 256) m + _
        rw [ih (by omega), b m (by omega)]
    rw [key 8 (Nat.le_refl _)]
    omega
  | n + 1 => by
    have ih := pop_add (x := x) n
    show pop x (8 + n) + (if x.testBit (8 + n) then 1 else 0) = pop (x % 256) 8 + (pop (x / 256) n + (if (x / 256).testBit n then 1 else 0))
    have : (x / 256).testBit n = x.testBit (8 + n) := by
      have := Nat.testBit_div_two_pow x (i := n) (n := 8)
      rw [show (2 : Nat) ^ 8 = 256 from rfl, show n + 8 = 8 + n by omega] at this
      exact this
    rw [this, ih]
    omega
theorem pop_hi {x m : Nat} (hx : x < 2 ^ m) : ∀ d : Nat, pop x (m + d) = pop x m
  | 0 => rfl
  | d + 1 => by
    show pop x (m + d) + (if x.testBit (m + d) then 1 else 0) = _
    rw [hi_bit hx (by omega), pop_hi hx d]
    rfl
theorem m85 : mkN 85 8 = 6148914691236517205 := by decide
theorem m51 : mkN 51 8 = 3689348814741910323 := by decide
theorem m15 : mkN 15 8 = 1085102592571150095 := by decide
theorem fin8 {p0 p1 p2 p3 p4 p5 p6 p7 y : Nat} (h0 : p0 ≤ 8) (h1 : p1 ≤ 8) (h2 : p2 ≤ 8) (h3 : p3 ≤ 8) (h4 : p4 ≤ 8) (h5 : p5 ≤ 8) (h6 : p6 ≤ 8) (h7 : p7 ≤ 8) (hy : y = p0 + 256 * (p1 + 256 * (p2 + 256 * (p3 + 256 * (p4 + 256 * (p5 + 256 * (p6 + 256 * p7))))))) : ∃ u v t : Nat, u = y + y / 256 ∧ v = u + u / 65536 ∧ t = v + v / 4294967296 ∧ t % 128 = p0 + p1 + p2 + p3 + p4 + p5 + p6 + p7 ∧ t < 9223372036854775808 := by
  obtain ⟨y6, e6⟩ : ∃ z, z = p6 + 256 * p7 := ⟨_, rfl⟩
  rw [← e6] at hy
  obtain ⟨y5, e5⟩ : ∃ z, z = p5 + 256 * y6 := ⟨_, rfl⟩
  rw [← e5] at hy
  obtain ⟨y4, e4⟩ : ∃ z, z = p4 + 256 * y5 := ⟨_, rfl⟩
  rw [← e4] at hy
  obtain ⟨y3, e3⟩ : ∃ z, z = p3 + 256 * y4 := ⟨_, rfl⟩
  rw [← e3] at hy
  obtain ⟨y2, e2⟩ : ∃ z, z = p2 + 256 * y3 := ⟨_, rfl⟩
  rw [← e2] at hy
  obtain ⟨y1, e1⟩ : ∃ z, z = p1 + 256 * y2 := ⟨_, rfl⟩
  rw [← e1] at hy
  have d0 : y / 256 = y1 := by omega
  have u2 : ∃ z, z = y2 + y3 := ⟨_, rfl⟩
  obtain ⟨u2, f2⟩ := u2
  have du : (y + y1) / 65536 = u2 := by
    have a : y + y1 = (p0 + p1) + 256 * (y1 + y2) := by omega
    have b : y1 + y2 = (p1 + p2) + 256 * u2 := by omega
    clear e1 e2 e3 e4 e5 e6 hy d0
    omega
  have dv : (y + y1 + u2) / 4294967296 = y4 + y5 + (y6 + p7) := by
    have a0 : y + y1 + u2 = (p0 + p1 + p2 + p3) + 256 * (y1 + y2 + (y3 + y4)) := by omega
    have a1 : y1 + y2 + (y3 + y4) = (p1 + p2 + p3 + p4) + 256 * (y2 + y3 + (y4 + y5)) := by omega
    have a2 : y2 + y3 + (y4 + y5) = (p2 + p3 + p4 + p5) + 256 * (y3 + y4 + (y5 + y6)) := by omega
    have a3 : y3 + y4 + (y5 + y6) = (p3 + p4 + p5 + p6) + 256 * (y4 + y5 + (y6 + p7)) := by omega
    clear e1 e2 e3 e4 e5 e6 hy d0 du f2
    generalize y + y1 + u2 = A0 at a0 ⊢
    generalize y1 + y2 + (y3 + y4) = A1 at a0 a1
    generalize y2 + y3 + (y4 + y5) = A2 at a1 a2
    generalize y3 + y4 + (y5 + y6) = A3 at a2 a3
    generalize y4 + y5 + (y6 + p7) = A4 at a3 ⊢
    omega
  refine ⟨y + y1, y + y1 + u2, y + y1 + u2 + (y4 + y5 + (y6 + p7)), by omega, by omega, by omega, ?_, ?_⟩
  · have b : y + y1 + u2 + (y4 + y5 + (y6 + p7)) = (p0 + p1 + p2 + p3 + p4 + p5 + p6 + p7) + 256 * (y1 + y2 + (y3 + y4) + (y5 + y6 + p7)) := by omega
    rw [b]
    clear e1 e2 e3 e4 e5 e6 hy d0 du f2 dv b
    omega
  · have b6 : y6 ≤ 2056 := by omega
    have b5 : y5 ≤ 526344 := by omega
    have b4 : y4 ≤ 134744072 := by omega
    have b3 : y3 ≤ 34494482440 := by omega
    have b2 : y2 ≤ 8830587504648 := by omega
    have b1 : y1 ≤ 2260630401189896 := by omega
    have b0 : y ≤ 578721382704613384 := by omega
    clear e1 e2 e3 e4 e5 e6 hy d0 du dv
    omega
theorem bcN {x : Nat} (hx : x < 1099511627776) : bcL x = ((pop x 40 : Nat) : Int) := by
  have h63 : x < 9223372036854775808 := by omega
  have x8 : x < 256 ^ 8 := by
    rw [show (256 : Nat) ^ 8 = 18446744073709551616 from rfl]; omega
  -- the first three steps
  have a0 : (x / 2 &&& mkN 85 8) ≤ x / 2 := Nat.and_le_left
  have s1 : bc1 x = ((w1 8 x : Nat) : Int) := by
    unfold bc1 w1
    have t1 : j_lushr x 1 = ((x / 2 ^ 1 : Nat) : Int) := lushrN (k := 1) h63 (by omega)
    rw [t1, show (2 : Nat) ^ 1 = 2 from rfl]
    have t2 : j_land ((x / 2 : Nat) : Int) 6148914691236517205 = ((x / 2 &&& 6148914691236517205 : Nat) : Int) := landN (b := 6148914691236517205) (by omega) (by omega)
    rw [t2, ← m85, lsubN h63 (by omega)]
  have hw1 : w1 8 x < 1099511627776 := by unfold w1; omega
  have s2 : bc2 ((w1 8 x : Nat) : Int) = ((w2 8 (w1 8 x) : Nat) : Int) := by
    generalize w1 8 x = y at hw1
    unfold bc2 w2
    have t1 : j_lushr y 2 = ((y / 2 ^ 2 : Nat) : Int) := lushrN (k := 2) (by omega) (by omega)
    rw [t1, show (2 : Nat) ^ 2 = 4 from rfl]
    have t2 : j_land ((y / 4 : Nat) : Int) 3689348814741910323 = ((y / 4 &&& 3689348814741910323 : Nat) : Int) := landN (b := 3689348814741910323) (by omega) (by omega)
    have t3 : j_land ((y : Nat) : Int) 3689348814741910323 = ((y &&& 3689348814741910323 : Nat) : Int) := landN (b := 3689348814741910323) (by omega) (by omega)
    have b1 : (y &&& 3689348814741910323) ≤ y := Nat.and_le_left
    have b2 : (y / 4 &&& 3689348814741910323) ≤ y / 4 := Nat.and_le_left
    rw [t2, t3, m51, laddN (by omega)]
  have hw2 : w2 8 (w1 8 x) < 2199023255552 := by
    generalize w1 8 x = y at hw1
    unfold w2
    have b1 : (y &&& mkN 51 8) ≤ y := Nat.and_le_left
    have b2 : (y / 4 &&& mkN 51 8) ≤ y / 4 := Nat.and_le_left
    omega
  have s3 : bc3 ((w2 8 (w1 8 x) : Nat) : Int) = ((pvN 8 x : Nat) : Int) := by
    rw [← w_all 8 x x8]
    generalize w2 8 (w1 8 x) = z at hw2
    unfold bc3 w3
    have t1 : j_lushr z 4 = ((z / 2 ^ 4 : Nat) : Int) := lushrN (k := 4) (by omega) (by omega)
    rw [t1, show (2 : Nat) ^ 4 = 16 from rfl, laddN (by omega), m15]
    exact landN (b := 1085102592571150095) (by omega) (by omega)
  have pl : ∀ y : Nat, pop y 8 ≤ 8 := fun y => pop_le 8
  obtain ⟨u, v, t, eu, ev, et, e128, lt⟩ := fin8 (y := pvN 8 x) (pl (x % 256)) (pl (x / 256 % 256)) (pl (x / 256 / 256 % 256)) (pl (x / 256 / 256 / 256 % 256)) (pl (x / 256 / 256 / 256 / 256 % 256)) (pl (x / 256 / 256 / 256 / 256 / 256 % 256)) (pl (x / 256 / 256 / 256 / 256 / 256 / 256 % 256)) (pl (x / 256 / 256 / 256 / 256 / 256 / 256 / 256 % 256)) (by
    show 256 * (256 * (256 * (256 * (256 * (256 * (256 * (256 * 0 + _) + _) + _) + _) + _) + _) + _) + _ = _
    omega)
  have s4 : bc4 ((pvN 8 x : Nat) : Int) = (u : Nat) := by
    unfold bc4
    have t1 : j_lushr (pvN 8 x : Nat) 8 = ((pvN 8 x / 2 ^ 8 : Nat) : Int) := lushrN (k := 8) (by omega) (by omega)
    rw [t1, show (2 : Nat) ^ 8 = 256 from rfl, laddN (by omega), eu]
  have s5 : bc5 (u : Nat) = (v : Nat) := by
    unfold bc5
    have t1 : j_lushr (u : Nat) 16 = ((u / 2 ^ 16 : Nat) : Int) := lushrN (k := 16) (by omega) (by omega)
    rw [t1, show (2 : Nat) ^ 16 = 65536 from rfl, laddN (by omega), ev]
  have s6 : bc6 (v : Nat) = (t : Nat) := by
    unfold bc6
    have t1 : j_lushr (v : Nat) 32 = ((v / 2 ^ 32 : Nat) : Int) := lushrN (k := 32) (by omega) (by omega)
    rw [t1, show (2 : Nat) ^ 32 = 4294967296 from rfl, laddN (by omega), et]
  unfold bcL
  rw [s1, s2, s3, s4, s5, s6, l2i127 lt, e128]
  have p8 : pop x 64 = pop x 40 := pop_hi (m := 40) (by rw [show (2 : Nat) ^ 40 = 1099511627776 from rfl]; omega) 24
  rw [← p8]
  have q0 : pop x (8 + 56) = _ := pop_add 56
  have q1 : pop (x / 256) (8 + 48) = _ := pop_add 48
  have q2 : pop (x / 256 / 256) (8 + 40) = _ := pop_add 40
  have q3 : pop (x / 256 / 256 / 256) (8 + 32) = _ := pop_add 32
  have q4 : pop (x / 256 / 256 / 256 / 256) (8 + 24) = _ := pop_add 24
  have q5 : pop (x / 256 / 256 / 256 / 256 / 256) (8 + 16) = _ := pop_add 16
  have q6 : pop (x / 256 / 256 / 256 / 256 / 256 / 256) (8 + 8) = _ := pop_add 8
  have q7 : pop (x / 256 / 256 / 256 / 256 / 256 / 256 / 256) (8 + 0) = _ := pop_add 0
  have z7 : pop (x / 256 / 256 / 256 / 256 / 256 / 256 / 256 / 256) 0 = 0 := rfl
  rw [show 8 + 56 = 64 from rfl] at q0
  rw [show 8 + 48 = 56 from rfl] at q1
  rw [show 8 + 40 = 48 from rfl] at q2
  rw [show 8 + 32 = 40 from rfl] at q3
  rw [show 8 + 24 = 32 from rfl] at q4
  rw [show 8 + 16 = 24 from rfl] at q5
  rw [show 8 + 8 = 16 from rfl] at q6
  rw [show 8 + 0 = 8 from rfl] at q7
  rw [q0, q1, q2, q3, q4, q5, q6, q7, z7]
  omega
theorem c_bcN {h : Hp} {x : Nat} {Q : Int → Hp → Prop} (hx : x < 1099511627776) (hq : Q (pop x 40 : Nat) h) : CI 0 mJ13_bitCount_95d88 [vl x] h Q := by
  refine sJ13_bitCount_95d88 ?_
  rw [← bcN hx] at hq
  exact hq
