/-! failures; isSorter, firstFailure -/
def badB (y : Nat) : Nat → Bool
  | 0 => false
  | v + 1 => badB y v || (y.testBit v && !y.testBit (v + 1))
def IsL (p : Nat → Bool) (n : Nat) (z : Int) : Prop := (z = -1 ∧ ∀ x : Nat, x < n → p x = false) ∨ (∃ X : Nat, z = X ∧ X < n ∧ p X = true ∧ ∀ x : Nat, x < X → p x = false)
theorem IsL_u {p : Nat → Bool} {n : Nat} {z z' : Int} (h : IsL p n z) (h' : IsL p n z') : z = z' := by
  rcases h with ⟨e, a⟩ | ⟨X, e, b, c, d⟩ <;> rcases h' with ⟨e', a'⟩ | ⟨X', e', b', c', d'⟩
  · rw [e, e']
  · have := a X' b'
    rw [c'] at this
    exact absurd this (by decide)
  · have := a' X b
    rw [c] at this
    exact absurd this (by decide)
  · have h1 : ¬ X < X' := fun q => by have := d' X q; rw [c] at this; exact absurd this (by decide)
    have h2 : ¬ X' < X := fun q => by have := d X' q; rw [c'] at this; exact absurd this (by decide)
    omega
theorem IsL_mod {p : Nat → Bool} {n m : Nat} {z : Int} (h : IsL p n z) (hm : 0 < m) (hmn : m ≤ n) (per : ∀ x : Nat, p x = p (x % m)) : IsL p m z := by
  rcases h with ⟨e, a⟩ | ⟨X, e, b, c, d⟩
  · exact Or.inl ⟨e, fun x hx => a x (by omega)⟩
  · refine Or.inr ⟨X, e, ?_, c, d⟩
    have h1 : ¬ X % m < X := fun q => by have := d (X % m) q; rw [← per X, c] at this; exact absurd this (by decide)
    have h2 := Nat.mod_lt X hm
    omega
theorem exq_same {w : Nat} {c : Nat × Nat} {x x' : Nat} (hc : c.1 < w ∧ c.2 < w ∧ c.1 ≠ c.2) (e : ∀ v : Nat, v < w → x.testBit v = x'.testBit v) : ∀ v : Nat, v < w → (exq c x).testBit v = (exq c x').testBit v := by
  intro v hv
  obtain ⟨a, b⟩ := c
  rw [exq_bit hc.2.2, exq_bit hc.2.2, e a hc.1, e b hc.2.1, e v hv]
theorem cry_same {w : Nat} : ∀ (cs : List (Nat × Nat)) (x x' : Nat), okL w cs → (∀ v : Nat, v < w → x.testBit v = x'.testBit v) → ∀ v : Nat, v < w → (cry cs x).testBit v = (cry cs x').testBit v
  | [], x, x', _, e => e
  | c :: r, x, x', hok, e => cry_same r (exq c x) (exq c x') (okL_tail hok) (exq_same (hok c (List.mem_cons_self ..)) e)
theorem badB_same {y y' : Nat} : ∀ (v : Nat), (∀ u : Nat, u ≤ v → y.testBit u = y'.testBit u) → badB y v = badB y' v
  | 0, _ => rfl
  | v + 1, e => by
    show (badB y v || (y.testBit v && !y.testBit (v + 1))) = (badB y' v || (y'.testBit v && !y'.testBit (v + 1)))
    rw [badB_same v (fun u hu => e u (by omega)), e v (by omega), e (v + 1) (by omega)]
theorem bad_per {w : Nat} {cs : List (Nat × Nat)} (hw : 1 ≤ w) (hok : okL w cs) (x : Nat) : badB (cry cs x) (w - 1) = badB (cry cs (x % 2 ^ w)) (w - 1) := by
  refine badB_same _ (fun u hu => cry_same cs _ _ hok (fun v hv => ?_) u (by omega))
  rw [Nat.testBit_mod_two_pow]
  simp [hv]
theorem okL_skp {w : Nat} {s : Int} : ∀ (cs : List (Nat × Nat)) (i : Nat), okL w cs → okL w (skp s i cs)
  | [], _, h => h
  | c :: r, i, h => by
    by_cases q : (i : Int) = s
    · rw [skp_e q]; exact okL_skp r (i + 1) (okL_tail h)
    · rw [skp_n q]
      intro d hd
      rcases List.mem_cons.1 hd with e | e
      · rw [e]; exact h c (List.mem_cons_self ..)
      · exact okL_skp r (i + 1) (okL_tail h) d e
/-! the class's side -/
theorem c_fl {h : Hp} {w k : Nat} {f : Nat → Nat} {Q : Int → Hp → Prop} (hw : w ≤ 8) (S : SW h w f) (hk : k < wds w) (hq : ∀ L : BitVec 64, (∀ b : Nat, b < 64 → L.getLsbD b = badB (f (64 * k + b)) (w - 1)) → Q L.toInt h) : ∀ (m v : Nat) (L : BitVec 64), v + m = w - 1 → 1 ≤ w → (∀ b : Nat, b < 64 → L.getLsbD b = badB (f (64 * k + b)) v) → E 0 mX7_failures 5 [(0, vr 83), (1, vi k), (2, vl L.toInt), (4, vi v)] [] h (ql Q)
  | 0, v, L, hm, h1, I => by
    have e := S.1
    refine sX7_failures_5 ⟨by omega, fun _ => hq L ?_, fun c => absurd c (by omega)⟩
    rw [show w - 1 = v by omega]
    exact I
  | m + 1, v, L, hm, h1, I => by
    have e := S.1
    have wr := wds_r hw
    obtain ⟨La, a1, a2⟩ := S.2.2 v k (by omega) hk
    obtain ⟨Lb, b1, b2⟩ := S.2.2 (v + 1) k (by omega) hk
    rw [show (((v + 1 : Nat) : Int) * 4 + k) = ((v : Int) + 1) * 4 + k by omega] at b1
    refine sX7_failures_5 ⟨by omega, fun c => absurd c (by omega), fun _ => ⟨by omega, ?_⟩⟩
    rw [a1, b1, jlnot, jland, jlor, show (v : Int) + 1 = ((v + 1 : Nat) : Int) by omega]
    refine c_fl hw S hk hq m (v + 1) _ (by omega) h1 (fun b hb => ?_)
    rw [BitVec.getLsbD_or, BitVec.getLsbD_and, BitVec.getLsbD_not, I b hb, a2 b hb, b2 b hb]
    simp [badB, hb]
theorem c_failures {h : Hp} {w k : Nat} {f : Nat → Nat} {Q : Int → Hp → Prop} (hw1 : 1 ≤ w) (hw : w ≤ 8) (S : SW h w f) (hk : k < wds w) (hq : ∀ L : BitVec 64, (∀ b : Nat, b < 64 → L.getLsbD b = badB (f (64 * k + b)) (w - 1)) → Q L.toInt h) : CL 0 mX7_failures [vr 83, vi k] h Q := by
  refine sX7_failures ?_
  have := c_fl hw S hk hq (w - 1) 0 0#64 (by omega) hw1 (fun b hb => by simp [badB])
  exact this
def bc1 (x : Int) : Int := j_lsub x (j_land (j_lushr x 1) 6148914691236517205)
def bc2 (x : Int) : Int := j_ladd (j_land x 3689348814741910323) (j_land (j_lushr x 2) 3689348814741910323)
def bc3 (x : Int) : Int := j_land (j_ladd x (j_lushr x 4)) 1085102592571150095
def bc4 (x : Int) : Int := j_ladd x (j_lushr x 8)
def bc5 (x : Int) : Int := j_ladd x (j_lushr x 16)
def bc6 (x : Int) : Int := j_ladd x (j_lushr x 32)
def bcL (x : Int) : Int := j_iand (j_l2i (bc6 (bc5 (bc4 (bc3 (bc2 (bc1 x))))))) 127
theorem bcL_t : ∀ t : Nat, t < 64 → bcL (BitVec.ofNat 64 (2 ^ t - 1)).toInt = (t : Int) := by decide +kernel
theorem c_bc64 {h : Hp} {t : Nat} {Q : Int → Hp → Prop} (ht : t < 64) (hq : Q t h) : CI 0 mJ13_bitCount_95d88 [vl (BitVec.ofNat 64 (2 ^ t - 1)).toInt] h Q := by
  refine sJ13_bitCount_95d88 ?_
  rw [← bcL_t t ht] at hq
  exact hq
theorem low_bit {L : BitVec 64} : ∀ n : Nat, (∀ i : Nat, i < n → L.getLsbD i = false) ∨ ∃ t : Nat, t < n ∧ L.getLsbD t = true ∧ ∀ i : Nat, i < t → L.getLsbD i = false
  | 0 => Or.inl (fun i hi => absurd hi (by omega))
  | n + 1 => by
    rcases low_bit n with a | ⟨t, h1, h2, h3⟩
    · cases hb : L.getLsbD n with
      | false =>
        left
        intro i hi
        by_cases q : i = n
        · rw [q]; exact hb
        · exact a i (by omega)
      | true => exact Or.inr ⟨n, by omega, hb, a⟩
    · exact Or.inr ⟨t, by omega, h2, h3⟩
theorem low_mask {L : BitVec 64} {t : Nat} (ht : t < 64) (h1 : L.getLsbD t = true) (h2 : ∀ i : Nat, i < t → L.getLsbD i = false) : (~~~L &&& (L - 1#64)) = BitVec.ofNat 64 (2 ^ t - 1) := by
  have n0 : L.toNat % 2 ^ t = 0 := by
    apply Nat.eq_of_testBit_eq
    intro i
    rw [Nat.testBit_mod_two_pow, Nat.zero_testBit]
    by_cases q : i < t
    · have := h2 i q
      rw [BitVec.getLsbD] at this
      rw [this, Bool.and_false]
    · simp [q]
  have n1 : (L.toNat / 2 ^ t).testBit 0 = true := by
    rw [Nat.testBit_div_two_pow, Nat.zero_add]
    exact h1
  obtain ⟨m, hm⟩ : ∃ m : Nat, L.toNat / 2 ^ t = 2 * m + 1 := by
    rw [Nat.testBit_zero] at n1
    have := of_decide_eq_true n1
    exact ⟨L.toNat / 2 ^ t / 2, by omega⟩
  have e1 : L.toNat = 2 ^ t * (2 * m + 1) + 0 := by
    have := Nat.div_add_mod L.toNat (2 ^ t)
    rw [hm, n0] at this
    exact this.symm
  have hp := Nat.two_pow_pos t
  have e2 : (L - 1#64).toNat = 2 ^ t * (2 * m) + (2 ^ t - 1) := by
    have hlt := L.isLt
    have hge : 1 ≤ L.toNat := by
      rw [e1, Nat.mul_add, Nat.mul_one]
      omega
    rw [BitVec.toNat_sub, show (1#64).toNat = 1 from rfl, show 2 ^ 64 - 1 + L.toNat = (L.toNat - 1) + 2 ^ 64 by omega, Nat.add_mod_right, Nat.mod_eq_of_lt (by omega), e1, Nat.mul_add, Nat.mul_one]
    omega
  apply BitVec.eq_of_getLsbD_eq
  intro i hi
  rw [BitVec.getLsbD_and, BitVec.getLsbD_not, BitVec.getLsbD_ofNat]
  rw [BitVec.getLsbD, BitVec.getLsbD, e1, e2, Nat.testBit_two_pow_mul_add _ hp, Nat.testBit_two_pow_mul_add _ (by omega), Nat.testBit_two_pow_sub_one]
  by_cases q : i < t
  · simp [q, hi]
  · rw [if_neg q, if_neg q]
    obtain ⟨j, rfl⟩ : ∃ j : Nat, i = t + j := ⟨i - t, by omega⟩
    rw [show t + j - t = j by omega]
    cases j with
    | zero => simp
    | succ j =>
      rw [Nat.testBit_succ, Nat.testBit_succ, show (2 * m + 1) / 2 = m by omega, show 2 * m / 2 = m by omega]
      cases m.testBit j <;> simp [q]
theorem c_lo {h : Hp} {w : Nat} {f : Nat → Nat} {Q : Int → Hp → Prop} (hw1 : 1 ≤ w) (hw : w ≤ 8) (S : SW h w f) (hq : ∀ z : Int, IsL (fun x => badB (f x) (w - 1)) (64 * wds w) z → Q z h) : ∀ (m k : Nat), k + m = wds w → (∀ x : Nat, x < 64 * k → badB (f x) (w - 1) = false) → E 1 mX7_lowestFailure 2 [(0, vr 83), (1, vi k)] [] h (qi Q)
  | 0, k, hm, I => by
    have e := S.2.1
    refine sX7_lowestFailure_2 ⟨fun _ => hq _ (Or.inl ⟨rfl, fun x hx => I x (by omega)⟩), fun c => absurd c (by omega)⟩
  | m + 1, k, hm, I => by
    have e := S.2.1
    have wr := wds_r hw
    refine sX7_lowestFailure_2 ⟨fun c => absurd c (by omega), fun _ => c_failures hw1 hw S (by omega) (fun L hL => ⟨fun c => ⟨by omega, ?_⟩, fun c => ⟨by omega, ?_⟩⟩)⟩
    · have z := lcmp0.1 c
      rw [show (k : Int) + 1 = ((k + 1 : Nat) : Int) by omega]
      refine c_lo hw1 hw S hq m (k + 1) (by omega) (fun x hx => ?_)
      by_cases q : x < 64 * k
      · exact I x q
      · have := hL (x - 64 * k) (by omega)
        rw [z, show 64 * k + (x - 64 * k) = x by omega] at this
        rw [← this]
        simp
    · rcases low_bit (L := L) 64 with a | ⟨t, t1, t2, t3⟩
      · refine absurd (lcmp0.2 ?_) c
        apply BitVec.eq_of_getLsbD_eq
        intro i hi
        rw [a i hi]
        simp
      · rw [jlnot, jlsub1, jland, low_mask t1 t2 t3]
        refine c_bc64 t1 ⟨by omega, ?_⟩
        refine hq _ (Or.inr ⟨64 * k + t, by omega, by omega, ?_, fun x hx => ?_⟩)
        · have := hL t t1
          rw [t2] at this
          exact this.symm
        · by_cases q : x < 64 * k
          · exact I x q
          · have := hL (x - 64 * k) (by omega)
            rw [t3 (x - 64 * k) (by omega), show 64 * k + (x - 64 * k) = x by omega] at this
            exact this.symm
theorem wds_p {w : Nat} (hw : w ≤ 8) : 2 ^ w ≤ 64 * wds w := by
  have : ∀ w : Nat, w < 9 → 2 ^ w ≤ 64 * wds w := by decide
  exact this w (by omega)
theorem c_lowest {h : Hp} {w : Nat} {cs : List (Nat × Nat)} {Q : Int → Hp → Prop} (hw1 : 1 ≤ w) (hw : w ≤ 8) (hok : okL w cs) (S : SW h w (fun x => cry cs x)) (hq : ∀ z : Int, IsL (fun x => badB (cry cs x) (w - 1)) (2 ^ w) z → Q z h) : CI 1 mX7_lowestFailure [vr 83] h Q := by
  refine sX7_lowestFailure (c_lo hw1 hw S (fun z hz => hq z ?_) (wds w) 0 (by omega) (fun x hx => absurd hx (by omega)))
  exact IsL_mod hz (Nat.two_pow_pos w) (wds_p hw) (bad_per hw1 hok)
/-! the reference's side -/
theorem m_so {h : Hp} {w y : Nat} {Q : Int → Hp → Prop} (hw : w ≤ 8) (hy : y < 256) (hq : Q (if badB y (w - 1) then 0 else 1) h) : ∀ (m i : Nat), i + m = w → 1 ≤ i → badB y (i - 1) = false → E 0 mX11_isSorted 4 [(0, vi w), (1, vi y), (2, vi (if y.testBit (i - 1) then 1 else 0)), (3, vi i)] [] h (qi Q)
  | 0, i, hm, h1, I => by
    refine sX11_isSorted_4 ⟨fun _ => ?_, fun c => absurd c (by omega)⟩
    rw [show w - 1 = i - 1 by omega, I] at hq
    exact hq
  | m + 1, i, hm, h1, I => by
    refine sX11_isSorted_4 ⟨fun c => absurd c (by omega), fun _ x4 hx4 => ?_⟩
    rw [jbit (by omega) (by omega)] at hx4
    have st : badB y i = (badB y (i - 1) || (y.testBit (i - 1) && !y.testBit i)) := by
      have : badB y (i - 1 + 1) = (badB y (i - 1) || (y.testBit (i - 1) && !y.testBit (i - 1 + 1))) := rfl
      rw [show i - 1 + 1 = i by omega] at this
      exact this
    refine ⟨fun c => ⟨by omega, ?_⟩, fun c => ?_⟩
    · have nx : badB y i = false := by
        rw [st, I]
        rw [hx4] at c
        cases h1 : y.testBit (i - 1) <;> cases h2 : y.testBit i <;> simp_all
      have := m_so hw hy hq m (i + 1) (by omega) (by omega) (by rw [show i + 1 - 1 = i by omega]; exact nx)
      rw [show i + 1 - 1 = i by omega] at this
      rw [hx4]
      exact this
    · have nx : badB y i = true := by
        rw [st, I]
        rw [hx4] at c
        cases h1 : y.testBit (i - 1) <;> cases h2 : y.testBit i <;> simp_all
      have up : ∀ n : Nat, badB y (i + n) = true := by
        intro n
        induction n with
        | zero => exact nx
        | succ n ih =>
          show (badB y (i + n) || _) = true
          rw [ih, Bool.true_or]
      have u2 := up (w - 1 - i)
      rw [show i + (w - 1 - i) = w - 1 by omega] at u2
      rw [u2] at hq
      exact hq
theorem m_isSorted {h : Hp} {w y : Nat} {zw zy : Int} {Q : Int → Hp → Prop} (ew : zw = w) (ey : zy = y) (hw1 : 1 ≤ w) (hw : w ≤ 8) (hy : y < 256) (hq : Q (if badB y (w - 1) then 0 else 1) h) : CI 0 mX11_isSorted [vi zw, vi zy] h Q := by
  subst ew
  subst ey
  refine sX11_isSorted (sX11_isSorted_4 ⟨fun c => absurd c (by omega), fun _ x4 hx4 => ⟨fun c => ⟨by omega, ?_⟩, fun c => ?_⟩⟩)
  · have e : x4 = if y.testBit 0 then 1 else 0 := hx4.trans (jbit (k := 0) (by omega) (by omega))
    rw [e]
    exact m_so hw hy hq (w - 1) 1 (by omega) (by omega) rfl
  · have e : x4 = if y.testBit 0 then 1 else 0 := hx4.trans (jbit (k := 0) (by omega) (by omega))
    rw [e] at c
    cases h1 : y.testBit 0 <;> rw [h1] at c <;> exact absurd c (by decide)
theorem m_is {h : Hp} {k : Nat} {s : Int} {N : NetT} {Q : Int → Hp → Prop} (hk : k < 4) (hok : okN N) (M : MNt h k N) (hq : ∀ z : Int, IsL (fun x => badB (cry (skp s 0 N.2) x) (N.1 - 1)) (2 ^ N.1) z → Q (if z = -1 then 1 else 0) h) : ∀ (m i : Nat), i + m = 2 ^ N.1 → (∀ x : Nat, x < i → badB (cry (skp s 0 N.2) x) (N.1 - 1) = false) → E 1 mX11_isSorter 2 [(0, vr 103), (1, vi k), (2, vi s), (3, vi i)] [] h (qi Q)
  | 0, i, hm, I => by
    have w8 := hok.2.1
    have e1 : j_ishl 1 (h 104 k) = ((2 ^ N.1 : Nat) : Int) := by rw [M.1]; exact jshl1 (by omega)
    refine sX11_isSorter_2 ⟨by omega, fun _ => ?_, fun c => absurd c (by omega)⟩
    exact hq (-1) (Or.inl ⟨rfl, fun x hx => I x (by omega)⟩)
  | m + 1, i, hm, I => by
    have w8 := hok.2.1
    have w2 := hok.1
    have h256 := p256 w8
    have e1 : j_ishl 1 (h 104 k) = ((2 ^ N.1 : Nat) : Int) := by rw [M.1]; exact jshl1 (by omega)
    have lt := cry_lt (skp s 0 N.2) i (okL_skp N.2 0 hok.2.2.2) (w := N.1) (by omega)
    refine sX11_isSorter_2 ⟨by omega, fun c => absurd c (by omega), fun _ => ⟨by omega, m_makes hk hok M (by omega) (m_isSorted M.1 rfl (by omega) w8 (by omega) ?_)⟩⟩
    cases hb : badB (cry (skp s 0 N.2) i) (N.1 - 1) with
    | true =>
      refine ⟨fun c => absurd rfl c, fun _ => ?_⟩
      have := hq i (Or.inr ⟨i, rfl, by omega, hb, I⟩)
      rw [if_neg (by omega)] at this
      exact this
    | false =>
      refine ⟨fun _ => ⟨by omega, ?_⟩, fun c => absurd c (by decide)⟩
      rw [show (i : Int) + 1 = ((i + 1 : Nat) : Int) by omega]
      refine m_is hk hok M hq m (i + 1) (by omega) (fun x hx => ?_)
      by_cases q : x = i
      · rw [q]; exact hb
      · exact I x (by omega)
theorem m_isSorter {h : Hp} {k : Nat} {s : Int} {N : NetT} {Q : Int → Hp → Prop} (hk : k < 4) (hok : okN N) (M : MNt h k N) (hq : ∀ z : Int, IsL (fun x => badB (cry (skp s 0 N.2) x) (N.1 - 1)) (2 ^ N.1) z → Q (if z = -1 then 1 else 0) h) : CI 1 mX11_isSorter [vr 103, vi k, vi s] h Q := by
  exact sX11_isSorter (m_is hk hok M hq (2 ^ N.1) 0 (by omega) (fun x hx => absurd hx (by omega)))
theorem c_sorts {h : Hp} {a s : Int} {N : NetT} {Q : Int → Hp → Prop} (ha : nA a) (hok : okN N) (A : CNt h a N) (hq : ∀ (z : Int) (g : Hp), IsL (fun x => badB (cry (skp s 0 N.2) x) (N.1 - 1)) (2 ^ N.1) z → (∀ x y : Int, ¬ (x = 83 ∨ x = 84) → g x y = h x y) → Q (if z = -1 then 1 else 0) g) : CI 3 mX10_sorts [vr 68, vr a, vi s] h Q := by
  have w2 := hok.1
  exact sX10_sorts (c_passAll ha hok A (fun g S fr => c_lowest (by omega) hok.2.1 (okL_skp N.2 0 hok.2.2.2) S (fun z hz => hq z g hz fr)))
