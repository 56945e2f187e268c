/-! the class's chains -/
theorem lshl1 : ∀ p : Nat, p < 40 → j_lshl 1 (p : Int) = ((2 ^ p : Nat) : Int) := by decide +kernel
theorem c_xf {a : Int} {w : Nat} {h : Hp} {Q : Int → Hp → Prop} (ha : nA a) (hw : w ≤ 8) : ∀ (rest pre : List (Nat × Nat)) (x A : Nat), CNt h a (w, pre ++ rest) → okL w rest → pre.length + rest.length ≤ 40 → x < 2 ^ w → A < 2 ^ pre.length → Q ((A ||| emN rest x pre.length : Nat)) h → E 1 mX3_exchangesFor 7 [(0, vr a), (2, vi x), (3, vl A), (5, vi pre.length)] [] h (ql Q)
  | [], pre, x, A, C, hok, hl, hx, hA, hq => by
    have e : h a 1 = ((pre ++ []).length : Nat) := C.2.1
    rw [List.append_nil] at e
    refine sX3_exchangesFor_7 ⟨ha, fun _ => ?_, fun c => absurd c (by omega)⟩
    rw [show A ||| emN [] x pre.length = A from Nat.or_zero A] at hq
    exact hq
  | c :: r, pre, x, A, C, hok, hl, hx, hA, hq => by
    have e : h a 1 = ((pre ++ c :: r).length : Nat) := C.2.1
    rw [List.length_append, List.length_cons] at e
    rw [List.length_cons] at hl
    obtain ⟨b1, b2⟩ := Row_mid C.2.2
    rw [Int.zero_add] at b1 b2
    have hc := hok c (List.mem_cons_self ..)
    have h256 := p256 hw
    have lt := exq_lt hc.1 hc.2.1 hx
    have pw : 2 ^ pre.length < 2 ^ 40 := p_lt (by omega)
    rw [show (2 : Nat) ^ 40 = 1099511627776 from rfl] at pw
    have p2 : 2 ^ pre.length < 2 ^ (pre.length + 1) := p_lt (by omega)
    refine sX3_exchangesFor_7 ⟨ha, fun c => absurd c (by omega), fun _ => ⟨⟨ha, by omega⟩, fun x4 hx4 => ?_⟩⟩
    rw [b1, b2, bit_c (by omega) (by omega) (by omega)] at hx4
    subst hx4
    have eE : emN (c :: r) x pre.length = (if exB c x then 2 ^ pre.length else 0) ||| emN r (exq c x) (pre.length + 1) := rfl
    rw [eE] at hq
    refine ⟨fun q => ⟨by omega, ?_⟩, fun q => ⟨by omega, ?_⟩⟩
    · have hb : exB c x = false := by
        cases hb : exB c x with
        | false => rfl
        | true => exact absurd (show exq c x = x by omega) (exq_ne hb hc.2.2)
      rw [hb, if_neg (by decide), Nat.zero_or] at hq
      have := c_xf (Q := Q) ha hw r (pre ++ [c]) (exq c x) A (by rw [List.append_assoc]; exact C) (okL_tail hok) (by rw [List.length_append, List.length_singleton]; omega) lt (by rw [List.length_append, List.length_singleton]; omega) (by rw [List.length_append, List.length_singleton]; exact hq)
      rw [List.length_append, List.length_singleton] at this
      exact this
    · have hb : exB c x = true := by
        cases hb : exB c x with
        | true => rfl
        | false => exact absurd (show ((exq c x : Nat) : Int) = x by rw [exq_id hb]) q
      rw [hb, if_pos rfl, ← Nat.or_assoc] at hq
      rw [lshl1 pre.length (by omega), lorN (by omega) (by omega)]
      have := c_xf (Q := Q) ha hw r (pre ++ [c]) (exq c x) (A ||| 2 ^ pre.length) (by rw [List.append_assoc]; exact C) (okL_tail hok) (by rw [List.length_append, List.length_singleton]; omega) lt (by rw [List.length_append, List.length_singleton]; exact Nat.or_lt_two_pow (by omega) p2) (by rw [List.length_append, List.length_singleton]; exact hq)
      rw [List.length_append, List.length_singleton] at this
      exact this
theorem c_exF {a : Int} {x : Nat} {N : NetT} {h : Hp} {Q : Int → Hp → Prop} (ha : nA a) (hok : okN N) (C : CNt h a N) (hx : x < 2 ^ N.1) (hq : Q ((emN N.2 x 0 : Nat)) h) : CL 1 mX3_exchangesFor [vr a, vi x] h Q := by
  refine sX3_exchangesFor (c_xf (w := N.1) ha hok.2.1 N.2 [] x 0 C hok.2.2.2 (by have := hok.2.2.1; show 0 + _ ≤ 40; omega) hx (by show 0 < 2 ^ 0; decide) ?_)
  rw [Nat.zero_or]
  exact hq
def NE (h : Hp) (w : Nat) (cs : List (Nat × Nat)) : Prop := ∀ x : Nat, x < 2 ^ w → h 99 x = ((emN cs x 0 : Nat) : Int)
theorem c_ne {a : Int} {N : NetT} {Q : Hp → Prop} (ha : nA a) (hok : okN N) : ∀ (m x : Nat) (h : Hp), x + m = 2 ^ N.1 → CNt h a N → (∀ y : Nat, y < x → h 99 y = ((emN N.2 y 0 : Nat) : Int)) → (∀ g : Hp, NE g N.1 N.2 → (∀ x y : Int, x ≠ 99 → g x y = h x y) → Q g) → E 2 mX0_noteExchanges 2 [(0, vr 97), (1, vr a), (2, vi x)] [] h (qv Q)
  | 0, x, h, hm, C, I, hq => by
    have w8 := hok.2.1
    have e1 : j_ishl 1 (h a 0) = ((2 ^ N.1 : Nat) : Int) := by rw [C.1]; exact jshl1 (by omega)
    exact sX0_noteExchanges_2 ⟨ha, fun _ => hq h (fun y hy => I y (by omega)) (fun _ _ _ => rfl), fun c => absurd c (by omega)⟩
  | m + 1, x, h, hm, C, I, hq => by
    have w8 := hok.2.1
    have h256 := p256 w8
    have e1 : j_ishl 1 (h a 0) = ((2 ^ N.1 : Nat) : Int) := by rw [C.1]; exact jshl1 (by omega)
    refine sX0_noteExchanges_2 ⟨ha, fun c => absurd c (by omega), fun _ => ⟨ha, c_exF ha hok C (by omega) ⟨by omega, ?_⟩⟩⟩
    rw [show (x : Int) + 1 = ((x + 1 : Nat) : Int) by omega]
    refine c_ne ha hok m (x + 1) _ (by omega) (CNt_c (fun a b p1 p2 => by rw [up_no (by omega)]) C) (fun y hy => ?_) (fun g p1 p2 => hq g p1 (fun a b hx => by rw [p2 a b hx, up_no (by omega)]))
    by_cases q : y = x
    · subst q; rw [up_eq]
    · rw [up_no (by omega)]; exact I y (by omega)
theorem c_note {h : Hp} {a : Int} {N : NetT} {Q : Hp → Prop} (ha : nA a) (hok : okN N) (C : CNt h a N) (hq : ∀ g : Hp, NE g N.1 N.2 → (∀ x y : Int, x ≠ 99 → g x y = h x y) → Q g) : CV 2 mX0_noteExchanges [vr 97, vr a] h Q :=
  sX0_noteExchanges (c_ne ha hok (2 ^ N.1) 0 h (by omega) C (fun y hy => absurd hy (by omega)) hq)
theorem andnot {a b : Nat} (ha : a < 1099511627776) (hb : b < 1099511627776) : j_land a (j_lxor b (-1)) = ((a ^^^ (a &&& b) : Nat) : Int) ∧ a ^^^ (a &&& b) < 1099511627776 := by
  have lt : a ^^^ (a &&& b) < 1099511627776 := Nat.xor_lt_two_pow (n := 40) ha (Nat.lt_of_le_of_lt Nat.and_le_left ha)
  refine ⟨?_, lt⟩
  rw [bvN (a := a) (by omega), bvN (a := b) (by omega), jlnot, jland, bvN (a := a ^^^ (a &&& b)) (by omega)]
  congr 1
  apply BitVec.eq_of_getLsbD_eq
  intro i hi
  rw [BitVec.getLsbD_and, BitVec.getLsbD_not, BitVec.getLsbD_ofNat, BitVec.getLsbD_ofNat, BitVec.getLsbD_ofNat, Nat.testBit_xor, Nat.testBit_and]
  cases a.testBit i <;> cases b.testBit i <;> simp [hi]
theorem c_begun {h : Hp} {w x x' : Nat} {z z' : Int} {cs : List (Nat × Nat)} {Q : Int → Hp → Prop} (ez : z = x) (ez' : z' = x') (hw : w ≤ 8) (hl : cs.length ≤ 40) (N : NE h w cs) (hx : x < 2 ^ w) (hx' : x' < 2 ^ w) (hq : Q (bg cs x x' : Nat) h) : CI 1 mX0_begun [vr 97, vi z, vi z'] h Q := by
  subst ez
  subst ez'
  have h256 := p256 hw
  refine sX0_begun ⟨⟨by omega, by omega⟩, ?_⟩
  rw [N x hx, N x' hx']
  obtain ⟨e, lt⟩ := andnot (emN_40 (cs := cs) (x := x') hl) (emN_40 (cs := cs) (x := x) hl)
  rw [e]
  refine c_bcN lt ?_
  rw [bg_pop]
  exact hq
theorem xor_self_lt {x i : Nat} (h : x.testBit i = true) : x ^^^ 2 ^ i < x := by
  have e : x = (x ^^^ 2 ^ i) ||| 2 ^ i := by
    apply Nat.eq_of_testBit_eq
    intro j
    rw [Nat.testBit_or, xor_bit, Nat.testBit_two_pow]
    by_cases q : i = j
    · subst q; rw [h, decide_eq_true rfl]; rfl
    · rw [decide_eq_false q, Bool.xor_false, Bool.or_false]
  have le : (x ^^^ 2 ^ i) ≤ x := by
    have h2 : (x ^^^ 2 ^ i) ≤ (x ^^^ 2 ^ i) ||| 2 ^ i := Nat.left_le_or
    rw [← e] at h2
    exact h2
  have ne : (x ^^^ 2 ^ i) ≠ x := fun c => by
    have := xor_bit (x := x) (i := i) (j := i)
    rw [c, h, decide_eq_true rfl] at this
    exact absurd this (by decide)
  omega
theorem jx1 {x i : Nat} (hx : x < 256) (hi : i < 8) : j_ixor x (j_ishl 1 i) = ((x ^^^ 2 ^ i : Nat) : Int) := by
  have h1 : 2 ^ i < 2 ^ 8 := p_lt hi
  rw [jshl1 (by omega), jxor (by omega) (by omega)]
theorem sm_le {f : Nat → Nat} {k : Nat} : ∀ n : Nat, (∀ i : Nat, i < n → f i ≤ k) → sm f n ≤ n * k
  | 0, _ => by show 0 ≤ 0 * k; omega
  | n + 1, h => by
    have := sm_le n (fun i hi => h i (by omega))
    have := h n (by omega)
    show sm f n + f n ≤ (n + 1) * k
    rw [Nat.add_mul]; omega
theorem fac_le {n : Nat} (hn : n ≤ 7) : fac n ≤ 5040 := by
  have : ∀ n : Nat, n < 8 → fac n ≤ 5040 := by decide
  exact this n (by omega)
/-- the number of good chains to each set below lim -/
def AN (h : Hp) (w : Nat) (cs : List (Nat × Nat)) (lim : Nat) : Prop := ∀ y : Nat, y < lim → h 98 y = ((cN w cs (pop y w) y : Nat) : Int)
theorem c_cw48 {w n x : Nat} {zf : Int} {cs : List (Nat × Nat)} {Q : Int → Hp → Prop} (hw : w ≤ 8) (hx : x < 2 ^ w) (hp : pop x w = n + 1) (hn : n + 1 ≤ w) (hg : gdX w cs x = true) : ∀ (m i : Nat) (h : Hp), i + m = w → h 83 1 = w → AN h w cs x → h 98 x = ((sm (fun i => if x.testBit i = true then cN w cs n (x ^^^ 2 ^ i) else 0) i : Nat) : Int) → (∀ g : Hp, AN g w cs (x + 1) → (∀ a b : Int, a ≠ 98 → g a b = h a b) → E 2 mX0_countWithoutFailure 18 [(0, vr 97), (1, vr 83), (2, vi zf), (3, vi ((x : Int) + 1))] [] g (qi Q)) → E 2 mX0_countWithoutFailure 48 [(0, vr 97), (1, vr 83), (2, vi zf), (3, vi x), (4, vi i)] [] h (qi Q)
  | 0, i, h, hm, e1, A, ex, hq => by
    have h256 := p256 hw
    have ei : i = w := by omega
    subst ei
    refine sX0_countWithoutFailure_48 ⟨fun _ => ⟨by omega, hq h (fun y hy => ?_) (fun _ _ _ => rfl)⟩, fun c => absurd c (by omega)⟩
    by_cases q : y = x
    · subst q
      rw [hp, cN_s hx hp hn, if_pos hg]
      exact ex
    · exact A y (by omega)
  | m + 1, i, h, hm, e1, A, ex, hq => by
    have h256 := p256 hw
    have f7 := fac_le (n := n) (by omega)
    have term : ∀ i : Nat, i < w → (if x.testBit i = true then cN w cs n (x ^^^ 2 ^ i) else 0) ≤ 5040 := fun i hi => by
      by_cases b : x.testBit i = true
      · rw [if_pos b]
        have px := pop_xor b w
        rw [if_pos hi] at px
        have := cN_le (cs := cs) (xor_lt hx hi) (show pop (x ^^^ 2 ^ i) w = n by omega) (by omega)
        omega
      · rw [if_neg b]; omega
    have b1 := sm_le (k := 5040) i (fun i' hi' => term i' (by omega))
    have b2 := term i (by omega)
    have bt : j_iand (j_ishr x i) 1 = if x.testBit i then 1 else 0 := jbit (by omega) (by omega)
    have val : (if j_iand (j_ishr x i) 1 ≠ 1 then (0 : Int) else h 98 (j_ixor x (j_ishl 1 i))) = (((if x.testBit i = true then cN w cs n (x ^^^ 2 ^ i) else 0) : Nat) : Int) := by
      rw [bt]
      by_cases b : x.testBit i = true
      · have px := pop_xor b w
        rw [if_pos (show i < w by omega)] at px
        rw [b, if_pos rfl, if_neg (by decide), if_pos rfl, jx1 (by omega) (by omega), A _ (xor_self_lt b), show pop (x ^^^ 2 ^ i) w = n by omega]
      · rw [if_neg b, if_neg b, if_pos (by decide)]; rfl
    refine sX0_countWithoutFailure_48 ⟨fun c => absurd c (by omega), fun _ => ?_⟩
    rw [val, ex]
    generalize hS : sm (fun i => if x.testBit i = true then cN w cs n (x ^^^ 2 ^ i) else 0) i = S at ex b1
    generalize hT : (if x.testBit i = true then cN w cs n (x ^^^ 2 ^ i) else 0) = T at b2
    have i8 : i * 5040 ≤ 35280 := by omega
    refine ⟨⟨by omega, fun c => ?_⟩, by omega, ?_⟩
    · have b : x.testBit i = true := by
        rw [bt] at c
        cases hb : x.testBit i with
        | true => rfl
        | false => rw [hb] at c; exact absurd c (by decide)
      rw [jx1 (by omega) (by omega)]
      have := xor_self_lt b
      omega
    · rw [show (i : Int) + 1 = ((i + 1 : Nat) : Int) by omega]
      refine c_cw48 hw hx hp hn hg m (i + 1) _ (by omega) (by rw [up_no (by omega)]; exact e1) (fun y hy => by rw [up_no (by omega)]; exact A y hy) ?_ (fun g p1 p2 => hq g p1 (fun a b hx => by rw [p2 a b hx, up_no (by omega)]))
      rw [up_eq]
      show _ = ((sm (fun i => if x.testBit i = true then cN w cs n (x ^^^ 2 ^ i) else 0) i + (if x.testBit i = true then cN w cs n (x ^^^ 2 ^ i) else 0) : Nat) : Int)
      rw [hS, hT]; omega
theorem pop_pos {w x : Nat} (hx : x < 2 ^ w) (h1 : 1 ≤ x) : 1 ≤ pop x w := by
  apply Classical.byContradiction
  intro hn
  have z := pop_0 w (show pop x w = 0 by omega)
  have : x = 0 := bit_ext (w := w) hx (Nat.two_pow_pos w) (fun i hi => by rw [z i hi, Nat.zero_testBit])
  omega
theorem c_cw18 {w : Nat} {cs : List (Nat × Nat)} {Q : Int → Hp → Prop} (hw1 : 1 ≤ w) (hw : w ≤ 8) (hok : okL w cs) : ∀ (m x : Nat) (z : Int) (h : Hp), z = x → x + m = 2 ^ w → 1 ≤ x → SW h w (fun x => cry cs x) → AN h w cs x → (∀ g : Hp, (∀ a b : Int, a ≠ 98 → g a b = h a b) → Q (cN w cs w (2 ^ w - 1) : Nat) g) → E 2 mX0_countWithoutFailure 18 [(0, vr 97), (1, vr 83), (2, vi ((2 ^ w - 1 : Nat) : Int)), (3, vi z)] [] h (qi Q)
  | 0, x, z, h, ez, hm, h1, S, A, hq => by
    have h256 := p256 hw
    refine sX0_countWithoutFailure_18 ⟨fun _ => ⟨by omega, ?_⟩, fun c => absurd c (by omega)⟩
    rw [A (2 ^ w - 1) (by omega), pop_full w (Nat.le_refl _)]
    exact hq h (fun _ _ _ => rfl)
  | m + 1, x, z, h, ez, hm, h1, S, A, hq => by
    subst ez
    have h256 := p256 hw
    have wp := wds_p hw
    have hx : x < 2 ^ w := by omega
    have pp := pop_pos hx h1
    have pl := pop_le (x := x) w
    obtain ⟨n, hp⟩ : ∃ n : Nat, pop x w = n + 1 := ⟨pop x w - 1, by omega⟩
    have fr0 : ∀ a b : Int, a ≠ 98 → up h 98 x 0 a b = h a b := fun a b ha => by rw [up_no (by omega)]
    have S0 : SW (up h 98 x 0) w (fun x => cry cs x) := SW_c S (fun y => ⟨fr0 _ _ (by omega), fr0 _ _ (by omega)⟩) (fun _ _ => rfl)
    have A0 : AN (up h 98 x 0) w cs x := fun y hy => by rw [up_no (by omega)]; exact A y hy
    refine sX0_countWithoutFailure_18 ⟨fun c => absurd c (by omega), fun _ => ⟨by omega, c_outputFor hw S0 (by omega) (cry_lt cs x hok hx) (c_isSorted rfl S0.1 hw1 hw (cry_lt cs x hok hx) ?_)⟩⟩
    have nx : ∀ g : Hp, AN g w cs (x + 1) → (∀ a b : Int, a ≠ 98 → g a b = h a b) → E 2 mX0_countWithoutFailure 18 [(0, vr 97), (1, vr 83), (2, vi ((2 ^ w - 1 : Nat) : Int)), (3, vi ((x : Int) + 1))] [] g (qi Q) := fun g A2 f2 => c_cw18 hw1 hw hok m (x + 1) _ g (by omega) (by omega) (by omega) (SW_c S (fun y => ⟨f2 _ _ (by omega), f2 _ _ (by omega)⟩) (fun _ _ => rfl)) A2 (fun g2 f3 => hq g2 (fun a b ha => by rw [f3 a b ha, f2 a b ha]))
    cases hb : badB (cry cs x) (w - 1) with
    | true =>
      refine ⟨fun _ => ⟨by omega, nx _ (fun y hy => ?_) fr0⟩, fun c => absurd rfl c⟩
      by_cases q : y = x
      · subst q
        rw [up_eq, hp, cN_s hx hp (by omega), if_neg (by unfold gdX; rw [hb]; decide)]; rfl
      · exact A0 y (by omega)
    | false =>
      refine ⟨fun c => absurd c (by decide), fun _ => ?_⟩
      exact c_cw48 hw hx hp (by omega) (by unfold gdX; rw [hb]; rfl) w 0 _ (by omega) S0.1 A0 (by rw [up_eq]; rfl) (fun g A2 f2 => nx g A2 (fun a b ha => by rw [f2 a b ha, fr0 a b ha]))
theorem c_cwf {h : Hp} {w : Nat} {cs : List (Nat × Nat)} {Q : Int → Hp → Prop} (hw1 : 1 ≤ w) (hw : w ≤ 8) (hok : okL w cs) (S : SW h w (fun x => cry cs x)) (hq : ∀ g : Hp, (∀ a b : Int, a ≠ 98 → g a b = h a b) → Q (cN w cs w (2 ^ w - 1) : Nat) g) : CI 2 mX0_countWithoutFailure [vr 97, vr 83] h Q := by
  have h256 := p256 hw
  have hp := Nat.two_pow_pos w
  have p2 : 2 ≤ 2 ^ w := (Nat.pow_le_pow_right (by decide) hw1 : 2 ^ 1 ≤ 2 ^ w)
  have e1 : j_ishl 1 (h 83 1) = ((2 ^ w : Nat) : Int) := by rw [S.1]; exact jshl1 (by omega)
  refine sX0_countWithoutFailure ⟨by omega, fun x2 hx2 => ⟨by omega, ?_⟩⟩
  rw [show x2 = ((2 ^ w - 1 : Nat) : Int) by omega]
  refine c_cw18 hw1 hw hok (2 ^ w - 1) 1 _ _ rfl (by omega) (by omega) (SW_c S (fun y => ⟨by rw [up_no (by omega)], by rw [up_no (by omega)]⟩) (fun _ _ => rfl)) (fun y hy => ?_) (fun g f2 => hq g (fun a b ha => by rw [f2 a b ha, up_no (by omega)]))
  have e : y = 0 := by omega
  subst e
  have z : ∀ n : Nat, pop 0 n = 0 := by
    intro n
    induction n with
    | zero => rfl
    | succ n ih => show pop 0 n + (if (0 : Nat).testBit n then 1 else 0) = 0; rw [ih, Nat.zero_testBit]; rfl
  rw [z w, cN_0]
  show up h 98 0 1 98 ((0 : Nat) : Int) = 1
  exact up_eq
/-- the most exchanges on the way to each set below lim -/
def BNH (h : Hp) (w : Nat) (cs : List (Nat × Nat)) (lim : Nat) : Prop := ∀ y : Nat, y < lim → h 98 y = ((bN w cs (pop y w) y : Nat) : Int)
theorem mxs_le {f : Nat → Nat} {k : Nat} : ∀ n : Nat, (∀ i : Nat, i < n → f i ≤ k) → mxs f n ≤ k
  | 0, _ => Nat.zero_le _
  | n + 1, h => by
    have := mxs_le n (fun i hi => h i (by omega))
    have := h n (by omega)
    show max (mxs f n) (f n) ≤ k
    omega
theorem c_ge38 {a : Int} {n x : Nat} {zf : Int} {N : NetT} {Q : Int → Hp → Prop} (ha : nA a) (hok : okN N) (hx : x < 2 ^ N.1) (hp : pop x N.1 = n + 1) (hn : n + 1 ≤ N.1) : ∀ (m i : Nat) (h : Hp), i + m = N.1 → h a 0 = N.1 → NE h N.1 N.2 → BNH h N.1 N.2 x → h 98 x = ((mxs (fun i => if x.testBit i = true then bN N.1 N.2 n (x ^^^ 2 ^ i) + bg N.2 (x ^^^ 2 ^ i) x else 0) i : Nat) : Int) → (∀ g : Hp, BNH g N.1 N.2 (x + 1) → (∀ a b : Int, a ≠ 98 → g a b = h a b) → E 3 mX0_greatestExchanges 23 [(0, vr 97), (1, vr a), (2, vi zf), (3, vi ((x : Int) + 1))] [] g (qi Q)) → E 3 mX0_greatestExchanges 38 [(0, vr 97), (1, vr a), (2, vi zf), (3, vi x), (4, vi i)] [] h (qi Q)
  | 0, i, h, hm, e1, E9, A, ex, hq => by
    have w8 := hok.2.1
    have h256 := p256 w8
    have ei : i = N.1 := by omega
    refine sX0_greatestExchanges_38 ⟨ha, fun _ => ⟨by omega, hq h (fun y hy => ?_) (fun _ _ _ => rfl)⟩, fun c => absurd c (by omega)⟩
    by_cases q : y = x
    · subst q
      rw [hp, bN_s hx hp hn]
      rw [ei] at ex
      exact ex
    · exact A y (by omega)
  | m + 1, i, h, hm, e1, E9, A, ex, hq => by
    have w8 := hok.2.1
    have h256 := p256 w8
    have bt : j_iand (j_ishr x i) 1 = if x.testBit i then 1 else 0 := jbit (by omega) (by omega)
    refine sX0_greatestExchanges_38 ⟨ha, fun c => absurd c (by omega), fun _ => ⟨fun c => ⟨by omega, ?_⟩, fun c x6 hx6 => ?_⟩⟩
    · have b : ¬ x.testBit i = true := fun b => by
        rw [bt, b] at c
        exact absurd rfl c
      rw [show (i : Int) + 1 = ((i + 1 : Nat) : Int) by omega]
      refine c_ge38 ha hok hx hp hn m (i + 1) h (by omega) e1 E9 A ?_ hq
      rw [ex]
      show _ = ((max (mxs (fun i => if x.testBit i = true then bN N.1 N.2 n (x ^^^ 2 ^ i) + bg N.2 (x ^^^ 2 ^ i) x else 0) i) (if x.testBit i = true then bN N.1 N.2 n (x ^^^ 2 ^ i) + bg N.2 (x ^^^ 2 ^ i) x else 0) : Nat) : Int)
      rw [if_neg b, Nat.max_zero]
    · have b : x.testBit i = true := by
        rw [bt] at c
        cases hb : x.testBit i with
        | true => rfl
        | false => rw [hb] at c; exact absurd c (by decide)
      have px := pop_xor b N.1
      rw [if_pos (show i < N.1 by omega)] at px
      have lt := xor_self_lt b
      rw [jx1 (by omega) (by omega)] at hx6
      subst hx6
      have v1 : h 98 ((x ^^^ 2 ^ i : Nat) : Int) = ((bN N.1 N.2 n (x ^^^ 2 ^ i) : Nat) : Int) := by
        rw [A _ lt, show pop (x ^^^ 2 ^ i) N.1 = n by omega]
      have l1 := bN_le (w := N.1) (n := n) (x := x ^^^ 2 ^ i) (cs := N.2)
      have l2 := bg_le (cs := N.2) (x := x ^^^ 2 ^ i) (x' := x)
      refine ⟨⟨by omega, by omega⟩, c_begun rfl rfl w8 hok.2.2.1 E9 (by omega) hx ?_⟩
      rw [v1, ex]
      refine ⟨⟨by omega, by omega, by omega⟩, ?_⟩
      rw [show (i : Int) + 1 = ((i + 1 : Nat) : Int) by omega]
      refine c_ge38 ha hok hx hp hn m (i + 1) _ (by omega) (by rw [up_no (by omega)]; exact e1) (fun y hy => by rw [up_no (by omega)]; exact E9 y hy) (fun y hy => by rw [up_no (by omega)]; exact A y hy) ?_ (fun g p1 p2 => hq g p1 (fun a b hx => by rw [p2 a b hx, up_no (by omega)]))
      rw [up_eq]
      show _ = ((max (mxs (fun i => if x.testBit i = true then bN N.1 N.2 n (x ^^^ 2 ^ i) + bg N.2 (x ^^^ 2 ^ i) x else 0) i) (if x.testBit i = true then bN N.1 N.2 n (x ^^^ 2 ^ i) + bg N.2 (x ^^^ 2 ^ i) x else 0) : Nat) : Int)
      rw [if_pos b]
      split <;> omega
theorem c_ge23 {a : Int} {N : NetT} {Q : Int → Hp → Prop} (ha : nA a) (ha2 : a ≤ 12) (hok : okN N) : ∀ (m x : Nat) (z : Int) (h : Hp), z = x → x + m = 2 ^ N.1 → 1 ≤ x → h a 0 = N.1 → NE h N.1 N.2 → BNH h N.1 N.2 x → (∀ g : Hp, (∀ a b : Int, a ≠ 98 → g a b = h a b) → Q (bN N.1 N.2 N.1 (2 ^ N.1 - 1) : Nat) g) → E 3 mX0_greatestExchanges 23 [(0, vr 97), (1, vr a), (2, vi ((2 ^ N.1 - 1 : Nat) : Int)), (3, vi z)] [] h (qi Q)
  | 0, x, z, h, ez, hm, h1, e1, E9, A, hq => by
    have w8 := hok.2.1
    have h256 := p256 w8
    refine sX0_greatestExchanges_23 ⟨fun _ => ⟨by omega, ?_⟩, fun c => absurd c (by omega)⟩
    rw [A (2 ^ N.1 - 1) (by omega), pop_full N.1 (Nat.le_refl _)]
    exact hq h (fun _ _ _ => rfl)
  | m + 1, x, z, h, ez, hm, h1, e1, E9, A, hq => by
    subst ez
    have w8 := hok.2.1
    have h256 := p256 w8
    have hx : x < 2 ^ N.1 := by omega
    have pp := pop_pos hx h1
    have pl := pop_le (x := x) N.1
    obtain ⟨n, hp⟩ : ∃ n : Nat, pop x N.1 = n + 1 := ⟨pop x N.1 - 1, by omega⟩
    have fr0 : ∀ a b : Int, a ≠ 98 → up h 98 x 0 a b = h a b := fun a b ha => by rw [up_no (by omega)]
    refine sX0_greatestExchanges_23 ⟨fun c => absurd c (by omega), fun _ => ⟨by omega, ?_⟩⟩
    refine c_ge38 ha hok hx hp (by omega) N.1 0 _ (by omega) (by rw [fr0 _ _ (by omega)]; exact e1) (fun y hy => by rw [fr0 _ _ (by omega)]; exact E9 y hy) (fun y hy => by rw [up_no (by omega)]; exact A y hy) (by rw [up_eq]; rfl) (fun g A2 f2 => ?_)
    have f2' : ∀ a b : Int, a ≠ 98 → g a b = h a b := fun a b ha => by rw [f2 a b ha, fr0 a b ha]
    exact c_ge23 ha ha2 hok m (x + 1) _ g (by omega) (by omega) (by omega) (by rw [f2' _ _ (by omega)]; exact e1) (fun y hy => by rw [f2' _ _ (by omega)]; exact E9 y hy) A2 (fun g2 f3 => hq g2 (fun a b ha => by rw [f3 a b ha, f2' a b ha]))
theorem pop_zero : ∀ n : Nat, pop 0 n = 0
  | 0 => rfl
  | n + 1 => by show pop 0 n + (if (0 : Nat).testBit n then 1 else 0) = 0; rw [pop_zero n, Nat.zero_testBit]; rfl
theorem c_great {h : Hp} {a : Int} {N : NetT} {Q : Int → Hp → Prop} (ha : nA a) (ha2 : a ≤ 12) (hok : okN N) (C : CNt h a N) (hq : ∀ g : Hp, (∀ a b : Int, ¬ (a = 98 ∨ a = 99) → g a b = h a b) → Q (bN N.1 N.2 N.1 (2 ^ N.1 - 1) : Nat) g) : CI 3 mX0_greatestExchanges [vr 97, vr a] h Q := by
  have w8 := hok.2.1
  have w2 := hok.1
  have h256 := p256 w8
  have p2 : 2 ≤ 2 ^ N.1 := (Nat.pow_le_pow_right (by decide) (by omega) : 2 ^ 1 ≤ 2 ^ N.1)
  refine sX0_greatestExchanges (c_note ha hok C (fun g E9 fr => ?_))
  have e1 : g a 0 = N.1 := by rw [fr _ _ (by omega)]; exact C.1
  have e2 : j_ishl 1 (g a 0) = ((2 ^ N.1 : Nat) : Int) := by rw [e1]; exact jshl1 (by omega)
  refine ⟨⟨ha, by omega⟩, fun x4 hx4 => ⟨by omega, ?_⟩⟩
  rw [show x4 = ((2 ^ N.1 - 1 : Nat) : Int) by omega]
  refine c_ge23 ha ha2 hok (2 ^ N.1 - 1) 1 _ _ rfl (by omega) (by omega) (by rw [up_no (by omega)]; exact e1) (fun y hy => by rw [up_no (by omega)]; exact E9 y hy) (fun y hy => ?_) (fun g2 f2 => hq g2 (fun a b ha => by rw [f2 a b (by omega), up_no (by omega), fr a b (by omega)]))
  have e : y = 0 := by omega
  subst e
  rw [pop_zero, bN_0]
  show up g 98 0 0 98 ((0 : Nat) : Int) = 0
  exact up_eq
