/-! the sweep: 64 inputs in a lane -/
theorem ob64 (L : BitVec 64) : (Int64.ofInt L.toInt).toBitVec = L := by
  show BitVec.ofInt 64 L.toInt = L
  exact BitVec.ofInt_toInt
theorem jland {a b : BitVec 64} : j_land a.toInt b.toInt = (a &&& b).toInt := by
  unfold j_land
  show (Int64.ofInt a.toInt &&& Int64.ofInt b.toInt).toBitVec.toInt = _
  rw [Int64.toBitVec_and, ob64, ob64]
theorem jlor {a b : BitVec 64} : j_lor a.toInt b.toInt = (a ||| b).toInt := by
  unfold j_lor
  show (Int64.ofInt a.toInt ||| Int64.ofInt b.toInt).toBitVec.toInt = _
  rw [Int64.toBitVec_or, ob64, ob64]
theorem jlnot {a : BitVec 64} : j_lxor a.toInt (-1) = (~~~a).toInt := by
  unfold j_lxor
  show (Int64.ofInt a.toInt ^^^ Int64.ofInt (-1)).toBitVec.toInt = _
  rw [Int64.toBitVec_xor, ob64]
  rw [show (Int64.ofInt (-1)).toBitVec = BitVec.allOnes 64 by decide, BitVec.xor_allOnes]
theorem jlsub1 {a : BitVec 64} : j_lsub a.toInt 1 = (a - 1#64).toInt := by
  unfold j_lsub
  show (Int64.ofInt a.toInt - Int64.ofInt 1).toBitVec.toInt = _
  rw [Int64.toBitVec_sub, ob64]
  rfl
theorem lcmp0 {a : BitVec 64} : (j_lcmp a.toInt 0 = 0) ↔ a = 0#64 := by
  unfold j_lcmp
  constructor
  · intro e
    have e0 : a.toInt = 0 := by
      by_cases q : 0 < a.toInt
      · rw [if_pos q] at e; exact absurd e (by decide)
      · rw [if_neg q] at e
        by_cases q2 : a.toInt = 0
        · exact q2
        · rw [if_neg q2] at e; exact absurd e (by decide)
    have := congrArg (BitVec.ofInt 64) e0
    rw [BitVec.ofInt_toInt] at this
    exact this
  · intro e
    rw [e]
    decide
theorem sh63 : ∀ b : Nat, b < 64 → ((Int32.ofInt (b : Int)).toInt64.toUInt64 &&& Int64.toUInt64 63) = UInt64.ofNat b := by decide +kernel
theorem jlushr {a : BitVec 64} {b : Nat} (hb : b < 64) : j_lushr a.toInt b = (a >>> b).toInt := by
  unfold j_lushr
  rw [sh63 b hb]
  show ((Int64.ofInt a.toInt).toUInt64 >>> UInt64.ofNat b).toBitVec.toInt = _
  rw [UInt64.toBitVec_shiftRight]
  show ((Int64.ofInt a.toInt).toBitVec >>> ((UInt64.ofNat b).toBitVec % 64)).toInt = _
  rw [ob64]
  have e : ((UInt64.ofNat b).toBitVec % 64).toNat = b := by
    rw [BitVec.toNat_umod]
    show (BitVec.ofNat 64 b).toNat % 64 = b
    rw [BitVec.toNat_ofNat, Nat.mod_eq_of_lt (a := b) (by omega), Nat.mod_eq_of_lt hb]
  rw [BitVec.ushiftRight_eq', e]
theorem l2i_0 : j_l2i 0 = 0 := by decide +kernel
theorem l2i_1 : j_l2i 1 = 1 := by decide +kernel
theorem jlbit {a : BitVec 64} {b : Nat} (hb : b < 64) : j_l2i (j_land (j_lushr a.toInt b) 1) = if a.getLsbD b then 1 else 0 := by
  rw [jlushr hb, show (1 : Int) = (1#64).toInt by decide, jland]
  cases hc : a.getLsbD b with
  | true =>
    have : (a >>> b) &&& 1#64 = 1#64 := by
      apply BitVec.eq_of_getLsbD_eq
      intro i hi
      rw [BitVec.getLsbD_and, BitVec.getLsbD_ushiftRight]
      by_cases q : i = 0
      · subst q; rw [Nat.add_zero, hc]; rfl
      · rw [BitVec.getLsbD_one]
        simp [q]
    rw [this]
    exact l2i_1
  | false =>
    have : (a >>> b) &&& 1#64 = 0#64 := by
      apply BitVec.eq_of_getLsbD_eq
      intro i hi
      rw [BitVec.getLsbD_and, BitVec.getLsbD_ushiftRight]
      by_cases q : i = 0
      · subst q; rw [Nat.add_zero, hc]; rfl
      · rw [BitVec.getLsbD_one]
        simp [q]
    rw [this]
    exact l2i_0
def wds (w : Nat) : Nat := if w ≤ 6 then 1 else 2 ^ (w - 6)
theorem wds_r {w : Nat} (hw : w ≤ 8) : 1 ≤ wds w ∧ wds w ≤ 4 := by
  unfold wds
  split
  · omega
  · have h1 : w = 7 ∨ w = 8 := by omega
    rcases h1 with h1 | h1 <;> subst h1 <;> decide
def ln1 (h : Hp) (f : Nat → Nat) (v k : Nat) : Prop := ∃ L : BitVec 64, h 84 ((v : Int) * 4 + k) = L.toInt ∧ ∀ b : Nat, b < 64 → L.getLsbD b = (f (64 * k + b)).testBit v
def LN (h : Hp) (w n : Nat) (f : Nat → Nat) : Prop := ∀ v k : Nat, v < w → k < n → ln1 h f v k
theorem wlb : ∀ v : Nat, v < 6 → ∀ b : Nat, b < 64 → (wlv v).toBitVec.getLsbD b = b.testBit v := by decide +kernel
theorem tb6 {k b v : Nat} (hb : b < 64) : (64 * k + b).testBit v = if v < 6 then b.testBit v else k.testBit (v - 6) := by
  have := Nat.testBit_two_pow_mul_add k (b := b) (i := 6) hb v
  exact this
theorem c_lane {h : Hp} {v k : Nat} {Q : Int → Hp → Prop} (hv : v < 8) (hk : k < 4) (hq : ∀ L : BitVec 64, (∀ b : Nat, b < 64 → L.getLsbD b = (64 * k + b).testBit v) → Q L.toInt h) : CL 0 mX7_inputLane [vi v, vi k] h Q := by
  refine sX7_inputLane ⟨fun c => absurd c (by omega), fun _ => ⟨fun c => ?_, fun c => ?_⟩⟩
  · have e : j_iand (j_ishr k ((v : Int) - 6)) 1 = if k.testBit (v - 6) then 1 else 0 := by
      rw [show (v : Int) - 6 = ((v - 6 : Nat) : Int) by omega]
      exact jbit (by omega) (by omega)
    rw [e]
    refine ⟨by omega, fun c2 => ?_, fun c2 => ?_⟩
    · have hf : k.testBit (v - 6) = false := by
        cases hb : k.testBit (v - 6) with
        | false => rfl
        | true => rw [hb] at c2; exact absurd rfl c2
      refine hq 0#64 (fun b hb => ?_)
      rw [tb6 hb, if_neg (by omega), hf]
      simp
    · have hf : k.testBit (v - 6) = true := by
        cases hb : k.testBit (v - 6) with
        | false => rw [hb] at c2; exact absurd c2 (by decide)
        | true => rfl
      refine hq (BitVec.allOnes 64) (fun b hb => ?_)
      rw [tb6 hb, if_neg (by omega), hf, BitVec.getLsbD_allOnes]
      exact decide_eq_true hb
  · refine ⟨by omega, ?_⟩
    refine hq (wlv v).toBitVec (fun b hb => ?_)
    rw [tb6 hb, if_pos (by omega)]
    exact wlb v (by omega) b hb
theorem c_st43 {w n v : Nat} {Q : Hp → Prop} (hw : w ≤ 8) (hn : n ≤ 4) (hv : v < w) : ∀ (m k : Nat) (h : Hp), k + m = n → h 83 2 = n → (∀ v' k' : Nat, v' < w → k' < n → (v' < v ∨ (v' = v ∧ k' < k)) → ln1 h (fun x => x) v' k') → (∀ g : Hp, (∀ v' k' : Nat, v' < w → k' < n → v' < v + 1 → ln1 g (fun x => x) v' k') → (∀ x y : Int, x ≠ 84 → g x y = h x y) → E 1 mX7_start 33 [(0, vr 83), (2, vi ((v + 1 : Nat) : Int))] [] g (qv Q)) → E 1 mX7_start 43 [(0, vr 83), (2, vi v), (3, vi k)] [] h (qv Q)
  | 0, k, h, hk, e, I, hq => by
    refine sX7_start_43 ⟨fun _ => ⟨by omega, ?_⟩, fun c => absurd c (by omega)⟩
    exact hq h (fun v' k' h1 h2 h3 => I v' k' h1 h2 (by omega)) (fun _ _ _ => rfl)
  | m + 1, k, h, hk, e, I, hq => by
    refine sX7_start_43 ⟨fun c => absurd c (by omega), fun _ => ⟨by omega, c_lane (by omega) (by omega) (fun L hL => ⟨by omega, ?_⟩)⟩⟩
    rw [show (k : Int) + 1 = ((k + 1 : Nat) : Int) by omega]
    refine c_st43 hw hn hv m (k + 1) _ (by omega) (by rw [up_no (by omega)]; exact e) (fun v' k' h1 h2 h3 => ?_) (fun g I2 fr => hq g I2 (fun x y hx => by rw [fr x y hx, up_no (by omega)]))
    by_cases q : v' = v ∧ k' = k
    · obtain ⟨rfl, rfl⟩ := q
      exact ⟨L, by rw [up_eq], hL⟩
    · obtain ⟨L', l1, l2⟩ := I v' k' h1 h2 (by omega)
      exact ⟨L', by rw [up_no (by omega)]; exact l1, l2⟩
theorem c_st33 {w n : Nat} {Q : Hp → Prop} (hw : w ≤ 8) (hn : n ≤ 4) : ∀ (m v : Nat) (h : Hp), v + m = w → h 83 1 = w → h 83 2 = n → (∀ v' k' : Nat, v' < w → k' < n → v' < v → ln1 h (fun x => x) v' k') → (∀ g : Hp, LN g w n (fun x => x) → (∀ x y : Int, x ≠ 84 → g x y = h x y) → Q g) → E 1 mX7_start 33 [(0, vr 83), (2, vi v)] [] h (qv Q)
  | 0, v, h, hm, e1, e2, I, hq => by
    refine sX7_start_33 ⟨fun _ => hq h (fun v' k' h1 h2 => I v' k' h1 h2 (by omega)) (fun _ _ _ => rfl), fun c => absurd c (by omega)⟩
  | m + 1, v, h, hm, e1, e2, I, hq => by
    refine sX7_start_33 ⟨fun c => absurd c (by omega), fun _ => ?_⟩
    refine c_st43 hw hn (by omega) n 0 h (by omega) e2 (fun v' k' h1 h2 h3 => I v' k' h1 h2 (by omega)) (fun g I2 fr => ?_)
    exact c_st33 hw hn m (v + 1) g (by omega) (by rw [fr _ _ (by omega)]; exact e1) (by rw [fr _ _ (by omega)]; exact e2) I2 (fun g2 J f2 => hq g2 J (fun x y hx => by rw [f2 x y hx, fr x y hx]))
def SW (h : Hp) (w : Nat) (f : Nat → Nat) : Prop := h 83 1 = w ∧ h 83 2 = wds w ∧ LN h w (wds w) f
theorem c_start {h : Hp} {w : Nat} {z : Int} {Q : Hp → Prop} (hw : w ≤ 8) (hz : z = w) (hq : ∀ g : Hp, SW g w (fun x => x) → (∀ x y : Int, ¬ (x = 83 ∨ x = 84) → g x y = h x y) → Q g) : CV 1 mX7_start [vr 83, vi z] h Q := by
  subst hz
  have e : (if (w : Int) ≤ 6 then (1 : Int) else j_ishl 1 (w - 6)) = wds w := by
    unfold wds
    by_cases q : w ≤ 6
    · rw [if_pos (by omega), if_pos q]; rfl
    · rw [if_neg (by omega), if_neg q, show (w : Int) - 6 = ((w - 6 : Nat) : Int) by omega]
      exact jshl1 (by omega)
  have wr := wds_r hw
  refine sX7_start ⟨fun _ => by omega, ?_⟩
  rw [e]
  have e1 : up (up h 83 1 w) 83 2 (wds w) 83 1 = w := by rw [up_no (by omega), up_eq]
  refine c_st33 hw wr.2 w 0 _ (by omega) e1 (by rw [up_eq]) (fun v' k' h1 h2 h3 => absurd h3 (by omega)) (fun g L fr => hq g ⟨?_, ?_, L⟩ (fun x y hx => ?_))
  · rw [fr _ _ (by omega)]; exact e1
  · rw [fr _ _ (by omega), up_eq]
  · rw [fr x y (by omega), up_no (by omega), up_no (by omega)]
theorem exq_bit {a b x v : Nat} (hab : a ≠ b) : (exq (a, b) x).testBit v = if v = a then (x.testBit a && x.testBit b) else if v = b then (x.testBit a || x.testBit b) else x.testBit v := by
  unfold exq
  show (if x.testBit a = true ∧ x.testBit b = false then x ^^^ (2 ^ a ||| 2 ^ b) else x).testBit v = _
  by_cases q : x.testBit a = true ∧ x.testBit b = false
  · rw [if_pos q, Nat.testBit_xor, Nat.testBit_or, Nat.testBit_two_pow, Nat.testBit_two_pow]
    by_cases e1 : v = a
    · subst e1; rw [if_pos rfl, q.1, q.2]; simp
    · by_cases e2 : v = b
      · subst e2; rw [if_neg e1, if_pos rfl, q.1, q.2]; simp
      · rw [if_neg e1, if_neg e2]
        have n1 : ¬ a = v := fun e => e1 e.symm
        have n2 : ¬ b = v := fun e => e2 e.symm
        simp [n1, n2]
  · rw [if_neg q]
    by_cases e1 : v = a
    · subst e1; rw [if_pos rfl]
      cases h1 : x.testBit v <;> cases h2 : x.testBit b <;> simp_all
    · by_cases e2 : v = b
      · subst e2; rw [if_neg e1, if_pos rfl]
        cases h1 : x.testBit a <;> cases h2 : x.testBit v <;> simp_all
      · rw [if_neg e1, if_neg e2]
theorem c_ps {w n a b : Nat} {f : Nat → Nat} {Q : Hp → Prop} (hn : n ≤ 4) (hw : w ≤ 8) (ha : a < w) (hb : b < w) (hab : a ≠ b) : ∀ (m k : Nat) (h : Hp), k + m = n → h 83 2 = n → (∀ v k' : Nat, v < w → k' < n → ln1 h (if k' < k then (fun x => exq (a, b) (f x)) else f) v k') → (∀ g : Hp, LN g w n (fun x => exq (a, b) (f x)) → (∀ x y : Int, x ≠ 84 → g x y = h x y) → Q g) → E 0 mX7_pass 2 [(0, vr 83), (1, vi a), (2, vi b), (3, vi k)] [] h (qv Q)
  | 0, k, h, hk, e, I, hq => by
    refine sX7_pass_2 ⟨fun _ => hq h (fun v k' h1 h2 => ?_) (fun _ _ _ => rfl), fun c => absurd c (by omega)⟩
    have := I v k' h1 h2
    rw [if_pos (by omega)] at this
    exact this
  | m + 1, k, h, hk, e, I, hq => by
    obtain ⟨La, a1, a2⟩ := I a k ha (by omega)
    obtain ⟨Lb, b1, b2⟩ := I b k hb (by omega)
    rw [if_neg (by omega)] at a2 b2
    refine sX7_pass_2 ⟨fun c => absurd c (by omega), fun _ => ⟨by omega, ?_⟩⟩
    rw [a1, b1, jland, jlor, show (k : Int) + 1 = ((k + 1 : Nat) : Int) by omega]
    refine c_ps hn hw ha hb hab m (k + 1) _ (by omega) (by rw [up_no (by omega), up_no (by omega)]; exact e) (fun v k' h1 h2 => ?_) (fun g I2 fr => hq g I2 (fun x y hx => by rw [fr x y hx, up_no (by omega), up_no (by omega)]))
    by_cases ek : k' = k
    · subst ek
      rw [if_pos (by omega)]
      by_cases eb : v = b
      · subst eb
        refine ⟨La ||| Lb, by rw [up_eq], fun i hi => ?_⟩
        show _ = (exq (a, v) (f (64 * k' + i))).testBit v
        rw [BitVec.getLsbD_or, a2 i hi, b2 i hi, exq_bit hab, if_neg (fun q => hab q.symm), if_pos rfl]
      · by_cases ea : v = a
        · subst ea
          refine ⟨La &&& Lb, by rw [up_no (by omega), up_eq], fun i hi => ?_⟩
          show _ = (exq (v, b) (f (64 * k' + i))).testBit v
          rw [BitVec.getLsbD_and, a2 i hi, b2 i hi, exq_bit hab, if_pos rfl]
        · obtain ⟨L, l1, l2⟩ := I v k' h1 h2
          rw [if_neg (by omega)] at l2
          refine ⟨L, by rw [up_no (by omega), up_no (by omega)]; exact l1, fun i hi => ?_⟩
          show _ = (exq (a, b) (f (64 * k' + i))).testBit v
          rw [exq_bit hab, if_neg ea, if_neg eb]
          exact l2 i hi
    · obtain ⟨L, l1, l2⟩ := I v k' h1 h2
      refine ⟨L, by rw [up_no (by omega), up_no (by omega)]; exact l1, ?_⟩
      by_cases q : k' < k
      · rw [if_pos (by omega)]; rw [if_pos q] at l2; exact l2
      · rw [if_neg (by omega)]; rw [if_neg q] at l2; exact l2
theorem c_pass {h : Hp} {w : Nat} {c : Nat × Nat} {za zb : Int} {f : Nat → Nat} {Q : Hp → Prop} (hw : w ≤ 8) (ea : za = c.1) (eb : zb = c.2) (hc : c.1 < w ∧ c.2 < w ∧ c.1 ≠ c.2) (S : SW h w f) (hq : ∀ g : Hp, SW g w (fun x => exq c (f x)) → (∀ x y : Int, x ≠ 84 → g x y = h x y) → Q g) : CV 0 mX7_pass [vr 83, vi za, vi zb] h Q := by
  obtain ⟨s1, s2, s3⟩ := S
  rw [ea, eb]
  refine sX7_pass (c_ps (w := w) (n := wds w) (f := f) (wds_r hw).2 hw hc.1 hc.2.1 hc.2.2 (wds w) 0 h (by omega) s2 (fun v k' h1 h2 => ?_) (fun g L fr => hq g ⟨?_, ?_, L⟩ fr))
  · rw [if_neg (by omega)]; exact s3 v k' h1 h2
  · rw [fr _ _ (by omega)]; exact s1
  · rw [fr _ _ (by omega)]; exact s2
theorem c_pa_loop {a s : Int} {w : Nat} {Q : Hp → Prop} (ha : nA a) (hw : w ≤ 8) : ∀ (rest pre : List (Nat × Nat)) (f : Nat → Nat) (h : Hp), CNt h a (w, pre ++ rest) → okL w rest → pre.length + rest.length ≤ 40 → SW h w f → (∀ g : Hp, SW g w (fun x => cry (skp s pre.length rest) (f x)) → (∀ x y : Int, x ≠ 84 → g x y = h x y) → Q g) → E 2 mX7_passAll 10 [(0, vr 83), (1, vr a), (2, vi s), (3, vi pre.length)] [] h (qv Q)
  | [], pre, f, h, A, hok, hl, S, hq => by
    have e : h a 1 = ((pre ++ []).length : Nat) := A.2.1
    rw [List.append_nil] at e
    exact sX7_passAll_10 ⟨ha, fun _ => hq h S (fun _ _ _ => rfl), fun c => absurd c (by omega)⟩
  | c :: r, pre, f, h, A, hok, hl, S, hq => by
    have e : h a 1 = ((pre ++ c :: r).length : Nat) := A.2.1
    rw [List.length_append, List.length_cons] at e
    rw [List.length_cons] at hl
    obtain ⟨b1, b2⟩ := Row_mid A.2.2
    rw [Int.zero_add] at b1 b2
    have hc := hok c (List.mem_cons_self ..)
    refine sX7_passAll_10 ⟨ha, fun c => absurd c (by omega), fun _ => ⟨fun c1 => ⟨by omega, ?_⟩, fun c1 => ⟨⟨ha, by omega⟩, c_pass hw b1 b2 hc S (fun g S2 fr => ⟨by omega, ?_⟩)⟩⟩⟩
    · rw [skp_e c1] at hq
      have := c_pa_loop (s := s) (Q := Q) ha hw r (pre ++ [c]) f h (by rw [List.append_assoc]; exact A) (okL_tail hok) (by rw [List.length_append, List.length_singleton]; omega) S (by rw [List.length_append, List.length_singleton]; exact hq)
      rw [List.length_append, List.length_singleton] at this
      exact this
    · rw [skp_n c1] at hq
      have := c_pa_loop (s := s) (Q := Q) ha hw r (pre ++ [c]) (fun x => exq c (f x)) g (by rw [List.append_assoc]; exact CNt_c (fun x y p1 p2 => fr x y (by omega)) A) (okL_tail hok) (by rw [List.length_append, List.length_singleton]; omega) S2 (by rw [List.length_append, List.length_singleton]; exact fun g2 S3 f3 => hq g2 S3 (fun x y hx => by rw [f3 x y hx, fr x y hx]))
      rw [List.length_append, List.length_singleton] at this
      exact this
theorem c_passAll {h : Hp} {a s : Int} {N : NetT} {Q : Hp → Prop} (ha : nA a) (hok : okN N) (A : CNt h a N) (hq : ∀ g : Hp, SW g N.1 (fun x => cry (skp s 0 N.2) x) → (∀ x y : Int, ¬ (x = 83 ∨ x = 84) → g x y = h x y) → Q g) : CV 2 mX7_passAll [vr 83, vr a, vi s] h Q := by
  refine sX7_passAll ⟨ha, c_start hok.2.1 A.1 (fun g S fr => ?_)⟩
  refine c_pa_loop (w := N.1) ha hok.2.1 N.2 [] (fun x => x) g (CNt_c (fun x y p1 p2 => fr x y (by omega)) A) hok.2.2.2 (by have := hok.2.2.1; show 0 + _ ≤ 40; omega) S (fun g2 S2 f2 => hq g2 S2 (fun x y hx => by rw [f2 x y (by omega), fr x y hx]))
