/-! zero-one values as the bits of a number -/
def exq (c : Nat × Nat) (x : Nat) : Nat := if x.testBit c.1 = true ∧ x.testBit c.2 = false then x ^^^ (2 ^ c.1 ||| 2 ^ c.2) else x
def cry : List (Nat × Nat) → Nat → Nat
  | [], x => x
  | c :: r, x => cry r (exq c x)
def skp (s : Int) : Nat → List (Nat × Nat) → List (Nat × Nat)
  | _, [] => []
  | i, c :: r => if (i : Int) = s then skp s (i + 1) r else c :: skp s (i + 1) r
theorem skp_e {s : Int} {i : Nat} {c : Nat × Nat} {r : List (Nat × Nat)} (e : (i : Int) = s) : skp s i (c :: r) = skp s (i + 1) r := by
  show (if _ then _ else _) = _
  rw [if_pos e]
theorem skp_n {s : Int} {i : Nat} {c : Nat × Nat} {r : List (Nat × Nat)} (e : ¬ (i : Int) = s) : skp s i (c :: r) = c :: skp s (i + 1) r := by
  show (if _ then _ else _) = _
  rw [if_neg e]
theorem skp_no {s : Int} : ∀ (cs : List (Nat × Nat)) (i : Nat), s < i → skp s i cs = cs
  | [], _, _ => rfl
  | c :: r, i, h => by rw [skp_n (by omega), skp_no r (i + 1) (by omega)]
theorem skp_del : ∀ (cs : List (Nat × Nat)) (i p : Nat), p < cs.length → skp ((i + p : Nat) : Int) i cs = del cs p
  | [], _, _, h => absurd h (Nat.not_lt_zero _)
  | c :: r, i, 0, h => by
    rw [skp_e (by omega), skp_no r (i + 1) (by omega)]
    rfl
  | c :: r, i, p + 1, h => by
    rw [skp_n (by omega), show i + (p + 1) = (i + 1) + p by omega, skp_del r (i + 1) p (by rw [List.length_cons] at h; omega)]
    unfold del
    rw [List.take_succ_cons, List.drop_succ_cons, List.cons_append]
theorem skp0 {cs : List (Nat × Nat)} {p : Nat} (h : p < cs.length) : skp p 0 cs = del cs p := by
  have := skp_del cs 0 p h
  rw [Nat.zero_add] at this
  exact this
theorem p256 {w : Nat} (hw : w ≤ 8) : 2 ^ w ≤ 256 := (Nat.pow_le_pow_right (by decide) hw : 2 ^ w ≤ 2 ^ 8)
theorem p_lt {a w : Nat} (ha : a < w) : 2 ^ a < 2 ^ w := Nat.pow_lt_pow_right (by decide) ha
theorem exq_lt {c : Nat × Nat} {x w : Nat} (h1 : c.1 < w) (h2 : c.2 < w) (hx : x < 2 ^ w) : exq c x < 2 ^ w := by
  unfold exq
  split
  · exact Nat.xor_lt_two_pow hx (Nat.or_lt_two_pow (p_lt h1) (p_lt h2))
  · exact hx
theorem cry_lt {w : Nat} : ∀ (cs : List (Nat × Nat)) (x : Nat), okL w cs → x < 2 ^ w → cry cs x < 2 ^ w
  | [], x, _, hx => hx
  | c :: r, x, hok, hx => by
    have hc := hok c (List.mem_cons_self ..)
    exact cry_lt r (exq c x) (okL_tail hok) (exq_lt hc.1 hc.2.1 hx)
theorem bit_le {x a b : Nat} (hx : x < 256) (ha : a < 8) (hb : b < 8) : (j_iand (j_ishr x a) 1 ≤ j_iand (j_ishr x b) 1) ↔ ¬ (x.testBit a = true ∧ x.testBit b = false) := by
  rw [jbit (by omega) (by omega), jbit (by omega) (by omega)]
  cases x.testBit a <;> cases x.testBit b <;> decide
theorem bit_gt {x a b : Nat} (hx : x < 256) (ha : a < 8) (hb : b < 8) : (j_iand (j_ishr x a) 1 > j_iand (j_ishr x b) 1) ↔ (x.testBit a = true ∧ x.testBit b = false) := by
  rw [jbit (by omega) (by omega), jbit (by omega) (by omega)]
  cases x.testBit a <;> cases x.testBit b <;> decide
theorem bit_x {x a b : Nat} (hx : x < 256) (ha : a < 8) (hb : b < 8) : j_ixor x (j_ior (j_ishl 1 a) (j_ishl 1 b)) = ((x ^^^ (2 ^ a ||| 2 ^ b) : Nat) : Int) := by
  have h1 : 2 ^ a < 2 ^ 8 := p_lt ha
  have h2 : 2 ^ b < 2 ^ 8 := p_lt hb
  have h3 : 2 ^ a ||| 2 ^ b < 2 ^ 8 := Nat.or_lt_two_pow h1 h2
  rw [jshl1 (by omega), jshl1 (by omega), jor (by omega) (by omega), jxor (by omega) (by omega)]
theorem bit_c {x : Nat} {c : Nat × Nat} (hx : x < 256) (ha : c.1 < 8) (hb : c.2 < 8) : (if (j_iand (j_ishr x c.1) 1) ≤ (j_iand (j_ishr x c.2) 1) then (x : Int) else (j_ixor x (j_ior (j_ishl 1 c.1) (j_ishl 1 c.2)))) = ((exq c x : Nat) : Int) := by
  unfold exq
  by_cases q : x.testBit c.1 = true ∧ x.testBit c.2 = false
  · rw [if_pos q, if_neg (by rw [bit_le hx ha hb]; exact fun c => c q), bit_x hx ha hb]
  · rw [if_neg q, if_pos ((bit_le hx ha hb).2 q)]
theorem m_mk_loop {k w : Nat} {s : Int} {h : Hp} {Q : Int → Hp → Prop} (hk : k < 4) (hw : w ≤ 8) : ∀ (rest pre : List (Nat × Nat)) (x : Nat), MNt h k (w, pre ++ rest) → okL w rest → pre.length + rest.length ≤ 40 → x < 2 ^ w → Q (cry (skp s pre.length rest) x) h → E 0 mX11_makes 6 [(0, vr 103), (1, vi k), (3, vi s), (4, vi x), (5, vi pre.length)] [] h (qi Q)
  | [], pre, x, A, hok, hl, hx, hq => by
    have e : h 105 k = ((pre ++ []).length : Nat) := A.2.1
    rw [List.append_nil] at e
    exact sX11_makes_6 ⟨by omega, fun _ => hq, fun c => absurd c (by omega)⟩
  | c :: r, pre, x, A, hok, hl, hx, hq => by
    have e : h 105 k = ((pre ++ c :: r).length : Nat) := A.2.1
    rw [List.length_append, List.length_cons] at e
    rw [List.length_cons] at hl
    obtain ⟨b1, b2⟩ := Row_mid A.2.2
    have hc := hok c (List.mem_cons_self ..)
    have h256 := p256 hw
    have nx : ∀ x' : Nat, x' < 2 ^ w → Q (cry (skp s (pre.length + 1) r) x') h → E 0 mX11_makes 6 [(0, vr 103), (1, vi k), (3, vi s), (4, vi x'), (5, vi (pre.length + 1))] [] h (qi Q) := fun x' hx' hq' => by
      have := m_mk_loop (s := s) (Q := Q) hk hw r (pre ++ [c]) x' (by rw [List.append_assoc]; exact A) (okL_tail hok) (by rw [List.length_append, List.length_singleton]; omega) hx' (by rw [List.length_append, List.length_singleton]; exact hq')
      rw [List.length_append, List.length_singleton] at this
      exact this
    refine sX11_makes_6 ⟨by omega, fun c => absurd c (by omega), fun _ => ⟨by omega, fun c1 => ⟨by omega, nx x hx ?_⟩, fun c1 => ?_⟩⟩
    · rw [skp_e c1] at hq; exact hq
    · rw [skp_n c1] at hq
      have hq : Q (cry (skp s (pre.length + 1) r) (exq c x)) h := hq
      rw [b1, b2]
      refine ⟨fun c2 => ⟨by omega, nx x hx ?_⟩, fun c2 x8 hx8 => ⟨by omega, ?_⟩⟩
      · have q := (bit_le (by omega) (by omega) (by omega)).1 c2
        unfold exq at hq
        rw [if_neg q] at hq
        exact hq
      · have q := (bit_gt (by omega) (by omega) (by omega)).1 c2
        rw [hx8, bit_x (by omega) (by omega) (by omega)]
        have lt := exq_lt hc.1 hc.2.1 hx
        unfold exq at hq lt
        rw [if_pos q] at hq lt
        exact nx _ lt hq
theorem m_makes {k x : Nat} {s : Int} {N : NetT} {h : Hp} {Q : Int → Hp → Prop} (hk : k < 4) (hok : okN N) (M : MNt h k N) (hx : x < 2 ^ N.1) (hq : Q (cry (skp s 0 N.2) x) h) : CI 0 mX11_makes [vr 103, vi k, vi x, vi s] h Q := by
  refine sX11_makes (m_mk_loop (w := N.1) hk hok.2.1 N.2 [] x M hok.2.2.2 (by have := hok.2.2.1; show 0 + _ ≤ 40; omega) hx hq)
theorem c_cr_loop {a : Int} {w : Nat} {h : Hp} {Q : Int → Hp → Prop} (ha : nA a) (hw : w ≤ 8) : ∀ (rest pre : List (Nat × Nat)) (x : Nat), CNt h a (w, pre ++ rest) → okL w rest → pre.length + rest.length ≤ 40 → x < 2 ^ w → Q (cry rest x) h → E 1 mX3_carry 4 [(0, vr a), (2, vi x), (3, vi pre.length)] [] h (qi Q)
  | [], pre, x, A, hok, hl, hx, hq => by
    have e : h a 1 = ((pre ++ []).length : Nat) := A.2.1
    rw [List.append_nil] at e
    exact sX3_carry_4 ⟨ha, fun _ => hq, fun c => absurd c (by omega)⟩
  | c :: r, pre, x, A, hok, hl, hx, hq => by
    have e : h a 1 = ((pre ++ c :: r).length : Nat) := A.2.1
    rw [List.length_append, List.length_cons] at e
    rw [List.length_cons] at hl
    obtain ⟨b1, b2⟩ := Row_mid A.2.2
    rw [Int.zero_add] at b1 b2
    have hc := hok c (List.mem_cons_self ..)
    have h256 := p256 hw
    refine sX3_carry_4 ⟨ha, fun c => absurd c (by omega), fun _ => ⟨⟨ha, by omega⟩, fun x4 hx4 => ⟨by omega, ?_⟩⟩⟩
    rw [b1, b2, bit_c (by omega) (by omega) (by omega)] at hx4
    rw [hx4]
    have := c_cr_loop (Q := Q) ha hw r (pre ++ [c]) (exq c x) (by rw [List.append_assoc]; exact A) (okL_tail hok) (by rw [List.length_append, List.length_singleton]; omega) (exq_lt hc.1 hc.2.1 hx) hq
    rw [List.length_append, List.length_singleton] at this
    exact this
theorem c_carry {a : Int} {x : Nat} {N : NetT} {h : Hp} {Q : Int → Hp → Prop} (ha : nA a) (hok : okN N) (A : CNt h a N) (hx : x < 2 ^ N.1) (hq : Q (cry N.2 x) h) : CI 1 mX3_carry [vr a, vi x] h Q := by
  refine sX3_carry (c_cr_loop (w := N.1) ha hok.2.1 N.2 [] x A hok.2.2.2 (by have := hok.2.2.1; show 0 + _ ≤ 40; omega) hx hq)
theorem op_outputOf {h : Hp} {k x : Int} (hR : Rl h) : OpI 2 mX10_outputOf 2 mX11_outputOf [vi k, vi x] h := by
  obtain ⟨nets, hist, H⟩ := Rl_RlN hR
  by_cases hk : 0 ≤ k ∧ k < 4
  · obtain ⟨j, hj, rfl⟩ := toN hk.1 hk.2
    obtain ⟨n1, n2, n3⟩ := H.1 j hj
    have w8 := n1.2.1
    have h256 := p256 w8
    have hp := Nat.two_pow_pos (nets j).1
    have e1 : j_ishl 1 (h (4 * j) 0) = ((2 ^ (nets j).1 : Nat) : Int) := by rw [n2.1]; exact jshl1 (by omega)
    have e2 : j_ishl 1 (h 104 j) = ((2 ^ (nets j).1 : Nat) : Int) := by rw [n3.1]; exact jshl1 (by omega)
    generalize hP : 2 ^ (nets j).1 = P at h256 hp e1 e2
    by_cases hx : 0 ≤ x ∧ x < P
    · obtain ⟨X, rfl⟩ : ∃ X : Nat, x = X := ⟨x.toNat, by omega⟩
      refine op_keep (r := (cry (nets j).2 X : Nat)) H ?_ (fun h1 ms => ?_)
      · exact sX10_outputOf ⟨fun _ => ⟨fun c => absurd c (by omega), fun _ => ⟨by omega, fun _ => ⟨by omega, c_carry (N := nets j) (by omega) n1 n2 (by omega) ⟨rfl, fun _ _ _ => rfl⟩⟩, fun c => absurd c (by omega)⟩⟩, fun c => absurd c (by omega)⟩
      · obtain ⟨m1, m2, m3, m4, e⟩ := ms
        have e3 : j_ishl 1 (h1 104 j) = (P : Int) := by rw [e _ _ (by omega)]; exact e2
        have M := m_makes (s := -1) (Q := fun r2 h2 => r2 = ((cry (nets j).2 X : Nat) : Int) ∧ ∀ x y : Int, kM0 x y → h2 x y = h1 x y) hj n1 (m1 j hj).2 (x := X) (by omega) (by rw [skp_no _ _ (by omega)]; exact ⟨rfl, fun _ _ _ => rfl⟩)
        exact sX11_outputOf ⟨fun _ => ⟨by omega, fun c => absurd c (by omega), fun _ => M⟩, fun c => absurd c (by omega)⟩
    · have no : CI 2 mX11_outputOf [vr 103, vi j, vi x] h (fun r2 h2 => -2 = r2 ∧ Rl h2) := sX11_outputOf ⟨fun _ => ⟨by omega, fun _ => ⟨rfl, hR⟩, fun c => absurd c (by omega)⟩, fun c => absurd c (by omega)⟩
      exact sX10_outputOf ⟨fun _ => ⟨fun _ => no, fun _ => ⟨by omega, fun c => absurd c (by omega), fun _ => no⟩⟩, fun c => absurd c (by omega)⟩
  · exact sX10_outputOf ⟨fun c => absurd c (by omega), fun _ => sX11_outputOf ⟨fun c => absurd c (by omega), fun _ => ⟨rfl, hR⟩⟩⟩
