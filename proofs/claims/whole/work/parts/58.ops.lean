/-! isSorter, firstFailure, isSelector, isRedundant -/
theorem IsL_ex (p : Nat → Bool) : ∀ n : Nat, ∃ z : Int, IsL p n z
  | 0 => ⟨-1, Or.inl ⟨rfl, fun x hx => absurd hx (by omega)⟩⟩
  | n + 1 => by
    obtain ⟨z, hz⟩ := IsL_ex p n
    rcases hz with ⟨e, a⟩ | ⟨X, e, b, c, d⟩
    · cases hb : p n with
      | true => exact ⟨n, Or.inr ⟨n, rfl, by omega, hb, a⟩⟩
      | false =>
        refine ⟨-1, Or.inl ⟨rfl, fun x hx => ?_⟩⟩
        by_cases q : x = n
        · rw [q]; exact hb
        · exact a x (by omega)
    · exact ⟨z, Or.inr ⟨X, e, by omega, c, d⟩⟩
theorem op_isSorter {h : Hp} {k : Int} (hR : Rl h) : OpI 4 mX10_isSorter 2 mX11_isSorter_ [vi k] h := by
  obtain ⟨nets, hist, H⟩ := Rl_RlN hR
  by_cases hk : 0 ≤ k ∧ k < 4
  · obtain ⟨j, hj, rfl⟩ := toN hk.1 hk.2
    obtain ⟨n1, n2, n3⟩ := H.1 j hj
    obtain ⟨z, hz⟩ := IsL_ex (fun x => badB (cry (skp (-1) 0 (nets j).2) x) ((nets j).1 - 1)) (2 ^ (nets j).1)
    refine op_keep (r := if (if z = -1 then (1 : Int) else 0) ≠ 0 then 1 else 0) H ?_ (fun h1 ms => ?_)
    · refine sX10_isSorter ⟨fun c => absurd c (by omega), fun _ => ⟨by omega, c_sorts (N := nets j) (by omega) n1 n2 (fun z' g hz' fr => ⟨?_, fun x y hx => fr x y (by unfold kC0 at hx; omega)⟩)⟩⟩
      rw [IsL_u hz hz']
    · obtain ⟨m1, m2, m3, m4, e⟩ := ms
      refine sX11_isSorter_ ⟨fun _ => m_isSorter (N := nets j) hj n1 (m1 j hj).2 (fun z' hz' => ⟨?_, fun _ _ _ => rfl⟩), fun c => absurd c (by omega)⟩
      rw [IsL_u hz hz']
  · exact sX10_isSorter ⟨fun _ => sX11_isSorter_ ⟨fun c => absurd c (by omega), fun _ => ⟨rfl, hR⟩⟩, fun c => absurd c (by omega)⟩
theorem m_ff {h : Hp} {k : Nat} {N : NetT} {Q : Int → Hp → Prop} (hk : k < 4) (hok : okN N) (M : MNt h k N) (hq : ∀ z : Int, IsL (fun x => badB (cry N.2 x) (N.1 - 1)) (2 ^ N.1) z → Q (if z ≠ -1 then z else -4) h) : ∀ (m i : Nat), i + m = 2 ^ N.1 → (∀ x : Nat, x < i → badB (cry N.2 x) (N.1 - 1) = false) → E 2 mX11_firstFailure 11 [(0, vr 103), (1, vi k), (2, vi i)] [] h (qi Q)
  | 0, i, hm, I => by
    have w8 := hok.2.1
    have e1 : j_ishl 1 (h 104 k) = ((2 ^ N.1 : Nat) : Int) := by rw [M.1]; exact jshl1 (by omega)
    refine sX11_firstFailure_11 ⟨by omega, fun _ => ?_, fun c => absurd c (by omega)⟩
    exact hq (-1) (Or.inl ⟨rfl, fun x hx => I x (by omega)⟩)
  | m + 1, i, hm, I => by
    have w8 := hok.2.1
    have w2 := hok.1
    have h256 := p256 w8
    have e1 : j_ishl 1 (h 104 k) = ((2 ^ N.1 : Nat) : Int) := by rw [M.1]; exact jshl1 (by omega)
    have lt := cry_lt N.2 i hok.2.2.2 (w := N.1) (by omega)
    refine sX11_firstFailure_11 ⟨by omega, fun c => absurd c (by omega), fun _ => ⟨by omega, m_makes hk hok M (by omega) ?_⟩⟩
    rw [skp_no _ _ (by omega)]
    refine m_isSorted M.1 rfl (by omega) w8 (by omega) ?_
    cases hb : badB (cry N.2 i) (N.1 - 1) with
    | true =>
      refine ⟨fun c => absurd rfl c, fun _ => ?_⟩
      have := hq i (Or.inr ⟨i, rfl, by omega, hb, I⟩)
      rw [if_pos (by omega)] at this
      exact this
    | false =>
      refine ⟨fun _ => ⟨by omega, ?_⟩, fun c => absurd c (by decide)⟩
      rw [show (i : Int) + 1 = ((i + 1 : Nat) : Int) by omega]
      refine m_ff hk hok M hq m (i + 1) (by omega) (fun x hx => ?_)
      by_cases q : x = i
      · rw [q]; exact hb
      · exact I x (by omega)
theorem op_firstFailure {h : Hp} {k : Int} (hR : Rl h) : OpI 3 mX10_firstFailure 2 mX11_firstFailure [vi k] h := by
  obtain ⟨nets, hist, H⟩ := Rl_RlN hR
  by_cases hk : 0 ≤ k ∧ k < 4
  · obtain ⟨j, hj, rfl⟩ := toN hk.1 hk.2
    obtain ⟨n1, n2, n3⟩ := H.1 j hj
    have w2 := n1.1
    obtain ⟨z, hz⟩ := IsL_ex (fun x => badB (cry (nets j).2 x) ((nets j).1 - 1)) (2 ^ (nets j).1)
    refine op_keep (r := if z ≠ -1 then z else -4) H ?_ (fun h1 ms => ?_)
    · refine sX10_firstFailure ⟨fun _ => ⟨by omega, c_passAll (N := nets j) (by omega) n1 n2 (fun g S fr => ?_)⟩, fun c => absurd c (by omega)⟩
      have S2 : SW g (nets j).1 (fun x => cry (nets j).2 x) := by
        rw [skp_no _ _ (by omega)] at S
        exact S
      refine c_lowest (by omega) n1.2.1 n1.2.2.2 S2 (fun z' hz' => ⟨?_, fun x y hx => fr x y (by unfold kC0 at hx; omega)⟩)
      rw [IsL_u hz hz']
    · obtain ⟨m1, m2, m3, m4, e⟩ := ms
      refine sX11_firstFailure ⟨fun _ => m_ff (N := nets j) hj n1 (m1 j hj).2 (fun z' hz' => ⟨?_, fun _ _ _ => rfl⟩) (2 ^ (nets j).1) 0 (by omega) (fun x hx => absurd hx (by omega)), fun c => absurd c (by omega)⟩
      rw [IsL_u hz hz']
  · exact sX10_firstFailure ⟨fun c => absurd c (by omega), fun _ => sX11_firstFailure ⟨fun c => absurd c (by omega), fun _ => ⟨rfl, hR⟩⟩⟩
/-! the number of ones -/
def pop (x : Nat) : Nat → Nat
  | 0 => 0
  | i + 1 => pop x i + (if x.testBit i then 1 else 0)
theorem pop_le {x : Nat} : ∀ i : Nat, pop x i ≤ i
  | 0 => Nat.le_refl _
  | i + 1 => by
    have := pop_le (x := x) i
    show pop x i + _ ≤ i + 1
    split <;> omega
def q1 (x : Int) : Int := x - (j_iand (j_iushr x 1) 1431655765)
def q2 (x : Int) : Int := (j_iand x 858993459) + (j_iand (j_iushr x 2) 858993459)
def q3 (x : Int) : Int := x + (j_iushr x 4)
def q4 (x : Int) : Int := j_iand x 252645135
def q5 (x : Int) : Int := x + (j_iushr x 8)
def q6 (x : Int) : Int := x + (j_iushr x 16)
theorem bc32 : ∀ x : Nat, x < 256 → rj (q1 x) ∧ rj (q2 (q1 x)) ∧ rj (q3 (q2 (q1 x))) ∧ rj (q5 (q4 (q3 (q2 (q1 x))))) ∧ rj (q6 (q5 (q4 (q3 (q2 (q1 x)))))) ∧ j_iand (q6 (q5 (q4 (q3 (q2 (q1 x)))))) 63 = ((pop x 8 : Nat) : Int) := by decide +kernel
theorem c_bc32 {h : Hp} {x : Nat} {Q : Int → Hp → Prop} (hx : x < 256) (hq : Q (pop x 8 : Nat) h) : CI 0 mJ6_bitCount_0f7a4 [vi x] h Q := by
  obtain ⟨b1, b2, b3, b4, b5, b6⟩ := bc32 x hx
  refine sJ6_bitCount_0f7a4 ⟨b1, fun x2 h2 => ?_⟩
  have e2 : x2 = q1 x := h2
  subst e2
  refine ⟨b2, fun x4 h4 => ?_⟩
  have e4 : x4 = q2 (q1 x) := h4
  subst e4
  refine ⟨b3, fun x6 h6 => ?_⟩
  have e6 : x6 = q4 (q3 (q2 (q1 x))) := h6
  subst e6
  refine ⟨⟨b4, b5⟩, fun x8 h8 => ?_⟩
  have e8 : x8 = q6 (q5 (q4 (q3 (q2 (q1 x))))) := h8
  subst e8
  rw [b6]
  exact hq
theorem m_on {h : Hp} {x : Nat} {Q : Int → Hp → Prop} (hx : x < 256) (hq : Q (pop x 8 : Nat) h) : ∀ (m i : Nat), i + m = 8 → E 0 mX11_ones 4 [(0, vi x), (1, vi (pop x i : Nat)), (2, vi i)] [] h (qi Q)
  | 0, i, hm => by
    have e : i = 8 := by omega
    subst e
    exact sX11_ones_4 ⟨fun _ => hq, fun c => absurd c (by omega)⟩
  | m + 1, i, hm => by
    have pl := pop_le (x := x) i
    have e : ((pop x i : Nat) : Int) + (j_iand (j_ishr x i) 1) = ((pop x (i + 1) : Nat) : Int) := by
      rw [jbit (by omega) (by omega)]
      show _ = ((pop x i + (if x.testBit i then 1 else 0) : Nat) : Int)
      split <;> omega
    have pl2 := pop_le (x := x) (i + 1)
    refine sX11_ones_4 ⟨fun c => absurd c (by omega), fun _ => ?_⟩
    rw [e]
    refine ⟨by omega, fun x4 hx4 => ⟨by omega, ?_⟩⟩
    subst hx4
    rw [show (i : Int) + 1 = ((i + 1 : Nat) : Int) by omega]
    exact m_on hx hq m (i + 1) (by omega)
theorem m_ones {h : Hp} {x : Nat} {Q : Int → Hp → Prop} (hx : x < 256) (hq : Q (pop x 8 : Nat) h) : CI 0 mX11_ones [vi x] h Q := sX11_ones (m_on hx hq 8 0 (by omega))
def selB (w s : Nat) (cs : List (Nat × Nat)) (x : Nat) : Bool := (cry cs x).testBit s == decide ((w : Int) - pop x 8 ≤ s)
def IsE (p : Nat → Bool) (n : Nat) (r : Int) : Prop := (r = 0 ∧ ∀ x : Nat, x < n → p x = false) ∨ (r = 1 ∧ ∃ x : Nat, x < n ∧ p x = true)
theorem IsE_ex (p : Nat → Bool) (n : Nat) : ∃ r : Int, IsE p n r := by
  obtain ⟨z, hz⟩ := IsL_ex p n
  rcases hz with ⟨e, a⟩ | ⟨X, e, b, c, d⟩
  · exact ⟨0, Or.inl ⟨rfl, a⟩⟩
  · exact ⟨1, Or.inr ⟨rfl, X, b, c⟩⟩
theorem IsE_u {p : Nat → Bool} {n : Nat} {z z' : Int} (h : IsE p n z) (h' : IsE p n z') : z = z' := by
  rcases h with ⟨e, a⟩ | ⟨e, X, b, c⟩ <;> rcases h' with ⟨e', a'⟩ | ⟨e', X', b', c'⟩
  · rw [e, e']
  · have := a X' b'
    rw [c'] at this
    exact absurd this (by decide)
  · have := a' X b
    rw [c] at this
    exact absurd this (by decide)
  · rw [e, e']
theorem IsE_mod {p : Nat → Bool} {n m : Nat} {z : Int} (h : IsE p n z) (hm : 0 < m) (hmn : m ≤ n) (per : ∀ x : Nat, p x = p (x % m)) : IsE p m z := by
  rcases h with ⟨e, a⟩ | ⟨e, X, b, c⟩
  · exact Or.inl ⟨e, fun x hx => a x (by omega)⟩
  · exact Or.inr ⟨e, X % m, Nat.mod_lt X hm, by rw [← per X]; exact c⟩
theorem sel_t {w s x : Nat} {cs : List (Nat × Nat)} {b z : Int} (eb : b = if (cry cs x).testBit s then 1 else 0) (ez : z = (w : Int) - pop x 8) : (b = (if (s : Int) ≥ z then (1 : Int) else 0)) ↔ selB w s cs x = true := by
  unfold selB
  rw [eb, ez]
  by_cases q : (w : Int) - pop x 8 ≤ s
  · rw [if_pos (c := (s : Int) ≥ _) q, decide_eq_true q]
    cases (cry cs x).testBit s <;> decide
  · rw [if_neg (c := (s : Int) ≥ _) q, decide_eq_false q]
    cases (cry cs x).testBit s <;> decide
theorem c_se {h : Hp} {w s : Nat} {cs : List (Nat × Nat)} {Q : Int → Hp → Prop} (hw : w ≤ 8) (hs : s < w) (S : SW h w (fun x => cry cs x)) (hq : ∀ r : Int, IsE (fun x => !selB w s cs x) (2 ^ w) r → Q (1 - r) h) : ∀ (m i : Nat), i + m = 2 ^ w → (∀ x : Nat, x < i → selB w s cs x = true) → E 1 mX7_selects 2 [(0, vr 83), (1, vi s), (2, vi i)] [] h (qi Q)
  | 0, i, hm, I => by
    have e1 : j_ishl 1 (h 83 1) = ((2 ^ w : Nat) : Int) := by rw [S.1]; exact jshl1 (by omega)
    refine sX7_selects_2 ⟨fun _ => ?_, fun c => absurd c (by omega)⟩
    exact hq 0 (Or.inl ⟨rfl, fun x hx => by show (!selB w s cs x) = false; rw [I x (by omega)]; rfl⟩)
  | m + 1, i, hm, I => by
    have h256 := p256 hw
    have wp := wds_p hw
    have wr := wds_r hw
    have e0 := S.1
    have e1 : j_ishl 1 (h 83 1) = ((2 ^ w : Nat) : Int) := by rw [S.1]; exact jshl1 (by omega)
    have pl := pop_le (x := i) 8
    have ed : j_idiv i 64 = ((i / 64 : Nat) : Int) := jdiv (b := 64) (by omega) (by omega)
    have em : j_irem i 64 = ((i % 64 : Nat) : Int) := jrem (b := 64) (by omega) (by omega)
    obtain ⟨L, l1, l2⟩ := S.2.2 s (i / 64) hs (by omega)
    have l3 := l2 (i % 64) (Nat.mod_lt _ (by decide))
    rw [Nat.div_add_mod] at l3
    refine sX7_selects_2 ⟨fun c => absurd c (by omega), fun _ => c_bc32 (by omega) ?_⟩
    rw [ed, em, l1, jlbit (Nat.mod_lt _ (by decide)), l3]
    have key := sel_t (w := w) (s := s) (x := i) (cs := cs) (b := if (cry cs i).testBit s then 1 else 0) (z := h 83 1 - (pop i 8 : Nat)) rfl (by omega)
    refine ⟨by omega, fun c => ⟨by omega, ?_⟩, fun c => ?_⟩
    · rw [show (i : Int) + 1 = ((i + 1 : Nat) : Int) by omega]
      refine c_se hw hs S hq m (i + 1) (by omega) (fun x hx => ?_)
      by_cases q : x = i
      · rw [q]; exact key.1 c
      · exact I x (by omega)
    · have : Q (1 - 1) h := hq 1 (Or.inr ⟨rfl, i, by omega, by
        show (!selB w s cs i) = true
        cases hb : selB w s cs i with
        | false => rfl
        | true => exact absurd (key.2 hb) c⟩)
      exact this
theorem m_se {h : Hp} {k s : Nat} {N : NetT} {Q : Int → Hp → Prop} (hk : k < 4) (hok : okN N) (hs : s < N.1) (M : MNt h k N) (hq : ∀ r : Int, IsE (fun x => !selB N.1 s N.2 x) (2 ^ N.1) r → Q (1 - r) h) : ∀ (m i : Nat), i + m = 2 ^ N.1 → (∀ x : Nat, x < i → selB N.1 s N.2 x = true) → E 2 mX11_isSelector 20 [(0, vr 103), (1, vi k), (2, vi s), (3, vi i)] [] h (qi Q)
  | 0, i, hm, I => by
    have w8 := hok.2.1
    have e1 : j_ishl 1 (h 104 k) = ((2 ^ N.1 : Nat) : Int) := by rw [M.1]; exact jshl1 (by omega)
    refine sX11_isSelector_20 ⟨by omega, fun _ => ?_, fun c => absurd c (by omega)⟩
    exact hq 0 (Or.inl ⟨rfl, fun x hx => by show (!selB N.1 s N.2 x) = false; rw [I x (by omega)]; rfl⟩)
  | m + 1, i, hm, I => by
    have w8 := hok.2.1
    have h256 := p256 w8
    have e0 := M.1
    have e1 : j_ishl 1 (h 104 k) = ((2 ^ N.1 : Nat) : Int) := by rw [M.1]; exact jshl1 (by omega)
    have pl := pop_le (x := i) 8
    have lt := cry_lt N.2 i hok.2.2.2 (w := N.1) (by omega)
    refine sX11_isSelector_20 ⟨by omega, fun c => absurd c (by omega), fun _ => ⟨by omega, m_ones (by omega) ⟨by omega, m_makes hk hok M (by omega) ?_⟩⟩⟩
    rw [skp_no _ _ (by omega)]
    have key := sel_t (w := N.1) (s := s) (x := i) (cs := N.2) (b := j_iand (j_ishr (cry N.2 i : Nat) s) 1) (z := h 104 k - (pop i 8 : Nat)) (jbit (by omega) (by omega)) (by omega)
    refine ⟨fun c => ⟨by omega, ?_⟩, fun c => ?_⟩
    · rw [show (i : Int) + 1 = ((i + 1 : Nat) : Int) by omega]
      refine m_se hk hok hs M hq m (i + 1) (by omega) (fun x hx => ?_)
      by_cases q : x = i
      · rw [q]; exact key.1 c
      · exact I x (by omega)
    · have : Q (1 - 1) h := hq 1 (Or.inr ⟨rfl, i, by omega, by
        show (!selB N.1 s N.2 i) = true
        cases hb : selB N.1 s N.2 i with
        | false => rfl
        | true => exact absurd (key.2 hb) c⟩)
      exact this
theorem op_isSelector {h : Hp} {k s : Int} (hR : Rl h) : OpI 3 mX10_isSelector 2 mX11_isSelector [vi k, vi s] h := by
  obtain ⟨nets, hist, H⟩ := Rl_RlN hR
  by_cases hk : 0 ≤ k ∧ k < 4
  · obtain ⟨j, hj, rfl⟩ := toN hk.1 hk.2
    obtain ⟨n1, n2, n3⟩ := H.1 j hj
    have w8 := n1.2.1
    have e1 := n2.1
    have e2 := n3.1
    by_cases hs : 0 ≤ s ∧ s < (nets j).1
    · obtain ⟨S, rfl⟩ : ∃ S : Nat, s = S := ⟨s.toNat, by omega⟩
      obtain ⟨r, hr⟩ := IsE_ex (fun x => !selB (nets j).1 S (nets j).2 x) (2 ^ (nets j).1)
      have r01 : r = 0 ∨ r = 1 := by
        rcases hr with a | a
        · exact Or.inl a.1
        · exact Or.inr a.1
      refine op_keep (r := 1 - r) H ?_ (fun h1 ms => ?_)
      · refine sX10_isSelector ⟨fun c => absurd c (by omega), fun _ => ⟨⟨by omega, by omega, fun _ => by omega⟩, fun _ => ⟨by omega, c_passAll (N := nets j) (by omega) n1 n2 (fun g S2 fr => ?_)⟩, fun c => absurd c (by omega)⟩⟩
        have S2 : SW g (nets j).1 (fun x => cry (nets j).2 x) := by
          rw [skp_no _ _ (by omega)] at S2
          exact S2
        refine sX7_selects (c_se w8 (by omega) S2 (fun r' hr' => ⟨?_, fun x y hx => fr x y (by unfold kC0 at hx; omega)⟩) (2 ^ (nets j).1) 0 (by omega) (fun x hx => absurd hx (by omega)))
        rw [← IsE_u hr hr']
        rcases r01 with q | q <;> rw [q] <;> rfl
      · obtain ⟨m1, m2, m3, m4, e⟩ := ms
        have g1 := (m1 j hj).2.1
        refine sX11_isSelector ⟨fun c => absurd c (by omega), fun _ => ⟨by omega, fun _ => ?_, fun c => absurd c (by omega)⟩⟩
        refine m_se (N := nets j) hj n1 (by omega) (m1 j hj).2 (fun r' hr' => ⟨?_, fun _ _ _ => rfl⟩) (2 ^ (nets j).1) 0 (by omega) (fun x hx => absurd hx (by omega))
        rw [IsE_u hr hr']
    · have no : CI 2 mX11_isSelector [vr 103, vi j, vi s] h (fun r2 h2 => -1 = r2 ∧ Rl h2) := sX11_isSelector ⟨fun c => absurd c (by omega), fun _ => ⟨by omega, fun c => absurd c (by omega), fun _ => ⟨rfl, hR⟩⟩⟩
      exact sX10_isSelector ⟨fun c => absurd c (by omega), fun _ => ⟨⟨by omega, by omega, fun _ => by omega⟩, fun c => absurd c (by omega), fun _ => no⟩⟩
  · exact sX10_isSelector ⟨fun _ => sX11_isSelector ⟨fun _ => ⟨rfl, hR⟩, fun c => absurd c (by omega)⟩, fun c => absurd c (by omega)⟩
/-! isRedundant -/
def exB (c : Nat × Nat) (y : Nat) : Bool := y.testBit c.1 && !y.testBit c.2
theorem exB_same {w : Nat} {c : Nat × Nat} {y y' : Nat} (hc : c.1 < w ∧ c.2 < w) (e : ∀ v : Nat, v < w → y.testBit v = y'.testBit v) : exB c y = exB c y' := by
  unfold exB
  rw [e c.1 hc.1, e c.2 hc.2]
theorem exB_per {w : Nat} {c : Nat × Nat} {cs : List (Nat × Nat)} (hc : c.1 < w ∧ c.2 < w) (hok : okL w cs) (x : Nat) : exB c (cry cs x) = exB c (cry cs (x % 2 ^ w)) := by
  refine exB_same hc (cry_same cs _ _ hok (fun v hv => ?_))
  rw [Nat.testBit_mod_two_pow]
  simp [hv]
theorem c_xc {h : Hp} {w : Nat} {c : Nat × Nat} {za zb : Int} {f : Nat → Nat} {Q : Int → Hp → Prop} (hw : w ≤ 8) (ea : za = c.1) (eb : zb = c.2) (hc : c.1 < w ∧ c.2 < w ∧ c.1 ≠ c.2) (S : SW h w f) (hq : ∀ r : Int, IsE (fun x => exB c (f x)) (64 * wds w) r → Q r h) : ∀ (m k : Nat), k + m = wds w → (∀ x : Nat, x < 64 * k → exB c (f x) = false) → E 0 mX7_exchanges 2 [(0, vr 83), (1, vi za), (2, vi zb), (3, vi k)] [] h (qi Q)
  | 0, k, hm, I => by
    have e := S.2.1
    refine sX7_exchanges_2 ⟨fun _ => hq 0 (Or.inl ⟨rfl, fun x hx => I x (by omega)⟩), fun c => absurd c (by omega)⟩
  | m + 1, k, hm, I => by
    have e := S.2.1
    have wr := wds_r hw
    obtain ⟨La, a1, a2⟩ := S.2.2 c.1 k hc.1 (by omega)
    obtain ⟨Lb, b1, b2⟩ := S.2.2 c.2 k hc.2.1 (by omega)
    rw [← ea] at a1
    rw [← eb] at b1
    have bits : ∀ b : Nat, b < 64 → (La &&& ~~~Lb).getLsbD b = exB c (f (64 * k + b)) := fun b hb => by
      rw [BitVec.getLsbD_and, BitVec.getLsbD_not, a2 b hb, b2 b hb]
      unfold exB
      simp [hb]
    refine sX7_exchanges_2 ⟨fun c => absurd c (by omega), fun _ => ⟨by omega, fun c1 => ⟨by omega, ?_⟩, fun c1 => ?_⟩⟩
    · rw [a1, b1, jlnot, jland] at c1
      have z := lcmp0.1 c1
      rw [show (k : Int) + 1 = ((k + 1 : Nat) : Int) by omega]
      refine c_xc hw ea eb hc S hq m (k + 1) (by omega) (fun x hx => ?_)
      by_cases q : x < 64 * k
      · exact I x q
      · have := bits (x - 64 * k) (by omega)
        rw [z, show 64 * k + (x - 64 * k) = x by omega] at this
        rw [← this]
        simp
    · rw [a1, b1, jlnot, jland] at c1
      rcases low_bit (L := La &&& ~~~Lb) 64 with a | ⟨t, t1, t2, t3⟩
      · refine absurd (lcmp0.2 ?_) c1
        apply BitVec.eq_of_getLsbD_eq
        intro i hi
        rw [a i hi]
        simp
      · refine hq 1 (Or.inr ⟨rfl, 64 * k + t, by omega, ?_⟩)
        have := bits t t1
        rw [t2] at this
        exact this.symm
theorem c_exch {h : Hp} {w : Nat} {c : Nat × Nat} {za zb : Int} {cs : List (Nat × Nat)} {Q : Int → Hp → Prop} (hw : w ≤ 8) (ea : za = c.1) (eb : zb = c.2) (hc : c.1 < w ∧ c.2 < w ∧ c.1 ≠ c.2) (hok : okL w cs) (S : SW h w (fun x => cry cs x)) (hq : ∀ r : Int, IsE (fun x => exB c (cry cs x)) (64 * wds w) r → IsE (fun x => exB c (cry cs x)) (2 ^ w) r → Q r h) : CI 0 mX7_exchanges [vr 83, vi za, vi zb] h Q :=
  sX7_exchanges (c_xc hw ea eb hc S (fun r hr => hq r hr (IsE_mod hr (Nat.two_pow_pos w) (wds_p hw) (exB_per ⟨hc.1, hc.2.1⟩ hok))) (wds w) 0 (by omega) (fun x hx => absurd hx (by omega)))
theorem cry_app : ∀ (cs ds : List (Nat × Nat)) (x : Nat), cry (cs ++ ds) x = cry ds (cry cs x)
  | [], _, _ => rfl
  | c :: r, ds, x => cry_app r ds (exq c x)
theorem m_id20 {h : Hp} {k w i x0 : Nat} {c : Nat × Nat} {post : List (Nat × Nat)} {Q : Int → Hp → Prop} (hk : k < 4) (hw : w ≤ 8) (hc : c.1 < w ∧ c.2 < w ∧ c.1 ≠ c.2) (hx0 : x0 < 256) : ∀ (rest pre : List (Nat × Nat)) (x : Nat), MNt h k (w, pre ++ (rest ++ c :: post)) → okL w rest → pre.length + rest.length = i → i < 40 → x < 2 ^ w → (exB c (cry rest x) = true → Q 0 h) → (exB c (cry rest x) = false → E 0 mX11_isIdle 2 [(0, vr 103), (1, vi k), (2, vi i), (3, vi ((x0 : Int) + 1))] [] h (qi Q)) → E 0 mX11_isIdle 20 [(0, vr 103), (1, vi k), (2, vi i), (3, vi x0), (4, vi x), (5, vi pre.length)] [] h (qi Q)
  | [], pre, x, A, hok, hi, hl, hx, h1, h2 => by
    have hi' : pre.length = i := by rw [← hi]; rfl
    have h256 := p256 hw
    obtain ⟨b1, b2⟩ := Row_mid (pre := pre) (r := post) (c := c) A.2.2
    refine sX11_isIdle_20 ⟨fun c => absurd c (by omega), fun _ => ?_⟩
    rw [b1, b2]
    refine ⟨by omega, fun c1 => ⟨fun c2 => absurd c2 (by omega), fun _ => h1 ?_⟩, fun c1 => ⟨by omega, ?_⟩⟩
    · have q := (bit_gt (by omega) (by omega) (by omega)).1 c1
      show (x.testBit c.1 && !x.testBit c.2) = true
      rw [q.1, q.2]; rfl
    · have q := (bit_le (by omega) (by omega) (by omega)).1 c1
      refine sX11_isIdle_20 ⟨fun _ => ⟨by omega, h2 ?_⟩, fun c => absurd c (by omega)⟩
      show (x.testBit c.1 && !x.testBit c.2) = false
      cases q1 : x.testBit c.1 <;> cases q2 : x.testBit c.2 <;> simp_all
  | d :: r, pre, x, A, hok, hi, hl, hx, h1, h2 => by
    have hi' : pre.length + (r.length + 1) = i := by rw [← hi]; rfl
    have h256 := p256 hw
    have hd := hok d (List.mem_cons_self ..)
    obtain ⟨b1, b2⟩ := Row_mid (pre := pre) (r := r ++ c :: post) (c := d) A.2.2
    have nx : ∀ x' : Nat, x' = exq d x → E 0 mX11_isIdle 20 [(0, vr 103), (1, vi k), (2, vi i), (3, vi x0), (4, vi x'), (5, vi (pre.length + 1))] [] h (qi Q) := fun x' hx' => by
      have := m_id20 hk hw hc hx0 r (pre ++ [d]) x' (by rw [List.append_assoc]; exact A) (okL_tail hok) (by rw [List.length_append, List.length_singleton]; omega) hl (by rw [hx']; exact exq_lt hd.1 hd.2.1 hx) (by rw [hx']; exact h1) (by rw [hx']; exact h2)
      rw [List.length_append, List.length_singleton] at this
      exact this
    refine sX11_isIdle_20 ⟨fun c => absurd c (by omega), fun _ => ?_⟩
    rw [b1, b2]
    refine ⟨by omega, fun c1 => ⟨fun c2 x6 hx6 => ⟨by omega, ?_⟩, fun c2 => absurd c2 (by omega)⟩, fun c1 => ⟨by omega, nx x ?_⟩⟩
    · have q := (bit_gt (by omega) (by omega) (by omega)).1 c1
      rw [hx6, bit_x (by omega) (by omega) (by omega)]
      refine nx _ ?_
      unfold exq
      rw [if_pos q]
    · have q := (bit_le (by omega) (by omega) (by omega)).1 c1
      unfold exq
      rw [if_neg q]
theorem m_id2 {h : Hp} {k w : Nat} {c : Nat × Nat} {pre post : List (Nat × Nat)} {Q : Int → Hp → Prop} (hk : k < 4) (hw : w ≤ 8) (M : MNt h k (w, pre ++ c :: post)) (hok : okL w pre) (hc : c.1 < w ∧ c.2 < w ∧ c.1 ≠ c.2) (hl : pre.length < 40) (hq : ∀ r : Int, IsE (fun x => exB c (cry pre x)) (2 ^ w) r → Q (1 - r) h) : ∀ (m x : Nat), x + m = 2 ^ w → (∀ y : Nat, y < x → exB c (cry pre y) = false) → E 0 mX11_isIdle 2 [(0, vr 103), (1, vi k), (2, vi pre.length), (3, vi x)] [] h (qi Q)
  | 0, x, hm, I => by
    have e1 : j_ishl 1 (h 104 k) = ((2 ^ w : Nat) : Int) := by rw [M.1]; exact jshl1 (by show w < 31; omega)
    refine sX11_isIdle_2 ⟨by omega, fun _ => hq 0 (Or.inl ⟨rfl, fun y hy => I y (by omega)⟩), fun c => absurd c (by omega)⟩
  | m + 1, x, hm, I => by
    have h256 := p256 hw
    have e1 : j_ishl 1 (h 104 k) = ((2 ^ w : Nat) : Int) := by rw [M.1]; exact jshl1 (by show w < 31; omega)
    refine sX11_isIdle_2 ⟨by omega, fun c => absurd c (by omega), fun _ => ?_⟩
    refine m_id20 (i := pre.length) (post := post) hk hw hc (by omega) pre [] x M hok (by show 0 + _ = _; omega) hl (by omega) (fun a => hq 1 (Or.inr ⟨rfl, x, by omega, a⟩)) (fun a => ?_)
    rw [show (x : Int) + 1 = ((x + 1 : Nat) : Int) by omega]
    refine m_id2 hk hw M hok hc hl hq m (x + 1) (by omega) (fun y hy => ?_)
    by_cases q : y = x
    · rw [q]; exact a
    · exact I y (by omega)
theorem m_idle {h : Hp} {k w : Nat} {c : Nat × Nat} {z : Int} {pre post : List (Nat × Nat)} {Q : Int → Hp → Prop} (hz : z = pre.length) (hk : k < 4) (hw : w ≤ 8) (M : MNt h k (w, pre ++ c :: post)) (hok : okL w pre) (hc : c.1 < w ∧ c.2 < w ∧ c.1 ≠ c.2) (hl : pre.length < 40) (hq : ∀ r : Int, IsE (fun x => exB c (cry pre x)) (2 ^ w) r → Q (1 - r) h) : CI 0 mX11_isIdle [vr 103, vi k, vi z] h Q := by
  rw [hz]
  exact sX11_isIdle (m_id2 hk hw M hok hc hl hq (2 ^ w) 0 (by omega) (fun y hy => absurd hy (by omega)))
theorem c_rdl {a : Int} {w i : Nat} {tail : List (Nat × Nat)} {Q : Int → Hp → Prop} (ha : nA a) (hw : w ≤ 8) (hi : i < 40) : ∀ (rest pre : List (Nat × Nat)) (f : Nat → Nat) (h : Hp), CNt h a (w, pre ++ (rest ++ tail)) → okL w rest → pre.length + rest.length = i → SW h w f → (∀ g : Hp, SW g w (fun x => cry rest (f x)) → (∀ x y : Int, x ≠ 84 → g x y = h x y) → E 2 mX10_isRedundant 65 [(0, vr 68), (2, vi i), (3, vr a)] [] g (qi Q)) → E 2 mX10_isRedundant 32 [(0, vr 68), (2, vi i), (3, vr a), (4, vi pre.length)] [] h (qi Q)
  | [], pre, f, h, A, hok, hl, S, hq => by
    have hl' : pre.length = i := by rw [← hl]; rfl
    exact sX10_isRedundant_32 ⟨fun _ => hq h S (fun _ _ _ => rfl), fun c => absurd c (by omega)⟩
  | c :: r, pre, f, h, A, hok, hl, S, hq => by
    have hl' : pre.length + (r.length + 1) = i := by rw [← hl]; rfl
    obtain ⟨b1, b2⟩ := Row_mid (pre := pre) (r := r ++ tail) (c := c) A.2.2
    rw [Int.zero_add] at b1 b2
    have hc := hok c (List.mem_cons_self ..)
    refine sX10_isRedundant_32 ⟨fun c => absurd c (by omega), fun _ => ⟨⟨ha, by omega⟩, c_pass hw b1 b2 hc S (fun g S2 fr => ⟨by omega, ?_⟩)⟩⟩
    have := c_rdl (Q := Q) ha hw hi r (pre ++ [c]) (fun x => exq c (f x)) g (by rw [List.append_assoc]; exact CNt_c (fun x y p1 p2 => fr x y (by omega)) A) (okL_tail hok) (by rw [List.length_append, List.length_singleton]; omega) S2 (fun g2 S3 f3 => hq g2 S3 (fun x y hx => by rw [f3 x y hx, fr x y hx]))
    rw [List.length_append, List.length_singleton] at this
    exact this
theorem op_isRedundant {h : Hp} {k i : Int} (hR : Rl h) : OpI 2 mX10_isRedundant 3 mX11_isRedundant [vi k, vi i] h := by
  obtain ⟨nets, hist, H⟩ := Rl_RlN hR
  by_cases hk : 0 ≤ k ∧ k < 4
  · obtain ⟨j, hj, rfl⟩ := toN hk.1 hk.2
    obtain ⟨n1, n2, n3⟩ := H.1 j hj
    have w8 := n1.2.1
    have l40 := n1.2.2.1
    have e1 := n2.2.1
    have e2 := n3.2.1
    by_cases hi : 0 ≤ i ∧ i < ((nets j).2.length : Int)
    · obtain ⟨I, rfl⟩ : ∃ I : Nat, i = I := ⟨i.toNat, by omega⟩
      have hI : I < (nets j).2.length := by omega
      obtain ⟨W, CS, hN⟩ : ∃ (W : Nat) (CS : List (Nat × Nat)), nets j = (W, CS) := ⟨_, _, rfl⟩
      obtain ⟨pre, c, post, hpp, hpl⟩ : ∃ (pre : List (Nat × Nat)) (c : Nat × Nat) (post : List (Nat × Nat)), CS = pre ++ c :: post ∧ pre.length = I := ⟨CS.take I, CS[I]'(by rw [hN] at hI; exact hI), CS.drop (I + 1), by rw [← List.drop_eq_getElem_cons, List.take_append_drop], by rw [List.length_take]; rw [hN] at hI; have : I < CS.length := hI; omega⟩
      rw [hN] at n1 n2 w8
      subst hpp
      have okl : okL W (pre ++ c :: post) := n1.2.2.2
      have okp : okL W pre := fun d hd => okl d (List.mem_append_left _ hd)
      have hc := okl c (List.mem_append_right _ (List.mem_cons_self ..))
      obtain ⟨r, hr⟩ := IsE_ex (fun x => exB c (cry pre x)) (2 ^ W)
      have r01 : r = 0 ∨ r = 1 := by
        rcases hr with a | a
        · exact Or.inl a.1
        · exact Or.inr a.1
      have hI40 : I < 40 := by omega
      refine op_keep (r := 1 - r) H ?_ (fun h1 ms => ?_)
      · refine sX10_isRedundant ⟨⟨fun _ => by omega, fun _ => by omega, fun _ _ => by omega⟩, fun _ => ⟨⟨by omega, by omega⟩, c_start w8 n2.1 (fun g S fr => ?_)⟩, fun c => absurd c (by omega)⟩
        refine c_rdl (i := I) (tail := c :: post) (by omega) w8 hI40 pre [] (fun x => x) g (CNt_c (fun x y p1 p2 => fr x y (by omega)) n2) okp (by show 0 + _ = _; omega) S (fun g2 S2 f2 => ?_)
        have A2 : CNt g2 (4 * j) (W, pre ++ c :: post) := CNt_c (fun x y p1 p2 => by rw [f2 x y (by omega), fr x y (by omega)]) n2
        obtain ⟨b1, b2⟩ := Row_mid (pre := pre) (r := post) (c := c) A2.2.2
        rw [Int.zero_add, hpl] at b1 b2
        refine sX10_isRedundant_65 ⟨⟨by omega, by omega⟩, c_exch w8 b1 b2 hc okp S2 (fun r' _ hr' => ⟨?_, fun x y hx => ?_⟩)⟩
        · rw [← IsE_u hr hr']
          rcases r01 with q | q <;> rw [q] <;> rfl
        · unfold kC0 at hx
          rw [f2 x y (by omega), fr x y (by omega)]
      · obtain ⟨m1, m2, m3, m4, e⟩ := ms
        have M := (m1 j hj).2
        have g2 := M.2.1
        rw [hN] at M
        refine sX11_isRedundant ⟨⟨fun _ => by omega, fun _ => by omega⟩, fun _ => m_idle (pre := pre) (post := post) (c := c) (by omega) hj w8 M okp hc (by omega) (fun r' hr' => ⟨?_, fun _ _ _ => rfl⟩), fun c => absurd c (by omega)⟩
        rw [← IsE_u hr hr']
        rcases r01 with q | q <;> rw [q] <;> rfl
    · have no : CI 3 mX11_isRedundant [vr 103, vi j, vi i] h (fun r2 h2 => -1 = r2 ∧ Rl h2) := sX11_isRedundant ⟨⟨fun _ => by omega, fun _ => by omega⟩, fun c => absurd c (by omega), fun _ => ⟨rfl, hR⟩⟩
      exact sX10_isRedundant ⟨⟨fun _ => by omega, fun _ => by omega, fun _ _ => by omega⟩, fun c => absurd c (by omega), fun _ => no⟩
  · have no : CI 3 mX11_isRedundant [vr 103, vi k, vi i] h (fun r2 h2 => -1 = r2 ∧ Rl h2) := sX11_isRedundant ⟨⟨fun c => absurd c (by omega), fun c => absurd c (by omega)⟩, fun c => absurd c (by omega), fun _ => ⟨rfl, hR⟩⟩
    exact sX10_isRedundant ⟨⟨fun c => absurd c (by omega), fun c => absurd c (by omega), fun c => absurd c (by omega)⟩, fun c => absurd c (by omega), fun _ => no⟩
