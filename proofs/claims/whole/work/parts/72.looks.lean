/-! the reference looks at all permutations -/
theorem AR_mid {h : Hp} {r : Int} {P S : List Nat} {a : Nat} (H : AR h r (P ++ a :: S)) : h r P.length = (a : Nat) := by
  have := H P.length (by rw [List.length_append, List.length_cons]; omega)
  rw [this]
  simp
theorem AR_set {h : Hp} {r : Int} {P S : List Nat} {a b : Nat} (H : AR h r (P ++ a :: S)) : AR (up h r P.length b) r (P ++ b :: S) := by
  intro i hi
  have hi' : i < (P ++ a :: S).length := by rw [List.length_append, List.length_cons] at hi ⊢; exact hi
  by_cases q : i = P.length
  · subst q
    rw [up_eq]
    simp
  · rw [up_no (by omega), H i hi']
    by_cases q2 : i < P.length
    · rw [List.getElem_append_left q2, List.getElem_append_left q2]
    · rw [List.getElem_append_right (by omega), List.getElem_append_right (by omega)]
      obtain ⟨j, hj⟩ : ∃ j : Nat, i - P.length = j + 1 := ⟨i - P.length - 1, by omega⟩
      simp only [hj, List.getElem_cons_succ]
theorem snocE {l : List Nat} {n : Nat} (h : l.length = n + 1) : ∃ (p : List Nat) (x : Nat), l = p ++ [x] ∧ p.length = n := by
  rcases List.eq_nil_or_concat l with q | ⟨p, c, q⟩
  · rw [q] at h; exact absurd h.symm (Nat.succ_ne_zero n)
  · rw [List.concat_eq_append] at q
    refine ⟨p, c, q, ?_⟩
    rw [q, List.length_append, List.length_singleton] at h
    omega
theorem m_78 {Q : Int → Hp → Prop} : ∀ (n : Nat) (T P R : List Nat) (z4 z5 : Int) (h : Hp), T.length ≤ n → (P ++ T ++ R).length ≤ 8 → z4 = P.length → z5 = (P.length : Int) + T.length - 1 → AR h 121 (P ++ T ++ R) → (∀ g : Hp, AR g 121 (P ++ T.reverse ++ R) → (∀ x y : Int, x ≠ 121 → g x y = h x y) → Q 1 g) → E 1 mX11_isNext 78 [(0, vr 103), (4, vi z4), (5, vi z5)] [] h (qi Q)
  | 0, T, P, R, z4, z5, h, ht, h8, e4, e5, A, hq => by
    have e : T = [] := List.eq_nil_of_length_eq_zero (by omega)
    subst e
    have e5 : z5 = (P.length : Int) + ((0 : Nat) : Int) - 1 := e5
    exact sX11_isNext_78 ⟨fun _ => hq h A (fun _ _ _ => rfl), fun c => absurd c (by omega)⟩
  | n + 1, T, P, R, z4, z5, h, ht, h8, e4, e5, A, hq => by
    cases T with
    | nil =>
      have e5 : z5 = (P.length : Int) + ((0 : Nat) : Int) - 1 := e5
      exact sX11_isNext_78 ⟨fun _ => hq h A (fun _ _ _ => rfl), fun c => absurd c (by omega)⟩
    | cons x T1 =>
      rw [List.length_cons] at ht e5
      cases hT : T1.length with
      | zero =>
        have e : T1 = [] := List.eq_nil_of_length_eq_zero hT
        subst e
        exact sX11_isNext_78 ⟨fun _ => hq h A (fun _ _ _ => rfl), fun c => absurd c (by omega)⟩
      | succ m =>
        obtain ⟨M, y, rfl, hM⟩ := snocE hT
        rw [List.length_append, List.length_singleton] at ht e5
        have e8 : P.length + (M.length + 2) + R.length ≤ 8 := by
          simp only [List.length_append, List.length_cons, List.length_nil] at h8
          omega
        have A1 : AR h 121 (P ++ x :: (M ++ y :: R)) := by
          have : P ++ x :: (M ++ [y]) ++ R = P ++ x :: (M ++ y :: R) := by simp
          rw [this] at A; exact A
        have A2 : AR h 121 ((P ++ x :: M) ++ y :: R) := by
          have : (P ++ x :: M) ++ y :: R = P ++ x :: (M ++ y :: R) := by simp
          rw [this]; exact A1
        have v1 := AR_mid A1
        have v2 := AR_mid A2
        have l2 : (P ++ x :: M).length = P.length + (M.length + 1) := by rw [List.length_append, List.length_cons]
        refine sX11_isNext_78 ⟨fun c => absurd c (by omega), fun _ => ⟨⟨by omega, by omega, by omega, by omega⟩, ?_⟩⟩
        have z4e : z4 = ((P.length : Nat) : Int) := e4
        have z5e : z5 = (((P ++ x :: M).length : Nat) : Int) := by omega
        rw [z4e, z5e, v1, v2]
        have B1 : AR (up h 121 P.length y) 121 (P ++ y :: (M ++ y :: R)) := AR_set A1
        have B2 : AR (up h 121 P.length y) 121 ((P ++ y :: M) ++ y :: R) := by
          have : (P ++ y :: M) ++ y :: R = P ++ y :: (M ++ y :: R) := by simp
          rw [this]; exact B1
        have l3 : (P ++ y :: M).length = (P ++ x :: M).length := by rw [List.length_append, List.length_cons, List.length_append, List.length_cons]
        have B3 : AR (up (up h 121 P.length y) 121 ((P ++ x :: M).length : Nat) x) 121 ((P ++ y :: M) ++ x :: R) := by
          rw [← l3]; exact AR_set B2
        refine m_78 n M (P ++ [y]) (x :: R) _ _ _ (by omega) ?_ ?_ ?_ ?_ (fun g p1 p2 => hq g ?_ (fun a b ha => by rw [p2 a b ha, up_no (by omega), up_no (by omega)]))
        · simp only [List.length_append, List.length_cons, List.length_nil]; omega
        · rw [List.length_append, List.length_singleton]; omega
        · rw [l2, List.length_append, List.length_singleton]; omega
        · have : P ++ [y] ++ M ++ x :: R = (P ++ y :: M) ++ x :: R := by simp
          rw [this]; exact B3
        · have : P ++ (x :: (M ++ [y])).reverse ++ R = P ++ [y] ++ M.reverse ++ x :: R := by simp
          rw [this]; exact p1
theorem m_41 {w : Nat} {pre D1 : List Nat} {a a' : Nat} {Q : Int → Hp → Prop} (hw : w ≤ 8) (hlt : a < a') : ∀ (n : Nat) (Y Z : List Nat) (z3 : Int) (h : Hp), Y.length = n → pre.length + 1 + D1.length + 1 + Y.length + Z.length = w → z3 = (pre.length : Int) + 1 + D1.length + Y.length → (∀ y ∈ Y, y < a) → AR h 121 (pre ++ a :: (D1 ++ a' :: (Y ++ Z))) → (∀ g : Hp, AR g 121 (pre ++ a' :: (D1 ++ a :: (Y ++ Z)).reverse) → (∀ x y : Int, x ≠ 121 → g x y = h x y) → Q 1 g) → E 1 mX11_isNext 41 [(0, vr 103), (1, vi w), (2, vi pre.length), (3, vi z3)] [] h (qi Q)
  | 0, Y, Z, z3, h, hn, hw2, e3, hy, A, hq => by
    have eY : Y = [] := List.eq_nil_of_length_eq_zero hn
    subst eY
    rw [List.nil_append] at A hq
    have hw2 : pre.length + 1 + D1.length + 1 + 0 + Z.length = w := hw2
    have e3 : z3 = (pre.length : Int) + 1 + D1.length + ((0 : Nat) : Int) := e3
    have A2 : AR h 121 ((pre ++ a :: D1) ++ a' :: Z) := by
      have : (pre ++ a :: D1) ++ a' :: Z = pre ++ a :: (D1 ++ a' :: Z) := by simp
      rw [this]; exact A
    have v1 := AR_mid A
    have v2 := AR_mid A2
    have l2 : (pre ++ a :: D1).length = pre.length + (D1.length + 1) := by rw [List.length_append, List.length_cons]
    have z3e : z3 = (((pre ++ a :: D1).length : Nat) : Int) := by omega
    rw [z3e]
    refine sX11_isNext_41 ⟨by omega, fun _ => ⟨by omega, ?_⟩, fun c => absurd c (by omega)⟩
    rw [v1, v2]
    have B1 : AR (up h 121 pre.length a') 121 (pre ++ a' :: (D1 ++ a' :: Z)) := AR_set A
    have B2 : AR (up h 121 pre.length a') 121 ((pre ++ a' :: D1) ++ a' :: Z) := by
      have : (pre ++ a' :: D1) ++ a' :: Z = pre ++ a' :: (D1 ++ a' :: Z) := by simp
      rw [this]; exact B1
    have l3 : (pre ++ a' :: D1).length = (pre ++ a :: D1).length := by rw [List.length_append, List.length_cons, List.length_append, List.length_cons]
    have B3 : AR (up (up h 121 pre.length a') 121 ((pre ++ a :: D1).length : Nat) a) 121 ((pre ++ a' :: D1) ++ a :: Z) := by
      rw [← l3]; exact AR_set B2
    refine m_78 w (D1 ++ a :: Z) (pre ++ [a']) [] _ _ _ ?_ ?_ ?_ ?_ ?_ (fun g p1 p2 => hq g ?_ (fun a b ha => by rw [p2 a b ha, up_no (by omega), up_no (by omega)]))
    · simp only [List.length_append, List.length_cons]; omega
    · simp only [List.length_append, List.length_cons, List.length_nil]; omega
    · rw [List.length_append, List.length_singleton]; omega
    · simp only [List.length_append, List.length_cons, List.length_nil]; omega
    · have : pre ++ [a'] ++ (D1 ++ a :: Z) ++ [] = (pre ++ a' :: D1) ++ a :: Z := by simp
      rw [this]; exact B3
    · have : pre ++ [a'] ++ (D1 ++ a :: Z).reverse ++ [] = pre ++ a' :: (D1 ++ a :: Z).reverse := by simp
      rw [this] at p1; exact p1
  | n + 1, Y, Z, z3, h, hn, hw2, e3, hy, A, hq => by
    obtain ⟨Y', y, rfl, hY⟩ := snocE hn
    have hyy := hy y (List.mem_append_right _ (List.mem_singleton.2 rfl))
    rw [List.length_append, List.length_singleton] at hw2 e3
    have A2 : AR h 121 ((pre ++ a :: (D1 ++ a' :: Y')) ++ y :: Z) := by
      have : (pre ++ a :: (D1 ++ a' :: Y')) ++ y :: Z = pre ++ a :: (D1 ++ a' :: (Y' ++ [y] ++ Z)) := by simp
      rw [this]; exact A
    have v1 := AR_mid A
    have v2 := AR_mid A2
    have l2 : (pre ++ a :: (D1 ++ a' :: Y')).length = pre.length + (D1.length + (Y'.length + 1) + 1) := by simp only [List.length_append, List.length_cons]
    have z3e : z3 = (((pre ++ a :: (D1 ++ a' :: Y')).length : Nat) : Int) := by omega
    rw [z3e]
    refine sX11_isNext_41 ⟨by omega, fun c => absurd c (by omega), fun _ => ⟨by omega, ?_⟩⟩
    refine m_41 (pre := pre) (D1 := D1) hw hlt n Y' (y :: Z) _ h hY (by rw [List.length_cons]; omega) (by omega) (fun u hu => hy u (List.mem_append_left _ hu)) ?_ (fun g p1 p2 => hq g ?_ p2)
    · have : Y' ++ y :: Z = Y' ++ [y] ++ Z := by simp
      rw [this]; exact A
    · have : Y' ++ y :: Z = Y' ++ [y] ++ Z := by simp
      rw [this] at p1; exact p1
/-- the next permutation, where there is one -/
theorem m_4 {w : Nat} {pre D1 D2 : List Nat} {a a' : Nat} {Q : Int → Hp → Prop} (hw : w ≤ 8) (hlt : a < a') (hD2 : ∀ y ∈ D2, y < a) (hlen : pre.length + 1 + D1.length + 1 + D2.length = w) (hd : (D1 ++ a' :: D2).Pairwise (· > ·)) : ∀ (n : Nat) (X Y : List Nat) (s2 : Nat) (z2 : Int) (h : Hp), X.length = n → X ++ s2 :: Y = D1 ++ a' :: D2 → z2 = (pre.length : Int) + X.length → AR h 121 (pre ++ a :: (D1 ++ a' :: D2)) → (∀ g : Hp, AR g 121 (pre ++ a' :: (D1 ++ a :: D2).reverse) → (∀ x y : Int, x ≠ 121 → g x y = h x y) → Q 1 g) → E 1 mX11_isNext 4 [(0, vr 103), (1, vi w), (2, vi z2)] [] h (qi Q)
  | 0, X, Y, s2, z2, h, hn, hX, e2, A, hq => by
    have eX : X = [] := List.eq_nil_of_length_eq_zero hn
    subst eX
    have e2 : z2 = (pre.length : Int) + ((0 : Nat) : Int) := e2
    have hX : s2 :: Y = D1 ++ a' :: D2 := hX
    have gt : a < s2 := by
      cases D1 with
      | nil =>
        have hX : s2 :: Y = a' :: D2 := hX
        injection hX with e1 _
        omega
      | cons d D1 =>
        have hX : s2 :: Y = d :: (D1 ++ a' :: D2) := hX
        injection hX with e1 _
        have := (List.pairwise_cons.1 hd).1 a' (List.mem_append_right _ (List.mem_cons_self ..))
        omega
    have v1 := AR_mid A
    have A2 : AR h 121 ((pre ++ [a]) ++ s2 :: Y) := by
      have : (pre ++ [a]) ++ s2 :: Y = pre ++ a :: (s2 :: Y) := by simp
      rw [this, hX]; exact A
    have v2 := AR_mid A2
    rw [List.length_append, List.length_singleton] at v2
    have z2e : z2 = ((pre.length : Nat) : Int) := by omega
    rw [z2e]
    rw [show ((pre.length + 1 : Nat) : Int) = (pre.length : Int) + 1 by omega] at v2
    refine sX11_isNext_4 ⟨fun c => absurd c (by omega), fun _ => ⟨by omega, fun _ => ⟨fun _ => ⟨by omega, ?_⟩, fun c => absurd c (by omega)⟩, fun c => absurd c (by omega)⟩⟩
    exact m_41 (pre := pre) (D1 := D1) hw hlt D2.length D2 [] _ h rfl (by rw [List.length_nil]; omega) (by omega) hD2 (by rw [List.append_nil]; exact A) (fun g p1 p2 => hq g (by rw [List.append_nil] at p1; exact p1) p2)
  | n + 1, X, Y, s2, z2, h, hn, hX, e2, A, hq => by
    obtain ⟨X', s1, rfl, hX'⟩ := snocE hn
    rw [List.length_append, List.length_singleton] at e2
    have hX1 : X' ++ s1 :: (s2 :: Y) = D1 ++ a' :: D2 := by rw [← hX]; simp
    have gt : s2 < s1 := by
      rw [← hX1, List.pairwise_append] at hd
      exact (List.pairwise_cons.1 hd.2.1).1 s2 (List.mem_cons_self ..)
    have A1 : AR h 121 ((pre ++ a :: X') ++ s1 :: (s2 :: Y)) := by
      have : (pre ++ a :: X') ++ s1 :: (s2 :: Y) = pre ++ a :: (X' ++ s1 :: (s2 :: Y)) := by simp
      rw [this, hX1]; exact A
    have A2 : AR h 121 ((pre ++ a :: (X' ++ [s1])) ++ s2 :: Y) := by
      have : (pre ++ a :: (X' ++ [s1])) ++ s2 :: Y = (pre ++ a :: X') ++ s1 :: (s2 :: Y) := by simp
      rw [this]; exact A1
    have v1 := AR_mid A1
    have v2 := AR_mid A2
    have ll : X'.length + 2 + Y.length = D1.length + 1 + D2.length := by
      have := congrArg List.length hX1
      simp only [List.length_append, List.length_cons] at this
      omega
    have l1 : (pre ++ a :: X').length = pre.length + (X'.length + 1) := by simp only [List.length_append, List.length_cons]
    have l2 : (pre ++ a :: (X' ++ [s1])).length = pre.length + (X'.length + 1) + 1 := by simp only [List.length_append, List.length_cons, List.length_nil]; omega
    have z2e : z2 = (((pre ++ a :: X').length : Nat) : Int) := by omega
    have z2f : z2 + 1 = (((pre ++ a :: (X' ++ [s1])).length : Nat) : Int) := by omega
    rw [← z2e] at v1
    rw [← z2f] at v2
    refine sX11_isNext_4 ⟨fun c => absurd c (by omega), fun _ => ⟨by omega, fun c => absurd c (by omega), fun _ => ⟨by omega, ?_⟩⟩⟩
    exact m_4 hw hlt hD2 hlen hd n X' (s2 :: Y) s1 _ h hX' hX1 (by omega) A hq
theorem m_nextS {h : Hp} {w : Nat} {zw : Int} {pre D1 D2 : List Nat} {a a' : Nat} {Q : Int → Hp → Prop} (ew : zw = w) (hw : w ≤ 8) (hlt : a < a') (hD2 : ∀ y ∈ D2, y < a) (hlen : pre.length + 1 + D1.length + 1 + D2.length = w) (hd : (D1 ++ a' :: D2).Pairwise (· > ·)) (A : AR h 121 (pre ++ a :: (D1 ++ a' :: D2))) (hq : ∀ g : Hp, AR g 121 (pre ++ a' :: (D1 ++ a :: D2).reverse) → (∀ x y : Int, x ≠ 121 → g x y = h x y) → Q 1 g) : CI 1 mX11_isNext [vr 103, vi zw] h Q := by
  subst ew
  obtain ⟨X, s, e, hX⟩ := snocE (l := D1 ++ a' :: D2) (n := D1.length + D2.length) (by simp only [List.length_append, List.length_cons]; omega)
  refine sX11_isNext ⟨by omega, m_4 hw hlt hD2 hlen hd X.length X [] s _ h rfl e.symm (by omega) A hq⟩
/-- the last permutation -/
theorem m_4n {w : Nat} {h : Hp} {v : List Nat} {Q : Int → Hp → Prop} (hw : w ≤ 8) (hv : v.length = w) (hd : v.Pairwise (· > ·)) (A : AR h 121 v) (hq : Q 0 h) : ∀ (n : Nat) (X Y : List Nat) (s2 : Nat) (z2 : Int), X.length = n → X ++ s2 :: Y = v → z2 = (X.length : Int) - 1 → E 1 mX11_isNext 4 [(0, vr 103), (1, vi w), (2, vi z2)] [] h (qi Q)
  | 0, X, Y, s2, z2, hn, hX, e2 => sX11_isNext_4 ⟨fun _ => ⟨fun c => absurd c (by omega), fun _ => hq⟩, fun c => absurd c (by omega)⟩
  | n + 1, X, Y, s2, z2, hn, hX, e2 => by
    obtain ⟨X', s1, rfl, hX'⟩ := snocE hn
    rw [List.length_append, List.length_singleton] at e2
    have hX1 : X' ++ s1 :: (s2 :: Y) = v := by rw [← hX]; simp
    have gt : s2 < s1 := by
      rw [← hX1, List.pairwise_append] at hd
      exact (List.pairwise_cons.1 hd.2.1).1 s2 (List.mem_cons_self ..)
    have A1 : AR h 121 (X' ++ s1 :: (s2 :: Y)) := by rw [hX1]; exact A
    have A2 : AR h 121 ((X' ++ [s1]) ++ s2 :: Y) := by rw [hX]; exact A
    have v1 := AR_mid A1
    have v2 := AR_mid A2
    rw [List.length_append, List.length_singleton] at v2
    have ll : X'.length + 2 + Y.length = w := by
      have := congrArg List.length hX1
      simp only [List.length_append, List.length_cons] at this
      omega
    have z2e : z2 = ((X'.length : Nat) : Int) := by omega
    have z2f : z2 + 1 = ((X'.length + 1 : Nat) : Int) := by omega
    rw [← z2e] at v1
    rw [← z2f] at v2
    refine sX11_isNext_4 ⟨fun c => absurd c (by omega), fun _ => ⟨by omega, fun c => absurd c (by omega), fun _ => ⟨by omega, ?_⟩⟩⟩
    exact m_4n hw hv hd A hq n X' (s2 :: Y) s1 _ hX' hX1 (by omega)
theorem m_nextN {h : Hp} {w : Nat} {zw : Int} {v : List Nat} {Q : Int → Hp → Prop} (ew : zw = w) (hw2 : 2 ≤ w) (hw : w ≤ 8) (hv : v.length = w) (hd : v.Pairwise (· > ·)) (A : AR h 121 v) (hq : Q 0 h) : CI 1 mX11_isNext [vr 103, vi zw] h Q := by
  subst ew
  obtain ⟨X, s, e, hX⟩ := snocE (l := v) (n := w - 1) (by omega)
  exact sX11_isNext ⟨by omega, m_4n hw hv hd A hq X.length X [] s _ rfl e.symm (by omega)⟩
/-! the network run on one permutation -/
def FA (h : Hp) (r : Int) (w : Nat) (f : Nat → Nat) : Prop := ∀ i : Nat, i < w → h r i = ((f i : Nat) : Int)
theorem m_c34 {k w : Nat} {Q : Int → Hp → Prop} (hk : k < 4) (hw : w ≤ 8) : ∀ (rest pre : List (Nat × Nat)) (f : Nat → Nat) (n : Nat) (h : Hp), MNt h k (w, pre ++ rest) → okL w rest → pre.length + rest.length ≤ 40 → n ≤ pre.length → FA h 122 w f → (∀ g : Hp, FA g 122 w (rnF rest f) → (∀ x y : Int, x ≠ 122 → g x y = h x y) → Q ((n + xcN rest f : Nat)) g) → E 0 mX11_carries 34 [(0, vr 103), (1, vi k), (2, vi n), (3, vi pre.length)] [] h (qi Q)
  | [], pre, f, n, h, M, hok, hl, hn, F, hq => by
    have e : h 105 k = ((pre ++ []).length : Nat) := M.2.1
    rw [List.append_nil] at e
    exact sX11_carries_34 ⟨by omega, fun _ => hq h F (fun _ _ _ => rfl), fun c => absurd c (by omega)⟩
  | c :: r, pre, f, n, h, M, hok, hl, hn, F, hq => by
    have e : h 105 k = ((pre ++ c :: r).length : Nat) := M.2.1
    rw [List.length_append, List.length_cons] at e
    rw [List.length_cons] at hl
    obtain ⟨b1, b2⟩ := Row_mid M.2.2
    have hc := hok c (List.mem_cons_self ..)
    have f1 := F c.1 hc.1
    have f2 := F c.2 hc.2.1
    refine sX11_carries_34 ⟨by omega, fun c => absurd c (by omega), fun _ => ?_⟩
    rw [b1, b2, f1, f2]
    have ex : xcN (c :: r) f = (if f c.2 < f c.1 then 1 else 0) + xcN r (swN f c) := rfl
    have er : rnF (c :: r) f = rnF r (swN f c) := rfl
    rw [ex, er] at hq
    refine ⟨by omega, fun q => ⟨by omega, fun x5 hx5 => ⟨by omega, ?_⟩⟩, fun q => ⟨by omega, ?_⟩⟩
    · subst hx5
      have lt : f c.2 < f c.1 := by omega
      rw [if_pos lt] at hq
      have fr : ∀ x y : Int, x ≠ 122 → up (up h 122 c.1 (f c.2 : Nat)) 122 c.2 (f c.1 : Nat) x y = h x y := fun x y hx => by rw [up_no (by omega), up_no (by omega)]
      have F2 : FA (up (up h 122 c.1 (f c.2 : Nat)) 122 c.2 (f c.1 : Nat)) 122 w (swN f c) := by
        intro i hi
        unfold swN
        rw [if_pos lt]
        show _ = ((if i = c.1 then f c.2 else if i = c.2 then f c.1 else f i : Nat) : Int)
        by_cases q2 : i = c.2
        · rw [q2, up_eq, if_neg (fun e => hc.2.2 e.symm), if_pos rfl]
        · rw [up_no (by omega)]
          by_cases q1 : i = c.1
          · rw [q1, up_eq, if_pos rfl]
          · rw [up_no (by omega), if_neg q1, if_neg q2]; exact F i hi
      have := m_c34 (Q := Q) hk hw r (pre ++ [c]) (swN f c) (n + 1) _ (by rw [List.append_assoc]; exact MNt_c (fun x y p1 p2 => fr x y (by omega)) M) (okL_tail hok) (by rw [List.length_append, List.length_singleton]; omega) (by rw [List.length_append, List.length_singleton]; omega) F2 (fun g p1 p2 => by
        have := hq g p1 (fun x y hx => by rw [p2 x y hx, fr x y hx])
        rw [show n + 1 + xcN r (swN f c) = n + (1 + xcN r (swN f c)) by omega]
        exact this)
      rw [List.length_append, List.length_singleton] at this
      exact this
    · have nlt : ¬ f c.2 < f c.1 := by omega
      have es : swN f c = f := by unfold swN; rw [if_neg nlt]
      rw [if_neg nlt, es, Nat.zero_add] at hq
      have := m_c34 (Q := Q) hk hw r (pre ++ [c]) f n h (by rw [List.append_assoc]; exact M) (okL_tail hok) (by rw [List.length_append, List.length_singleton]; omega) (by rw [List.length_append]; omega) F hq
      rw [List.length_append, List.length_singleton] at this
      exact this
theorem m_c4 {k w : Nat} {f : Nat → Nat} {Q : Int → Hp → Prop} (hk : k < 4) (hw : w ≤ 8) : ∀ (m i : Nat) (h : Hp), i + m = w → h 104 k = w → FA h 121 w f → (∀ j : Nat, j < i → h 122 j = ((f j : Nat) : Int)) → (∀ g : Hp, FA g 122 w f → (∀ x y : Int, x ≠ 122 → g x y = h x y) → E 0 mX11_carries 34 [(0, vr 103), (1, vi k), (2, vi 0), (3, vi 0)] [] g (qi Q)) → E 0 mX11_carries 4 [(0, vr 103), (1, vi k), (2, vi 0), (3, vi i)] [] h (qi Q)
  | 0, i, h, hm, ew, F, I, hq => sX11_carries_4 ⟨by omega, fun _ => hq h (fun j hj => I j (by omega)) (fun _ _ _ => rfl), fun c => absurd c (by omega)⟩
  | m + 1, i, h, hm, ew, F, I, hq => by
    refine sX11_carries_4 ⟨by omega, fun c => absurd c (by omega), fun _ => ⟨by omega, ?_⟩⟩
    rw [F i (by omega), show (i : Int) + 1 = ((i + 1 : Nat) : Int) by omega]
    refine m_c4 hk hw m (i + 1) _ (by omega) (by rw [up_no (by omega)]; exact ew) (fun j hj => by rw [up_no (by omega)]; exact F j hj) (fun j hj => ?_) (fun g p1 p2 => hq g p1 (fun x y hx => by rw [p2 x y hx, up_no (by omega)]))
    by_cases q : j = i
    · subst q; rw [up_eq]
    · rw [up_no (by omega)]; exact I j (by omega)
theorem m_carries {h : Hp} {k : Nat} {N : NetT} {f : Nat → Nat} {Q : Int → Hp → Prop} (hk : k < 4) (hok : okN N) (M : MNt h k N) (F : FA h 121 N.1 f) (hq : ∀ g : Hp, FA g 122 N.1 (rnF N.2 f) → (∀ x y : Int, x ≠ 122 → g x y = h x y) → Q (xcN N.2 f : Nat) g) : CI 0 mX11_carries [vr 103, vi k] h Q := by
  refine sX11_carries (m_c4 hk hok.2.1 N.1 0 h (by omega) M.1 F (fun j hj => absurd hj (by omega)) (fun g p1 p2 => ?_))
  refine m_c34 (w := N.1) hk hok.2.1 N.2 [] f 0 g (MNt_c (fun x y q1 q2 => p2 x y (by omega)) M) hok.2.2.2 (by have := hok.2.2.1; show 0 + _ ≤ 40; omega) (Nat.le_refl _) p1 (fun g2 r1 r2 => ?_)
  rw [Nat.zero_add]
  exact hq g2 r1 (fun x y hx => by rw [r2 x y hx, p2 x y hx])
