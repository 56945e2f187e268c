/-! layers, class side -/
def lvl (L : Nat → Nat) (c : Nat × Nat) : Nat := if L c.1 < L c.2 then L c.2 else L c.1
def lset (L : Nat → Nat) (c : Nat × Nat) : Nat → Nat := fun i => if i = c.1 ∨ i = c.2 then lvl L c + 1 else L i
def lpass : (Nat → Nat) → List (Nat × Nat) → (Nat → Nat)
  | L, [] => L
  | L, c :: r => lpass (lset L c) r
def fl (h : Hp) (a v j : Int) : Hp := fun x y => if x = a ∧ 0 ≤ y ∧ y < j then v else h x y
theorem fl_step {h : Hp} {a v j : Int} (hj : 0 ≤ j) : up (fl h a v j) a j v = fl h a v (j + 1) := by
  funext x y
  grind [up, fl]
theorem fl_0 {h : Hp} {a v : Int} : fl h a v 0 = h := by
  funext x y
  grind [fl]
theorem fill_loop {h : Hp} {a v : Int} {Q : Hp → Prop} (ha : filA a) (kk : Q (fl h a v 8)) : ∀ (m j : Nat), j ≤ 8 → m = 8 - j → E 0 mJ7_fill_53178 5 [(0, vr a), (1, vi v), (2, vi j), (3, vi 8)] [] (fl h a v j) (qv Q)
  | 0, j, h1, h2 => by
    have e : j = 8 := by omega
    subst e
    exact sJ7_fill_53178_5 ⟨fun _ => kk, fun c => absurd c (by omega)⟩
  | m + 1, j, h1, h2 => by
    refine sJ7_fill_53178_5 ⟨fun c => absurd c (by omega), fun _ => ⟨⟨ha, by omega, by omega⟩, ?_⟩⟩
    rw [fl_step (by omega)]
    exact fill_loop ha kk m (j + 1) (by omega) (by omega)
theorem c_fill {h : Hp} {a v : Int} {Q : Hp → Prop} (ha : filA a) (hq : Q (fl h a v 8)) : CV 0 mJ7_fill_53178 [vr a, vi v] h Q := by
  refine sJ7_fill_53178 ⟨ha, ?_⟩
  have := fill_loop (h := h) (v := v) ha hq 8 0 (by omega) (by omega)
  rw [show ((0 : Nat) : Int) = 0 by rfl, fl_0] at this
  exact this
theorem pl_loop {a : Int} {w n : Nat} {Q : Hp → Prop} (ha : nA a) (hw : w ≤ 8) : ∀ (mid pre post : List (Nat × Nat)) (L : Nat → Nat) (h : Hp), CNt h a (w, pre ++ (mid ++ post)) → (∀ i : Nat, i < 8 → h (a + 3) i = L i) → (∀ i : Nat, L i ≤ pre.length) → okL w mid → pre.length + mid.length = n → n ≤ 40 → (∀ g, (∀ i : Nat, i < 8 → g (a + 3) i = ((lpass L mid i : Nat) : Int)) → (∀ i : Nat, lpass L mid i ≤ n) → (∀ x y, x ≠ a + 3 → g x y = h x y) → Q g) → E 1 mX3_passLayers 10 [(0, vr a), (1, vi n), (2, vi pre.length)] [] h (qv Q)
  | [], pre, post, L, h, A, V, B, hok, hl, hn, hq => by
    rw [List.length_nil] at hl
    exact sX3_passLayers_10 ⟨fun _ => hq h V (fun i => by have := B i; show L i ≤ n; omega) (fun _ _ _ => rfl), fun c => absurd c (by omega)⟩
  | c :: r, pre, post, L, h, A, V, B, hok, hl, hn, hq => by
    have e : h a 1 = ((pre ++ (c :: r ++ post)).length : Nat) := A.2.1
    rw [List.length_append, List.length_append, List.length_cons] at e
    rw [List.length_cons] at hl
    obtain ⟨b1, b2⟩ := Row_mid (r := r ++ post) A.2.2
    rw [Int.zero_add] at b1 b2
    have hc := hok c (List.mem_cons_self ..)
    have v1 := V c.1 (by omega)
    have v2 := V c.2 (by omega)
    have B1 := B c.1
    have B2 := B c.2
    have lv : (if (L c.1 : Int) < L c.2 then (L c.2 : Int) else L c.1) = lvl L c := by unfold lvl; split <;> split <;> omega
    have lb : lvl L c ≤ pre.length := by unfold lvl; split <;> omega
    refine sX3_passLayers_10 ⟨fun c => absurd c (by omega), fun _ => ⟨ha, fun c => absurd c (by omega), fun _ => ?_⟩⟩
    rw [b1, b2, v1, v2, lv]
    refine ⟨by omega, fun x6 hx6 => ?_⟩
    rw [up_no (x := a + 2) (by omega), b2]
    refine ⟨by omega, ?_⟩
    have fr : ∀ x y, x ≠ a + 3 → up (up h (a + 3) c.1 x6) (a + 3) c.2 x6 x y = h x y := fun x y hx => by rw [up_no (by omega), up_no (by omega)]
    have := pl_loop (n := n) (Q := Q) ha hw r (pre ++ [c]) post (lset L c) (up (up h (a + 3) c.1 x6) (a + 3) c.2 x6) (by rw [List.append_assoc]; exact CNt_c (fun x y p1 p2 => fr x y (by omega)) A) (fun i hi => ?_) (fun i => ?_) (okL_tail hok) (by rw [List.length_append, List.length_singleton]; omega) hn (fun g q1 q2 q3 => hq g q1 q2 (fun x y hx => by rw [q3 x y hx, fr x y hx]))
    · rw [List.length_append, List.length_singleton] at this
      exact this
    · unfold lset
      have := V i hi
      by_cases c2 : i = c.2
      · rw [if_pos (Or.inr c2), c2, up_eq, hx6]; omega
      · by_cases c1 : i = c.1
        · rw [if_pos (Or.inl c1), up_no (by omega), c1, up_eq, hx6]; omega
        · rw [if_neg (by omega), up_no (by omega), up_no (by omega)]; exact this
    · unfold lset
      have := B i
      rw [List.length_append, List.length_singleton]
      split <;> omega
theorem c_passLayers {h : Hp} {a : Int} {w n : Nat} {mid post : List (Nat × Nat)} {Q : Hp → Prop} (ha : nA a) (hw : w ≤ 8) (A : CNt h a (w, mid ++ post)) (hok : okL w mid) (hl : mid.length = n) (hn : n ≤ 40) (hq : ∀ g, (∀ i : Nat, i < 8 → g (a + 3) i = ((lpass (fun _ => 0) mid i : Nat) : Int)) → (∀ i : Nat, lpass (fun _ => 0) mid i ≤ n) → (∀ x y, x ≠ a + 3 → g x y = h x y) → Q g) : CV 1 mX3_passLayers [vr a, vi n] h Q := by
  have fr : ∀ x y, x ≠ a + 3 → fl h (a + 3) 0 8 x y = h x y := fun x y hx => by unfold fl; rw [if_neg (by omega)]
  refine sX3_passLayers ⟨ha, c_fill (by omega) ?_⟩
  exact pl_loop (n := n) ha hw mid [] post (fun _ => 0) _ (CNt_c (fun x y p1 p2 => fr x y (by omega)) A) (fun i hi => by unfold fl; rw [if_pos (by omega)]; rfl) (fun i => Nat.zero_le _) hok (by rw [List.length_nil]; omega) hn (fun g q1 q2 q3 => hq g q1 q2 (fun x y hx => by rw [q3 x y hx, fr x y hx]))
