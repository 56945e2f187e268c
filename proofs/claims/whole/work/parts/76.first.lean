/-! firstUnsorted -/
def vX (w x : Nat) : Nat → Nat := fun i => if i < w then (if x.testBit i = true then (w - pop x w) + pop x i else i - pop x i) else 0
theorem pop_mono {x : Nat} : ∀ d i : Nat, pop x i ≤ pop x (i + d)
  | 0, i => Nat.le_refl _
  | d + 1, i => by
    have := pop_mono (x := x) d i
    show _ ≤ pop x (i + d) + _
    omega
theorem pop_le2 {x i w : Nat} (h : i ≤ w) : pop x i ≤ pop x w := by
  have := pop_mono (x := x) (w - i) i
  rw [show i + (w - i) = w by omega] at this
  exact this
theorem pop_t {x i : Nat} (h : x.testBit i = true) : pop x (i + 1) = pop x i + 1 := by
  show pop x i + (if x.testBit i then 1 else 0) = _
  rw [h, if_pos rfl]
theorem pop_ff {x i : Nat} (h : x.testBit i = false) : pop x (i + 1) = pop x i := by
  show pop x i + (if x.testBit i then 1 else 0) = _
  rw [h, if_neg (by decide), Nat.add_zero]
theorem zer_mono {x : Nat} : ∀ d i : Nat, i - pop x i ≤ (i + d) - pop x (i + d)
  | 0, i => Nat.le_refl _
  | d + 1, i => by
    have ih := zer_mono (x := x) d i
    have p1 := pop_le (x := x) (i + d)
    cases hb : x.testBit (i + d) with
    | true => have := pop_t hb; rw [show i + (d + 1) = i + d + 1 by omega]; omega
    | false => have := pop_ff hb; rw [show i + (d + 1) = i + d + 1 by omega]; omega
theorem zer_le2 {x i w : Nat} (h : i ≤ w) : i - pop x i ≤ w - pop x w := by
  have := zer_mono (x := x) (w - i) i
  rw [show i + (w - i) = w by omega] at this
  exact this
theorem vX_hi {w x i : Nat} (hi : i < w) (hb : x.testBit i = true) : vX w x i = (w - pop x w) + pop x i ∧ w - pop x w ≤ vX w x i ∧ vX w x i < w := by
  have e : vX w x i = (w - pop x w) + pop x i := by unfold vX; rw [if_pos hi, if_pos hb]
  have p1 := pop_le2 (x := x) (i := i + 1) (w := w) (by omega)
  have p2 := pop_t hb
  have p3 := pop_le (x := x) w
  omega
theorem vX_lo {w x i : Nat} (hi : i < w) (hb : x.testBit i = false) : vX w x i = i - pop x i ∧ vX w x i < w - pop x w := by
  have e : vX w x i = i - pop x i := by unfold vX; rw [if_pos hi, if_neg (by rw [hb]; decide)]
  have p1 := zer_le2 (x := x) (i := i + 1) (w := w) (by omega)
  have p2 := pop_ff hb
  have p3 := pop_le (x := x) i
  omega
theorem vX_P {w x : Nat} : isP w (vX w x) := by
  have key : ∀ i j : Nat, i < j → j < w → vX w x i ≠ vX w x j := by
    intro i j hij hj e
    have hi : i < w := by omega
    cases bi : x.testBit i with
    | true =>
      have a := vX_hi hi bi
      cases bj : x.testBit j with
      | true =>
        have b := vX_hi hj bj
        have p1 := pop_le2 (x := x) (i := i + 1) (w := j) (by omega)
        have p2 := pop_t bi
        omega
      | false =>
        have b := vX_lo hj bj
        omega
    | false =>
      have a := vX_lo hi bi
      cases bj : x.testBit j with
      | true =>
        have b := vX_hi hj bj
        omega
      | false =>
        have b := vX_lo hj bj
        have p1 := zer_le2 (x := x) (i := i + 1) (w := j) (by omega)
        have p2 := pop_ff bi
        have p3 := pop_le (x := x) i
        omega
  refine ⟨fun i hi => ?_, fun i j hi hj e => ?_, fun i hi => ?_⟩
  · cases bi : x.testBit i with
    | true => exact (vX_hi hi bi).2.2
    | false =>
      have := (vX_lo hi bi).2
      omega
  · by_cases q : i = j
    · exact q
    · by_cases q2 : i < j
      · exact absurd e (key i j q2 hj)
      · exact absurd e.symm (key j i (by omega) hi)
  · unfold vX
    rw [if_neg (by omega)]
theorem vX_th {w x : Nat} (hx : x < 2 ^ w) : thN (vX w x) (w - pop x w) w = x := by
  refine bit_ext (thN_lt w) hx (fun i hi => ?_)
  rw [thN_bit, decide_eq_true hi, Bool.true_and]
  cases bi : x.testBit i with
  | true => exact decide_eq_true (vX_hi hi bi).2.1
  | false => exact decide_eq_false (by have := (vX_lo hi bi).2; omega)
theorem rk0 {x : Nat} : ∀ (i u : Nat), u < i - pop x i → ∃ j : Nat, j < i ∧ x.testBit j = false ∧ j - pop x j = u
  | 0, u, h => absurd h (by omega)
  | i + 1, u, h => by
    have p3 := pop_le (x := x) i
    cases b : x.testBit i with
    | true =>
      have p := pop_t b
      obtain ⟨j, h1, h2⟩ := rk0 (x := x) i u (by omega)
      exact ⟨j, by omega, h2⟩
    | false =>
      have p := pop_ff b
      by_cases q : u = i - pop x i
      · exact ⟨i, by omega, b, q.symm⟩
      · obtain ⟨j, h1, h2⟩ := rk0 (x := x) i u (by omega)
        exact ⟨j, by omega, h2⟩
theorem rk1 {x : Nat} : ∀ (i u : Nat), u < pop x i → ∃ j : Nat, j < i ∧ x.testBit j = true ∧ pop x j = u
  | 0, u, h => absurd h (by show ¬ u < 0; omega)
  | i + 1, u, h => by
    cases b : x.testBit i with
    | false =>
      have p := pop_ff b
      obtain ⟨j, h1, h2⟩ := rk1 (x := x) i u (by omega)
      exact ⟨j, by omega, h2⟩
    | true =>
      have p := pop_t b
      by_cases q : u = pop x i
      · exact ⟨i, by omega, b, q.symm⟩
      · obtain ⟨j, h1, h2⟩ := rk1 (x := x) i u (by omega)
        exact ⟨j, by omega, h2⟩
theorem cd_lex {f g : Nat → Nat} {i : Nat} : ∀ (d : Nat), (∀ j : Nat, j < i + 1 + d → f j ≤ 9) → (∀ j : Nat, j < i → f j = g j) → f i < g i → cdF f (i + 1 + d) < cdF g (i + 1 + d)
  | 0, _, he, hlt => by
    have e : ∀ m : Nat, m ≤ i → cdF f m = cdF g m := by
      intro m
      induction m with
      | zero => intro _; rfl
      | succ m ih =>
        intro hm
        show 10 * cdF f m + f m = 10 * cdF g m + g m
        rw [ih (by omega), he m (by omega)]
    show 10 * cdF f i + f i < 10 * cdF g i + g i
    rw [e i (Nat.le_refl _)]
    omega
  | d + 1, h9, he, hlt => by
    have ih := cd_lex d (fun j hj => h9 j (by omega)) he hlt
    have := h9 (i + 1 + d) (by omega)
    show 10 * cdF f (i + 1 + d) + f (i + 1 + d) < 10 * cdF g (i + 1 + d) + g (i + 1 + d)
    omega
theorem vX_le {w x : Nat} {f : Nat → Nat} (hw : w ≤ 8) (hf : isP w f) (ht : thN f (w - pop x w) w = x) : cdF (vX w x) w ≤ cdF f w := by
  by_cases ha : ∀ i : Nat, i < w → vX w x i = f i
  · have e : ∀ m : Nat, m ≤ w → cdF (vX w x) m = cdF f m := by
      intro m
      induction m with
      | zero => intro _; rfl
      | succ m ih =>
        intro hm
        show 10 * cdF (vX w x) m + vX w x m = 10 * cdF f m + f m
        rw [ih (by omega), ha m (by omega)]
    rw [e w (Nat.le_refl _)]
    exact Nat.le_refl _
  · have ex : ∃ i : Nat, i < w ∧ vX w x i ≠ f i ∧ ∀ j : Nat, j < i → vX w x j = f j := by
      have : ∀ n : Nat, n ≤ w → (∀ j : Nat, j < n → vX w x j = f j) ∨ ∃ i : Nat, i < n ∧ vX w x i ≠ f i ∧ ∀ j : Nat, j < i → vX w x j = f j := by
        intro n
        induction n with
        | zero => intro _; left; intro j hj; exact absurd hj (by omega)
        | succ n ih =>
          intro hn
          rcases ih (by omega) with a | ⟨i, h1, h2⟩
          · by_cases q : vX w x n = f n
            · left
              intro j hj
              by_cases e : j = n
              · rw [e]; exact q
              · exact a j (by omega)
            · right; exact ⟨n, by omega, q, a⟩
          · right; exact ⟨i, by omega, h2⟩
      rcases this w (Nat.le_refl _) with a | ⟨i, h1, h2⟩
      · exact absurd a ha
      · exact ⟨i, h1, h2⟩
    obtain ⟨i, hi, hne, hpre⟩ := ex
    have lt : vX w x i < f i := by
      have bt := thN_bit (f := f) (t := w - pop x w) (i := i) w
      rw [ht, decide_eq_true hi, Bool.true_and] at bt
      cases bi : x.testBit i with
      | true =>
        rw [bi] at bt
        have ge := of_decide_eq_true bt.symm
        have vh := vX_hi hi bi
        have nlt : ¬ f i < vX w x i := fun c => by
          obtain ⟨j, h1, h2, h3⟩ := rk1 (x := x) i (f i - (w - pop x w)) (by omega)
          have vj := vX_hi (w := w) (show j < w by omega) h2
          have ej := hpre j h1
          have := hf.2.1 j i (by omega) hi (by omega)
          omega
        omega
      | false =>
        have vl := vX_lo hi bi
        have nlt : ¬ f i < vX w x i := fun c => by
          obtain ⟨j, h1, h2, h3⟩ := rk0 (x := x) i (f i) (by omega)
          have vj := vX_lo (w := w) (show j < w by omega) h2
          have ej := hpre j h1
          have := hf.2.1 j i (by omega) hi (by omega)
          omega
        omega
    have := cd_lex (f := vX w x) (g := f) (i := i) (w - (i + 1)) (fun j hj => by have := (vX_P (w := w) (x := x)).1 j (by omega); omega) hpre lt
    rw [show i + 1 + (w - (i + 1)) = w by omega] at this
    omega
theorem pop_th {w : Nat} {f : Nat → Nat} (h : isP w f) : ∀ n : Nat, n ≤ w → pop (thN f (w - n) w) w = n
  | 0, _ => by
    have z : thN f (w - 0) w = 0 := bit_ext (w := w) (thN_lt w) (Nat.two_pow_pos w) (fun i hi => by
      have := h.1 i hi
      rw [thN_bit, decide_eq_false (show ¬ w - 0 ≤ f i by omega), Bool.and_false, Nat.zero_testBit])
    rw [z]
    exact pop_zero w
  | n + 1, hn => by
    have ih := pop_th h n (by omega)
    obtain ⟨i, h1, h2⟩ := isP_sur h (t := w - (n + 1)) (by omega)
    have bi : (thN f (w - (n + 1)) w).testBit i = true := by
      rw [thN_bit, decide_eq_true h1, decide_eq_true (show w - (n + 1) ≤ f i by omega)]; rfl
    have e : thN f (w - (n + 1)) w ^^^ 2 ^ i = thN f (w - n) w := by
      refine bit_ext (xor_lt (thN_lt w) h1) (thN_lt w) (fun j hj => ?_)
      rw [xor_bit, thN_bit, thN_bit, decide_eq_true hj, Bool.true_and, Bool.true_and]
      by_cases q : i = j
      · subst q
        rw [decide_eq_true rfl, decide_eq_true (show w - (n + 1) ≤ f i by omega), decide_eq_false (show ¬ w - n ≤ f i by omega)]; rfl
      · rw [decide_eq_false q, Bool.xor_false]
        have hne : f j ≠ w - (n + 1) := fun e => q (h.2.1 i j h1 hj (h2.trans e.symm))
        by_cases q2 : w - (n + 1) ≤ f j
        · rw [decide_eq_true q2, decide_eq_true (show w - n ≤ f j by omega)]
        · rw [decide_eq_false q2, decide_eq_false (show ¬ w - n ≤ f j by omega)]
    have px := pop_xor bi w
    rw [if_pos h1, e, ih] at px
    omega
/-! the first unsorted one of the list -/
theorem ltL_ex : ∀ (u v : List Nat), u.length = v.length → ltL u v → ∃ i : Nat, i < u.length ∧ (∀ j : Nat, j < i → fnL u j = fnL v j) ∧ fnL u i < fnL v i
  | [], v, _, h => absurd h (fun c => c)
  | a :: u, [], h, _ => absurd h (by simp)
  | a :: u, b :: v, hl, h => by
    rcases h with h | ⟨e, h⟩
    · exact ⟨0, by rw [List.length_cons]; omega, fun j hj => absurd hj (by omega), h⟩
    · obtain ⟨i, h1, h2, h3⟩ := ltL_ex u v (by rw [List.length_cons, List.length_cons] at hl; omega) h
      refine ⟨i + 1, by rw [List.length_cons]; omega, fun j hj => ?_, h3⟩
      cases j with
      | zero => exact e
      | succ j => exact h2 j (by omega)
theorem ltL_cd {w : Nat} {u v : List Nat} (hw : w ≤ 8) (hu : u.Perm (List.range w)) (hv : v.Perm (List.range w)) (h : ltL u v) : cdF (fnL u) w < cdF (fnL v) w := by
  have lu : u.length = w := by rw [hu.length_eq, List.length_range]
  have lv : v.length = w := by rw [hv.length_eq, List.length_range]
  obtain ⟨i, h1, h2, h3⟩ := ltL_ex u v (by omega) h
  have := cd_lex (f := fnL u) (g := fnL v) (i := i) (w - (i + 1)) (fun j hj => by have := (fnL_P hu).1 j (by omega); omega) h2 h3
  rw [show i + 1 + (w - (i + 1)) = w by omega] at this
  exact this
theorem fbL_ch {w : Nat} {cs : List (Nat × Nat)} : ∀ (L : List (List Nat)), L.Pairwise (fun u v => cdF (fnL u) w < cdF (fnL v) w) → (fbL w cs L = -4 ∧ ∀ u ∈ L, srtV w cs (fnL u) = true) ∨ ∃ v ∈ L, srtV w cs (fnL v) = false ∧ fbL w cs L = ((cdF (fnL v) w : Nat) : Int) ∧ ∀ u ∈ L, srtV w cs (fnL u) = false → cdF (fnL v) w ≤ cdF (fnL u) w
  | [], _ => Or.inl ⟨rfl, fun u hu => absurd hu List.not_mem_nil⟩
  | v :: L, hp => by
    obtain ⟨h1, h2⟩ := List.pairwise_cons.1 hp
    cases hb : srtV w cs (fnL v) with
    | false =>
      right
      refine ⟨v, List.mem_cons_self .., hb, ?_, fun u hu _ => ?_⟩
      · show (if srtV w cs (fnL v) then fbL w cs L else ((cdF (fnL v) w : Nat) : Int)) = _
        rw [hb]; rfl
      · rcases List.mem_cons.1 hu with e | e
        · rw [e]; exact Nat.le_refl _
        · exact Nat.le_of_lt (h1 u e)
    | true =>
      have e0 : fbL w cs (v :: L) = fbL w cs L := by
        show (if srtV w cs (fnL v) then fbL w cs L else ((cdF (fnL v) w : Nat) : Int)) = _
        rw [hb]; rfl
      rcases fbL_ch (w := w) (cs := cs) L h2 with ⟨a, b⟩ | ⟨u, a, b, c, d⟩
      · left
        refine ⟨by rw [e0]; exact a, fun u hu => ?_⟩
        rcases List.mem_cons.1 hu with e | e
        · rw [e]; exact hb
        · exact b u e
      · right
        refine ⟨u, List.mem_cons_of_mem _ a, b, by rw [e0]; exact c, fun u' hu' hs => ?_⟩
        rcases List.mem_cons.1 hu' with e | e
        · rw [e, hb] at hs; exact absurd hs (by decide)
        · exact d u' e hs
def IsM (w : Nat) (cs : List (Nat × Nat)) (n : Nat) (r : Int) : Prop := (r = -4 ∧ ∀ x : Nat, x < n → gdX w cs x = true) ∨ ∃ x : Nat, x < n ∧ gdX w cs x = false ∧ r = ((cdF (vX w x) w : Nat) : Int) ∧ ∀ y : Nat, y < n → gdX w cs y = false → cdF (vX w x) w ≤ cdF (vX w y) w
theorem cry_0 : ∀ cs : List (Nat × Nat), cry cs 0 = 0
  | [] => rfl
  | c :: r => by
    show cry r (exq c 0) = 0
    have : exq c 0 = 0 := by unfold exq; rw [if_neg (fun z => by have := z.1; rw [Nat.zero_testBit] at this; exact absurd this (by decide))]
    rw [this, cry_0 r]
theorem bad_0 : ∀ n : Nat, badB 0 n = false
  | 0 => rfl
  | n + 1 => by
    show (badB 0 n || ((0 : Nat).testBit n && _)) = false
    rw [bad_0 n, Nat.zero_testBit]; rfl
theorem first_eq {w : Nat} {cs : List (Nat × Nat)} {r : Int} (hw1 : 1 ≤ w) (hw : w ≤ 8) (hok : okL w cs) (h : IsM w cs (2 ^ w) r) : fbL w cs (lx w (List.range w)) = r := by
  have pm : ∀ v ∈ lx w (List.range w), v.Perm (List.range w) := fun v hv => (lx_mem w _ v List.length_range).1 hv
  have pw : (lx w (List.range w)).Pairwise (fun u v => cdF (fnL u) w < cdF (fnL v) w) := List.Pairwise.imp_of_mem (fun {a b} ha hb hab => ltL_cd hw (pm a ha) (pm b hb) hab) (lx_pw w (List.range w) List.length_range (rng_pw w))
  have uns : ∀ f : Nat → Nat, isP w f → srtV w cs f = false → ∃ x : Nat, x < 2 ^ w ∧ gdX w cs x = false ∧ cdF (vX w x) w ≤ cdF f w := by
    intro f hf hs
    have : ¬ ∀ t : Nat, t < w → gdX w cs (thN f t w) = true := fun c => by
      have := (srt_ch hw1 hok hf).2 c
      unfold srtV at hs
      rw [decide_eq_true this] at hs
      exact absurd hs (by decide)
    have ⟨t, ht, hg⟩ : ∃ t : Nat, t < w ∧ gdX w cs (thN f t w) = false := by
      apply Classical.byContradiction
      intro hn
      refine this (fun t ht => ?_)
      cases hc : gdX w cs (thN f t w) with
      | true => rfl
      | false => exact absurd ⟨t, ht, hc⟩ hn
    have pt := pop_th hf (w - t) (by omega)
    rw [show w - (w - t) = t by omega] at pt
    refine ⟨thN f t w, thN_lt w, hg, vX_le hw hf ?_⟩
    rw [pt, show w - (w - t) = t by omega]
  have bad : ∀ x : Nat, x < 2 ^ w → gdX w cs x = false → ∃ v ∈ lx w (List.range w), srtV w cs (fnL v) = false ∧ fnL v = vX w x := by
    intro x hx hg
    obtain ⟨v, h1, h2⟩ := List.mem_map.1 ((allP_mem (w := w) (f := vX w x)).2 vX_P)
    refine ⟨v, h1, ?_, h2⟩
    rw [h2]
    cases hc : srtV w cs (vX w x) with
    | false => rfl
    | true =>
      have h3 := (srt_ch hw1 hok (vX_P (w := w) (x := x))).1 (of_decide_eq_true hc)
      have x1 : 1 ≤ x := by
        apply Classical.byContradiction
        intro hn
        have e : x = 0 := by omega
        subst e
        unfold gdX at hg
        rw [cry_0, bad_0] at hg
        exact absurd hg (by decide)
      have pp := pop_pos hx x1
      have := h3 (w - pop x w) (by omega)
      rw [vX_th hx, hg] at this
      exact absurd this (by decide)
  rcases fbL_ch (w := w) (cs := cs) _ pw with ⟨a, b⟩ | ⟨v, a, b, c, d⟩
  · rcases h with ⟨e, _⟩ | ⟨x, h1, h2, _⟩
    · rw [a, e]
    · obtain ⟨v, h3, h4, _⟩ := bad x h1 h2
      rw [b v h3] at h4
      exact absurd h4 (by decide)
  · rcases h with ⟨e, f⟩ | ⟨x, h1, h2, h3, h4⟩
    · obtain ⟨x, h1, h2, _⟩ := uns (fnL v) (fnL_P (pm v a)) b
      rw [f x h1] at h2
      exact absurd h2 (by decide)
    · rw [c, h3]
      obtain ⟨y, g1, g2, g3⟩ := uns (fnL v) (fnL_P (pm v a)) b
      have le1 := h4 y g1 g2
      obtain ⟨u, k1, k2, k3⟩ := bad x h1 h2
      have le2 := d u k1 k2
      rw [k3] at le2
      omega
/-! the class's side -/
theorem c_lt15 {w x : Nat} {h : Hp} {Q : Int → Hp → Prop} (hw : w ≤ 8) (hx : x < 2 ^ w) (hq : Q ((cdF (vX w x) w : Nat) : Int) h) : ∀ (m i : Nat) (z2 z3 z4 : Int), i + m = w → z2 = ((i - pop x i : Nat) : Int) → z3 = ((w - pop x w + pop x i : Nat) : Int) → z4 = ((cdF (vX w x) i : Nat) : Int) → E 1 mX0_leastThrough 15 [(0, vi x), (1, vi w), (2, vi z2), (3, vi z3), (4, vi z4), (5, vi i)] [] h (qi Q)
  | 0, i, z2, z3, z4, hm, e2, e3, e4 => by
    have ei : i = w := by omega
    rw [e4, ei]
    exact sX0_leastThrough_15 ⟨fun _ => hq, fun c => absurd c (by omega)⟩
  | m + 1, i, z2, z3, z4, hm, e2, e3, e4 => by
    have h256 := p256 hw
    have hi : i < w := by omega
    have bt : j_iand (j_ishr x i) 1 = if x.testBit i then 1 else 0 := jbit (by omega) (by omega)
    have cl := cdF_lt (f := vX w x) i (fun j hj => by have := (vX_P (w := w) (x := x)).1 j (by omega); omega)
    have p10 := pow10 (i := i) (by omega)
    have pi := pop_le (x := x) i
    have pw := pop_le (x := x) w
    have vb := (vX_P (w := w) (x := x)).1 i hi
    have ec : cdF (vX w x) (i + 1) = 10 * cdF (vX w x) i + vX w x i := rfl
    refine sX0_leastThrough_15 ⟨fun c => absurd c (by omega), fun _ => ?_⟩
    rw [bt]
    cases b : x.testBit i with
    | true =>
      have vh := vX_hi hi b
      have pt := pop_t b
      rw [if_pos rfl, if_neg (by decide), if_pos rfl, if_neg (by decide)]
      refine ⟨by omega, by omega, fun x6 hx6 => ⟨by omega, fun x9 hx9 => ⟨by omega, fun x12 hx12 => ⟨by omega, ?_⟩⟩⟩⟩
      rw [show (i : Int) + 1 = ((i + 1 : Nat) : Int) by omega]
      exact c_lt15 hw hx hq m (i + 1) _ _ _ (by omega) (by omega) (by omega) (by omega)
    | false =>
      have vl := vX_lo hi b
      have pt := pop_ff b
      rw [if_neg (c := false = true) (by decide), if_pos (by decide), if_neg (by decide), if_pos (by decide)]
      refine ⟨by omega, by omega, fun x6 hx6 => ⟨by omega, fun x9 hx9 => ⟨by omega, fun x12 hx12 => ⟨by omega, ?_⟩⟩⟩⟩
      rw [show (i : Int) + 1 = ((i + 1 : Nat) : Int) by omega]
      exact c_lt15 hw hx hq m (i + 1) _ _ _ (by omega) (by omega) (by omega) (by omega)
theorem c_lthr {h : Hp} {w x : Nat} {zx zw : Int} {Q : Int → Hp → Prop} (ex : zx = x) (ew : zw = w) (hw : w ≤ 8) (hx : x < 2 ^ w) (hq : Q ((cdF (vX w x) w : Nat) : Int) h) : CI 1 mX0_leastThrough [vi zx, vi zw] h Q := by
  subst ex
  subst ew
  have h256 := p256 hw
  have p8 : pop x 8 = pop x w := by
    have := pop_hi hx (8 - w)
    rw [show w + (8 - w) = 8 by omega] at this
    exact this
  have pw := pop_le (x := x) w
  refine sX0_leastThrough (c_bc32 (by omega) ⟨by omega, ?_⟩)
  refine c_lt15 hw hx hq w 0 _ _ _ (by omega) rfl ?_ rfl
  show (w : Int) - ((pop x 8 : Nat) : Int) = ((w - pop x w + 0 : Nat) : Int)
  omega
theorem c_lwf {w : Nat} {cs : List (Nat × Nat)} {h : Hp} {Q : Int → Hp → Prop} (hw1 : 1 ≤ w) (hw : w ≤ 8) (hok : okL w cs) (S : SW h w (fun x => cry cs x)) (hq : ∀ r : Int, IsM w cs (2 ^ w) r → Q r h) : ∀ (m x : Nat) (z r : Int), z = x → x + m = 2 ^ w → IsM w cs x r → E 2 mX0_leastWithFailure 5 [(1, vr 83), (2, vi r), (3, vi z)] [] h (qi Q)
  | 0, x, z, r, ez, hm, I => by
    have h256 := p256 hw
    have e1 : j_ishl 1 (h 83 1) = ((2 ^ w : Nat) : Int) := by rw [S.1]; exact jshl1 (by omega)
    have ex : x = 2 ^ w := by omega
    exact sX0_leastWithFailure_5 ⟨fun _ => hq r (by rw [← ex]; exact I), fun c => absurd c (by omega)⟩
  | m + 1, x, z, r, ez, hm, I => by
    subst ez
    have h256 := p256 hw
    have wp := wds_p hw
    have hx : x < 2 ^ w := by omega
    have e1 : j_ishl 1 (h 83 1) = ((2 ^ w : Nat) : Int) := by rw [S.1]; exact jshl1 (by omega)
    refine sX0_leastWithFailure_5 ⟨fun c => absurd c (by omega), fun _ => c_outputFor hw S (by omega) (cry_lt cs x hok hx) (c_isSorted rfl S.1 hw1 hw (cry_lt cs x hok hx) ?_)⟩
    cases hb : badB (cry cs x) (w - 1) with
    | false =>
      have hg : gdX w cs x = true := by unfold gdX; rw [hb]; rfl
      refine ⟨fun _ => ⟨by omega, c_lwf hw1 hw hok S hq m (x + 1) _ r (by omega) (by omega) ?_⟩, fun c => absurd c (by decide)⟩
      rcases I with ⟨a, b⟩ | ⟨y, a, b, c, d⟩
      · refine Or.inl ⟨a, fun y hy => ?_⟩
        by_cases q : y = x
        · rw [q]; exact hg
        · exact b y (by omega)
      · refine Or.inr ⟨y, by omega, b, c, fun u hu hs => ?_⟩
        by_cases q : u = x
        · rw [q, hg] at hs; exact absurd hs (by decide)
        · exact d u (by omega) hs
    | true =>
      have hg : gdX w cs x = false := by unfold gdX; rw [hb]; rfl
      refine ⟨fun c => absurd rfl c, fun _ => c_lthr rfl S.1 hw hx (fun x16 hx16 => ⟨by omega, ?_⟩)⟩
      refine c_lwf hw1 hw hok S hq m (x + 1) _ x16 (by omega) (by omega) ?_
      rcases I with ⟨a, b⟩ | ⟨y, a, b, c, d⟩
      · rw [if_neg (fun q => q a)] at hx16
        refine Or.inr ⟨x, by omega, hg, hx16, fun u hu hs => ?_⟩
        by_cases q : u = x
        · rw [q]; exact Nat.le_refl _
        · rw [b u (by omega)] at hs; exact absurd hs (by decide)
      · rw [if_pos (show r ≠ -4 by omega)] at hx16
        by_cases q : r > ((cdF (vX w x) w : Nat) : Int)
        · rw [if_pos q] at hx16
          refine Or.inr ⟨x, by omega, hg, hx16, fun u hu hs => ?_⟩
          by_cases q2 : u = x
          · rw [q2]; exact Nat.le_refl _
          · have := d u (by omega) hs
            omega
        · rw [if_neg q] at hx16
          refine Or.inr ⟨y, by omega, b, by rw [hx16]; exact c, fun u hu hs => ?_⟩
          by_cases q2 : u = x
          · rw [q2]; omega
          · exact d u (by omega) hs
theorem op_firstUnsorted {h : Hp} {k : Int} (hR : Rl h) : OpI 3 mX10_firstUnsorted 3 mX11_firstUnsorted [vi k] h := by
  obtain ⟨nets, hist, H⟩ := Rl_RlN hR
  by_cases hk : 0 ≤ k ∧ k < 4
  · obtain ⟨j, hj, rfl⟩ := toN hk.1 hk.2
    obtain ⟨n1, n2, n3⟩ := H.1 j hj
    have w2 := n1.1
    have w8 := n1.2.1
    have okl : okL (nets j).1 (nets j).2 := n1.2.2.2
    refine op_keep (r := fbL (nets j).1 (nets j).2 (lx (nets j).1 (List.range (nets j).1))) H ?_ (fun h1 ms => ?_)
    · refine sX10_firstUnsorted ⟨fun _ => ⟨by omega, c_passAll (N := nets j) (by omega) n1 n2 (fun g S fr => ?_)⟩, fun c => absurd c (by omega)⟩
      rw [skp_no _ _ (by omega)] at S
      refine sX0_leastWithFailure (c_lwf (by omega) w8 okl S (fun r hr => ⟨(first_eq (by omega) w8 okl hr).symm, fun x y hx => fr x y (by unfold kC0 at hx; omega)⟩) (2 ^ (nets j).1) 0 0 (-4) (by omega) (by omega) (Or.inl ⟨rfl, fun x hx => absurd hx (by omega)⟩))
    · obtain ⟨m1, m2, m3, m4, e⟩ := ms
      exact sX11_firstUnsorted ⟨fun _ => m_looks (N := nets j) hj n1 (m1 j hj).2 (fun g S fr => ⟨S.2.1, frL_k fr⟩), fun c => absurd c (by omega)⟩
  · exact sX10_firstUnsorted ⟨fun c => absurd c (by omega), fun _ => sX11_firstUnsorted ⟨fun c => absurd c (by omega), fun _ => ⟨rfl, hR⟩⟩⟩
