/-! exchanges of a permutation, by its thresholds -/
def sm (f : Nat → Nat) : Nat → Nat
  | 0 => 0
  | n + 1 => sm f n + f n
theorem sm_c {f g : Nat → Nat} : ∀ n : Nat, (∀ i : Nat, i < n → f i = g i) → sm f n = sm g n
  | 0, _ => rfl
  | n + 1, h => by
    show sm f n + f n = sm g n + g n
    rw [sm_c n (fun i hi => h i (by omega)), h n (by omega)]
theorem sm_0 : ∀ n : Nat, sm (fun _ => 0) n = 0
  | 0 => rfl
  | n + 1 => by show sm (fun _ => 0) n + 0 = 0; rw [sm_0 n]
theorem sm_add {f g : Nat → Nat} : ∀ n : Nat, sm (fun i => f i + g i) n = sm f n + sm g n
  | 0 => rfl
  | n + 1 => by
    show sm (fun i => f i + g i) n + (f n + g n) = sm f n + f n + (sm g n + g n)
    rw [sm_add n]; omega
theorem sm_swap {f : Nat → Nat → Nat} {m : Nat} : ∀ n : Nat, sm (fun i => sm (fun j => f i j) m) n = sm (fun j => sm (fun i => f i j) n) m
  | 0 => by
    show 0 = sm (fun _ => 0) m
    rw [sm_0]
  | n + 1 => by
    show sm (fun i => sm (fun j => f i j) m) n + sm (fun j => f n j) m = sm (fun j => sm (fun i => f i j) n + f n j) m
    rw [sm_swap n, sm_add]
theorem sm_sh {f : Nat → Nat} : ∀ n : Nat, sm f (n + 1) = f 0 + sm (fun i => f (i + 1)) n
  | 0 => by show 0 + f 0 = f 0 + 0; omega
  | n + 1 => by
    show sm f (n + 1) + f (n + 1) = f 0 + (sm (fun i => f (i + 1)) n + f (n + 1))
    rw [sm_sh n]; omega
theorem sm_rev {g : Nat → Nat} : ∀ n : Nat, sm (fun m => g (n - 1 - m)) n = sm g n
  | 0 => rfl
  | n + 1 => by
    rw [sm_sh]
    show g (n + 1 - 1 - 0) + sm (fun i => g (n + 1 - 1 - (i + 1))) n = sm g n + g n
    rw [← sm_rev (g := g) n, show n + 1 - 1 - 0 = n by omega, sm_c (g := fun m => g (n - 1 - m)) n (fun i hi => by rw [show n + 1 - 1 - (i + 1) = n - 1 - i by omega])]
    omega
theorem sm_pt {a : Nat} {k : Nat} : ∀ n : Nat, sm (fun t => if t = a then k else 0) n = if a < n then k else 0
  | 0 => by show 0 = _; rw [if_neg (by omega)]
  | n + 1 => by
    show sm (fun t => if t = a then k else 0) n + (if n = a then k else 0) = _
    rw [sm_pt n]
    by_cases q : n = a
    · rw [if_pos q, if_neg (by omega), if_pos (by omega)]; omega
    · rw [if_neg q]
      by_cases q2 : a < n
      · rw [if_pos q2, if_pos (by omega)]; omega
      · rw [if_neg q2, if_neg (by omega)]
theorem pop_sm {y : Nat} : ∀ n : Nat, pop y n = sm (fun p => if y.testBit p then 1 else 0) n
  | 0 => rfl
  | n + 1 => by
    show pop y n + _ = sm (fun p => if y.testBit p then 1 else 0) n + _
    rw [pop_sm n]
def exP : List (Nat × Nat) → Nat → Nat → Bool
  | [], _, _ => false
  | c :: _, 0, x => exB c x
  | c :: r, p + 1, x => exP r p (exq c x)
def emN : List (Nat × Nat) → Nat → Nat → Nat
  | [], _, _ => 0
  | c :: r, x, p => (if exB c x then 2 ^ p else 0) ||| emN r (exq c x) (p + 1)
theorem emN_bit {p : Nat} : ∀ (cs : List (Nat × Nat)) (x q : Nat), (emN cs x q).testBit p = (decide (q ≤ p) && exP cs (p - q) x)
  | [], x, q => by
    show (0 : Nat).testBit p = (decide (q ≤ p) && false)
    rw [Nat.zero_testBit, Bool.and_false]
  | c :: r, x, q => by
    have ih := emN_bit (p := p) r (exq c x) (q + 1)
    show ((if exB c x then 2 ^ q else 0) ||| emN r (exq c x) (q + 1)).testBit p = _
    rw [Nat.testBit_or, ih]
    have hb : (if exB c x then 2 ^ q else 0).testBit p = (exB c x && decide (q = p)) := by
      cases exB c x with
      | true => rw [if_pos rfl, Nat.testBit_two_pow, Bool.true_and]
      | false => rw [if_neg (by decide), Nat.zero_testBit, Bool.false_and]
    rw [hb]
    by_cases e : q = p
    · subst e
      rw [Nat.sub_self]
      show (exB c x && decide (q = q) || (decide (q + 1 ≤ q) && _)) = (decide (q ≤ q) && exB c x)
      rw [decide_eq_true rfl, decide_eq_false (show ¬ q + 1 ≤ q by omega), decide_eq_true (Nat.le_refl q)]
      simp
    · by_cases q2 : q ≤ p
      · rw [show p - q = (p - (q + 1)) + 1 by omega]
        show (exB c x && decide (q = p) || (decide (q + 1 ≤ p) && exP r (p - (q + 1)) (exq c x))) = (decide (q ≤ p) && exP r (p - (q + 1)) (exq c x))
        rw [decide_eq_false e, decide_eq_true q2, decide_eq_true (show q + 1 ≤ p by omega), Bool.and_false, Bool.false_or]
      · rw [decide_eq_false e, decide_eq_false q2, decide_eq_false (show ¬ q + 1 ≤ p by omega)]
        simp
theorem emN_lt : ∀ (cs : List (Nat × Nat)) (x q : Nat), emN cs x q < 2 ^ (q + cs.length)
  | [], x, q => Nat.two_pow_pos _
  | c :: r, x, q => by
    have ih := emN_lt r (exq c x) (q + 1)
    show (if exB c x then 2 ^ q else 0) ||| emN r (exq c x) (q + 1) < 2 ^ (q + (r.length + 1))
    rw [show q + (r.length + 1) = q + 1 + r.length by omega]
    refine Nat.or_lt_two_pow ?_ ih
    split
    · exact p_lt (by omega)
    · exact Nat.two_pow_pos _
theorem emN_40 {cs : List (Nat × Nat)} {x : Nat} (hl : cs.length ≤ 40) : emN cs x 0 < 1099511627776 := by
  have h1 := emN_lt cs x 0
  have h2 : 2 ^ (0 + cs.length) ≤ 2 ^ 40 := Nat.pow_le_pow_right (by decide) (by omega)
  rw [show (2 : Nat) ^ 40 = 1099511627776 from rfl] at h2
  omega
/-- comparators that exchange at x' and not at x -/
def bg (cs : List (Nat × Nat)) (x x' : Nat) : Nat := sm (fun p => if exP cs p x' && !exP cs p x then 1 else 0) 40
theorem bg_le {cs : List (Nat × Nat)} {x x' : Nat} : bg cs x x' ≤ 40 := by
  have : ∀ n : Nat, sm (fun p => if exP cs p x' && !exP cs p x then 1 else 0) n ≤ n := by
    intro n
    induction n with
    | zero => exact Nat.le_refl _
    | succ n ih =>
      show sm (fun p => if exP cs p x' && !exP cs p x then 1 else 0) n + (if exP cs n x' && !exP cs n x then 1 else 0) ≤ n + 1
      split <;> omega
  exact this 40
theorem bg_pop {cs : List (Nat × Nat)} {x x' : Nat} : pop (emN cs x' 0 ^^^ (emN cs x' 0 &&& emN cs x 0)) 40 = bg cs x x' := by
  rw [pop_sm]
  unfold bg
  refine sm_c 40 (fun p _ => ?_)
  rw [Nat.testBit_xor, Nat.testBit_and, emN_bit, emN_bit, Nat.sub_zero, decide_eq_true (Nat.zero_le p), Bool.true_and, Bool.true_and]
  cases exP cs p x' <;> cases exP cs p x <;> rfl
def swN (f : Nat → Nat) (c : Nat × Nat) : Nat → Nat := if f c.2 < f c.1 then (fun j => if j = c.1 then f c.2 else if j = c.2 then f c.1 else f j) else f
def rnF : List (Nat × Nat) → (Nat → Nat) → (Nat → Nat)
  | [], f => f
  | c :: r, f => rnF r (swN f c)
def xcN : List (Nat × Nat) → (Nat → Nat) → Nat
  | [], _ => 0
  | c :: r, f => (if f c.2 < f c.1 then 1 else 0) + xcN r (swN f c)
theorem th_sw {w t : Nat} {f : Nat → Nat} {c : Nat × Nat} (hc : c.1 < w ∧ c.2 < w ∧ c.1 ≠ c.2) : exq c (thN f t w) = thN (swN f c) t w := by
  obtain ⟨a, b⟩ := c
  obtain ⟨h1, h2, h3⟩ := hc
  have h1 : a < w := h1
  have h2 : b < w := h2
  have h3 : a ≠ b := h3
  refine bit_ext (exq_lt h1 h2 (thN_lt w)) (thN_lt w) (fun v hv => ?_)
  rw [exq_bit h3, thN_bit, thN_bit, thN_bit, thN_bit, decide_eq_true h1, decide_eq_true h2, decide_eq_true hv, Bool.true_and, Bool.true_and, Bool.true_and, Bool.true_and]
  unfold swN
  show _ = decide (t ≤ (if f b < f a then (fun j => if j = a then f b else if j = b then f a else f j) else f) v)
  by_cases q : f b < f a
  · rw [if_pos q]
    show _ = decide (t ≤ if v = a then f b else if v = b then f a else f v)
    by_cases e1 : v = a
    · rw [if_pos e1, if_pos e1]
      by_cases q2 : t ≤ f b
      · rw [decide_eq_true q2, decide_eq_true (show t ≤ f a by omega)]; rfl
      · rw [decide_eq_false q2, Bool.and_false]
    · rw [if_neg e1, if_neg e1]
      by_cases e2 : v = b
      · rw [if_pos e2, if_pos e2]
        by_cases q2 : t ≤ f a
        · rw [decide_eq_true q2]; rfl
        · rw [decide_eq_false q2, decide_eq_false (show ¬ t ≤ f b by omega)]; rfl
      · rw [if_neg e2, if_neg e2]
  · rw [if_neg q]
    by_cases e1 : v = a
    · rw [if_pos e1, e1]
      by_cases q2 : t ≤ f a
      · rw [decide_eq_true q2, decide_eq_true (show t ≤ f b by omega)]; rfl
      · rw [decide_eq_false q2]; rfl
    · rw [if_neg e1]
      by_cases e2 : v = b
      · rw [if_pos e2, e2]
        by_cases q2 : t ≤ f b
        · rw [decide_eq_true q2, Bool.or_true]
        · rw [decide_eq_false q2, decide_eq_false (show ¬ t ≤ f a by omega)]; rfl
      · rw [if_neg e2]
theorem cry_th {w t : Nat} : ∀ (cs : List (Nat × Nat)) (f : Nat → Nat), okL w cs → cry cs (thN f t w) = thN (rnF cs f) t w
  | [], _, _ => rfl
  | c :: r, f, h => by
    show cry r (exq c (thN f t w)) = thN (rnF r (swN f c)) t w
    rw [th_sw (h c (List.mem_cons_self ..)), cry_th r (swN f c) (okL_tail h)]
theorem swN_P {w : Nat} {f : Nat → Nat} {c : Nat × Nat} (hc : c.1 < w ∧ c.2 < w ∧ c.1 ≠ c.2) (h : isP w f) : isP w (swN f c) := by
  unfold swN
  by_cases q : f c.2 < f c.1
  · rw [if_pos q]
    obtain ⟨h1, h2, h3⟩ := h
    refine ⟨fun i hi => ?_, fun i j hi hj e => ?_, fun i hi => ?_⟩
    · show (if i = c.1 then f c.2 else if i = c.2 then f c.1 else f i) < w
      have := h1 c.1 hc.1
      have := h1 c.2 hc.2.1
      have := h1 i hi
      split
      · omega
      · split <;> omega
    · have e : (if i = c.1 then f c.2 else if i = c.2 then f c.1 else f i) = (if j = c.1 then f c.2 else if j = c.2 then f c.1 else f j) := e
      have k1 := h2 i c.1 hi hc.1
      have k2 := h2 i c.2 hi hc.2.1
      have k3 := h2 j c.1 hj hc.1
      have k4 := h2 j c.2 hj hc.2.1
      have k5 := h2 i j hi hj
      have k6 := h2 c.1 c.2 hc.1 hc.2.1
      by_cases a1 : i = c.1
      · rw [if_pos a1] at e
        by_cases a2 : j = c.1
        · rw [a1, a2]
        · rw [if_neg a2] at e
          by_cases a3 : j = c.2
          · rw [if_pos a3] at e; omega
          · rw [if_neg a3] at e; exact absurd (k4 e.symm) a3
      · rw [if_neg a1] at e
        by_cases b1 : i = c.2
        · rw [if_pos b1] at e
          by_cases a2 : j = c.1
          · rw [if_pos a2] at e; omega
          · rw [if_neg a2] at e
            by_cases a3 : j = c.2
            · rw [b1, a3]
            · rw [if_neg a3] at e; exact absurd (k3 e.symm) a2
        · rw [if_neg b1] at e
          by_cases a2 : j = c.1
          · rw [if_pos a2] at e; exact absurd (k2 e) b1
          · rw [if_neg a2] at e
            by_cases a3 : j = c.2
            · rw [if_pos a3] at e; exact absurd (k1 e) a1
            · rw [if_neg a3] at e; exact k5 e
    · show (if i = c.1 then f c.2 else if i = c.2 then f c.1 else f i) = 0
      rw [if_neg (by omega), if_neg (by omega)]
      exact h3 i hi
  · rw [if_neg q]; exact h
theorem rnF_P {w : Nat} : ∀ (cs : List (Nat × Nat)) (f : Nat → Nat), okL w cs → isP w f → isP w (rnF cs f)
  | [], _, _, h => h
  | c :: r, f, hok, h => rnF_P r (swN f c) (okL_tail hok) (swN_P (hok c (List.mem_cons_self ..)) h)
def xp : List (Nat × Nat) → Nat → (Nat → Nat) → Nat
  | [], _, _ => 0
  | c :: _, 0, f => if f c.2 < f c.1 then 1 else 0
  | c :: r, p + 1, f => xp r p (swN f c)
theorem xp_sm : ∀ (cs : List (Nat × Nat)) (n : Nat) (f : Nat → Nat), cs.length ≤ n → sm (fun p => xp cs p f) n = xcN cs f
  | [], n, f, _ => sm_0 n
  | c :: r, 0, f, h => absurd h (by rw [List.length_cons]; omega)
  | c :: r, n + 1, f, h => by
    rw [List.length_cons] at h
    rw [sm_sh]
    show (if f c.2 < f c.1 then 1 else 0) + sm (fun p => xp r p (swN f c)) n = _
    rw [xp_sm r n (swN f c) (by omega)]
    rfl
theorem exP_th {w : Nat} : ∀ (cs : List (Nat × Nat)) (p : Nat) (f : Nat → Nat), okL w cs → isP w f → sm (fun t => if exP cs p (thN f t w) && !exP cs p (thN f (t + 1) w) then 1 else 0) w = xp cs p f
  | [], p, f, _, _ => sm_0 w
  | c :: r, 0, f, hok, h => by
    have hc := hok c (List.mem_cons_self ..)
    have ha := h.1 c.1 hc.1
    have hb := h.1 c.2 hc.2.1
    show sm (fun t => if exB c (thN f t w) && !exB c (thN f (t + 1) w) then 1 else 0) w = (if f c.2 < f c.1 then 1 else 0)
    have e : ∀ t : Nat, exB c (thN f t w) = (decide (t ≤ f c.1) && !decide (t ≤ f c.2)) := fun t => by
      unfold exB
      rw [thN_bit, thN_bit, decide_eq_true hc.1, decide_eq_true hc.2.1, Bool.true_and, Bool.true_and]
    rw [sm_c (g := fun t => if t = f c.1 then (if f c.2 < f c.1 then 1 else 0) else 0) w (fun t ht => ?_), sm_pt, if_pos ha]
    rw [e, e]
    by_cases q : t = f c.1
    · rw [if_pos q]
      by_cases q2 : f c.2 < f c.1
      · rw [if_pos q2, decide_eq_true (show t ≤ f c.1 by omega), decide_eq_false (show ¬ t ≤ f c.2 by omega), decide_eq_false (show ¬ t + 1 ≤ f c.1 by omega)]; rfl
      · rw [if_neg q2, decide_eq_true (show t ≤ f c.1 by omega), decide_eq_true (show t ≤ f c.2 by omega)]; rfl
    · rw [if_neg q]
      by_cases q2 : t ≤ f c.1
      · by_cases q3 : t ≤ f c.2
        · rw [decide_eq_true q2, decide_eq_true q3]; rfl
        · rw [decide_eq_true q2, decide_eq_false q3, decide_eq_true (show t + 1 ≤ f c.1 by omega), decide_eq_false (show ¬ t + 1 ≤ f c.2 by omega)]; rfl
      · rw [decide_eq_false q2]; rfl
  | c :: r, p + 1, f, hok, h => by
    have hc := hok c (List.mem_cons_self ..)
    show sm (fun t => if exP r p (exq c (thN f t w)) && !exP r p (exq c (thN f (t + 1) w)) then 1 else 0) w = xp r p (swN f c)
    rw [← exP_th r p (swN f c) (okL_tail hok) (swN_P hc h)]
    refine sm_c w (fun t _ => ?_)
    rw [th_sw hc, th_sw hc]
theorem xc_sm {w : Nat} {cs : List (Nat × Nat)} {f : Nat → Nat} (hok : okL w cs) (hl : cs.length ≤ 40) (h : isP w f) : sm (fun t => bg cs (thN f (t + 1) w) (thN f t w)) w = xcN cs f := by
  rw [← xp_sm cs 40 f hl]
  unfold bg
  rw [sm_swap]
  exact sm_c 40 (fun p _ => exP_th cs p f hok h)
/-! sorted -/
theorem bad_f {y : Nat} : ∀ (n : Nat), badB y n = false ↔ ∀ v : Nat, v < n → y.testBit v = true → y.testBit (v + 1) = true
  | 0 => ⟨fun _ v hv => absurd hv (by omega), fun _ => rfl⟩
  | n + 1 => by
    have ih := bad_f (y := y) n
    show (badB y n || (y.testBit n && !y.testBit (n + 1))) = false ↔ _
    rw [Bool.or_eq_false_iff, ih]
    constructor
    · rintro ⟨h1, h2⟩ v hv hb
      by_cases q : v = n
      · subst q
        rw [hb] at h2
        cases hc : y.testBit (v + 1) with
        | true => rfl
        | false => rw [hc] at h2; exact absurd h2 (by decide)
      · exact h1 v (by omega) hb
    · intro h
      refine ⟨fun v hv hb => h v (by omega) hb, ?_⟩
      cases hb : y.testBit n with
      | false => rfl
      | true => rw [h n (by omega) hb]; rfl
theorem sorted_th {w : Nat} {g : Nat → Nat} (hw : 1 ≤ w) (h : isP w g) : (∀ i : Nat, i < w → g i = i) ↔ ∀ t : Nat, t < w → badB (thN g t w) (w - 1) = false := by
  constructor
  · intro hi t ht
    rw [bad_f]
    intro v hv hb
    rw [thN_bit, decide_eq_true (show v < w by omega), Bool.true_and] at hb
    have hb := of_decide_eq_true hb
    rw [hi v (by omega)] at hb
    rw [thN_bit, decide_eq_true (show v + 1 < w by omega), Bool.true_and]
    exact decide_eq_true (by rw [hi (v + 1) (by omega)]; omega)
  · intro ht
    have mono : ∀ v : Nat, v + 1 < w → g v < g (v + 1) := by
      intro v hv
      have := (bad_f (w - 1)).1 (ht (g v) (h.1 v (by omega))) v (by omega) (by
        rw [thN_bit, decide_eq_true (show v < w by omega), Bool.true_and]
        exact decide_eq_true (Nat.le_refl _))
      rw [thN_bit, decide_eq_true hv, Bool.true_and] at this
      have := of_decide_eq_true this
      have ne : g v ≠ g (v + 1) := fun e => by
        have := h.2.1 v (v + 1) (by omega) hv e
        omega
      omega
    have lo : ∀ i : Nat, i < w → i ≤ g i := by
      intro i
      induction i with
      | zero => intro _; omega
      | succ i ih => intro hi; have := ih (by omega); have := mono i hi; omega
    have hi : ∀ k i : Nat, i + k + 1 = w → g i ≤ i := by
      intro k
      induction k with
      | zero => intro i hi; have := h.1 i (by omega); omega
      | succ k ih => intro i hi; have := ih (i + 1) (by omega); have := mono i (by omega); omega
    intro i hiw
    have := lo i hiw
    have := hi (w - 1 - i) i (by omega)
    omega
def gdX (w : Nat) (cs : List (Nat × Nat)) (x : Nat) : Bool := !badB (cry cs x) (w - 1)
theorem srt_ch {w : Nat} {cs : List (Nat × Nat)} {f : Nat → Nat} (hw : 1 ≤ w) (hok : okL w cs) (h : isP w f) : (∀ i : Nat, i < w → rnF cs f i = i) ↔ ∀ t : Nat, t < w → gdX w cs (thN f t w) = true := by
  rw [sorted_th hw (rnF_P cs f hok h)]
  constructor
  · intro a t ht
    unfold gdX
    rw [cry_th cs f hok, a t ht]; rfl
  · intro a t ht
    have := a t ht
    unfold gdX at this
    rw [cry_th cs f hok] at this
    cases hb : badB (thN (rnF cs f) t w) (w - 1) with
    | false => rfl
    | true => rw [hb] at this; exact absurd this (by decide)
