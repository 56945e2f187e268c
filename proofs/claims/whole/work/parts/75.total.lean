/-! totalExchanges -/
def sb (w x y : Nat) : Bool := decide (∀ v : Nat, v < w → x.testBit v = true → y.testBit v = true)
def wE (w y n x i : Nat) : Nat := if (x.testBit i = false ∧ y.testBit i = true) ∧ sb w x y = true then fac (pop x w) * fac (n - 1 - pop x w) else 0
theorem sm_mul {f : Nat → Nat} {K : Nat} : ∀ n : Nat, sm (fun j => f j * K) n = sm f n * K
  | 0 => by show 0 = 0 * K; omega
  | n + 1 => by
    show sm (fun j => f j * K) n + f n * K = (sm f n + f n) * K
    rw [sm_mul n, Nat.add_mul]
theorem cntJ {w x y i : Nat} (hi : i < w) (hxi : x.testBit i = false) (hyi : y.testBit i = true) (hs : ∀ v : Nat, v < w → x.testBit v = true → y.testBit v = true) : pop x w + 1 + sm (fun j => if y.testBit j = true ∧ ¬ (x.testBit j = true ∨ j = i) then 1 else 0) w = pop y w := by
  rw [pop_sm, pop_sm]
  have e1 : sm (fun t => if t = i then 1 else 0) w = 1 := by rw [sm_pt, if_pos hi]
  have e2 : sm (fun p => if x.testBit p then 1 else 0) w + 1 + sm (fun j => if y.testBit j = true ∧ ¬ (x.testBit j = true ∨ j = i) then 1 else 0) w = sm (fun p => if x.testBit p then 1 else 0) w + sm (fun t => if t = i then 1 else 0) w + sm (fun j => if y.testBit j = true ∧ ¬ (x.testBit j = true ∨ j = i) then 1 else 0) w := by rw [e1]
  rw [e2, ← sm_add, ← sm_add]
  refine sm_c w (fun j hj => ?_)
  by_cases q : j = i
  · subst q
    rw [hxi, hyi, if_neg (by decide), if_pos rfl, if_neg (fun c => c.2 (Or.inr rfl)), if_pos rfl]
  · rw [if_neg q]
    by_cases b : x.testBit j = true
    · rw [if_pos b, if_neg (fun c => c.2 (Or.inl b)), if_pos (hs j hj b)]
    · rw [if_neg b]
      by_cases c : y.testBit j = true
      · rw [if_pos ⟨c, fun d => d.elim b q⟩, if_pos c]
      · rw [if_neg (fun d => c d.1), if_neg c]
theorem fac_s {n : Nat} (h : 0 < n) : n * fac (n - 1) = fac n := by
  obtain ⟨m, rfl⟩ : ∃ m : Nat, n = m + 1 := ⟨n - 1, by omega⟩
  rfl
theorem stepW {w n x y i : Nat} (hx : x < 2 ^ w) (hy : y < 2 ^ w) (hp : pop y w = n + 1) (hi : i < w) : sm (fun j => if y.testBit j = true then wE w (y ^^^ 2 ^ j) n x i else 0) w + (if y.testBit i = true ∧ x = y ^^^ 2 ^ i then fac n else 0) = wE w y (n + 1) x i := by
  by_cases V : (x.testBit i = false ∧ y.testBit i = true) ∧ sb w x y = true
  · have hs : ∀ v : Nat, v < w → x.testBit v = true → y.testBit v = true := of_decide_eq_true V.2
    have cj := cntJ hi V.1.1 V.1.2 hs
    have e : sm (fun j => if y.testBit j = true then wE w (y ^^^ 2 ^ j) n x i else 0) w = sm (fun j => if y.testBit j = true ∧ ¬ (x.testBit j = true ∨ j = i) then 1 else 0) w * (fac (pop x w) * fac (n - 1 - pop x w)) := by
      rw [← sm_mul]
      refine sm_c w (fun j hj => ?_)
      by_cases c : y.testBit j = true
      · rw [if_pos c]
        unfold wE
        by_cases d : x.testBit j = true ∨ j = i
        · have r0 : (if y.testBit j = true ∧ ¬ (x.testBit j = true ∨ j = i) then 1 else 0) = 0 := if_neg (fun z => z.2 d)
          rw [r0, Nat.zero_mul, if_neg]
          rintro ⟨⟨_, z2⟩, z3⟩
          rcases d with d | d
          · have := (of_decide_eq_true z3) j hj d
            rw [xor_bit, c, decide_eq_true rfl] at this
            exact absurd this (by decide)
          · subst d
            rw [xor_bit, c, decide_eq_true rfl] at z2
            exact absurd z2 (by decide)
        · have r0 : (if y.testBit j = true ∧ ¬ (x.testBit j = true ∨ j = i) then 1 else 0) = 1 := if_pos ⟨c, d⟩
          rw [r0, Nat.one_mul, if_pos]
          refine ⟨⟨V.1.1, ?_⟩, decide_eq_true (fun v hv hb => ?_)⟩
          · rw [xor_bit, decide_eq_false (fun z => d (Or.inr z)), Bool.xor_false]; exact V.1.2
          · rw [xor_bit]
            by_cases q : j = v
            · subst q; exact absurd (Or.inl hb) d
            · rw [decide_eq_false q, Bool.xor_false]; exact hs v hv hb
      · rw [if_neg c, if_neg (fun z => c z.1), Nat.zero_mul]
    rw [e]
    have eW : wE w y (n + 1) x i = fac (pop x w) * fac (n + 1 - 1 - pop x w) := by unfold wE; rw [if_pos V]
    rw [eW]
    generalize hA : sm (fun j => if y.testBit j = true ∧ ¬ (x.testBit j = true ∨ j = i) then 1 else 0) w = A at cj
    by_cases q : pop x w < n
    · have ni : ¬ (y.testBit i = true ∧ x = y ^^^ 2 ^ i) := fun c => by
        have px := pop_xor c.1 w
        rw [if_pos hi, ← c.2] at px
        omega
      rw [if_neg ni, Nat.add_zero, show A = n - pop x w by omega]
      have fs := fac_s (n := n - pop x w) (by omega)
      rw [show n + 1 - 1 - pop x w = n - pop x w by omega, ← fs, show n - pop x w - 1 = n - 1 - pop x w by omega]
      rw [← Nat.mul_assoc, ← Nat.mul_assoc, Nat.mul_comm (n - pop x w) (fac (pop x w))]
    · have e0 : A = 0 := by omega
      have pe : pop x w = n := by omega
      have zero : ∀ m : Nat, m ≤ w → sm (fun j => if y.testBit j = true ∧ ¬ (x.testBit j = true ∨ j = i) then 1 else 0) m = 0 → ∀ j : Nat, j < m → ¬ (y.testBit j = true ∧ ¬ (x.testBit j = true ∨ j = i)) := by
        intro m
        induction m with
        | zero => intro _ _ j hj; exact absurd hj (by omega)
        | succ m ih =>
          intro hm hz j hj
          have hz : sm (fun j => if y.testBit j = true ∧ ¬ (x.testBit j = true ∨ j = i) then 1 else 0) m + (if y.testBit m = true ∧ ¬ (x.testBit m = true ∨ m = i) then 1 else 0) = 0 := hz
          by_cases q : j = m
          · subst q
            intro c
            rw [if_pos c] at hz
            omega
          · exact ih (by omega) (by omega) j (by omega)
      have zz := zero w (Nat.le_refl _) (by rw [hA]; exact e0)
      have ex : x = y ^^^ 2 ^ i := by
        refine bit_ext hx (xor_lt hy hi) (fun j hj => ?_)
        rw [xor_bit]
        by_cases q2 : i = j
        · subst q2; rw [V.1.1, V.1.2, decide_eq_true rfl]; rfl
        · rw [decide_eq_false q2, Bool.xor_false]
          cases hb : x.testBit j with
          | true => exact (hs j hj hb).symm
          | false =>
            cases hc : y.testBit j with
            | false => rfl
            | true => exact absurd ⟨hc, fun d => d.elim (fun d => by rw [hb] at d; exact absurd d (by decide)) (fun d => q2 d.symm)⟩ (zz j hj)
      rw [if_pos ⟨V.1.2, ex⟩, e0, Nat.zero_mul, Nat.zero_add, pe, show n + 1 - 1 - n = 0 by omega]
      show fac n = fac n * 1
      omega
  · have eW : wE w y (n + 1) x i = 0 := by unfold wE; rw [if_neg V]
    have ni : ¬ (y.testBit i = true ∧ x = y ^^^ 2 ^ i) := fun c => by
      refine V ⟨⟨?_, c.1⟩, decide_eq_true (fun v hv hb => ?_)⟩
      · rw [c.2, xor_bit, c.1, decide_eq_true rfl]; rfl
      · rw [c.2, xor_bit] at hb
        by_cases q : i = v
        · subst q; exact c.1
        · rw [decide_eq_false q, Bool.xor_false] at hb; exact hb
    rw [eW, if_neg ni, Nat.add_zero]
    refine Eq.trans (sm_c (g := fun _ => 0) w (fun j hj => ?_)) (sm_0 w)
    by_cases c : y.testBit j = true
    · rw [if_pos c]
      unfold wE
      rw [if_neg]
      rintro ⟨⟨z1, z2⟩, z3⟩
      have z3 := of_decide_eq_true z3
      have ne : ¬ j = i := fun q => by
        subst q
        rw [xor_bit, c, decide_eq_true rfl] at z2
        exact absurd z2 (by decide)
      refine V ⟨⟨z1, ?_⟩, decide_eq_true (fun v hv hb => ?_)⟩
      · rw [xor_bit, decide_eq_false ne, Bool.xor_false] at z2; exact z2
      · have := z3 v hv hb
        rw [xor_bit] at this
        by_cases q : j = v
        · subst q; exact c
        · rw [decide_eq_false q, Bool.xor_false] at this; exact this
    · rw [if_neg c]
def bE (cs : List (Nat × Nat)) (x i : Nat) : Nat := bg cs x (x ||| 2 ^ i)
theorem or_back {y i : Nat} (h : y.testBit i = true) : (y ^^^ 2 ^ i) ||| 2 ^ i = y := by
  apply Nat.eq_of_testBit_eq
  intro j
  rw [Nat.testBit_or, xor_bit, Nat.testBit_two_pow]
  by_cases q : i = j
  · subst q; rw [h, decide_eq_true rfl]; rfl
  · rw [decide_eq_false q, Bool.xor_false, Bool.or_false]
theorem tN_eq {w : Nat} {cs : List (Nat × Nat)} : ∀ (n y : Nat), y < 2 ^ w → pop y w = n → n ≤ w → tN w cs n y = sm (fun x => sm (fun i => wE w y n x i * bE cs x i) w) (2 ^ w)
  | 0, y, hy, hp, _ => by
    show 0 + 0 = _
    refine Eq.symm (Eq.trans (sm_c (g := fun _ => 0) _ (fun x hx => ?_)) (sm_0 _))
    refine Eq.trans (sm_c (g := fun _ => 0) _ (fun i hi => ?_)) (sm_0 _)
    have z := pop_0 w hp i hi
    unfold wE
    rw [if_neg (fun c => by rw [z] at c; exact absurd c.1.2 (by decide)), Nat.zero_mul]
  | n + 1, y, hy, hp, hn => by
    rw [tN_s hy hp hn]
    have e1 : ∀ j : Nat, j < w → (if y.testBit j = true then tN w cs n (y ^^^ 2 ^ j) + bg cs (y ^^^ 2 ^ j) y * fac n else 0) = sm (fun x => sm (fun i => (if y.testBit j = true then wE w (y ^^^ 2 ^ j) n x i else 0) * bE cs x i) w) (2 ^ w) + (if y.testBit j = true then fac n * bE cs (y ^^^ 2 ^ j) j else 0) := fun j hj => by
      by_cases c : y.testBit j = true
      · have px := pop_xor c w
        rw [if_pos hj] at px
        rw [if_pos c, if_pos c, tN_eq n (y ^^^ 2 ^ j) (xor_lt hy hj) (by omega) (by omega)]
        unfold bE
        rw [or_back c, Nat.mul_comm (bg cs (y ^^^ 2 ^ j) y)]
        congr 1
        refine sm_c _ (fun x hx => sm_c _ (fun i hi => ?_))
        rw [if_pos c]
      · rw [if_neg c, if_neg c]
        refine Eq.symm (Eq.trans (Nat.add_zero _) (Eq.trans (sm_c (g := fun _ => 0) _ (fun x hx => Eq.trans (sm_c (g := fun _ => 0) _ (fun i hi => ?_)) (sm_0 _))) (sm_0 _)))
        rw [if_neg c, Nat.zero_mul]
    rw [sm_c w e1, sm_add]
    have e2 : sm (fun j => sm (fun x => sm (fun i => (if y.testBit j = true then wE w (y ^^^ 2 ^ j) n x i else 0) * bE cs x i) w) (2 ^ w)) w = sm (fun x => sm (fun i => sm (fun j => if y.testBit j = true then wE w (y ^^^ 2 ^ j) n x i else 0) w * bE cs x i) w) (2 ^ w) := by
      rw [sm_swap (f := fun j x => sm (fun i => (if y.testBit j = true then wE w (y ^^^ 2 ^ j) n x i else 0) * bE cs x i) w)]
      refine sm_c _ (fun x hx => ?_)
      rw [sm_swap (f := fun j i => (if y.testBit j = true then wE w (y ^^^ 2 ^ j) n x i else 0) * bE cs x i)]
      refine sm_c _ (fun i hi => ?_)
      rw [sm_mul]
    have e3 : sm (fun j => if y.testBit j = true then fac n * bE cs (y ^^^ 2 ^ j) j else 0) w = sm (fun x => sm (fun i => (if y.testBit i = true ∧ x = y ^^^ 2 ^ i then fac n else 0) * bE cs x i) w) (2 ^ w) := by
      rw [sm_swap (f := fun x i => (if y.testBit i = true ∧ x = y ^^^ 2 ^ i then fac n else 0) * bE cs x i)]
      refine sm_c _ (fun i hi => ?_)
      by_cases c : y.testBit i = true
      · rw [if_pos c]
        refine Eq.symm (Eq.trans (sm_c (g := fun x => if x = y ^^^ 2 ^ i then fac n * bE cs (y ^^^ 2 ^ i) i else 0) _ (fun x hx => ?_)) ?_)
        · by_cases q : x = y ^^^ 2 ^ i
          · rw [if_pos ⟨c, q⟩, if_pos q, q]
          · rw [if_neg (fun z => q z.2), if_neg q, Nat.zero_mul]
        · rw [sm_pt, if_pos (xor_lt hy hi)]
      · rw [if_neg c]
        refine Eq.symm (Eq.trans (sm_c (g := fun _ => 0) _ (fun x hx => ?_)) (sm_0 _))
        rw [if_neg (fun z => c z.1), Nat.zero_mul]
    rw [e2, e3, ← sm_add]
    refine sm_c _ (fun x hx => ?_)
    rw [← sm_add]
    refine sm_c _ (fun i hi => ?_)
    rw [← Nat.add_mul, stepW hx hy hp hi]
/-- the class's sum -/
def xT2 (w : Nat) (cs : List (Nat × Nat)) (x : Nat) : Nat → Nat := sm (fun i => if x.testBit i = false then fac (pop x w) * fac (w - 1 - pop x w) * bE cs x i else 0)
theorem tot_c {w : Nat} {cs : List (Nat × Nat)} : tN w cs w (2 ^ w - 1) = sm (fun x => xT2 w cs x w) (2 ^ w - 1) := by
  have hp := Nat.two_pow_pos w
  rw [tN_eq w (2 ^ w - 1) (by omega) (pop_full w (Nat.le_refl _)) (Nat.le_refl _)]
  obtain ⟨P, hP⟩ : ∃ P : Nat, 2 ^ w = P + 1 := ⟨2 ^ w - 1, by omega⟩
  have term : ∀ x : Nat, sm (fun i => wE w (2 ^ w - 1) w x i * bE cs x i) w = xT2 w cs x w := fun x => by
    unfold xT2
    refine sm_c _ (fun i hi => ?_)
    unfold wE
    have fb : (2 ^ w - 1).testBit i = true := by rw [full_bit]; exact decide_eq_true hi
    have fs : sb w x (2 ^ w - 1) = true := decide_eq_true (fun v hv _ => by rw [full_bit]; exact decide_eq_true hv)
    by_cases c : x.testBit i = false
    · rw [if_pos ⟨⟨c, fb⟩, fs⟩, if_pos c]
    · rw [if_neg (fun z => c z.1.1), if_neg c, Nat.zero_mul]
  have last : sm (fun i => wE w (2 ^ w - 1) w (2 ^ w - 1) i * bE cs (2 ^ w - 1) i) w = 0 := by
    rw [term]
    unfold xT2
    refine Eq.trans (sm_c (g := fun _ => 0) _ (fun i hi => ?_)) (sm_0 _)
    rw [if_neg]
    rw [full_bit, decide_eq_true hi]
    decide
  have split : ∀ F : Nat → Nat, sm F (2 ^ w) = sm F (2 ^ w - 1) + F (2 ^ w - 1) := fun F => by
    rw [hP, show P + 1 - 1 = P by omega]
    rfl
  rw [split, last, Nat.add_zero]
  exact sm_c _ (fun x _ => term x)
theorem favN : ∀ n : Nat, n < 9 → fav n = ((fac n : Nat) : Int) := by decide
theorem fac_ab : ∀ a : Nat, a < 8 → ∀ b : Nat, b < 8 - a → fac a * fac b ≤ 5040 := by decide
theorem c_ax58 {a : Int} {x : Nat} {zf : Int} {N : NetT} {Q : Int → Hp → Prop} {h : Hp} (ha : nA a) (hok : okN N) (e1 : h a 0 = N.1) (E9 : NE h N.1 N.2) (hx : x < 2 ^ N.1) (hpx : pop x N.1 + 1 ≤ N.1) : ∀ (m i A : Nat), i + m = N.1 → A + 201600 * m < 4611686018427387904 → E 3 mX0_allExchanges 19 [(0, vr 97), (1, vr a), (2, vi zf), (3, vl ((A + (xT2 N.1 N.2 x N.1 - xT2 N.1 N.2 x i) : Nat) : Int)), (5, vi ((x : Int) + 1))] [] h (ql Q) → E 3 mX0_allExchanges 58 [(0, vr 97), (1, vr a), (2, vi zf), (3, vl A), (5, vi x), (7, vl ((fac (pop x N.1) * fac (N.1 - 1 - pop x N.1) : Nat) : Int)), (9, vi i)] [] h (ql Q)
  | 0, i, A, hm, hA, hq => by
    have w8 := hok.2.1
    have h256 := p256 w8
    have ei : i = N.1 := by omega
    rw [ei, Nat.sub_self, Nat.add_zero] at hq
    exact sX0_allExchanges_58 ⟨ha, fun _ => ⟨by omega, hq⟩, fun c => absurd c (by omega)⟩
  | m + 1, i, A, hm, hA, hq => by
    have w8 := hok.2.1
    have h256 := p256 w8
    have bt : j_iand (j_ishr x i) 1 = if x.testBit i then 1 else 0 := jbit (by omega) (by omega)
    have fab := fac_ab (pop x N.1) (by omega) (N.1 - 1 - pop x N.1) (by omega)
    have bl := bg_le (cs := N.2) (x := x) (x' := x ||| 2 ^ i)
    have mono : ∀ d i : Nat, xT2 N.1 N.2 x i ≤ xT2 N.1 N.2 x (i + d) := by
      intro d
      induction d with
      | zero => intro i; exact Nat.le_refl _
      | succ d ih =>
        intro i
        have := ih i
        show _ ≤ xT2 N.1 N.2 x (i + d) + _
        omega
    have mm : xT2 N.1 N.2 x (i + 1) ≤ xT2 N.1 N.2 x N.1 := by
      have := mono m (i + 1)
      rw [show i + 1 + m = N.1 by omega] at this
      exact this
    have es : xT2 N.1 N.2 x (i + 1) = xT2 N.1 N.2 x i + (if x.testBit i = false then fac (pop x N.1) * fac (N.1 - 1 - pop x N.1) * bE N.2 x i else 0) := rfl
    refine sX0_allExchanges_58 ⟨ha, fun c => absurd c (by omega), fun _ => ⟨fun c => ⟨by omega, ?_⟩, fun c => ?_⟩⟩
    · have b : ¬ x.testBit i = false := fun b => by
        rw [bt, b] at c
        exact absurd rfl c
      rw [if_neg b, Nat.add_zero] at es
      have l0 : j_ladd (A : Int) 0 = ((A + 0 : Nat) : Int) := laddN (b := 0) (by omega)
      rw [l0, Nat.add_zero, show (i : Int) + 1 = ((i + 1 : Nat) : Int) by omega]
      exact c_ax58 ha hok e1 E9 hx hpx m (i + 1) A (by omega) (by omega) (by rw [es]; exact hq)
    · have b : x.testBit i = false := by
        rw [bt] at c
        cases hb : x.testBit i with
        | false => rfl
        | true => rw [hb] at c; exact absurd c (by decide)
      rw [if_pos b] at es
      have h1 : 2 ^ i < 2 ^ N.1 := p_lt (by omega)
      have eo : j_ior x (j_ishl 1 i) = ((x ||| 2 ^ i : Nat) : Int) := by
        rw [jshl1 (by omega), jor (by omega) (by omega)]
      refine c_begun rfl eo w8 hok.2.2.1 E9 hx (Nat.or_lt_two_pow hx h1) ⟨by omega, ?_⟩
      have eb : bE N.2 x i = bg N.2 x (x ||| 2 ^ i) := rfl
      rw [eb] at es
      generalize bg N.2 x (x ||| 2 ^ i) = B at bl es
      generalize hF : fac (pop x N.1) * fac (N.1 - 1 - pop x N.1) = Fp at fab es
      have fb : Fp * B ≤ 5040 * 40 := Nat.mul_le_mul fab bl
      rw [lmulN (by omega) (by omega) (by omega), laddN (by omega), show (i : Int) + 1 = ((i + 1 : Nat) : Int) by omega]
      have := c_ax58 (zf := zf) (Q := Q) ha hok e1 E9 hx hpx m (i + 1) (A + Fp * B) (by omega) (by omega) (by
        rw [show A + Fp * B + (xT2 N.1 N.2 x N.1 - xT2 N.1 N.2 x (i + 1)) = A + (xT2 N.1 N.2 x N.1 - xT2 N.1 N.2 x i) by omega]
        exact hq)
      rw [hF] at this
      exact this
theorem xT2_le {w x : Nat} {cs : List (Nat × Nat)} (hp : pop x w + 1 ≤ w) (hw : w ≤ 8) : xT2 w cs x w ≤ w * 201600 := by
  unfold xT2
  refine sm_le w (fun i hi => ?_)
  have fab := fac_ab (pop x w) (by omega) (w - 1 - pop x w) (by omega)
  have bl := bg_le (cs := cs) (x := x) (x' := x ||| 2 ^ i)
  by_cases c : x.testBit i = false
  · rw [if_pos c]
    exact Nat.mul_le_mul fab bl
  · rw [if_neg c]; omega
theorem pop_nf {w x : Nat} (hx : x + 1 < 2 ^ w) : pop x w + 1 ≤ w := by
  apply Classical.byContradiction
  intro hn
  have pl := pop_le (x := x) w
  have al : ∀ i : Nat, i < w → x.testBit i = true := fun i hi => by
    cases hb : x.testBit i with
    | true => rfl
    | false =>
      have := pop_lt hb w hi
      omega
  have : x = 2 ^ w - 1 := bit_ext (w := w) (by omega) (by omega) (fun i hi => by rw [al i hi, full_bit, decide_eq_true hi])
  omega
theorem c_ax19 {a : Int} {N : NetT} {Q : Int → Hp → Prop} {h : Hp} (ha : nA a) (hok : okN N) (e1 : h a 0 = N.1) (E9 : NE h N.1 N.2) (hq : Q ((sm (fun x => xT2 N.1 N.2 x N.1) (2 ^ N.1 - 1) : Nat) : Int) h) : ∀ (m x : Nat) (z z3 : Int), z = x → z3 = ((sm (fun x => xT2 N.1 N.2 x N.1) x : Nat) : Int) → x + m = 2 ^ N.1 - 1 → E 3 mX0_allExchanges 19 [(0, vr 97), (1, vr a), (2, vi ((2 ^ N.1 - 1 : Nat) : Int)), (3, vl z3), (5, vi z)] [] h (ql Q)
  | 0, x, z, z3, ez, e3, hm => by
    have ex : x = 2 ^ N.1 - 1 := by omega
    rw [e3, ex]
    exact sX0_allExchanges_19 ⟨fun _ => hq, fun c => absurd c (by omega)⟩
  | m + 1, x, z, z3, ez, e3, hm => by
    have w8 := hok.2.1
    have w2 := hok.1
    have h256 := p256 w8
    subst ez
    subst e3
    have hx : x < 2 ^ N.1 := by omega
    have pn := pop_nf (w := N.1) (x := x) (by omega)
    have p8 : pop x 8 = pop x N.1 := by
      have := pop_hi hx (8 - N.1)
      rw [show N.1 + (8 - N.1) = 8 by omega] at this
      exact this
    have f1 : fav (((pop x 8 : Nat) : Int)).toNat = ((fac (pop x N.1) : Nat) : Int) := by
      rw [p8, Int.toNat_natCast]; exact favN _ (by omega)
    have f2 : fav ((h a 0 - 1 - ((pop x 8 : Nat) : Int))).toNat = ((fac (N.1 - 1 - pop x N.1) : Nat) : Int) := by
      rw [p8, e1, show ((N.1 : Int) - 1 - ((pop x N.1 : Nat) : Int)) = ((N.1 - 1 - pop x N.1 : Nat) : Int) by omega, Int.toNat_natCast]
      exact favN _ (by omega)
    have fab := fac_ab (pop x N.1) (by omega) (N.1 - 1 - pop x N.1) (by omega)
    have em : ((fac (pop x N.1) : Nat) : Int) * ((fac (N.1 - 1 - pop x N.1) : Nat) : Int) = ((fac (pop x N.1) * fac (N.1 - 1 - pop x N.1) : Nat) : Int) := (Int.natCast_mul _ _).symm
    refine sX0_allExchanges_19 ⟨fun c => absurd c (by omega), fun _ => c_bc32 (by omega) ?_⟩
    rw [f1, f2, em]
    have sb1 : sm (fun x => xT2 N.1 N.2 x N.1) x ≤ x * 1612800 := sm_le x (fun x' hx' => by
      have := xT2_le (cs := N.2) (pop_nf (w := N.1) (x := x') (by omega)) w8
      have : N.1 * 201600 ≤ 8 * 201600 := Nat.mul_le_mul_right _ w8
      omega)
    refine ⟨⟨by omega, ha, by omega, by omega, by omega, by omega⟩, ?_⟩
    refine c_ax58 ha hok e1 E9 hx pn N.1 0 _ (by omega) (by omega) ?_
    refine c_ax19 ha hok e1 E9 hq m (x + 1) _ _ (by omega) ?_ (by omega)
    show _ = ((sm (fun x => xT2 N.1 N.2 x N.1) x + xT2 N.1 N.2 x N.1 : Nat) : Int)
    have z0 : xT2 N.1 N.2 x 0 = 0 := rfl
    rw [z0, Nat.sub_zero]
theorem c_total {h : Hp} {a : Int} {N : NetT} {Q : Int → Hp → Prop} (ha : nA a) (ha2 : a ≤ 12) (hok : okN N) (C : CNt h a N) (hq : ∀ g : Hp, (∀ a b : Int, ¬ (a = 98 ∨ a = 99) → g a b = h a b) → Q ((tN N.1 N.2 N.1 (2 ^ N.1 - 1) : Nat) : Int) g) : CL 3 mX0_allExchanges [vr 97, vr a] h Q := by
  have w8 := hok.2.1
  have h256 := p256 w8
  have hp := Nat.two_pow_pos N.1
  refine sX0_allExchanges (c_note ha hok C (fun g E9 fr => ?_))
  have e1 : g a 0 = N.1 := by rw [fr _ _ (by omega)]; exact C.1
  have e2 : j_ishl 1 (g a 0) = ((2 ^ N.1 : Nat) : Int) := by rw [e1]; exact jshl1 (by omega)
  refine ⟨⟨ha, by omega⟩, fun x4 hx4 => ?_⟩
  rw [show x4 = ((2 ^ N.1 - 1 : Nat) : Int) by omega]
  refine c_ax19 ha hok e1 E9 ?_ (2 ^ N.1 - 1) 0 0 0 (by omega) rfl (by omega)
  rw [← tot_c]
  exact hq g (fun a b ha => fr a b (by omega))
theorem op_totalExchanges {h : Hp} {k : Int} (hR : Rl h) : OpL 4 mX10_totalExchanges 3 mX11_totalExchanges [vi k] h := by
  obtain ⟨nets, hist, H⟩ := Rl_RlN hR
  by_cases hk : 0 ≤ k ∧ k < 4
  · obtain ⟨j, hj, rfl⟩ := toN hk.1 hk.2
    obtain ⟨n1, n2, n3⟩ := H.1 j hj
    have okl : okL (nets j).1 (nets j).2 := n1.2.2.2
    refine sX10_totalExchanges ⟨fun c => absurd c (by omega), fun _ => ⟨by omega, c_total (N := nets j) (by omega) (by omega) n1 n2 (fun g fr => ?_)⟩⟩
    have ms := MS_of H (h1 := g) (fun x y hx => fr x y (by omega))
    obtain ⟨m1, m2, m3, m4, e⟩ := ms
    refine sX11_totalExchanges ⟨fun _ => m_looks (N := nets j) hj n1 (m1 j hj).2 (fun g2 S f2 => ⟨?_, RlN_Rl (keep_RlN H (fun x y a b => ?_))⟩), fun c => absurd c (by omega)⟩
    · rw [S.2.2.2, sm_all (g := xcN (nets j).2), tot_all okl n1.2.2.1]
    · rw [frL_k f2 x y b, fr x y (by unfold kC0 at a; omega)]
  · exact sX10_totalExchanges ⟨fun _ => sX11_totalExchanges ⟨fun c => absurd c (by omega), fun _ => ⟨rfl, hR⟩⟩, fun c => absurd c (by omega)⟩
