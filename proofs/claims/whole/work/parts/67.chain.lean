/-! the permutations by chains of sets -/
theorem pop_xor {x i : Nat} (hi : x.testBit i = true) : ∀ w : Nat, pop (x ^^^ 2 ^ i) w + (if i < w then 1 else 0) = pop x w
  | 0 => by show 0 + (if i < 0 then 1 else 0) = 0; rw [if_neg (by omega)]
  | w + 1 => by
    have ih := pop_xor hi w
    show pop (x ^^^ 2 ^ i) w + (if (x ^^^ 2 ^ i).testBit w then 1 else 0) + (if i < w + 1 then 1 else 0) = pop x w + (if x.testBit w then 1 else 0)
    rw [xor_bit]
    by_cases e : i = w
    · subst e
      rw [if_neg (by omega)] at ih
      rw [hi, decide_eq_true rfl, if_pos (show i < i + 1 by omega)]
      show pop (x ^^^ 2 ^ i) i + 0 + 1 = pop x i + 1
      omega
    · rw [decide_eq_false e, Bool.xor_false]
      by_cases q : i < w
      · rw [if_pos q] at ih
        rw [if_pos (show i < w + 1 by omega)]
        omega
      · rw [if_neg q] at ih
        rw [if_neg (show ¬ i < w + 1 by omega)]
        omega
theorem pop_0 {x : Nat} : ∀ w : Nat, pop x w = 0 → ∀ i : Nat, i < w → x.testBit i = false
  | 0, _, i, hi => absurd hi (by omega)
  | w + 1, h, i, hi => by
    have h : pop x w + (if x.testBit w then 1 else 0) = 0 := h
    by_cases e : i = w
    · rw [e]
      cases hb : x.testBit w with
      | false => rfl
      | true => rw [hb] at h; exact absurd h (by rw [if_pos rfl]; omega)
    · exact pop_0 w (by omega) i (by omega)
theorem xor_lt {w x i : Nat} (hx : x < 2 ^ w) (hi : i < w) : x ^^^ 2 ^ i < 2 ^ w := Nat.xor_lt_two_pow hx (p_lt hi)
theorem hi_bit {w x i : Nat} (hx : x < 2 ^ w) (hi : w ≤ i) : x.testBit i = false := by
  have hp : 2 ^ w ≤ 2 ^ i := Nat.pow_le_pow_right (by decide) hi
  exact Nat.testBit_lt_two_pow (by omega)
def chW (t x : Nat) (g : Nat → List (Nat → Nat)) : Nat → List (Nat → Nat)
  | 0 => []
  | j + 1 => chW t x g j ++ (if x.testBit j = true then (g (x ^^^ 2 ^ j)).map (fun v => upF v j t) else [])
def chV (w : Nat) : Nat → Nat → List (Nat → Nat)
  | 0, _ => [fun _ => 0]
  | n + 1, x => chW (w - 1 - n) x (chV w n) w
theorem chW_mem {t x : Nat} {g : Nat → List (Nat → Nat)} {v : Nat → Nat} : ∀ j : Nat, v ∈ chW t x g j ↔ ∃ i : Nat, i < j ∧ x.testBit i = true ∧ ∃ v' ∈ g (x ^^^ 2 ^ i), v = upF v' i t
  | 0 => ⟨fun h => absurd h List.not_mem_nil, fun ⟨i, h, _⟩ => absurd h (by omega)⟩
  | j + 1 => by
    have ih := chW_mem (t := t) (x := x) (g := g) (v := v) j
    show v ∈ chW t x g j ++ (if x.testBit j = true then (g (x ^^^ 2 ^ j)).map (fun v => upF v j t) else []) ↔ _
    rw [List.mem_append, ih]
    constructor
    · rintro (⟨i, h1, h2, h3⟩ | h)
      · exact ⟨i, by omega, h2, h3⟩
      · by_cases q : x.testBit j = true
        · rw [if_pos q] at h
          obtain ⟨v', h1, h2⟩ := List.mem_map.1 h
          exact ⟨j, by omega, q, v', h1, h2.symm⟩
        · rw [if_neg q] at h
          exact absurd h List.not_mem_nil
    · rintro ⟨i, h1, h2, v', h3, h4⟩
      by_cases e : i = j
      · right
        subst e
        rw [if_pos h2]
        exact List.mem_map.2 ⟨v', h3, h4.symm⟩
      · left
        exact ⟨i, by omega, h2, v', h3, h4⟩
def PV (w n x : Nat) (v : Nat → Nat) : Prop := (∀ i : Nat, x.testBit i = true → w - n ≤ v i ∧ v i < w) ∧ (∀ i : Nat, x.testBit i = false → v i = 0) ∧ ∀ i j : Nat, x.testBit i = true → x.testBit j = true → v i = v j → i = j
theorem PV_up {w n x i : Nat} {v : Nat → Nat} (hn : n + 1 ≤ w) (hi : x.testBit i = true) (H : PV w n (x ^^^ 2 ^ i) v) : PV w (n + 1) x (upF v i (w - 1 - n)) := by
  obtain ⟨h1, h2, h3⟩ := H
  have ot : ∀ j : Nat, j ≠ i → (x ^^^ 2 ^ i).testBit j = x.testBit j := fun j hj => by
    rw [xor_bit, decide_eq_false (fun e => hj e.symm), Bool.xor_false]
  refine ⟨fun j hj => ?_, fun j hj => ?_, fun a b ha hb e => ?_⟩
  · unfold upF
    by_cases q : j = i
    · rw [if_pos q]; omega
    · rw [if_neg q]
      have := h1 j (by rw [ot j q]; exact hj)
      omega
  · unfold upF
    by_cases q : j = i
    · rw [q, hi] at hj; exact absurd hj (by decide)
    · rw [if_neg q]
      exact h2 j (by rw [ot j q]; exact hj)
  · unfold upF at e
    by_cases qa : a = i
    · by_cases qb : b = i
      · rw [qa, qb]
      · rw [if_pos qa, if_neg qb] at e
        have := h1 b (by rw [ot b qb]; exact hb)
        omega
    · by_cases qb : b = i
      · rw [if_neg qa, if_pos qb] at e
        have := h1 a (by rw [ot a qa]; exact ha)
        omega
      · rw [if_neg qa, if_neg qb] at e
        exact h3 a b (by rw [ot a qa]; exact ha) (by rw [ot b qb]; exact hb) e
theorem chV_ok {w : Nat} : ∀ (n x : Nat), x < 2 ^ w → pop x w = n → n ≤ w → ∀ v ∈ chV w n x, PV w n x v
  | 0, x, hx, hp, _, v, hv => by
    have e : v = fun _ => 0 := List.mem_singleton.1 hv
    have zz : ∀ i : Nat, x.testBit i = false := fun i => by
      by_cases q : i < w
      · exact pop_0 w hp i q
      · exact hi_bit hx (by omega)
    refine ⟨fun i hi => ?_, fun i _ => by rw [e], fun i j hi => ?_⟩
    · rw [zz i] at hi; exact absurd hi (by decide)
    · rw [zz i] at hi; exact absurd hi (by decide)
  | n + 1, x, hx, hp, hn, v, hv => by
    obtain ⟨i, h1, h2, v', h3, h4⟩ := (chW_mem w).1 hv
    have px := pop_xor h2 w
    rw [if_pos h1] at px
    rw [h4]
    exact PV_up hn h2 (chV_ok n (x ^^^ 2 ^ i) (xor_lt hx h1) (by omega) (by omega) v' h3)
theorem chW_nd {w n x : Nat} (hx : x < 2 ^ w) (hp : pop x w = n + 1) (hn : n + 1 ≤ w) (ih : ∀ y : Nat, y < 2 ^ w → pop y w = n → (chV w n y).Nodup) : ∀ j : Nat, j ≤ w → (chW (w - 1 - n) x (chV w n) j).Nodup
  | 0, _ => List.nodup_nil
  | j + 1, hj => by
    have i1 := chW_nd hx hp hn ih j (by omega)
    show (chW (w - 1 - n) x (chV w n) j ++ (if x.testBit j = true then (chV w n (x ^^^ 2 ^ j)).map (fun v => upF v j (w - 1 - n)) else [])).Nodup
    by_cases q : x.testBit j = true
    · rw [if_pos q]
      have px := pop_xor q w
      rw [if_pos (show j < w by omega)] at px
      have xl := xor_lt hx (show j < w by omega)
      refine List.nodup_append.2 ⟨i1, ?_, fun a ha b hb => ?_⟩
      · show List.Pairwise (· ≠ ·) _
        rw [List.pairwise_map]
        refine List.Pairwise.imp_of_mem (fun {a b} ha hb hab e => hab ?_) (ih (x ^^^ 2 ^ j) xl (by omega))
        have zb : (x ^^^ 2 ^ j).testBit j = false := by rw [xor_bit, q, decide_eq_true rfl]; rfl
        have za := (chV_ok n _ xl (by omega) (by omega) a ha).2.1 j zb
        have zb' := (chV_ok n _ xl (by omega) (by omega) b hb).2.1 j zb
        funext i
        by_cases qi : i = j
        · rw [qi, za, zb']
        · have := congrFun e i
          unfold upF at this
          rw [if_neg qi, if_neg qi] at this
          exact this
      · obtain ⟨i, h1, h2, v', h3, h4⟩ := (chW_mem j).1 ha
        obtain ⟨v2, h5, h6⟩ := List.mem_map.1 hb
        intro e
        have pi := pop_xor h2 w
        rw [if_pos (show i < w by omega)] at pi
        have pv := PV_up hn h2 (chV_ok n (x ^^^ 2 ^ i) (xor_lt hx (by omega)) (by omega) (by omega) v' h3)
        rw [← h4] at pv
        have v1 : a i = w - 1 - n := by rw [h4]; unfold upF; rw [if_pos rfl]
        have v2' : a j = w - 1 - n := by rw [e, ← h6]; unfold upF; rw [if_pos rfl]
        have := pv.2.2 i j h2 q (by rw [v1, v2'])
        omega
    · rw [if_neg q, List.append_nil]
      exact i1
theorem chV_nd {w : Nat} : ∀ (n x : Nat), x < 2 ^ w → pop x w = n → n ≤ w → (chV w n x).Nodup
  | 0, _, _, _, _ => by
    show [fun _ => 0].Nodup
    simp
  | n + 1, x, hx, hp, hn => chW_nd hx hp hn (fun y hy hp2 => chV_nd n y hy hp2 (by omega)) w (Nat.le_refl _)
theorem isP_sur {w : Nat} {f : Nat → Nat} (h : isP w f) {t : Nat} (ht : t < w) : ∃ i : Nat, i < w ∧ f i = t := by
  apply Classical.byContradiction
  intro hn
  have h1 : ((List.range w).map f).Nodup := by
    show List.Pairwise (· ≠ ·) _
    rw [List.pairwise_map]
    refine List.Pairwise.imp_of_mem (fun {a b} ha hb hab e => hab (h.2.1 a b (List.mem_range.1 ha) (List.mem_range.1 hb) e)) List.nodup_range
  have h2 := nd_le _ ((List.range w).erase t) h1 (fun x hx => by
    obtain ⟨i, hi, e⟩ := List.mem_map.1 hx
    have hi' := List.mem_range.1 hi
    refine (List.mem_erase_of_ne (fun e2 => hn ⟨i, hi', e.trans e2⟩)).2 (List.mem_range.2 ?_)
    rw [← e]
    exact h.1 i hi')
  rw [List.length_map, List.length_range, List.length_erase_of_mem (List.mem_range.2 ht), List.length_range] at h2
  omega
def rsF (w : Nat) (f : Nat → Nat) (t : Nat) : Nat → Nat := fun i => if i < w ∧ t ≤ f i then f i else 0
theorem rs_mem {w : Nat} {f : Nat → Nat} (h : isP w f) : ∀ n : Nat, n ≤ w → rsF w f (w - n) ∈ chV w n (thN f (w - n) w)
  | 0, _ => by
    refine List.mem_singleton.2 ?_
    funext i
    unfold rsF
    rw [if_neg]
    intro q
    have := h.1 i q.1
    omega
  | n + 1, hn => by
    have ih := rs_mem h n (by omega)
    obtain ⟨i, h1, h2⟩ := isP_sur h (t := w - (n + 1)) (by omega)
    refine (chW_mem w).2 ⟨i, h1, ?_, rsF w f (w - n), ?_, ?_⟩
    · rw [thN_bit, decide_eq_true h1, decide_eq_true (show w - (n + 1) ≤ f i by omega)]; rfl
    · have e : thN f (w - (n + 1)) w ^^^ 2 ^ i = thN f (w - n) w := by
        refine bit_ext (xor_lt (thN_lt w) h1) (thN_lt w) (fun j hj => ?_)
        rw [xor_bit, thN_bit, thN_bit, decide_eq_true hj, Bool.true_and, Bool.true_and]
        by_cases q : i = j
        · subst q
          rw [decide_eq_true rfl, decide_eq_true (show w - (n + 1) ≤ f i by omega), decide_eq_false (show ¬ w - n ≤ f i by omega)]; rfl
        · rw [decide_eq_false q, Bool.xor_false]
          have hne : f j ≠ w - (n + 1) := fun e => q (h.2.1 i j h1 hj (h2.trans e.symm))
          by_cases q2 : w - (n + 1) ≤ f j
          · rw [decide_eq_true q2, decide_eq_true (show w - n ≤ f j by omega)]
          · rw [decide_eq_false q2, decide_eq_false (show ¬ w - n ≤ f j by omega)]
      rw [e]
      exact ih
    · funext j
      unfold rsF upF
      by_cases q : j = i
      · rw [if_pos q, q, if_pos ⟨h1, by omega⟩]; omega
      · rw [if_neg q]
        show (if j < w ∧ w - (n + 1) ≤ f j then f j else 0) = (if j < w ∧ w - n ≤ f j then f j else 0)
        by_cases hj : j < w
        · have hne : f j ≠ w - (n + 1) := fun e => q (h.2.1 j i hj h1 (e.trans h2.symm))
          by_cases q2 : w - (n + 1) ≤ f j
          · rw [if_pos ⟨hj, q2⟩, if_pos ⟨hj, by omega⟩]
          · rw [if_neg (fun c => q2 c.2), if_neg (fun c => q2 (by have := c.2; omega))]
        · rw [if_neg (fun c => hj c.1), if_neg (fun c => hj c.1)]
theorem full_bit {w i : Nat} : (2 ^ w - 1).testBit i = decide (i < w) := Nat.testBit_two_pow_sub_one ..
theorem th_0 {w : Nat} {f : Nat → Nat} : thN f 0 w = 2 ^ w - 1 := by
  have hp := Nat.two_pow_pos w
  refine bit_ext (thN_lt w) (by omega) (fun i hi => ?_)
  rw [thN_bit, full_bit]
  simp
theorem pop_full {w : Nat} : ∀ n : Nat, n ≤ w → pop (2 ^ w - 1) n = n
  | 0, _ => rfl
  | n + 1, h => by
    show pop (2 ^ w - 1) n + _ = n + 1
    rw [pop_full n (by omega), full_bit, decide_eq_true (show n < w by omega), if_pos rfl]
theorem chV_mem {w : Nat} {f : Nat → Nat} : f ∈ chV w w (2 ^ w - 1) ↔ isP w f := by
  have hp := Nat.two_pow_pos w
  constructor
  · intro h
    obtain ⟨p1, p2, p3⟩ := chV_ok w (2 ^ w - 1) (by omega) (pop_full w (Nat.le_refl _)) (Nat.le_refl _) f h
    have b : ∀ i : Nat, i < w → (2 ^ w - 1).testBit i = true := fun i hi => by rw [full_bit]; exact decide_eq_true hi
    refine ⟨fun i hi => (p1 i (b i hi)).2, fun i j hi hj e => p3 i j (b i hi) (b j hj) e, fun i hi => p2 i ?_⟩
    rw [full_bit]
    exact decide_eq_false (by omega)
  · intro h
    have := rs_mem h w (Nat.le_refl _)
    rw [Nat.sub_self, th_0] at this
    have e : rsF w f 0 = f := by
      funext i
      unfold rsF
      by_cases q : i < w
      · rw [if_pos ⟨q, Nat.zero_le _⟩]
      · rw [if_neg (fun c => q c.1), h.2.2 i (by omega)]
    rw [e] at this
    exact this
theorem fnL_in {v : List Nat} {i : Nat} (h : i < v.length) : fnL v i = v[i] := by
  unfold fnL
  rw [List.getD_eq_getElem?_getD, List.getElem?_eq_getElem h]; rfl
theorem fnL_out {v : List Nat} {i : Nat} (h : v.length ≤ i) : fnL v i = 0 := by
  unfold fnL
  rw [List.getD_eq_getElem?_getD, List.getElem?_eq_none h]; rfl
theorem fnL_P {w : Nat} {v : List Nat} (h : v.Perm (List.range w)) : isP w (fnL v) := by
  have hl : v.length = w := by rw [h.length_eq, List.length_range]
  have hn : v.Nodup := h.nodup_iff.2 List.nodup_range
  refine ⟨fun i hi => ?_, fun i j hi hj e => ?_, fun i hi => fnL_out (by omega)⟩
  · rw [fnL_in (by omega)]
    exact List.mem_range.1 (h.mem_iff.1 (List.getElem_mem _))
  · rw [fnL_in (by omega), fnL_in (by omega)] at e
    have hp := List.pairwise_iff_getElem.1 hn
    by_cases q : i = j
    · exact q
    · by_cases q2 : i < j
      · exact absurd e (hp i j (by omega) (by omega) q2)
      · exact absurd e.symm (hp j i (by omega) (by omega) (by omega))
theorem rng_pw (w : Nat) : (List.range w).Pairwise (· < ·) := List.pairwise_lt_range
/-- all permutations, in the order of the reference -/
def allP (w : Nat) : List (Nat → Nat) := (lx w (List.range w)).map fnL
theorem allP_mem {w : Nat} {f : Nat → Nat} : f ∈ allP w ↔ isP w f := by
  unfold allP
  rw [List.mem_map]
  constructor
  · rintro ⟨v, h1, rfl⟩
    exact fnL_P ((lx_mem w _ v (List.length_range)).1 h1)
  · intro h
    refine ⟨(List.range w).map f, (lx_mem w _ _ (List.length_range)).2 ?_, ?_⟩
    · refine perm_nd _ _ ?_ List.nodup_range (fun x => ?_)
      · show List.Pairwise (· ≠ ·) _
        rw [List.pairwise_map]
        exact List.Pairwise.imp_of_mem (fun {a b} ha hb hab e => hab (h.2.1 a b (List.mem_range.1 ha) (List.mem_range.1 hb) e)) List.nodup_range
      · rw [List.mem_map, List.mem_range]
        constructor
        · rintro ⟨i, hi, rfl⟩
          exact h.1 i (List.mem_range.1 hi)
        · intro hx
          obtain ⟨i, h1, h2⟩ := isP_sur h hx
          exact ⟨i, List.mem_range.2 h1, h2⟩
    · funext i
      by_cases q : i < w
      · rw [fnL_in (by rw [List.length_map, List.length_range]; exact q)]
        simp
      · rw [fnL_out (by rw [List.length_map, List.length_range]; omega), h.2.2 i (by omega)]
theorem allP_nd {w : Nat} : (allP w).Nodup := by
  unfold allP
  show List.Pairwise (· ≠ ·) _
  rw [List.pairwise_map]
  refine List.Pairwise.imp_of_mem (fun {a b} ha hb hab e => ?_) (lx_pw w (List.range w) List.length_range (rng_pw w))
  have la := ((lx_mem w _ a (List.length_range)).1 ha).length_eq
  have lb := ((lx_mem w _ b (List.length_range)).1 hb).length_eq
  have : a = b := by
    refine List.ext_getElem (by omega) (fun i h1 h2 => ?_)
    have := congrFun e i
    rw [fnL_in h1, fnL_in h2] at this
    exact this
  rw [this] at hab
  exact ltL_irr b hab
theorem allP_ch {w : Nat} : (allP w).Perm (chV w w (2 ^ w - 1)) := by
  have hp := Nat.two_pow_pos w
  exact perm_nd _ _ allP_nd (chV_nd w _ (by omega) (pop_full w (Nat.le_refl _)) (Nat.le_refl _)) (fun f => by rw [allP_mem, chV_mem])
