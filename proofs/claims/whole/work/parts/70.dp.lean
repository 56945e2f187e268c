/-! sums over all permutations, set by set -/
theorem pop_lt {x i : Nat} (hi : x.testBit i = false) : ∀ w : Nat, i < w → pop x w < w
  | 0, h => absurd h (by omega)
  | w + 1, h => by
    show pop x w + (if x.testBit w then 1 else 0) < w + 1
    by_cases e : i = w
    · subst e
      rw [hi]
      have := pop_le (x := x) i
      rw [if_neg (by decide)]
      omega
    · have := pop_lt hi w (by omega)
      split <;> omega
theorem th_x {w n x : Nat} {v : Nat → Nat} (hx : x < 2 ^ w) (hp : pop x w = n) (hn : n ≤ w) (H : PV w n x v) : thN v (w - n) w = x := by
  refine bit_ext (thN_lt w) hx (fun i hi => ?_)
  rw [thN_bit, decide_eq_true hi, Bool.true_and]
  cases hb : x.testBit i with
  | true => exact decide_eq_true (H.1 i hb).1
  | false =>
    have := pop_lt hb w hi
    exact decide_eq_false (by rw [H.2.1 i hb]; omega)
theorem th_up {w i t s : Nat} {v : Nat → Nat} (hv : v i = 0) (hs : t < s) : thN (upF v i t) s w = thN v s w := by
  refine bit_ext (thN_lt w) (thN_lt w) (fun j hj => ?_)
  rw [thN_bit, thN_bit, decide_eq_true hj, Bool.true_and, Bool.true_and]
  unfold upF
  by_cases q : j = i
  · rw [if_pos q, q, hv, decide_eq_false (show ¬ s ≤ t by omega), decide_eq_false (show ¬ s ≤ 0 by omega)]
  · rw [if_neg q]
def gB (w : Nat) (cs : List (Nat × Nat)) : Nat → (Nat → Nat) → Bool
  | 0, _ => true
  | n + 1, v => gB w cs n v && gdX w cs (thN v (w - 1 - n) w)
def cC (w : Nat) (cs : List (Nat × Nat)) : Nat → (Nat → Nat) → Nat
  | 0, _ => 0
  | n + 1, v => cC w cs n v + bg cs (thN v (w - n) w) (thN v (w - 1 - n) w)
theorem gB_c {w i n : Nat} {cs : List (Nat × Nat)} {v : Nat → Nat} (hv : v i = 0) (hn : n + 1 ≤ w) : ∀ m : Nat, m ≤ n → gB w cs m (upF v i (w - 1 - n)) = gB w cs m v
  | 0, _ => rfl
  | m + 1, hm => by
    show (gB w cs m _ && gdX w cs (thN _ (w - 1 - m) w)) = (gB w cs m v && gdX w cs (thN v (w - 1 - m) w))
    rw [gB_c hv hn m (by omega), th_up hv (by omega)]
theorem cC_c {w i n : Nat} {cs : List (Nat × Nat)} {v : Nat → Nat} (hv : v i = 0) (hn : n + 1 ≤ w) : ∀ m : Nat, m ≤ n → cC w cs m (upF v i (w - 1 - n)) = cC w cs m v
  | 0, _ => rfl
  | m + 1, hm => by
    show cC w cs m _ + bg cs (thN _ (w - m) w) (thN _ (w - 1 - m) w) = cC w cs m v + bg cs (thN v (w - m) w) (thN v (w - 1 - m) w)
    rw [cC_c hv hn m (by omega), th_up hv (by omega), th_up hv (by omega)]
/-- a step of a chain -/
theorem st_up {w n x i : Nat} {cs : List (Nat × Nat)} {v : Nat → Nat} (hx : x < 2 ^ w) (hp : pop x w = n + 1) (hn : n + 1 ≤ w) (hi : i < w) (hb : x.testBit i = true) (hv : v ∈ chV w n (x ^^^ 2 ^ i)) : gB w cs (n + 1) (upF v i (w - 1 - n)) = (gB w cs n v && gdX w cs x) ∧ cC w cs (n + 1) (upF v i (w - 1 - n)) = cC w cs n v + bg cs (x ^^^ 2 ^ i) x := by
  have px := pop_xor hb w
  rw [if_pos hi] at px
  have pv := chV_ok n (x ^^^ 2 ^ i) (xor_lt hx hi) (by omega) (by omega) v hv
  have vi : v i = 0 := pv.2.1 i (by rw [xor_bit, hb, decide_eq_true rfl]; rfl)
  have e1 := th_x hx hp hn (PV_up hn hb pv)
  have e2 := th_x (xor_lt hx hi) (show pop (x ^^^ 2 ^ i) w = n by omega) (by omega) pv
  rw [show w - (n + 1) = w - 1 - n by omega] at e1
  constructor
  · show (gB w cs n (upF v i (w - 1 - n)) && gdX w cs (thN (upF v i (w - 1 - n)) (w - 1 - n) w)) = _
    rw [gB_c vi hn n (Nat.le_refl _), e1]
  · show cC w cs n (upF v i (w - 1 - n)) + bg cs (thN (upF v i (w - 1 - n)) (w - n) w) (thN (upF v i (w - 1 - n)) (w - 1 - n) w) = _
    rw [cC_c vi hn n (Nat.le_refl _), e1, th_up vi (by omega), e2]
theorem sm_chW {t x : Nat} {g : (Nat → Nat) → Nat} {G : Nat → List (Nat → Nat)} : ∀ j : Nat, smL g (chW t x G j) = sm (fun i => if x.testBit i = true then smL (fun v => g (upF v i t)) (G (x ^^^ 2 ^ i)) else 0) j
  | 0 => rfl
  | j + 1 => by
    show smL g (chW t x G j ++ (if x.testBit j = true then (G (x ^^^ 2 ^ j)).map (fun v => upF v j t) else [])) = sm _ j + (if x.testBit j = true then smL (fun v => g (upF v j t)) (G (x ^^^ 2 ^ j)) else 0)
    rw [smL_app, sm_chW j]
    by_cases q : x.testBit j = true
    · rw [if_pos q, if_pos q, smL_map]
    · rw [if_neg q, if_neg q]; rfl
def mxs (f : Nat → Nat) : Nat → Nat
  | 0 => 0
  | n + 1 => max (mxs f n) (f n)
theorem mx_chW {t x : Nat} {g : (Nat → Nat) → Nat} {G : Nat → List (Nat → Nat)} : ∀ j : Nat, mxL g (chW t x G j) = mxs (fun i => if x.testBit i = true then mxL (fun v => g (upF v i t)) (G (x ^^^ 2 ^ i)) else 0) j
  | 0 => rfl
  | j + 1 => by
    show mxL g (chW t x G j ++ (if x.testBit j = true then (G (x ^^^ 2 ^ j)).map (fun v => upF v j t) else [])) = max (mxs _ j) (if x.testBit j = true then mxL (fun v => g (upF v j t)) (G (x ^^^ 2 ^ j)) else 0)
    rw [mxL_app, mx_chW j]
    by_cases q : x.testBit j = true
    · rw [if_pos q, if_pos q, mxL_map]
    · rw [if_neg q, if_neg q]; rfl
theorem mxs_c {f g : Nat → Nat} : ∀ n : Nat, (∀ i : Nat, i < n → f i = g i) → mxs f n = mxs g n
  | 0, _ => rfl
  | n + 1, h => by
    show max (mxs f n) (f n) = max (mxs g n) (g n)
    rw [mxs_c n (fun i hi => h i (by omega)), h n (by omega)]
def cN (w : Nat) (cs : List (Nat × Nat)) (n x : Nat) : Nat := smL (fun v => if gB w cs n v then 1 else 0) (chV w n x)
def bN (w : Nat) (cs : List (Nat × Nat)) (n x : Nat) : Nat := mxL (cC w cs n) (chV w n x)
def tN (w : Nat) (cs : List (Nat × Nat)) (n x : Nat) : Nat := smL (cC w cs n) (chV w n x)
def fac : Nat → Nat
  | 0 => 1
  | n + 1 => (n + 1) * fac n
theorem smL_0 {α : Type} : ∀ L : List α, smL (fun _ => 0) L = 0
  | [] => rfl
  | a :: L => by show 0 + smL (fun _ => 0) L = 0; rw [smL_0 L]
theorem smL_add {α : Type} {g : α → Nat} {k : Nat} : ∀ L : List α, smL (fun a => g a + k) L = smL g L + k * L.length
  | [] => by show 0 = 0 + k * 0; omega
  | a :: L => by
    show g a + k + smL (fun a => g a + k) L = g a + smL g L + k * (L.length + 1)
    rw [smL_add L, Nat.mul_add]; omega
theorem mxL_add {α : Type} {g : α → Nat} {k : Nat} : ∀ L : List α, L ≠ [] → mxL (fun a => g a + k) L = mxL g L + k
  | [], h => absurd rfl h
  | [a], _ => by show max (g a + k) 0 = max (g a) 0 + k; omega
  | a :: b :: L, _ => by
    have ih := mxL_add (g := g) (k := k) (b :: L) (by simp)
    show max (g a + k) (mxL (fun a => g a + k) (b :: L)) = max (g a) (mxL g (b :: L)) + k
    rw [ih]; omega
theorem cN_0 {w x : Nat} {cs : List (Nat × Nat)} : cN w cs 0 x = 1 := rfl
theorem bN_0 {w x : Nat} {cs : List (Nat × Nat)} : bN w cs 0 x = 0 := rfl
theorem cN_s {w n x : Nat} {cs : List (Nat × Nat)} (hx : x < 2 ^ w) (hp : pop x w = n + 1) (hn : n + 1 ≤ w) : cN w cs (n + 1) x = if gdX w cs x = true then sm (fun i => if x.testBit i = true then cN w cs n (x ^^^ 2 ^ i) else 0) w else 0 := by
  show smL _ (chW (w - 1 - n) x (chV w n) w) = _
  rw [sm_chW]
  by_cases q : gdX w cs x = true
  · rw [if_pos q]
    refine sm_c w (fun i hi => ?_)
    by_cases b : x.testBit i = true
    · rw [if_pos b, if_pos b]
      refine smL_c _ (fun v hv => ?_)
      rw [(st_up hx hp hn hi b hv).1, q, Bool.and_true]
    · rw [if_neg b, if_neg b]
  · rw [if_neg q]
    refine Eq.trans (sm_c (g := fun _ => 0) w (fun i hi => ?_)) (sm_0 w)
    by_cases b : x.testBit i = true
    · rw [if_pos b]
      refine Eq.trans (smL_c (g' := fun _ => 0) _ (fun v hv => ?_)) (smL_0 _)
      rw [(st_up hx hp hn hi b hv).1]
      have : gdX w cs x = false := by
        cases hc : gdX w cs x with
        | false => rfl
        | true => exact absurd hc q
      rw [this, Bool.and_false]; rfl
    · rw [if_neg b]
theorem ch_ne {w : Nat} : ∀ (n x : Nat), x < 2 ^ w → pop x w = n → n ≤ w → chV w n x ≠ []
  | 0, x, _, _, _ => by
    show [fun _ => 0] ≠ []
    simp
  | n + 1, x, hx, hp, hn => by
    obtain ⟨i, hi, hb⟩ : ∃ i : Nat, i < w ∧ x.testBit i = true := by
      apply Classical.byContradiction
      intro hno
      have z : ∀ m : Nat, m ≤ w → pop x m = 0 := by
        intro m
        induction m with
        | zero => intro _; rfl
        | succ m ih =>
          intro hm
          show pop x m + (if x.testBit m then 1 else 0) = 0
          rw [ih (by omega)]
          cases hc : x.testBit m with
          | false => rfl
          | true => exact absurd ⟨m, by omega, hc⟩ hno
      have := z w (Nat.le_refl _)
      omega
    have px := pop_xor hb w
    rw [if_pos hi] at px
    have ih := ch_ne n (x ^^^ 2 ^ i) (xor_lt hx hi) (by omega) (by omega)
    intro e
    cases hl : chV w n (x ^^^ 2 ^ i) with
    | nil => exact ih hl
    | cons v r =>
      have : upF v i (w - 1 - n) ∈ chV w (n + 1) x := (chW_mem w).2 ⟨i, hi, hb, v, by rw [hl]; exact List.mem_cons_self .., rfl⟩
      rw [e] at this
      exact absurd this List.not_mem_nil
theorem bN_s {w n x : Nat} {cs : List (Nat × Nat)} (hx : x < 2 ^ w) (hp : pop x w = n + 1) (hn : n + 1 ≤ w) : bN w cs (n + 1) x = mxs (fun i => if x.testBit i = true then bN w cs n (x ^^^ 2 ^ i) + bg cs (x ^^^ 2 ^ i) x else 0) w := by
  show mxL _ (chW (w - 1 - n) x (chV w n) w) = _
  rw [mx_chW]
  refine mxs_c w (fun i hi => ?_)
  by_cases b : x.testBit i = true
  · rw [if_pos b, if_pos b]
    have px := pop_xor b w
    rw [if_pos hi] at px
    rw [mxL_c (g' := fun v => cC w cs n v + bg cs (x ^^^ 2 ^ i) x) _ (fun v hv => (st_up hx hp hn hi b hv).2)]
    exact mxL_add _ (ch_ne n _ (xor_lt hx hi) (by omega) (by omega))
  · rw [if_neg b, if_neg b]
theorem sm_pop {x k : Nat} : ∀ w : Nat, sm (fun i => if x.testBit i = true then k else 0) w = pop x w * k
  | 0 => by show 0 = 0 * k; omega
  | w + 1 => by
    show sm (fun i => if x.testBit i = true then k else 0) w + (if x.testBit w = true then k else 0) = (pop x w + (if x.testBit w then 1 else 0)) * k
    rw [sm_pop w, Nat.add_mul]
    by_cases b : x.testBit w = true
    · rw [if_pos b, if_pos b, Nat.one_mul]
    · rw [if_neg b, if_neg b, Nat.zero_mul]
theorem ch_len {w : Nat} : ∀ (n x : Nat), x < 2 ^ w → pop x w = n → n ≤ w → (chV w n x).length = fac n
  | 0, _, _, _, _ => rfl
  | n + 1, x, hx, hp, hn => by
    have l1 : ∀ L : List (Nat → Nat), L.length = smL (fun _ => 1) L := by
      intro L
      induction L with
      | nil => rfl
      | cons a L ih => show L.length + 1 = 1 + smL (fun _ => 1) L; rw [ih]; omega
    rw [l1]
    show smL (fun _ => 1) (chW (w - 1 - n) x (chV w n) w) = (n + 1) * fac n
    rw [sm_chW, sm_c (g := fun i => if x.testBit i = true then fac n else 0) w (fun i hi => ?_), sm_pop, hp]
    by_cases b : x.testBit i = true
    · rw [if_pos b, if_pos b]
      have px := pop_xor b w
      rw [if_pos hi] at px
      rw [← l1, ch_len n _ (xor_lt hx hi) (by omega) (by omega)]
    · rw [if_neg b, if_neg b]
theorem tN_s {w n x : Nat} {cs : List (Nat × Nat)} (hx : x < 2 ^ w) (hp : pop x w = n + 1) (hn : n + 1 ≤ w) : tN w cs (n + 1) x = sm (fun i => if x.testBit i = true then tN w cs n (x ^^^ 2 ^ i) + bg cs (x ^^^ 2 ^ i) x * fac n else 0) w := by
  show smL _ (chW (w - 1 - n) x (chV w n) w) = _
  rw [sm_chW]
  refine sm_c w (fun i hi => ?_)
  by_cases b : x.testBit i = true
  · rw [if_pos b, if_pos b]
    have px := pop_xor b w
    rw [if_pos hi] at px
    rw [smL_c (g' := fun v => cC w cs n v + bg cs (x ^^^ 2 ^ i) x) _ (fun v hv => (st_up hx hp hn hi b hv).2), smL_add, ch_len n _ (xor_lt hx hi) (by omega) (by omega)]
    rfl
  · rw [if_neg b, if_neg b]
theorem cN_le {w n x : Nat} {cs : List (Nat × Nat)} (hx : x < 2 ^ w) (hp : pop x w = n) (hn : n ≤ w) : cN w cs n x ≤ fac n := by
  rw [← ch_len n x hx hp hn]
  unfold cN
  have : ∀ L : List (Nat → Nat), smL (fun v => if gB w cs n v then 1 else 0) L ≤ L.length := by
    intro L
    induction L with
    | nil => exact Nat.le_refl _
    | cons a L ih =>
      show (if gB w cs n a then 1 else 0) + smL (fun v => if gB w cs n v then 1 else 0) L ≤ L.length + 1
      split <;> omega
  exact this _
theorem cC_le {w : Nat} {cs : List (Nat × Nat)} {v : Nat → Nat} : ∀ n : Nat, cC w cs n v ≤ 40 * n
  | 0 => Nat.le_refl _
  | n + 1 => by
    have := cC_le (w := w) (cs := cs) (v := v) n
    have := bg_le (cs := cs) (x := thN v (w - n) w) (x' := thN v (w - 1 - n) w)
    show cC w cs n v + _ ≤ _
    omega
theorem bN_le {w n x : Nat} {cs : List (Nat × Nat)} : bN w cs n x ≤ 40 * n := by
  unfold bN
  have : ∀ L : List (Nat → Nat), mxL (cC w cs n) L ≤ 40 * n := by
    intro L
    induction L with
    | nil => exact Nat.zero_le _
    | cons a L ih =>
      have := cC_le (w := w) (cs := cs) (v := a) n
      show max (cC w cs n a) (mxL (cC w cs n) L) ≤ 40 * n
      omega
  exact this _
/-! over all permutations -/
theorem gB_all {w : Nat} {cs : List (Nat × Nat)} {v : Nat → Nat} : ∀ n : Nat, n ≤ w → (gB w cs n v = true ↔ ∀ t : Nat, w - n ≤ t → t < w → gdX w cs (thN v t w) = true)
  | 0, _ => ⟨fun _ t h1 h2 => absurd h2 (by omega), fun _ => rfl⟩
  | n + 1, hn => by
    have ih := gB_all (w := w) (cs := cs) (v := v) n (by omega)
    show (gB w cs n v && gdX w cs (thN v (w - 1 - n) w)) = true ↔ _
    rw [Bool.and_eq_true, ih]
    constructor
    · rintro ⟨h1, h2⟩ t h3 h4
      by_cases q : t = w - 1 - n
      · rw [q]; exact h2
      · exact h1 t (by omega) h4
    · intro h
      exact ⟨fun t h1 h2 => h t (by omega) h2, h _ (by omega) (by omega)⟩
theorem cC_all {w : Nat} {cs : List (Nat × Nat)} {v : Nat → Nat} : cC w cs w v = sm (fun t => bg cs (thN v (t + 1) w) (thN v t w)) w := by
  have h : ∀ n : Nat, n ≤ w → cC w cs n v = sm (fun m => bg cs (thN v (w - 1 - m + 1) w) (thN v (w - 1 - m) w)) n := by
    intro n
    induction n with
    | zero => intro _; rfl
    | succ n ih =>
      intro hn
      show cC w cs n v + bg cs (thN v (w - n) w) (thN v (w - 1 - n) w) = sm _ n + bg cs (thN v (w - 1 - n + 1) w) (thN v (w - 1 - n) w)
      rw [ih (by omega), show w - 1 - n + 1 = w - n by omega]
  rw [h w (Nat.le_refl _)]
  exact sm_rev (g := fun t => bg cs (thN v (t + 1) w) (thN v t w)) w
def srtV (w : Nat) (cs : List (Nat × Nat)) (f : Nat → Nat) : Bool := decide (∀ i : Nat, i < w → rnF cs f i = i)
theorem cnt_all {w : Nat} {cs : List (Nat × Nat)} (hw : 1 ≤ w) (hok : okL w cs) : smL (fun f => if srtV w cs f then 1 else 0) (allP w) = cN w cs w (2 ^ w - 1) := by
  rw [smL_perm allP_ch]
  unfold cN
  refine smL_c _ (fun f hf => ?_)
  have hP := chV_mem.1 hf
  have key : (srtV w cs f = true) ↔ (gB w cs w f = true) := by
    unfold srtV
    rw [decide_eq_true_iff, srt_ch hw hok hP, gB_all w (Nat.le_refl _)]
    exact ⟨fun h t _ h2 => h t h2, fun h t h2 => h t (by omega) h2⟩
  by_cases q : srtV w cs f = true
  · rw [if_pos q, if_pos (key.1 q)]
  · rw [if_neg q, if_neg (fun c => q (key.2 c))]
theorem max_all {w : Nat} {cs : List (Nat × Nat)} (hok : okL w cs) (hl : cs.length ≤ 40) : mxL (xcN cs) (allP w) = bN w cs w (2 ^ w - 1) := by
  rw [mxL_perm allP_ch]
  unfold bN
  exact mxL_c _ (fun f hf => by rw [cC_all, xc_sm hok hl (chV_mem.1 hf)])
theorem tot_all {w : Nat} {cs : List (Nat × Nat)} (hok : okL w cs) (hl : cs.length ≤ 40) : smL (xcN cs) (allP w) = tN w cs w (2 ^ w - 1) := by
  rw [smL_perm allP_ch]
  unfold tN
  exact smL_c _ (fun f hf => by rw [cC_all, xc_sm hok hl (chV_mem.1 hf)])
