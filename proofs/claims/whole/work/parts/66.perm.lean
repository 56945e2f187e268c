/-! lists of permutations -/
def goL (f : List Nat → List (List Nat)) : List Nat → List Nat → List (List Nat)
  | _, [] => []
  | L, a :: R => (f (L ++ R)).map (fun v => a :: v) ++ goL f (L ++ [a]) R
def lx : Nat → List Nat → List (List Nat)
  | 0, _ => [[]]
  | n + 1, A => goL (lx n) [] A
theorem goL_mem {f : List Nat → List (List Nat)} {u : List Nat} : ∀ (R L : List Nat), u ∈ goL f L R ↔ ∃ (R1 : List Nat) (a : Nat) (R2 v : List Nat), R = R1 ++ a :: R2 ∧ v ∈ f (L ++ R1 ++ R2) ∧ u = a :: v
  | [], L => by
    constructor
    · intro h; exact absurd h List.not_mem_nil
    · rintro ⟨R1, a, R2, v, h, _⟩
      exact absurd h.symm (by simp)
  | b :: R, L => by
    have ih := goL_mem (f := f) (u := u) R (L ++ [b])
    show u ∈ (f (L ++ R)).map (fun v => b :: v) ++ goL f (L ++ [b]) R ↔ _
    rw [List.mem_append, ih, List.mem_map]
    constructor
    · rintro (⟨v, h1, h2⟩ | ⟨R1, a, R2, v, h1, h2, h3⟩)
      · exact ⟨[], b, R, v, rfl, by rw [List.append_nil]; exact h1, h2.symm⟩
      · refine ⟨b :: R1, a, R2, v, by rw [h1]; rfl, ?_, h3⟩
        rw [show L ++ b :: R1 ++ R2 = L ++ [b] ++ R1 ++ R2 by simp]
        exact h2
    · rintro ⟨R1, a, R2, v, h1, h2, h3⟩
      cases R1 with
      | nil =>
        left
        have h1 : b :: R = a :: R2 := h1
        injection h1 with e1 e2
        refine ⟨v, ?_, by rw [h3, e1]⟩
        rw [List.append_nil] at h2
        rw [e2]; exact h2
      | cons c R1 =>
        right
        have h1 : b :: R = c :: (R1 ++ a :: R2) := h1
        injection h1 with e1 e2
        refine ⟨R1, a, R2, v, e2, ?_, h3⟩
        rw [e1, show L ++ [c] ++ R1 ++ R2 = L ++ c :: R1 ++ R2 by simp]
        exact h2
theorem lx_mem : ∀ (n : Nat) (A u : List Nat), A.length = n → (u ∈ lx n A ↔ u.Perm A)
  | 0, A, u, h => by
    have e : A = [] := List.eq_nil_of_length_eq_zero h
    subst e
    show u ∈ [[]] ↔ _
    rw [List.mem_singleton, List.perm_nil]
  | n + 1, A, u, h => by
    show u ∈ goL (lx n) [] A ↔ _
    rw [goL_mem]
    constructor
    · rintro ⟨R1, a, R2, v, h1, h2, h3⟩
      rw [List.nil_append] at h2
      have hl : (R1 ++ R2).length = n := by
        rw [h1, List.length_append, List.length_cons] at h
        rw [List.length_append]; omega
      have hp := (lx_mem n (R1 ++ R2) v hl).1 h2
      rw [h3, h1]
      exact (hp.cons a).trans List.perm_middle.symm
    · intro hp
      cases u with
      | nil =>
        have := hp.length_eq
        rw [h] at this
        exact absurd this.symm (Nat.succ_ne_zero n)
      | cons a v =>
        have ha : a ∈ A := hp.mem_iff.1 (List.mem_cons_self ..)
        obtain ⟨R1, R2, e⟩ := List.append_of_mem ha
        refine ⟨R1, a, R2, v, e, ?_, rfl⟩
        rw [List.nil_append]
        have hl : (R1 ++ R2).length = n := by
          rw [e, List.length_append, List.length_cons] at h
          rw [List.length_append]; omega
        refine (lx_mem n (R1 ++ R2) v hl).2 ?_
        rw [e] at hp
        exact (List.perm_cons a).1 (hp.trans List.perm_middle)
def ltL : List Nat → List Nat → Prop
  | a :: u, b :: v => a < b ∨ (a = b ∧ ltL u v)
  | _, _ => False
theorem ltL_irr : ∀ u : List Nat, ¬ ltL u u
  | [], h => h
  | a :: u, h => by
    rcases h with h | h
    · exact absurd h (Nat.lt_irrefl _)
    · exact ltL_irr u h.2
theorem goL_pw {f : List Nat → List (List Nat)} : ∀ (R L : List Nat), (L ++ R).Pairwise (· < ·) → (∀ B : List Nat, B.length + 1 = (L ++ R).length → B.Pairwise (· < ·) → (f B).Pairwise ltL) → (goL f L R).Pairwise ltL
  | [], L, _, _ => List.Pairwise.nil
  | a :: R, L, hp, hf => by
    show ((f (L ++ R)).map (fun v => a :: v) ++ goL f (L ++ [a]) R).Pairwise ltL
    have hp2 := List.pairwise_append.1 hp
    rw [List.pairwise_append]
    refine ⟨?_, goL_pw R (L ++ [a]) (by rw [List.append_assoc]; exact hp) (fun B h1 h2 => hf B (by rw [h1]; simp) h2), ?_⟩
    · rw [List.pairwise_map]
      refine List.Pairwise.imp (fun h => Or.inr ⟨rfl, h⟩) (hf (L ++ R) (by simp; omega) ?_)
      rw [List.pairwise_append]
      refine ⟨hp2.1, (List.pairwise_cons.1 hp2.2.1).2, fun x hx y hy => hp2.2.2 x hx y (List.mem_cons_of_mem _ hy)⟩
    · intro u hu v hv
      obtain ⟨u', _, rfl⟩ := List.mem_map.1 hu
      obtain ⟨R1, b, R2, v', h1, _, rfl⟩ := (goL_mem R (L ++ [a])).1 hv
      left
      exact (List.pairwise_cons.1 hp2.2.1).1 b (by rw [h1]; exact List.mem_append_right _ (List.mem_cons_self ..))
theorem lx_pw : ∀ (n : Nat) (A : List Nat), A.length = n → A.Pairwise (· < ·) → (lx n A).Pairwise ltL
  | 0, A, _, _ => by
    show [[]].Pairwise ltL
    exact List.pairwise_singleton _ _
  | n + 1, A, h, hp => goL_pw A [] hp (fun B h1 h2 => lx_pw n B (by rw [List.nil_append] at h1; omega) h2)
/-! sums and greatest values over lists -/
def smL {α : Type} (g : α → Nat) : List α → Nat
  | [] => 0
  | a :: r => g a + smL g r
def mxL {α : Type} (g : α → Nat) : List α → Nat
  | [] => 0
  | a :: r => max (g a) (mxL g r)
theorem smL_app {α : Type} {g : α → Nat} : ∀ (L M : List α), smL g (L ++ M) = smL g L + smL g M
  | [], M => by show smL g M = 0 + _; omega
  | a :: L, M => by
    show g a + smL g (L ++ M) = g a + smL g L + smL g M
    rw [smL_app L M]; omega
theorem mxL_app {α : Type} {g : α → Nat} : ∀ (L M : List α), mxL g (L ++ M) = max (mxL g L) (mxL g M)
  | [], M => by show mxL g M = max 0 _; omega
  | a :: L, M => by
    show max (g a) (mxL g (L ++ M)) = max (max (g a) (mxL g L)) (mxL g M)
    rw [mxL_app L M]; omega
theorem smL_map {α β : Type} {g : β → Nat} {f : α → β} : ∀ L : List α, smL g (L.map f) = smL (fun a => g (f a)) L
  | [] => rfl
  | a :: L => by
    show g (f a) + smL g (L.map f) = g (f a) + _
    rw [smL_map L]
theorem mxL_map {α β : Type} {g : β → Nat} {f : α → β} : ∀ L : List α, mxL g (L.map f) = mxL (fun a => g (f a)) L
  | [] => rfl
  | a :: L => by
    show max (g (f a)) (mxL g (L.map f)) = max (g (f a)) _
    rw [mxL_map L]
theorem smL_c {α : Type} {g g' : α → Nat} : ∀ L : List α, (∀ a ∈ L, g a = g' a) → smL g L = smL g' L
  | [], _ => rfl
  | a :: L, h => by
    show g a + smL g L = g' a + smL g' L
    rw [h a (List.mem_cons_self ..), smL_c L (fun b hb => h b (List.mem_cons_of_mem _ hb))]
theorem mxL_c {α : Type} {g g' : α → Nat} : ∀ L : List α, (∀ a ∈ L, g a = g' a) → mxL g L = mxL g' L
  | [], _ => rfl
  | a :: L, h => by
    show max (g a) (mxL g L) = max (g' a) (mxL g' L)
    rw [h a (List.mem_cons_self ..), mxL_c L (fun b hb => h b (List.mem_cons_of_mem _ hb))]
theorem smL_perm {α : Type} {g : α → Nat} {L M : List α} (h : L.Perm M) : smL g L = smL g M := by
  induction h with
  | nil => rfl
  | cons x _ ih => show g x + _ = g x + _; rw [ih]
  | swap x y l => show g y + (g x + smL g l) = g x + (g y + smL g l); omega
  | trans _ _ ih1 ih2 => rw [ih1, ih2]
theorem mxL_perm {α : Type} {g : α → Nat} {L M : List α} (h : L.Perm M) : mxL g L = mxL g M := by
  induction h with
  | nil => rfl
  | cons x _ ih => show max (g x) _ = max (g x) _; rw [ih]
  | swap x y l => show max (g y) (max (g x) (mxL g l)) = max (g x) (max (g y) (mxL g l)); omega
  | trans _ _ ih1 ih2 => rw [ih1, ih2]
theorem perm_nd {α : Type} : ∀ (L M : List α), L.Nodup → M.Nodup → (∀ x : α, x ∈ L ↔ x ∈ M) → L.Perm M
  | [], M, _, _, h => by
    have : M = [] := by
      cases M with
      | nil => rfl
      | cons a M => exact absurd ((h a).2 (List.mem_cons_self ..)) List.not_mem_nil
    rw [this]
  | a :: L, M, h1, h2, h => by
    obtain ⟨M1, M2, e⟩ := List.append_of_mem ((h a).1 (List.mem_cons_self ..))
    subst e
    rw [List.nodup_cons] at h1
    have pm : (M1 ++ a :: M2).Perm (a :: (M1 ++ M2)) := List.perm_middle
    have h3 : (a :: (M1 ++ M2)).Nodup := pm.nodup_iff.1 h2
    rw [List.nodup_cons] at h3
    refine List.Perm.trans ?_ pm.symm
    refine List.Perm.cons a (perm_nd L (M1 ++ M2) h1.2 h3.2 (fun x => ?_))
    constructor
    · intro hx
      have := pm.mem_iff.1 ((h x).1 (List.mem_cons_of_mem _ hx))
      rcases List.mem_cons.1 this with e | e
      · rw [e] at hx; exact absurd hx h1.1
      · exact e
    · intro hx
      have := (h x).2 (pm.mem_iff.2 (List.mem_cons_of_mem _ hx))
      rcases List.mem_cons.1 this with e | e
      · rw [e] at hx; exact absurd hx h3.1
      · exact e
/-! permutations as functions -/
def fnL (v : List Nat) : Nat → Nat := fun i => v.getD i 0
def isP (w : Nat) (f : Nat → Nat) : Prop := (∀ i : Nat, i < w → f i < w) ∧ (∀ i j : Nat, i < w → j < w → f i = f j → i = j) ∧ ∀ i : Nat, w ≤ i → f i = 0
def upF (f : Nat → Nat) (i t : Nat) : Nat → Nat := fun j => if j = i then t else f j
/-- the code of the wires whose value is at least t -/
def thN (f : Nat → Nat) (t : Nat) : Nat → Nat
  | 0 => 0
  | w + 1 => if t ≤ f w then thN f t w ||| 2 ^ w else thN f t w
theorem thN_bit {f : Nat → Nat} {t i : Nat} : ∀ w : Nat, (thN f t w).testBit i = (decide (i < w) && decide (t ≤ f i))
  | 0 => by
    show (0 : Nat).testBit i = _
    rw [Nat.zero_testBit]; simp
  | w + 1 => by
    have ih := thN_bit (f := f) (t := t) (i := i) w
    have key : (thN f t (w + 1)).testBit i = ((thN f t w).testBit i || (decide (i = w) && decide (t ≤ f w))) := by
      show (if t ≤ f w then thN f t w ||| 2 ^ w else thN f t w).testBit i = _
      by_cases q : t ≤ f w
      · rw [if_pos q, Nat.testBit_or, Nat.testBit_two_pow]
        by_cases e : i = w
        · subst e; simp [q]
        · have : ¬ w = i := fun h => e h.symm
          simp [e, this]
      · rw [if_neg q]; simp [q]
    rw [key, ih]
    by_cases e : i = w
    · subst e; simp
    · by_cases q : i < w
      · simp [e, q, show i < w + 1 by omega]
      · simp [e, q, show ¬ i < w + 1 by omega]
theorem thN_lt {f : Nat → Nat} {t : Nat} : ∀ w : Nat, thN f t w < 2 ^ w
  | 0 => by show 0 < 2 ^ 0; decide
  | w + 1 => by
    have ih := thN_lt (f := f) (t := t) w
    have h2 : 2 ^ (w + 1) = 2 ^ w + 2 ^ w := by rw [Nat.pow_succ]; omega
    show (if t ≤ f w then thN f t w ||| 2 ^ w else thN f t w) < _
    split
    · exact Nat.or_lt_two_pow (by omega) (p_lt (by omega))
    · omega
theorem bit_ext {w x y : Nat} (hx : x < 2 ^ w) (hy : y < 2 ^ w) (h : ∀ i : Nat, i < w → x.testBit i = y.testBit i) : x = y := by
  apply Nat.eq_of_testBit_eq
  intro i
  by_cases q : i < w
  · exact h i q
  · have hp : 2 ^ w ≤ 2 ^ i := Nat.pow_le_pow_right (by decide) (by omega)
    rw [Nat.testBit_lt_two_pow (by omega), Nat.testBit_lt_two_pow (by omega)]
theorem xor_bit {x i j : Nat} : (x ^^^ 2 ^ i).testBit j = (x.testBit j ^^ decide (i = j)) := by
  rw [Nat.testBit_xor, Nat.testBit_two_pow]
