/-! the ranking of the extensions -/
theorem nd_le : ∀ (L1 L2 : List Nat), L1.Nodup → (∀ x ∈ L1, x ∈ L2) → L1.length ≤ L2.length
  | [], _, _, _ => Nat.zero_le _
  | a :: l, L2, h1, h2 => by
    have ha := h2 a (List.mem_cons_self ..)
    rw [List.nodup_cons] at h1
    have ih := nd_le l (L2.erase a) h1.2 (fun x hx => by
      have hne : x ≠ a := fun e => h1.1 (by rw [← e]; exact hx)
      exact (List.mem_erase_of_ne hne).2 (h2 x (List.mem_cons_of_mem _ hx)))
    rw [List.length_erase_of_mem ha] at ih
    have : 0 < L2.length := List.length_pos_of_mem ha
    rw [List.length_cons]
    omega
theorem nd_eq {L1 L2 : List Nat} (h1 : L1.Nodup) (h2 : L2.Nodup) (h : ∀ x : Nat, x ∈ L1 ↔ x ∈ L2) : L1.length = L2.length := by
  have a := nd_le L1 L2 h1 (fun x hx => (h x).1 hx)
  have b := nd_le L2 L1 h2 (fun x hx => (h x).2 hx)
  omega
def colC (p : Nat → Bool) : List Nat → Nat
  | [] => 0
  | y :: t => (if p y then 1 else 0) + colC p t
theorem colC_len {p : Nat → Bool} : ∀ L : List Nat, (L.filter (fun y => !p y)).length + colC p L = L.length
  | [] => rfl
  | y :: t => by
    have ih := colC_len (p := p) t
    show _ + ((if p y then 1 else 0) + colC p t) = _
    cases hb : p y with
    | true =>
      rw [List.filter_cons_of_neg (p := fun y => !p y) (by rw [hb]; decide), List.length_cons, if_pos rfl]
      omega
    | false =>
      rw [List.filter_cons_of_pos (p := fun y => !p y) (by rw [hb]; rfl), List.length_cons, List.length_cons, if_neg (by decide)]
      omega
def coP (c : Nat × Nat) (L : List Nat) (y : Nat) : Bool := decide (exq c y ≠ y) && decide (exq c y ∈ L)
theorem exq_ne {c : Nat × Nat} {y : Nat} (h : exB c y = true) (hc : c.1 ≠ c.2) : exq c y ≠ y := by
  intro e
  unfold exB at h
  rw [Bool.and_eq_true] at h
  have b := exq_bit (a := c.1) (b := c.2) (x := y) (v := c.1) hc
  rw [if_pos rfl] at b
  have e' : exq (c.1, c.2) y = y := e
  rw [e', h.1] at b
  have h2 := h.2
  rw [← (show (true && y.testBit c.2) = y.testBit c.2 from Bool.true_and _), ← b] at h2
  exact absurd h2 (by decide)
theorem exq_twice {c : Nat × Nat} {y : Nat} (hc : c.1 ≠ c.2) (h : exB c y = true) : exq c (exq c y) = exq c y := by
  refine exq_id ?_
  unfold exB at h ⊢
  rw [Bool.and_eq_true] at h
  have b := exq_bit (a := c.1) (b := c.2) (x := y) (v := c.1) hc
  rw [if_pos rfl] at b
  have h2 : y.testBit c.2 = false := by
    cases hb : y.testBit c.2 with
    | false => rfl
    | true => rw [hb] at h; exact absurd h.2 (by decide)
  rw [h2, Bool.and_false] at b
  have b' : (exq c y).testBit c.1 = false := b
  rw [b']; rfl
theorem exq_inj {c : Nat × Nat} {x y : Nat} (hx : exB c x = true) (hy : exB c y = true) (e : exq c x = exq c y) : x = y := by
  unfold exB at hx hy
  rw [Bool.and_eq_true] at hx hy
  have f : ∀ z : Bool, (!z) = true → z = false := fun z hz => by cases z with
    | false => rfl
    | true => exact absurd hz (by decide)
  have e2 : x ^^^ (2 ^ c.1 ||| 2 ^ c.2) = y ^^^ (2 ^ c.1 ||| 2 ^ c.2) := by
    unfold exq at e
    rw [if_pos ⟨hx.1, f _ hx.2⟩, if_pos ⟨hy.1, f _ hy.2⟩] at e
    exact e
  have e3 := congrArg (fun z => z ^^^ (2 ^ c.1 ||| 2 ^ c.2)) e2
  simp only [Nat.xor_assoc, Nat.xor_self, Nat.xor_zero] at e3
  exact e3
theorem im_count {w : Nat} {c : Nat × Nat} {L : List Nat} (hc : c.1 ≠ c.2) (hnd : L.Nodup) (hU : ∀ y ∈ L, y < 2 ^ w) : (imS L c (2 ^ w)).length + colC (coP c L) L = L.length := by
  rw [← colC_len (p := coP c L) L]
  have key : (imS L c (2 ^ w)).length = ((L.filter (fun y => !coP c L y)).map (exq c)).length := by
    refine nd_eq (imS_nd _) ?_ (fun z => ?_)
    · show List.Pairwise (· ≠ ·) _
      rw [List.pairwise_map]
      refine List.Pairwise.imp_of_mem (fun {a b} ha hb hab => ?_) (List.Pairwise.filter _ hnd)
      obtain ⟨a1, a2⟩ := List.mem_filter.1 ha
      obtain ⟨b1, b2⟩ := List.mem_filter.1 hb
      intro e
      have no : ∀ u v : Nat, u ∈ L → v ∈ L → (!coP c L u) = true → exB c u = true → exB c v = false → exq c u = exq c v → False := fun u v h1 h2 h3 h4 h5 h6 => by
        rw [exq_id h5] at h6
        unfold coP at h3
        rw [decide_eq_true (exq_ne h4 hc), decide_eq_true (show exq c u ∈ L by rw [h6]; exact h2)] at h3
        exact absurd h3 (by decide)
      cases xa : exB c a with
      | true =>
        cases xb : exB c b with
        | true => exact hab (exq_inj xa xb e)
        | false => exact no a b a1 b1 a2 xa xb e
      | false =>
        cases xb : exB c b with
        | true => exact no b a b1 a1 b2 xb xa e.symm
        | false => rw [exq_id xa, exq_id xb] at e; exact hab e
    · rw [imS_mem, List.mem_map]
      constructor
      · rintro ⟨x, h1, h2, h3⟩
        cases hp : coP c L x with
        | false => exact ⟨x, List.mem_filter.2 ⟨h2, by rw [hp]; rfl⟩, h3⟩
        | true =>
          unfold coP at hp
          rw [Bool.and_eq_true] at hp
          have hm : exq c x ∈ L := of_decide_eq_true hp.2
          have hx : exB c x = true := by
            cases hb : exB c x with
            | true => rfl
            | false => exact absurd (exq_id hb) (of_decide_eq_true hp.1)
          have ht := exq_twice hc hx
          refine ⟨exq c x, List.mem_filter.2 ⟨hm, ?_⟩, by rw [ht]; exact h3⟩
          unfold coP
          rw [ht]
          simp
      · rintro ⟨x, h1, h2⟩
        have hx := (List.mem_filter.1 h1).1
        exact ⟨x, hU x hx, hx, h2⟩
  rw [key, List.length_map]
/-! the insertion -/
def insR (e : Nat) : List Nat → List Nat
  | [] => [e]
  | a :: r => if a ≤ e then e :: a :: r else a :: insR e r
def insC (e : Nat) : List Nat → List Nat
  | [] => [e]
  | a :: r => if a / 100 ≤ e / 100 then e :: a :: r else a :: insC e r
theorem insR_len {e : Nat} : ∀ r : List Nat, (insR e r).length = r.length + 1
  | [] => rfl
  | a :: r => by
    have ih := insR_len (e := e) r
    unfold insR
    split
    · rfl
    · rw [List.length_cons, List.length_cons, ih]
theorem insR_mem {e x : Nat} : ∀ r : List Nat, x ∈ insR e r ↔ x = e ∨ x ∈ r
  | [] => by unfold insR; rw [List.mem_singleton]; exact ⟨Or.inl, fun h => h.elim id (fun h => absurd h List.not_mem_nil)⟩
  | a :: r => by
    have ih := insR_mem (e := e) (x := x) r
    unfold insR
    split
    · rw [List.mem_cons]
    · rw [List.mem_cons, ih, List.mem_cons]
      constructor
      · rintro (h | h | h)
        · exact Or.inr (Or.inl h)
        · exact Or.inl h
        · exact Or.inr (Or.inr h)
      · rintro (h | h | h)
        · exact Or.inr (Or.inl h)
        · exact Or.inl h
        · exact Or.inr (Or.inr h)
theorem insC_eq {e : Nat} : ∀ r : List Nat, (∀ a ∈ r, a % 100 < e % 100) → insC e r = insR e r
  | [], _ => rfl
  | a :: r, h => by
    have ih := insC_eq (e := e) r (fun b hb => h b (List.mem_cons_of_mem _ hb))
    have ha := h a (List.mem_cons_self ..)
    unfold insC insR
    by_cases q : a / 100 ≤ e / 100
    · rw [if_pos q, if_pos (by omega)]
    · rw [if_neg q, if_neg (by omega), ih]
def tri : Nat → Nat
  | 0 => 0
  | n + 1 => tri n + n
def codeE (w : Nat) (L : List Nat) (i j : Nat) : Nat := 100 * (imS L (i, j) (2 ^ w)).length + 10 * i + j
def rkI (w : Nat) (L : List Nat) (i : Nat) : Nat → Nat → List Nat → List Nat
  | 0, _, RA => RA
  | m + 1, j, RA => rkI w L i m (j + 1) (insR (codeE w L i j) RA)
def rkO (w : Nat) (L : List Nat) : Nat → Nat → List Nat → List Nat
  | 0, _, RA => RA
  | m + 1, i, RA => rkO w L m (i + 1) (rkI w L i (w - (i + 1)) (i + 1) RA)
def okR (w : Nat) (RA : List Nat) : Prop := ∀ a ∈ RA, ∃ c i j : Nat, c ≤ 256 ∧ i < j ∧ j < w ∧ a = 100 * c + 10 * i + j
theorem rkI_ok {w : Nat} {L : List Nat} {i : Nat} (hw : w ≤ 8) : ∀ (m j : Nat) (RA : List Nat), j + m = w → i < j → okR w RA → okR w (rkI w L i m j RA) ∧ (rkI w L i m j RA).length = RA.length + m
  | 0, j, RA, _, _, h => ⟨h, rfl⟩
  | m + 1, j, RA, hm, hij, h => by
    have il := imS_len (L := L) (c := (i, j)) (2 ^ w)
    have h256 := p256 hw
    obtain ⟨a1, a2⟩ := rkI_ok (L := L) (i := i) hw m (j + 1) (insR (codeE w L i j) RA) (by omega) (by omega) (fun a ha => by
      rcases (insR_mem _).1 ha with e | e
      · exact ⟨(imS L (i, j) (2 ^ w)).length, i, j, by omega, hij, by omega, e⟩
      · exact h a e)
    refine ⟨a1, ?_⟩
    show (rkI w L i m (j + 1) (insR (codeE w L i j) RA)).length = _
    rw [a2, insR_len]
    omega
theorem rkO_ok {w : Nat} {L : List Nat} (hw : w ≤ 8) : ∀ (m i : Nat) (RA : List Nat), i + m = w → okR w RA → okR w (rkO w L m i RA) ∧ (rkO w L m i RA).length = RA.length + tri m
  | 0, i, RA, _, h => ⟨h, rfl⟩
  | m + 1, i, RA, hm, h => by
    obtain ⟨b1, b2⟩ := rkI_ok (L := L) (i := i) hw (w - (i + 1)) (i + 1) RA (by omega) (by omega) h
    obtain ⟨a1, a2⟩ := rkO_ok (L := L) hw m (i + 1) (rkI w L i (w - (i + 1)) (i + 1) RA) (by omega) b1
    refine ⟨a1, ?_⟩
    show (rkO w L m (i + 1) _).length = RA.length + (tri m + m)
    rw [a2, b2]
    omega
def nthR : List Nat → Nat → Nat
  | [], _ => 0
  | a :: r, p => if p = r.length then a else nthR r p
theorem nthR_mem : ∀ (r : List Nat) (p : Nat), p < r.length → nthR r p ∈ r
  | [], p, h => absurd h (Nat.not_lt_zero _)
  | a :: r, p, h => by
    unfold nthR
    by_cases q : p = r.length
    · rw [if_pos q]; exact List.mem_cons_self ..
    · rw [if_neg q]
      rw [List.length_cons] at h
      exact List.mem_cons_of_mem _ (nthR_mem r p (by omega))
/-! the arrays -/
def RkM (h : Hp) : List Nat → Nat → Prop
  | [], _ => True
  | a :: r, b => h 123 ((b + r.length : Nat) : Int) = (a : Nat) ∧ RkM h r b
theorem RkM_c {h g : Hp} : ∀ (r : List Nat) (b : Nat), (∀ y : Int, (b : Int) ≤ y → y < (b : Int) + r.length → g 123 y = h 123 y) → RkM h r b → RkM g r b
  | [], _, _, _ => trivial
  | a :: r, b, e, H => by
    rw [List.length_cons] at e
    exact ⟨by rw [e _ (by omega) (by omega)]; exact H.1, RkM_c r b (fun y h1 h2 => e y h1 (by omega)) H.2⟩
theorem RkM_app {h : Hp} : ∀ (B X : List Nat) (b : Nat), RkM h B (b + X.length) → RkM h X b → RkM h (B ++ X) b
  | [], X, b, _, H => H
  | a :: B, X, b, H1, H => by
    refine ⟨?_, RkM_app B X b H1.2 H⟩
    show h 123 ((b + (B ++ X).length : Nat) : Int) = _
    rw [List.length_append, show b + (B.length + X.length) = b + X.length + B.length by omega]
    exact H1.1
theorem RkM_get {h : Hp} : ∀ (r : List Nat) (p : Nat), RkM h r 0 → p < r.length → h 123 p = (nthR r p : Nat)
  | [], p, _, hp => absurd hp (Nat.not_lt_zero _)
  | a :: r, p, H, hp => by
    rw [List.length_cons] at hp
    unfold nthR
    by_cases q : p = r.length
    · rw [if_pos q, q]
      have := H.1
      rw [Nat.zero_add] at this
      exact this
    · rw [if_neg q]
      exact RkM_get r p H.2 (by omega)
def RkC (h : Hp) : List Nat → Nat → Prop
  | [], _ => True
  | a :: r, b => (h 92 ((b + r.length : Nat) : Int) = (a % 100 / 10 : Nat) ∧ h 93 ((b + r.length : Nat) : Int) = (a % 10 : Nat) ∧ h 94 ((b + r.length : Nat) : Int) = (a / 100 : Nat)) ∧ RkC h r b
theorem RkC_c {h g : Hp} : ∀ (r : List Nat) (b : Nat), (∀ x y : Int, 92 ≤ x → x ≤ 94 → (b : Int) ≤ y → y < (b : Int) + r.length → g x y = h x y) → RkC h r b → RkC g r b
  | [], _, _, _ => trivial
  | a :: r, b, e, H => by
    rw [List.length_cons] at e
    exact ⟨⟨by rw [e _ _ (by omega) (by omega) (by omega) (by omega)]; exact H.1.1, by rw [e _ _ (by omega) (by omega) (by omega) (by omega)]; exact H.1.2.1, by rw [e _ _ (by omega) (by omega) (by omega) (by omega)]; exact H.1.2.2⟩, RkC_c r b (fun x y h0 h0' h1 h2 => e x y h0 h0' h1 (by omega)) H.2⟩
theorem RkC_app {h : Hp} : ∀ (B X : List Nat) (b : Nat), RkC h B (b + X.length) → RkC h X b → RkC h (B ++ X) b
  | [], X, b, _, H => H
  | a :: B, X, b, H1, H => by
    refine ⟨?_, RkC_app B X b H1.2 H⟩
    show h 92 ((b + (B ++ X).length : Nat) : Int) = _ ∧ h 93 ((b + (B ++ X).length : Nat) : Int) = _ ∧ h 94 ((b + (B ++ X).length : Nat) : Int) = _
    rw [List.length_append, show b + (B.length + X.length) = b + X.length + B.length by omega]
    exact H1.1
theorem RkC_get {h : Hp} : ∀ (r : List Nat) (p : Nat), RkC h r 0 → p < r.length → h 92 p = (nthR r p % 100 / 10 : Nat) ∧ h 93 p = (nthR r p % 10 : Nat) ∧ h 94 p = (nthR r p / 100 : Nat)
  | [], p, _, hp => absurd hp (Nat.not_lt_zero _)
  | a :: r, p, H, hp => by
    rw [List.length_cons] at hp
    unfold nthR
    by_cases q : p = r.length
    · rw [if_pos q, q]
      have := H.1
      rw [Nat.zero_add] at this
      exact this
    · rw [if_neg q]
      exact RkC_get r p H.2 (by omega)
theorem RkM_snoc {h : Hp} {B : List Nat} {a b : Nat} (H : RkM h B (b + 1)) (e : h 123 (b : Nat) = (a : Nat)) : RkM h (B ++ [a]) b := RkM_app B [a] b H ⟨e, trivial⟩
theorem RkC_snoc {h : Hp} {B : List Nat} {a b : Nat} (H : RkC h B (b + 1)) (e1 : h 92 (b : Nat) = (a % 100 / 10 : Nat)) (e2 : h 93 (b : Nat) = (a % 10 : Nat)) (e3 : h 94 (b : Nat) = (a / 100 : Nat)) : RkC h (B ++ [a]) b := RkC_app B [a] b H ⟨⟨e1, e2, e3⟩, trivial⟩
