/-! insert, add, remove -/
def shU (h : Hp) (A B j n : Int) : Hp := fun x y => if (x = A ∨ x = B) ∧ j < y ∧ y ≤ n then h x (y - 1) else h x y
def shD (h : Hp) (A B p j : Int) : Hp := fun x y => if (x = A ∨ x = B) ∧ p ≤ y ∧ y < j then h x (y + 1) else h x y
theorem shU_step {h : Hp} {A B j n : Int} (hj : j ≤ n) (hAB : A ≠ B) : up (up (shU h A B j n) A j (shU h A B j n A (j - 1))) B j (shU h A B j n B (j - 1)) = shU h A B (j + -1) n := by
  funext x y
  grind [up, shU]
theorem shD_step {h : Hp} {A B p j : Int} (hj : p ≤ j) (hAB : A ≠ B) : up (up (shD h A B p j) A j (shD h A B p j A (j + 1))) B j (shD h A B p j B (j + 1)) = shD h A B p (j + 1) := by
  funext x y
  grind [up, shD]
theorem shU_0 {h : Hp} {A B n : Int} : shU h A B n n = h := by
  funext x y
  grind [shU]
theorem shD_0 {h : Hp} {A B p : Int} : shD h A B p p = h := by
  funext x y
  grind [shD]
def ins (cs : List (Nat × Nat)) (p : Nat) (c : Nat × Nat) : List (Nat × Nat) := cs.take p ++ c :: cs.drop p
def del (cs : List (Nat × Nat)) (p : Nat) : List (Nat × Nat) := cs.take p ++ cs.drop (p + 1)
theorem ins_len {cs : List (Nat × Nat)} {p : Nat} {c : Nat × Nat} (hp : p ≤ cs.length) : (ins cs p c).length = cs.length + 1 := by
  unfold ins; grind
theorem del_len {cs : List (Nat × Nat)} {p : Nat} (hp : p < cs.length) : (del cs p).length = cs.length - 1 := by
  unfold del; grind
theorem ins_hi0 {cs : List (Nat × Nat)} {p r : Nat} {c : Nat × Nat} (hp : p ≤ r) (hr : r < cs.length) (hb : r + 1 < (cs.take p ++ c :: cs.drop p).length) : (cs.take p ++ c :: cs.drop p)[r + 1] = cs[r] := by
  have hl : (cs.take p).length = p := by rw [List.length_take]; omega
  rw [List.getElem_append_right (by omega)]
  have e : r + 1 - (cs.take p).length = (r - p) + 1 := by omega
  simp only [e, List.getElem_cons_succ, List.getElem_drop]
  congr 1; omega
theorem ins_hi {cs : List (Nat × Nat)} {p r : Nat} {c : Nat × Nat} (hp : p ≤ r) (hr : r < cs.length) (hb : r + 1 < (ins cs p c).length) : (ins cs p c)[r + 1] = cs[r] := ins_hi0 hp hr hb
theorem del_hi0 {cs : List (Nat × Nat)} {p q : Nat} (hp : p ≤ q) (hr : q + 1 < cs.length) (hb : q < (cs.take p ++ cs.drop (p + 1)).length) : (cs.take p ++ cs.drop (p + 1))[q] = cs[q + 1] := by
  have hl : (cs.take p).length = p := by rw [List.length_take]; omega
  rw [List.getElem_append_right (by omega)]
  simp only [hl, List.getElem_drop]
  congr 1; omega
theorem del_hi {cs : List (Nat × Nat)} {p q : Nat} (hp : p ≤ q) (hr : q + 1 < cs.length) (hb : q < (del cs p).length) : (del cs p)[q] = cs[q + 1] := del_hi0 hp hr hb
theorem Row_ins {h h' : Hp} {A B o : Int} {cs : List (Nat × Nat)} {p f t : Nat} (H : Row h A B o cs) (hp : p ≤ cs.length) (e1 : ∀ y : Nat, y < p → h' A (o + y) = h A (o + y) ∧ h' B (o + y) = h B (o + y)) (e2 : h' A (o + p) = f ∧ h' B (o + p) = t) (e3 : ∀ y : Nat, p ≤ y → y < cs.length → h' A (o + (y + 1 : Nat)) = h A (o + y) ∧ h' B (o + (y + 1 : Nat)) = h B (o + y)) : Row h' A B o (ins cs p (f, t)) := by
  intro q hq
  rw [ins_len hp] at hq
  by_cases c1 : q < p
  · have e : (ins cs p (f, t))[q]'(by rw [ins_len hp]; omega) = cs[q] := by unfold ins; grind
    rw [e, (e1 q c1).1, (e1 q c1).2]
    exact H q (by omega)
  · by_cases c2 : q = p
    · subst c2
      have e : (ins cs q (f, t))[q]'(by rw [ins_len hp]; omega) = (f, t) := by unfold ins; grind
      rw [e]; exact e2
    · obtain ⟨r, rfl⟩ : ∃ r, q = r + 1 := ⟨q - 1, by omega⟩
      have e : (ins cs p (f, t))[r + 1]'(by rw [ins_len hp]; omega) = cs[r] := ins_hi (by omega) (by omega) _
      rw [e, (e3 r (by omega) (by omega)).1, (e3 r (by omega) (by omega)).2]
      exact H r (by omega)
theorem Row_del {h h' : Hp} {A B o : Int} {cs : List (Nat × Nat)} {p : Nat} (H : Row h A B o cs) (hp : p < cs.length) (e1 : ∀ y : Nat, y < p → h' A (o + y) = h A (o + y) ∧ h' B (o + y) = h B (o + y)) (e3 : ∀ y : Nat, p ≤ y → y + 1 < cs.length → h' A (o + y) = h A (o + (y + 1 : Nat)) ∧ h' B (o + y) = h B (o + (y + 1 : Nat))) : Row h' A B o (del cs p) := by
  intro q hq
  rw [del_len hp] at hq
  by_cases c1 : q < p
  · have e : (del cs p)[q]'(by rw [del_len hp]; omega) = cs[q] := by unfold del; grind
    rw [e, (e1 q c1).1, (e1 q c1).2]
    exact H q (by omega)
  · have e : (del cs p)[q]'(by rw [del_len hp]; omega) = cs[q + 1] := del_hi (by omega) (by omega) _
    rw [e, (e3 q (by omega) (by omega)).1, (e3 q (by omega) (by omega)).2]
    exact H (q + 1) (by omega)
theorem okN_ins {N : NetT} {p f t : Nat} (hok : okN N) (hp : p ≤ N.2.length) (hl : N.2.length < 40) (hf : f < N.1) (ht : t < N.1) (hft : f ≠ t) : okN (N.1, ins N.2 p (f, t)) := by
  obtain ⟨h1, h2, h3, h4⟩ := hok
  refine ⟨h1, h2, ?_, fun c hc => ?_⟩
  · show (ins N.2 p (f, t)).length ≤ 40
    rw [ins_len hp]; omega
  · have hc' : c ∈ ins N.2 p (f, t) := hc
    unfold ins at hc'
    rcases List.mem_append.1 hc' with q | q
    · exact h4 c (List.mem_of_mem_take q)
    · rcases List.mem_cons.1 q with rfl | q
      · exact ⟨hf, ht, hft⟩
      · exact h4 c (List.mem_of_mem_drop q)
theorem okN_del {N : NetT} {p : Nat} (hok : okN N) (hp : p < N.2.length) : okN (N.1, del N.2 p) := by
  obtain ⟨h1, h2, h3, h4⟩ := hok
  refine ⟨h1, h2, ?_, fun c hc => ?_⟩
  · show (del N.2 p).length ≤ 40
    rw [del_len hp]; omega
  · have hc' : c ∈ del N.2 p := hc
    unfold del at hc'
    rcases List.mem_append.1 hc' with q | q
    · exact h4 c (List.mem_of_mem_take q)
    · exact h4 c (List.mem_of_mem_drop q)
theorem push_loop {h : Hp} {a p f t n : Int} {Q : Hp → Prop} (ha : nA a) (hp : 0 ≤ p) (hn : n ≤ 39) (kk : E 2 mX3_pushAt 72 [(0, vr a), (1, vi p), (2, vi f), (3, vi t)] [] (shU h (a + 1) (a + 2) p n) (qv Q)) : ∀ (m : Nat) (j : Int), p ≤ j → j ≤ n → (m : Int) = j - p → E 2 mX3_pushAt 28 [(0, vr a), (1, vi p), (2, vi f), (3, vi t), (4, vi j)] [] (shU h (a + 1) (a + 2) j n) (qv Q)
  | 0, j, h1, h2, h3 => by
    have e : j = p := by omega
    subst e
    exact sX3_pushAt_28 ⟨fun _ => kk, fun c => absurd c (by omega)⟩
  | m + 1, j, h1, h2, h3 => by
    refine sX3_pushAt_28 ⟨fun c => absurd c (by omega), fun _ => ⟨by omega, ?_⟩⟩
    rw [up_no (x := a + 2) (by omega), shU_step h2 (by omega)]
    exact push_loop ha hp hn kk m (j + -1) (by omega) (by omega) (by omega)
theorem c_pushAt {h : Hp} {a : Int} {N : NetT} {p f t : Nat} {Q : Hp → Prop} (ha : nA a) (H : CNt h a N) (hp : p ≤ N.2.length) (hl : N.2.length < 40) (hf : f < N.1) (ht : t < N.1) (hft : f ≠ t) (hq : ∀ h', CNt h' a (N.1, ins N.2 p (f, t)) → (∀ x y, ¬ (a ≤ x ∧ x ≤ a + 2) → h' x y = h x y) → Q h') : CV 2 mX3_pushAt [vr a, vi p, vi f, vi t] h Q := by
  obtain ⟨n1, n2, n3⟩ := H
  refine sX3_pushAt ⟨fun c => absurd c (by omega), fun _ => ⟨ha, fun c => absurd c (by omega), fun _ => ⟨ha, ?_⟩⟩⟩
  refine sX3_refusal ⟨by omega, fun c => absurd c (by omega), fun _ => ⟨by omega, fun _ => ⟨fun _ => ⟨ha, fun _ => ⟨ha, ?_⟩, fun c => absurd (if_pos (by omega)) c⟩, fun c => absurd c (by omega)⟩, fun c => absurd c (by omega)⟩⟩
  rw [n2]
  have := push_loop (h := h) (a := a) (p := p) (f := f) (t := t) (n := N.2.length) (Q := Q) ha (by omega) (by omega) ?_ (N.2.length - p) N.2.length (by omega) (by omega) (by omega)
  · rw [shU_0] at this; exact this
  · have e1 : ∀ x y, ¬ (x = a + 1 ∨ x = a + 2) → up (up (shU h (a + 1) (a + 2) p N.2.length) (a + 1) p f) (a + 2) p t x y = h x y := fun x y hx => by
      rw [up_no (by omega), up_no (by omega)]; unfold shU; rw [if_neg (by omega)]
    refine sX3_pushAt_72 ⟨⟨ha, by omega, by rw [e1 _ _ (by omega)]; omega⟩, hq _ ⟨?_, ?_, ?_⟩ (fun x y hx => ?_)⟩
    · rw [up_no (by omega), e1 _ _ (by omega)]; exact n1
    · rw [up_eq, e1 _ _ (by omega)]
      show _ = ((ins N.2 p (f, t)).length : Int)
      rw [ins_len hp]; omega
    · refine Row_ins n3 hp (fun y hy => ?_) ?_ (fun y hy hy2 => ?_)
      · constructor <;> (rw [up_no (by omega), up_no (by omega), up_no (by omega)]; unfold shU; rw [if_neg (by omega)])
      · rw [Int.zero_add]; constructor
        · rw [up_no (by omega), up_no (by omega), up_eq]
        · rw [up_no (by omega), up_eq]
      · constructor <;> (rw [up_no (by omega), up_no (by omega), up_no (by omega)]; unfold shU; rw [if_pos (by omega)]; congr 1; omega)
    · rw [up_no (by omega), e1 _ _ (by omega)]
theorem puts_loop {h : Hp} {k p f t n : Int} {Q : Hp → Prop} (hk : 0 ≤ k ∧ k < 4) (hp : 0 ≤ p) (hn : n ≤ 39) (kk : E 0 mX11_puts 62 [(0, vr 103), (1, vi k), (2, vi p), (3, vi f), (4, vi t)] [] (shU h 106 107 (40 * k + p) (40 * k + n)) (qv Q)) : ∀ (m : Nat) (j : Int), 40 * k + p ≤ j → j ≤ 40 * k + n → (m : Int) = j - (40 * k + p) → E 0 mX11_puts 13 [(0, vr 103), (1, vi k), (2, vi p), (3, vi f), (4, vi t), (5, vi j)] [] (shU h 106 107 j (40 * k + n)) (qv Q)
  | 0, j, h1, h2, h3 => by
    have e : j = 40 * k + p := by omega
    subst e
    exact sX11_puts_13 ⟨by omega, fun _ => kk, fun c => absurd c (by omega)⟩
  | m + 1, j, h1, h2, h3 => by
    refine sX11_puts_13 ⟨by omega, fun c => absurd c (by omega), fun _ => ⟨by omega, ?_⟩⟩
    rw [shU_step h2 (by omega)]
    exact puts_loop hk hp hn kk m (j + -1) (by omega) (by omega) (by omega)
theorem m_puts {h : Hp} {k : Nat} {N : NetT} {p f t : Nat} {Q : Hp → Prop} (hk : k < 4) (H : MNt h k N) (hp : p ≤ N.2.length) (hl : N.2.length < 40) (hq : ∀ h', MNt h' k (N.1, ins N.2 p (f, t)) → (∀ x y : Int, ¬ ((x = 105 ∧ y = k) ∨ ((x = 106 ∨ x = 107) ∧ 40 * (k : Int) ≤ y ∧ y < 40 * k + 40)) → h' x y = h x y) → Q h') : CV 0 mX11_puts [vr 103, vi k, vi p, vi f, vi t] h Q := by
  obtain ⟨n1, n2, n3⟩ := H
  refine sX11_puts ⟨by omega, ?_⟩
  rw [n2]
  have := puts_loop (h := h) (k := k) (p := p) (f := f) (t := t) (n := N.2.length) (Q := Q) (by omega) (by omega) (by omega) ?_ (N.2.length - p) (40 * k + N.2.length) (by omega) (by omega) (by omega)
  · rw [shU_0] at this; exact this
  · have e1 : ∀ x y, ¬ (x = 106 ∨ x = 107) → shU h 106 107 (40 * k + p) (40 * k + N.2.length) x y = h x y := fun x y hx => by
      unfold shU; rw [if_neg (by omega)]
    refine sX11_puts_62 ⟨⟨by omega, by omega, by omega, by omega, by rw [e1 _ _ (by omega)]; omega⟩, hq _ ⟨?_, ?_, ?_⟩ (fun x y hx => ?_)⟩
    · rw [up_no (by omega), up_no (by omega), up_no (by omega), e1 _ _ (by omega)]; exact n1
    · rw [up_eq, e1 _ _ (by omega)]
      show _ = ((ins N.2 p (f, t)).length : Int)
      rw [ins_len hp]; omega
    · refine Row_ins n3 hp (fun y hy => ?_) ?_ (fun y hy hy2 => ?_)
      · constructor <;> (rw [up_no (by omega), up_no (by omega), up_no (by omega)]; unfold shU; rw [if_neg (by omega)])
      · constructor
        · rw [up_no (by omega), up_no (by omega), up_eq]
        · rw [up_no (by omega), up_eq]
      · constructor <;> (rw [up_no (by omega), up_no (by omega), up_no (by omega)]; unfold shU; rw [if_pos (by omega)]; congr 1; omega)
    · rw [up_no (by omega), up_no (by omega), up_no (by omega)]; unfold shU; rw [if_neg (by omega)]
