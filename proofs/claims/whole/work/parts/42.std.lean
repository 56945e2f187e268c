/-! standardize -/
def sw (a b v : Nat) : Nat := if v = a then b else if v = b then a else v
def sw2 (a b : Nat) (c : Nat × Nat) : Nat × Nat := (sw a b c.1, sw a b c.2)
def okL (w : Nat) (cs : List (Nat × Nat)) : Prop := ∀ c ∈ cs, c.1 < w ∧ c.2 < w ∧ c.1 ≠ c.2
def stdL : Nat → List (Nat × Nat) → List (Nat × Nat)
  | 0, cs => cs
  | _ + 1, [] => []
  | m + 1, c :: r => if c.1 ≤ c.2 then c :: stdL m r else (c.2, c.1) :: stdL m (r.map (sw2 c.1 c.2))
def stdC : Nat → List (Nat × Nat) → Nat
  | 0, _ => 0
  | _ + 1, [] => 0
  | m + 1, c :: r => if c.1 ≤ c.2 then stdC m r else stdC m (r.map (sw2 c.1 c.2)) + 1
theorem okL_map {w a b : Nat} {cs : List (Nat × Nat)} (ha : a < w) (hb : b < w) (h : okL w cs) : okL w (cs.map (sw2 a b)) := by
  intro c hc
  obtain ⟨d, hd, rfl⟩ := List.mem_map.1 hc
  have := h d hd
  unfold sw2 sw
  grind
theorem okL_tail {w : Nat} {c : Nat × Nat} {r : List (Nat × Nat)} (h : okL w (c :: r)) : okL w r := fun d hd => h d (List.mem_cons_of_mem _ hd)
theorem stdL_ok {w : Nat} : ∀ (m : Nat) (cs : List (Nat × Nat)), okL w cs → okL w (stdL m cs)
  | 0, cs, h => h
  | m + 1, [], h => h
  | m + 1, c :: r, h => by
    have hc := h c (List.mem_cons_self ..)
    unfold stdL
    by_cases e : c.1 ≤ c.2
    · rw [if_pos e]
      intro d hd
      rcases List.mem_cons.1 hd with rfl | hd
      · exact hc
      · exact stdL_ok m r (okL_tail h) d hd
    · rw [if_neg e]
      intro d hd
      rcases List.mem_cons.1 hd with rfl | hd
      · exact ⟨hc.2.1, hc.1, fun q => hc.2.2 q.symm⟩
      · exact stdL_ok m _ (okL_map hc.1 hc.2.1 (okL_tail h)) d hd
theorem stdL_len : ∀ (m : Nat) (cs : List (Nat × Nat)), (stdL m cs).length = cs.length
  | 0, cs => rfl
  | m + 1, [] => rfl
  | m + 1, c :: r => by
    unfold stdL
    by_cases e : c.1 ≤ c.2
    · rw [if_pos e, List.length_cons, stdL_len m r, List.length_cons]
    · rw [if_neg e, List.length_cons, stdL_len m _, List.length_map, List.length_cons]
theorem get_mid {pre r : List (Nat × Nat)} {c : Nat × Nat} (hb : pre.length < (pre ++ c :: r).length) : (pre ++ c :: r)[pre.length] = c := by
  rw [List.getElem_append_right (Nat.le_refl _)]
  simp
theorem Row_mid {h : Hp} {A B o : Int} {pre r : List (Nat × Nat)} {c : Nat × Nat} (H : Row h A B o (pre ++ c :: r)) : h A (o + pre.length) = c.1 ∧ h B (o + pre.length) = c.2 := by
  have hb : pre.length < (pre ++ c :: r).length := by rw [List.length_append, List.length_cons]; omega
  have := H pre.length hb
  rw [get_mid hb] at this
  exact this
theorem Row_put {h h' : Hp} {A B o : Int} {pre r : List (Nat × Nat)} {c d : Nat × Nat} (H : Row h A B o (pre ++ c :: r)) (e1 : ∀ y : Int, y ≠ o + pre.length → h' A y = h A y ∧ h' B y = h B y) (e2 : h' A (o + pre.length) = d.1 ∧ h' B (o + pre.length) = d.2) : Row h' A B o (pre ++ d :: r) := by
  intro p hp
  have hp' : p < (pre ++ c :: r).length := by rw [List.length_append, List.length_cons] at hp ⊢; exact hp
  by_cases e : p = pre.length
  · subst e
    rw [get_mid hp]; exact e2
  · have eq : (pre ++ d :: r)[p] = (pre ++ c :: r)[p] := by
      by_cases l : p < pre.length
      · rw [List.getElem_append_left l, List.getElem_append_left l]
      · obtain ⟨q, rfl⟩ : ∃ q, p = pre.length + (q + 1) := ⟨p - pre.length - 1, by omega⟩
        rw [List.getElem_append_right (by omega), List.getElem_append_right (by omega)]
        simp only [show pre.length + (q + 1) - pre.length = q + 1 by omega, List.getElem_cons_succ]
    rw [eq, (e1 (o + p) (by omega)).1, (e1 (o + p) (by omega)).2]
    exact H p hp'
theorem c_swapped {h : Hp} {v a b : Nat} {Q : Int → Hp → Prop} (hq : Q (sw a b v) h) : CI 0 mX3_swapped [vi v, vi a, vi b] h Q := by
  unfold sw at hq
  refine sX3_swapped ⟨fun c => ?_, fun c => ?_⟩
  · rw [if_neg (by omega)] at hq
    by_cases e : v = b
    · rw [if_pos e] at hq; rw [if_neg (by omega)]; exact hq
    · rw [if_neg e] at hq; rw [if_pos (by omega)]; exact hq
  · rw [if_pos (by omega)] at hq; exact hq
theorem swb_loop {a : Int} {w f t : Nat} {Q : Hp → Prop} (ha : nA a) : ∀ (r : List (Nat × Nat)) (pre : List (Nat × Nat)) (h : Hp), CNt h a (w, pre ++ r) → pre.length + r.length ≤ 40 → (∀ g, CNt g a (w, pre ++ r.map (sw2 f t)) → (∀ x y, ¬ (a ≤ x ∧ x ≤ a + 2) → g x y = h x y) → Q g) → E 1 mX3_swapWiresBehind 5 [(0, vr a), (2, vi f), (3, vi t), (4, vi pre.length)] [] h (qv Q)
  | [], pre, h, A, hl, hq => by
    have e : h a 1 = ((pre ++ []).length : Nat) := A.2.1
    rw [List.append_nil] at e
    exact sX3_swapWiresBehind_5 ⟨ha, fun _ => hq h A (fun _ _ _ => rfl), fun c => absurd c (by omega)⟩
  | c :: r, pre, h, A, hl, hq => by
    have e : h a 1 = ((pre ++ c :: r).length : Nat) := A.2.1
    rw [List.length_append, List.length_cons] at e
    rw [List.length_cons] at hl
    obtain ⟨b1, b2⟩ := Row_mid A.2.2
    rw [Int.zero_add] at b1 b2
    refine sX3_swapWiresBehind_5 ⟨ha, fun c => absurd c (by omega), fun _ => ⟨by omega, ?_⟩⟩
    rw [b1]
    refine c_swapped ⟨by omega, ?_⟩
    rw [up_no (x := a + 2) (by omega), b2]
    refine c_swapped ⟨by omega, ?_⟩
    have fr : ∀ x y, ¬ (a ≤ x ∧ x ≤ a + 2) → up (up h (a + 1) pre.length (sw f t c.1)) (a + 2) pre.length (sw f t c.2) x y = h x y := fun x y hx => by rw [up_no (by omega), up_no (by omega)]
    have := swb_loop (w := w) (f := f) (t := t) (Q := Q) ha r (pre ++ [sw2 f t c]) (up (up h (a + 1) pre.length (sw f t c.1)) (a + 2) pre.length (sw f t c.2)) ⟨?_, ?_, ?_⟩ (by rw [List.length_append, List.length_singleton]; omega) (fun g q1 q2 => hq g ?_ (fun x y hx => by rw [q2 x y hx, fr x y hx]))
    · rw [List.length_append, List.length_singleton] at this
      exact this
    · rw [up_no (by omega), up_no (by omega)]; exact A.1
    · rw [up_no (by omega), up_no (by omega), e]
      show _ = (((pre ++ [sw2 f t c]) ++ r).length : Int)
      rw [List.length_append, List.length_append, List.length_singleton]; omega
    · show Row _ _ _ _ ((pre ++ [sw2 f t c]) ++ r)
      rw [List.append_assoc]
      exact Row_put (d := sw2 f t c) A.2.2 (fun y hy => ⟨by rw [up_no (by omega), up_no (by omega)], by rw [up_no (by omega), up_no (by omega)]⟩) ⟨by rw [Int.zero_add, up_no (by omega), up_eq]; rfl, by rw [Int.zero_add, up_eq]; rfl⟩
    · rw [List.append_assoc] at q1; exact q1
theorem turn_loop {a : Int} {w : Nat} {Q : Int → Hp → Prop} (ha : nA a) : ∀ (m : Nat) (rest pre : List (Nat × Nat)) (n : Nat) (h : Hp), rest.length = m → CNt h a (w, pre ++ rest) → pre.length + rest.length ≤ 40 → n ≤ pre.length → okL w rest → (∀ g, CNt g a (w, pre ++ stdL m rest) → (∀ x y, ¬ (a ≤ x ∧ x ≤ a + 2) → g x y = h x y) → Q ((n + stdC m rest : Nat)) g) → E 2 mX3_turnAll 4 [(0, vr a), (1, vi n), (2, vi pre.length)] [] h (qi Q)
  | 0, rest, pre, n, h, hm, A, hl, hn, hok, hq => by
    have z : rest = [] := List.length_eq_zero_iff.1 hm
    subst z
    have e : h a 1 = ((pre ++ []).length : Nat) := A.2.1
    rw [List.append_nil] at e
    exact sX3_turnAll_4 ⟨ha, fun _ => hq h A (fun _ _ _ => rfl), fun c => absurd c (by omega)⟩
  | m + 1, [], pre, n, h, hm, A, hl, hn, hok, hq => absurd hm (by simp)
  | m + 1, c :: r, pre, n, h, hm, A, hl, hn, hok, hq => by
    have e : h a 1 = ((pre ++ c :: r).length : Nat) := A.2.1
    rw [List.length_append, List.length_cons] at e
    rw [List.length_cons] at hl hm
    obtain ⟨b1, b2⟩ := Row_mid A.2.2
    rw [Int.zero_add] at b1 b2
    have hc := hok c (List.mem_cons_self ..)
    refine sX3_turnAll_4 ⟨ha, fun c => absurd c (by omega), fun _ => ⟨by omega, fun c1 => ⟨by omega, ?_⟩, fun c1 => ⟨by omega, ?_⟩⟩⟩
    · have le : c.1 ≤ c.2 := by omega
      have := turn_loop (Q := Q) ha m r (pre ++ [c]) n h (by omega) (by rw [List.append_assoc]; exact A) (by rw [List.length_append, List.length_singleton]; omega) (by rw [List.length_append]; omega) (okL_tail hok) (fun g q1 q2 => ?_)
      · rw [List.length_append, List.length_singleton] at this
        exact this
      · have := hq g (by unfold stdL; rw [if_pos le]; rw [List.append_assoc] at q1; exact q1) q2
        unfold stdC at this
        rw [if_pos le] at this
        exact this
    · have le : ¬ c.1 ≤ c.2 := by omega
      rw [b1, b2]
      have fr : ∀ x y, ¬ (a ≤ x ∧ x ≤ a + 2) → up (up h (a + 1) pre.length c.2) (a + 2) pre.length c.1 x y = h x y := fun x y hx => by rw [up_no (by omega), up_no (by omega)]
      have A' : CNt (up (up h (a + 1) pre.length c.2) (a + 2) pre.length c.1) a (w, (pre ++ [(c.2, c.1)]) ++ r) := by
        refine ⟨?_, ?_, ?_⟩
        · rw [up_no (by omega), up_no (by omega)]; exact A.1
        · rw [up_no (by omega), up_no (by omega), e]
          show _ = (((pre ++ [(c.2, c.1)]) ++ r).length : Int)
          rw [List.length_append, List.length_append, List.length_singleton]; omega
        · show Row _ _ _ _ ((pre ++ [(c.2, c.1)]) ++ r)
          rw [List.append_assoc]
          exact Row_put (d := (c.2, c.1)) A.2.2 (fun y hy => ⟨by rw [up_no (by omega), up_no (by omega)], by rw [up_no (by omega), up_no (by omega)]⟩) ⟨by rw [Int.zero_add, up_no (by omega), up_eq], by rw [Int.zero_add, up_eq]⟩
      refine sX3_swapWiresBehind ⟨by omega, ?_⟩
      have hs := swb_loop (w := w) (f := c.1) (t := c.2) (Q := fun h6 => (rj ((n : Int) + 1) ∧ rj ((pre.length : Int) + 1)) ∧ E 2 mX3_turnAll 4 [(0, vr a), (1, vi ((n : Int) + 1)), (2, vi ((pre.length : Int) + 1))] [] h6 (qi Q)) ha r (pre ++ [(c.2, c.1)]) _ A' (by rw [List.length_append, List.length_singleton]; omega) (fun g q1 q2 => ⟨by omega, ?_⟩)
      · rw [List.length_append, List.length_singleton] at hs
        exact hs
      · have := turn_loop (Q := Q) ha m (r.map (sw2 c.1 c.2)) (pre ++ [(c.2, c.1)]) (n + 1) g (by rw [List.length_map]; omega) q1 (by rw [List.length_append, List.length_singleton, List.length_map]; omega) (by rw [List.length_append, List.length_singleton]; omega) (okL_map hc.1 hc.2.1 (okL_tail hok)) (fun g2 r1 r2 => ?_)
        · rw [List.length_append, List.length_singleton] at this
          exact this
        · have := hq g2 (by unfold stdL; rw [if_neg le]; rw [List.append_assoc] at r1; exact r1) (fun x y hx => by rw [r2 x y hx, q2 x y hx, fr x y hx])
          unfold stdC at this
          rw [if_neg le] at this
          rw [show n + 1 + stdC m (r.map (sw2 c.1 c.2)) = n + (stdC m (r.map (sw2 c.1 c.2)) + 1) by omega]
          exact this
