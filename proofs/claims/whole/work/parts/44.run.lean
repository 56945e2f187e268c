/-! run -/
def swf (v : Int → Int) (a b : Int) : Int → Int := fun i => if i = a then v b else if i = b then v a else v i
def runV : List (Nat × Nat) → (Int → Int) → (Int → Int) → (Int → Int) × (Int → Int)
  | [], v, o => (v, o)
  | c :: r, v, o => if v c.1 > v c.2 then runV r (swf v c.1 c.2) (swf o c.1 c.2) else runV r v o
def runC : List (Nat × Nat) → (Int → Int) → Nat
  | [], _ => 0
  | c :: r, v => if v c.1 > v c.2 then runC r (swf v c.1 c.2) + 1 else runC r v
def Vo (h : Hp) (A B : Int) (w : Nat) (v o : Int → Int) : Prop := ∀ i : Int, 0 ≤ i → i < w → h A i = v i ∧ h B i = o i
theorem Vo_c {h g : Hp} {A B : Int} {w : Nat} {v o : Int → Int} (H : Vo h A B w v o) (e : ∀ y, g A y = h A y ∧ g B y = h B y) : Vo g A B w v o := fun i h0 h1 => by rw [(e i).1, (e i).2]; exact H i h0 h1
def ini (h : Hp) (K A B j : Int) : Hp := fun x y => if x = A ∧ 0 ≤ y ∧ y < j then h K y else if x = B ∧ 0 ≤ y ∧ y < j then y else h x y
theorem ini_step {h : Hp} {K A B j : Int} (hj : 0 ≤ j) (h1 : A ≠ B) (h2 : K ≠ A) (h3 : K ≠ B) : up (up (ini h K A B j) A j (ini h K A B j K j)) B j j = ini h K A B (j + 1) := by
  funext x y
  grind [up, ini]
theorem ini_0 {h : Hp} {K A B : Int} : ini h K A B 0 = h := by
  funext x y
  grind [ini]
theorem perf_loop {a : Int} {w : Nat} {Q : Int → Hp → Prop} (ha : nA a) (hw : w ≤ 8) : ∀ (rest pre : List (Nat × Nat)) (v o : Int → Int) (n : Nat) (h : Hp), CNt h a (w, pre ++ rest) → Vo h 77 78 w v o → okL w rest → pre.length + rest.length ≤ 40 → n ≤ pre.length → (∀ g, Vo g 77 78 w (runV rest v o).1 (runV rest v o).2 → (∀ x y, ¬ (x = 77 ∨ x = 78) → g x y = h x y) → Q ((n + runC rest v : Nat)) g) → E 1 mX9_perform 50 [(0, vr 76), (1, vr a), (3, vi n), (4, vi pre.length)] [] h (qi Q)
  | [], pre, v, o, n, h, A, V, hok, hl, hn, hq => by
    have e : h a 1 = ((pre ++ []).length : Nat) := A.2.1
    rw [List.append_nil] at e
    exact sX9_perform_50 ⟨ha, fun _ => hq h V (fun _ _ _ => rfl), fun c => absurd c (by omega)⟩
  | c :: r, pre, v, o, n, h, A, V, hok, hl, hn, hq => by
    have e : h a 1 = ((pre ++ c :: r).length : Nat) := A.2.1
    rw [List.length_append, List.length_cons] at e
    rw [List.length_cons] at hl
    obtain ⟨b1, b2⟩ := Row_mid A.2.2
    rw [Int.zero_add] at b1 b2
    have hc := hok c (List.mem_cons_self ..)
    obtain ⟨v1, o1⟩ := V c.1 (by omega) (by omega)
    obtain ⟨v2, o2⟩ := V c.2 (by omega) (by omega)
    refine sX9_perform_50 ⟨ha, fun c => absurd c (by omega), fun _ => ?_⟩
    have u1 : up (up h 77 c.1 (h 77 c.2)) 77 c.2 (h 77 c.1) (a + 1) pre.length = c.1 := by rw [up_no (by omega), up_no (by omega), b1]
    have u2 : up (up h 77 c.1 (h 77 c.2)) 77 c.2 (h 77 c.1) (a + 2) pre.length = c.2 := by rw [up_no (by omega), up_no (by omega), b2]
    have u3 : up (up h 77 c.1 (h 77 c.2)) 77 c.2 (h 77 c.1) 78 c.1 = o c.1 := by rw [up_no (by omega), up_no (by omega), o1]
    have u4 : up (up h 77 c.1 (h 77 c.2)) 77 c.2 (h 77 c.1) 78 c.2 = o c.2 := by rw [up_no (by omega), up_no (by omega), o2]
    rw [b1, b2, u1, u2, u3, u4, v1, v2]
    refine ⟨by omega, fun c1 => ⟨by omega, ?_⟩, fun c1 => ⟨by omega, ?_⟩⟩
    · have := perf_loop (Q := Q) ha hw r (pre ++ [c]) v o n h (by rw [List.append_assoc]; exact A) V (okL_tail hok) (by rw [List.length_append, List.length_singleton]; omega) (by rw [List.length_append]; omega) (fun g q1 q2 => ?_)
      · rw [List.length_append, List.length_singleton] at this
        exact this
      · have := hq g (by unfold runV; rw [if_neg (by omega)]; exact q1) q2
        unfold runC at this
        rw [if_neg (by omega)] at this
        exact this
    · have fr : ∀ x y, ¬ (x = 77 ∨ x = 78) → up (up (up (up h 77 c.1 (v c.2)) 77 c.2 (v c.1)) 78 c.1 (o c.2)) 78 c.2 (o c.1) x y = h x y := fun x y hx => by rw [up_no (by omega), up_no (by omega), up_no (by omega), up_no (by omega)]
      have := perf_loop (Q := Q) ha hw r (pre ++ [c]) (swf v c.1 c.2) (swf o c.1 c.2) (n + 1) (up (up (up (up h 77 c.1 (v c.2)) 77 c.2 (v c.1)) 78 c.1 (o c.2)) 78 c.2 (o c.1)) (by rw [List.append_assoc]; exact CNt_c (fun x y p1 p2 => fr x y (by omega)) A) (fun i h0 h1 => ?_) (okL_tail hok) (by rw [List.length_append, List.length_singleton]; omega) (by rw [List.length_append, List.length_singleton]; omega) (fun g q1 q2 => ?_)
      · rw [List.length_append, List.length_singleton] at this
        exact this
      · have := V i h0 h1
        unfold swf
        grind [up]
      · have := hq g (by unfold runV; rw [if_pos c1]; exact q1) (fun x y hx => by rw [q2 x y hx, fr x y hx])
        unfold runC at this
        rw [if_pos c1] at this
        rw [show n + 1 + runC r (swf v c.1 c.2) = n + (runC r (swf v c.1 c.2) + 1) by omega]
        exact this
theorem perf_ini {h : Hp} {a : Int} {w : Nat} {Q : Int → Hp → Prop} (hw : w ≤ 8) (h1 : h 76 1 = w) (kk : E 1 mX9_perform 50 [(0, vr 76), (1, vr a), (3, vi 0), (4, vi 0)] [] (ini h 75 77 78 w) (qi Q)) : ∀ (m j : Nat), j ≤ w → m = w - j → E 1 mX9_perform 15 [(0, vr 76), (1, vr a), (2, vr 75), (3, vi j)] [] (ini h 75 77 78 j) (qi Q)
  | 0, j, h2, h3 => by
    have e : j = w := by omega
    subst e
    have e1 : ini h 75 77 78 j 76 1 = j := by unfold ini; rw [if_neg (by omega), if_neg (by omega)]; exact h1
    exact sX9_perform_15 ⟨fun _ => kk, fun c => absurd c (by omega)⟩
  | m + 1, j, h2, h3 => by
    have e1 : ini h 75 77 78 j 76 1 = w := by unfold ini; rw [if_neg (by omega), if_neg (by omega)]; exact h1
    refine sX9_perform_15 ⟨fun c => absurd c (by omega), fun _ => ⟨by omega, ?_⟩⟩
    rw [ini_step (by omega) (by omega) (by omega) (by omega)]
    exact perf_ini hw h1 kk m (j + 1) (by omega) (by omega)
theorem c_perform {h : Hp} {a : Int} {N : NetT} {Q : Int → Hp → Prop} (ha : nA a) (hok : okN N) (A : CNt h a N) (hq : ∀ g, Vo g 77 78 N.1 (runV N.2 (h 75) (fun i => i)).1 (runV N.2 (h 75) (fun i => i)).2 → g 76 0 = 1 → g 76 1 = N.1 → (∀ x y, ¬ (76 ≤ x ∧ x ≤ 78) → g x y = h x y) → Q ((0 + runC N.2 (h 75) : Nat)) g) : CI 1 mX9_perform [vr 76, vr a, vr 75] h Q := by
  refine sX9_perform ⟨ha, ?_⟩
  rw [up_no (x := a) (by omega), A.1]
  have fr : ∀ x y, ¬ (76 ≤ x ∧ x ≤ 78) → ini (up (up h 76 0 1) 76 1 N.1) 75 77 78 N.1 x y = h x y := fun x y hx => by unfold ini; rw [if_neg (by omega), if_neg (by omega), up_no (by omega), up_no (by omega)]
  have := perf_ini (h := up (up h 76 0 1) 76 1 N.1) (a := a) (w := N.1) (Q := Q) hok.2.1 (by rw [up_eq]) ?_ N.1 0 (by omega) (by omega)
  · rw [show ((0 : Nat) : Int) = 0 by rfl, ini_0] at this; exact this
  · refine perf_loop (w := N.1) ha hok.2.1 N.2 [] (h 75) (fun i => i) 0 _ (CNt_c (fun x y p1 p2 => fr x y (by omega)) A) (fun i h0 h1 => ?_) hok.2.2.2 (by have := hok.2.2.1; show 0 + _ ≤ 40; omega) (by omega) (fun g q1 q2 => hq g q1 ?_ ?_ (fun x y hx => by rw [q2 x y (by omega), fr x y hx]))
    · unfold ini
      rw [if_pos (by omega), if_neg (by omega), if_pos (by omega), up_no (by omega), up_no (by omega)]
      exact ⟨rfl, rfl⟩
    · rw [q2 _ _ (by omega)]; unfold ini; rw [if_neg (by omega), if_neg (by omega), up_no (by omega), up_eq]
    · rw [q2 _ _ (by omega)]; unfold ini; rw [if_neg (by omega), if_neg (by omega), up_eq]
