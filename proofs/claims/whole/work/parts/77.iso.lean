/-! isIsomorphic -/
theorem blkE {w : Nat} {zw : Int} {p : List Nat → Bool} {Inv : Hp → Prop} {G : Int → Hp → Prop} {Fin : Hp → Prop} (ew : zw = w) (hw : w ≤ 8) (hI : ∀ g h : Hp, (∀ x y : Int, x ≠ 121 → g x y = h x y) → Inv h → Inv g) (visit : ∀ (v : List Nat) (h : Hp), v.Perm (List.range w) → AR h 121 v → Inv h → (p v = true → Fin h) → (p v = false → CI 1 mX11_isNext [vr 103, vi zw] h G) → G 1 h) : ∀ (n : Nat) (A pre : List Nat) (h : Hp), A.length = n → (pre ++ A).Perm (List.range w) → A.Pairwise (· < ·) → AR h 121 (pre ++ A) → Inv h → (∀ (g : Hp) (v : List Nat), Inv g → (∀ x y : Int, x ≠ 121 → g x y = h x y) → v.Perm (List.range w) → p v = true → Fin g) → (∀ g : Hp, AR g 121 (pre ++ A.reverse) → Inv g → (∀ x y : Int, x ≠ 121 → g x y = h x y) → (∀ v ∈ lx n A, p (pre ++ v) = false) → CI 1 mX11_isNext [vr 103, vi zw] g G) → G 1 h
  | 0, A, pre, h, hA, hP, hpw, AA, IV, F, K => by
    have e : A = [] := List.eq_nil_of_length_eq_zero hA
    subst e
    rw [List.append_nil] at hP AA
    refine visit pre h hP AA IV (fun q => F h pre IV (fun _ _ _ => rfl) hP q) (fun q => K h ?_ IV (fun _ _ _ => rfl) (fun v hv => ?_))
    · rw [List.reverse_nil, List.append_nil]; exact AA
    · have ev : v = [] := List.mem_singleton.1 hv
      rw [ev, List.append_nil]; exact q
  | n + 1, A, pre, h, hA, hP, hpw, AA, IV, F, K => by
    have inner : ∀ (R L : List Nat) (a : Nat) (g : Hp), L ++ a :: R = A → AR g 121 (pre ++ a :: (L ++ R)) → Inv g → (∀ x y : Int, x ≠ 121 → g x y = h x y) → (∀ g2 : Hp, AR g2 121 (pre ++ A.reverse) → Inv g2 → (∀ x y : Int, x ≠ 121 → g2 x y = h x y) → (∀ v ∈ goL (lx n) L (a :: R), p (pre ++ v) = false) → CI 1 mX11_isNext [vr 103, vi zw] g2 G) → G 1 g := by
      intro R
      induction R with
      | nil =>
        intro L a g eA Ag IVg fg Kg
        have pA := hpw
        rw [← eA, List.pairwise_append] at pA
        rw [List.append_nil] at Ag
        refine blkE ew hw hI visit n L (pre ++ [a]) g ?_ ?_ pA.1 (by rw [List.append_assoc]; exact Ag) IVg (fun g2 v i1 i2 i3 i4 => F g2 v i1 (fun x y hx => by rw [i2 x y hx, fg x y hx]) i3 i4) (fun g2 q1 q2 q3 q4 => ?_)
        · rw [← eA, List.length_append, List.length_singleton] at hA; omega
        · refine List.Perm.trans ?_ hP
          rw [← eA, List.append_assoc]
          exact List.Perm.append_left pre (List.perm_append_comm (l₁ := [a]) (l₂ := L))
        · refine Kg g2 ?_ q2 (fun x y hx => by rw [q3 x y hx, fg x y hx]) (fun v hv => ?_)
          · rw [← eA, List.reverse_append]
            rw [List.append_assoc] at q1
            exact q1
          · have hv : v ∈ (lx n (L ++ [])).map (fun v => a :: v) ++ [] := hv
            rw [List.append_nil, List.append_nil] at hv
            obtain ⟨u, hu, rfl⟩ := List.mem_map.1 hv
            have := q4 u hu
            rw [List.append_assoc] at this
            exact this
      | cons a' R' ih =>
        intro L a g eA Ag IVg fg Kg
        have pA := hpw
        rw [← eA, List.pairwise_append] at pA
        obtain ⟨pL, pR, pLR⟩ := pA
        obtain ⟨pa, pR'⟩ := List.pairwise_cons.1 pR
        refine blkE ew hw hI visit n (L ++ a' :: R') (pre ++ [a]) g ?_ ?_ ?_ (by rw [List.append_assoc]; exact Ag) IVg (fun g2 v i1 i2 i3 i4 => F g2 v i1 (fun x y hx => by rw [i2 x y hx, fg x y hx]) i3 i4) (fun g2 q1 q2 q3 q4 => ?_)
        · rw [← eA] at hA
          simp only [List.length_append, List.length_cons] at hA ⊢
          omega
        · refine List.Perm.trans ?_ hP
          rw [← eA, List.append_assoc]
          exact List.Perm.append_left pre (List.perm_middle (l₁ := L) (l₂ := a' :: R') (a := a)).symm
        · rw [List.pairwise_append]
          exact ⟨pL, pR', fun x hx y hy => pLR x hx y (List.mem_cons_of_mem _ hy)⟩
        · have hlen : (pre ++ A).length = w := by rw [hP.length_eq, List.length_range]
          have e1 : pre ++ [a] ++ (L ++ a' :: R').reverse = pre ++ a :: (R'.reverse ++ a' :: L.reverse) := by simp
          rw [e1] at q1
          have haa : a < a' := pa a' (List.mem_cons_self ..)
          refine m_nextS (w := w) ew hw haa (fun y hy => pLR y (List.mem_reverse.1 hy) a (List.mem_cons_self ..)) ?_ ?_ q1 (fun g3 r1 r2 => ?_)
          · rw [← eA] at hlen
            simp only [List.length_append, List.length_cons, List.length_reverse] at hlen ⊢
            omega
          · rw [show R'.reverse ++ a' :: L.reverse = (L ++ a' :: R').reverse by simp, List.pairwise_reverse, List.pairwise_append]
            exact ⟨pL, pR', fun x hx y hy => pLR x hx y (List.mem_cons_of_mem _ hy)⟩
          · have f3 : ∀ x y : Int, x ≠ 121 → g3 x y = h x y := fun x y hx => by rw [r2 x y hx, q3 x y hx, fg x y hx]
            have e3 : pre ++ a' :: (R'.reverse ++ a :: L.reverse).reverse = pre ++ a' :: (L ++ [a] ++ R') := by simp
            rw [e3] at r1
            refine ih (L ++ [a]) a' g3 (by rw [List.append_assoc]; exact eA) r1 (hI g3 g2 r2 q2) f3 (fun g4 t1 t2 t3 t4 => Kg g4 t1 t2 t3 (fun v hv => ?_))
            have hv : v ∈ (lx n (L ++ a' :: R')).map (fun v => a :: v) ++ goL (lx n) (L ++ [a]) (a' :: R') := hv
            rcases List.mem_append.1 hv with hv | hv
            · obtain ⟨u, hu, rfl⟩ := List.mem_map.1 hv
              have := q4 u hu
              rw [List.append_assoc] at this
              exact this
            · exact t4 v hv
    cases A with
    | nil => exact absurd hA.symm (Nat.succ_ne_zero n)
    | cons a R => exact inner R [] a h rfl AA IV (fun _ _ _ => rfl) K
def isoB : List (Nat × Nat) → List (Nat × Nat) → (Nat → Nat) → Bool
  | c :: r, d :: s, f => (decide (f c.1 = d.1) && decide (f c.2 = d.2)) && isoB r s f
  | _, _, _ => true
theorem m_i48 {j1 j2 w : Nat} {f : Nat → Nat} {h : Hp} {Q : Int → Hp → Prop} (h1 : j1 < 4) (h2 : j2 < 4) (hw : w ≤ 8) (F : FA h 121 w f) : ∀ (r1 r2 p1 p2 : List (Nat × Nat)), MNt h j1 (w, p1 ++ r1) → MNt h j2 (w, p2 ++ r2) → p1.length = p2.length → r1.length = r2.length → p1.length + r1.length ≤ 40 → okL w r1 → okL w r2 → (isoB r1 r2 f = true → Q 1 h) → (isoB r1 r2 f = false → CI 1 mX11_isNext [vr 103, vi (h 104 j1)] h (fun r5 h4 => E 3 mX11_isIsomorphic 37 [(0, vr 103), (1, vi j1), (2, vi j2), (4, vi r5)] [] h4 (qi Q))) → E 3 mX11_isIsomorphic 48 [(0, vr 103), (1, vi j1), (2, vi j2), (5, vi 1), (6, vi p1.length)] [] h (qi Q)
  | [], r2, p1, p2, M1, M2, e1, e2, hl, o1, o2, hq, hk => by
    have e : h 105 j1 = ((p1 ++ []).length : Nat) := M1.2.1
    rw [List.append_nil] at e
    exact sX11_isIsomorphic_48 ⟨by omega, fun _ => ⟨fun c => absurd c (by decide), fun _ => hq (by cases r2 <;> rfl)⟩, fun c => absurd c (by omega)⟩
  | c :: r1, [], p1, p2, M1, M2, e1, e2, hl, o1, o2, hq, hk => absurd e2 (by simp)
  | c :: r1, d :: r2, p1, p2, M1, M2, e1, e2, hl, o1, o2, hq, hk => by
    have e : h 105 j1 = ((p1 ++ c :: r1).length : Nat) := M1.2.1
    rw [List.length_append, List.length_cons] at e
    rw [List.length_cons] at hl
    obtain ⟨a1, a2⟩ := Row_mid M1.2.2
    obtain ⟨b1, b2⟩ := Row_mid M2.2.2
    rw [← e1] at b1 b2
    have hc := o1 c (List.mem_cons_self ..)
    have hd := o2 d (List.mem_cons_self ..)
    have f1 := F c.1 hc.1
    have f2 := F c.2 hc.2.1
    have ei : isoB (c :: r1) (d :: r2) f = ((decide (f c.1 = d.1) && decide (f c.2 = d.2)) && isoB r1 r2 f) := rfl
    rw [ei] at hq hk
    refine sX11_isIsomorphic_48 ⟨by omega, fun c => absurd c (by omega), fun _ => ⟨fun c => absurd c (by decide), fun _ => ?_⟩⟩
    rw [a1, a2, b1, b2, f1, f2]
    refine ⟨⟨by omega, by omega, by omega, by omega, by omega, by omega, by omega, fun _ => by omega⟩, by omega, ?_⟩
    by_cases q : f c.1 = d.1 ∧ f c.2 = d.2
    · rw [if_pos (show ((f c.1 : Nat) : Int) = (d.1 : Nat) ∧ ((f c.2 : Nat) : Int) = (d.2 : Nat) from ⟨by omega, by omega⟩)]
      rw [decide_eq_true q.1, decide_eq_true q.2, Bool.true_and, Bool.true_and] at hq hk
      have := m_i48 (Q := Q) h1 h2 hw F r1 r2 (p1 ++ [c]) (p2 ++ [d]) (by rw [List.append_assoc]; exact M1) (by rw [List.append_assoc]; exact M2) (by rw [List.length_append, List.length_append, e1]; rfl) (by rw [List.length_cons, List.length_cons] at e2; omega) (by rw [List.length_append, List.length_singleton]; omega) (okL_tail o1) (okL_tail o2) hq hk
      rw [List.length_append, List.length_singleton] at this
      exact this
    · rw [if_neg (show ¬ (((f c.1 : Nat) : Int) = (d.1 : Nat) ∧ ((f c.2 : Nat) : Int) = (d.2 : Nat)) from fun z => q ⟨by omega, by omega⟩)]
      have hf : (decide (f c.1 = d.1) && decide (f c.2 = d.2)) = false := by
        rw [← Bool.decide_and]
        exact decide_eq_false q
      have k := hk (by rw [hf, Bool.false_and])
      exact sX11_isIsomorphic_48 ⟨by omega, fun _ => ⟨fun _ => ⟨by omega, k⟩, fun z => absurd rfl z⟩, fun _ => ⟨fun _ => ⟨fun _ => ⟨by omega, k⟩, fun z => absurd rfl z⟩, fun z => absurd rfl z⟩⟩
