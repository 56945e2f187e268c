/-! what the reference keeps over all permutations -/
def cdF (f : Nat → Nat) : Nat → Nat
  | 0 => 0
  | i + 1 => 10 * cdF f i + f i
theorem cdF_lt {f : Nat → Nat} : ∀ i : Nat, (∀ j : Nat, j < i → f j ≤ 9) → cdF f i < 10 ^ i
  | 0, _ => by show 0 < 10 ^ 0; decide
  | i + 1, h => by
    have := cdF_lt i (fun j hj => h j (by omega))
    have := h i (by omega)
    show 10 * cdF f i + f i < 10 ^ (i + 1)
    rw [Nat.pow_succ]; omega
theorem pow10 {i : Nat} (hi : i ≤ 8) : 10 ^ i ≤ 100000000 := (Nat.pow_le_pow_right (by decide) hi : 10 ^ i ≤ 10 ^ 8)
def soFar (g : Nat → Nat) (i : Nat) : Bool := decide (∀ j : Nat, j < i → g j = j)
theorem m_46 {k w : Nat} {f g0 : Nat → Nat} {z3 : Int} {h : Hp} {Q : Hp → Prop} (hk : k < 4) (hw : w ≤ 8) (ew : h 104 k = w) (F : FA h 121 w f) (G : FA h 122 w g0) (hf : ∀ i : Nat, i < w → f i < w) (hq : E 2 mX11_looks 100 [(0, vr 103), (1, vi k), (3, vi z3), (4, vi (if soFar g0 w then 1 else 0)), (5, vi (cdF f w : Nat))] [] h (qv Q)) : ∀ (m i : Nat) (z4 z5 : Int), i + m = w → z4 = (if soFar g0 i then 1 else 0) → z5 = (cdF f i : Nat) → E 2 mX11_looks 46 [(0, vr 103), (1, vi k), (3, vi z3), (4, vi z4), (5, vi z5), (6, vi i)] [] h (qv Q)
  | 0, i, z4, z5, hm, e4, e5 => by
    have ei : i = w := by omega
    subst ei
    rw [e4, e5]
    exact sX11_looks_46 ⟨by omega, fun _ => hq, fun c => absurd c (by omega)⟩
  | m + 1, i, z4, z5, hm, e4, e5 => by
    have fi := hf i (by omega)
    have cl := cdF_lt (f := f) i (fun j hj => by have := hf j (by omega); omega)
    have p10 := pow10 (i := i) (by omega)
    have v1 := F i (by omega)
    have v2 := G i (by omega)
    refine sX11_looks_46 ⟨by omega, fun c => absurd c (by omega), fun _ => ⟨by omega, fun x5 hx5 => ⟨⟨by omega, by omega, by omega, by omega⟩, ?_⟩⟩⟩
    rw [v1, show (i : Int) + 1 = ((i + 1 : Nat) : Int) by omega]
    refine m_46 hk hw ew F G hf hq m (i + 1) _ _ (by omega) ?_ ?_
    · rw [hx5, e4, v2]
      have st : soFar g0 (i + 1) = (soFar g0 i && decide (g0 i = i)) := by
        unfold soFar
        rw [← Bool.decide_and]
        congr 1
        apply propext
        constructor
        · intro h; exact ⟨fun j hj => h j (by omega), h i (by omega)⟩
        · rintro ⟨h1, h2⟩ j hj
          by_cases q : j = i
          · rw [q]; exact h2
          · exact h1 j (by omega)
      rw [st]
      by_cases q : g0 i = i
      · rw [if_pos (show ((g0 i : Nat) : Int) = i by omega), decide_eq_true q, Bool.and_true]
        cases soFar g0 i <;> decide +kernel
      · rw [if_neg (show ¬ ((g0 i : Nat) : Int) = i by omega), decide_eq_false q, Bool.and_false]
        cases soFar g0 i <;> decide +kernel
    · show _ = ((10 * cdF f i + f i : Nat) : Int)
      omega
/-- the code of the first permutation that comes out unsorted -/
def fbL (w : Nat) (cs : List (Nat × Nat)) : List (List Nat) → Int
  | [] => -4
  | v :: r => if srtV w cs (fnL v) then fbL w cs r else (cdF (fnL v) w : Nat)
def ST (h : Hp) (w : Nat) (cs : List (Nat × Nat)) (D : List (List Nat)) : Prop := h 103 25 = ((smL (fun v => if srtV w cs (fnL v) then 1 else 0) D : Nat) : Int) ∧ h 103 26 = fbL w cs D ∧ h 103 27 = ((mxL (fun v => xcN cs (fnL v)) D : Nat) : Int) ∧ h 103 28 = ((smL (fun v => xcN cs (fnL v)) D : Nat) : Int)
theorem fbL_app {w : Nat} {cs : List (Nat × Nat)} {v : List Nat} : ∀ D : List (List Nat), fbL w cs (D ++ [v]) = if srtV w cs (fnL v) then fbL w cs D else if fbL w cs D ≠ -4 then fbL w cs D else ((cdF (fnL v) w : Nat) : Int)
  | [] => by
    show (if srtV w cs (fnL v) then (-4 : Int) else ((cdF (fnL v) w : Nat) : Int)) = if srtV w cs (fnL v) then (-4 : Int) else if (-4 : Int) ≠ -4 then (-4 : Int) else ((cdF (fnL v) w : Nat) : Int)
    split
    · rfl
    · rw [if_neg (by decide)]
  | u :: D => by
    have ih := fbL_app (w := w) (cs := cs) (v := v) D
    show (if srtV w cs (fnL u) then fbL w cs (D ++ [v]) else ((cdF (fnL u) w : Nat) : Int)) = if srtV w cs (fnL v) then (if srtV w cs (fnL u) then fbL w cs D else ((cdF (fnL u) w : Nat) : Int)) else if (if srtV w cs (fnL u) then fbL w cs D else ((cdF (fnL u) w : Nat) : Int)) ≠ -4 then (if srtV w cs (fnL u) then fbL w cs D else ((cdF (fnL u) w : Nat) : Int)) else ((cdF (fnL v) w : Nat) : Int)
    by_cases q : srtV w cs (fnL u) = true
    · rw [if_pos q, if_pos q, ih]
    · rw [if_neg q, if_neg q]
      split
      · rfl
      · rw [if_pos (by omega)]
theorem xcN_le : ∀ (cs : List (Nat × Nat)) (f : Nat → Nat), xcN cs f ≤ cs.length
  | [], _ => Nat.le_refl _
  | c :: r, f => by
    have := xcN_le r (swN f c)
    show (if f c.2 < f c.1 then 1 else 0) + xcN r (swN f c) ≤ r.length + 1
    split <;> omega
theorem smL_le {α : Type} {g : α → Nat} {k : Nat} : ∀ L : List α, (∀ a ∈ L, g a ≤ k) → smL g L ≤ k * L.length
  | [], _ => Nat.zero_le _
  | a :: L, h => by
    have := smL_le L (fun b hb => h b (List.mem_cons_of_mem _ hb))
    have := h a (List.mem_cons_self ..)
    show g a + smL g L ≤ k * (L.length + 1)
    rw [Nat.mul_add]; omega
theorem mxL_le {α : Type} {g : α → Nat} {k : Nat} : ∀ L : List α, (∀ a ∈ L, g a ≤ k) → mxL g L ≤ k
  | [], _ => Nat.zero_le _
  | a :: L, h => by
    have := mxL_le L (fun b hb => h b (List.mem_cons_of_mem _ hb))
    have := h a (List.mem_cons_self ..)
    show max (g a) (mxL g L) ≤ k
    omega
def frL (g h : Hp) : Prop := ∀ x y : Int, ¬ (x = 121 ∨ x = 122 ∨ (x = 103 ∧ 25 ≤ y ∧ y ≤ 28)) → g x y = h x y
theorem AR_FA {h : Hp} {w : Nat} {v : List Nat} (hl : v.length = w) (A : AR h 121 v) : FA h 121 w (fnL v) := fun i hi => by
  rw [fnL_in (by omega)]
  exact A i (by omega)
/-- one permutation -/
theorem m_one1 {h : Hp} {k : Nat} {N : NetT} {v : List Nat} {D : List (List Nat)} {Q : Hp → Prop} (hk : k < 4) (hok : okN N) (M : MNt h k N) (hv : v.Perm (List.range N.1)) (A : AR h 121 v) (S : ST h N.1 N.2 D) (hD : D.length < 40320) (K : ∀ g : Hp, AR g 121 v → ST g N.1 N.2 (D ++ [v]) → frL g h → CI 1 mX11_isNext [vr 103, vi (h 104 k)] g (fun r6 h5 => E 2 mX11_looks 27 [(0, vr 103), (1, vi k), (2, vi r6)] [] h5 (qv Q))) : E 2 mX11_looks 27 [(0, vr 103), (1, vi k), (2, vi 1)] [] h (qv Q) := by
  have w8 := hok.2.1
  have l40 := hok.2.2.1
  have hl : v.length = N.1 := by rw [hv.length_eq, List.length_range]
  have isp := fnL_P hv
  obtain ⟨s1, s2, s3, s4⟩ := S
  refine sX11_looks_27 ⟨fun c => absurd c (by decide), fun _ => m_carries hk hok M (AR_FA hl A) (fun g p1 p2 => ?_)⟩
  have ew : g 104 k = N.1 := by rw [p2 _ _ (by omega)]; exact M.1
  refine m_46 hk w8 ew (fun i hi => by rw [p2 _ _ (by omega)]; exact AR_FA hl A i hi) p1 isp.1 ?_ N.1 0 1 0 (by omega) ?_ rfl
  · refine sX11_looks_100 ?_
    have es : soFar (rnF N.2 (fnL v)) N.1 = srtV N.1 N.2 (fnL v) := rfl
    rw [es]
    have x1 := xcN_le N.2 (fnL v)
    have t25 : g 103 25 = _ := (p2 103 25 (by omega)).trans s1
    have t26 : g 103 26 = _ := (p2 103 26 (by omega)).trans s2
    have t27 : g 103 27 = _ := (p2 103 27 (by omega)).trans s3
    have t28 : g 103 28 = _ := (p2 103 28 (by omega)).trans s4
    have b1 : smL (fun v => if srtV N.1 N.2 (fnL v) then 1 else 0) D ≤ 1 * D.length := smL_le D (fun a _ => by show (if _ then 1 else 0) ≤ 1; split <;> omega)
    have b2 : smL (fun v => xcN N.2 (fnL v)) D ≤ 40 * D.length := smL_le D (fun a _ => by have := xcN_le N.2 (fnL a); show xcN N.2 (fnL a) ≤ 40; omega)
    have ind : (if (if srtV N.1 N.2 (fnL v) = true then (1 : Int) else 0) ≠ 0 then (1 : Int) else 0) = ((if srtV N.1 N.2 (fnL v) then 1 else 0 : Nat) : Int) := by
      cases srtV N.1 N.2 (fnL v) <;> rfl
    have indle : (if srtV N.1 N.2 (fnL v) then 1 else 0 : Nat) ≤ 1 := by split <;> omega
    rw [ind, t25, t26, t27, t28, laddN (by omega)]
    refine ⟨by omega, by omega, ?_⟩
    rw [show g 104 k = h 104 k from p2 _ _ (by omega)]
    refine K _ (fun i hi => ?_) ⟨?_, ?_, ?_, ?_⟩ (fun x y hx => ?_)
    · rw [up_no (by omega), up_no (by omega), up_no (by omega), up_no (by omega), p2 _ _ (by omega)]; exact A i hi
    · rw [up_no (by omega), up_no (by omega), up_no (by omega), up_eq, smL_app]
      show _ = ((smL (fun v => if srtV N.1 N.2 (fnL v) then 1 else 0) D + ((if srtV N.1 N.2 (fnL v) then 1 else 0) + 0) : Nat) : Int)
      omega
    · rw [up_no (by omega), up_no (by omega), up_eq, fbL_app]
      cases srtV N.1 N.2 (fnL v) with
      | true => rfl
      | false => rfl
    · rw [up_eq, mxL_app]
      show _ = ((max (mxL (fun v => xcN N.2 (fnL v)) D) (max (xcN N.2 (fnL v)) 0) : Nat) : Int)
      split <;> omega
    · rw [up_no (by omega), up_eq, smL_app]
      show _ = ((smL (fun v => xcN N.2 (fnL v)) D + (xcN N.2 (fnL v) + 0) : Nat) : Int)
      omega
    · rw [up_no (by omega), up_no (by omega), up_no (by omega), up_no (by omega), p2 x y (by omega)]
  · have : soFar (rnF N.2 (fnL v)) 0 = true := decide_eq_true (fun j hj => absurd hj (by omega))
    rw [this]; rfl
theorem blkP {k : Nat} {N : NetT} {Q : Hp → Prop} (hk : k < 4) (hok : okN N) : ∀ (n : Nat) (A pre : List Nat) (D : List (List Nat)) (h : Hp), A.length = n → (pre ++ A).Perm (List.range N.1) → A.Pairwise (· < ·) → MNt h k N → AR h 121 (pre ++ A) → ST h N.1 N.2 D → D.length + (lx n A).length ≤ 40320 → (∀ g : Hp, AR g 121 (pre ++ A.reverse) → ST g N.1 N.2 (D ++ (lx n A).map (fun v => pre ++ v)) → frL g h → CI 1 mX11_isNext [vr 103, vi (h 104 k)] g (fun r6 h5 => E 2 mX11_looks 27 [(0, vr 103), (1, vi k), (2, vi r6)] [] h5 (qv Q))) → E 2 mX11_looks 27 [(0, vr 103), (1, vi k), (2, vi 1)] [] h (qv Q)
  | 0, A, pre, D, h, hA, hP, hpw, M, AA, S, hD, K => by
    have e : A = [] := List.eq_nil_of_length_eq_zero hA
    subst e
    rw [List.append_nil] at hP AA
    have hD : D.length + 1 ≤ 40320 := hD
    refine m_one1 hk hok M hP AA S (by omega) (fun g p1 p2 p3 => K g ?_ ?_ p3)
    · rw [List.reverse_nil, List.append_nil]; exact p1
    · show ST g N.1 N.2 (D ++ [pre ++ []])
      rw [List.append_nil]; exact p2
  | n + 1, A, pre, D, h, hA, hP, hpw, M, AA, S, hD, K => by
    have w8 := hok.2.1
    have inner : ∀ (R L : List Nat) (a : Nat) (D' : List (List Nat)) (g : Hp), L ++ a :: R = A → MNt g k N → AR g 121 (pre ++ a :: (L ++ R)) → ST g N.1 N.2 D' → D'.length + (goL (lx n) L (a :: R)).length ≤ 40320 → frL g h → (∀ g2 : Hp, AR g2 121 (pre ++ A.reverse) → ST g2 N.1 N.2 (D' ++ (goL (lx n) L (a :: R)).map (fun v => pre ++ v)) → frL g2 h → CI 1 mX11_isNext [vr 103, vi (h 104 k)] g2 (fun r6 h5 => E 2 mX11_looks 27 [(0, vr 103), (1, vi k), (2, vi r6)] [] h5 (qv Q))) → E 2 mX11_looks 27 [(0, vr 103), (1, vi k), (2, vi 1)] [] g (qv Q) := by
      intro R
      induction R with
      | nil =>
        intro L a D' g eA Mg Ag Sg hD' fg Kg
        have pA := hpw
        rw [← eA, List.pairwise_append] at pA
        have eg : goL (lx n) L [a] = (lx n (L ++ [])).map (fun v => a :: v) ++ [] := rfl
        rw [eg, List.append_nil, List.append_nil, List.length_map] at hD'
        rw [eg, List.append_nil, List.append_nil, List.map_map] at Kg
        rw [List.append_nil] at Ag
        refine blkP hk hok n L (pre ++ [a]) D' g ?_ ?_ pA.1 Mg (by rw [List.append_assoc]; exact Ag) Sg hD' (fun g2 q1 q2 q3 => ?_)
        · rw [← eA, List.length_append, List.length_singleton] at hA; omega
        · refine List.Perm.trans ?_ hP
          rw [← eA, List.append_assoc]
          exact List.Perm.append_left pre (List.perm_append_comm (l₁ := [a]) (l₂ := L))
        · rw [fg 104 k (by omega)]
          refine Kg g2 ?_ ?_ (fun x y hx => by rw [q3 x y hx, fg x y hx])
          · rw [← eA, List.reverse_append]
            rw [List.append_assoc] at q1
            exact q1
          · have e2 : (lx n L).map ((fun v => pre ++ v) ∘ (fun v => a :: v)) = (lx n L).map (fun v => pre ++ [a] ++ v) := by
              refine List.map_congr_left (fun v _ => ?_)
              show pre ++ a :: v = pre ++ [a] ++ v
              simp
            rw [e2]; exact q2
      | cons a' R' ih =>
        intro L a D' g eA Mg Ag Sg hD' fg Kg
        have pA := hpw
        rw [← eA, List.pairwise_append] at pA
        obtain ⟨pL, pR, pLR⟩ := pA
        obtain ⟨pa, pR'⟩ := List.pairwise_cons.1 pR
        obtain ⟨pa', pR''⟩ := List.pairwise_cons.1 pR'
        have eg : goL (lx n) L (a :: a' :: R') = (lx n (L ++ a' :: R')).map (fun v => a :: v) ++ goL (lx n) (L ++ [a]) (a' :: R') := rfl
        rw [eg, List.length_append, List.length_map] at hD'
        rw [eg, List.map_append, List.map_map] at Kg
        refine blkP hk hok n (L ++ a' :: R') (pre ++ [a]) D' g ?_ ?_ ?_ Mg (by rw [List.append_assoc]; exact Ag) Sg (by omega) (fun g2 q1 q2 q3 => ?_)
        · rw [← eA] at hA
          simp only [List.length_append, List.length_cons] at hA ⊢
          omega
        · refine List.Perm.trans ?_ hP
          rw [← eA, List.append_assoc]
          exact List.Perm.append_left pre (List.perm_middle (l₁ := L) (l₂ := a' :: R') (a := a)).symm
        · rw [List.pairwise_append]
          exact ⟨pL, pR', fun x hx y hy => pLR x hx y (List.mem_cons_of_mem _ hy)⟩
        · have hlen : (pre ++ A).length = N.1 := by rw [hP.length_eq, List.length_range]
          have e1 : pre ++ [a] ++ (L ++ a' :: R').reverse = pre ++ a :: (R'.reverse ++ a' :: L.reverse) := by simp
          rw [e1] at q1
          have e2 : (lx n (L ++ a' :: R')).map ((fun v => pre ++ v) ∘ (fun v => a :: v)) = (lx n (L ++ a' :: R')).map (fun v => pre ++ [a] ++ v) := by
            refine List.map_congr_left (fun v _ => ?_)
            show pre ++ a :: v = pre ++ [a] ++ v
            simp
          have haa : a < a' := pa a' (List.mem_cons_self ..)
          refine m_nextS (w := N.1) Mg.1 w8 haa (fun y hy => pLR y (List.mem_reverse.1 hy) a (List.mem_cons_self ..)) ?_ ?_ q1 (fun g3 r1 r2 => ?_)
          · rw [← eA] at hlen
            simp only [List.length_append, List.length_cons, List.length_reverse] at hlen ⊢
            omega
          · rw [show R'.reverse ++ a' :: L.reverse = (L ++ a' :: R').reverse by simp, List.pairwise_reverse, List.pairwise_append]
            exact ⟨pL, pR', fun x hx y hy => pLR x hx y (List.mem_cons_of_mem _ hy)⟩
          · have f3 : frL g3 h := fun x y hx => by rw [r2 x y (by omega), q3 x y hx, fg x y hx]
            have e3 : pre ++ a' :: (R'.reverse ++ a :: L.reverse).reverse = pre ++ a' :: (L ++ [a] ++ R') := by simp
            rw [e3] at r1
            refine ih (L ++ [a]) a' (D' ++ (lx n (L ++ a' :: R')).map (fun v => pre ++ [a] ++ v)) g3 (by rw [List.append_assoc]; exact eA) (MNt_c (fun x y p1 p2 => by rw [r2 x y (by omega), q3 x y (by omega)]) Mg) r1 ?_ ?_ f3 (fun g4 t1 t2 t3 => Kg g4 t1 ?_ t3)
            · exact ⟨by rw [r2 _ _ (by omega)]; exact q2.1, by rw [r2 _ _ (by omega)]; exact q2.2.1, by rw [r2 _ _ (by omega)]; exact q2.2.2.1, by rw [r2 _ _ (by omega)]; exact q2.2.2.2⟩
            · rw [List.length_append, List.length_map]; omega
            · rw [e2, ← List.append_assoc]; exact t2
    cases A with
    | nil => exact absurd hA.symm (Nat.succ_ne_zero n)
    | cons a R =>
      exact inner R [] a D h rfl M AA S hD (fun _ _ _ => rfl) K
