/-! countSorted, mostExchanges -/
theorem m_bg {Q : Hp → Prop} : ∀ (m i : Nat) (h : Hp), i + m = 8 → (∀ j : Nat, j < i → h 121 j = (j : Int)) → (∀ g : Hp, (∀ j : Nat, j < 8 → g 121 j = (j : Int)) → (∀ x y : Int, x ≠ 121 → g x y = h x y) → Q g) → E 0 mX11_begins 2 [(0, vr 103), (1, vi i)] [] h (qv Q)
  | 0, i, h, hm, I, hq => sX11_begins_2 ⟨fun _ => hq h (fun j hj => I j (by omega)) (fun _ _ _ => rfl), fun c => absurd c (by omega)⟩
  | m + 1, i, h, hm, I, hq => by
    refine sX11_begins_2 ⟨fun c => absurd c (by omega), fun _ => ⟨by omega, ?_⟩⟩
    rw [show (i : Int) + 1 = ((i + 1 : Nat) : Int) by omega]
    refine m_bg m (i + 1) _ (by omega) (fun j hj => ?_) (fun g p1 p2 => hq g p1 (fun x y hx => by rw [p2 x y hx, up_no (by omega)]))
    by_cases q : j = i
    · subst q; rw [up_eq]
    · rw [up_no (by omega)]; exact I j (by omega)
theorem m_begins {h : Hp} {Q : Hp → Prop} (hq : ∀ g : Hp, (∀ j : Nat, j < 8 → g 121 j = (j : Int)) → (∀ x y : Int, x ≠ 121 → g x y = h x y) → Q g) : CV 0 mX11_begins [vr 103] h Q := sX11_begins (m_bg 8 0 h (by omega) (fun j hj => absurd hj (by omega)) hq)
theorem fac8 {w : Nat} (hw : w ≤ 8) : fac w ≤ 40320 := by
  have : ∀ w : Nat, w < 9 → fac w ≤ 40320 := by decide
  exact this w (by omega)
theorem lx_len {w : Nat} : (lx w (List.range w)).length = fac w := by
  have hp := Nat.two_pow_pos w
  have h1 := (allP_ch (w := w)).length_eq
  rw [ch_len w _ (by omega) (pop_full w (Nat.le_refl _)) (Nat.le_refl _)] at h1
  unfold allP at h1
  rw [List.length_map] at h1
  exact h1
theorem m_looks {h : Hp} {k : Nat} {N : NetT} {Q : Hp → Prop} (hk : k < 4) (hok : okN N) (M : MNt h k N) (hq : ∀ g : Hp, ST g N.1 N.2 (lx N.1 (List.range N.1)) → frL g h → Q g) : CV 2 mX11_looks [vr 103, vi k] h Q := by
  have w8 := hok.2.1
  have w2 := hok.1
  refine sX11_looks (m_begins (fun g p1 p2 => ?_))
  have fg : frL g h := fun x y hx => by rw [p2 x y (by omega), up_no (by omega), up_no (by omega), up_no (by omega), up_no (by omega)]
  refine blkP hk hok N.1 (List.range N.1) [] [] g List.length_range (List.Perm.refl _) (rng_pw N.1) (MNt_c (fun x y q1 q2 => fg x y (by omega)) M) (fun i hi => ?_) ⟨?_, ?_, ?_, ?_⟩ (by rw [lx_len]; have := fac8 w8; show 0 + _ ≤ _; omega) (fun g2 q1 q2 q3 => ?_)
  · have hi : i < (List.range N.1).length := hi
    rw [List.length_range] at hi
    rw [p1 i (by omega)]
    simp
  · rw [p2 _ _ (by omega), up_no (by omega), up_no (by omega), up_no (by omega), up_eq]; rfl
  · rw [p2 _ _ (by omega), up_no (by omega), up_no (by omega), up_eq]; rfl
  · rw [p2 _ _ (by omega), up_no (by omega), up_eq]; rfl
  · rw [p2 _ _ (by omega), up_eq]; rfl
  · rw [List.nil_append] at q1 q2
    have em : (lx N.1 (List.range N.1)).map (fun v => [] ++ v) = lx N.1 (List.range N.1) := by
      have : (fun v : List Nat => [] ++ v) = id := by funext v; rfl
      rw [this, List.map_id]
    rw [em] at q2
    have e1 : g 104 k = N.1 := by rw [fg _ _ (by omega)]; exact M.1
    refine m_nextN (w := N.1) e1 w2 w8 (by rw [List.length_reverse, List.length_range]) (List.pairwise_reverse.2 (rng_pw N.1)) q1 ?_
    exact sX11_looks_27 ⟨fun _ => hq g2 q2 (fun x y hx => by rw [q3 x y hx, fg x y hx]), fun c => absurd rfl c⟩
theorem sm_all {w : Nat} {g : (Nat → Nat) → Nat} : smL (fun v => g (fnL v)) (lx w (List.range w)) = smL g (allP w) := by
  unfold allP
  rw [smL_map]
theorem mx_all {w : Nat} {g : (Nat → Nat) → Nat} : mxL (fun v => g (fnL v)) (lx w (List.range w)) = mxL g (allP w) := by
  unfold allP
  rw [mxL_map]
theorem frL_k {g h : Hp} (f : frL g h) : ∀ x y : Int, kM0 x y → g x y = h x y := fun x y hx => f x y (by unfold kM0 at hx; omega)
theorem op_countSorted {h : Hp} {k : Int} (hR : Rl h) : OpI 3 mX10_countSorted 3 mX11_countSorted [vi k] h := by
  obtain ⟨nets, hist, H⟩ := Rl_RlN hR
  by_cases hk : 0 ≤ k ∧ k < 4
  · obtain ⟨j, hj, rfl⟩ := toN hk.1 hk.2
    obtain ⟨n1, n2, n3⟩ := H.1 j hj
    have w2 := n1.1
    have w8 := n1.2.1
    have okl : okL (nets j).1 (nets j).2 := n1.2.2.2
    refine op_keep (r := ((cN (nets j).1 (nets j).2 (nets j).1 (2 ^ (nets j).1 - 1) : Nat) : Int)) H ?_ (fun h1 ms => ?_)
    · refine sX10_countSorted ⟨fun _ => ⟨by omega, c_passAll (N := nets j) (by omega) n1 n2 (fun g S fr => ?_)⟩, fun c => absurd c (by omega)⟩
      rw [skp_no _ _ (by omega)] at S
      refine c_cwf (by omega) w8 okl S (fun g2 f2 => ⟨rfl, fun x y hx => ?_⟩)
      unfold kC0 at hx
      rw [f2 x y (by omega), fr x y (by omega)]
    · obtain ⟨m1, m2, m3, m4, e⟩ := ms
      refine sX11_countSorted ⟨fun _ => m_looks (N := nets j) hj n1 (m1 j hj).2 (fun g S fr => ⟨?_, frL_k fr⟩), fun c => absurd c (by omega)⟩
      rw [S.1, sm_all (g := fun f => if srtV (nets j).1 (nets j).2 f then 1 else 0), cnt_all (by omega) okl]
  · exact sX10_countSorted ⟨fun c => absurd c (by omega), fun _ => sX11_countSorted ⟨fun c => absurd c (by omega), fun _ => ⟨rfl, hR⟩⟩⟩
theorem op_mostExchanges {h : Hp} {k : Int} (hR : Rl h) : OpI 4 mX10_mostExchanges 3 mX11_mostExchanges [vi k] h := by
  obtain ⟨nets, hist, H⟩ := Rl_RlN hR
  by_cases hk : 0 ≤ k ∧ k < 4
  · obtain ⟨j, hj, rfl⟩ := toN hk.1 hk.2
    obtain ⟨n1, n2, n3⟩ := H.1 j hj
    have okl : okL (nets j).1 (nets j).2 := n1.2.2.2
    refine op_keep (r := ((bN (nets j).1 (nets j).2 (nets j).1 (2 ^ (nets j).1 - 1) : Nat) : Int)) H ?_ (fun h1 ms => ?_)
    · refine sX10_mostExchanges ⟨fun c => absurd c (by omega), fun _ => ⟨by omega, c_great (N := nets j) (by omega) (by omega) n1 n2 (fun g fr => ⟨rfl, fun x y hx => fr x y (by unfold kC0 at hx; omega)⟩)⟩⟩
    · obtain ⟨m1, m2, m3, m4, e⟩ := ms
      refine sX11_mostExchanges ⟨fun _ => m_looks (N := nets j) hj n1 (m1 j hj).2 (fun g S fr => ⟨?_, frL_k fr⟩), fun c => absurd c (by omega)⟩
      rw [S.2.2.1, mx_all (g := xcN (nets j).2), max_all okl n1.2.2.1]
  · exact sX10_mostExchanges ⟨fun _ => sX11_mostExchanges ⟨fun c => absurd c (by omega), fun _ => ⟨rfl, hR⟩⟩, fun c => absurd c (by omega)⟩
