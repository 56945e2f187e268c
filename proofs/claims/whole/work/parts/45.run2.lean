theorem runM_loop {k w : Nat} {Q : Int → Hp → Prop} (hk : k < 4) (hw : w ≤ 8) : ∀ (rest pre : List (Nat × Nat)) (v o : Int → Int) (n : Nat) (h : Hp), MNt h k (w, pre ++ rest) → Vo h 109 110 w v o → okL w rest → pre.length + rest.length ≤ 40 → n ≤ pre.length → (∀ g, Vo g 109 110 w (runV rest v o).1 (runV rest v o).2 → (∀ x y, ¬ (x = 109 ∨ x = 110) → g x y = h x y) → Q ((n + runC rest v : Nat)) g) → E 2 mX11_run 58 [(0, vr 103), (1, vi k), (2, vi n), (3, vi pre.length)] [] h (qi Q)
  | [], pre, v, o, n, h, A, V, hok, hl, hn, hq => by
    have e : h 105 k = ((pre ++ []).length : Nat) := A.2.1
    rw [List.append_nil] at e
    exact sX11_run_58 ⟨by omega, fun _ => hq h V (fun _ _ _ => rfl), fun c => absurd c (by omega)⟩
  | c :: r, pre, v, o, n, h, A, V, hok, hl, hn, hq => by
    have e : h 105 k = ((pre ++ c :: r).length : Nat) := A.2.1
    rw [List.length_append, List.length_cons] at e
    rw [List.length_cons] at hl
    obtain ⟨b1, b2⟩ := Row_mid A.2.2
    have hc := hok c (List.mem_cons_self ..)
    obtain ⟨v1, o1⟩ := V c.1 (by omega) (by omega)
    obtain ⟨v2, o2⟩ := V c.2 (by omega) (by omega)
    refine sX11_run_58 ⟨by omega, fun c => absurd c (by omega), fun _ => ?_⟩
    rw [b1, b2, v1, v2, o1, o2]
    refine ⟨by omega, fun c1 => ⟨by omega, fun x5 hx5 => ⟨by omega, fun x7 hx7 => ⟨by omega, ?_⟩⟩⟩, fun c1 => ⟨by omega, ?_⟩⟩
    · subst hx5
      subst hx7
      have fr : ∀ x y, ¬ (x = 109 ∨ x = 110) → up (up (up (up h 109 c.1 (v c.2)) 110 c.1 (o c.2)) 109 c.2 (v c.1)) 110 c.2 (o c.1) x y = h x y := fun x y hx => by rw [up_no (by omega), up_no (by omega), up_no (by omega), up_no (by omega)]
      have := runM_loop (Q := Q) hk hw r (pre ++ [c]) (swf v c.1 c.2) (swf o c.1 c.2) (n + 1) (up (up (up (up h 109 c.1 (v c.2)) 110 c.1 (o c.2)) 109 c.2 (v c.1)) 110 c.2 (o c.1)) (by rw [List.append_assoc]; exact MNt_c (fun x y p1 p2 => fr x y (by omega)) A) (fun i h0 h1 => ?_) (okL_tail hok) (by rw [List.length_append, List.length_singleton]; omega) (by rw [List.length_append, List.length_singleton]; omega) (fun g q1 q2 => ?_)
      · rw [List.length_append, List.length_singleton] at this
        exact this
      · have := V i h0 h1
        unfold swf
        grind [up]
      · have := hq g (by unfold runV; rw [if_pos c1]; exact q1) (fun x y hx => by rw [q2 x y hx, fr x y hx])
        unfold runC at this
        rw [if_pos c1] at this
        rw [show n + 1 + runC r (swf v c.1 c.2) = n + (runC r (swf v c.1 c.2) + 1) by omega]
        exact this
    · have := runM_loop (Q := Q) hk hw r (pre ++ [c]) v o n h (by rw [List.append_assoc]; exact A) V (okL_tail hok) (by rw [List.length_append, List.length_singleton]; omega) (by rw [List.length_append]; omega) (fun g q1 q2 => ?_)
      · rw [List.length_append, List.length_singleton] at this
        exact this
      · have := hq g (by unfold runV; rw [if_neg (by omega)]; exact q1) q2
        unfold runC at this
        rw [if_neg (by omega)] at this
        exact this
theorem runM_ini {h : Hp} {k : Int} {w : Nat} {Q : Int → Hp → Prop} (hw : w ≤ 8) (h1 : h 103 7 = w) (kk : E 2 mX11_run 58 [(0, vr 103), (1, vi k), (2, vi 0), (3, vi 0)] [] (ini h 108 109 110 w) (qi Q)) : ∀ (m j : Nat), j ≤ w → m = w - j → E 2 mX11_run 21 [(0, vr 103), (1, vi k), (2, vi j)] [] (ini h 108 109 110 j) (qi Q)
  | 0, j, h2, h3 => by
    have e : j = w := by omega
    subst e
    have e1 : ini h 108 109 110 j 103 7 = j := by unfold ini; rw [if_neg (by omega), if_neg (by omega)]; exact h1
    exact sX11_run_21 ⟨fun _ => kk, fun c => absurd c (by omega)⟩
  | m + 1, j, h2, h3 => by
    have e1 : ini h 108 109 110 j 103 7 = w := by unfold ini; rw [if_neg (by omega), if_neg (by omega)]; exact h1
    refine sX11_run_21 ⟨fun c => absurd c (by omega), fun _ => ⟨by omega, ?_⟩⟩
    rw [ini_step (by omega) (by omega) (by omega) (by omega)]
    exact runM_ini hw h1 kk m (j + 1) (by omega) (by omega)
theorem m_run {h : Hp} {k : Nat} {N : NetT} {v : Int → Int} {Q : Int → Hp → Prop} (hk : k < 4) (hok : okN N) (A : MNt h k N) (hv : ∀ i, 0 ≤ i → i < 8 → h 108 i = v i) (hq : ∀ g, Vo g 109 110 N.1 (runV N.2 v (fun i => i)).1 (runV N.2 v (fun i => i)).2 → g 103 7 = N.1 → (∀ x y, ¬ (x = 109 ∨ x = 110 ∨ (x = 103 ∧ y = 7)) → g x y = h x y) → Q ((0 + runC N.2 v : Nat)) g) : CI 2 mX11_run [vr 103, vi k] h Q := by
  refine sX11_run ⟨fun _ => ⟨by omega, ?_⟩, fun c => absurd c (by omega)⟩
  rw [A.1]
  have w8 := hok.2.1
  have fr : ∀ x y, ¬ (x = 109 ∨ x = 110 ∨ (x = 103 ∧ y = 7)) → ini (up h 103 7 N.1) 108 109 110 N.1 x y = h x y := fun x y hx => by unfold ini; rw [if_neg (by omega), if_neg (by omega), up_no (by omega)]
  have := runM_ini (h := up h 103 7 N.1) (k := k) (w := N.1) (Q := Q) w8 (by rw [up_eq]) ?_ N.1 0 (by omega) (by omega)
  · rw [show ((0 : Nat) : Int) = 0 by rfl, ini_0] at this; exact this
  · refine runM_loop (w := N.1) hk w8 N.2 [] v (fun i => i) 0 _ (MNt_c (fun x y p1 p2 => fr x y (by omega)) A) (fun i h0 h1 => ?_) hok.2.2.2 (by have := hok.2.2.1; show 0 + _ ≤ 40; omega) (by omega) (fun g q1 q2 => hq g q1 ?_ (fun x y hx => by rw [q2 x y (by omega), fr x y hx]))
    · unfold ini
      rw [if_pos (by omega), if_neg (by omega), if_pos (by omega), up_no (by omega)]
      exact ⟨hv i h0 (by omega), rfl⟩
    · rw [q2 _ _ (by omega)]; unfold ini; rw [if_neg (by omega), if_neg (by omega), up_eq]
theorem op_run {h : Hp} {k : Int} (hR : Rl h) : OpI 2 mX10_run 2 mX11_run [vi k] h := by
  obtain ⟨nets, hist, H⟩ := Rl_RlN hR
  obtain ⟨hN, hC, hM, hT, hK, hTr, hS⟩ := id H
  by_cases hk : 0 ≤ k ∧ k < 4
  · obtain ⟨j, hj, rfl⟩ := toN hk.1 hk.2
    obtain ⟨n1, n2, n3⟩ := hN j hj
    refine sX10_run ⟨fun c => absurd c (by omega), fun _ => ⟨by omega, c_perform (N := nets j) (by omega) n1 n2 (fun g q1 q2 q3 q4 => ?_)⟩⟩
    refine m_run (N := nets j) (v := h 75) hj n1 (MNt_c (fun x y p1 p2 => q4 x y (by omega)) n3) (fun i h0 h1 => by rw [q4 _ _ (by omega)]; exact (hK i h0 h1).1) (fun g2 r1 r2 r3 => ⟨rfl, ?_⟩)
    have bo : ∀ x y, ¬ (76 ≤ x ∧ x ≤ 78) → ¬ (x = 109 ∨ x = 110 ∨ (x = 103 ∧ y = 7)) → g2 x y = h x y := fun x y p1 p2 => by rw [r3 x y p2, q4 x y p1]
    refine ⟨RNH_c (fun x y q => ?_) hR.1, Txt_c (fun x y q => ?_) hT, Key_c (fun x y q => ?_) hK, Or.inr ⟨?_, ?_, ?_, ?_, fun i h0 h1 => ?_⟩, Shl_c (fun x y q => ?_) hS⟩
    · unfold aN at q; exact bo x y (by omega) (by omega)
    · unfold aT at q; exact bo x y (by omega) (by omega)
    · unfold aK at q; exact bo x y (by omega) (by omega)
    · rw [r3 76 0 (by omega)]; exact q2
    · rw [r3 76 1 (by omega), q3]; exact r2
    · rw [r3 76 1 (by omega), q3]; have := n1.1; omega
    · rw [r3 76 1 (by omega), q3]; have := n1.2.1; omega
    · rw [r3 76 1 (by omega), q3] at h1
      rw [(r1 i h0 h1).1, (r1 i h0 h1).2, r3 77 i (by omega), r3 78 i (by omega), (q1 i h0 h1).1, (q1 i h0 h1).2]
      exact ⟨rfl, rfl⟩
    · unfold aS at q; exact bo x y (by omega) (by omega)
  · exact sX10_run ⟨fun c => sX11_run ⟨fun c => absurd c (by omega), fun _ => ⟨rfl, hR⟩⟩, fun c => absurd c (by omega)⟩
