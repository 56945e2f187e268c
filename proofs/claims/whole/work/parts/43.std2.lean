/-- the frame of a reference-side change of network k's row -/
def oM (k : Nat) (x y : Int) : Prop := ¬ ((x = 106 ∨ x = 107) ∧ 40 * (k : Int) ≤ y ∧ y < 40 * k + 40)
theorem sw_m {a b v : Nat} : (if (v : Int) ≠ a then (if (v : Int) ≠ b then (v : Int) else a) else b) = (sw a b v : Int) := by
  unfold sw
  grind
theorem std_in {k w f t n : Nat} {l3 : Int} {Q : Int → Hp → Prop} (hk : k < 4) (h3 : rj (l3 + 1)) : ∀ (r : List (Nat × Nat)) (pre : List (Nat × Nat)) (h : Hp), MNt h k (w, pre ++ r) → pre.length + r.length ≤ 40 → (∀ g, MNt g k (w, pre ++ r.map (sw2 f t)) → (∀ x y, oM k x y → g x y = h x y) → E 2 mX11_standardize 20 [(0, vr 103), (1, vi k), (2, vi n), (3, vi (l3 + 1))] [] g (qi Q)) → E 2 mX11_standardize 85 [(0, vr 103), (1, vi k), (2, vi n), (3, vi l3), (4, vi f), (5, vi t), (6, vi (40 * k + pre.length))] [] h (qi Q)
  | [], pre, h, A, hl, hq => by
    have e : h 105 k = ((pre ++ []).length : Nat) := A.2.1
    rw [List.append_nil] at e
    rw [List.length_nil] at hl
    exact sX11_standardize_85 ⟨by omega, fun _ => ⟨h3, hq h A (fun _ _ _ => rfl)⟩, fun c => absurd c (by omega)⟩
  | c :: r, pre, h, A, hl, hq => by
    have e : h 105 k = ((pre ++ c :: r).length : Nat) := A.2.1
    rw [List.length_append, List.length_cons] at e
    rw [List.length_cons] at hl
    obtain ⟨b1, b2⟩ := Row_mid A.2.2
    refine sX11_standardize_85 ⟨by omega, fun c => absurd c (by omega), fun _ => ⟨by omega, by omega, by omega, ?_⟩⟩
    rw [b1, b2, sw_m, sw_m]
    have fr : ∀ x y, oM k x y → up (up h 106 (40 * k + pre.length) (sw f t c.1)) 107 (40 * k + pre.length) (sw f t c.2) x y = h x y := fun x y hx => by unfold oM at hx; rw [up_no (by omega), up_no (by omega)]
    have := std_in (w := w) (f := f) (t := t) (n := n) (Q := Q) hk h3 r (pre ++ [sw2 f t c]) (up (up h 106 (40 * k + pre.length) (sw f t c.1)) 107 (40 * k + pre.length) (sw f t c.2)) ⟨?_, ?_, ?_⟩ (by rw [List.length_append, List.length_singleton]; omega) (fun g q1 q2 => hq g ?_ (fun x y hx => by rw [q2 x y hx, fr x y hx]))
    · rw [List.length_append, List.length_singleton, show (40 * (k : Int) + ((pre.length + 1 : Nat) : Int)) = 40 * k + pre.length + 1 by omega] at this
      exact this
    · rw [up_no (by omega), up_no (by omega)]; exact A.1
    · rw [up_no (by omega), up_no (by omega), e]
      show _ = (((pre ++ [sw2 f t c]) ++ r).length : Int)
      rw [List.length_append, List.length_append, List.length_singleton]; omega
    · show Row _ _ _ _ ((pre ++ [sw2 f t c]) ++ r)
      rw [List.append_assoc]
      exact Row_put (d := sw2 f t c) A.2.2 (fun y hy => ⟨by rw [up_no (by omega), up_no (by omega)], by rw [up_no (by omega), up_no (by omega)]⟩) ⟨by rw [up_no (by omega), up_eq]; rfl, by rw [up_eq]; rfl⟩
    · rw [List.append_assoc] at q1; exact q1
theorem std_out {k w : Nat} {Q : Int → Hp → Prop} (hk : k < 4) : ∀ (m : Nat) (rest pre : List (Nat × Nat)) (n : Nat) (h : Hp), rest.length = m → MNt h k (w, pre ++ rest) → pre.length + rest.length ≤ 40 → n ≤ pre.length → okL w rest → (∀ g, MNt g k (w, pre ++ stdL m rest) → (∀ x y, oM k x y → g x y = h x y) → Q ((n + stdC m rest : Nat)) g) → E 2 mX11_standardize 20 [(0, vr 103), (1, vi k), (2, vi n), (3, vi (40 * k + pre.length))] [] h (qi Q)
  | 0, rest, pre, n, h, hm, A, hl, hn, hok, hq => by
    have z : rest = [] := List.length_eq_zero_iff.1 hm
    subst z
    have e : h 105 k = ((pre ++ []).length : Nat) := A.2.1
    rw [List.append_nil] at e
    rw [List.length_nil] at hl
    exact sX11_standardize_20 ⟨by omega, fun _ => hq h A (fun _ _ _ => rfl), fun c => absurd c (by omega)⟩
  | m + 1, [], pre, n, h, hm, A, hl, hn, hok, hq => absurd hm (by simp)
  | m + 1, c :: r, pre, n, h, hm, A, hl, hn, hok, hq => by
    have e : h 105 k = ((pre ++ c :: r).length : Nat) := A.2.1
    rw [List.length_append, List.length_cons] at e
    rw [List.length_cons] at hl hm
    obtain ⟨b1, b2⟩ := Row_mid A.2.2
    have hc := hok c (List.mem_cons_self ..)
    refine sX11_standardize_20 ⟨by omega, fun c => absurd c (by omega), fun _ => ⟨by omega, fun c1 => ⟨by omega, ?_⟩, fun c1 => ⟨by omega, ?_⟩⟩⟩
    · have le : ¬ c.1 ≤ c.2 := by omega
      rw [b1, b2]
      have fr : ∀ x y, oM k x y → up (up h 106 (40 * k + pre.length) c.2) 107 (40 * k + pre.length) c.1 x y = h x y := fun x y hx => by unfold oM at hx; rw [up_no (by omega), up_no (by omega)]
      have A' : MNt (up (up h 106 (40 * k + pre.length) c.2) 107 (40 * k + pre.length) c.1) k (w, (pre ++ [(c.2, c.1)]) ++ r) := by
        refine ⟨?_, ?_, ?_⟩
        · rw [up_no (by omega), up_no (by omega)]; exact A.1
        · rw [up_no (by omega), up_no (by omega), e]
          show _ = (((pre ++ [(c.2, c.1)]) ++ r).length : Int)
          rw [List.length_append, List.length_append, List.length_singleton]; omega
        · show Row _ _ _ _ ((pre ++ [(c.2, c.1)]) ++ r)
          rw [List.append_assoc]
          exact Row_put (d := (c.2, c.1)) A.2.2 (fun y hy => ⟨by rw [up_no (by omega), up_no (by omega)], by rw [up_no (by omega), up_no (by omega)]⟩) ⟨by rw [up_no (by omega), up_eq], by rw [up_eq]⟩
      have hs := std_in (w := w) (f := c.1) (t := c.2) (n := n + 1) (l3 := 40 * k + pre.length) (Q := Q) hk (by omega) r (pre ++ [(c.2, c.1)]) _ A' (by rw [List.length_append, List.length_singleton]; omega) (fun g q1 q2 => ?_)
      · rw [List.length_append, List.length_singleton, show (40 * (k : Int) + ((pre.length + 1 : Nat) : Int)) = 40 * k + pre.length + 1 by omega] at hs
        exact hs
      · have := std_out (Q := Q) hk m (r.map (sw2 c.1 c.2)) (pre ++ [(c.2, c.1)]) (n + 1) g (by rw [List.length_map]; omega) q1 (by rw [List.length_append, List.length_singleton, List.length_map]; omega) (by rw [List.length_append, List.length_singleton]; omega) (okL_map hc.1 hc.2.1 (okL_tail hok)) (fun g2 r1 r2 => ?_)
        · rw [List.length_append, List.length_singleton, show (40 * (k : Int) + ((pre.length + 1 : Nat) : Int)) = 40 * k + pre.length + 1 by omega] at this
          exact this
        · have := hq g2 (by unfold stdL; rw [if_neg le]; rw [List.append_assoc] at r1; exact r1) (fun x y hx => by rw [r2 x y hx, q2 x y hx, fr x y hx])
          unfold stdC at this
          rw [if_neg le] at this
          rw [show n + 1 + stdC m (r.map (sw2 c.1 c.2)) = n + (stdC m (r.map (sw2 c.1 c.2)) + 1) by omega]
          exact this
    · have le : c.1 ≤ c.2 := by omega
      have := std_out (Q := Q) hk m r (pre ++ [c]) n h (by omega) (by rw [List.append_assoc]; exact A) (by rw [List.length_append, List.length_singleton]; omega) (by rw [List.length_append]; omega) (okL_tail hok) (fun g q1 q2 => ?_)
      · rw [List.length_append, List.length_singleton, show (40 * (k : Int) + ((pre.length + 1 : Nat) : Int)) = 40 * k + pre.length + 1 by omega] at this
        exact this
      · have := hq g (by unfold stdL; rw [if_pos le]; rw [List.append_assoc] at q1; exact q1) q2
        unfold stdC at this
        rw [if_pos le] at this
        exact this
theorem op_standardize {h : Hp} {k : Int} (hR : Rl h) : OpI 6 mX10_standardize 2 mX11_standardize [vi k] h := by
  obtain ⟨nets, hist, H⟩ := Rl_RlN hR
  by_cases hk : 0 ≤ k ∧ k < 4
  · obtain ⟨j, hj, rfl⟩ := toN hk.1 hk.2
    obtain ⟨n1, n2, n3⟩ := H.1 j hj
    have l40 := n1.2.2.1
    have okA : okN ((nets j).1, stdL (nets j).2.length (nets j).2) := ⟨n1.1, n1.2.1, by show (stdL _ _).length ≤ 40; rw [stdL_len]; exact l40, stdL_ok _ _ n1.2.2.2⟩
    refine op_chg (k := j) (N' := ((nets j).1, stdL (nets j).2.length (nets j).2)) (r := ((0 + stdC (nets j).2.length (nets j).2 : Nat) : Int)) H hj okA ?_ (fun h1 ms => ?_)
    · refine sX10_standardize ⟨fun _ => c_remember hj n1 n2 H.2.1 (fun g q1 q2 => ⟨by omega, sX3_turnAll ?_⟩), fun c => absurd c (by omega)⟩
      have c2 : CNt g (4 * j) (nets j) := CNt_c (fun x y r1 r2 => q2 x y (by unfold aH; omega)) n2
      refine turn_loop (w := (nets j).1) (by omega) (nets j).2.length (nets j).2 [] 0 g rfl c2 (by show 0 + _ ≤ 40; omega) (by omega) n1.2.2.2 (fun g2 r1 r2 => ⟨rfl, HiC_f (fun x y hx => r2 x y (by unfold aH at hx; omega)) q1, r1, fun x y hx => ?_⟩)
      unfold kC at hx
      rw [r2 x y (by omega), q2 x y (by unfold aH; omega)]
    · obtain ⟨m1, m2, m3, m4, m5⟩ := ms
      refine sX11_standardize ⟨fun _ => m_remembers (nets := nets) (hist := hist) (fun j hj => (m1 j hj).1) m4 (fun j hj => (m1 j hj).2) m2 m3 (fun g q1 q2 => ⟨by omega, ?_⟩), fun c => absurd c (by omega)⟩
      have c2 : MNt g j (nets j) := MNt_c (fun x y r1 r2 => q2 x y (by omega)) (m1 j hj).2
      have hs := std_out (w := (nets j).1) (Q := fun r2 h2 => r2 = ((0 + stdC (nets j).2.length (nets j).2 : Nat) : Int) ∧ MP h1 h2 nets hist j ((nets j).1, stdL (nets j).2.length (nets j).2)) hj (nets j).2.length (nets j).2 [] 0 g rfl c2 (by show 0 + _ ≤ 40; omega) (by omega) n1.2.2.2 (fun g2 r1 r2 => ⟨rfl, KpM_f (fun y => r2 112 y (by unfold oM; omega)) (r2 103 11 (by unfold oM; omega)) q1, r1, fun x y hx => ?_⟩)
      · rw [List.length_nil, show (40 * (j : Int) + ((0 : Nat) : Int)) = 40 * j by omega] at hs
        exact hs
      · unfold kM at hx
        rw [r2 x y (by unfold oM; omega), q2 x y (by omega)]
  · exact sX10_standardize ⟨fun c => absurd c (by omega), fun _ => sX11_standardize ⟨fun c => absurd c (by omega), fun _ => ⟨rfl, hR⟩⟩⟩
