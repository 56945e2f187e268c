/-! depth -/
def wm (L : Nat → Nat) : Nat → Nat
  | 0 => 0
  | i + 1 => if wm L i < L i then L i else wm L i
theorem wm_le {L : Nat → Nat} {b : Nat} : ∀ w : Nat, (∀ i : Nat, i < w → L i ≤ b) → wm L w ≤ b
  | 0, _ => Nat.zero_le _
  | w + 1, h => by
    have a := wm_le (L := L) (b := b) w (fun i hi => h i (by omega))
    have b := h w (by omega)
    unfold wm
    split <;> omega
theorem le_wm {L : Nat → Nat} : ∀ (w i : Nat), i < w → L i ≤ wm L w
  | 0, i, h => absurd h (by omega)
  | w + 1, i, h => by
    unfold wm
    by_cases e : i = w
    · subst e; split <;> omega
    · have := le_wm (L := L) w i (by omega)
      split <;> omega
theorem wm_set {L : Nat → Nat} {c : Nat × Nat} {w : Nat} (h1 : c.1 < w) (h2 : c.2 < w) : wm (lset L c) w = if lvl L c + 1 ≤ wm L w then wm L w else lvl L c + 1 := by
  have up1 : wm (lset L c) w ≤ if lvl L c + 1 ≤ wm L w then wm L w else lvl L c + 1 := by
    refine wm_le w (fun i hi => ?_)
    have := le_wm (L := L) w i hi
    unfold lset
    split <;> split <;> omega
  have e1 : lset L c c.1 = lvl L c + 1 := if_pos (Or.inl rfl)
  have lo1 : lvl L c + 1 ≤ wm (lset L c) w := by rw [← e1]; exact le_wm w c.1 h1
  have lo2 : wm L w ≤ wm (lset L c) w := by
    refine wm_le w (fun i hi => ?_)
    have a := le_wm (L := lset L c) w i hi
    by_cases e : i = c.1 ∨ i = c.2
    · have b : L i ≤ lvl L c := by
        rcases e with rfl | rfl
        · unfold lvl; split <;> omega
        · unfold lvl; split <;> omega
      omega
    · have b : lset L c i = L i := if_neg e
      omega
  split at up1 <;> split <;> omega
theorem wm_0 : ∀ w : Nat, wm (fun _ => 0) w = 0
  | 0 => rfl
  | w + 1 => by unfold wm; rw [wm_0 w]; rfl
theorem lv_loop {h : Hp} {a : Int} {w : Nat} {L : Nat → Nat} {Q : Int → Hp → Prop} (ha : nA a) (hw : w ≤ 8) (h0 : h a 0 = w) (V : ∀ i : Nat, i < 8 → h (a + 3) i = ((L i : Nat) : Int)) (kk : Q ((wm L w : Nat) : Int) h) : ∀ (m j : Nat), j ≤ w → m = w - j → E 2 mX3_levels 12 [(0, vr a), (1, vi ((wm L j : Nat) : Int)), (2, vi j)] [] h (qi Q)
  | 0, j, h1, h2 => by
    have e : j = w := by omega
    subst e
    exact sX3_levels_12 ⟨ha, fun _ => kk, fun c => absurd c (by omega)⟩
  | m + 1, j, h1, h2 => by
    refine sX3_levels_12 ⟨ha, fun c => absurd c (by omega), fun _ => ⟨by omega, fun x4 hx4 => ⟨by omega, ?_⟩⟩⟩
    rw [V j (by omega)] at hx4
    have e : x4 = ((wm L (j + 1) : Nat) : Int) := by
      rw [hx4]
      show _ = (((if wm L j < L j then L j else wm L j) : Nat) : Int)
      split <;> split <;> omega
    rw [e]
    exact lv_loop ha hw h0 V kk m (j + 1) (by omega) (by omega)
theorem dp_loop {h : Hp} {k : Nat} {N : NetT} {Q : Int → Hp → Prop} (hk : k < 4) (hok : okN N) (h0 : h 105 k = N.2.length) (V : ∀ q : Nat, q < N.2.length → h 116 q = ((lev N.2 q : Nat) : Int)) (kk : Q ((wm (P N.2 N.2.length) N.1 : Nat) : Int) h) : ∀ (m j : Nat), j ≤ N.2.length → m = N.2.length - j → E 2 mX11_depth 18 [(0, vr 103), (1, vi k), (2, vi ((wm (P N.2 j) N.1 : Nat) : Int)), (3, vi j)] [] h (qi Q)
  | 0, j, h1, h2 => by
    have e : j = N.2.length := by omega
    subst e
    exact sX11_depth_18 ⟨by omega, fun _ => kk, fun c => absurd c (by omega)⟩
  | m + 1, j, h1, h2 => by
    have hj : j < N.2.length := by omega
    have l40 := hok.2.2.1
    have hc := hok.2.2.2 _ (List.getElem_mem hj)
    have lb := lvl_le (cs := N.2) (j := j) (c := N.2[j]) (by omega)
    have Vj := V j hj
    rw [lev_eq hj] at Vj
    refine sX11_depth_18 ⟨by omega, fun c => absurd c (by omega), fun _ => ⟨by omega, fun x5 hx5 => ⟨by omega, ?_⟩⟩⟩
    rw [Vj] at hx5
    have e : x5 = ((wm (P N.2 (j + 1)) N.1 : Nat) : Int) := by
      rw [hx5, P_step hj, wm_set hc.1 hc.2.1]
      split <;> split <;> omega
    rw [e]
    exact dp_loop hk hok h0 V kk m (j + 1) (by omega) (by omega)
theorem op_depth {h : Hp} {k : Int} (hR : Rl h) : OpI 3 mX10_depth 2 mX11_depth [vi k] h := by
  obtain ⟨nets, hist, H⟩ := Rl_RlN hR
  by_cases hk : 0 ≤ k ∧ k < 4
  · obtain ⟨j, hj, rfl⟩ := toN hk.1 hk.2
    obtain ⟨n1, n2, n3⟩ := H.1 j hj
    have l40 := n1.2.2.1
    have w8 := n1.2.1
    refine op_keep (r := ((wm (P (nets j).2 (nets j).2.length) (nets j).1 : Nat) : Int)) H ?_ (fun h1 ms => ?_)
    · have A : CNt h (4 * j) ((nets j).1, (nets j).2 ++ []) := by rw [List.append_nil]; exact n2
      refine sX10_depth ⟨fun c => absurd c (by omega), fun _ => ⟨by omega, sX3_levels ⟨by omega, ?_⟩⟩⟩
      rw [n2.2.1]
      refine c_passLayers (by omega) w8 A n1.2.2.2 rfl l40 (fun g q1 q2 q3 => ?_)
      have eP : P (nets j).2 (nets j).2.length = lpass (fun _ => 0) (nets j).2 := by unfold P; rw [List.take_length]
      exact lv_loop (L := P (nets j).2 (nets j).2.length) (by omega) w8 (by rw [q3 _ _ (by omega)]; exact n2.1) (fun i hi => by rw [eP]; exact q1 i hi) ⟨rfl, fun x y hx => q3 x y (by unfold kC0 at hx; omega)⟩ (nets j).1 0 (by omega) (by omega)
    · refine sX11_depth ⟨fun _ => m_findsLayers hj n1 (ms.1 j hj).2 (fun g q1 q2 => ?_), fun c => absurd c (by omega)⟩
      have hs := dp_loop (N := nets j) (Q := fun r2 h2 => r2 = ((wm (P (nets j).2 (nets j).2.length) (nets j).1 : Nat) : Int) ∧ ∀ x y, kM0 x y → h2 x y = h1 x y) hj n1 (by rw [q2 _ _ (by omega)]; exact (ms.1 j hj).2.2.1) q1 ⟨rfl, fun x y hx => q2 x y (by unfold kM0 at hx; omega)⟩ (nets j).2.length 0 (by omega) (by omega)
      rw [P_0, wm_0] at hs
      exact hs
  · exact sX10_depth ⟨fun c => sX11_depth ⟨fun c => absurd c (by omega), fun _ => ⟨rfl, hR⟩⟩, fun c => absurd c (by omega)⟩
