theorem lpass_snoc : ∀ (xs : List (Nat × Nat)) (L : Nat → Nat) (c : Nat × Nat), lpass L (xs ++ [c]) = lset (lpass L xs) c
  | [], L, c => rfl
  | x :: xs, L, c => lpass_snoc xs (lset L x) c
def P (cs : List (Nat × Nat)) (j : Nat) : Nat → Nat := lpass (fun _ => 0) (cs.take j)
theorem P_step {cs : List (Nat × Nat)} {j : Nat} (hj : j < cs.length) : P cs (j + 1) = lset (P cs j) cs[j] := by
  unfold P
  rw [List.take_succ_eq_append_getElem hj, lpass_snoc]
theorem P_0 {cs : List (Nat × Nat)} : P cs 0 = fun _ => 0 := rfl
theorem P_le {cs : List (Nat × Nat)} : ∀ j : Nat, j ≤ cs.length → ∀ i : Nat, P cs j i ≤ j
  | 0, _, i => Nat.le_refl 0
  | j + 1, h, i => by
    rw [P_step (by omega)]
    have a := P_le (cs := cs) j (by omega)
    have a1 := a i
    have a2 := a (cs[j]).1
    have a3 := a (cs[j]).2
    unfold lset lvl
    split
    · split <;> omega
    · omega
def shr (c d : Nat × Nat) : Prop := c.1 = d.1 ∨ c.1 = d.2 ∨ c.2 = d.1 ∨ c.2 = d.2
theorem lvl_no {L : Nat → Nat} {c d : Nat × Nat} (h : ¬ shr c d) : lvl (lset L d) c = lvl L c := by
  unfold shr at h
  have e1 : lset L d c.1 = L c.1 := if_neg (by omega)
  have e2 : lset L d c.2 = L c.2 := if_neg (by omega)
  unfold lvl
  rw [e1, e2]
theorem lvl_yes {L : Nat → Nat} {c d : Nat × Nat} (h : shr c d) : lvl (lset L d) c = if lvl L d + 1 ≤ lvl L c then lvl L c else lvl L d + 1 := by
  unfold shr at h
  obtain ⟨c1, c2⟩ := c
  obtain ⟨d1, d2⟩ := d
  simp only at h
  unfold lset
  grind [lvl]
theorem lvl_le {cs : List (Nat × Nat)} {j : Nat} {c : Nat × Nat} (hj : j ≤ cs.length) : lvl (P cs j) c ≤ j := by
  have a1 := P_le (cs := cs) j hj c.1
  have a2 := P_le (cs := cs) j hj c.2
  unfold lvl
  split <;> omega
def lev (cs : List (Nat × Nat)) (q : Nat) : Nat := if h : q < cs.length then lvl (P cs q) cs[q] else 0
theorem lev_eq {cs : List (Nat × Nat)} {q : Nat} (h : q < cs.length) : lev cs q = lvl (P cs q) cs[q] := dif_pos h
theorem fl_in {k : Nat} {N : NetT} {p : Nat} {Q : Hp → Prop} (hk : k < 4) (hok : okN N) (hp : p < N.2.length) : ∀ (m j : Nat) (h : Hp), MNt h k N → j ≤ p → m = p - j → (∀ q : Nat, q < p → h 116 q = lev N.2 q) → h 116 p = ((lvl (P N.2 j) N.2[p] : Nat) : Int) → (∀ g : Hp, (∀ q : Nat, q < p + 1 → g 116 q = lev N.2 q) → (∀ x y, x ≠ 116 → g x y = h x y) → E 0 mX11_findsLayers 2 [(0, vr 103), (1, vi k), (2, vi ((p : Int) + 1))] [] g (qv Q)) → E 0 mX11_findsLayers 21 [(0, vr 103), (1, vi k), (2, vi p), (3, vi j)] [] h (qv Q)
  | 0, j, h, A, h1, h2, V, W, hq => by
    have e : j = p := by omega
    subst e
    have l40 := hok.2.2.1
    refine sX11_findsLayers_21 ⟨fun _ => ⟨by omega, hq h (fun q hq2 => ?_) (fun _ _ _ => rfl)⟩, fun c => absurd c (by omega)⟩
    by_cases e : q = j
    · rw [e, W, lev_eq hp]
    · exact V q (by omega)
  | m + 1, j, h, A, h1, h2, V, W, hq => by
    have l40 := hok.2.2.1
    have hj : j < N.2.length := by omega
    obtain ⟨b1, b2⟩ := A.2.2 p hp
    obtain ⟨d1, d2⟩ := A.2.2 j hj
    have Vj := V j (by omega)
    rw [lev_eq hj] at Vj
    have lb1 := lvl_le (cs := N.2) (j := j) (c := N.2[j]) (by omega)
    refine sX11_findsLayers_21 ⟨fun c => absurd c (by omega), fun _ => ⟨by omega, ?_⟩⟩
    rw [b1, b2, d1, d2, Vj, W]
    refine ⟨fun c1 => ⟨by omega, ?_⟩, fun c1 => ⟨by omega, fun c2 => ⟨by omega, ?_⟩, fun c2 => ⟨by omega, ?_⟩⟩⟩
    · have ns : ¬ shr N.2[p] N.2[j] := by unfold shr; omega
      exact fl_in hk hok hp m (j + 1) h A (by omega) (by omega) V (by rw [P_step hj, lvl_no ns]; exact W) hq
    · have ys : shr N.2[p] N.2[j] := by unfold shr; omega
      exact fl_in hk hok hp m (j + 1) h A (by omega) (by omega) V (by rw [P_step hj, lvl_yes ys, if_pos (by omega)]; exact W) hq
    · have ys : shr N.2[p] N.2[j] := by unfold shr; omega
      refine fl_in hk hok hp m (j + 1) _ (MNt_c (fun x y p1 p2 => by rw [up_no (by omega)]) A) (by omega) (by omega) (fun q hq2 => by rw [up_no (by omega)]; exact V q hq2) (by rw [P_step hj, lvl_yes ys, if_neg (by omega), up_eq]; omega) (fun g q1 q2 => hq g q1 (fun x y hx => by rw [q2 x y hx, up_no (by omega)]))
theorem fl_out {k : Nat} {N : NetT} {Q : Hp → Prop} (hk : k < 4) (hok : okN N) : ∀ (m p : Nat) (h : Hp), MNt h k N → p ≤ N.2.length → m = N.2.length - p → (∀ q : Nat, q < p → h 116 q = lev N.2 q) → (∀ g : Hp, (∀ q : Nat, q < N.2.length → g 116 q = lev N.2 q) → (∀ x y, x ≠ 116 → g x y = h x y) → Q g) → E 0 mX11_findsLayers 2 [(0, vr 103), (1, vi k), (2, vi p)] [] h (qv Q)
  | 0, p, h, A, h1, h2, V, hq => by
    have e : p = N.2.length := by omega
    subst e
    have e1 := A.2.1
    exact sX11_findsLayers_2 ⟨by omega, fun _ => hq h V (fun _ _ _ => rfl), fun c => absurd c (by omega)⟩
  | m + 1, p, h, A, h1, h2, V, hq => by
    have e1 := A.2.1
    have l40 := hok.2.2.1
    have hp : p < N.2.length := by omega
    refine sX11_findsLayers_2 ⟨by omega, fun c => absurd c (by omega), fun _ => ⟨by omega, ?_⟩⟩
    refine fl_in hk hok hp p 0 _ (MNt_c (fun x y p1 p2 => by rw [up_no (by omega)]) A) (by omega) (by omega) (fun q hq2 => by rw [up_no (by omega)]; exact V q hq2) (by rw [up_eq, P_0]; rfl) (fun g q1 q2 => ?_)
    have := fl_out hk hok m (p + 1) g (MNt_c (fun x y p1 p2 => by rw [q2 x y (by omega), up_no (by omega)]) A) (by omega) (by omega) q1 (fun g2 r1 r2 => hq g2 r1 (fun x y hx => by rw [r2 x y hx, q2 x y hx, up_no (by omega)]))
    exact this
theorem m_findsLayers {h : Hp} {k : Nat} {N : NetT} {Q : Hp → Prop} (hk : k < 4) (hok : okN N) (A : MNt h k N) (hq : ∀ g : Hp, (∀ q : Nat, q < N.2.length → g 116 q = lev N.2 q) → (∀ x y, x ≠ 116 → g x y = h x y) → Q g) : CV 0 mX11_findsLayers [vr 103, vi k] h Q := by
  refine sX11_findsLayers ?_
  exact fl_out hk hok N.2.length 0 h A (by omega) (by omega) (fun q hq2 => absurd hq2 (by omega)) hq
