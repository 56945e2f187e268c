def okP (N : NetT) (f t : Int) : Prop := 0 ≤ f ∧ f < N.1 ∧ 0 ≤ t ∧ t < N.1 ∧ f ≠ t ∧ N.2.length < 40
def noP (N : NetT) (f t : Int) : Int := if f < 0 ∨ f ≥ N.1 ∨ t < 0 ∨ t ≥ N.1 then -1 else if f = t then -2 else -3
theorem c_push_no {h : Hp} {N : NetT} {k : Nat} {p f t : Int} {Q : Int → Hp → Prop} (hk : k < 4) (H : CNt h (4 * k) N) (hl : N.2.length ≤ 40) (hn : ¬ okP N f t) (hq : Q (noP N f t) h) : CI 6 mX10_pushInto [vr 68, vi k, vi p, vi f, vi t] h Q := by
  obtain ⟨n1, n2, n3⟩ := H
  unfold okP at hn
  unfold noP at hq
  refine sX10_pushInto ⟨by omega, sX3_refusal ⟨by omega, fun c => ⟨fun c => absurd c (by omega), fun _ => ?_⟩, fun c1 => ⟨by omega, fun c2 => ⟨fun c3 => ⟨by omega, ?_⟩, fun c3 => ⟨fun c => absurd c (by omega), fun _ => ?_⟩⟩, fun c2 => ⟨fun c => absurd c (by omega), fun _ => ?_⟩⟩⟩⟩
  · rw [if_pos (by omega)] at hq; exact hq
  · rw [if_neg (by omega)]
    rw [if_neg (by omega), if_neg c3] at hq
    exact ⟨fun c => absurd c (by omega), fun _ => hq⟩
  · rw [if_neg (by omega), if_pos c3] at hq; exact hq
  · rw [if_pos (by omega)] at hq; exact hq
theorem c_push {h : Hp} {N : NetT} {hist : List (Nat × NetT)} {k p f t : Nat} {Q : Int → Hp → Prop} (hk : k < 4) (hok : okN N) (H : CNt h (4 * k) N) (hC : HiC h hist) (hp : p ≤ N.2.length) (hy : okP N f t) (hq : ∀ h1, CP h h1 k N (N.1, ins N.2 p (f, t)) hist → Q (N.2.length + 1) h1) : CI 6 mX10_pushInto [vr 68, vi k, vi p, vi f, vi t] h Q := by
  obtain ⟨n1, n2, n3⟩ := id H
  obtain ⟨y1, y2, y3, y4, y5, y6⟩ := hy
  refine sX10_pushInto ⟨by omega, sX3_refusal ⟨by omega, fun c => absurd c (by omega), fun c1 => ⟨by omega, fun c2 => ⟨fun c3 => ⟨by omega, fun _ => ?_, fun c => absurd (if_pos (by omega)) c⟩, fun c3 => absurd c3 (by omega)⟩, fun c2 => absurd c2 (by omega)⟩⟩⟩
  refine c_remember hk hok H hC (fun g q1 q2 => ⟨by omega, ?_⟩)
  refine c_pushAt (N := N) (by omega) (CNt_c (fun x y r1 r2 => q2 x y (by unfold aH; omega)) H) hp (by omega) (by omega) (by omega) (by omega) (fun g2 r1 r2 => ⟨by omega, ?_⟩)
  have e := r1.2.1
  have e2 : ((ins N.2 p (f, t)).length : Int) = N.2.length + 1 := by rw [ins_len hp]; omega
  rw [e]
  show Q ((ins N.2 p (f, t)).length : Int) g2
  rw [e2]
  refine hq g2 ⟨HiC_f (fun x y hx => r2 x y (by unfold aH at hx; omega)) q1, r1, fun x y hx => ?_⟩
  unfold kC at hx
  rw [r2 x y (by omega), q2 x y (by unfold aH; omega)]
theorem m_push_no {h : Hp} {N : NetT} {k p : Nat} {f t : Int} {Q : Int → Hp → Prop} (hk : k < 4) (hok : okN N) (H : MNt h k N) (hp : p ≤ N.2.length) (hn : ¬ okP N f t) (hq : Q (noP N f t) h) : CI 2 mX11_insert [vr 103, vi k, vi p, vi f, vi t] h Q := by
  obtain ⟨n1, n2, n3⟩ := H
  obtain ⟨k1, k2, k3, k4⟩ := hok
  unfold okP at hn
  unfold noP at hq
  refine sX11_insert ⟨fun c => absurd c (by omega), fun _ => ⟨by omega, fun c => absurd c (by omega), fun _ => ⟨by omega, fun c1 => ?_, fun c1 => ⟨by omega, fun c2 => ⟨fun c3 => ⟨by omega, fun c => absurd c (by omega), fun _ => ?_⟩, fun c3 => ?_⟩, fun c2 => ?_⟩⟩⟩⟩
  · rw [if_pos (by omega)] at hq; exact hq
  · rw [if_neg (by omega), if_neg c3] at hq; exact hq
  · rw [if_neg (by omega), if_pos c3] at hq; exact hq
  · rw [if_pos (by omega)] at hq; exact hq
theorem m_push {h h1 : Hp} {nets : Nat → NetT} {hist : List (Nat × NetT)} {k p f t : Nat} {Q : Int → Hp → Prop} (ms : MS h h1 nets hist) (hk : k < 4) (hp : p ≤ (nets k).2.length) (hy : okP (nets k) f t) (hq : ∀ h2, MP h1 h2 nets hist k ((nets k).1, ins (nets k).2 p (f, t)) → Q ((nets k).2.length + 1) h2) : CI 2 mX11_insert [vr 103, vi k, vi p, vi f, vi t] h1 Q := by
  obtain ⟨m1, m2, m3, m4, m5⟩ := ms
  obtain ⟨n1, n2, n3⟩ := (m1 k hk).2
  obtain ⟨k1, k2, k3, k4⟩ := (m1 k hk).1
  obtain ⟨y1, y2, y3, y4, y5, y6⟩ := hy
  refine sX11_insert ⟨fun c => absurd c (by omega), fun _ => ⟨by omega, fun c => absurd c (by omega), fun _ => ⟨by omega, fun c1 => absurd c1 (by omega), fun c1 => ⟨by omega, fun c2 => ⟨fun c3 => ⟨by omega, fun _ => ?_, fun c => absurd c (by omega)⟩, fun c3 => absurd c3 (by omega)⟩, fun c2 => absurd c2 (by omega)⟩⟩⟩⟩
  refine m_remembers (nets := nets) (hist := hist) (fun j hj => (m1 j hj).1) m4 (fun j hj => (m1 j hj).2) m2 m3 (fun g q1 q2 => ?_)
  refine m_puts (N := nets k) hk (MNt_c (fun x y r1 r2 => q2 x y (by omega)) (m1 k hk).2) hp (by omega) (fun g2 r1 r2 => ⟨by omega, ?_⟩)
  have e := r1.2.1
  have e2 : ((ins (nets k).2 p (f, t)).length : Int) = (nets k).2.length + 1 := by rw [ins_len hp]; omega
  rw [e]
  show Q ((ins (nets k).2 p (f, t)).length : Int) g2
  rw [e2]
  refine hq g2 ⟨KpM_f (fun y => r2 112 y (by omega)) (r2 103 11 (by omega)) q1, r1, fun x y hx => ?_⟩
  unfold kM at hx
  rw [r2 x y (by omega), q2 x y (by omega)]
theorem op_add {h : Hp} {k f t : Int} (hR : Rl h) : OpI 7 mX10_add 3 mX11_add [vi k, vi f, vi t] h := by
  obtain ⟨nets, hist, H⟩ := Rl_RlN hR
  by_cases hk : 0 ≤ k ∧ k < 4
  · obtain ⟨j, hj, rfl⟩ := toN hk.1 hk.2
    obtain ⟨n1, n2, n3⟩ := H.1 j hj
    by_cases hy : okP (nets j) f t
    · obtain ⟨f, rfl⟩ : ∃ p : Nat, f = p := ⟨f.toNat, by unfold okP at hy; omega⟩
      obtain ⟨t, rfl⟩ : ∃ p : Nat, t = p := ⟨t.toNat, by unfold okP at hy; omega⟩
      have hy' := hy
      unfold okP at hy'
      refine op_chg (k := j) (N' := ((nets j).1, ins (nets j).2 (nets j).2.length (f, t))) (r := (nets j).2.length + 1) H hj (okN_ins n1 (Nat.le_refl _) (by omega) (by omega) (by omega) (by omega)) ?_ (fun h1 ms => ?_)
      · refine sX10_add ⟨fun c => absurd c (by omega), fun _ => ⟨by omega, ?_⟩⟩
        rw [n2.2.1]
        exact c_push hj n1 n2 H.2.1 (Nat.le_refl _) hy (fun h1 c => ⟨rfl, c⟩)
      · refine sX11_add ⟨fun c => absurd c (by omega), fun _ => ⟨by omega, ?_⟩⟩
        rw [(ms.1 j hj).2.2.1]
        exact m_push ms hj (Nat.le_refl _) hy (fun h1 c => ⟨rfl, c⟩)
    · refine sX10_add ⟨fun c => absurd c (by omega), fun _ => ⟨by omega, ?_⟩⟩
      refine c_push_no hj n2 n1.2.2.1 hy (sX11_add ⟨fun c => absurd c (by omega), fun _ => ⟨by omega, ?_⟩⟩)
      rw [n3.2.1]
      exact m_push_no hj n1 n3 (Nat.le_refl _) hy ⟨rfl, hR⟩
  · exact sX10_add ⟨fun c => sX11_add ⟨fun _ => ⟨rfl, hR⟩, fun c => absurd c (by omega)⟩, fun c => absurd c (by omega)⟩
theorem op_insert {h : Hp} {k p f t : Int} (hR : Rl h) : OpI 7 mX10_insert 2 mX11_insert [vi k, vi p, vi f, vi t] h := by
  obtain ⟨nets, hist, H⟩ := Rl_RlN hR
  by_cases hk : 0 ≤ k ∧ k < 4
  · obtain ⟨j, hj, rfl⟩ := toN hk.1 hk.2
    obtain ⟨n1, n2, n3⟩ := H.1 j hj
    have e1 := n2.2.1
    have e2 := n3.2.1
    by_cases hp : 0 ≤ p ∧ p ≤ ((nets j).2.length : Int)
    · obtain ⟨p, rfl⟩ : ∃ q : Nat, p = q := ⟨p.toNat, by omega⟩
      by_cases hy : okP (nets j) f t
      · obtain ⟨f, rfl⟩ : ∃ p : Nat, f = p := ⟨f.toNat, by unfold okP at hy; omega⟩
        obtain ⟨t, rfl⟩ : ∃ p : Nat, t = p := ⟨t.toNat, by unfold okP at hy; omega⟩
        have hy' := hy
        unfold okP at hy'
        refine op_chg (k := j) (N' := ((nets j).1, ins (nets j).2 p (f, t))) (r := (nets j).2.length + 1) H hj (okN_ins n1 (by omega) (by omega) (by omega) (by omega) (by omega)) ?_ (fun h1 ms => ?_)
        · exact sX10_insert ⟨fun c => absurd c (by omega), fun _ => ⟨fun c => absurd c (by omega), fun _ => ⟨by omega, fun _ => c_push hj n1 n2 H.2.1 (by omega) hy (fun h1 c => ⟨rfl, c⟩), fun c => absurd c (by omega)⟩⟩⟩
        · exact m_push ms hj (by omega) hy (fun h1 c => ⟨rfl, c⟩)
      · exact sX10_insert ⟨fun c => absurd c (by omega), fun _ => ⟨fun c => absurd c (by omega), fun _ => ⟨by omega, fun _ => c_push_no hj n2 n1.2.2.1 hy (m_push_no hj n1 n3 (by omega) hy ⟨rfl, hR⟩), fun c => absurd c (by omega)⟩⟩⟩
    · have no : CI 2 mX11_insert [vr 103, vi j, vi p, vi f, vi t] h (fun r2 h2 => -1 = r2 ∧ Rl h2) := sX11_insert ⟨fun c => absurd c (by omega), fun _ => ⟨by omega, fun _ => ⟨rfl, hR⟩, fun c => absurd c (by omega)⟩⟩
      exact sX10_insert ⟨fun c => absurd c (by omega), fun _ => ⟨fun _ => no, fun _ => ⟨by omega, fun c => absurd c (by omega), fun _ => no⟩⟩⟩
  · exact sX10_insert ⟨fun c => sX11_insert ⟨fun _ => ⟨rfl, hR⟩, fun c => absurd c (by omega)⟩, fun c => absurd c (by omega)⟩
/-! remove -/
theorem drop_loop {h : Hp} {a p n : Int} {Q : Hp → Prop} (ha : nA a) (hp : 0 ≤ p) (hn : n ≤ 39) (h0 : h a 1 = n) (kk : Q (shD h (a + 1) (a + 2) p n)) : ∀ (m : Nat) (j : Int), p ≤ j → j ≤ n → (m : Int) = n - j → E 1 mX3_drop 21 [(0, vr a), (2, vi j)] [] (shD h (a + 1) (a + 2) p j) (qv Q)
  | 0, j, h1, h2, h3 => by
    have e : j = n := by omega
    subst e
    have e1 : shD h (a + 1) (a + 2) p j a 1 = j := by unfold shD; rw [if_neg (by omega)]; exact h0
    exact sX3_drop_21 ⟨ha, fun _ => kk, fun c => absurd c (by omega)⟩
  | m + 1, j, h1, h2, h3 => by
    have e1 : shD h (a + 1) (a + 2) p j a 1 = n := by unfold shD; rw [if_neg (by omega)]; exact h0
    refine sX3_drop_21 ⟨ha, fun c => absurd c (by omega), fun _ => ⟨by omega, ?_⟩⟩
    rw [up_no (x := a + 2) (by omega), shD_step h1 (by omega)]
    exact drop_loop ha hp hn h0 kk m (j + 1) (by omega) (by omega) (by omega)
theorem c_drop {h : Hp} {a : Int} {N : NetT} {p : Nat} {Q : Hp → Prop} (ha : nA a) (H : CNt h a N) (hl : N.2.length ≤ 40) (hp : p < N.2.length) (hq : ∀ h', CNt h' a (N.1, del N.2 p) → (∀ x y, ¬ (a ≤ x ∧ x ≤ a + 2) → h' x y = h x y) → Q h') : CV 1 mX3_drop [vr a, vi p] h Q := by
  obtain ⟨n1, n2, n3⟩ := H
  refine sX3_drop ⟨by omega, fun _ => ⟨by omega, ?_⟩, fun c => absurd c (by omega)⟩
  have := drop_loop (h := up h a 1 (h a 1 - 1)) (a := a) (p := p) (n := N.2.length - 1) (Q := Q) ha (by omega) (by omega) (by rw [up_eq, n2]) ?_ (N.2.length - 1 - p) p (by omega) (by omega) (by omega)
  · rw [shD_0] at this; exact this
  · have e1 : ∀ x y, ¬ (x = a + 1 ∨ x = a + 2) → shD (up h a 1 (h a 1 - 1)) (a + 1) (a + 2) p (N.2.length - 1) x y = up h a 1 (h a 1 - 1) x y := fun x y hx => by
      unfold shD; rw [if_neg (by omega)]
    refine hq _ ⟨?_, ?_, ?_⟩ (fun x y hx => ?_)
    · rw [e1 _ _ (by omega), up_no (by omega)]; exact n1
    · rw [e1 _ _ (by omega), up_eq]
      show _ = ((del N.2 p).length : Int)
      rw [del_len hp]; omega
    · refine Row_del n3 hp (fun y hy => ?_) (fun y hy hy2 => ?_)
      · constructor <;> (unfold shD; rw [if_neg (by omega), up_no (by omega)])
      · constructor <;> (unfold shD; rw [if_pos (by omega), up_no (by omega)]; congr 1 <;> omega)
    · rw [e1 _ _ (by omega), up_no (by omega)]
theorem takes_loop {h : Hp} {k p n : Int} {Q : Hp → Prop} (hk : 0 ≤ k ∧ k < 4) (hp : 0 ≤ p) (hn : n ≤ 39) (hn0 : 0 ≤ n) (h0 : h 105 k = n) (kk : Q (shD h 106 107 (40 * k + p) (40 * k + n))) : ∀ (m : Nat) (j : Int), 40 * k + p ≤ j → j ≤ 40 * k + n → (m : Int) = 40 * k + n - j → E 0 mX11_takes 17 [(0, vr 103), (1, vi k), (3, vi j)] [] (shD h 106 107 (40 * k + p) j) (qv Q)
  | 0, j, h1, h2, h3 => by
    have e : j = 40 * k + n := by omega
    subst e
    have e1 : shD h 106 107 (40 * k + p) (40 * k + n) 105 k = n := by unfold shD; rw [if_neg (by omega)]; exact h0
    exact sX11_takes_17 ⟨by omega, fun _ => kk, fun c => absurd c (by omega)⟩
  | m + 1, j, h1, h2, h3 => by
    have e1 : shD h 106 107 (40 * k + p) j 105 k = n := by unfold shD; rw [if_neg (by omega)]; exact h0
    refine sX11_takes_17 ⟨by omega, fun c => absurd c (by omega), fun _ => ⟨by omega, ?_⟩⟩
    rw [shD_step h1 (by omega)]
    exact takes_loop hk hp hn hn0 h0 kk m (j + 1) (by omega) (by omega) (by omega)
theorem m_takes {h : Hp} {k : Nat} {N : NetT} {p : Nat} {Q : Hp → Prop} (hk : k < 4) (H : MNt h k N) (hl : N.2.length ≤ 40) (hp : p < N.2.length) (hq : ∀ h', MNt h' k (N.1, del N.2 p) → (∀ x y : Int, ¬ ((x = 105 ∧ y = k) ∨ ((x = 106 ∨ x = 107) ∧ 40 * (k : Int) ≤ y ∧ y < 40 * k + 40)) → h' x y = h x y) → Q h') : CV 0 mX11_takes [vr 103, vi k, vi p] h Q := by
  obtain ⟨n1, n2, n3⟩ := H
  refine sX11_takes ⟨by omega, ?_⟩
  have := takes_loop (h := up h 105 k (h 105 k - 1)) (k := k) (p := p) (n := N.2.length - 1) (Q := Q) (by omega) (by omega) (by omega) (by omega) (by rw [up_eq, n2]) ?_ (N.2.length - 1 - p) (40 * k + p) (by omega) (by omega) (by omega)
  · rw [shD_0] at this; exact this
  · have e1 : ∀ x y, ¬ (x = 106 ∨ x = 107) → shD (up h 105 k (h 105 k - 1)) 106 107 (40 * k + p) (40 * k + (N.2.length - 1)) x y = up h 105 k (h 105 k - 1) x y := fun x y hx => by
      unfold shD; rw [if_neg (by omega)]
    refine hq _ ⟨?_, ?_, ?_⟩ (fun x y hx => ?_)
    · rw [e1 _ _ (by omega), up_no (by omega)]; exact n1
    · rw [e1 _ _ (by omega), up_eq]
      show _ = ((del N.2 p).length : Int)
      rw [del_len hp]; omega
    · refine Row_del n3 hp (fun y hy => ?_) (fun y hy hy2 => ?_)
      · constructor <;> (unfold shD; rw [if_neg (by omega), up_no (by omega)])
      · constructor <;> (unfold shD; rw [if_pos (by omega), up_no (by omega)]; congr 1 <;> omega)
    · unfold shD; rw [if_neg (by omega), up_no (by omega)]
theorem op_remove {h : Hp} {k i : Int} (hR : Rl h) : OpI 6 mX10_remove 4 mX11_remove [vi k, vi i] h := by
  obtain ⟨nets, hist, H⟩ := Rl_RlN hR
  by_cases hk : 0 ≤ k ∧ k < 4
  · obtain ⟨j, hj, rfl⟩ := toN hk.1 hk.2
    obtain ⟨n1, n2, n3⟩ := H.1 j hj
    have e1 := n2.2.1
    have e2 := n3.2.1
    have l40 := n1.2.2.1
    have w8 := n1.2.1
    by_cases hi : 0 ≤ i ∧ i < ((nets j).2.length : Int)
    · obtain ⟨p, rfl⟩ : ∃ p : Nat, i = p := ⟨i.toNat, by omega⟩
      have hp : p < (nets j).2.length := by omega
      refine op_chg (k := j) (N' := ((nets j).1, del (nets j).2 p)) (r := 10 * ((nets j).2[p]).1 + ((nets j).2[p]).2) H hj (okN_del n1 hp) ?_ (fun h1 ms => ?_)
      · refine sX10_remove ⟨by omega, fun _ => c_remember hj n1 n2 H.2.1 (fun g q1 q2 => ?_), fun c => absurd c (by omega)⟩
        have c2 : CNt g (4 * j) (nets j) := CNt_c (fun x y r1 r2 => q2 x y (by unfold aH; omega)) n2
        obtain ⟨a1, a2, a3, a4, _⟩ := row_at c2.2.2 n1.2.2.2 hp
        rw [Int.zero_add] at a1 a2
        have a5 := c2.2.1
        refine ⟨by omega, fun x5 hx5 => ⟨by omega, c_drop (N := nets j) (by omega) c2 l40 hp (fun g2 r1 r2 => ⟨?_, HiC_f (fun x y hx => r2 x y (by unfold aH at hx; omega)) q1, r1, fun x y hx => ?_⟩)⟩⟩
        · rw [hx5, if_neg (by omega), a1, a2]
        · unfold kC at hx
          rw [r2 x y (by omega), q2 x y (by unfold aH; omega)]
      · obtain ⟨m1, m2, m3, m4, m5⟩ := ms
        have s1 := (m1 j hj).2.2.1
        refine sX11_remove ⟨by omega, fun _ => m_remembers (nets := nets) (hist := hist) (fun j hj => (m1 j hj).1) m4 (fun j hj => (m1 j hj).2) m2 m3 (fun g q1 q2 => ?_), fun c => absurd c (by omega)⟩
        have c2 : MNt g j (nets j) := MNt_c (fun x y r1 r2 => q2 x y (by omega)) (m1 j hj).2
        obtain ⟨a1, a2, a3, a4, _⟩ := row_at c2.2.2 n1.2.2.2 hp
        have a5 := c2.2.1
        refine ⟨by omega, fun x5 hx5 => m_takes (N := nets j) hj c2 l40 hp (fun g2 r1 r2 => ⟨?_, KpM_f (fun y => r2 112 y (by omega)) (r2 103 11 (by omega)) q1, r1, fun x y hx => ?_⟩)⟩
        · rw [hx5, if_neg (by omega), a1, a2]
        · unfold kM at hx
          rw [r2 x y (by omega), q2 x y (by omega)]
    · exact sX10_remove ⟨by omega, fun c => absurd c (by omega), fun _ => sX11_remove ⟨by omega, fun c => absurd c (by omega), fun _ => ⟨rfl, hR⟩⟩⟩
  · exact sX10_remove ⟨by omega, fun c => absurd c (by omega), fun _ => sX11_remove ⟨by omega, fun c => absurd c (by omega), fun _ => ⟨rfl, hR⟩⟩⟩
