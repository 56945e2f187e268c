/-! an op from a class side and a reference side -/
def kC (k : Nat) (x : Int) : Prop := (0 ≤ x ∧ x ≤ 15 ∧ x % 4 ≠ 3 ∧ ¬ (4 * (k : Int) ≤ x ∧ x ≤ 4 * k + 2)) ∨ (73 ≤ x ∧ x ≤ 82) ∨ 103 ≤ x
def CP (h h1 : Hp) (k : Nat) (N N' : NetT) (hist : List (Nat × NetT)) : Prop := HiC h1 (((k, N) :: hist).take 12) ∧ CNt h1 (4 * k) N' ∧ ∀ x y, kC k x → h1 x y = h x y
def kM (k : Nat) (x y : Int) : Prop := x ≤ 102 ∨ (x = 103 ∧ (y = 7 ∨ y = 9)) ∨ ((x = 104 ∨ x = 105) ∧ y ≠ k) ∨ ((x = 106 ∨ x = 107) ∧ ¬ (40 * (k : Int) ≤ y ∧ y < 40 * k + 40)) ∨ (108 ≤ x ∧ x ≤ 111) ∨ (113 ≤ x ∧ x ≤ 115)
def MP (h1 h2 : Hp) (nets : Nat → NetT) (hist : List (Nat × NetT)) (k : Nat) (N' : NetT) : Prop := KpM h2 nets hist (if hist.length + 1 > 12 then 12 else hist.length + 1) ∧ MNt h2 k N' ∧ ∀ x y, kM k x y → h2 x y = h1 x y
theorem chg_Rl {h h1 h2 : Hp} {nets : Nat → NetT} {hist : List (Nat × NetT)} {k : Nat} {N' : NetT} (hN : Nts h nets) (hT : Txt h) (hK : Key h) (hR : Tri h) (hS : Shl h) (hk : k < 4) (ok : okN N') (c : CP h h1 k (nets k) N' hist) (m : MP h1 h2 nets hist k N') : Rl h2 := by
  obtain ⟨c1, c2, c3⟩ := c
  obtain ⟨m1, m2, m3⟩ := m
  have lo : ∀ x y, x ≤ 102 → h2 x y = h1 x y := fun x y hx => m3 x y (Or.inl hx)
  have bo : ∀ x y, kM k x y → kC k x → h2 x y = h x y := fun x y q1 q2 => (m3 x y q1).trans (c3 x y q2)
  refine ⟨RNH_chg (nets := nets) (hist := hist) (k := k) (N' := N') (fun j hj => (hN j hj).1) ok (HiC_f (fun x y hx => lo x y (by unfold aH at hx; omega)) c1) (CNt_c (fun x y q1 q2 => lo x y (by omega)) c2) (fun j hj hne => CNt_c (fun x y q1 q2 => bo x y (Or.inl (by omega)) (Or.inl (by omega))) (hN j hj).2.1) m1 m2 (fun j hj hne => ?_), Txt_c (fun x y q => ?_) hT, Key_c (fun x y q => ?_) hK, Tri_c (fun x y q => ?_) hR, Shl_c (fun x y q => ?_) hS⟩
  · obtain ⟨r1, r2, r3⟩ := (hN j hj).2.2
    have l40 := (hN j hj).1.2.2.1
    refine ⟨?_, ?_, fun p hp => ?_⟩
    · rw [bo _ _ (by unfold kM; omega) (by unfold kC; omega)]; exact r1
    · rw [bo _ _ (by unfold kM; omega) (by unfold kC; omega)]; exact r2
    · rw [bo _ _ (by unfold kM; omega) (by unfold kC; omega), bo _ _ (by unfold kM; omega) (by unfold kC; omega)]; exact r3 p hp
  · unfold aT at q; exact bo x y (by unfold kM; omega) (by unfold kC; omega)
  · unfold aK at q; exact bo x y (by unfold kM; omega) (by unfold kC; omega)
  · unfold aR at q; exact bo x y (by unfold kM; omega) (by unfold kC; omega)
  · unfold aS at q; exact bo x y (by unfold kM; omega) (by unfold kC; omega)
def RlN (h : Hp) (nets : Nat → NetT) (hist : List (Nat × NetT)) : Prop := Nts h nets ∧ HiC h hist ∧ HiM h nets hist ∧ Txt h ∧ Key h ∧ Tri h ∧ Shl h
theorem RlN_Rl {h : Hp} {nets : Nat → NetT} {hist : List (Nat × NetT)} (H : RlN h nets hist) : Rl h := ⟨⟨nets, hist, H.1, H.2.1, H.2.2.1⟩, H.2.2.2⟩
theorem Rl_RlN {h : Hp} (H : Rl h) : ∃ nets hist, RlN h nets hist := by
  obtain ⟨⟨nets, hist, h1, h2, h3⟩, h4⟩ := H
  exact ⟨nets, hist, h1, h2, h3, h4⟩
/-- what the reference side finds after the class side has run -/
def MS (h h1 : Hp) (nets : Nat → NetT) (hist : List (Nat × NetT)) : Prop := (∀ j : Nat, j < 4 → okN (nets j) ∧ MNt h1 j (nets j)) ∧ HiM h1 nets hist ∧ hist.length ≤ 12 ∧ (∀ q ∈ hist, okN q.2) ∧ ∀ x y, 103 ≤ x → h1 x y = h x y
theorem MS_of {h h1 : Hp} {nets : Nat → NetT} {hist : List (Nat × NetT)} (H : RlN h nets hist) (e : ∀ x y, 103 ≤ x → h1 x y = h x y) : MS h h1 nets hist := by
  obtain ⟨hN, hC, hM, _⟩ := H
  refine ⟨fun j hj => ⟨(hN j hj).1, MNt_c (fun x y q1 q2 => e x y (by omega)) (hN j hj).2.2⟩, ⟨by rw [e _ _ (by omega)]; exact hM.1, fun t ht i hi => KNt_c (fun y => e _ y (by omega)) (hM.2 t ht i hi)⟩, hC.2.1, HiC_ok hC, e⟩
theorem op_chg {l1 l2 : Nat} {M1 M2 : MD} {as : List AV} {h : Hp} {nets : Nat → NetT} {hist : List (Nat × NetT)} {k : Nat} {N' : NetT} {r : Int} (H : RlN h nets hist) (hk : k < 4) (ok : okN N') (C : CI l1 M1 (vr 68 :: as) h (fun r1 h1 => r1 = r ∧ CP h h1 k (nets k) N' hist)) (M : ∀ h1, MS h h1 nets hist → CI l2 M2 (vr 103 :: as) h1 (fun r2 h2 => r2 = r ∧ MP h1 h2 nets hist k N')) : OpI l1 M1 l2 M2 as h := by
  refine CI_mono C (fun r1 h1 q => CI_mono (M h1 (MS_of H (fun x y hx => q.2.2.2 x y (Or.inr (Or.inr hx))))) (fun r2 h2 p => ⟨q.1.trans p.1.symm, chg_Rl H.1 H.2.2.2.1 H.2.2.2.2.1 H.2.2.2.2.2.1 H.2.2.2.2.2.2 hk ok q.2 p.2⟩))
/-! ops that change nothing the relation sees -/
def kC0 (x : Int) : Prop := (0 ≤ x ∧ x ≤ 15 ∧ x % 4 ≠ 3) ∨ (20 ≤ x ∧ x ≤ 67) ∨ x = 70 ∨ x = 72 ∨ (73 ≤ x ∧ x ≤ 82) ∨ 103 ≤ x
def kM0 (x y : Int) : Prop := x ≤ 102 ∨ (x = 103 ∧ (y = 7 ∨ y = 9 ∨ y = 11)) ∨ (104 ≤ x ∧ x ≤ 115)
theorem keep_RlN {h h2 : Hp} {nets : Nat → NetT} {hist : List (Nat × NetT)} (H : RlN h nets hist) (bo : ∀ x y, kC0 x → kM0 x y → h2 x y = h x y) : RlN h2 nets hist := by
  obtain ⟨hN, hC, hM, hT, hK, hR, hS⟩ := H
  refine ⟨fun j hj => ⟨(hN j hj).1, CNt_c (fun x y q1 q2 => bo x y (by unfold kC0; omega) (by unfold kM0; omega)) (hN j hj).2.1, MNt_c (fun x y q1 q2 => bo x y (by unfold kC0; omega) (by unfold kM0; omega)) (hN j hj).2.2⟩, HiC_f (fun x y hx => bo x y (by unfold aH at hx; unfold kC0; omega) (by unfold aH at hx; unfold kM0; omega)) hC, ⟨by rw [bo _ _ (by unfold kC0; omega) (by unfold kM0; omega)]; exact hM.1, fun t ht i hi => KNt_c (fun y => bo _ y (by unfold kC0; omega) (by unfold kM0; omega)) (hM.2 t ht i hi)⟩, Txt_c (fun x y q => ?_) hT, Key_c (fun x y q => ?_) hK, Tri_c (fun x y q => ?_) hR, Shl_c (fun x y q => ?_) hS⟩
  · unfold aT at q; exact bo x y (by unfold kC0; omega) (by unfold kM0; omega)
  · unfold aK at q; exact bo x y (by unfold kC0; omega) (by unfold kM0; omega)
  · unfold aR at q; exact bo x y (by unfold kC0; omega) (by unfold kM0; omega)
  · unfold aS at q; exact bo x y (by unfold kC0; omega) (by unfold kM0; omega)
theorem op_keep {l1 l2 : Nat} {M1 M2 : MD} {as : List AV} {h : Hp} {nets : Nat → NetT} {hist : List (Nat × NetT)} {r : Int} (H : RlN h nets hist) (C : CI l1 M1 (vr 68 :: as) h (fun r1 h1 => r1 = r ∧ ∀ x y, kC0 x → h1 x y = h x y)) (M : ∀ h1, MS h h1 nets hist → CI l2 M2 (vr 103 :: as) h1 (fun r2 h2 => r2 = r ∧ ∀ x y, kM0 x y → h2 x y = h1 x y)) : OpI l1 M1 l2 M2 as h := by
  refine CI_mono C (fun r1 h1 q => CI_mono (M h1 (MS_of H (fun x y hx => q.2 x y (by unfold kC0; omega)))) (fun r2 h2 p => ⟨q.1.trans p.1.symm, RlN_Rl (keep_RlN H (fun x y a b => (p.2 x y b).trans (q.2 x y a)))⟩))
theorem op_wires {h : Hp} {k : Int} (hR : Rl h) : OpI 1 mX10_wires 2 mX11_wires [vi k] h := by
  obtain ⟨nets, hist, H⟩ := Rl_RlN hR
  refine sX10_wires ⟨by omega, sX11_wires ⟨by omega, ?_, hR⟩⟩
  by_cases hk : 0 ≤ k ∧ k < 4
  · obtain ⟨j, hj, rfl⟩ := toN hk.1 hk.2
    rw [if_neg (by omega), if_neg (by omega), (H.1 j hj).2.1.1, (H.1 j hj).2.2.1]
  · rw [if_pos (by omega), if_pos (by omega)]
theorem op_size {h : Hp} {k : Int} (hR : Rl h) : OpI 1 mX10_size 2 mX11_size [vi k] h := by
  obtain ⟨nets, hist, H⟩ := Rl_RlN hR
  refine sX10_size ⟨by omega, sX11_size ⟨by omega, ?_, hR⟩⟩
  by_cases hk : 0 ≤ k ∧ k < 4
  · obtain ⟨j, hj, rfl⟩ := toN hk.1 hk.2
    rw [if_neg (by omega), if_neg (by omega), (H.1 j hj).2.1.2.1, (H.1 j hj).2.2.2.1]
  · rw [if_pos (by omega), if_pos (by omega)]
/-- a place of a row, on both sides -/
theorem row_at {h : Hp} {a b o : Int} {cs : List (Nat × Nat)} {w : Nat} (H : Row h a b o cs) (hw : ∀ c ∈ cs, c.1 < w ∧ c.2 < w ∧ c.1 ≠ c.2) {p : Nat} (hp : p < cs.length) : h a (o + p) = ((cs[p]).1 : Int) ∧ h b (o + p) = ((cs[p]).2 : Int) ∧ (cs[p]).1 < w ∧ (cs[p]).2 < w ∧ (cs[p]).1 ≠ (cs[p]).2 := ⟨(H p hp).1, (H p hp).2, hw _ (List.getElem_mem hp)⟩
theorem op_comparator {h : Hp} {k i : Int} (hR : Rl h) : OpI 2 mX10_comparator 3 mX11_comparator [vi k, vi i] h := by
  obtain ⟨nets, hist, H⟩ := Rl_RlN hR
  by_cases hk : 0 ≤ k ∧ k < 4
  · obtain ⟨j, hj, rfl⟩ := toN hk.1 hk.2
    obtain ⟨n1, n2, n3⟩ := H.1 j hj
    have e1 := n2.2.1
    have e2 := n3.2.1
    have l40 := n1.2.2.1
    by_cases hi : 0 ≤ i ∧ i < ((nets j).2.length : Int)
    · obtain ⟨p, rfl⟩ : ∃ p : Nat, i = p := ⟨i.toNat, by omega⟩
      obtain ⟨a1, a2, a3, a4, _⟩ := row_at n2.2.2 n1.2.2.2 (p := p) (by omega)
      obtain ⟨b1, b2, _⟩ := row_at n3.2.2 n1.2.2.2 (p := p) (by omega)
      have w8 := n1.2.1
      rw [Int.zero_add] at a1 a2
      refine sX10_comparator ⟨by omega, sX11_comparator ⟨by omega, ?_, hR⟩⟩
      rw [if_neg (by omega), if_neg (by omega), if_neg (by omega), a1, a2, b1, b2]
    · refine sX10_comparator ⟨by omega, sX11_comparator ⟨by omega, ?_, hR⟩⟩
      rw [if_pos (by omega), if_pos (by omega)]
  · refine sX10_comparator ⟨by omega, sX11_comparator ⟨by omega, ?_, hR⟩⟩
    rw [if_pos (by omega), if_pos (by omega)]
