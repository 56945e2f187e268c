theorem upN_back {nets : Nat → NetT} {k : Nat} {N' : NetT} : upN (upN nets k N') k (nets k) = nets := by
  funext j
  unfold upN
  by_cases e : j = k
  · rw [if_pos e, e]
  · rw [if_neg e, if_neg e]
theorem take_len {hist : List (Nat × NetT)} {q : Nat × NetT} : ((q :: hist).take 12).length = if hist.length + 1 > 12 then 12 else hist.length + 1 := by
  rw [List.length_take, List.length_cons]; split <;> omega
theorem RNH_chg {h : Hp} {nets : Nat → NetT} {hist : List (Nat × NetT)} {k : Nat} {N' : NetT} (hok0 : ∀ j : Nat, j < 4 → okN (nets j)) (hok : okN N') (c1 : HiC h (((k, nets k) :: hist).take 12)) (c2 : CNt h (4 * k) N') (c3 : ∀ j : Nat, j < 4 → j ≠ k → CNt h (4 * j) (nets j)) (m1 : KpM h nets hist (if hist.length + 1 > 12 then 12 else hist.length + 1)) (m2 : MNt h k N') (m3 : ∀ j : Nat, j < 4 → j ≠ k → MNt h j (nets j)) : RNH h := by
  refine ⟨upN nets k N', ((k, nets k) :: hist).take 12, fun j hj => ?_, c1, ?_, fun t ht j hj => ?_⟩
  · unfold upN
    by_cases e : j = k
    · rw [if_pos e, e]; exact ⟨hok, c2, m2⟩
    · rw [if_neg e]; exact ⟨hok0 j hj, c3 j hj e, m3 j hj e⟩
  · rw [take_len]; exact m1.1
  · rw [take_len] at ht ⊢
    have := m1.2 t ht j hj
    have ht12 : t < 12 := by split at ht <;> omega
    have e1 : (((k, nets k) :: hist).take 12).take (t + 1) = (k, nets k) :: hist.take t := by
      rw [List.take_take, show min (t + 1) 12 = t + 1 by omega, List.take_succ_cons]
    rw [e1]
    show KNt h _ j (back (upN (upN nets k N') k (nets k)) (hist.take t) j)
    rw [upN_back]
    exact this
theorem HiC_ok {h : Hp} {hist : List (Nat × NetT)} (H : HiC h hist) : ∀ q ∈ hist, okN q.2 := by
  intro q hq
  obtain ⟨t, ht, rfl⟩ := List.getElem_of_mem hq
  exact (H.2.2.2.2 t ht).2.1
/-- HiC reads only the history's cells -/
theorem HiC_f {h h' : Hp} {hist : List (Nat × NetT)} (e : ∀ x y, aH x → h' x y = h x y) (H : HiC h hist) : HiC h' hist := by
  obtain ⟨h1, h2, h3, h4, h5⟩ := H
  have e70 : ∀ i, h' 70 i = h 70 i := fun i => e 70 i (by unfold aH; omega)
  refine ⟨by rw [e70]; exact h1, h2, by rw [e70]; exact h3, by rw [e70]; exact h4, fun t ht => ?_⟩
  obtain ⟨q1, q2, q3, q4⟩ := h5 t ht
  rw [e70]
  have hs := slot_r (h 70 2) t
  exact ⟨q1, q2, by rw [e 72 _ (by unfold aH; omega)]; exact q3, CNt_c (fun x y r1 r2 => e x y (by unfold aH; omega)) q4⟩
theorem KpM_f {h h' : Hp} {nets : Nat → NetT} {hist : List (Nat × NetT)} {n : Nat} (e1 : ∀ y, h' 112 y = h 112 y) (e2 : h' 103 11 = h 103 11) (H : KpM h nets hist n) : KpM h' nets hist n := by
  refine ⟨by rw [e2]; exact H.1, fun t ht k hk => KNt_c e1 (H.2 t ht k hk)⟩
theorem Row_nil {h : Hp} {a b o : Int} : Row h a b o [] := fun p hp => absurd hp (Nat.not_lt_zero _)
theorem toN {k : Int} (h0 : 0 ≤ k) (h1 : k < 4) : ∃ j : Nat, j < 4 ∧ k = j := ⟨k.toNat, by omega, by omega⟩
theorem op_reset {h : Hp} {k w : Int} (hR : Rl h) : OpI 6 mX10_reset 2 mX11_reset [vi k, vi w] h := by
  obtain ⟨⟨nets, hist, hN, hC, hM⟩, h2, h3, h4, h5⟩ := id hR
  by_cases hk : 0 ≤ k ∧ k < 4
  · by_cases hw : 2 ≤ w ∧ w ≤ 8
    · obtain ⟨j, hj, rfl⟩ := toN hk.1 hk.2
      have hok0 : ∀ i : Nat, i < 4 → okN (nets i) := fun i hi => (hN i hi).1
      obtain ⟨n1, n2, n3⟩ := hN j hj
      refine sX10_reset ⟨fun _ => ⟨fun _ => c_remember hj n1 n2 hC (fun h' q1 q2 => ⟨by omega, ?_⟩), fun c => absurd c (by omega)⟩, fun c => absurd c (by omega)⟩
      have fr : ∀ x y, 103 ≤ x → up (up h' (4 * j) 0 w) (4 * j) 1 0 x y = h x y := fun x y hx => by rw [up_no (by omega), up_no (by omega), q2 x y (by unfold aH; omega)]
      refine sX11_reset ⟨fun _ => ⟨fun _ => m_remembers (nets := nets) (hist := hist) hok0 (HiC_ok hC) (fun i hi => MNt_c (fun x y r1 r2 => fr x y (by omega)) (hN i hi).2.2) ⟨by rw [fr _ _ (by omega)]; exact hM.1, fun t ht i hi => KNt_c (fun y => fr _ y (by omega)) (hM.2 t ht i hi)⟩ hC.2.1 (fun g p1 p2 => ⟨by omega, ?_, ?_, ?_, ?_, ?_, ?_⟩), fun c => absurd c (by omega)⟩, fun c => absurd c (by omega)⟩
      · rw [p2 105 j (by omega), fr _ _ (by omega), q2 _ _ (by unfold aH; omega), n2.2.1, n3.2.1]
      · have low : ∀ x y, x ≤ 102 → (up (up g 104 j w) 105 j 0) x y = up (up h' (4 * j) 0 w) (4 * j) 1 0 x y := fun x y hx => by rw [up_no (by omega), up_no (by omega), p2 x y (by omega)]
        refine RNH_chg (nets := nets) (hist := hist) (k := j) (N' := (w.toNat, [])) hok0 ⟨by omega, by omega, by simp, by simp⟩ ?_ ?_ ?_ ?_ ?_ ?_
        · refine HiC_f (fun x y hx => ?_) q1
          unfold aH at hx
          rw [low x y (by omega), up_no (by omega), up_no (by omega)]
        · refine ⟨?_, ?_, Row_nil⟩
          · rw [low _ _ (by omega), up_no (by omega), up_eq]; show w = ((w.toNat : Nat) : Int); omega
          · rw [low _ _ (by omega), up_eq]; rfl
        · intro i hi hne
          refine CNt_c (fun x y r1 r2 => ?_) (hN i hi).2.1
          rw [low x y (by omega), up_no (by omega), up_no (by omega), q2 x y (by unfold aH; omega)]
        · refine KpM_f (fun y => by rw [up_no (by omega), up_no (by omega)]) (by rw [up_no (by omega), up_no (by omega)]) p1
        · refine ⟨?_, ?_, Row_nil⟩
          · rw [up_no (by omega), up_eq]; show w = ((w.toNat : Nat) : Int); omega
          · rw [up_eq]; rfl
        · intro i hi hne
          obtain ⟨r1, r2, r3⟩ := (hN i hi).2.2
          refine ⟨?_, ?_, fun p hp => ?_⟩
          · rw [up_no (by omega), up_no (by omega), p2 _ _ (by omega), fr _ _ (by omega)]; exact r1
          · rw [up_no (by omega), up_no (by omega), p2 _ _ (by omega), fr _ _ (by omega)]; exact r2
          · rw [up_no (by omega), up_no (by omega), p2 _ _ (by omega), fr _ _ (by omega), up_no (by omega), up_no (by omega), p2 _ _ (by omega), fr _ _ (by omega)]; exact r3 p hp
      all_goals (first | refine Txt_c (fun a i q => ?_) h2 | refine Key_c (fun a i q => ?_) h3 | refine Tri_c (fun a i q => ?_) h4 | refine Shl_c (fun a i q => ?_) h5)
      all_goals (simp only [aT, aK, aR, aS] at q)
      all_goals (rw [up_no (by omega), up_no (by omega), p2 _ _ (by omega), up_no (by omega), up_no (by omega), q2 _ _ (by unfold aH; omega)])
    · have no : CI 2 mX11_reset [vr 103, vi k, vi w] h (fun r2 h2 => -2 = r2 ∧ Rl h2) := sX11_reset ⟨fun _ => ⟨fun c => absurd c (by omega), fun _ => ⟨rfl, hR⟩⟩, fun c => absurd c (by omega)⟩
      exact sX10_reset ⟨fun _ => ⟨fun c => absurd c (by omega), fun _ => no⟩, fun c => absurd c (by omega)⟩
  · exact sX10_reset ⟨fun c => absurd c (by omega), fun _ => sX11_reset ⟨fun c => absurd c (by omega), fun _ => ⟨rfl, hR⟩⟩⟩
