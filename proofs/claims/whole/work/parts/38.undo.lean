/-! undo -/
def hu2 (h : Hp) (B j : Int) : Hp := fun a y => if a = 104 ∧ 0 ≤ y ∧ y < j then h 112 (B + 2 * y) else if a = 105 ∧ 0 ≤ y ∧ y < j then h 112 (B + 2 * y + 1) else h a y
def hu3 (h : Hp) (B j : Int) : Hp := fun a y => if a = 106 ∧ 0 ≤ y ∧ y < j then h 112 (B + 2 * y) else if a = 107 ∧ 0 ≤ y ∧ y < j then h 112 (B + 2 * y + 1) else h a y
theorem hu2_step {h : Hp} {B j : Int} (hj : 0 ≤ j) : up (up (hu2 h B j) 104 j (hu2 h B j 112 (B + 2 * j))) 105 j (hu2 h B j 112 (B + 2 * j + 1)) = hu2 h B (j + 1) := by
  funext x y
  grind [up, hu2]
theorem hu3_step {h : Hp} {B j : Int} (hj : 0 ≤ j) : up (up (hu3 h B j) 106 j (hu3 h B j 112 (B + 2 * j))) 107 j (hu3 h B j 112 (B + 2 * j + 1)) = hu3 h B (j + 1) := by
  funext x y
  grind [up, hu3]
theorem hu2_0 {h : Hp} {B : Int} : hu2 h B 0 = h := by
  funext x y
  grind [hu2]
theorem hu3_0 {h : Hp} {B : Int} : hu3 h B 0 = h := by
  funext x y
  grind [hu3]
theorem undo_l3 {h : Hp} {B : Int} {Q : Int → Hp → Prop} (hB : 8 ≤ B ∧ B ≤ 3616) (kk : Q (hu3 h B 160 103 11) (hu3 h B 160)) : ∀ (m : Nat) (j : Int), 0 ≤ j → j ≤ 160 → (m : Int) = 160 - j → E 0 mX11_undo 74 [(0, vr 103), (1, vi (B + 2 * j)), (2, vi j)] [] (hu3 h B j) (qi Q)
  | 0, j, h1, h2, h3 => by
    have e : j = 160 := by omega
    subst e
    exact sX11_undo_74 ⟨fun _ => kk, fun c => absurd c (by omega)⟩
  | m + 1, j, h1, h2, h3 => by
    refine sX11_undo_74 ⟨fun c => absurd c (by omega), fun _ => ⟨by omega, ?_⟩⟩
    rw [hu3_step h1, show B + 2 * j + 1 + 1 = B + 2 * (j + 1) by omega]
    exact undo_l3 hB kk m (j + 1) (by omega) (by omega) (by omega)
theorem undo_l2 {h : Hp} {B : Int} {Q : Int → Hp → Prop} (hB : 0 ≤ B ∧ B ≤ 3608) (kk : E 0 mX11_undo 74 [(0, vr 103), (1, vi (B + 8)), (2, vi 0)] [] (hu2 h B 4) (qi Q)) : ∀ (m : Nat) (j : Int), 0 ≤ j → j ≤ 4 → (m : Int) = 4 - j → E 0 mX11_undo 31 [(0, vr 103), (1, vi (B + 2 * j)), (2, vi j)] [] (hu2 h B j) (qi Q)
  | 0, j, h1, h2, h3 => by
    have e : j = 4 := by omega
    subst e
    exact sX11_undo_31 ⟨fun _ => kk, fun c => absurd c (by omega)⟩
  | m + 1, j, h1, h2, h3 => by
    refine sX11_undo_31 ⟨fun c => absurd c (by omega), fun _ => ⟨by omega, ?_⟩⟩
    rw [hu2_step h1, show B + 2 * j + 1 + 1 = B + 2 * (j + 1) by omega]
    exact undo_l2 hB kk m (j + 1) (by omega) (by omega) (by omega)
theorem m_undo {h : Hp} {n : Int} {Q : Int → Hp → Prop} (hn : h 103 11 = n) (h0 : 1 ≤ n) (h1 : n ≤ 12) (hq : Q (n - 1) (hu3 (hu2 (up h 103 11 (n - 1)) ((n - 1) * 328) 4) ((n - 1) * 328 + 8) 160)) : CI 0 mX11_undo [vr 103] h Q := by
  refine sX11_undo ⟨fun _ => ⟨by omega, ?_⟩, fun c => absurd c (by omega)⟩
  rw [hn]
  have l3 := undo_l3 (h := hu2 (up h 103 11 (n - 1)) ((n - 1) * 328) 4) (B := (n - 1) * 328 + 8) (Q := Q) (by omega) (by
    have e : hu3 (hu2 (up h 103 11 (n - 1)) ((n - 1) * 328) 4) ((n - 1) * 328 + 8) 160 103 11 = n - 1 := by
      unfold hu3 hu2
      rw [if_neg (by omega), if_neg (by omega), if_neg (by omega), if_neg (by omega), up_eq]
    rw [e]; exact hq) 160 0 (by omega) (by omega) (by omega)
  rw [hu3_0, show (n - 1) * 328 + 8 + 2 * 0 = (n - 1) * 328 + 8 by omega] at l3
  have l2 := undo_l2 (h := up h 103 11 (n - 1)) (B := (n - 1) * 328) (Q := Q) (by omega) l3 4 0 (by omega) (by omega) (by omega)
  rw [hu2_0, show (n - 1) * 328 + 2 * 0 = (n - 1) * 328 by omega] at l2
  exact l2
theorem slot_next {nx : Int} {t : Nat} (h0 : 0 ≤ nx) (h1 : nx < 12) (ht : t < 12) : slot ((nx + 12 - 1) % 12) t = slot nx (t + 1) := by
  unfold slot; omega
theorem op_undo {h : Hp} (hR : Rl h) : OpI 5 mX10_undo 0 mX11_undo [] h := by
  obtain ⟨nets, hist, H⟩ := Rl_RlN hR
  obtain ⟨hN, hC, hM, hT, hK, hTr, hS⟩ := id H
  obtain ⟨c1, c2, c3, c4, c5⟩ := id hC
  obtain ⟨m1, m2⟩ := id hM
  cases hist with
  | nil =>
    have z1 : h 70 3 = 0 := c1
    have z2 : h 103 11 = 0 := m1
    exact sX10_undo (sX2_takeBack ⟨fun c => absurd z1 c, fun _ => sX11_undo ⟨fun c => absurd z2 c, fun _ => ⟨rfl, hR⟩⟩⟩)
  | cons q rest =>
    obtain ⟨k, N⟩ := q
    have ln : ((((k, N) :: rest).length : Nat) : Int) = rest.length + 1 := by rw [List.length_cons]; omega
    rw [ln] at c1 m1
    have l12 : rest.length + 1 ≤ 12 := by rw [List.length_cons] at c2; exact c2
    obtain ⟨s1, s2, s3, s4⟩ := c5 0 (by rw [List.length_cons]; omega)
    have s1 : k < 4 := s1
    have s2 : okN N := s2
    have s3 : h 72 (slot (h 70 2) 0) = (k : Int) := s3
    have s4 : CNt h (20 + 4 * slot (h 70 2) 0) N := s4
    have er : j_irem (h 70 2 + 12 - 1) 12 = (h 70 2 + 12 - 1) % 12 := rem12 (by omega) (by omega)
    have es : slot (h 70 2) 0 = (h 70 2 + 12 - 1) % 12 := by unfold slot; omega
    rw [es] at s3 s4
    refine sX10_undo (sX2_takeBack ⟨fun _ => ?_, fun c => absurd c (by omega)⟩)
    rw [er, s3]
    refine ⟨by omega, fun x3 hx3 => ?_⟩
    subst hx3
    refine ⟨fun c => absurd c (by omega), fun _ => ⟨fun c => absurd c (by omega), fun _ => ⟨by omega, ?_⟩⟩⟩
    refine c_takeOver (N := N) (by omega) (by omega) (by omega) s2.2.2.1 (CNt_c (fun x y r1 r2 => by rw [up_no (by omega), up_no (by omega)]) s4) (fun g q1 q2 => ?_)
    have g70 : g 70 3 = rest.length := by rw [q2 _ _ (by omega), up_eq, c1]; omega
    have g702 : g 70 2 = (h 70 2 + 12 - 1) % 12 := by rw [q2 _ _ (by omega), up_no (by omega), up_eq]
    have gf : ∀ x y, ¬ (4 * (k : Int) ≤ x ∧ x ≤ 4 * k + 2) → x ≠ 70 → g x y = h x y := fun x y r1 r2 => by rw [q2 x y r1, up_no (by omega), up_no (by omega)]
    refine m_undo (n := rest.length + 1) (by rw [gf _ _ (by omega) (by omega)]; exact m1) (by omega) (by omega) ⟨by rw [g70]; omega, ?_⟩
    have ff : ∀ x y, ¬ (104 ≤ x ∧ x ≤ 107) → ¬ (x = 103 ∧ y = 11) → hu3 (hu2 (up g 103 11 ((rest.length : Int) + 1 - 1)) (((rest.length : Int) + 1 - 1) * 328) 4) (((rest.length : Int) + 1 - 1) * 328 + 8) 160 x y = g x y := fun x y r1 r2 => by
      unfold hu3 hu2
      rw [if_neg (by omega), if_neg (by omega), if_neg (by omega), if_neg (by omega), up_no (by omega)]
    have f11 : hu3 (hu2 (up g 103 11 ((rest.length : Int) + 1 - 1)) (((rest.length : Int) + 1 - 1) * 328) 4) (((rest.length : Int) + 1 - 1) * 328 + 8) 160 103 11 = rest.length := by
      unfold hu3 hu2
      rw [if_neg (by omega), if_neg (by omega), if_neg (by omega), if_neg (by omega), up_eq]; omega
    refine RlN_Rl (nets := upN nets k N) (hist := rest) ⟨fun j hj => ⟨upN_ok (fun i hi => (hN i hi).1) s2 j hj, ?_, ?_⟩, ⟨?_, by omega, ?_, ?_, fun t ht => ?_⟩, ⟨f11, fun t ht j hj => ?_⟩, Txt_c (fun x y q => ?_) hT, Key_c (fun x y q => ?_) hK, Tri_c (fun x y q => ?_) hTr, Shl_c (fun x y q => ?_) hS⟩
    · refine CNt_c (fun x y r1 r2 => ff x y (by omega) (by omega)) ?_
      unfold upN
      by_cases e : j = k
      · rw [if_pos e, e]; exact q1
      · rw [if_neg e]; exact CNt_c (fun x y r1 r2 => gf x y (by omega) (by omega)) (hN j hj).2.1
    · have kk := m2 0 (by rw [List.length_cons]; omega) j hj
      have kk : KNt h ((((k, N) :: rest).length : Int) - 1 - (0 : Nat)) j (upN nets k N j) := kk
      rw [ln] at kk
      have l40 : (upN nets k N j).2.length ≤ 40 := (upN_ok (fun i hi => (hN i hi).1) s2 j hj).2.2.1
      obtain ⟨k1, k2, k3⟩ := kk
      have g112 : ∀ y, up g 103 11 ((rest.length : Int) + 1 - 1) 112 y = h 112 y := fun y => by rw [up_no (by omega), gf _ _ (by omega) (by omega)]
      refine ⟨?_, ?_, fun p hp => ?_⟩
      · unfold hu3 hu2
        rw [if_neg (by omega), if_neg (by omega), if_pos (by omega), g112, ← k1]; congr 1; omega
      · unfold hu3 hu2
        rw [if_neg (by omega), if_neg (by omega), if_neg (by omega), if_pos (by omega), g112, ← k2]; congr 1; omega
      · obtain ⟨k4, k5⟩ := k3 p hp
        unfold hu3 hu2
        constructor
        · rw [if_pos (by omega), if_neg (by omega), if_neg (by omega), g112, ← k4]; congr 1; omega
        · rw [if_neg (by omega), if_pos (by omega), if_neg (by omega), if_neg (by omega), g112, ← k5]; congr 1; omega
    · rw [ff _ _ (by omega) (by omega)]; exact g70
    · rw [ff _ _ (by omega) (by omega), g702]; omega
    · rw [ff _ _ (by omega) (by omega), g702]; omega
    · rw [ff 70 2 (by omega) (by omega), g702, slot_next c3 c4 (by omega)]
      obtain ⟨r1, r2, r3, r4⟩ := c5 (t + 1) (by rw [List.length_cons]; omega)
      have hs := slot_r (h 70 2) (t + 1)
      refine ⟨r1, r2, ?_, ?_⟩
      · rw [ff _ _ (by omega) (by omega), gf _ _ (by omega) (by omega)]; exact r3
      · exact CNt_c (fun x y p1 p2 => by rw [ff x y (by omega) (by omega), gf x y (by omega) (by omega)]) r4
    · have kk := m2 (t + 1) (by rw [List.length_cons]; omega) j hj
      have kk : KNt h ((((k, N) :: rest).length : Int) - 1 - ((t + 1 : Nat) : Int)) j (back (upN nets k N) (rest.take (t + 1)) j) := kk
      rw [ln, show (rest.length : Int) + 1 - 1 - ((t + 1 : Nat) : Int) = rest.length - 1 - t by omega] at kk
      exact KNt_c (fun y => by rw [ff _ _ (by omega) (by omega), gf _ _ (by omega) (by omega)]) kk
    · unfold aT at q; rw [ff x y (by omega) (by omega), gf x y (by omega) (by omega)]
    · unfold aK at q; rw [ff x y (by omega) (by omega), gf x y (by omega) (by omega)]
    · unfold aR at q; rw [ff x y (by omega) (by omega), gf x y (by omega) (by omega)]
    · unfold aS at q; rw [ff x y (by omega) (by omega), gf x y (by omega) (by omega)]
