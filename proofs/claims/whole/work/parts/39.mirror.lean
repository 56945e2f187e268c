/-! mirror -/
def rfc (h : Hp) (A B w o j : Int) : Hp := fun x y => if x = A ∧ o ≤ y ∧ y < j then w - 1 - h B y else if x = B ∧ o ≤ y ∧ y < j then w - 1 - h A y else h x y
theorem rfc_step {h : Hp} {A B w o j : Int} (hj : o ≤ j) (hAB : A ≠ B) : up (up (rfc h A B w o j) A j (w - 1 - rfc h A B w o j B j)) B j (w - 1 - rfc h A B w o j A j) = rfc h A B w o (j + 1) := by
  funext x y
  grind [up, rfc]
theorem rfc_0 {h : Hp} {A B w o : Int} : rfc h A B w o o = h := by
  funext x y
  grind [rfc]
def mir (N : NetT) : NetT := (N.1, N.2.map (fun c => (N.1 - 1 - c.2, N.1 - 1 - c.1)))
theorem okN_mir {N : NetT} (h : okN N) : okN (mir N) := by
  obtain ⟨h1, h2, h3, h4⟩ := h
  refine ⟨h1, h2, ?_, fun c hc => ?_⟩
  · show (N.2.map _).length ≤ 40
    rw [List.length_map]; exact h3
  · have hc' : c ∈ N.2.map (fun c => (N.1 - 1 - c.2, N.1 - 1 - c.1)) := hc
    obtain ⟨d, hd, rfl⟩ := List.mem_map.1 hc'
    have := h4 d hd
    show N.1 - 1 - d.2 < N.1 ∧ N.1 - 1 - d.1 < N.1 ∧ N.1 - 1 - d.2 ≠ N.1 - 1 - d.1
    omega
theorem Row_mir {h : Hp} {A B o : Int} {N : NetT} (hAB : A ≠ B) (hok : okN N) (H : Row h A B o N.2) : Row (rfc h A B N.1 o (o + N.2.length)) A B o (mir N).2 := by
  intro p hp
  have hp' : p < N.2.length := by
    have : p < (N.2.map (fun c => (N.1 - 1 - c.2, N.1 - 1 - c.1))).length := hp
    rw [List.length_map] at this; exact this
  obtain ⟨a1, a2, a3, a4, a5⟩ := row_at H hok.2.2.2 hp'
  have e : (mir N).2[p] = (N.1 - 1 - (N.2[p]).2, N.1 - 1 - (N.2[p]).1) := List.getElem_map (f := fun c : Nat × Nat => (N.1 - 1 - c.2, N.1 - 1 - c.1)) (l := N.2) (i := p) (h := hp)
  rw [e]
  unfold rfc
  constructor
  · rw [if_pos (by omega), a2]; show _ = ((N.1 - 1 - (N.2[p]).2 : Nat) : Int); omega
  · rw [if_neg (by omega), if_pos (by omega), a1]; show _ = ((N.1 - 1 - (N.2[p]).1 : Nat) : Int); omega
theorem refl_loop {h : Hp} {a : Int} {N : NetT} {Q : Hp → Prop} (ha : nA a) (hok : okN N) (H : CNt h a N) (kk : Q (rfc h (a + 1) (a + 2) N.1 0 N.2.length)) : ∀ (m j : Nat), j ≤ N.2.length → m = N.2.length - j → E 0 mX3_reflect 2 [(0, vr a), (1, vi j)] [] (rfc h (a + 1) (a + 2) N.1 0 j) (qv Q)
  | 0, j, h1, h2 => by
    have e : j = N.2.length := by omega
    subst e
    have e1 : rfc h (a + 1) (a + 2) N.1 0 N.2.length a 1 = N.2.length := by unfold rfc; rw [if_neg (by omega), if_neg (by omega)]; exact H.2.1
    exact sX3_reflect_2 ⟨ha, fun _ => kk, fun c => absurd c (by omega)⟩
  | m + 1, j, h1, h2 => by
    have e0 : rfc h (a + 1) (a + 2) N.1 0 j a 0 = N.1 := by unfold rfc; rw [if_neg (by omega), if_neg (by omega)]; exact H.1
    have e1 : rfc h (a + 1) (a + 2) N.1 0 j a 1 = N.2.length := by unfold rfc; rw [if_neg (by omega), if_neg (by omega)]; exact H.2.1
    obtain ⟨a1, a2, a3, a4, a5⟩ := row_at H.2.2 hok.2.2.2 (p := j) (by omega)
    rw [Int.zero_add] at a1 a2
    have b1 : rfc h (a + 1) (a + 2) N.1 0 j (a + 1) j = ((N.2[j]).1 : Int) := by unfold rfc; rw [if_neg (by omega), if_neg (by omega)]; exact a1
    have b2 : rfc h (a + 1) (a + 2) N.1 0 j (a + 2) j = ((N.2[j]).2 : Int) := by unfold rfc; rw [if_neg (by omega), if_neg (by omega)]; exact a2
    have w8 := hok.2.1
    have l40 := hok.2.2.1
    refine sX3_reflect_2 ⟨ha, fun c => absurd c (by omega), fun _ => ?_⟩
    rw [up_no (x := a) (by omega), e0]
    refine ⟨by omega, ?_⟩
    rw [rfc_step (by omega) (by omega)]
    exact refl_loop ha hok H kk m (j + 1) (by omega) (by omega)
theorem mirr_loop {h : Hp} {k : Nat} {N : NetT} {Q : Int → Hp → Prop} (hk : k < 4) (hok : okN N) (H : MNt h k N) (kk : Q N.2.length (rfc h 106 107 N.1 (40 * k) (40 * k + N.2.length))) : ∀ (m j : Nat), j ≤ N.2.length → m = N.2.length - j → E 2 mX11_mirror 18 [(0, vr 103), (1, vi k), (2, vi (40 * k + j))] [] (rfc h 106 107 N.1 (40 * k) (40 * k + j)) (qi Q)
  | 0, j, h1, h2 => by
    have e : j = N.2.length := by omega
    subst e
    have e1 : rfc h 106 107 N.1 (40 * k) (40 * k + N.2.length) 105 k = N.2.length := by unfold rfc; rw [if_neg (by omega), if_neg (by omega)]; exact H.2.1
    have l40 := hok.2.2.1
    refine sX11_mirror_18 ⟨by omega, fun _ => ⟨by omega, ?_⟩, fun c => absurd c (by omega)⟩
    rw [e1]; exact kk
  | m + 1, j, h1, h2 => by
    have e0 : rfc h 106 107 N.1 (40 * k) (40 * k + j) 104 k = N.1 := by unfold rfc; rw [if_neg (by omega), if_neg (by omega)]; exact H.1
    have e1 : rfc h 106 107 N.1 (40 * k) (40 * k + j) 105 k = N.2.length := by unfold rfc; rw [if_neg (by omega), if_neg (by omega)]; exact H.2.1
    obtain ⟨a1, a2, a3, a4, a5⟩ := row_at H.2.2 hok.2.2.2 (p := j) (by omega)
    have b1 : rfc h 106 107 N.1 (40 * k) (40 * k + j) 106 (40 * k + j) = ((N.2[j]).1 : Int) := by unfold rfc; rw [if_neg (by omega), if_neg (by omega)]; exact a1
    have b2 : rfc h 106 107 N.1 (40 * k) (40 * k + j) 107 (40 * k + j) = ((N.2[j]).2 : Int) := by unfold rfc; rw [if_neg (by omega), if_neg (by omega)]; exact a2
    have w8 := hok.2.1
    have l40 := hok.2.2.1
    refine sX11_mirror_18 ⟨by omega, fun c => absurd c (by omega), fun _ => ?_⟩
    rw [e0]
    refine ⟨by omega, ?_⟩
    rw [rfc_step (by omega) (by omega)]
    exact mirr_loop hk hok H kk m (j + 1) (by omega) (by omega)
theorem op_mirror {h : Hp} {k : Int} (hR : Rl h) : OpI 6 mX10_mirror 2 mX11_mirror [vi k] h := by
  obtain ⟨nets, hist, H⟩ := Rl_RlN hR
  by_cases hk : 0 ≤ k ∧ k < 4
  · obtain ⟨j, hj, rfl⟩ := toN hk.1 hk.2
    obtain ⟨n1, n2, n3⟩ := H.1 j hj
    have ml : ((mir (nets j)).2.length : Int) = (nets j).2.length := by unfold mir; rw [List.length_map]
    refine op_chg (k := j) (N' := mir (nets j)) (r := (nets j).2.length) H hj (okN_mir n1) ?_ (fun h1 ms => ?_)
    · refine sX10_mirror ⟨fun _ => c_remember hj n1 n2 H.2.1 (fun g q1 q2 => ⟨by omega, sX3_reflect ?_⟩), fun c => absurd c (by omega)⟩
      have c2 : CNt g (4 * j) (nets j) := CNt_c (fun x y r1 r2 => q2 x y (by unfold aH; omega)) n2
      have hl := refl_loop (h := g) (a := 4 * j) (N := nets j) (Q := fun h5 => (ix j 4 ∧ nA (4 * j)) ∧ (h5 (4 * j) 1 = (nets j).2.length ∧ CP h h5 j (nets j) (mir (nets j)) hist)) (by omega) n1 c2 ?_ (nets j).2.length 0 (by omega) (by omega)
      · rw [show ((0 : Nat) : Int) = 0 by rfl, rfc_0] at hl; exact hl
      · have fr : ∀ x y, ¬ (x = 4 * (j : Int) + 1 ∨ x = 4 * (j : Int) + 2) → rfc g (4 * j + 1) (4 * j + 2) (nets j).1 0 (nets j).2.length x y = g x y := fun x y hx => by unfold rfc; rw [if_neg (by omega), if_neg (by omega)]
        have rm := Row_mir (h := g) (A := 4 * j + 1) (B := 4 * j + 2) (o := 0) (by omega) n1 c2.2.2
        rw [Int.zero_add] at rm
        refine ⟨by omega, by rw [fr _ _ (by omega)]; exact c2.2.1, HiC_f (fun x y hx => fr x y (by unfold aH at hx; omega)) q1, ⟨by rw [fr _ _ (by omega)]; exact c2.1, by rw [fr _ _ (by omega), ml]; exact c2.2.1, rm⟩, fun x y hx => ?_⟩
        unfold kC at hx
        rw [fr x y (by omega), q2 x y (by unfold aH; omega)]
    · obtain ⟨m1, m2, m3, m4, m5⟩ := ms
      refine sX11_mirror ⟨fun _ => m_remembers (nets := nets) (hist := hist) (fun j hj => (m1 j hj).1) m4 (fun j hj => (m1 j hj).2) m2 m3 (fun g q1 q2 => ⟨by omega, ?_⟩), fun c => absurd c (by omega)⟩
      have c2 : MNt g j (nets j) := MNt_c (fun x y r1 r2 => q2 x y (by omega)) (m1 j hj).2
      have l40 := n1.2.2.1
      have hl := mirr_loop (h := g) (k := j) (N := nets j) (Q := fun r2 h2 => r2 = (nets j).2.length ∧ MP h1 h2 nets hist j (mir (nets j))) hj n1 c2 ?_ (nets j).2.length 0 (by omega) (by omega)
      · rw [show (40 * (j : Int) + ((0 : Nat) : Int)) = 40 * j by omega, rfc_0] at hl; exact hl
      · have fr : ∀ x y, ¬ ((x = 106 ∨ x = 107) ∧ 40 * (j : Int) ≤ y ∧ y < 40 * j + 40) → rfc g 106 107 (nets j).1 (40 * j) (40 * j + (nets j).2.length) x y = g x y := fun x y hx => by unfold rfc; rw [if_neg (by omega), if_neg (by omega)]
        refine ⟨rfl, KpM_f (fun y => fr 112 y (by omega)) (fr 103 11 (by omega)) q1, ⟨by rw [fr _ _ (by omega)]; exact c2.1, by rw [fr _ _ (by omega), ml]; exact c2.2.1, Row_mir (by omega) n1 c2.2.2⟩, fun x y hx => ?_⟩
        unfold kM at hx
        rw [fr x y (by omega), q2 x y (by omega)]
  · exact sX10_mirror ⟨fun c => absurd c (by omega), fun _ => sX11_mirror ⟨fun c => absurd c (by omega), fun _ => ⟨rfl, hR⟩⟩⟩
