theorem op_beside {h : Hp} {a b c : Int} (hR : Rl h) : OpI 7 mX10_beside 3 mX11_beside [vi a, vi b, vi c] h := by
  obtain ⟨nets, hist, H⟩ := Rl_RlN hR
  by_cases hk : (0 ≤ a ∧ a < 4) ∧ (0 ≤ b ∧ b < 4) ∧ (0 ≤ c ∧ c < 4)
  · obtain ⟨i, hi, rfl⟩ := toN hk.1.1 hk.1.2
    obtain ⟨j, hj, rfl⟩ := toN hk.2.1.1 hk.2.1.2
    obtain ⟨k, hk3, rfl⟩ := toN hk.2.2.1 hk.2.2.2
    obtain ⟨i1, i2, i3⟩ := H.1 i hi
    obtain ⟨j1, j2, j3⟩ := H.1 j hj
    obtain ⟨k1, k2, k3⟩ := H.1 k hk3
    have li := i1.2.2.1
    have lj := j1.2.2.1
    have wi := i1.2.1
    have wj := j1.2.1
    have e1 := i2.1
    have e2 := i2.2.1
    have e3 := j2.1
    have e4 := j2.2.1
    have f1 := i3.1
    have f2 := i3.2.1
    have f3 := j3.1
    have f4 := j3.2.1
    by_cases hw : (nets i).1 + (nets j).1 ≤ 8
    · by_cases hl : (nets i).2.length + (nets j).2.length ≤ 40
      · have okA := okN_app (w := (nets i).1 + (nets j).1) (s := (nets i).1) i1 j1 (by have := i1.1; omega) hw hl (by omega) (by omega)
        refine op_chg (k := k) (N' := ((nets i).1 + (nets j).1, (nets i).2 ++ shf (nets i).1 (nets j).2)) (r := (nets i).1 + (nets j).1) H hk3 okA ?_ (fun h1 ms => ?_)
        · refine sX10_beside ⟨fun c => absurd c (by omega), fun _ => ⟨fun c => absurd c (by omega), fun _ => ⟨fun _ => ⟨by omega, fun x7 hx7 => ⟨fun _ => ⟨by omega, fun _ => ⟨by omega, ?_⟩, fun c => absurd c (by omega)⟩, fun c => absurd c (by omega)⟩⟩, fun c => absurd c (by omega)⟩⟩⟩
          have ex : x7 = ((nets i).1 : Int) + (nets j).1 := by omega
          have fr0 : ∀ x y, ¬ (16 ≤ x ∧ x ≤ 18) → up (up h 16 0 x7) 16 1 0 x y = h x y := fun x y hx => by rw [up_no (by omega), up_no (by omega)]
          refine c_pushAll (a := 16) (b := 4 * i) (w := (nets i).1 + (nets j).1) (s := 0) (w2 := (nets i).1) (cs := []) (ds := (nets i).2) (by omega) (by omega) (by omega) hw (by show 0 + _ ≤ 40; omega) (fun d hd => by have := i1.2.2.2 d hd; omega) (CNt_c (fun x y r1 r2 => fr0 x y (by omega)) i2) ⟨?_, ?_, Row_nil⟩ (fun g q1 q2 => ⟨by omega, ?_⟩)
          · rw [up_no (by omega), up_eq, ex]; show _ = (((nets i).1 + (nets j).1 : Nat) : Int); omega
          · rw [up_eq]; rfl
          · rw [shf_0, List.nil_append] at q1
            have fr1 : ∀ x y, ¬ (16 ≤ x ∧ x ≤ 18) → g x y = h x y := fun x y hx => by rw [q2 x y (by omega), fr0 x y hx]
            rw [fr1 (4 * i) 0 (by omega), e1]
            refine c_pushAll (a := 16) (b := 4 * j) (w := (nets i).1 + (nets j).1) (s := (nets i).1) (w2 := (nets j).1) (cs := (nets i).2) (ds := (nets j).2) (by omega) (by omega) (by omega) hw hl (fun d hd => by have := j1.2.2.2 d hd; omega) (CNt_c (fun x y r1 r2 => fr1 x y (by omega)) j2) q1 (fun g2 r1 r2 => ?_)
            have fr : ∀ x y, ¬ (16 ≤ x ∧ x ≤ 18) → g2 x y = h x y := fun x y hx => by rw [r2 x y (by omega), fr1 x y (by omega)]
            refine c_replace hk3 k1 okA (CNt_c (fun x y r1 r2 => fr x y (by omega)) k2) r1 (HiC_f (fun x y hx => fr x y (by unfold aH at hx; omega)) H.2.1) (fun g3 c3 => ⟨ex, c3.1, c3.2.1, fun x y hx => ?_⟩)
            rw [c3.2.2 x y hx, fr x y (by unfold kC at hx; omega)]
        · obtain ⟨m1, m2, m3, m4, m5⟩ := ms
          have g1 := (m1 i hi).2.1
          have g2 := (m1 i hi).2.2.1
          have g3 := (m1 j hj).2.1
          have g4 := (m1 j hj).2.2.1
          refine sX11_beside ⟨fun c => absurd c (by omega), fun _ => ⟨fun c => absurd c (by omega), fun _ => ⟨fun _ => ⟨by omega, fun _ => ⟨by omega, fun _ => ?_, fun c => absurd c (by omega)⟩, fun c => absurd c (by omega)⟩, fun c => absurd c (by omega)⟩⟩⟩
          refine m_remembers (nets := nets) (hist := hist) (fun j hj => (m1 j hj).1) m4 (fun j hj => (m1 j hj).2) m2 m3 (fun g q1 q2 => ?_)
          refine m_collects (k := i) (s := 0) (N := nets i) (cs := []) hi i1 (by omega) (by show 0 + _ ≤ 80; omega) (MNt_c (fun x y r1 r2 => q2 x y (by omega)) (m1 i hi).2) Row_nil (fun g2 r1 r2 => ⟨by omega, ?_⟩)
          rw [shf_0, List.nil_append] at r1 ⊢
          rw [r2 104 i (by omega), q2 104 i (by omega), g1]
          refine m_collects (k := j) (s := (nets i).1) (N := nets j) (cs := (nets i).2) hj j1 (by omega) (by omega) (MNt_c (fun x y p1 p2 => by rw [r2 x y (by omega), q2 x y (by omega)]) (m1 j hj).2) r1 (fun g3 s1 s2 => ?_)
          rw [s2 104 i (by omega), r2 104 i (by omega), q2 104 i (by omega), s2 104 j (by omega), r2 104 j (by omega), q2 104 j (by omega), g1, (m1 j hj).2.1]
          refine ⟨by omega, ?_⟩
          rw [show ((nets i).1 : Int) + (nets j).1 = (((nets i).1 + (nets j).1 : Nat) : Int) by omega]
          refine m_becomes (w := (nets i).1 + (nets j).1) hk3 okA.2.2.1 s1 (fun g4 t1 t2 => ⟨by omega, t1.1, MP_bec (g := g3) (KpM_f (fun y => by rw [s2 112 y (by omega), r2 112 y (by omega)]) (by rw [s2 103 11 (by omega), r2 103 11 (by omega)]) q1) (fun x y hx => ?_) t1 t2⟩)
          unfold kM at hx
          rw [s2 x y (by omega), r2 x y (by omega), q2 x y (by omega)]
      · refine sX10_beside ⟨fun c => absurd c (by omega), fun _ => ⟨fun c => absurd c (by omega), fun _ => ⟨fun _ => ⟨by omega, fun x7 hx7 => ⟨fun _ => ⟨by omega, fun c => absurd c (by omega), fun _ => ?_⟩, fun c => absurd c (by omega)⟩⟩, fun c => absurd c (by omega)⟩⟩⟩
        exact sX11_beside ⟨fun c => absurd c (by omega), fun _ => ⟨fun c => absurd c (by omega), fun _ => ⟨fun _ => ⟨by omega, fun _ => ⟨by omega, fun c => absurd c (by omega), fun _ => ⟨rfl, hR⟩⟩, fun c => absurd c (by omega)⟩, fun c => absurd c (by omega)⟩⟩⟩
    · refine sX10_beside ⟨fun c => absurd c (by omega), fun _ => ⟨fun c => absurd c (by omega), fun _ => ⟨fun _ => ⟨by omega, fun x7 hx7 => ⟨fun c => absurd c (by omega), fun _ => ?_⟩⟩, fun c => absurd c (by omega)⟩⟩⟩
      exact sX11_beside ⟨fun c => absurd c (by omega), fun _ => ⟨fun c => absurd c (by omega), fun _ => ⟨fun _ => ⟨by omega, fun c => absurd c (by omega), fun _ => ⟨rfl, hR⟩⟩, fun c => absurd c (by omega)⟩⟩⟩
  · have no : CI 3 mX11_beside [vr 103, vi a, vi b, vi c] h (fun r2 h2 => -1 = r2 ∧ Rl h2) := sX11_beside ⟨fun _ => ⟨rfl, hR⟩, fun _ => ⟨fun _ => ⟨rfl, hR⟩, fun _ => ⟨fun c => absurd c (by omega), fun _ => ⟨rfl, hR⟩⟩⟩⟩
    exact sX10_beside ⟨fun _ => no, fun _ => ⟨fun _ => no, fun _ => ⟨fun c => absurd c (by omega), fun _ => no⟩⟩⟩
