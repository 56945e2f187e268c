theorem op_layer {h : Hp} {k i : Int} (hR : Rl h) : OpI 3 mX10_layer 3 mX11_layer [vi k, vi i] h := by
  obtain ⟨nets, hist, H⟩ := Rl_RlN hR
  by_cases hk : 0 ≤ k ∧ k < 4
  · obtain ⟨j, hj, rfl⟩ := toN hk.1 hk.2
    obtain ⟨n1, n2, n3⟩ := H.1 j hj
    have e1 := n2.2.1
    have e2 := n3.2.1
    have l40 := n1.2.2.1
    have w8 := n1.2.1
    by_cases hi : 0 ≤ i ∧ i < ((nets j).2.length : Int)
    · obtain ⟨p, rfl⟩ : ∃ p : Nat, i = p := ⟨i.toNat, by omega⟩
      have hp : p < (nets j).2.length := by omega
      refine op_keep (r := ((lev (nets j).2 p : Nat) : Int)) H ?_ (fun h1 ms => ?_)
      · have A : CNt h (4 * j) ((nets j).1, (nets j).2.take p ++ (nets j).2.drop p) := by rw [List.take_append_drop]; exact n2
        refine sX10_layer ⟨by omega, fun c => absurd c (by omega), fun _ => ⟨by omega, sX3_levelAt ⟨by omega, fun _ => ⟨by omega, c_passLayers (by omega) w8 A (fun c hc => n1.2.2.2 c (List.mem_of_mem_take hc)) (by rw [List.length_take]; omega) (by omega) (fun g q1 q2 q3 => ?_)⟩, fun c => absurd c (by omega)⟩⟩⟩
        obtain ⟨a1, a2, a3, a4, _⟩ := row_at n2.2.2 n1.2.2.2 hp
        rw [Int.zero_add] at a1 a2
        rw [q3 (4 * j + 1) p (by omega), q3 (4 * j + 2) p (by omega), a1, a2, q1 _ (by omega), q1 _ (by omega)]
        refine ⟨by omega, ?_, fun x y hx => q3 x y (by unfold kC0 at hx; omega)⟩
        rw [lev_eq hp]
        unfold lvl P
        split <;> split <;> omega
      · have s1 := (ms.1 j hj).2.2.1
        refine sX11_layer ⟨by omega, fun _ => m_findsLayers hj n1 (ms.1 j hj).2 (fun g q1 q2 => ⟨by omega, q1 p hp, fun x y hx => q2 x y (by unfold kM0 at hx; omega)⟩), fun c => absurd c (by omega)⟩
    · exact sX10_layer ⟨by omega, fun _ => sX11_layer ⟨by omega, fun c => absurd c (by omega), fun _ => ⟨rfl, hR⟩⟩, fun c => absurd c (by omega)⟩
  · exact sX10_layer ⟨by omega, fun _ => sX11_layer ⟨by omega, fun c => absurd c (by omega), fun _ => ⟨rfl, hR⟩⟩, fun c => absurd c (by omega)⟩
