/-! the outputs: outputCount, sameOutputs -/
def dst (f : Nat → Nat) : Nat → List Nat
  | 0 => []
  | n + 1 => if f n ∈ dst f n then dst f n else dst f n ++ [f n]
theorem dst_i {f : Nat → Nat} {n : Nat} (h : f n ∈ dst f n) : dst f (n + 1) = dst f n := by rw [dst, if_pos h]
theorem dst_o {f : Nat → Nat} {n : Nat} (h : ¬ f n ∈ dst f n) : dst f (n + 1) = dst f n ++ [f n] := by rw [dst, if_neg h]
theorem dst_len {f : Nat → Nat} : ∀ n : Nat, (dst f n).length ≤ n
  | 0 => Nat.le_refl _
  | n + 1 => by
    have := dst_len (f := f) n
    by_cases q : f n ∈ dst f n
    · rw [dst_i q]; omega
    · rw [dst_o q, List.length_append, List.length_singleton]; omega
theorem dst_mem {f : Nat → Nat} {y : Nat} : ∀ n : Nat, y ∈ dst f n ↔ ∃ x : Nat, x < n ∧ f x = y
  | 0 => ⟨fun h => absurd h List.not_mem_nil, fun ⟨x, h, _⟩ => absurd h (by omega)⟩
  | n + 1 => by
    have ih := dst_mem (f := f) (y := y) n
    constructor
    · intro h
      have h2 : y ∈ dst f n ∨ y = f n := by
        by_cases q : f n ∈ dst f n
        · rw [dst_i q] at h; exact Or.inl h
        · rw [dst_o q, List.mem_append, List.mem_singleton] at h; exact h
      rcases h2 with h2 | h2
      · obtain ⟨x, h3, h4⟩ := ih.1 h2
        exact ⟨x, by omega, h4⟩
      · exact ⟨n, by omega, h2.symm⟩
    · rintro ⟨x, h1, h2⟩
      by_cases q : f n ∈ dst f n
      · rw [dst_i q]
        by_cases e : x = n
        · rw [← h2, e]; exact q
        · exact ih.2 ⟨x, by omega, h2⟩
      · rw [dst_o q, List.mem_append, List.mem_singleton]
        by_cases e : x = n
        · right; rw [← h2, e]
        · left; exact ih.2 ⟨x, by omega, h2⟩
theorem dst_nd {f : Nat → Nat} : ∀ n : Nat, (dst f n).Nodup
  | 0 => List.nodup_nil
  | n + 1 => by
    have ih := dst_nd (f := f) n
    by_cases q : f n ∈ dst f n
    · rw [dst_i q]; exact ih
    · rw [dst_o q]
      refine List.nodup_append.2 ⟨ih, by simp, fun a ha b hb => ?_⟩
      rw [List.mem_singleton] at hb
      intro e
      rw [e, hb] at ha
      exact q ha
def st1 (h : Hp) (r : Int) (L : List Nat) : Prop := ∀ y : Nat, y < 256 → h r y = if y ∈ L then 1 else 0
def OS (h : Hp) (o : Int) (w : Nat) (L : List Nat) : Prop := h o 2 = w ∧ h o 3 = L.length ∧ st1 h (o + 1) L ∧ ∀ (i : Nat) (hi : i < L.length), h (o + 2) i = ((L[i]'hi : Nat) : Int)
theorem lo_bits {y v : Nat} : (y % 2 ^ v) ||| (if y.testBit v then 2 ^ v else 0) = y % 2 ^ (v + 1) := by
  apply Nat.eq_of_testBit_eq
  intro i
  rw [Nat.testBit_or, Nat.testBit_mod_two_pow, Nat.testBit_mod_two_pow]
  cases hb : y.testBit v with
  | true =>
    rw [if_pos rfl, Nat.testBit_two_pow]
    by_cases q : i = v
    · subst q; simp [hb]
    · have q2 : ¬ v = i := fun e => q e.symm
      by_cases q3 : i < v
      · simp [q2, q3, show i < v + 1 by omega]
      · simp [q2, q3, show ¬ i < v + 1 by omega]
  | false =>
    rw [if_neg (by decide), Nat.zero_testBit]
    by_cases q : i = v
    · subst q; simp [hb]
    · by_cases q3 : i < v
      · simp [q3, show i < v + 1 by omega]
      · simp [q3, show ¬ i < v + 1 by omega]
theorem or_lane {y v : Nat} (hv : v < 8) (hy : y < 256) : j_ior ((y % 2 ^ v : Nat) : Int) (j_ishl (if y.testBit v then 1 else 0) v) = ((y % 2 ^ (v + 1) : Nat) : Int) := by
  have h1 : y % 2 ^ v < 256 := Nat.lt_of_le_of_lt (Nat.mod_le _ _) hy
  have h2 : 2 ^ v < 2 ^ 8 := p_lt hv
  rw [← lo_bits]
  cases hb : y.testBit v with
  | true =>
    rw [if_pos rfl, if_pos rfl, jshl1 (by omega)]
    exact jor (by omega) (by omega)
  | false =>
    rw [if_neg (by decide), if_neg (by decide)]
    have : j_ishl 0 v = ((0 * 2 ^ v : Nat) : Int) := jshl (a := 0) (by omega) (by rw [Nat.zero_mul]; omega)
    rw [Nat.zero_mul] at this
    rw [this]
    exact jor (by omega) (by omega)
theorem c_of {h : Hp} {w x : Nat} {f : Nat → Nat} {Q : Int → Hp → Prop} (hw : w ≤ 8) (S : SW h w f) (hx : x < 64 * wds w) (hf : f x < 2 ^ w) (hq : Q (f x : Nat) h) : ∀ (m v : Nat), v + m = w → E 1 mX7_outputFor 4 [(0, vr 83), (1, vi x), (2, vi ((f x % 2 ^ v : Nat) : Int)), (3, vi v)] [] h (qi Q)
  | 0, v, hm => by
    have e := S.1
    have ev : v = w := by omega
    subst ev
    refine sX7_outputFor_4 ⟨fun _ => ?_, fun c => absurd c (by omega)⟩
    rw [Nat.mod_eq_of_lt hf]
    exact hq
  | m + 1, v, hm => by
    have e := S.1
    have wr := wds_r hw
    have h256 := p256 hw
    have ed : j_idiv x 64 = ((x / 64 : Nat) : Int) := jdiv (b := 64) (by omega) (by omega)
    have em : j_irem x 64 = ((x % 64 : Nat) : Int) := jrem (b := 64) (by omega) (by omega)
    obtain ⟨L, l1, l2⟩ := S.2.2 v (x / 64) (by omega) (by omega)
    have l3 := l2 (x % 64) (Nat.mod_lt _ (by decide))
    rw [Nat.div_add_mod] at l3
    refine sX7_outputFor_4 ⟨fun c => absurd c (by omega), fun _ => ?_⟩
    rw [ed, em, l1, jlbit (Nat.mod_lt _ (by decide)), l3, or_lane (by omega) (by omega)]
    refine ⟨by omega, fun x4 hx4 => ⟨by omega, ?_⟩⟩
    subst hx4
    rw [show (v : Int) + 1 = ((v + 1 : Nat) : Int) by omega]
    exact c_of hw S hx hf hq m (v + 1) (by omega)
theorem c_outputFor {h : Hp} {w x : Nat} {f : Nat → Nat} {Q : Int → Hp → Prop} (hw : w ≤ 8) (S : SW h w f) (hx : x < 64 * wds w) (hf : f x < 2 ^ w) (hq : Q (f x : Nat) h) : CI 1 mX7_outputFor [vr 83, vi x] h Q := by
  refine sX7_outputFor ?_
  have := c_of hw S hx hf hq w 0 (by omega)
  rw [Nat.pow_zero, Nat.mod_one] at this
  exact this
theorem st1_add {h : Hp} {r : Int} {L : List Nat} {y : Nat} (H : st1 h r L) : st1 (up h r y 1) r (L ++ [y]) := by
  intro z hz
  by_cases q : z = y
  · subst q
    rw [up_eq, if_pos (List.mem_append_right _ (List.mem_singleton.2 rfl))]
  · rw [up_no (by omega), H z hz]
    have : (z ∈ L ++ [y]) ↔ z ∈ L := by
      rw [List.mem_append, List.mem_singleton]
      exact ⟨fun a => a.elim id (fun b => absurd b q), Or.inl⟩
    by_cases q2 : z ∈ L
    · rw [if_pos q2, if_pos (this.2 q2)]
    · rw [if_neg q2, if_neg (fun c => q2 (this.1 c))]
theorem c_ga {o : Int} {w : Nat} {f : Nat → Nat} {Q : Hp → Prop} (ho : o = 85 ∨ o = 88) (hw : w ≤ 8) (hf : ∀ x : Nat, x < 2 ^ w → f x < 2 ^ w) : ∀ (m n : Nat) (h : Hp), n + m = 2 ^ w → SW h w f → OS h o w (dst f n) → (∀ g : Hp, OS g o w (dst f (2 ^ w)) → (∀ x y : Int, ¬ (o ≤ x ∧ x ≤ o + 2) → g x y = h x y) → Q g) → E 2 mX4_gather 37 [(0, vr o), (1, vr 83), (2, vi n)] [] h (qv Q)
  | 0, n, h, hm, S, O, hq => by
    have e1 : j_ishl 1 (h o 2) = ((2 ^ w : Nat) : Int) := by rw [O.1]; exact jshl1 (by omega)
    have en : n = 2 ^ w := by omega
    refine sX4_gather_37 ⟨by omega, fun _ => hq h ?_ (fun _ _ _ => rfl), fun c => absurd c (by omega)⟩
    rw [← en]; exact O
  | m + 1, n, h, hm, S, O, hq => by
    obtain ⟨o1, o2, o3, o4⟩ := O
    have h256 := p256 hw
    have e1 : j_ishl 1 (h o 2) = ((2 ^ w : Nat) : Int) := by rw [o1]; exact jshl1 (by omega)
    have wp := wds_p hw
    have fn := hf n (by omega)
    have dl := dst_len (f := f) n
    refine sX4_gather_37 ⟨by omega, fun c => absurd c (by omega), fun _ => c_outputFor hw S (by omega) fn ?_⟩
    have hy := o3 (f n) (by omega)
    refine ⟨⟨by omega, by omega⟩, fun c => ⟨by omega, ?_⟩, fun c => ?_⟩
    · have hm2 : f n ∈ dst f n := by
        by_cases q : f n ∈ dst f n
        · exact q
        · rw [if_neg q] at hy; exact absurd hy c
      rw [show (n : Int) + 1 = ((n + 1 : Nat) : Int) by omega]
      exact c_ga ho hw hf m (n + 1) h (by omega) S (by rw [dst_i hm2]; exact ⟨o1, o2, o3, o4⟩) hq
    · have hm2 : ¬ f n ∈ dst f n := by
        intro q
        rw [if_pos q] at hy
        rw [hy] at c
        exact absurd c (by decide)
      have u3 : up h (o + 1) (f n : Nat) 1 o 3 = (dst f n).length := by rw [up_no (by omega)]; exact o2
      rw [u3]
      have u4 : up (up h (o + 1) (f n : Nat) 1) (o + 2) ((dst f n).length : Int) (f n : Nat) o 3 = (dst f n).length := by rw [up_no (by omega)]; exact u3
      rw [u4]
      refine ⟨by omega, ?_⟩
      have fr : ∀ x y : Int, ¬ (o ≤ x ∧ x ≤ o + 2) → up (up (up h (o + 1) (f n : Nat) 1) (o + 2) ((dst f n).length : Int) (f n : Nat)) o 3 (((dst f n).length : Int) + 1) x y = h x y := fun x y hx => by rw [up_no (by omega), up_no (by omega), up_no (by omega)]
      rw [show (n : Int) + 1 = ((n + 1 : Nat) : Int) by omega]
      refine c_ga ho hw hf m (n + 1) _ (by omega) (SW_c S (fun y => ⟨fr _ _ (by omega), fr _ _ (by omega)⟩) (fun _ _ => rfl)) ?_ (fun g p1 p2 => hq g p1 (fun x y hx => by rw [p2 x y hx, fr x y hx]))
      rw [dst_o hm2]
      refine ⟨?_, ?_, fun z hz => ?_, fun i hi => ?_⟩
      · rw [up_no (by omega), up_no (by omega), up_no (by omega)]; exact o1
      · rw [up_eq, List.length_append, List.length_singleton]; omega
      · have := st1_add o3 (y := f n) z hz
        rw [up_no (by omega), up_no (by omega)]
        exact this
      · rw [List.length_append, List.length_singleton] at hi
        rw [up_no (by omega)]
        by_cases q : i < (dst f n).length
        · rw [up_no (by omega), up_no (by omega), o4 i q, List.getElem_append_left q]
        · have ei : i = (dst f n).length := by omega
          subst ei
          rw [up_eq, List.getElem_append_right (Nat.le_refl _)]
          simp
theorem c_gz {o : Int} {Q : Hp → Prop} (ho : o = 85 ∨ o = 88) : ∀ (m n : Nat) (h : Hp), n + m = 256 → (∀ y : Nat, y < n → h (o + 1) y = 0) → (∀ g : Hp, (∀ y : Nat, y < 256 → g (o + 1) y = 0) → (∀ x y : Int, x ≠ o + 1 → g x y = h x y) → E 2 mX4_gather 37 [(0, vr o), (1, vr 83), (2, vi 0)] [] g (qv Q)) → E 2 mX4_gather 15 [(0, vr o), (1, vr 83), (2, vi n)] [] h (qv Q)
  | 0, n, h, hm, I, hq => sX4_gather_15 ⟨fun _ => hq h (fun y hy => I y (by omega)) (fun _ _ _ => rfl), fun c => absurd c (by omega)⟩
  | m + 1, n, h, hm, I, hq => by
    refine sX4_gather_15 ⟨fun c => absurd c (by omega), fun _ => ⟨by omega, ?_⟩⟩
    rw [show (n : Int) + 1 = ((n + 1 : Nat) : Int) by omega]
    refine c_gz ho m (n + 1) _ (by omega) (fun y hy => ?_) (fun g p1 p2 => hq g p1 (fun x y hx => by rw [p2 x y hx, up_no (by omega)]))
    by_cases q : y = n
    · subst q; rw [up_eq]
    · rw [up_no (by omega)]; exact I y (by omega)
theorem c_gather {h : Hp} {o : Int} {w : Nat} {f : Nat → Nat} {Q : Hp → Prop} (ho : o = 85 ∨ o = 88) (hw : w ≤ 8) (hf : ∀ x : Nat, x < 2 ^ w → f x < 2 ^ w) (S : SW h w f) (hq : ∀ g : Hp, OS g o w (dst f (2 ^ w)) → (∀ x y : Int, ¬ (o ≤ x ∧ x ≤ o + 2) → g x y = h x y) → Q g) : CV 2 mX4_gather [vr o, vr 83] h Q := by
  refine sX4_gather ⟨by omega, c_gz ho 256 0 _ (by omega) (fun y hy => absurd hy (by omega)) (fun g p1 p2 => ?_)⟩
  have fr : ∀ x y : Int, ¬ (o ≤ x ∧ x ≤ o + 2) → g x y = h x y := fun x y hx => by rw [p2 x y (by omega), up_no (by omega), up_no (by omega)]
  refine c_ga ho hw hf (2 ^ w) 0 g (by omega) (SW_c S (fun y => ⟨fr _ _ (by omega), fr _ _ (by omega)⟩) (fun _ _ => rfl)) ⟨?_, ?_, fun y hy => ?_, fun i hi => absurd hi (Nat.not_lt_zero _)⟩ (fun g2 q1 q2 => hq g2 q1 (fun x y hx => by rw [q2 x y hx, fr x y hx]))
  · rw [p2 _ _ (by omega), up_no (by omega), up_eq]; exact S.1
  · rw [p2 _ _ (by omega), up_eq]; rfl
  · rw [p1 y hy]; rfl
theorem c_outs {h : Hp} {a o : Int} {N : NetT} {Q : Hp → Prop} (ho : o = 85 ∨ o = 88) (ha : nA a) (hok : okN N) (A : CNt h a N) (hq : ∀ g : Hp, OS g o N.1 (dst (cry N.2) (2 ^ N.1)) → (∀ x y : Int, ¬ (x = 83 ∨ x = 84 ∨ (o ≤ x ∧ x ≤ o + 2)) → g x y = h x y) → Q g) : CV 3 mX10_gatherOutputs [vr 68, vr a, vr o] h Q := by
  refine sX10_gatherOutputs (c_passAll ha hok A (fun g S fr => ⟨by omega, ?_⟩))
  have S2 : SW g N.1 (cry N.2) := by
    rw [skp_no _ _ (by omega)] at S
    exact S
  exact c_gather ho hok.2.1 (fun x hx => cry_lt N.2 x hok.2.2.2 hx) S2 (fun g2 q1 q2 => hq g2 q1 (fun x y hx => by rw [q2 x y (by omega), fr x y (by omega)]))
/-! the reference's side -/
theorem m_fi {k : Nat} {r : Int} {N : NetT} {Q : Int → Hp → Prop} (hr : r = 119 ∨ r = 120 ∨ r = 124) (hk : k < 4) (hok : okN N) : ∀ (m n : Nat) (h : Hp), n + m = 2 ^ N.1 → MNt h k N → st1 h r (dst (cry N.2) n) → (∀ g : Hp, st1 g r (dst (cry N.2) (2 ^ N.1)) → (∀ x y : Int, x ≠ r → g x y = h x y) → Q ((dst (cry N.2) (2 ^ N.1)).length : Nat) g) → E 1 mX11_finds 24 [(0, vr 103), (1, vi k), (2, vr r), (3, vi ((dst (cry N.2) n).length : Nat)), (4, vi n)] [] h (qi Q)
  | 0, n, h, hm, M, O, hq => by
    have w8 := hok.2.1
    have e1 : j_ishl 1 (h 104 k) = ((2 ^ N.1 : Nat) : Int) := by rw [M.1]; exact jshl1 (by omega)
    have en : n = 2 ^ N.1 := by omega
    subst en
    exact sX11_finds_24 ⟨by omega, fun _ => hq h O (fun _ _ _ => rfl), fun c => absurd c (by omega)⟩
  | m + 1, n, h, hm, M, O, hq => by
    have w8 := hok.2.1
    have h256 := p256 w8
    have e1 : j_ishl 1 (h 104 k) = ((2 ^ N.1 : Nat) : Int) := by rw [M.1]; exact jshl1 (by omega)
    have fn := cry_lt N.2 n hok.2.2.2 (w := N.1) (by omega)
    have dl := dst_len (f := cry N.2) n
    have hy := O (cry N.2 n) (by omega)
    refine sX11_finds_24 ⟨by omega, fun c => absurd c (by omega), fun _ => m_makes hk hok M (by omega) ?_⟩
    rw [skp_no _ _ (by omega)]
    have ec : (((dst (cry N.2) n).length : Nat) : Int) + (if h r (cry N.2 n : Nat) = 0 then (1 : Int) else 0) = ((dst (cry N.2) (n + 1)).length : Nat) := by
      by_cases q : cry N.2 n ∈ dst (cry N.2) n
      · rw [if_pos q] at hy
        rw [dst_i q, hy, if_neg (by decide)]; omega
      · rw [if_neg q] at hy
        rw [dst_o q, hy, if_pos rfl, List.length_append, List.length_singleton]; omega
    have dl2 := dst_len (f := cry N.2) (n + 1)
    rw [ec]
    refine ⟨⟨by omega, by omega⟩, by omega, fun x8 hx8 => ⟨by omega, ?_⟩⟩
    subst hx8
    rw [show (n : Int) + 1 = ((n + 1 : Nat) : Int) by omega]
    refine m_fi hr hk hok m (n + 1) _ (by omega) (MNt_c (fun x y p1 p2 => by rw [up_no (by omega)]) M) ?_ (fun g p1 p2 => hq g p1 (fun x y hx => by rw [p2 x y hx, up_no (by omega)]))
    by_cases q : cry N.2 n ∈ dst (cry N.2) n
    · rw [dst_i q]
      intro z hz
      by_cases e : z = cry N.2 n
      · subst e; rw [up_eq, if_pos q]
      · rw [up_no (by omega)]; exact O z hz
    · rw [dst_o q]
      exact st1_add O
theorem m_fz {k : Nat} {r : Int} {Q : Int → Hp → Prop} (hr : r = 119 ∨ r = 120 ∨ r = 124) : ∀ (m n : Nat) (h : Hp), n + m = 256 → (∀ y : Nat, y < n → h r y = 0) → (∀ g : Hp, (∀ y : Nat, y < 256 → g r y = 0) → (∀ x y : Int, x ≠ r → g x y = h x y) → E 1 mX11_finds 24 [(0, vr 103), (1, vi k), (2, vr r), (3, vi 0), (4, vi 0)] [] g (qi Q)) → E 1 mX11_finds 2 [(0, vr 103), (1, vi k), (2, vr r), (3, vi n)] [] h (qi Q)
  | 0, n, h, hm, I, hq => sX11_finds_2 ⟨fun _ => hq h (fun y hy => I y (by omega)) (fun _ _ _ => rfl), fun c => absurd c (by omega)⟩
  | m + 1, n, h, hm, I, hq => by
    refine sX11_finds_2 ⟨fun c => absurd c (by omega), fun _ => ⟨by omega, ?_⟩⟩
    rw [show (n : Int) + 1 = ((n + 1 : Nat) : Int) by omega]
    refine m_fz hr m (n + 1) _ (by omega) (fun y hy => ?_) (fun g p1 p2 => hq g p1 (fun x y hx => by rw [p2 x y hx, up_no (by omega)]))
    by_cases q : y = n
    · subst q; rw [up_eq]
    · rw [up_no (by omega)]; exact I y (by omega)
theorem m_finds {h : Hp} {k : Nat} {r : Int} {N : NetT} {Q : Int → Hp → Prop} (hr : r = 119 ∨ r = 120 ∨ r = 124) (hk : k < 4) (hok : okN N) (M : MNt h k N) (hq : ∀ g : Hp, st1 g r (dst (cry N.2) (2 ^ N.1)) → (∀ x y : Int, x ≠ r → g x y = h x y) → Q ((dst (cry N.2) (2 ^ N.1)).length : Nat) g) : CI 1 mX11_finds [vr 103, vi k, vr r] h Q := by
  refine sX11_finds (m_fz hr 256 0 h (by omega) (fun y hy => absurd hy (by omega)) (fun g p1 p2 => ?_))
  exact m_fi hr hk hok (2 ^ N.1) 0 g (by omega) (MNt_c (fun x y q1 q2 => p2 x y (by omega)) M) (fun y hy => by rw [p1 y hy]; rfl) (fun g2 q1 q2 => hq g2 q1 (fun x y hx => by rw [q2 x y hx, p2 x y hx]))
theorem op_outputCount {h : Hp} {k : Int} (hR : Rl h) : OpI 4 mX10_outputCount 2 mX11_outputCount [vi k] h := by
  obtain ⟨nets, hist, H⟩ := Rl_RlN hR
  by_cases hk : 0 ≤ k ∧ k < 4
  · obtain ⟨j, hj, rfl⟩ := toN hk.1 hk.2
    obtain ⟨n1, n2, n3⟩ := H.1 j hj
    refine op_keep (r := ((dst (cry (nets j).2) (2 ^ (nets j).1)).length : Nat)) H ?_ (fun h1 ms => ?_)
    · exact sX10_outputCount ⟨fun _ => ⟨by omega, c_outs (N := nets j) (Or.inl rfl) (by omega) n1 n2 (fun g O fr => ⟨O.2.1, fun x y hx => fr x y (by unfold kC0 at hx; omega)⟩)⟩, fun c => absurd c (by omega)⟩
    · obtain ⟨m1, m2, m3, m4, e⟩ := ms
      exact sX11_outputCount ⟨fun c => absurd c (by omega), fun _ => m_finds (N := nets j) (Or.inl rfl) hj n1 (m1 j hj).2 (fun g O fr => ⟨rfl, fun x y hx => fr x y (by unfold kM0 at hx; omega)⟩)⟩
  · exact sX10_outputCount ⟨fun c => absurd c (by omega), fun _ => sX11_outputCount ⟨fun _ => ⟨rfl, hR⟩, fun c => absurd c (by omega)⟩⟩
def sameS (L L' : List Nat) : Nat → Bool := fun y => !(decide (y ∈ L) == decide (y ∈ L'))
theorem st1_eq {h : Hp} {a b : Int} {L L' : List Nat} {y : Nat} (A : st1 h a L) (B : st1 h b L') (hy : y < 256) : (h a y = h b y) ↔ sameS L L' y = false := by
  rw [A y hy, B y hy]
  unfold sameS
  by_cases q : y ∈ L <;> by_cases q2 : y ∈ L' <;> simp [q, q2]
theorem c_eqt {h : Hp} {L L' : List Nat} {Q : Int → Hp → Prop} (A : st1 h 86 L) (B : st1 h 89 L') (hq : ∀ r : Int, IsE (sameS L L') 256 r → Q (1 - r) h) : ∀ (m n : Nat), n + m = 256 → (∀ y : Nat, y < n → sameS L L' y = false) → E 0 mX4_equalTo 2 [(0, vr 85), (1, vr 88), (2, vi n)] [] h (qi Q)
  | 0, n, hm, I => sX4_equalTo_2 ⟨fun _ => hq 0 (Or.inl ⟨rfl, fun x hx => I x (by omega)⟩), fun c => absurd c (by omega)⟩
  | m + 1, n, hm, I => by
    have key := st1_eq A B (y := n) (by omega)
    refine sX4_equalTo_2 ⟨fun c => absurd c (by omega), fun _ => ⟨by omega, fun c => ⟨by omega, ?_⟩, fun c => ?_⟩⟩
    · rw [show (n : Int) + 1 = ((n + 1 : Nat) : Int) by omega]
      refine c_eqt A B hq m (n + 1) (by omega) (fun y hy => ?_)
      by_cases q : y = n
      · rw [q]; exact key.1 c
      · exact I y (by omega)
    · have : Q (1 - 1) h := hq 1 (Or.inr ⟨rfl, n, by omega, by
        cases hb : sameS L L' n with
        | true => rfl
        | false => exact absurd (key.2 hb) c⟩)
      exact this
theorem m_eqt {h : Hp} {L L' : List Nat} {Q : Int → Hp → Prop} (A : st1 h 119 L) (B : st1 h 120 L') (hq : ∀ r : Int, IsE (sameS L L') 256 r → Q (1 - r) h) : ∀ (m n : Nat), n + m = 256 → (∀ y : Nat, y < n → sameS L L' y = false) → E 3 mX11_sameOutputs 38 [(0, vr 103), (6, vi n)] [] h (qi Q)
  | 0, n, hm, I => sX11_sameOutputs_38 ⟨fun _ => hq 0 (Or.inl ⟨rfl, fun x hx => I x (by omega)⟩), fun c => absurd c (by omega)⟩
  | m + 1, n, hm, I => by
    have key := st1_eq A B (y := n) (by omega)
    refine sX11_sameOutputs_38 ⟨fun c => absurd c (by omega), fun _ => ⟨by omega, fun c => ⟨by omega, ?_⟩, fun c => ?_⟩⟩
    · rw [show (n : Int) + 1 = ((n + 1 : Nat) : Int) by omega]
      refine m_eqt A B hq m (n + 1) (by omega) (fun y hy => ?_)
      by_cases q : y = n
      · rw [q]; exact key.1 c
      · exact I y (by omega)
    · have : Q (1 - 1) h := hq 1 (Or.inr ⟨rfl, n, by omega, by
        cases hb : sameS L L' n with
        | true => rfl
        | false => exact absurd (key.2 hb) c⟩)
      exact this
theorem op_sameOutputs {h : Hp} {a b : Int} (hR : Rl h) : OpI 4 mX10_sameOutputs 3 mX11_sameOutputs [vi a, vi b] h := by
  obtain ⟨nets, hist, H⟩ := Rl_RlN hR
  by_cases hk : (0 ≤ a ∧ a < 4) ∧ (0 ≤ b ∧ b < 4)
  · obtain ⟨i, hi, rfl⟩ := toN hk.1.1 hk.1.2
    obtain ⟨j, hj, rfl⟩ := toN hk.2.1 hk.2.2
    obtain ⟨i1, i2, i3⟩ := H.1 i hi
    obtain ⟨j1, j2, j3⟩ := H.1 j hj
    have e1 := i2.1
    have e2 := j2.1
    have e3 := i3.1
    have e4 := j3.1
    by_cases hw : (nets i).1 = (nets j).1
    · obtain ⟨r, hr⟩ := IsE_ex (sameS (dst (cry (nets i).2) (2 ^ (nets i).1)) (dst (cry (nets j).2) (2 ^ (nets j).1))) 256
      have r01 : r = 0 ∨ r = 1 := by
        rcases hr with a | a
        · exact Or.inl a.1
        · exact Or.inr a.1
      refine op_keep (r := 1 - r) H ?_ (fun h1 ms => ?_)
      · refine sX10_sameOutputs ⟨fun c => absurd c (by omega), fun _ => ⟨fun _ => ⟨by omega, fun _ => ⟨by omega, ?_⟩, fun c => absurd c (by omega)⟩, fun c => absurd c (by omega)⟩⟩
        refine c_outs (N := nets i) (Or.inl rfl) (by omega) i1 i2 (fun g O fr => ⟨by omega, ?_⟩)
        refine c_outs (N := nets j) (Or.inr rfl) (by omega) j1 (CNt_c (fun x y p1 p2 => fr x y (by omega)) j2) (fun g2 O2 fr2 => ?_)
        have A : st1 g2 86 (dst (cry (nets i).2) (2 ^ (nets i).1)) := fun y hy => by
          rw [fr2 _ _ (by omega)]
          exact O.2.2.1 y hy
        refine sX4_equalTo (c_eqt A O2.2.2.1 (fun r' hr' => ⟨?_, fun x y hx => ?_⟩) 256 0 (by omega) (fun y hy => absurd hy (by omega)))
        · rw [← IsE_u hr hr']
          rcases r01 with q | q <;> rw [q] <;> rfl
        · unfold kC0 at hx
          rw [fr2 x y (by omega), fr x y (by omega)]
      · obtain ⟨m1, m2, m3, m4, e⟩ := ms
        have g1 := (m1 i hi).2.1
        have g2 := (m1 j hj).2.1
        refine sX11_sameOutputs ⟨⟨fun _ => by omega, fun _ => by omega⟩, fun x2 hx2 => ?_⟩
        rw [if_neg (by omega), if_pos (by omega), if_pos (by omega)] at hx2
        refine ⟨fun _ => ?_, fun c => absurd c (by omega)⟩
        refine m_finds (N := nets i) (Or.inl rfl) hi i1 (m1 i hi).2 (fun g O fr => ?_)
        refine m_finds (N := nets j) (Or.inr (Or.inl rfl)) hj j1 (MNt_c (fun x y p1 p2 => fr x y (by omega)) (m1 j hj).2) (fun g2 O2 fr2 => ?_)
        refine m_eqt (fun y hy => by rw [fr2 _ _ (by omega)]; exact O y hy) O2 (fun r' hr' => ⟨?_, fun x y hx => ?_⟩) 256 0 (by omega) (fun y hy => absurd hy (by omega))
        · rw [IsE_u hr hr']
        · unfold kM0 at hx
          rw [fr2 x y (by omega), fr x y (by omega)]
    · have no : CI 3 mX11_sameOutputs [vr 103, vi i, vi j] h (fun r2 h2 => -2 = r2 ∧ Rl h2) := by
        refine sX11_sameOutputs ⟨⟨fun _ => by omega, fun _ => by omega⟩, fun x2 hx2 => ?_⟩
        rw [if_neg (by omega), if_pos (by omega), if_neg (by omega)] at hx2
        exact ⟨fun c => absurd c (by omega), fun _ => ⟨hx2.symm, hR⟩⟩
      exact sX10_sameOutputs ⟨fun c => absurd c (by omega), fun _ => ⟨fun _ => ⟨by omega, fun c => absurd c (by omega), fun _ => no⟩, fun c => absurd c (by omega)⟩⟩
  · have no : CI 3 mX11_sameOutputs [vr 103, vi a, vi b] h (fun r2 h2 => -1 = r2 ∧ Rl h2) := by
      refine sX11_sameOutputs ⟨⟨fun c => absurd c (by omega), fun c => absurd c (by omega)⟩, fun x2 hx2 => ?_⟩
      have hx : x2 = -1 := by
        rw [hx2]
        by_cases q : a < 0 ∨ a > 3
        · rw [if_pos q]
        · rw [if_neg q, if_neg (by omega)]
      exact ⟨fun c => absurd c (by omega), fun _ => ⟨hx.symm, hR⟩⟩
    exact sX10_sameOutputs ⟨fun _ => no, fun _ => ⟨fun c => absurd c (by omega), fun _ => no⟩⟩
