/-! parse, the reference's side -/
def fW (g h : Hp) : Prop := ∀ x y : Int, ¬ (x = 103 ∧ (y = 18 ∨ y = 19 ∨ y = 20)) → g x y = h x y
def St (h : Hp) (T : Nat → Int) (n i u : Nat) : Prop := h 103 18 = i ∧ h 103 19 = u ∧ h 103 20 = 0 ∧ h 103 9 = n ∧ ∀ j : Nat, j < n → h 111 j = T j
theorem o00 : j_ior 0 0 = 0 := by decide +kernel
theorem o01 : j_ior 0 1 = 1 := by decide +kernel
theorem o10 : j_ior 1 0 = 1 := by decide +kernel
theorem o11 : j_ior 1 1 = 1 := by decide +kernel
theorem cd_ex {h : Hp} {T : Nat → Int} {n i u : Nat} (st : St h T n i u) : ∃ c : Int, (if (h 103 18) ≥ (h 103 9) then (-1) else (h 111 (h 103 18))) = c ∧ (i < n → c = T i) ∧ (¬ i < n → c = -1) := by
  obtain ⟨s1, s2, s3, s4, s5⟩ := st
  refine ⟨_, rfl, fun hi => ?_, fun hi => ?_⟩
  · rw [if_neg (by omega), s1]; exact s5 i hi
  · rw [if_pos (by omega)]
theorem m_wire {h : Hp} {k w n i u : Nat} {T : Nat → Int} {Q : Int → Hp → Prop} (hk : k < 4) (hw2 : 2 ≤ w) (hw : w ≤ 8) (hn : n ≤ 60) (hT : ∀ i : Nat, i < n → 33 ≤ T i ∧ T i ≤ 126) (ew : h 104 k = w) (st : St h T n i u) (hi : i ≤ n) (hu : u < 256) (A : wk T n w i u = true → ∀ g : Hp, St g T n (i + 1) (u ||| 2 ^ xT T i) → fW g h → Q (xT T i) g) (B : ¬ wk T n w i u = true → ∀ g : Hp, g 103 20 = 1 → g 103 18 = i → g 103 9 = n → fW g h → Q 0 g) : CI 1 mX11_wire [vr 103, vi k] h Q := by
  obtain ⟨c, ec, ec1, ec2⟩ := cd_ex st
  obtain ⟨s1, s2, s3, s4, s5⟩ := st
  have rc : -1 ≤ c ∧ c ≤ 126 := by
    by_cases q : i < n
    · have := hT i q; have := ec1 q; omega
    · have := ec2 q; omega
  refine sX11_wire ?_
  rw [ec]
  refine ⟨⟨fun _ => by omega, by omega⟩, fun x2 hx2 => ⟨⟨by omega, by omega⟩, ?_⟩⟩
  by_cases a : wk T n w i u = true
  · obtain ⟨a1, a2, a3, a4⟩ := wk_t a
    have ex : x2 = ((xT T i : Nat) : Int) := by have := ec1 a1; unfold xT; omega
    have hx : xT T i < 8 := by unfold xT; omega
    have ci : (if (x2 < 0 ∨ x2 > ((h 104 k) - 1)) ∨ ((j_iand (j_ishr (h 103 19) x2) 1) = 1) then (1 : Int) else 0) = 0 := by
      refine if_neg ?_
      intro q
      rcases q with q | q
      · have := ec1 a1; omega
      · rw [ex, s2, jbit (by omega) (by omega), a4] at q
        exact absurd q (by decide)
    rw [ci, s3, o00]
    refine ⟨Or.inl rfl, fun _ => ⟨by omega, ?_⟩, fun q => absurd rfl q⟩
    rw [or_bit s2 ex hu hx, ex]
    refine A a _ ⟨?_, ?_, ?_, ?_, fun j hj => ?_⟩ (fun x y hx => ?_)
    · rw [up_eq]; omega
    · rw [up_no (by omega), up_eq]
    · rw [up_no (by omega), up_no (by omega), up_eq]
    · rw [up_no (by omega), up_no (by omega), up_no (by omega)]; exact s4
    · rw [up_no (by omega), up_no (by omega), up_no (by omega)]; exact s5 j hj
    · rw [up_no (by omega), up_no (by omega), up_no (by omega)]
  · have a' := wk_f a
    have ci : (if (x2 < 0 ∨ x2 > ((h 104 k) - 1)) ∨ ((j_iand (j_ishr (h 103 19) x2) 1) = 1) then (1 : Int) else 0) = 1 := by
      refine if_pos ?_
      by_cases q : x2 < 0 ∨ x2 > ((h 104 k) - 1)
      · exact Or.inl q
      · right
        have q0 : i < n := by
          by_cases q1 : i < n
          · exact q1
          · have := ec2 q1; omega
        have q1 := ec1 q0
        have ex : x2 = ((xT T i : Nat) : Int) := by unfold xT; omega
        rw [ex, s2, jbit (by unfold xT; omega) (by omega)]
        cases hb : u.testBit (xT T i) with
        | false => exact absurd ⟨q0, by omega, by omega, hb⟩ a'
        | true => rfl
    rw [ci, s3, o01]
    refine ⟨Or.inr rfl, fun q => absurd q (by decide), fun _ => B a _ ?_ ?_ ?_ (fun x y hx => ?_)⟩
    · rw [up_eq]
    · rw [up_no (by omega)]; exact s1
    · rw [up_no (by omega)]; exact s4
    · rw [up_no (by omega)]
theorem m_sign {h : Hp} {n i u : Nat} {T : Nat → Int} {Q : Hp → Prop} (hn : n ≤ 60) (st : St h T n i u) (hi : i ≤ n) (A : (i < n ∧ T i = 58) → ∀ g : Hp, St g T n (i + 1) u → fW g h → Q g) (B : ¬ (i < n ∧ T i = 58) → ∀ g : Hp, g 103 20 = 1 → g 103 18 = i → g 103 9 = n → fW g h → Q g) : CV 1 mX11_sign [vr 103, vi 58] h Q := by
  obtain ⟨c, ec, ec1, ec2⟩ := cd_ex st
  obtain ⟨s1, s2, s3, s4, s5⟩ := st
  refine sX11_sign ?_
  rw [ec, s3]
  refine ⟨fun _ => by omega, ?_⟩
  by_cases a : i < n ∧ T i = 58
  · have ci : (if c ≠ 58 then (1 : Int) else 0) = 0 := if_neg (by have := ec1 a.1; omega)
    rw [ci, o00, if_pos rfl]
    refine ⟨Or.inl rfl, by omega, A a _ ⟨?_, ?_, ?_, ?_, fun j hj => ?_⟩ (fun x y hx => ?_)⟩
    · rw [up_eq]; omega
    · rw [up_no (by omega), up_no (by omega)]; exact s2
    · rw [up_no (by omega), up_eq]
    · rw [up_no (by omega), up_no (by omega)]; exact s4
    · rw [up_no (by omega), up_no (by omega)]; exact s5 j hj
    · rw [up_no (by omega), up_no (by omega)]
  · have ci : (if c ≠ 58 then (1 : Int) else 0) = 1 := by
      refine if_pos ?_
      by_cases q : i < n
      · have := ec1 q; omega
      · have := ec2 q; omega
    rw [ci, o01, if_neg (by decide)]
    refine ⟨Or.inr rfl, by omega, B a _ ?_ ?_ ?_ (fun x y hx => ?_)⟩
    · rw [up_no (by omega), up_eq]
    · rw [up_eq]; omega
    · rw [up_no (by omega), up_no (by omega)]; exact s4
    · rw [up_no (by omega), up_no (by omega)]
theorem m_bad {g : Hp} {k l2 r k0 : Int} {n i : Nat} {Q : Int → Hp → Prop} (b : g 103 20 = 1) (e18 : g 103 18 = i) (e9 : g 103 9 = n) (hn : n ≤ 60) (hi : i ≤ n) (hq : ∀ g' : Hp, g' 103 20 = 1 → g' 103 18 = i → fW g' g → E 2 mX11_parse 174 [(0, vr 103), (1, vi k), (2, vi l2)] [] g' (qi Q)) : E 2 mX11_parse 73 [(0, vr 103), (1, vi k), (2, vi l2), (4, vi r)] [vi k0] g (qi Q) := by
  have ci : (if ((g 103 20) = 0) ∧ ((if (g 103 18) ≥ (g 103 9) then (-1) else (g 111 (g 103 18))) = 44 ∨ (if (g 103 18) ≥ (g 103 9) then (-1) else (g 111 (g 103 18))) = 59) then (1 : Int) else 0) = 0 := if_neg (by omega)
  refine sX11_parse_73 ⟨fun _ => sX11_parse_101 ?_, fun c => absurd c (by omega)⟩
  rw [ci]
  refine ⟨⟨fun _ _ => by omega, fun _ _ => by omega⟩, fun _ => by omega, by omega, sX11_parse_33 ⟨fun _ => hq _ ?_ ?_ (fun x y hx => ?_), fun c => absurd rfl c⟩⟩
  · rw [up_no (by omega), up_no (by omega)]; exact b
  · rw [up_eq]; omega
  · rw [up_no (by omega), up_no (by omega)]
theorem m_rd {k w n : Nat} {T : Nat → Int} {Q : Int → Hp → Prop} (hk : k < 4) (hw2 : 2 ≤ w) (hw : w ≤ 8) (hn : n ≤ 60) (hT : ∀ i : Nat, i < n → 33 ≤ T i ∧ T i ≤ 126) : ∀ (m i u : Nat) (cs : List (Nat × Nat)) (zl : Int) (h : Hp), zl = cs.length → St h T n i u → h 104 k = w → Row h 117 118 0 cs → i ≤ n → 4 * cs.length ≤ i → n < i + 4 * m → u < 256 → (∀ (g : Hp) (z : Int), z = (rd T n w m i u cs).2.length → Row g 117 118 0 (rd T n w m i u cs).2 → (∀ x y : Int, ¬ (x = 117 ∨ x = 118 ∨ (x = 103 ∧ (y = 18 ∨ y = 19 ∨ y = 20))) → g x y = h x y) → ((rd T n w m i u cs).1 = -1 → g 103 20 = 0 ∧ (n : Int) ≤ g 103 18) → ((rd T n w m i u cs).1 ≠ -1 → g 103 18 = (rd T n w m i u cs).1 ∧ (g 103 20 = 1 ∨ (g 103 20 = 0 ∧ g 103 18 < n))) → E 2 mX11_parse 174 [(0, vr 103), (1, vi k), (2, vi z)] [] g (qi Q)) → E 2 mX11_parse 33 [(0, vr 103), (1, vi k), (2, vi zl), (3, vi 1)] [] h (qi Q)
  | 0, i, u, cs, zl, h, ez, st, ew, hr, hi, hl, hm, hu, hq => absurd hm (by omega)
  | m + 1, i, u, cs, zl, h, ez, st, ew, hr, hi, hl, hm, hu, hq => by
    have rowW : ∀ (g g' : Hp) (L : List (Nat × Nat)), fW g' g → Row g 117 118 0 L → Row g' 117 118 0 L := fun g g' L f R p hp => by rw [f _ _ (by omega), f _ _ (by omega)]; exact R p hp
    refine sX11_parse_33 ⟨fun c => absurd c (by decide), fun _ => m_wire hk hw2 hw hn hT ew st hi hu (fun a g1 st1 f1 => ⟨fun c => absurd st1.2.2.1 c, fun _ => ?_⟩) (fun a g1 b18 b20 b9 f1 => ⟨fun _ => ?_, fun c => absurd c (by omega)⟩)⟩
    · obtain ⟨a1, a2, a3, a4⟩ := wk_t a
      have hx0 : xT T i < 8 := by unfold xT; omega
      have hu1 := or8 hu hx0
      refine m_sign hn st1 (by omega) (fun b g2 st2 f2 => ?_) (fun b g2 c20 c18 c9 f2 => ?_)
      · refine sX11_parse_57 ⟨fun _ => ?_, fun c => absurd st2.2.2.1 c⟩
        refine m_wire (i := i + 2) hk hw2 hw hn hT (by rw [f2 _ _ (by omega), f1 _ _ (by omega)]; exact ew) st2 (by omega) hu1 (fun c g3 st3 f3 => ?_) (fun c g3 d20 d18 d9 f3 => ?_)
        · obtain ⟨c1, c2, c3, c4⟩ := wk_t c
          have hx2 : xT T (i + 2) < 8 := by unfold xT; omega
          have hu2 := or8 hu1 hx2
          refine sX11_parse_73 ⟨fun d => absurd st3.2.2.1 d, fun _ => ⟨by omega, ?_⟩⟩
          have f13 : fW g3 h := fun x y hx => by rw [f3 x y hx, f2 x y hx, f1 x y hx]
          have hr3 := rowW h g3 cs f13 hr
          have sn := Row_snoc (h' := up (up g3 117 zl (xT T i)) 118 zl (xT T (i + 2))) (f := xT T i) (t := xT T (i + 2)) hr3 (fun y hy => ⟨by rw [up_no (by omega), up_no (by omega)], by rw [up_no (by omega), up_no (by omega)]⟩) ⟨by rw [up_no (by omega), show (0 : Int) + cs.length = zl by omega, up_eq], by rw [show (0 : Int) + cs.length = zl by omega, up_eq]⟩
          have fr4 : ∀ x y : Int, ¬ (x = 117 ∨ x = 118 ∨ (x = 103 ∧ (y = 18 ∨ y = 19 ∨ y = 20))) → up (up g3 117 zl (xT T i)) 118 zl (xT T (i + 2)) x y = h x y := fun x y hx => by rw [up_no (by omega), up_no (by omega), f13 x y (by omega)]
          have st4 : St (up (up g3 117 zl (xT T i)) 118 zl (xT T (i + 2))) T n (i + 3) (u ||| 2 ^ xT T i ||| 2 ^ xT T (i + 2)) := by
            obtain ⟨s1, s2, s3, s4, s5⟩ := st3
            refine ⟨?_, ?_, ?_, ?_, fun j hj => ?_⟩
            · rw [up_no (by omega), up_no (by omega)]; exact s1
            · rw [up_no (by omega), up_no (by omega)]; exact s2
            · rw [up_no (by omega), up_no (by omega)]; exact s3
            · rw [up_no (by omega), up_no (by omega)]; exact s4
            · rw [up_no (by omega), up_no (by omega)]; exact s5 j hj
          have fl : (cs ++ [(xT T i, xT T (i + 2))]).length = cs.length + 1 := by rw [List.length_append, List.length_singleton]
          generalize up (up g3 117 zl (xT T i)) 118 zl (xT T (i + 2)) = g4 at st4 sn fr4
          obtain ⟨cc, ec, ec1, ec2⟩ := cd_ex st4
          obtain ⟨s1, s2, s3, s4, s5⟩ := st4
          refine sX11_parse_101 ?_
          rw [ec]
          refine ⟨⟨fun _ _ => by omega, fun _ _ => by omega⟩, fun _ => by omega, ?_⟩
          by_cases d : i + 3 < n
          · have ed := ec1 d
            by_cases e : T (i + 3) = 44
            · rw [if_pos (c := g4 103 20 = 0 ∧ _) ⟨s3, Or.inl (by omega)⟩, if_pos (c := cc ≠ 59) (by omega)]
              refine ⟨by omega, ?_⟩
              rw [rd_e a ⟨b.1, b.2⟩ c d e] at hq
              refine m_rd hk hw2 hw hn hT m (i + 4) _ (cs ++ [(xT T i, xT T (i + 2))]) _ _ (by omega) ⟨?_, ?_, ?_, ?_, fun j hj => ?_⟩ ?_ (fun p hp => ?_) (by omega) (by omega) (by omega) hu2 (fun g5 z t0 t1 t2 t3 t4 => hq g5 z t0 t1 (fun x y hx => ?_) t3 t4)
              · rw [up_eq]; omega
              · rw [up_no (by omega), up_eq]; exact s2
              · rw [up_no (by omega), up_no (by omega)]; exact s3
              · rw [up_no (by omega), up_no (by omega)]; exact s4
              · rw [up_no (by omega), up_no (by omega)]; exact s5 j hj
              · rw [up_no (by omega), up_no (by omega), fr4 _ _ (by omega)]; exact ew
              · rw [up_no (by omega), up_no (by omega), up_no (by omega), up_no (by omega)]; exact sn p hp
              · rw [t2 x y hx, up_no (by omega), up_no (by omega), fr4 x y hx]
            · by_cases f : T (i + 3) = 59
              · rw [if_pos (c := g4 103 20 = 0 ∧ _) ⟨s3, Or.inr (by omega)⟩, if_neg (c := cc ≠ 59) (by omega)]
                refine ⟨by omega, ?_⟩
                rw [rd_f a ⟨b.1, b.2⟩ c d e f] at hq
                refine m_rd hk hw2 hw hn hT m (i + 4) 0 (cs ++ [(xT T i, xT T (i + 2))]) _ _ (by omega) ⟨?_, ?_, ?_, ?_, fun j hj => ?_⟩ ?_ (fun p hp => ?_) (by omega) (by omega) (by omega) (by omega) (fun g5 z t0 t1 t2 t3 t4 => hq g5 z t0 t1 (fun x y hx => ?_) t3 t4)
                · rw [up_eq]; omega
                · rw [up_no (by omega), up_eq]; rfl
                · rw [up_no (by omega), up_no (by omega)]; exact s3
                · rw [up_no (by omega), up_no (by omega)]; exact s4
                · rw [up_no (by omega), up_no (by omega)]; exact s5 j hj
                · rw [up_no (by omega), up_no (by omega), fr4 _ _ (by omega)]; exact ew
                · rw [up_no (by omega), up_no (by omega), up_no (by omega), up_no (by omega)]; exact sn p hp
                · rw [t2 x y hx, up_no (by omega), up_no (by omega), fr4 x y hx]
              · rw [if_neg (c := g4 103 20 = 0 ∧ _) (by omega)]
                refine ⟨by omega, ?_⟩
                rw [rd_g a ⟨b.1, b.2⟩ c d e f] at hq
                refine sX11_parse_33 ⟨fun _ => hq _ _ ?_ (fun p hp => ?_) (fun x y hx => ?_) (fun q => ?_) (fun q => ⟨?_, Or.inr ⟨?_, ?_⟩⟩), fun c => absurd rfl c⟩
                · show zl + 1 = ((cs ++ [(xT T i, xT T (i + 2))]).length : Int); omega
                · rw [up_no (by omega), up_no (by omega), up_no (by omega), up_no (by omega)]; exact sn p hp
                · rw [up_no (by omega), up_no (by omega), fr4 x y hx]
                · have q : (i : Int) + 3 = -1 := q
                  exact absurd q (by omega)
                · rw [up_eq]; show _ = (i : Int) + 3; omega
                · rw [up_no (by omega), up_no (by omega)]; exact s3
                · rw [up_eq]; omega
          · have ed := ec2 d
            rw [if_neg (c := g4 103 20 = 0 ∧ _) (by omega)]
            refine ⟨by omega, ?_⟩
            rw [rd_d a ⟨b.1, b.2⟩ c d] at hq
            refine sX11_parse_33 ⟨fun _ => hq _ _ ?_ (fun p hp => ?_) (fun x y hx => ?_) (fun q => ⟨?_, ?_⟩) (fun q => absurd rfl q), fun c => absurd rfl c⟩
            · show zl + 1 = ((cs ++ [(xT T i, xT T (i + 2))]).length : Int); omega
            · rw [up_no (by omega), up_no (by omega), up_no (by omega), up_no (by omega)]; exact sn p hp
            · rw [up_no (by omega), up_no (by omega), fr4 x y hx]
            · rw [up_no (by omega), up_no (by omega)]; exact s3
            · rw [up_eq]; omega
        · rw [rd_c a ⟨b.1, b.2⟩ c] at hq
          refine m_bad d20 d18 d9 hn (by omega) (fun g' q1 q2 q3 => hq g' _ ez (rowW h g' cs (fun x y hx => by rw [q3 x y hx, f3 x y hx, f2 x y hx, f1 x y hx]) hr) (fun x y hx => by rw [q3 x y (by omega), f3 x y (by omega), f2 x y (by omega), f1 x y (by omega)]) (fun q => ?_) (fun q => ⟨?_, Or.inl q1⟩))
          · have q : (i : Int) + 2 = -1 := q
            exact absurd q (by omega)
          · show _ = (i : Int) + 2; omega
      · have b' : ¬ (i + 1 < n ∧ T (i + 1) = 58) := b
        rw [rd_b a b'] at hq
        refine sX11_parse_57 ⟨fun c => absurd c (by omega), fun _ => m_bad c20 c18 c9 hn (by omega) (fun g' q1 q2 q3 => hq g' _ ez (rowW h g' cs (fun x y hx => by rw [q3 x y hx, f2 x y hx, f1 x y hx]) hr) (fun x y hx => by rw [q3 x y (by omega), f2 x y (by omega), f1 x y (by omega)]) (fun q => ?_) (fun q => ⟨?_, Or.inl q1⟩))⟩
        · have q : (i : Int) + 1 = -1 := q
          exact absurd q (by omega)
        · show _ = (i : Int) + 1; omega
    · rw [rd_a a] at hq
      refine sX11_parse_57 ⟨fun c => absurd c (by omega), fun _ => m_bad b18 b20 b9 hn hi (fun g' q1 q2 q3 => hq g' _ ez (rowW h g' cs (fun x y hx => by rw [q3 x y hx, f1 x y hx]) hr) (fun x y hx => by rw [q3 x y (by omega), f1 x y (by omega)]) (fun q => ?_) (fun q => ⟨?_, Or.inl q1⟩))⟩
      · have q : (i : Int) = -1 := q
        exact absurd q (by omega)
      · show _ = (i : Int); omega
theorem rd_rg {T : Nat → Int} {n w : Nat} : ∀ (m i u : Nat) (cs : List (Nat × Nat)), i ≤ n → (rd T n w m i u cs).1 = -1 ∨ (0 ≤ (rd T n w m i u cs).1 ∧ (rd T n w m i u cs).1 ≤ n)
  | 0, i, u, cs, h1 => Or.inl rfl
  | m + 1, i, u, cs, h1 => by
    by_cases a : wk T n w i u = true
    · have a' := (wk_t a).1
      by_cases b : i + 1 < n ∧ T (i + 1) = 58
      · by_cases c : wk T n w (i + 2) (u ||| 2 ^ xT T i) = true
        · by_cases d : i + 3 < n
          · by_cases e : T (i + 3) = 44
            · rw [rd_e a b c d e]
              exact rd_rg m (i + 4) _ _ (by omega)
            · by_cases f : T (i + 3) = 59
              · rw [rd_f a b c d e f]
                exact rd_rg m (i + 4) _ _ (by omega)
              · rw [rd_g a b c d e f]
                right
                show 0 ≤ (i : Int) + 3 ∧ (i : Int) + 3 ≤ n
                omega
          · rw [rd_d a b c d]
            exact Or.inl rfl
        · rw [rd_c a b c]
          right
          show 0 ≤ (i : Int) + 2 ∧ (i : Int) + 2 ≤ n
          omega
      · rw [rd_b a b]
        right
        show 0 ≤ (i : Int) + 1 ∧ (i : Int) + 1 ≤ n
        omega
    · rw [rd_a a]
      right
      show 0 ≤ (i : Int) ∧ (i : Int) ≤ n
      omega
theorem m_put {k w : Nat} {acc : List (Nat × Nat)} {Q : Int → Hp → Prop} (hk : k < 4) (hl : acc.length ≤ 40) : ∀ (m j : Nat) (h : Hp), MNt h k (w, acc.take j) → Row h 117 118 0 acc → j ≤ acc.length → m = acc.length - j → (∀ g : Hp, MNt g k (w, acc) → (∀ x y : Int, ¬ ((x = 105 ∧ y = k) ∨ ((x = 106 ∨ x = 107) ∧ 40 * (k : Int) ≤ y ∧ y < 40 * k + 40)) → g x y = h x y) → Q acc.length g) → E 2 mX11_parse 233 [(0, vr 103), (1, vi k), (2, vi acc.length), (4, vi j)] [] h (qi Q)
  | 0, j, h, M, A, h1, h2, hq => by
    refine sX11_parse_233 ⟨fun _ => hq h ?_ (fun _ _ _ => rfl), fun c => absurd c (by omega)⟩
    rw [List.take_of_length_le (by omega)] at M; exact M
  | m + 1, j, h, M, A, h1, h2, hq => by
    have hj : j < acc.length := by omega
    obtain ⟨b1, b2⟩ := A j hj
    rw [Int.zero_add] at b1 b2
    have lt : (acc.take j).length = j := by rw [List.length_take]; omega
    refine sX11_parse_233 ⟨fun c => absurd c (by omega), fun _ => ⟨by omega, ?_⟩⟩
    rw [b1, b2]
    refine m_puts (N := (w, acc.take j)) (p := j) hk M (by show j ≤ (acc.take j).length; omega) (by show (acc.take j).length < 40; omega) (fun g r1 r2 => ⟨by omega, ?_⟩)
    have r1 : MNt g k (w, ins (acc.take j) j ((acc[j]).1, (acc[j]).2)) := r1
    have ie : ins (acc.take j) j ((acc[j]).1, (acc[j]).2) = acc.take (j + 1) := by
      have := ins_end (cs := acc.take j) (c := ((acc[j]).1, (acc[j]).2))
      rw [lt] at this
      rw [this]
      exact (List.take_succ_eq_append_getElem hj).symm
    rw [ie] at r1
    refine m_put hk hl m (j + 1) g r1 (fun p hp => ?_) (by omega) (by omega) (fun g2 q1 q2 => hq g2 q1 (fun x y hx => by rw [q2 x y hx, r2 x y hx]))
    rw [r2 _ _ (by omega), r2 _ _ (by omega)]
    exact A p hp
/-! both sides, with the text emptied -/
theorem Txt_0 {h : Hp} (h1 : h 73 1 = 0) (h2 : h 103 9 = 0) : Txt h := ⟨by rw [h1, h2], by omega, by omega, fun i q1 q2 => absurd q2 (by omega)⟩
theorem chg_RlT {h h1 h2 : Hp} {nets : Nat → NetT} {hist : List (Nat × NetT)} {k : Nat} {N' : NetT} (hN : Nts h nets) (hK : Key h) (hR : Tri h) (hS : Shl h) (hk : k < 4) (ok : okN N') (c1 : HiC h1 (((k, nets k) :: hist).take 12)) (c2 : CNt h1 (4 * k) N') (c3 : ∀ x y : Int, kC k x → x ≠ 73 → h1 x y = h x y) (m1 : KpM h2 nets hist (if hist.length + 1 > 12 then 12 else hist.length + 1)) (m2 : MNt h2 k N') (m3 : ∀ x y : Int, kM k x y → ¬ (x = 103 ∧ y = 9) → h2 x y = h1 x y) (hT : Txt h2) : Rl h2 := by
  have lo : ∀ x y : Int, x ≤ 102 → h2 x y = h1 x y := fun x y hx => m3 x y (Or.inl hx) (by omega)
  have bo : ∀ x y : Int, kM k x y → kC k x → x ≠ 73 → ¬ (x = 103 ∧ y = 9) → h2 x y = h x y := fun x y q1 q2 q3 q4 => (m3 x y q1 q4).trans (c3 x y q2 q3)
  refine ⟨RNH_chg (nets := nets) (hist := hist) (k := k) (N' := N') (fun j hj => (hN j hj).1) ok (HiC_f (fun x y hx => lo x y (by unfold aH at hx; omega)) c1) (CNt_c (fun x y q1 q2 => lo x y (by omega)) c2) (fun j hj hne => CNt_c (fun x y q1 q2 => bo x y (Or.inl (by omega)) (Or.inl (by omega)) (by omega) (by omega)) (hN j hj).2.1) m1 m2 (fun j hj hne => ?_), hT, Key_c (fun x y q => ?_) hK, Tri_c (fun x y q => ?_) hR, Shl_c (fun x y q => ?_) hS⟩
  · obtain ⟨r1, r2, r3⟩ := (hN j hj).2.2
    have l40 := (hN j hj).1.2.2.1
    refine ⟨?_, ?_, fun p hp => ?_⟩
    · rw [bo _ _ (by unfold kM; omega) (by unfold kC; omega) (by omega) (by omega)]; exact r1
    · rw [bo _ _ (by unfold kM; omega) (by unfold kC; omega) (by omega) (by omega)]; exact r2
    · rw [bo _ _ (by unfold kM; omega) (by unfold kC; omega) (by omega) (by omega), bo _ _ (by unfold kM; omega) (by unfold kC; omega) (by omega) (by omega)]; exact r3 p hp
  · unfold aK at q; exact bo x y (by unfold kM; omega) (by unfold kC; omega) (by omega) (by omega)
  · unfold aR at q; exact bo x y (by unfold kM; omega) (by unfold kC; omega) (by omega) (by omega)
  · unfold aS at q; exact bo x y (by unfold kM; omega) (by unfold kC; omega) (by omega) (by omega)
theorem keep_RlT {h h2 : Hp} {nets : Nat → NetT} {hist : List (Nat × NetT)} (H : RlN h nets hist) (bo : ∀ x y : Int, kC0 x → kM0 x y → x ≠ 73 → ¬ (x = 103 ∧ y = 9) → h2 x y = h x y) (hT : Txt h2) : Rl h2 := by
  obtain ⟨hN, hC, hM, _, hK, hR, hS⟩ := H
  refine ⟨⟨nets, hist, fun j hj => ⟨(hN j hj).1, CNt_c (fun x y q1 q2 => bo x y (by unfold kC0; omega) (by unfold kM0; omega) (by omega) (by omega)) (hN j hj).2.1, MNt_c (fun x y q1 q2 => bo x y (by unfold kC0; omega) (by unfold kM0; omega) (by omega) (by omega)) (hN j hj).2.2⟩, HiC_f (fun x y hx => bo x y (by unfold aH at hx; unfold kC0; omega) (by unfold aH at hx; unfold kM0; omega) (by unfold aH at hx; omega) (by unfold aH at hx; omega)) hC, ⟨by rw [bo _ _ (by unfold kC0; omega) (by unfold kM0; omega) (by omega) (by omega)]; exact hM.1, fun t ht i hi => KNt_c (fun y => bo _ y (by unfold kC0; omega) (by unfold kM0; omega) (by omega) (by omega)) (hM.2 t ht i hi)⟩⟩, hT, Key_c (fun x y q => ?_) hK, Tri_c (fun x y q => ?_) hR, Shl_c (fun x y q => ?_) hS⟩
  · unfold aK at q; exact bo x y (by unfold kC0; omega) (by unfold kM0; omega) (by omega) (by omega)
  · unfold aR at q; exact bo x y (by unfold kC0; omega) (by unfold kM0; omega) (by omega) (by omega)
  · unfold aS at q; exact bo x y (by unfold kC0; omega) (by unfold kM0; omega) (by omega) (by omega)
theorem op_parse {h : Hp} {k : Int} (hR : Rl h) : OpI 7 mX10_parse 2 mX11_parse [vi k] h := by
  obtain ⟨nets, hist, H⟩ := Rl_RlN hR
  obtain ⟨hN, hC, hM, hT, hK, hTr, hS⟩ := id H
  obtain ⟨t1, t2, t3, t4⟩ := hT
  obtain ⟨n, en⟩ : ∃ n : Nat, h 73 1 = n := ⟨(h 73 1).toNat, by omega⟩
  obtain ⟨T, eT⟩ : ∃ T : Nat → Int, ∀ i : Nat, h 74 i = T i := ⟨fun i => h 74 i, fun _ => rfl⟩
  have hTr2 : ∀ i : Nat, i < n → 33 ≤ T i ∧ T i ≤ 126 := fun i hi => by
    have := t4 i (by omega) (by omega)
    have := eT i
    omega
  have hT111 : ∀ i : Nat, i < n → h 111 i = T i := fun i hi => by
    have := t4 i (by omega) (by omega)
    rw [this.1, eT i]
  by_cases hk : 0 ≤ k ∧ k < 4
  · obtain ⟨j, hj, rfl⟩ := toN hk.1 hk.2
    obtain ⟨n1, n2, n3⟩ := hN j hj
    have cw := n2.1
    have w2 := n1.1
    have w8 := n1.2.1
    obtain ⟨R, eR⟩ : ∃ R, R = rd T n (nets j).1 (n + 1) 0 0 [] := ⟨_, rfl⟩
    obtain ⟨k1, k2⟩ := rd_ok (T := T) (n := n) (w := (nets j).1) (by omega) (n + 1) 0 0 [] (by omega) (by show 4 * 0 ≤ 0; omega) (fun c hc => absurd hc List.not_mem_nil)
    have rg := rd_rg (T := T) (n := n) (w := (nets j).1) (n + 1) 0 0 [] (by omega)
    rw [← eR] at k1 k2 rg
    have ok : okN ((nets j).1, R.2) := ⟨w2, w8, k1, k2⟩
    have fr0 : ∀ x y : Int, ¬ (16 ≤ x ∧ x ≤ 18) → up (up h 16 0 (nets j).1) 16 1 0 x y = h x y := fun x y hx => by rw [up_no (by omega), up_no (by omega)]
    have C : ∀ Q : Int → Hp → Prop, (∀ g : Hp, CNt g 16 ((nets j).1, R.2) → (∀ x y : Int, ¬ (16 ≤ x ∧ x ≤ 18) → g x y = h x y) → Q R.1 g) → CI 3 mX8_readInto [vr 73, vr 16] (up (up h 16 0 (nets j).1) 16 1 0) Q := fun Q hq => by
      refine sX8_readInto (c_rd (T := T) (n := n) (w := (nets j).1) w8 (by omega) hTr2 (n + 1) 0 0 [] 0 _ ⟨?_, ?_, Row_nil⟩ ?_ (fun i hi => ?_) (by omega) (by show 4 * 0 ≤ 0; omega) (by omega) (by omega) (fun g r1 r2 => ?_))
      · rw [up_no (by omega), up_eq]
      · rw [up_eq]; rfl
      · rw [fr0 _ _ (by omega)]; exact en
      · rw [fr0 _ _ (by omega)]; exact eT i
      · rw [← eR] at r1 ⊢
        exact hq g r1 (fun x y hx => by rw [r2 x y hx, fr0 x y hx])
    have M : ∀ (h1 : Hp) (Q : Int → Hp → Prop), MS h h1 nets hist → (∀ g : Hp, Row g 117 118 0 R.2 → (∀ x y : Int, ¬ (x = 117 ∨ x = 118 ∨ (x = 103 ∧ (y = 18 ∨ y = 19 ∨ y = 20))) → g x y = h1 x y) → (R.1 = -1 → g 103 20 = 0 ∧ (n : Int) ≤ g 103 18) → (R.1 ≠ -1 → g 103 18 = R.1 ∧ (g 103 20 = 1 ∨ (g 103 20 = 0 ∧ g 103 18 < n))) → E 2 mX11_parse 174 [(0, vr 103), (1, vi j), (2, vi R.2.length)] [] g (qi Q)) → CI 2 mX11_parse [vr 103, vi j] h1 Q := fun h1 Q ms hq => by
      obtain ⟨m1, m2, m3, m4, e⟩ := ms
      refine sX11_parse ⟨fun _ => ?_, fun c => absurd c (by omega)⟩
      refine m_rd (T := T) (n := n) (w := (nets j).1) hj w2 w8 (by omega) hTr2 (n + 1) 0 0 [] 0 _ rfl ⟨?_, ?_, ?_, ?_, fun i hi => ?_⟩ ?_ Row_nil (by omega) (by show 4 * 0 ≤ 0; omega) (by omega) (by omega) (fun g z r0 r1 r2 r3 r4 => ?_)
      · rw [up_no (by omega), up_no (by omega), up_eq]; rfl
      · rw [up_no (by omega), up_eq]; rfl
      · rw [up_eq]
      · rw [up_no (by omega), up_no (by omega), up_no (by omega), e _ _ (by omega)]; omega
      · rw [up_no (by omega), up_no (by omega), up_no (by omega), e _ _ (by omega)]; exact hT111 i hi
      · rw [up_no (by omega), up_no (by omega), up_no (by omega)]; exact (m1 j hj).2.1
      · rw [← eR] at r0 r1 r3 r4
        rw [r0]
        exact hq g r1 (fun x y hx => by rw [r2 x y hx, up_no (by omega), up_no (by omega), up_no (by omega)]) r3 r4
    by_cases hr : R.1 = -1
    · have C2 : CI 7 mX10_parse [vr 68, vi j] h (fun r1 h1 => r1 = R.2.length ∧ HiC h1 (((j, nets j) :: hist).take 12) ∧ CNt h1 (4 * j) ((nets j).1, R.2) ∧ (∀ x y : Int, kC j x → x ≠ 73 → h1 x y = h x y) ∧ h1 73 1 = 0) := by
        refine sX10_parse ⟨fun c => absurd c (by omega), fun _ => ⟨⟨by omega, by omega, by omega⟩, ?_⟩⟩
        rw [cw]
        refine C _ (fun g r1 r2 => ⟨fun c => absurd hr c, fun _ => ?_⟩)
        refine c_replace hj n1 ok (CNt_c (fun x y p1 p2 => r2 x y (by omega)) n2) r1 (HiC_f (fun x y hx => r2 x y (by unfold aH at hx; omega)) hC) (fun g3 c3 => ⟨rfl, HiC_f (fun x y hx => ?_) c3.1, CNt_c (fun x y p1 p2 => ?_) c3.2.1, fun x y hx h73 => ?_, ?_⟩)
        · rw [up_no (by unfold aH at hx; omega)]
        · rw [up_no (by omega)]
        · rw [up_no (by omega), c3.2.2 x y hx, r2 x y (by unfold kC at hx; omega)]
        · rw [up_eq]
      refine CI_mono C2 (fun r1 h1 c => ?_)
      obtain ⟨c0, c1, c2, c3, c4⟩ := c
      have ms := MS_of H (h1 := h1) (fun x y hx => c3 x y (Or.inr (Or.inr hx)) (by omega))
      refine M h1 _ ms (fun g q1 q2 q3 q4 => ?_)
      obtain ⟨m1, m2, m3, m4, e⟩ := ms
      have f1 := (q3 hr).1
      have f2 := (q3 hr).2
      have g9 : g 103 9 = n := by rw [q2 _ _ (by omega), e _ _ (by omega)]; omega
      have ci : j_ior (g 103 20) (if (g 103 18) < (g 103 9) then (1 : Int) else 0) = 0 := by rw [f1, if_neg (by omega)]; exact o00
      refine sX11_parse_174 ?_
      rw [ci]
      refine ⟨Or.inl rfl, fun _ => ?_, fun c => absurd rfl c⟩
      have fr5 : ∀ x y : Int, ¬ (x = 117 ∨ x = 118 ∨ (x = 103 ∧ (y = 9 ∨ y = 18 ∨ y = 19 ∨ y = 20))) → up (up g 103 20 0) 103 9 0 x y = h1 x y := fun x y hx => by rw [up_no (by omega), up_no (by omega), q2 x y (by omega)]
      refine m_remembers (nets := nets) (hist := hist) (fun i hi => (m1 i hi).1) m4 (fun i hi => MNt_c (fun x y p1 p2 => fr5 x y (by omega)) (m1 i hi).2) ⟨by rw [fr5 _ _ (by omega)]; exact m2.1, fun t ht i hi => KNt_c (fun y => fr5 _ y (by omega)) (m2.2 t ht i hi)⟩ m3 (fun g3 p1 p2 => ⟨by omega, ?_⟩)
      refine m_put (w := (nets j).1) (acc := R.2) hj k1 R.2.length 0 _ ⟨?_, ?_, ?_⟩ (fun p hp => ?_) (by omega) (by omega) (fun g4 s1 s2 => ⟨c0, ?_⟩)
      · rw [up_no (by omega), p2 _ _ (by omega), fr5 _ _ (by omega)]; exact (m1 j hj).2.1
      · rw [up_eq]; rfl
      · exact Row_nil
      · rw [up_no (by omega), up_no (by omega), p2 _ _ (by omega), p2 _ _ (by omega), up_no (by omega), up_no (by omega), up_no (by omega), up_no (by omega)]; exact q1 p hp
      · refine chg_RlT hN hK hTr hS hj ok c1 c2 c3 (KpM_f (fun y => ?_) ?_ p1) s1 (fun x y hx hx2 => ?_) (Txt_0 ?_ ?_)
        · rw [s2 _ _ (by omega), up_no (by omega)]
        · rw [s2 _ _ (by omega), up_no (by omega)]
        · unfold kM at hx
          rw [s2 _ _ (by omega), up_no (by omega), p2 _ _ (by omega), fr5 _ _ (by omega)]
        · rw [s2 _ _ (by omega), up_no (by omega), p2 _ _ (by omega), fr5 _ _ (by omega)]; exact c4
        · rw [s2 _ _ (by omega), up_no (by omega), p2 _ _ (by omega), up_eq]
    · have C2 : CI 7 mX10_parse [vr 68, vi j] h (fun r1 h1 => r1 = -100 - R.1 ∧ (∀ x y : Int, kC0 x → x ≠ 73 → h1 x y = h x y) ∧ h1 73 1 = 0) := by
        refine sX10_parse ⟨fun c => absurd c (by omega), fun _ => ⟨⟨by omega, by omega, by omega⟩, ?_⟩⟩
        rw [cw]
        refine C _ (fun g r1 r2 => ⟨fun _ => ⟨by omega, rfl, fun x y hx h73 => ?_, ?_⟩, fun c => absurd c hr⟩)
        · rw [up_no (by omega), r2 x y (by unfold kC0 at hx; omega)]
        · rw [up_eq]
      refine CI_mono C2 (fun r1 h1 c => ?_)
      obtain ⟨c0, c3, c4⟩ := c
      have ms := MS_of H (h1 := h1) (fun x y hx => c3 x y (by unfold kC0; omega) (by omega))
      refine M h1 _ ms (fun g q1 q2 q3 q4 => ?_)
      obtain ⟨m1, m2, m3, m4, e⟩ := ms
      have f1 := (q4 hr).1
      have f2 := (q4 hr).2
      have g9 : g 103 9 = n := by rw [q2 _ _ (by omega), e _ _ (by omega)]; omega
      have ci : j_ior (g 103 20) (if (g 103 18) < (g 103 9) then (1 : Int) else 0) = 1 := by
        rcases f2 with f2 | f2
        · rw [f2]
          split
          · exact o11
          · exact o10
        · rw [f2.1, if_pos (by omega)]; exact o01
      refine sX11_parse_174 ?_
      rw [ci]
      refine ⟨Or.inr rfl, fun c => absurd c (by decide), fun _ => ⟨by omega, by omega, keep_RlT H (fun x y a1 a2 a3 a4 => ?_) (Txt_0 ?_ ?_)⟩⟩
      · unfold kM0 at a2
        rw [up_no (by omega), up_no (by omega), q2 x y (by omega), c3 x y a1 a3]
      · rw [up_no (by omega), up_no (by omega), q2 _ _ (by omega)]; exact c4
      · rw [up_eq]
  · refine sX10_parse ⟨fun _ => sX11_parse ⟨fun c => absurd c (by omega), fun _ => ⟨rfl, keep_RlT H (fun x y a1 a2 a3 a4 => ?_) (Txt_0 ?_ ?_)⟩⟩, fun c => absurd c (by omega)⟩
    · rw [up_no (by omega), up_no (by omega)]
    · rw [up_no (by omega), up_eq]
    · rw [up_eq]
