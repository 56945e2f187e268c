/-! grow, isMerger -/
theorem op_grow {h : Hp} {k : Int} (hR : Rl h) : OpI 6 mX10_grow 3 mX11_grow [vi k] h := by
  obtain ⟨nets, hist, H⟩ := Rl_RlN hR
  by_cases hk : 0 ≤ k ∧ k < 4
  · obtain ⟨j, hj, rfl⟩ := toN hk.1 hk.2
    obtain ⟨n1, n2, n3⟩ := H.1 j hj
    obtain ⟨w2, w8, l40, n4⟩ := id n1
    have h256 := p256 w8
    have dl := dst_len (f := cry (nets j).2) (2 ^ (nets j).1)
    have dt := dst_lt n1
    have nd := dst_nd (f := cry (nets j).2) (2 ^ (nets j).1)
    have t28 := tri28 w8
    have t1 : 1 ≤ tri (nets j).1 := by
      have : ∀ w : Nat, w < 9 → 2 ≤ w → 1 ≤ tri w := by decide
      exact this _ (by omega) w2
    obtain ⟨rk1, rk2⟩ := rkO_ok (L := dst (cry (nets j).2) (2 ^ (nets j).1)) w8 (nets j).1 0 [] (by omega) (fun a ha => absurd ha List.not_mem_nil)
    obtain ⟨RA, eRA⟩ : ∃ RA, RA = rkO (nets j).1 (dst (cry (nets j).2) (2 ^ (nets j).1)) (nets j).1 0 [] := ⟨_, rfl⟩
    rw [← eRA] at rk1 rk2
    have rk2 : RA.length = 0 + tri (nets j).1 := rk2
    obtain ⟨c, x, y, q1, q2, q3, q4⟩ := rk1 _ (nthR_mem RA 0 (by omega))
    obtain ⟨z, hz⟩ := IsL_ex (fun x => badB (cry (skp (-1) 0 (nets j).2) x) ((nets j).1 - 1)) (2 ^ (nets j).1)
    by_cases hs : z = -1
    · refine op_keep (r := -5) H ?_ (fun h1 ms => ?_)
      · refine sX10_grow ⟨fun _ => ⟨by omega, c_sorts (N := nets j) (by omega) n1 n2 (fun z' g hz' fr => ?_)⟩, fun c => absurd c (by omega)⟩
        rw [← IsL_u hz hz', if_pos hs]
        exact ⟨fun c => absurd c (by decide), fun _ => ⟨rfl, fun x y hx => fr x y (by unfold kC0 at hx; omega)⟩⟩
      · obtain ⟨m1, m2, m3, m4, e⟩ := ms
        refine sX11_grow ⟨fun _ => m_isSorter (N := nets j) hj n1 (m1 j hj).2 (fun z' hz' => ?_), fun c => absurd c (by omega)⟩
        rw [← IsL_u hz hz', if_pos hs]
        exact ⟨fun c => absurd c (by decide), fun _ => ⟨rfl, fun _ _ _ => rfl⟩⟩
    · by_cases hl : (nets j).2.length < 40
      · have ok : okN ((nets j).1, (nets j).2 ++ [(x, y)]) := by
          refine ⟨w2, w8, by show ((nets j).2 ++ [(x, y)]).length ≤ 40; rw [List.length_append, List.length_singleton]; omega, fun d hd => ?_⟩
          have hd : d ∈ (nets j).2 ++ [(x, y)] := hd
          rcases List.mem_append.1 hd with q | q
          · exact n4 d q
          · rw [List.mem_singleton] at q
            subst q
            exact ⟨by show x < (nets j).1; omega, q3, by show x ≠ y; omega⟩
        refine op_chg (k := j) (N' := ((nets j).1, (nets j).2 ++ [(x, y)])) (r := ((nthR RA 0 / 100 : Nat) : Int)) H hj ok ?_ (fun h1 ms => ?_)
        · refine sX10_grow ⟨fun _ => ⟨by omega, c_sorts (N := nets j) (by omega) n1 n2 (fun z' g hz' fr => ?_)⟩, fun c => absurd c (by omega)⟩
          rw [← IsL_u hz hz', if_neg hs]
          have A1 : CNt g (4 * j) (nets j) := CNt_c (fun x y p1 p2 => fr x y (by omega)) n2
          have e1 := A1.2.1
          refine ⟨fun _ => ⟨by omega, fun _ => ?_, fun c => absurd c (by omega)⟩, fun c => absurd rfl c⟩
          refine c_outs (N := nets j) (Or.inl rfl) (by omega) n1 A1 (fun g2 O fr2 => ?_)
          refine c_rank w8 nd dt (by omega) O (fun g3 R e3 fr3 => ?_)
          rw [← eRA] at R
          obtain ⟨b1, b2, b3⟩ := RkC_get RA 0 R (by omega)
          have f3 : ∀ x y : Int, ¬ ((83 ≤ x ∧ x ≤ 94)) → g3 x y = h x y := fun x y hx => by rw [fr3 x y (by omega), fr2 x y (by omega), fr x y (by omega)]
          refine c_remember hj n1 (CNt_c (fun x y p1 p2 => f3 x y (by omega)) n2) (HiC_f (fun x y hx => f3 x y (by unfold aH at hx; omega)) H.2.1) (fun g4 s1 s2 => ⟨⟨by omega, by omega⟩, ?_⟩)
          have v1 : g4 92 0 = (x : Nat) := by
            rw [s2 _ _ (by unfold aH; omega)]
            have : g3 92 ((0 : Nat) : Int) = _ := b1
            rw [show ((0 : Nat) : Int) = 0 from rfl] at this
            rw [this]; omega
          have v2 : g4 93 0 = (y : Nat) := by
            rw [s2 _ _ (by unfold aH; omega)]
            have : g3 93 ((0 : Nat) : Int) = _ := b2
            rw [show ((0 : Nat) : Int) = 0 from rfl] at this
            rw [this]; omega
          rw [v1, v2]
          refine c_push1 (by omega) (CNt_c (fun x y p1 p2 => by rw [s2 x y (by unfold aH; omega), f3 x y (by omega)]) n2 : CNt g4 (4 * j) ((nets j).1, (nets j).2)) hl (by omega) q3 (by omega) (fun g5 t1 t2 => ?_)
          have v3 : g5 91 3 = (tri (nets j).1 : Nat) := by rw [t2 _ _ (by omega), s2 _ _ (by unfold aH; omega)]; exact e3
          have v4 : g5 94 0 = ((nthR RA 0 / 100 : Nat) : Int) := by rw [t2 _ _ (by omega), s2 _ _ (by unfold aH; omega)]; exact b3
          refine ⟨fun _ => by omega, ?_, ?_, t1, fun x y hx => ?_⟩
          · rw [if_neg (by omega), if_neg (by omega)]; exact v4
          · exact HiC_f (fun x y hx => t2 x y (by unfold aH at hx; omega)) s1
          · unfold kC at hx
            rw [t2 x y (by omega), s2 x y (by unfold aH; omega), f3 x y (by omega)]
        · obtain ⟨m1, m2, m3, m4, e⟩ := ms
          have g5 := (m1 j hj).2.2.1
          refine sX11_grow ⟨fun _ => m_isSorter (N := nets j) hj n1 (m1 j hj).2 (fun z' hz' => ?_), fun c => absurd c (by omega)⟩
          rw [← IsL_u hz hz', if_neg hs]
          refine ⟨fun _ => ⟨by omega, fun _ => ?_, fun c => absurd c (by omega)⟩, fun c => absurd rfl c⟩
          refine m_remembers (nets := nets) (hist := hist) (fun j hj => (m1 j hj).1) m4 (fun j hj => (m1 j hj).2) m2 m3 (fun g p1 p2 => ?_)
          have M : MNt g j (nets j) := MNt_c (fun x y r1 r2 => p2 x y (by omega)) (m1 j hj).2
          refine m_lists (N := nets j) hj n1 M (fun g2 R fr => ⟨⟨by omega, by omega⟩, ?_⟩)
          rw [← eRA] at R
          have b : g2 123 0 = (nthR RA 0 : Nat) := RkM_get RA 0 R (by omega)
          have d1 : j_irem ((nthR RA 0 : Nat) : Int) 100 = ((nthR RA 0 % 100 : Nat) : Int) := jrem (b := 100) (by omega) (by omega)
          have d2 : j_idiv ((nthR RA 0 % 100 : Nat) : Int) 10 = ((nthR RA 0 % 100 / 10 : Nat) : Int) := jdiv (b := 10) (by omega) (by omega)
          have d3 : j_irem ((nthR RA 0 : Nat) : Int) 10 = ((nthR RA 0 % 10 : Nat) : Int) := jrem (b := 10) (by omega) (by omega)
          have M2 : MNt g2 j (nets j) := MNt_c (fun x y r1 r2 => fr x y (by omega)) M
          rw [b, d1, d2, d3, M2.2.1]
          refine m_puts (N := nets j) (p := (nets j).2.length) hj M2 (Nat.le_refl _) hl (fun g3 r1 r2 => ⟨by omega, ?_, ?_⟩)
          · rw [r2 _ _ (by omega), b]
            exact jdiv (b := 100) (by omega) (by omega)
          · rw [ins_end, show nthR RA 0 % 100 / 10 = x by omega, show nthR RA 0 % 10 = y by omega] at r1
            refine MP_bec (g := g2) (KpM_f (fun y => fr 112 y (by omega)) (fr 103 11 (by omega)) p1) (fun x y hx => ?_) r1 (fun x y hx => r2 x y (by omega))
            unfold kM at hx
            rw [fr x y (by omega), p2 x y (by omega)]
      · refine op_keep (r := -3) H ?_ (fun h1 ms => ?_)
        · refine sX10_grow ⟨fun _ => ⟨by omega, c_sorts (N := nets j) (by omega) n1 n2 (fun z' g hz' fr => ?_)⟩, fun c => absurd c (by omega)⟩
          rw [← IsL_u hz hz', if_neg hs]
          have e1 : g (4 * j) 1 = (nets j).2.length := by rw [fr _ _ (by omega)]; exact n2.2.1
          exact ⟨fun _ => ⟨by omega, fun c => absurd c (by omega), fun _ => ⟨rfl, fun x y hx => fr x y (by unfold kC0 at hx; omega)⟩⟩, fun c => absurd rfl c⟩
        · obtain ⟨m1, m2, m3, m4, e⟩ := ms
          have g5 := (m1 j hj).2.2.1
          refine sX11_grow ⟨fun _ => m_isSorter (N := nets j) hj n1 (m1 j hj).2 (fun z' hz' => ?_), fun c => absurd c (by omega)⟩
          rw [← IsL_u hz hz', if_neg hs]
          exact ⟨fun _ => ⟨by omega, fun c => absurd (by omega) c, fun _ => ⟨rfl, fun _ _ _ => rfl⟩⟩, fun c => absurd rfl c⟩
  · exact sX10_grow ⟨fun c => absurd c (by omega), fun _ => sX11_grow ⟨fun c => absurd c (by omega), fun _ => ⟨rfl, hR⟩⟩⟩
/-! isMerger -/
def mgX (s t a b : Nat) : Nat := (2 ^ s - 2 ^ (s - a)) ||| ((2 ^ t - 2 ^ (t - b)) * 2 ^ s)
def mgI (s t a b : Nat) : Int := j_ior ((j_ishl 1 (s : Int)) - (j_ishl 1 ((s : Int) - a))) (j_ishl ((j_ishl 1 (t : Int)) - (j_ishl 1 ((t : Int) - b))) s)
def mgB (s t x : Nat) : Bool := !badB x (s - 1) && !badB (x / 2 ^ s) (t - 1)
def inJ (z : Int) : Bool := decide (-2147483648 ≤ z) && decide (z < 2147483648)
def mgT (s t a b : Nat) : Bool := inJ ((j_ishl 1 (s : Int)) - (j_ishl 1 ((s : Int) - a))) && inJ ((j_ishl 1 (t : Int)) - (j_ishl 1 ((t : Int) - b))) && decide (mgI s t a b = (mgX s t a b : Nat)) && decide (mgX s t a b < 2 ^ (s + t)) && mgB s t (mgX s t a b)
theorem mgT_t : ∀ s : Nat, s < 9 → ∀ t : Nat, t < 9 - s → ∀ a : Nat, a < s + 1 → ∀ b : Nat, b < t + 1 → mgT s t a b = true := by decide +kernel
def mgU (s t x : Nat) : Bool := !mgB s t x || decide (mgX s t (pop x s) (pop (x / 2 ^ s) t) = x)
theorem mgU_t : ∀ s : Nat, s < 9 → ∀ t : Nat, t < 9 - s → ∀ x : Nat, x < 2 ^ (s + t) → mgU s t x = true := by decide +kernel
theorem inJ_t {z : Int} (h : inJ z = true) : rj z := by
  unfold inJ at h
  rw [Bool.and_eq_true] at h
  exact ⟨of_decide_eq_true h.1, of_decide_eq_true h.2⟩
theorem mgT_o {s t a b : Nat} (hst : s + t ≤ 8) (ha : a ≤ s) (hb : b ≤ t) : rj ((j_ishl 1 (s : Int)) - (j_ishl 1 ((s : Int) - a))) ∧ rj ((j_ishl 1 (t : Int)) - (j_ishl 1 ((t : Int) - b))) ∧ mgI s t a b = (mgX s t a b : Nat) ∧ mgX s t a b < 2 ^ (s + t) ∧ mgB s t (mgX s t a b) = true := by
  have h := mgT_t s (by omega) t (by omega) a (by omega) b (by omega)
  unfold mgT at h
  simp only [Bool.and_eq_true] at h
  exact ⟨inJ_t h.1.1.1.1, inJ_t h.1.1.1.2, of_decide_eq_true h.1.1.2, of_decide_eq_true h.1.2, h.2⟩
theorem mgU_o {s t x : Nat} (hst : s + t ≤ 8) (hx : x < 2 ^ (s + t)) (hm : mgB s t x = true) : ∃ a b : Nat, a ≤ s ∧ b ≤ t ∧ mgX s t a b = x := by
  have h := mgU_t s (by omega) t (by omega) x hx
  unfold mgU at h
  rw [hm] at h
  exact ⟨_, _, pop_le s, pop_le t, of_decide_eq_true h⟩
def gdB (w : Nat) (cs : List (Nat × Nat)) (x : Nat) : Bool := !badB (cry cs x) (w - 1)
theorem c_m17 {h : Hp} {A : Int} {N : NetT} {s t a : Nat} {Q : Int → Hp → Prop} (hA : nA A) (hok : okN N) (C : CNt h A N) (hst : s + t = N.1) (ha : a ≤ s) (hq0 : ∀ b : Nat, b ≤ t → gdB N.1 N.2 (mgX s t a b) = false → Q 0 h) : ∀ (m b : Nat) (z : Int), z = b → b + m = t + 1 → (∀ b' : Nat, b' < b → gdB N.1 N.2 (mgX s t a b') = true) → ((∀ b' : Nat, b' ≤ t → gdB N.1 N.2 (mgX s t a b') = true) → E 2 mX10_merges 9 [(0, vr A), (1, vi s), (2, vi t), (3, vi ((a : Int) + 1))] [] h (qi Q)) → E 2 mX10_merges 17 [(0, vr A), (1, vi s), (2, vi t), (3, vi a), (4, vi z)] [] h (qi Q)
  | 0, b, z, ez, hm, I, hn => by
    have w8 := hok.2.1
    exact sX10_merges_17 ⟨fun _ => ⟨by omega, hn (fun b' hb => I b' (by omega))⟩, fun c => absurd c (by omega)⟩
  | m + 1, b, z, ez, hm, I, hn => by
    have w8 := hok.2.1
    have w2 := hok.1
    subst ez
    obtain ⟨t1, t2, t3, t4, t5⟩ := mgT_o (s := s) (t := t) (a := a) (b := b) (by omega) ha (by omega)
    refine sX10_merges_17 ⟨fun c => absurd c (by omega), fun _ => ⟨⟨by omega, t1, by omega, t2⟩, fun x4 hx4 => ?_⟩⟩
    have e4 : x4 = (mgX s t a b : Nat) := hx4.trans t3
    subst e4
    rw [hst] at t4
    refine ⟨hA, c_carry hA hok C t4 ⟨hA, c_isSorted rfl C.1 (by omega) w8 (cry_lt N.2 _ hok.2.2.2 t4) ?_⟩⟩
    cases hb : badB (cry N.2 (mgX s t a b)) (N.1 - 1) with
    | true => exact ⟨fun c => absurd rfl c, fun _ => hq0 b (by omega) (by unfold gdB; rw [hb]; rfl)⟩
    | false =>
      refine ⟨fun _ => ⟨by omega, c_m17 hA hok C hst ha hq0 m (b + 1) _ (by omega) (by omega) (fun b' hb' => ?_) hn⟩, fun c => absurd c (by decide)⟩
      by_cases q : b' = b
      · rw [q]; unfold gdB; rw [hb]; rfl
      · exact I b' (by omega)
theorem c_m9 {h : Hp} {A : Int} {N : NetT} {s t : Nat} {Q : Int → Hp → Prop} (hA : nA A) (hok : okN N) (C : CNt h A N) (hst : s + t = N.1) (hq0 : ∀ a b : Nat, a ≤ s → b ≤ t → gdB N.1 N.2 (mgX s t a b) = false → Q 0 h) (hq1 : (∀ a b : Nat, a ≤ s → b ≤ t → gdB N.1 N.2 (mgX s t a b) = true) → Q 1 h) : ∀ (m a : Nat) (z : Int), z = a → a + m = s + 1 → (∀ a' b' : Nat, a' < a → b' ≤ t → gdB N.1 N.2 (mgX s t a' b') = true) → E 2 mX10_merges 9 [(0, vr A), (1, vi s), (2, vi t), (3, vi z)] [] h (qi Q)
  | 0, a, z, ez, hm, I => sX10_merges_9 ⟨fun _ => hq1 (fun a' b' h1 h2 => I a' b' (by omega) h2), fun c => absurd c (by omega)⟩
  | m + 1, a, z, ez, hm, I => by
    subst ez
    refine sX10_merges_9 ⟨fun c => absurd c (by omega), fun _ => c_m17 hA hok C hst (by omega) (fun b h1 h2 => hq0 a b (by omega) h1 h2) (t + 1) 0 0 (by omega) (by omega) (fun b' hb => absurd hb (by omega)) (fun J => c_m9 hA hok C hst hq0 hq1 m (a + 1) _ (by omega) (by omega) (fun a' b' h1 h2 => ?_))⟩
    by_cases q : a' = a
    · rw [q]; exact J b' h2
    · exact I a' b' (by omega) h2
theorem m_isS0 {h : Hp} {w y : Nat} {zw zy : Int} {Q : Int → Hp → Prop} (ew : zw = w) (ey : zy = y) (hw : w ≤ 8) (hy : y < 256) (hq : Q (if badB y (w - 1) then 0 else 1) h) : CI 0 mX11_isSorted [vi zw, vi zy] h Q := by
  by_cases q : 1 ≤ w
  · exact m_isSorted ew ey q hw hy hq
  · have e0 : w = 0 := by omega
    subst e0
    exact sX11_isSorted (sX11_isSorted_4 ⟨fun _ => hq, fun c => absurd c (by omega)⟩)
theorem m_mg {h : Hp} {k s t : Nat} {N : NetT} {Q : Int → Hp → Prop} (hk : k < 4) (hok : okN N) (M : MNt h k N) (hst : s + t = N.1) (hq0 : ∀ x : Nat, x < 2 ^ N.1 → mgB s t x = true → gdB N.1 N.2 x = false → Q 0 h) (hq1 : (∀ x : Nat, x < 2 ^ N.1 → mgB s t x = true → gdB N.1 N.2 x = true) → Q 1 h) : ∀ (m x : Nat) (z : Int), z = x → x + m = 2 ^ N.1 → (∀ x' : Nat, x' < x → mgB s t x' = true → gdB N.1 N.2 x' = true) → E 2 mX11_isMerger 28 [(0, vr 103), (1, vi k), (2, vi s), (3, vi z)] [] h (qi Q)
  | 0, x, z, ez, hm, I => by
    have w8 := hok.2.1
    have e1 : j_ishl 1 (h 104 k) = ((2 ^ N.1 : Nat) : Int) := by rw [M.1]; exact jshl1 (by omega)
    exact sX11_isMerger_28 ⟨by omega, fun _ => hq1 (fun x' h1 h2 => I x' (by omega) h2), fun c => absurd c (by omega)⟩
  | m + 1, x, z, ez, hm, I => by
    have w8 := hok.2.1
    have w2 := hok.1
    have h256 := p256 w8
    have e0 := M.1
    have e1 : j_ishl 1 (h 104 k) = ((2 ^ N.1 : Nat) : Int) := by rw [M.1]; exact jshl1 (by omega)
    subst ez
    have dv : x / 2 ^ s ≤ x := Nat.div_le_self _ _
    have nx : (mgB s t x = true → gdB N.1 N.2 x = true) → E 2 mX11_isMerger 28 [(0, vr 103), (1, vi k), (2, vi s), (3, vi ((x : Int) + 1))] [] h (qi Q) := fun J => m_mg hk hok M hst hq0 hq1 m (x + 1) _ (by omega) (by omega) (fun x' h1 h2 => by
      by_cases q : x' = x
      · rw [q] at h2 ⊢; exact J h2
      · exact I x' (by omega) h2)
    refine sX11_isMerger_28 ⟨by omega, fun c => absurd c (by omega), fun _ => m_isS0 rfl rfl (by omega) (by omega) ?_⟩
    cases hb1 : badB x (s - 1) with
    | true =>
      refine ⟨fun _ => sX11_isMerger_70 ⟨fun _ => ⟨by omega, nx (fun q => ?_)⟩, fun c => absurd rfl c⟩, fun c => absurd rfl c⟩
      unfold mgB at q
      rw [hb1, Bool.not_true, Bool.false_and] at q
      exact absurd q (by decide)
    | false =>
      refine ⟨fun c => absurd c (by decide), fun _ => ⟨by omega, ?_⟩⟩
      refine m_isS0 (w := t) (y := x / 2 ^ s) (by omega) (jshr (by omega) (by omega)) (by omega) (by omega) ?_
      cases hb2 : badB (x / 2 ^ s) (t - 1) with
      | true =>
        refine sX11_isMerger_70 ⟨fun _ => ⟨by omega, nx (fun q => ?_)⟩, fun c => absurd rfl c⟩
        unfold mgB at q
        rw [hb1, hb2] at q
        exact absurd q (by decide)
      | false =>
        have hm2 : mgB s t x = true := by unfold mgB; rw [hb1, hb2]; rfl
        have lt := cry_lt N.2 x hok.2.2.2 (w := N.1) (by omega)
        refine sX11_isMerger_70 ⟨fun c => absurd c (by decide), fun _ => ⟨by omega, m_makes hk hok M (by omega) ?_⟩⟩
        rw [skp_no _ _ (by omega)]
        refine m_isSorted M.1 rfl (by omega) w8 (by omega) ?_
        cases hb3 : badB (cry N.2 x) (N.1 - 1) with
        | true => exact ⟨fun c => absurd rfl c, fun _ => hq0 x (by omega) hm2 (by unfold gdB; rw [hb3]; rfl)⟩
        | false => exact ⟨fun _ => ⟨by omega, nx (fun _ => by unfold gdB; rw [hb3]; rfl)⟩, fun c => absurd c (by decide)⟩
theorem op_isMerger {h : Hp} {k s : Int} (hR : Rl h) : OpI 3 mX10_isMerger 2 mX11_isMerger [vi k, vi s] h := by
  obtain ⟨nets, hist, H⟩ := Rl_RlN hR
  by_cases hk : 0 ≤ k ∧ k < 4
  · obtain ⟨j, hj, rfl⟩ := toN hk.1 hk.2
    obtain ⟨n1, n2, n3⟩ := H.1 j hj
    have w8 := n1.2.1
    have cw := n2.1
    have mw := n3.1
    by_cases hs : 0 ≤ s ∧ s ≤ (nets j).1
    · obtain ⟨S, rfl⟩ : ∃ S : Nat, s = S := ⟨s.toNat, by omega⟩
      obtain ⟨t, ht⟩ : ∃ t : Nat, S + t = (nets j).1 := ⟨(nets j).1 - S, by omega⟩
      by_cases hall : ∀ x : Nat, x < 2 ^ (nets j).1 → mgB S t x = true → gdB (nets j).1 (nets j).2 x = true
      · refine op_keep (r := 1) H ?_ (fun h1 ms => ?_)
        · refine sX10_isMerger ⟨fun _ => ⟨fun c => absurd c (by omega), fun _ => ⟨by omega, fun _ => ⟨by omega, sX10_merges ⟨⟨by omega, by omega⟩, ?_⟩⟩, fun c => absurd c (by omega)⟩⟩, fun c => absurd c (by omega)⟩
          rw [cw, show ((nets j).1 : Int) - S = t by omega]
          refine c_m9 (N := nets j) (by omega) n1 n2 ht (fun a b h1 h2 h3 => ?_) (fun _ => ⟨rfl, fun _ _ _ => rfl⟩) (S + 1) 0 0 (by omega) (by omega) (fun a' b' h1 => absurd h1 (by omega))
          obtain ⟨_, _, _, t4, t5⟩ := mgT_o (s := S) (t := t) (a := a) (b := b) (by omega) h1 h2
          rw [ht] at t4
          rw [hall _ t4 t5] at h3
          exact absurd h3 (by decide)
        · obtain ⟨m1, m2, m3, m4, e⟩ := ms
          have g1 := (m1 j hj).2.1
          refine sX11_isMerger ⟨fun _ => ⟨by omega, fun _ => ?_, fun c => absurd c (by omega)⟩, fun c => absurd c (by omega)⟩
          refine m_mg (N := nets j) hj n1 (m1 j hj).2 ht (fun x h1 h2 h3 => ?_) (fun _ => ⟨rfl, fun _ _ _ => rfl⟩) (2 ^ (nets j).1) 0 0 (by omega) (by omega) (fun x' h1 => absurd h1 (by omega))
          rw [hall x h1 h2] at h3
          exact absurd h3 (by decide)
      · refine op_keep (r := 0) H ?_ (fun h1 ms => ?_)
        · refine sX10_isMerger ⟨fun _ => ⟨fun c => absurd c (by omega), fun _ => ⟨by omega, fun _ => ⟨by omega, sX10_merges ⟨⟨by omega, by omega⟩, ?_⟩⟩, fun c => absurd c (by omega)⟩⟩, fun c => absurd c (by omega)⟩
          rw [cw, show ((nets j).1 : Int) - S = t by omega]
          refine c_m9 (N := nets j) (by omega) n1 n2 ht (fun a b h1 h2 h3 => ⟨rfl, fun _ _ _ => rfl⟩) (fun J => absurd (fun x h1 h2 => ?_) hall) (S + 1) 0 0 (by omega) (by omega) (fun a' b' h1 => absurd h1 (by omega))
          obtain ⟨a, b, ha, hb, e⟩ := mgU_o (s := S) (t := t) (x := x) (by omega) (by rw [ht]; exact h1) h2
          rw [← e]
          exact J a b ha hb
        · obtain ⟨m1, m2, m3, m4, e⟩ := ms
          have g1 := (m1 j hj).2.1
          refine sX11_isMerger ⟨fun _ => ⟨by omega, fun _ => ?_, fun c => absurd c (by omega)⟩, fun c => absurd c (by omega)⟩
          exact m_mg (N := nets j) hj n1 (m1 j hj).2 ht (fun x h1 h2 h3 => ⟨rfl, fun _ _ _ => rfl⟩) (fun J => absurd J hall) (2 ^ (nets j).1) 0 0 (by omega) (by omega) (fun x' h1 => absurd h1 (by omega))
    · have no : CI 2 mX11_isMerger [vr 103, vi j, vi s] h (fun r2 h2 => -2 = r2 ∧ Rl h2) := sX11_isMerger ⟨fun _ => ⟨by omega, fun c => absurd c (by omega), fun _ => ⟨rfl, hR⟩⟩, fun c => absurd c (by omega)⟩
      exact sX10_isMerger ⟨fun _ => ⟨fun _ => no, fun _ => ⟨by omega, fun c => absurd c (by omega), fun _ => no⟩⟩, fun c => absurd c (by omega)⟩
  · exact sX10_isMerger ⟨fun c => absurd c (by omega), fun _ => sX11_isMerger ⟨fun c => absurd c (by omega), fun _ => ⟨rfl, hR⟩⟩⟩
