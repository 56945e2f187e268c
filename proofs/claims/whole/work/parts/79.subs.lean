/-! subsumes -/
def pmN (f : Nat → Nat) (y : Nat) : Nat → Nat
  | 0 => 0
  | i + 1 => pmN f y i ||| (if y.testBit i then 2 ^ f i else 0)
theorem pmN_lt {f : Nat → Nat} {y w : Nat} : ∀ i : Nat, (∀ j : Nat, j < i → f j < w) → pmN f y i < 2 ^ w
  | 0, _ => Nat.two_pow_pos w
  | i + 1, h => by
    have ih := pmN_lt (f := f) (y := y) (w := w) i (fun j hj => h j (by omega))
    show pmN f y i ||| (if y.testBit i then 2 ^ f i else 0) < 2 ^ w
    refine Nat.or_lt_two_pow ih ?_
    split
    · exact p_lt (h i (by omega))
    · exact Nat.two_pow_pos w
theorem pm_st {f : Nat → Nat} {y i : Nat} {z zy zf : Int} (hz : z = (pmN f y i : Nat)) (hzy : zy = (y : Nat)) (hzf : zf = (f i : Nat)) (hy : y < 256) (hi : i < 8) (hf : ∀ j : Nat, j < i + 1 → f j < 8) : j_ior z (j_ishl (j_iand (j_ishr zy i) 1) zf) = ((pmN f y (i + 1) : Nat) : Int) := by
  have p1 := pmN_lt (f := f) (y := y) (w := 8) i (fun j hj => hf j (by omega))
  have p2 : 2 ^ f i < 2 ^ 8 := p_lt (hf i (by omega))
  have f8 := hf i (by omega)
  rw [show (2 : Nat) ^ 8 = 256 from rfl] at p1 p2
  rw [hz, hzy, hzf, jbit (by omega) (by omega)]
  show _ = ((pmN f y i ||| (if y.testBit i then 2 ^ f i else 0) : Nat) : Int)
  cases hb : y.testBit i with
  | true =>
    rw [if_pos rfl, if_pos rfl, jshl1 (by omega)]
    exact jor (by omega) (by omega)
  | false =>
    rw [if_neg (by decide), if_neg (by decide)]
    have : j_ishl 0 (f i : Nat) = ((0 * 2 ^ f i : Nat) : Int) := jshl (a := 0) (by omega) (by rw [Nat.zero_mul]; omega)
    rw [Nat.zero_mul] at this
    rw [this]
    exact jor (by omega) (by omega)
def mvB (w : Nat) (L1 L2 : List Nat) (f : Nat → Nat) : Bool := L1.all (fun y => decide (pmN f y w ∈ L2))
theorem c_mv16 {h : Hp} {w y : Nat} {f : Nat → Nat} {L1 L2 : List Nat} {n : Nat} {Q : Int → Hp → Prop} (hw : w ≤ 8) (O1 : OS h 85 w L1) (O2 : OS h 88 w L2) (F : FA h 101 w f) (hf : ∀ j : Nat, j < w → f j < w) (hn : n < 256) (ey : h 87 n = (y : Nat)) (hy : y < 2 ^ w) (K : pmN f y w ∈ L2 → E 0 mX5_movesInto 2 [(0, vr 85), (1, vr 88), (2, vr 101), (3, vi ((n : Int) + 1))] [] h (qi Q)) (N : ¬ pmN f y w ∈ L2 → Q 0 h) : ∀ (m i : Nat) (z : Int), i + m = w → z = ((pmN f y i : Nat) : Int) → E 0 mX5_movesInto 16 [(0, vr 85), (1, vr 88), (2, vr 101), (3, vi n), (4, vi z), (5, vi i)] [] h (qi Q)
  | 0, i, z, hm, ez => by
    have h256 := p256 hw
    have ei : i = w := by omega
    subst ei
    have pl := pmN_lt (f := f) (y := y) (w := i) i hf
    have e0 := O1.1
    have hs := O2.2.2.1 (pmN f y i) (by omega)
    rw [show (88 : Int) + 1 = 89 from rfl] at hs
    rw [ez]
    refine sX5_movesInto_16 ⟨by omega, fun _ => ⟨by omega, fun c => ⟨by omega, K ?_⟩, fun c => N (fun q => ?_)⟩, fun c => absurd c (by omega)⟩
    · by_cases q : pmN f y i ∈ L2
      · exact q
      · rw [if_neg q] at hs; exact absurd hs c
    · rw [if_pos q] at hs
      have c : h 89 ((pmN f y i : Nat) : Int) = 0 := c
      rw [hs] at c
      exact absurd c (by decide)
  | m + 1, i, z, hm, ez => by
    have h256 := p256 hw
    have e0 := O1.1
    refine sX5_movesInto_16 ⟨by omega, fun c => absurd c (by omega), fun _ => ⟨by omega, fun x6 hx6 => ⟨by omega, ?_⟩⟩⟩
    rw [show (85 : Int) + 2 = 87 from rfl, pm_st (f := f) (y := y) (i := i) ez ey (F i (by omega)) (by omega) (by omega) (fun j hj => by have := hf j (by omega); omega)] at hx6
    rw [show (i : Int) + 1 = ((i + 1 : Nat) : Int) by omega]
    exact c_mv16 hw O1 O2 F hf hn ey hy K N m (i + 1) x6 (by omega) hx6
theorem c_mv2 {h : Hp} {w : Nat} {f : Nat → Nat} {L1 L2 : List Nat} {Q : Int → Hp → Prop} (hw : w ≤ 8) (O1 : OS h 85 w L1) (O2 : OS h 88 w L2) (F : FA h 101 w f) (hf : ∀ j : Nat, j < w → f j < w) (hU : ∀ y ∈ L1, y < 2 ^ w) (hl : L1.length ≤ 256) : ∀ (rest pre : List Nat), pre ++ rest = L1 → Q (if mvB w rest L2 f then 1 else 0) h → E 0 mX5_movesInto 2 [(0, vr 85), (1, vr 88), (2, vr 101), (3, vi pre.length)] [] h (qi Q)
  | [], pre, hp, hq => by
    have len : pre.length = L1.length := by rw [← hp, List.append_nil]
    have e := O1.2.1
    exact sX5_movesInto_2 ⟨by omega, fun _ => hq, fun c => absurd c (by omega)⟩
  | y :: t, pre, hp, hq => by
    have hy := hU y (by rw [← hp]; exact List.mem_append_right _ (List.mem_cons_self ..))
    have len : pre.length + (t.length + 1) = L1.length := by rw [← hp, List.length_append, List.length_cons]
    have e0 := O1.2.1
    have e : h 87 pre.length = (y : Nat) := by
      have hh := O1.2.2.2 pre.length (by omega)
      rw [show (85 : Int) + 2 = 87 from rfl] at hh
      rw [hh]
      subst hp
      simp
    have em : mvB w (y :: t) L2 f = (decide (pmN f y w ∈ L2) && mvB w t L2 f) := rfl
    rw [em] at hq
    refine sX5_movesInto_2 ⟨by omega, fun c => absurd c (by omega), fun _ => c_mv16 hw O1 O2 F hf (by omega) e hy (fun q => ?_) (fun q => ?_) w 0 0 (by omega) rfl⟩
    · rw [decide_eq_true q, Bool.true_and] at hq
      have := c_mv2 hw O1 O2 F hf hU hl t (pre ++ [y]) (by rw [List.append_assoc]; exact hp) hq
      rw [List.length_append, List.length_singleton] at this
      exact this
    · rw [decide_eq_false q, Bool.false_and] at hq
      exact hq
def sr (w : Nat) (mv : List Nat → Bool) : Nat → List Nat → Bool
  | 0, P => mv P
  | m + 1, P => anyB (fun b => !decide (b ∈ P) && sr w mv m (P ++ [b])) w
def frP (n : Nat) (g h : Hp) : Prop := ∀ x y : Int, ¬ (x = 101 ∧ (n : Int) ≤ y) → g x y = h x y
theorem OS_c2 {h g : Hp} {o : Int} {w : Nat} {L : List Nat} (O : OS h o w L) (fr : ∀ x y : Int, o ≤ x → x ≤ o + 2 → g x y = h x y) : OS g o w L := ⟨by rw [fr _ _ (by omega) (by omega)]; exact O.1, by rw [fr _ _ (by omega) (by omega)]; exact O.2.1, fun z hz => by rw [fr _ _ (by omega) (by omega)]; exact O.2.2.1 z hz, fun i hi => by rw [fr _ _ (by omega) (by omega)]; exact O.2.2.2 i hi⟩
theorem c_sr {w : Nat} {L1 L2 : List Nat} (hw : w ≤ 8) (hU : ∀ y ∈ L1, y < 2 ^ w) (hl : L1.length ≤ 256) : ∀ (m d : Nat) (P : List Nat) (U : Nat) (h : Hp) (Q : Int → Hp → Prop), m < d → P.length + m = w → AR h 101 P → U < 2 ^ w → (∀ b : Nat, b < w → U.testBit b = decide (b ∈ P)) → (∀ b ∈ P, b < w) → OS h 85 w L1 → OS h 88 w L2 → (∀ g : Hp, frP P.length g h → Q (if sr w (fun v => mvB w L1 L2 (fnL v)) m P then 1 else 0) g) → CI d mX5_search [vr 85, vr 88, vr 101, vi P.length, vi U] h Q
  | 0, d, P, U, h, Q, hd, hP, A, hU2, hm, hb, O1, O2, hq => by
    have e0 := O1.1
    refine sX5_search (d := d) (dd := d - 1) (by omega) (by omega) ⟨by omega, fun _ => ?_, fun c => absurd c (by omega)⟩
    have F : FA h 101 w (fnL P) := fun i hi => by
      rw [fnL_in (by omega)]
      exact A i (by omega)
    refine sX5_movesInto (c_mv2 hw O1 O2 F (fun j hj => by rw [fnL_in (by omega)]; exact hb _ (List.getElem_mem _)) hU hl L1 [] rfl ⟨?_, ?_⟩)
    · split
      · exact Or.inr rfl
      · exact Or.inl rfl
    · exact hq h (fun _ _ _ => rfl)
  | m + 1, d, P, U, h, Q, hd, hP, A, hU2, hm, hb, O1, O2, hq => by
    have h256 := p256 hw
    have e0 := O1.1
    have inner : ∀ (k b : Nat) (g : Hp), b + k = w → frP P.length g h → (∀ b' : Nat, b' < b → (!decide (b' ∈ P) && sr w (fun v => mvB w L1 L2 (fnL v)) m (P ++ [b'])) = false) → E d mX5_search 24 [(0, vr 85), (1, vr 88), (2, vr 101), (3, vi P.length), (4, vi U), (5, vi b)] [] g (qi Q) := by
      intro k
      induction k with
      | zero =>
        intro b g hbk fg I
        have e1 : g 85 2 = w := by rw [fg _ _ (by omega)]; exact e0
        refine sX5_search_24 (d := d) (dd := d - 1) (by omega) (by omega) ⟨by omega, fun _ => ?_, fun c => absurd c (by omega)⟩
        have : sr w (fun v => mvB w L1 L2 (fnL v)) (m + 1) P = false := by
          cases hc : sr w (fun v => mvB w L1 L2 (fnL v)) (m + 1) P with
          | false => rfl
          | true =>
            obtain ⟨x, h1, h2⟩ := anyB_iff.1 hc
            rw [I x (by omega)] at h2
            exact absurd h2 (by decide)
        have q := hq g fg
        rw [this] at q
        exact q
      | succ k ih =>
        intro b g hbk fg I
        have e1 : g 85 2 = w := by rw [fg _ _ (by omega)]; exact e0
        have bt : j_iand (j_ishr U b) 1 = if U.testBit b then 1 else 0 := jbit (by omega) (by omega)
        rw [hm b (by omega)] at bt
        refine sX5_search_24 (d := d) (dd := d - 1) (by omega) (by omega) ⟨by omega, fun c => absurd c (by omega), fun _ => ⟨fun c => ⟨by omega, ?_⟩, fun c => ⟨⟨by omega, by omega⟩, ?_⟩⟩⟩
        · have hin : b ∈ P := by
            by_cases q : b ∈ P
            · exact q
            · rw [decide_eq_false q] at bt
              rw [bt] at c
              exact absurd rfl c
          rw [show (b : Int) + 1 = ((b + 1 : Nat) : Int) by omega]
          refine ih (b + 1) g (by omega) fg (fun b' hb' => ?_)
          by_cases q : b' = b
          · rw [q, decide_eq_true hin]; rfl
          · exact I b' (by omega)
        · have hout : ¬ b ∈ P := fun q => by
            rw [decide_eq_true q] at bt
            rw [bt] at c
            exact absurd c (by decide)
          have h1 : 2 ^ b < 2 ^ w := p_lt (by omega)
          have eo : j_ior U (j_ishl 1 b) = ((U ||| 2 ^ b : Nat) : Int) := by
            rw [jshl1 (by omega), jor (by omega) (by omega)]
          have fu : frP P.length (up g 101 P.length b) h := fun x y hx => by rw [up_no (by omega), fg x y hx]
          rw [eo, show ((P.length : Nat) : Int) + 1 = (((P ++ [b]).length : Nat) : Int) by rw [List.length_append, List.length_singleton]; omega]
          refine c_sr hw hU hl m (d - 1) (P ++ [b]) (U ||| 2 ^ b) _ _ (by omega) (by rw [List.length_append, List.length_singleton]; omega) ?_ (Nat.or_lt_two_pow hU2 h1) (fun b' hb' => ?_) (fun b' hb' => ?_) (OS_c2 O1 (fun x y q1 q2 => fu x y (by omega))) (OS_c2 O2 (fun x y q1 q2 => fu x y (by omega))) (fun g2 f2 => ?_)
          · have A2 : AR g 101 P := fun i hi => by rw [fg _ _ (by omega)]; exact A i hi
            exact AR_add A2
          · rw [Nat.testBit_or, hm b' hb', Nat.testBit_two_pow]
            have : (b' ∈ P ++ [b]) ↔ (b' ∈ P ∨ b = b') := by
              rw [List.mem_append, List.mem_singleton]
              exact ⟨fun z => z.elim Or.inl (fun e => Or.inr e.symm), fun z => z.elim Or.inl (fun e => Or.inr e.symm)⟩
            rw [← Bool.decide_or]
            exact decide_eq_decide.2 this.symm
          · rcases List.mem_append.1 hb' with z | z
            · exact hb b' z
            · rw [List.mem_singleton.1 z]; omega
          · have f3 : frP P.length g2 h := fun x y hx => by
              rw [f2 x y (by rw [List.length_append, List.length_singleton]; omega), fu x y hx]
            cases hs : sr w (fun v => mvB w L1 L2 (fnL v)) m (P ++ [b]) with
            | true =>
              refine ⟨fun c => absurd c (by decide), fun _ => ?_⟩
              have : sr w (fun v => mvB w L1 L2 (fnL v)) (m + 1) P = true := anyB_iff.2 ⟨b, by omega, by rw [decide_eq_false hout, hs]; rfl⟩
              have q := hq g2 f3
              rw [this] at q
              exact q
            | false =>
              refine ⟨fun _ => ⟨by omega, ?_⟩, fun c => absurd rfl c⟩
              rw [show (b : Int) + 1 = ((b + 1 : Nat) : Int) by omega]
              refine ih (b + 1) g2 (by omega) f3 (fun b' hb' => ?_)
              by_cases q : b' = b
              · rw [q, hs, Bool.and_false]
              · exact I b' (by omega)
    exact sX5_search (d := d) (dd := d - 1) (by omega) (by omega) ⟨by omega, fun c => absurd c (by omega), fun _ => ⟨fun _ => inner w 0 h (by omega) (fun _ _ _ => rfl) (fun b' hb' => absurd hb' (by omega)), fun c => absurd c (by omega)⟩⟩
theorem sr_ex {w : Nat} {mv : List Nat → Bool} : ∀ (m : Nat) (P : List Nat), P.Nodup → (sr w mv m P = true ↔ ∃ S : List Nat, S.length = m ∧ (P ++ S).Nodup ∧ (∀ b ∈ S, b < w) ∧ mv (P ++ S) = true)
  | 0, P, hP => by
    constructor
    · intro h
      exact ⟨[], rfl, by rw [List.append_nil]; exact hP, fun b hb => absurd hb List.not_mem_nil, by rw [List.append_nil]; exact h⟩
    · rintro ⟨S, h1, _, _, h4⟩
      have e : S = [] := List.eq_nil_of_length_eq_zero h1
      rw [e, List.append_nil] at h4
      exact h4
  | m + 1, P, hP => by
    show anyB (fun b => !decide (b ∈ P) && sr w mv m (P ++ [b])) w = true ↔ _
    rw [anyB_iff]
    constructor
    · rintro ⟨b, h1, h2⟩
      rw [Bool.and_eq_true] at h2
      have hout : ¬ b ∈ P := fun q => by
        rw [decide_eq_true q] at h2
        exact absurd h2.1 (by decide)
      have nd : (P ++ [b]).Nodup := by
        refine List.nodup_append.2 ⟨hP, by simp, fun a ha c hc => ?_⟩
        rw [List.mem_singleton] at hc
        intro e
        rw [e, hc] at ha
        exact hout ha
      obtain ⟨S, k1, k2, k3, k4⟩ := (sr_ex m (P ++ [b]) nd).1 h2.2
      rw [List.append_assoc] at k2 k4
      refine ⟨b :: S, by rw [List.length_cons, k1], k2, fun c hc => ?_, k4⟩
      rcases List.mem_cons.1 hc with e | e
      · rw [e]; exact h1
      · exact k3 c e
    · rintro ⟨S, k1, k2, k3, k4⟩
      cases S with
      | nil => exact absurd k1.symm (Nat.succ_ne_zero m)
      | cons b S =>
        have nd0 := List.nodup_append.1 k2
        have hout : ¬ b ∈ P := fun q => nd0.2.2 b q b (List.mem_cons_self ..) rfl
        have e : P ++ b :: S = P ++ [b] ++ S := by simp
        rw [e] at k2 k4
        have nd : (P ++ [b]).Nodup := (List.nodup_append.1 k2).1
        refine ⟨b, k3 b (List.mem_cons_self ..), ?_⟩
        rw [decide_eq_false hout, Bool.not_false, Bool.true_and]
        exact (sr_ex m (P ++ [b]) nd).2 ⟨S, by rw [List.length_cons] at k1; omega, k2, fun c hc => k3 c (List.mem_cons_of_mem _ hc), k4⟩
theorem nd_perm {w : Nat} {S : List Nat} (h1 : S.length = w) (h2 : S.Nodup) (h3 : ∀ b ∈ S, b < w) : S.Perm (List.range w) := by
  refine perm_nd _ _ h2 List.nodup_range (fun x => ⟨fun hx => List.mem_range.2 (h3 x hx), fun hx => ?_⟩)
  apply Classical.byContradiction
  intro hn
  have le := nd_le S ((List.range w).erase x) h2 (fun y hy => (List.mem_erase_of_ne (fun e => hn (by rw [← e]; exact hy))).2 (List.mem_range.2 (h3 y hy)))
  rw [List.length_erase_of_mem hx, List.length_range] at le
  have := List.mem_range.1 hx
  omega
theorem sr_all {w : Nat} {mv : List Nat → Bool} : sr w mv w [] = true ↔ ∃ v : List Nat, v.Perm (List.range w) ∧ mv v = true := by
  rw [sr_ex w [] List.nodup_nil]
  constructor
  · rintro ⟨S, h1, h2, h3, h4⟩
    exact ⟨S, nd_perm h1 h2 h3, h4⟩
  · rintro ⟨v, h1, h2⟩
    exact ⟨v, by rw [h1.length_eq, List.length_range], h1.nodup_iff.2 List.nodup_range, fun b hb => List.mem_range.1 (h1.mem_iff.1 hb), h2⟩
/-! the reference's side -/
theorem m_s91 {k w x : Nat} {f : Nat → Nat} {h : Hp} {Q : Int → Hp → Prop} (hk : k < 4) (hw : w ≤ 8) (ew : h 104 k = w) (F : FA h 121 w f) (hf : ∀ j : Nat, j < w → f j < w) (hx : x < 2 ^ w) (K : E 3 mX11_subsumes 128 [(0, vr 103), (1, vi k), (8, vi x), (9, vi ((pmN f x w : Nat) : Int))] [] h (qi Q)) : ∀ (m i : Nat) (z : Int), i + m = w → z = ((pmN f x i : Nat) : Int) → E 3 mX11_subsumes 91 [(0, vr 103), (1, vi k), (8, vi x), (9, vi z), (10, vi i)] [] h (qi Q)
  | 0, i, z, hm, ez => by
    have ei : i = w := by omega
    subst ei
    rw [ez]
    exact sX11_subsumes_91 ⟨by omega, fun _ => K, fun c => absurd c (by omega)⟩
  | m + 1, i, z, hm, ez => by
    have h256 := p256 hw
    refine sX11_subsumes_91 ⟨by omega, fun c => absurd c (by omega), fun _ => ⟨by omega, fun x4 hx4 => ⟨by omega, ?_⟩⟩⟩
    rw [pm_st (f := f) (y := x) (i := i) ez rfl (F i (by omega)) (by omega) (by omega) (fun j hj => by have := hf j (by omega); omega)] at hx4
    rw [show (i : Int) + 1 = ((i + 1 : Nat) : Int) by omega]
    exact m_s91 hk hw ew F hf hx K m (i + 1) x4 (by omega) hx4
theorem m_s67 {k w : Nat} {f : Nat → Nat} {L1 L2 : List Nat} {h : Hp} {Q : Int → Hp → Prop} (hk : k < 4) (hw : w ≤ 8) (ew : h 104 k = w) (F : FA h 121 w f) (hf : ∀ j : Nat, j < w → f j < w) (A : st1 h 119 L1) (B : st1 h 120 L2) (hU : ∀ y ∈ L1, y < 2 ^ w) (hq : mvB w L1 L2 f = true → Q 1 h) (K : mvB w L1 L2 f = false → CI 1 mX11_isNext [vr 103, vi (h 104 k)] h (fun r5 h4 => E 3 mX11_subsumes 56 [(0, vr 103), (1, vi k), (6, vi r5)] [] h4 (qi Q))) : ∀ (m x : Nat), x + m = 2 ^ w → (∀ y : Nat, y < x → y ∈ L1 → pmN f y w ∈ L2) → E 3 mX11_subsumes 67 [(0, vr 103), (1, vi k), (7, vi 1), (8, vi x)] [] h (qi Q)
  | 0, x, hm, I => by
    have e1 : j_ishl 1 (h 104 k) = ((2 ^ w : Nat) : Int) := by rw [ew]; exact jshl1 (by omega)
    refine sX11_subsumes_67 ⟨by omega, fun _ => ⟨fun c => absurd c (by decide), fun _ => hq ?_⟩, fun c => absurd c (by omega)⟩
    unfold mvB
    rw [List.all_eq_true]
    exact fun y hy => decide_eq_true (I y (by have := hU y hy; omega) hy)
  | m + 1, x, hm, I => by
    have h256 := p256 hw
    have e1 : j_ishl 1 (h 104 k) = ((2 ^ w : Nat) : Int) := by rw [ew]; exact jshl1 (by omega)
    have pl := pmN_lt (f := f) (y := x) (w := w) w hf
    have a1 := A x (by omega)
    have b1 := B (pmN f x w) (by omega)
    refine sX11_subsumes_67 ⟨by omega, fun c => absurd c (by omega), fun _ => ⟨fun c => absurd c (by decide), fun _ => ?_⟩⟩
    refine m_s91 hk hw ew F hf (by omega) ?_ w 0 0 (by omega) rfl
    refine sX11_subsumes_128 ⟨⟨by omega, fun _ => by omega⟩, by omega, ?_⟩
    rw [show (x : Int) + 1 = ((x + 1 : Nat) : Int) by omega]
    by_cases q : x ∈ L1 → pmN f x w ∈ L2
    · have hc : h 119 x = 0 ∨ h 120 ((pmN f x w : Nat) : Int) ≠ 0 := by
        by_cases q2 : x ∈ L1
        · right
          rw [b1, if_pos (q q2)]
          decide
        · left
          rw [a1, if_neg q2]
      rw [if_pos hc]
      refine m_s67 hk hw ew F hf A B hU hq K m (x + 1) (by omega) (fun y hy hin => ?_)
      by_cases q3 : y = x
      · rw [q3] at hin ⊢; exact q hin
      · exact I y (by omega) hin
    · have hin : x ∈ L1 := Classical.byContradiction (fun z => q (fun y => absurd y z))
      have hno : ¬ pmN f x w ∈ L2 := fun z => q (fun _ => z)
      have hc : ¬ (h 119 x = 0 ∨ h 120 ((pmN f x w : Nat) : Int) ≠ 0) := by
        rw [a1, if_pos hin, b1, if_neg hno]
        decide
      rw [if_neg hc]
      have mf : mvB w L1 L2 f = false := by
        cases hb : mvB w L1 L2 f with
        | false => rfl
        | true =>
          unfold mvB at hb
          rw [List.all_eq_true] at hb
          exact absurd (of_decide_eq_true (hb x hin)) hno
      have k := K mf
      exact sX11_subsumes_67 ⟨by omega, fun _ => ⟨fun _ => ⟨by omega, k⟩, fun z => absurd rfl z⟩, fun _ => ⟨fun _ => ⟨fun _ => ⟨by omega, k⟩, fun z => absurd rfl z⟩, fun z => absurd rfl z⟩⟩
theorem m_subs {h : Hp} {k w : Nat} {L1 L2 : List Nat} {Q : Int → Hp → Prop} (hk : k < 4) (hw2 : 2 ≤ w) (hw : w ≤ 8) (ew : h 104 k = w) (A : st1 h 119 L1) (B : st1 h 120 L2) (hU : ∀ y ∈ L1, y < 2 ^ w) (hq : ∀ g : Hp, (∀ x y : Int, x ≠ 121 → g x y = h x y) → Q (if sr w (fun v => mvB w L1 L2 (fnL v)) w [] then 1 else 0) g) : CV 0 mX11_begins [vr 103] h (fun h12 => E 3 mX11_subsumes 56 [(0, vr 103), (1, vi k), (6, vi 1)] [] h12 (qi Q)) := by
  refine m_begins (fun g p1 p2 => ?_)
  have ewg : g 104 k = w := by rw [p2 _ _ (by omega)]; exact ew
  refine blkE (w := w) (zw := g 104 k) (p := fun v => mvB w L1 L2 (fnL v)) (Inv := fun u => ∀ x y : Int, x ≠ 121 → u x y = g x y) (G := fun r u => E 3 mX11_subsumes 56 [(0, vr 103), (1, vi k), (6, vi r)] [] u (qi Q)) (Fin := fun u => Q 1 u) ewg hw (fun a b hab hb x y hx => by rw [hab x y hx, hb x y hx]) (fun v u hv AV I F K => ?_) w (List.range w) [] g List.length_range (List.Perm.refl _) (rng_pw w) (fun t ht => ?_) (fun _ _ _ => rfl) (fun u v I _ hv q => ?_) (fun u AV I _ N => ?_)
  · have lv : v.length = w := by rw [hv.length_eq, List.length_range]
    have fr : ∀ x y : Int, x ≠ 121 → u x y = h x y := fun x y hx => by rw [I x y hx, p2 x y hx]
    refine sX11_subsumes_56 ⟨fun c => absurd c (by decide), fun _ => ?_⟩
    refine m_s67 hk hw (by rw [fr _ _ (by omega)]; exact ew) (AR_FA lv AV) (fnL_P hv).1 (fun y hy => by rw [fr _ _ (by omega)]; exact A y hy) (fun y hy => by rw [fr _ _ (by omega)]; exact B y hy) hU F (fun q => ?_) (2 ^ w) 0 (by omega) (fun y hy => absurd hy (by omega))
    rw [I 104 k (by omega)]
    exact K q
  · have ht : t < (List.range w).length := ht
    rw [List.length_range] at ht
    rw [p1 t (by omega)]
    simp
  · have := hq u (fun x y hx => by rw [I x y hx, p2 x y hx])
    rw [sr_all.2 ⟨v, hv, q⟩] at this
    exact this
  · rw [List.nil_append] at AV
    refine m_nextN (w := w) ewg hw2 hw (by rw [List.length_reverse, List.length_range]) (List.pairwise_reverse.2 (rng_pw w)) AV ?_
    refine sX11_subsumes_56 ⟨fun _ => ?_, fun c => absurd rfl c⟩
    have := hq u (fun x y hx => by rw [I x y hx, p2 x y hx])
    have sf : sr w (fun v => mvB w L1 L2 (fnL v)) w [] = false := by
      cases hb : sr w (fun v => mvB w L1 L2 (fnL v)) w [] with
      | false => rfl
      | true =>
        obtain ⟨v, h1, h2⟩ := sr_all.1 hb
        have n := N v ((lx_mem w _ v List.length_range).2 h1)
        rw [List.nil_append] at n
        have h2 : mvB w L1 L2 (fnL v) = true := h2
        have n : mvB w L1 L2 (fnL v) = false := n
        rw [n] at h2
        exact absurd h2 (by decide)
    rw [sf] at this
    exact this
theorem op_subsumes {h : Hp} {a b : Int} (hR : Rl h) : OpI 14 mX10_subsumes 3 mX11_subsumes [vi a, vi b] h := by
  obtain ⟨nets, hist, H⟩ := Rl_RlN hR
  by_cases hk : (0 ≤ a ∧ a < 4) ∧ (0 ≤ b ∧ b < 4)
  · obtain ⟨i, hi, rfl⟩ := toN hk.1.1 hk.1.2
    obtain ⟨j, hj, rfl⟩ := toN hk.2.1 hk.2.2
    obtain ⟨i1, i2, i3⟩ := H.1 i hi
    obtain ⟨j1, j2, j3⟩ := H.1 j hj
    have e1 := i2.1
    have e2 := j2.1
    have e3 := i3.1
    have e4 := j3.1
    by_cases hw : (nets i).1 = (nets j).1
    · by_cases h6 : (nets i).1 ≤ 6
      · have w8 := i1.2.1
        have h256 := p256 w8
        have dl := dst_len (f := cry (nets i).2) (2 ^ (nets i).1)
        have dt := dst_lt i1
        obtain ⟨L1, eL1⟩ : ∃ L, L = dst (cry (nets i).2) (2 ^ (nets i).1) := ⟨_, rfl⟩
        obtain ⟨L2, eL2⟩ : ∃ L, L = dst (cry (nets j).2) (2 ^ (nets j).1) := ⟨_, rfl⟩
        rw [← eL1] at dl dt
        refine op_keep (r := if sr (nets i).1 (fun v => mvB (nets i).1 L1 L2 (fnL v)) (nets i).1 [] then 1 else 0) H ?_ (fun h1 ms => ?_)
        · refine sX10_subsumes ⟨fun c => absurd c (by omega), fun _ => ⟨fun _ => ⟨by omega, fun _ => ⟨by omega, fun _ => ⟨by omega, ?_⟩, fun c => absurd c (by omega)⟩, fun c => absurd c (by omega)⟩, fun c => absurd c (by omega)⟩⟩
          refine c_outs (N := nets i) (Or.inl rfl) (by omega) i1 i2 (fun g O fr => ⟨by omega, ?_⟩)
          refine c_outs (N := nets j) (Or.inr rfl) (by omega) j1 (CNt_c (fun x y p1 p2 => fr x y (by omega)) j2) (fun g2 O2 fr2 => ?_)
          rw [← eL1] at O
          rw [← eL2, ← hw] at O2
          refine sX5_putsInto ?_
          refine c_sr (w := (nets i).1) w8 dt (by omega) (nets i).1 12 [] 0 g2 _ (by omega) (by show 0 + _ = _; omega) (fun t ht => absurd ht (Nat.not_lt_zero _)) (Nat.two_pow_pos _) (fun c hc => by rw [Nat.zero_testBit]; exact (decide_eq_false List.not_mem_nil).symm) (fun c hc => absurd hc List.not_mem_nil) (OS_c2 O (fun x y q1 q2 => fr2 x y (by omega))) O2 (fun g3 f3 => ⟨?_, ?_, fun x y hx => ?_⟩)
          · split
            · exact Or.inr rfl
            · exact Or.inl rfl
          · split <;> rfl
          · unfold kC0 at hx
            rw [f3 x y (by omega), fr2 x y (by omega), fr x y (by omega)]
        · obtain ⟨m1, m2, m3, m4, e⟩ := ms
          have g1 := (m1 i hi).2.1
          have g2 := (m1 j hj).2.1
          refine sX11_subsumes ⟨⟨fun _ => by omega, fun _ => by omega⟩, fun x2 hx2 => ?_⟩
          rw [if_neg (by omega), if_pos (by omega), if_pos (by omega)] at hx2
          refine ⟨fun _ => ⟨by omega, fun _ => ?_, fun c => absurd c (by omega)⟩, fun c => absurd c (by omega)⟩
          refine m_finds (N := nets i) (Or.inl rfl) hi i1 (m1 i hi).2 (fun g O fr => ?_)
          refine m_finds (N := nets j) (Or.inr (Or.inl rfl)) hj j1 (MNt_c (fun x y p1 p2 => fr x y (by omega)) (m1 j hj).2) (fun g2 O2 fr2 => ?_)
          rw [← eL1] at O
          rw [← eL2] at O2
          refine m_subs (w := (nets i).1) hi i1.1 w8 (by rw [fr2 _ _ (by omega), fr _ _ (by omega)]; exact (m1 i hi).2.1) (fun y hy => by rw [fr2 _ _ (by omega)]; exact O y hy) O2 dt (fun g3 f3 => ⟨rfl, fun x y hx => ?_⟩)
          unfold kM0 at hx
          rw [f3 x y (by omega), fr2 x y (by omega), fr x y (by omega)]
      · have no : CI 3 mX11_subsumes [vr 103, vi i, vi j] h (fun r2 h2 => -6 = r2 ∧ Rl h2) := by
          refine sX11_subsumes ⟨⟨fun _ => by omega, fun _ => by omega⟩, fun x2 hx2 => ?_⟩
          rw [if_neg (by omega), if_pos (by omega), if_pos (by omega)] at hx2
          exact ⟨fun _ => ⟨by omega, fun c => absurd c (by omega), fun _ => ⟨rfl, hR⟩⟩, fun c => absurd c (by omega)⟩
        exact sX10_subsumes ⟨fun c => absurd c (by omega), fun _ => ⟨fun _ => ⟨by omega, fun _ => ⟨by omega, fun c => absurd c (by omega), fun _ => no⟩, fun c => absurd c (by omega)⟩, fun c => absurd c (by omega)⟩⟩
    · have no : CI 3 mX11_subsumes [vr 103, vi i, vi j] h (fun r2 h2 => -2 = r2 ∧ Rl h2) := by
        refine sX11_subsumes ⟨⟨fun _ => by omega, fun _ => by omega⟩, fun x2 hx2 => ?_⟩
        rw [if_neg (by omega), if_pos (by omega), if_neg (by omega)] at hx2
        exact ⟨fun c => absurd c (by omega), fun _ => ⟨hx2.symm, hR⟩⟩
      exact sX10_subsumes ⟨fun c => absurd c (by omega), fun _ => ⟨fun _ => ⟨by omega, fun c => absurd c (by omega), fun _ => no⟩, fun c => absurd c (by omega)⟩⟩
  · have no : CI 3 mX11_subsumes [vr 103, vi a, vi b] h (fun r2 h2 => -1 = r2 ∧ Rl h2) := by
      refine sX11_subsumes ⟨⟨fun c => absurd c (by omega), fun c => absurd c (by omega)⟩, fun x2 hx2 => ?_⟩
      have hx : x2 = -1 := by
        rw [hx2]
        by_cases q : a < 0 ∨ a > 3
        · rw [if_pos q]
        · rw [if_neg q, if_neg (by omega)]
      exact ⟨fun c => absurd c (by omega), fun _ => ⟨hx.symm, hR⟩⟩
    exact sX10_subsumes ⟨fun _ => no, fun _ => ⟨fun c => absurd c (by omega), fun _ => no⟩⟩
