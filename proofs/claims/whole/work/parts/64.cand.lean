/-! candidate, grow -/
theorem c_ca {h : Hp} {w i j : Nat} {L : List Nat} {Q : Int → Hp → Prop} (hw : w ≤ 8) (hi : i < w) (hj : j < w) (O : OS h 85 w L) (hU : ∀ y ∈ L, y < 2 ^ w) (hl : L.length ≤ 256) (hq : Q ((L.length : Int) - (colC (coP (i, j) L) L : Nat)) h) : ∀ (rest pre : List Nat) (n : Nat), pre ++ rest = L → n + colC (coP (i, j) L) rest = colC (coP (i, j) L) L → n ≤ pre.length → E 1 mX4_countAfter 5 [(0, vr 85), (1, vi i), (2, vi j), (3, vi n), (4, vi pre.length)] [] h (qi Q)
  | [], pre, n, hp, hn, hl2 => by
    have len : pre.length = L.length := by rw [← hp, List.append_nil]
    have e := O.2.1
    have hn' : n = colC (coP (i, j) L) L := hn
    refine sX4_countAfter_5 ⟨by omega, fun _ => ⟨⟨by omega, by omega⟩, ?_⟩, fun c => absurd c (by omega)⟩
    rw [e, hn']
    exact hq
  | y :: t, pre, n, hp, hn, hl2 => by
    have h256 := p256 hw
    have hy := hU y (by rw [← hp]; exact List.mem_append_right _ (List.mem_cons_self ..))
    have len : pre.length + (t.length + 1) = L.length := by rw [← hp, List.length_append, List.length_cons]
    have e0 := O.2.1
    have e : h 87 pre.length = y := by
      have hh := O.2.2.2 pre.length (by omega)
      rw [show (85 : Int) + 2 = 87 from rfl] at hh
      rw [hh]
      subst hp
      simp
    have lt : exq (i, j) y < 2 ^ w := exq_lt hi hj hy
    have hs := O.2.2.1 (exq (i, j) y) (by omega)
    rw [show (85 : Int) + 1 = 86 from rfl] at hs
    have ec : colC (coP (i, j) L) (y :: t) = (if coP (i, j) L y then 1 else 0) + colC (coP (i, j) L) t := rfl
    rw [ec] at hn
    have nx : ∀ n' : Nat, n' + colC (coP (i, j) L) t = colC (coP (i, j) L) L → n' ≤ pre.length + 1 → E 1 mX4_countAfter 5 [(0, vr 85), (1, vi i), (2, vi j), (3, vi n'), (4, vi ((pre.length : Int) + 1))] [] h (qi Q) := fun n' h1 h2 => by
      have := c_ca hw hi hj O hU hl hq t (pre ++ [y]) n' (by rw [List.append_assoc]; exact hp) h1 (by rw [List.length_append, List.length_singleton]; exact h2)
      rw [List.length_append, List.length_singleton] at this
      exact this
    refine sX4_countAfter_5 ⟨by omega, fun c => absurd c (by omega), fun _ => ⟨by omega, fun x4 hx4 => ?_⟩⟩
    rw [show (85 : Int) + 2 = 87 from rfl, e, bit_c (c := (i, j)) (by omega) (by show i < 8; omega) (by show j < 8; omega)] at hx4
    subst hx4
    rw [show (85 : Int) + 2 = 87 from rfl, show (85 : Int) + 1 = 86 from rfl, e]
    refine ⟨by omega, fun c => ⟨by omega, nx n ?_ (by omega)⟩, fun c => ⟨by omega, fun c2 => ⟨by omega, nx n ?_ (by omega)⟩, fun c2 => ⟨by omega, ?_⟩⟩⟩
    · have : coP (i, j) L y = false := by
        unfold coP
        rw [decide_eq_false (show ¬ exq (i, j) y ≠ y from fun q => q (by omega))]; rfl
      rw [this] at hn
      have hn : n + (0 + colC (coP (i, j) L) t) = _ := hn
      omega
    · have : coP (i, j) L y = false := by
        unfold coP
        have hm : ¬ exq (i, j) y ∈ L := fun q => by
          rw [if_pos q] at hs
          rw [hs] at c2
          exact absurd c2 (by decide)
        rw [decide_eq_false hm, Bool.and_false]
      rw [this] at hn
      have hn : n + (0 + colC (coP (i, j) L) t) = _ := hn
      omega
    · have : coP (i, j) L y = true := by
        unfold coP
        have hm : exq (i, j) y ∈ L := by
          by_cases q : exq (i, j) y ∈ L
          · exact q
          · rw [if_neg q] at hs; exact absurd hs c2
        rw [decide_eq_true hm, decide_eq_true (show exq (i, j) y ≠ y from fun q => c (by omega))]; rfl
      rw [this] at hn
      have hn : n + (1 + colC (coP (i, j) L) t) = _ := hn
      rw [show (n : Int) + 1 = ((n + 1 : Nat) : Int) by omega]
      exact nx (n + 1) (by omega) (by omega)
theorem c_cntA {h : Hp} {w i j : Nat} {zi zj : Int} {L : List Nat} {Q : Int → Hp → Prop} (ei : zi = i) (ej : zj = j) (hw : w ≤ 8) (hij : i ≠ j) (hi : i < w) (hj : j < w) (O : OS h 85 w L) (hnd : L.Nodup) (hU : ∀ y ∈ L, y < 2 ^ w) (hl : L.length ≤ 256) (hq : Q ((imS L (i, j) (2 ^ w)).length : Nat) h) : CI 1 mX4_countAfter [vr 85, vi zi, vi zj] h Q := by
  subst ei
  subst ej
  have ic := im_count (c := (i, j)) hij hnd hU
  refine sX4_countAfter (c_ca hw hi hj O hU hl ?_ L [] 0 rfl (by omega) (Nat.zero_le _))
  rw [show (L.length : Int) - (colC (coP (i, j) L) L : Nat) = ((imS L (i, j) (2 ^ w)).length : Nat) by omega]
  exact hq
theorem c_r16 {i j c : Nat} {Q : Hp → Prop} (hi : i < 8) (hj : j < 8) (hc : c ≤ 256) : ∀ (RA B : List Nat) (h : Hp), RA.length + B.length < 28 → h 91 3 = ((RA.length + B.length : Nat) : Int) → RkC h RA 0 → RkC h B (RA.length + 1) → (∀ g : Hp, RkC g (B ++ insC (100 * c + 10 * i + j) RA) 0 → g 91 3 = ((RA.length + B.length + 1 : Nat) : Int) → (∀ x y : Int, ¬ ((92 ≤ x ∧ x ≤ 94) ∨ (x = 91 ∧ y = 3)) → g x y = h x y) → Q g) → E 0 mX1_rankOne 16 [(0, vr 91), (1, vi i), (2, vi j), (3, vi c), (4, vi RA.length)] [] h (qv Q)
  | [], B, h, hl, e3, R1, R2, hq => by
    have hl : 0 + B.length < 28 := hl
    have e3 : h 91 3 = ((0 + B.length : Nat) : Int) := e3
    refine sX1_rankOne_16 ⟨fun _ => sX1_rankOne_88 ⟨⟨by show 0 ≤ ((0 : Nat) : Int) ∧ _; omega, by omega⟩, hq _ ?_ ?_ (fun x y hx => ?_)⟩, fun c => absurd c (by show ¬ ((0 : Nat) : Int) > 0; omega)⟩
    · refine RkC_app B [100 * c + 10 * i + j] 0 (RkC_c B _ (fun x y h0 h1 h2 h3 => ?_) R2) ⟨⟨?_, ?_, ?_⟩, trivial⟩
      · have h2 : ((0 + 1 : Nat) : Int) ≤ y := h2
        rw [up_no (by omega), up_no (by show ¬ (x = 94 ∧ y = ((0 : Nat) : Int)); omega), up_no (by show ¬ (x = 93 ∧ y = ((0 : Nat) : Int)); omega), up_no (by show ¬ (x = 92 ∧ y = ((0 : Nat) : Int)); omega)]
      · show up _ 91 3 _ 92 ((0 : Nat) : Int) = _
        rw [up_no (by omega), up_no (by omega), up_no (by omega)]
        show up h 92 ((0 : Nat) : Int) i 92 ((0 : Nat) : Int) = _
        rw [up_eq]; omega
      · show up _ 91 3 _ 93 ((0 : Nat) : Int) = _
        rw [up_no (by omega), up_no (by omega)]
        show up _ 93 ((0 : Nat) : Int) j 93 ((0 : Nat) : Int) = _
        rw [up_eq]; omega
      · show up _ 91 3 _ 94 ((0 : Nat) : Int) = _
        rw [up_no (by omega)]
        show up _ 94 ((0 : Nat) : Int) c 94 ((0 : Nat) : Int) = _
        rw [up_eq]; omega
    · rw [up_eq]; show h 91 3 + 1 = ((0 + B.length + 1 : Nat) : Int); omega
    · rw [up_no (by omega), up_no (by omega), up_no (by omega), up_no (by omega)]
  | a :: r, B, h, hl, e3, R1, R2, hq => by
    rw [List.length_cons] at hl e3 R2
    obtain ⟨⟨a1, a2, a3⟩, R1'⟩ := id R1
    rw [Nat.zero_add] at a1 a2 a3
    rw [List.length_cons]
    have ez : ((r.length + 1 : Nat) : Int) - 1 = r.length := by omega
    refine sX1_rankOne_16 ⟨fun c => absurd c (by omega), fun _ => ?_⟩
    rw [ez, a1, a2, a3]
    refine ⟨by omega, fun q => ?_, fun q => ⟨by omega, ?_⟩⟩
    · have hd : insC (100 * c + 10 * i + j) (a :: r) = (100 * c + 10 * i + j) :: a :: r := by
        unfold insC
        rw [if_pos (by omega)]
      rw [hd] at hq
      refine sX1_rankOne_88 ⟨by omega, hq _ ?_ ?_ (fun x y hx => ?_)⟩
      · refine RkC_app B _ 0 (RkC_c B _ (fun x y h0 h1 h2 h3 => ?_) (by rw [List.length_cons, List.length_cons, Nat.zero_add]; exact R2)) ⟨⟨?_, ?_, ?_⟩, RkC_c (a :: r) 0 (fun x y h0 h1 h2 h3 => ?_) R1⟩
        · rw [List.length_cons, List.length_cons] at h2
          rw [up_no (by omega), up_no (by omega), up_no (by omega), up_no (by omega)]
        · rw [List.length_cons, Nat.zero_add, up_no (by omega), up_no (by omega), up_no (by omega), up_eq]; omega
        · rw [List.length_cons, Nat.zero_add, up_no (by omega), up_no (by omega), up_eq]; omega
        · rw [List.length_cons, Nat.zero_add, up_no (by omega), up_eq]; omega
        · rw [List.length_cons] at h3
          rw [up_no (by omega), up_no (by omega), up_no (by omega), up_no (by omega)]
      · rw [up_eq, List.length_cons, e3]; omega
      · rw [up_no (by omega), up_no (by omega), up_no (by omega), up_no (by omega)]
    · have hd : insC (100 * c + 10 * i + j) (a :: r) = a :: insC (100 * c + 10 * i + j) r := by
        show (if a / 100 ≤ (100 * c + 10 * i + j) / 100 then _ else _) = _
        rw [if_neg (by omega)]
      rw [hd] at hq
      rw [show ((r.length + 1 : Nat) : Int) + -1 = r.length by omega]
      have fr : ∀ x y : Int, ¬ (92 ≤ x ∧ x ≤ 94) → up (up (up h 92 ((r.length + 1 : Nat) : Int) ((a % 100 / 10 : Nat) : Int)) 93 ((r.length + 1 : Nat) : Int) ((a % 10 : Nat) : Int)) 94 ((r.length + 1 : Nat) : Int) ((a / 100 : Nat) : Int) x y = h x y := fun x y hx => by rw [up_no (by omega), up_no (by omega), up_no (by omega)]
      refine c_r16 hi hj hc r (B ++ [a]) _ (by rw [List.length_append, List.length_singleton]; omega) (by rw [fr _ _ (by omega), List.length_append, List.length_singleton, e3]; omega) (RkC_c r 0 (fun x y h0 h1 h2 h3 => ?_) R1') (RkC_snoc (RkC_c B _ (fun x y h0 h1 h2 h3 => ?_) R2) ?_ ?_ ?_) (fun g p1 p2 p3 => hq g ?_ ?_ (fun x y hx => by rw [p3 x y hx, fr x y (by omega)]))
      · rw [up_no (by omega), up_no (by omega), up_no (by omega)]
      · rw [up_no (by omega), up_no (by omega), up_no (by omega)]
      · rw [up_no (by omega), up_no (by omega), up_eq]
      · rw [up_no (by omega), up_eq]
      · rw [up_eq]
      · rw [List.append_assoc] at p1; exact p1
      · rw [p2, List.length_append, List.length_singleton, List.length_cons]; omega
theorem c_rank1 {h : Hp} {i j c : Nat} {RA : List Nat} {Q : Hp → Prop} (hi : i < 8) (hj : j < 8) (hc : c ≤ 256) (hl : RA.length < 28) (e3 : h 91 3 = RA.length) (R : RkC h RA 0) (hq : ∀ g : Hp, RkC g (insC (100 * c + 10 * i + j) RA) 0 → g 91 3 = ((RA.length + 1 : Nat) : Int) → (∀ x y : Int, ¬ ((92 ≤ x ∧ x ≤ 94) ∨ (x = 91 ∧ y = 3)) → g x y = h x y) → Q g) : CV 0 mX1_rankOne [vr 91, vi i, vi j, vi c] h Q := by
  refine sX1_rankOne ⟨fun _ => ?_, fun c => absurd c (by omega)⟩
  rw [e3]
  exact c_r16 hi hj hc RA [] h (by show _ + 0 < 28; omega) e3 R trivial hq
theorem OS_c {h g : Hp} {w : Nat} {L : List Nat} (O : OS h 85 w L) (fr : ∀ x y : Int, 85 ≤ x → x ≤ 87 → g x y = h x y) : OS g 85 w L := ⟨by rw [fr _ _ (by omega) (by omega)]; exact O.1, by rw [fr _ _ (by omega) (by omega)]; exact O.2.1, fun z hz => by rw [fr _ _ (by omega) (by omega)]; exact O.2.2.1 z hz, fun i hi => by rw [fr _ _ (by omega) (by omega)]; exact O.2.2.2 i hi⟩
theorem tri28 {w : Nat} (hw : w ≤ 8) : tri w ≤ 28 := by
  have : ∀ w : Nat, w < 9 → tri w ≤ 28 := by decide
  exact this w (by omega)
def lowR (b : Nat) (RA : List Nat) : Prop := ∀ a ∈ RA, a % 100 < b
theorem lowR_ins {b e : Nat} {RA : List Nat} (h : lowR b RA) (he : e % 100 = b) : lowR (b + 1) (insR e RA) := fun a ha => by
  rcases (insR_mem RA).1 ha with q | q
  · rw [q, he]; omega
  · have := h a q; omega
theorem c_ra19 {w i : Nat} {L : List Nat} {Q : Hp → Prop} (hw : w ≤ 8) (hnd : L.Nodup) (hU : ∀ y ∈ L, y < 2 ^ w) (hl : L.length ≤ 256) (hi : i < w) : ∀ (m j : Nat) (z : Int) (RA : List Nat) (h : Hp), z = j → j + m = w → i < j → RA.length + m ≤ 28 → lowR (10 * i + j) RA → OS h 85 w L → RkC h RA 0 → h 91 3 = RA.length → (∀ g : Hp, RkC g (rkI w L i m j RA) 0 → g 91 3 = ((RA.length + m : Nat) : Int) → lowR (10 * (i + 1) + (i + 2)) (rkI w L i m j RA) → (∀ x y : Int, ¬ ((92 ≤ x ∧ x ≤ 94) ∨ (x = 91 ∧ y = 3)) → g x y = h x y) → E 2 mX1_rankAll 7 [(0, vr 91), (1, vr 85), (2, vi ((i : Int) + 1))] [] g (qv Q)) → E 2 mX1_rankAll 19 [(0, vr 91), (1, vr 85), (2, vi i), (3, vi z)] [] h (qv Q)
  | 0, j, z, RA, h, ez, hm, hij, h28, lo, O, R, e3, hq => by
    have e := O.1
    exact sX1_rankAll_19 ⟨by omega, fun _ => ⟨by omega, hq h R (by omega) (fun a ha => by have := lo a ha; omega) (fun _ _ _ => rfl)⟩, fun c => absurd c (by omega)⟩
  | m + 1, j, z, RA, h, ez, hm, hij, h28, lo, O, R, e3, hq => by
    have e := O.1
    subst ez
    have il := imS_len (L := L) (c := (i, j)) (2 ^ w)
    have h256 := p256 hw
    have ce : codeE w L i j % 100 = 10 * i + j := by unfold codeE; omega
    refine sX1_rankAll_19 ⟨by omega, fun c => absurd c (by omega), fun _ => ⟨by omega, c_cntA rfl rfl hw (by omega) hi (by omega) O hnd hU hl ?_⟩⟩
    refine c_rank1 (by omega) (by omega) (by omega) (by omega) e3 R (fun g p1 p2 p3 => ⟨by omega, ?_⟩)
    have p1' : RkC g (insR (codeE w L i j) RA) 0 := by
      rw [← insC_eq (e := codeE w L i j) RA (fun a ha => by rw [ce]; exact lo a ha)]
      exact p1
    refine c_ra19 hw hnd hU hl hi m (j + 1) _ (insR (codeE w L i j) RA) g (by omega) (by omega) (by omega) (by rw [insR_len]; omega) (lowR_ins lo ce) (OS_c O (fun x y h0 h1 => p3 x y (by omega))) p1' (by rw [insR_len]; exact p2) (fun g2 q1 q2 q3 q4 => hq g2 q1 (by rw [q2, insR_len]; omega) q3 (fun x y hx => by rw [q4 x y hx, p3 x y hx]))
theorem c_ra7 {w : Nat} {L : List Nat} {Q : Hp → Prop} (hw : w ≤ 8) (hnd : L.Nodup) (hU : ∀ y ∈ L, y < 2 ^ w) (hl : L.length ≤ 256) : ∀ (m i : Nat) (z : Int) (RA : List Nat) (h : Hp), z = i → i + m = w → RA.length + tri m ≤ 28 → lowR (10 * i + (i + 1)) RA → OS h 85 w L → RkC h RA 0 → h 91 3 = RA.length → (∀ g : Hp, RkC g (rkO w L m i RA) 0 → g 91 3 = ((RA.length + tri m : Nat) : Int) → (∀ x y : Int, ¬ ((92 ≤ x ∧ x ≤ 94) ∨ (x = 91 ∧ y = 3)) → g x y = h x y) → Q g) → E 2 mX1_rankAll 7 [(0, vr 91), (1, vr 85), (2, vi z)] [] h (qv Q)
  | 0, i, z, RA, h, ez, hm, h28, lo, O, R, e3, hq => by
    have e := O.1
    exact sX1_rankAll_7 ⟨by omega, fun _ => hq h R e3 (fun _ _ _ => rfl), fun c => absurd c (by omega)⟩
  | m + 1, i, z, RA, h, ez, hm, h28, lo, O, R, e3, hq => by
    have e := O.1
    subst ez
    have h28' : RA.length + (tri m + m) ≤ 28 := h28
    refine sX1_rankAll_7 ⟨by omega, fun c => absurd c (by omega), fun _ => ⟨by omega, ?_⟩⟩
    refine c_ra19 hw hnd hU hl (by omega) (w - (i + 1)) (i + 1) _ RA h (by omega) (by omega) (by omega) (by omega) lo O R e3 (fun g q1 q2 q3 q4 => ?_)
    have ln : (rkI w L i (w - (i + 1)) (i + 1) RA).length = RA.length + (w - (i + 1)) := by
      have : ∀ (m j : Nat) (X : List Nat), (rkI w L i m j X).length = X.length + m := by
        intro m
        induction m with
        | zero => intro j X; rfl
        | succ m ih =>
          intro j X
          show (rkI w L i m (j + 1) (insR (codeE w L i j) X)).length = _
          rw [ih, insR_len]; omega
      exact this _ _ _
    refine c_ra7 hw hnd hU hl m (i + 1) _ _ g (by omega) (by omega) (by rw [ln]; omega) (by rw [show 10 * (i + 1) + (i + 1 + 1) = 10 * (i + 1) + (i + 2) by omega]; exact q3) (OS_c O (fun x y h0 h1 => q4 x y (by omega))) q1 (by rw [ln]; exact q2) (fun g2 r1 r2 r3 => hq g2 r1 ?_ (fun x y hx => by rw [r3 x y hx, q4 x y hx]))
    rw [r2, ln]
    show _ = ((RA.length + (tri m + m) : Nat) : Int)
    omega
theorem c_rank {h : Hp} {w : Nat} {L : List Nat} {Q : Hp → Prop} (hw : w ≤ 8) (hnd : L.Nodup) (hU : ∀ y ∈ L, y < 2 ^ w) (hl : L.length ≤ 256) (O : OS h 85 w L) (hq : ∀ g : Hp, RkC g (rkO w L w 0 []) 0 → g 91 3 = (tri w : Nat) → (∀ x y : Int, ¬ (91 ≤ x ∧ x ≤ 94) → g x y = h x y) → Q g) : CV 2 mX1_rankAll [vr 91, vr 85] h Q := by
  have t28 := tri28 hw
  refine sX1_rankAll (c_ra7 hw hnd hU hl w 0 0 [] _ (by omega) (by omega) (by show 0 + _ ≤ 28; omega) (fun a ha => absurd ha List.not_mem_nil) (OS_c O (fun x y h0 h1 => by rw [up_no (by omega)])) trivial (by rw [up_eq]; rfl) (fun g q1 q2 q3 => hq g q1 (by rw [q2]; show ((0 + tri w : Nat) : Int) = _; omega) (fun x y hx => by rw [q3 x y (by omega), up_no (by omega)])))
/-! the reference's side -/
theorem m_l74 {k i : Nat} {j e : Nat} {Q : Int → Hp → Prop} (hj8 : j < 8) (hi8 : i < 8) : ∀ (RA B : List Nat) (h : Hp) (z3 : Int), z3 = ((RA.length + B.length : Nat) : Int) → RA.length + B.length < 28 → RkM h RA 0 → RkM h B (RA.length + 1) → (∀ g : Hp, RkM g (B ++ insR e RA) 0 → (∀ x y : Int, x ≠ 123 → g x y = h x y) → E 2 mX11_lists 32 [(0, vr 103), (1, vi k), (3, vi (z3 + 1)), (4, vi i), (5, vi ((j : Int) + 1))] [] g (qi Q)) → E 2 mX11_lists 74 [(0, vr 103), (1, vi k), (3, vi z3), (4, vi i), (5, vi j), (6, vi e), (7, vi RA.length)] [] h (qi Q)
  | [], B, h, z3, e3, hl, R1, R2, hq => by
    have hl : 0 + B.length < 28 := hl
    have e3 : z3 = ((0 + B.length : Nat) : Int) := e3
    refine sX11_lists_74 ⟨fun _ => ⟨⟨by show 0 ≤ ((0 : Nat) : Int) ∧ _; omega, by omega, by omega⟩, hq _ ?_ (fun x y hx => ?_)⟩, fun c => absurd c (by show ¬ ((0 : Nat) : Int) > 0; omega)⟩
    · refine RkM_app B [e] 0 (RkM_c B _ (fun y h2 h3 => ?_) R2) ⟨?_, trivial⟩
      · have h2 : ((0 + 1 : Nat) : Int) ≤ y := h2
        rw [up_no (by show ¬ ((123 : Int) = 123 ∧ y = ((0 : Nat) : Int)); omega)]
      · show up h 123 ((0 : Nat) : Int) e 123 ((0 : Nat) : Int) = _
        rw [up_eq]
    · rw [up_no (by omega)]
  | a :: r, B, h, z3, e3, hl, R1, R2, hq => by
    rw [List.length_cons] at hl e3 R2
    obtain ⟨a1, R1'⟩ := id R1
    rw [Nat.zero_add] at a1
    rw [List.length_cons]
    have ez : ((r.length + 1 : Nat) : Int) - 1 = r.length := by omega
    refine sX11_lists_74 ⟨fun c => absurd c (by omega), fun _ => ?_⟩
    rw [ez, a1]
    refine ⟨by omega, fun q => ⟨by omega, ?_⟩, fun q => ⟨by omega, ?_⟩⟩
    · have hd : insR e (a :: r) = e :: a :: r := by
        unfold insR
        rw [if_pos (by omega)]
      rw [hd] at hq
      refine hq _ ?_ (fun x y hx => by rw [up_no (by omega)])
      refine RkM_app B _ 0 (RkM_c B _ (fun y h2 h3 => ?_) (by rw [List.length_cons, List.length_cons, Nat.zero_add]; exact R2)) ⟨?_, RkM_c (a :: r) 0 (fun y h2 h3 => ?_) R1⟩
      · rw [List.length_cons, List.length_cons] at h2
        rw [up_no (by omega)]
      · rw [List.length_cons, Nat.zero_add, up_eq]
      · rw [List.length_cons] at h3
        rw [up_no (by omega)]
    · have hd : insR e (a :: r) = a :: insR e r := by
        show (if a ≤ e then _ else _) = _
        rw [if_neg (by omega)]
      rw [hd] at hq
      rw [show ((r.length + 1 : Nat) : Int) + -1 = r.length by omega]
      refine m_l74 hj8 hi8 r (B ++ [a]) _ z3 (by rw [List.length_append, List.length_singleton]; omega) (by rw [List.length_append, List.length_singleton]; omega) (RkM_c r 0 (fun y h2 h3 => by rw [up_no (by omega)]) R1') (RkM_snoc (RkM_c B _ (fun y h2 h3 => by rw [up_no (by omega)]) R2) (by rw [up_eq])) (fun g p1 p2 => hq g ?_ (fun x y hx => by rw [p2 x y hx, up_no (by omega)]))
      rw [List.append_assoc] at p1; exact p1
theorem m_l32 {k w i : Nat} {L : List Nat} {Q : Int → Hp → Prop} (hk : k < 4) (hw : w ≤ 8) (hi : i < w) : ∀ (m j : Nat) (z z3 : Int) (RA : List Nat) (h : Hp), z = j → z3 = RA.length → j + m = w → i < j → RA.length + m ≤ 28 → h 104 k = w → st1 h 119 L → RkM h RA 0 → (∀ (g : Hp) (z3 : Int), z3 = ((rkI w L i m j RA).length : Nat) → RkM g (rkI w L i m j RA) 0 → (∀ x y : Int, ¬ (x = 120 ∨ x = 123) → g x y = h x y) → E 2 mX11_lists 15 [(0, vr 103), (1, vi k), (3, vi z3), (4, vi ((i : Int) + 1))] [] g (qi Q)) → E 2 mX11_lists 32 [(0, vr 103), (1, vi k), (3, vi z3), (4, vi i), (5, vi z)] [] h (qi Q)
  | 0, j, z, z3, RA, h, ez, e3, hm, hij, h28, ew, A, R, hq => sX11_lists_32 ⟨by omega, fun _ => ⟨by omega, hq h z3 e3 R (fun _ _ _ => rfl)⟩, fun c => absurd c (by omega)⟩
  | m + 1, j, z, z3, RA, h, ez, e3, hm, hij, h28, ew, A, R, hq => by
    subst ez
    have il := imS_len (L := L) (c := (i, j)) (2 ^ w)
    have h256 := p256 hw
    refine sX11_lists_32 ⟨by omega, fun c => absurd c (by omega), fun _ => ⟨by omega, m_counts ew rfl rfl hw hi (by omega) A (fun g p1 p2 => ⟨by omega, fun x7 hx7 => ?_⟩)⟩⟩
    have hx : x7 = ((codeE w L i j : Nat) : Int) := by unfold codeE; omega
    subst hx
    rw [show z3 = ((RA.length : Nat) : Int) from e3]
    refine m_l74 (by omega) (by omega) RA [] g _ (by show _ = ((RA.length + 0 : Nat) : Int); omega) (by show _ + 0 < 28; omega) (RkM_c RA 0 (fun y h2 h3 => p2 _ _ (by omega)) R) trivial (fun g2 q1 q2 => ?_)
    have fr2 : ∀ x y : Int, ¬ (x = 120 ∨ x = 123) → g2 x y = h x y := fun x y hx => by rw [q2 x y (by omega), p2 x y (by omega)]
    refine m_l32 hk hw hi m (j + 1) _ _ (insR (codeE w L i j) RA) g2 (by omega) (by rw [insR_len]; omega) (by omega) (by omega) (by rw [insR_len]; omega) (by rw [fr2 _ _ (by omega)]; exact ew) (fun y hy => by rw [fr2 _ _ (by omega)]; exact A y hy) q1 (fun g3 z3' r0 r1 r2 => hq g3 z3' r0 r1 (fun x y hx => by rw [r2 x y hx, fr2 x y hx]))
theorem m_l15 {k w : Nat} {L : List Nat} {Q : Int → Hp → Prop} (hk : k < 4) (hw : w ≤ 8) : ∀ (m i : Nat) (z z3 : Int) (RA : List Nat) (h : Hp), z = i → z3 = RA.length → i + m = w → RA.length + tri m ≤ 28 → h 104 k = w → st1 h 119 L → RkM h RA 0 → (∀ g : Hp, RkM g (rkO w L m i RA) 0 → (∀ x y : Int, ¬ (x = 120 ∨ x = 123) → g x y = h x y) → Q ((rkO w L m i RA).length : Nat) g) → E 2 mX11_lists 15 [(0, vr 103), (1, vi k), (3, vi z3), (4, vi z)] [] h (qi Q)
  | 0, i, z, z3, RA, h, ez, e3, hm, h28, ew, A, R, hq => by
    refine sX11_lists_15 ⟨by omega, fun _ => ?_, fun c => absurd c (by omega)⟩
    rw [e3]
    exact hq h R (fun _ _ _ => rfl)
  | m + 1, i, z, z3, RA, h, ez, e3, hm, h28, ew, A, R, hq => by
    subst ez
    have h28' : RA.length + (tri m + m) ≤ 28 := h28
    refine sX11_lists_15 ⟨by omega, fun c => absurd c (by omega), fun _ => ⟨by omega, ?_⟩⟩
    refine m_l32 hk hw (by omega) (w - (i + 1)) (i + 1) _ _ RA h (by omega) e3 (by omega) (by omega) (by omega) ew A R (fun g z3' q0 q1 q2 => ?_)
    have ln : (rkI w L i (w - (i + 1)) (i + 1) RA).length = RA.length + (w - (i + 1)) := by
      have : ∀ (m j : Nat) (X : List Nat), (rkI w L i m j X).length = X.length + m := by
        intro m
        induction m with
        | zero => intro j X; rfl
        | succ m ih =>
          intro j X
          show (rkI w L i m (j + 1) (insR (codeE w L i j) X)).length = _
          rw [ih, insR_len]; omega
      exact this _ _ _
    exact m_l15 hk hw m (i + 1) _ _ _ g (by omega) q0 (by omega) (by rw [ln]; omega) (by rw [q2 _ _ (by omega)]; exact ew) (fun y hy => by rw [q2 _ _ (by omega)]; exact A y hy) q1 (fun g2 r1 r2 => hq g2 r1 (fun x y hx => by rw [r2 x y hx, q2 x y hx]))
theorem m_lists {h : Hp} {k : Nat} {N : NetT} {Q : Int → Hp → Prop} (hk : k < 4) (hok : okN N) (M : MNt h k N) (hq : ∀ g : Hp, RkM g (rkO N.1 (dst (cry N.2) (2 ^ N.1)) N.1 0 []) 0 → (∀ x y : Int, ¬ (x = 119 ∨ x = 120 ∨ x = 123) → g x y = h x y) → Q (tri N.1 : Nat) g) : CI 2 mX11_lists [vr 103, vi k] h Q := by
  have t28 := tri28 hok.2.1
  refine sX11_lists (m_finds (Or.inl rfl) hk hok M (fun g O fr => ?_))
  refine m_l15 hk hok.2.1 N.1 0 0 0 [] g (by omega) rfl (by omega) (by show 0 + _ ≤ 28; omega) (by rw [fr _ _ (by omega)]; exact M.1) O trivial (fun g2 r1 r2 => ?_)
  rw [(rkO_ok hok.2.1 N.1 0 [] (by omega) (fun a ha => absurd ha List.not_mem_nil)).2]
  have := hq g2 r1 (fun x y hx => by rw [r2 x y (by omega), fr x y (by omega)])
  rw [show ([] : List Nat).length + tri N.1 = tri N.1 by show 0 + tri N.1 = _; omega]
  exact this
theorem tri_div {w : Nat} (hw : w ≤ 8) : j_idiv ((w : Int) * ((w : Int) - 1)) 2 = (tri w : Nat) := by
  have : ∀ w : Nat, w < 9 → j_idiv ((w : Int) * ((w : Int) - 1)) 2 = (tri w : Nat) := by decide +kernel
  exact this w (by omega)
theorem nl_b {w : Nat} (hw : w ≤ 8) (hw2 : 2 ≤ w) : -2147483648 ≤ (w : Int) * ((w : Int) - 1) ∧ (w : Int) * ((w : Int) - 1) < 2147483648 := by
  have : ∀ w : Nat, w < 9 → -2147483648 ≤ (w : Int) * ((w : Int) - 1) ∧ (w : Int) * ((w : Int) - 1) < 2147483648 := by decide
  exact this w (by omega)
theorem op_candidate {h : Hp} {k p f : Int} (hR : Rl h) : OpI 4 mX10_candidate 3 mX11_candidate [vi k, vi p, vi f] h := by
  obtain ⟨nets, hist, H⟩ := Rl_RlN hR
  by_cases hk : 0 ≤ k ∧ k < 4
  · obtain ⟨j, hj, rfl⟩ := toN hk.1 hk.2
    obtain ⟨n1, n2, n3⟩ := H.1 j hj
    have w2 := n1.1
    have w8 := n1.2.1
    have h256 := p256 w8
    have dl := dst_len (f := cry (nets j).2) (2 ^ (nets j).1)
    have dt := dst_lt n1
    have nd := dst_nd (f := cry (nets j).2) (2 ^ (nets j).1)
    have t28 := tri28 w8
    have cw := n2.1
    have td : j_idiv (h (4 * j) 0 * (h (4 * j) 0 - 1)) 2 = (tri (nets j).1 : Nat) := by rw [cw]; exact tri_div w8
    have nb : -2147483648 ≤ h (4 * j) 0 * (h (4 * j) 0 - 1) ∧ h (4 * j) 0 * (h (4 * j) 0 - 1) < 2147483648 := by rw [cw]; exact nl_b w8 w2
    obtain ⟨rk1, rk2⟩ := rkO_ok (L := dst (cry (nets j).2) (2 ^ (nets j).1)) w8 (nets j).1 0 [] (by omega) (fun a ha => absurd ha List.not_mem_nil)
    obtain ⟨RA, eRA⟩ : ∃ RA, RA = rkO (nets j).1 (dst (cry (nets j).2) (2 ^ (nets j).1)) (nets j).1 0 [] := ⟨_, rfl⟩
    rw [← eRA] at rk1 rk2
    have rk2 : RA.length = 0 + tri (nets j).1 := rk2
    by_cases hp : (0 ≤ p ∧ p < (tri (nets j).1 : Nat)) ∧ (0 ≤ f ∧ f ≤ 1)
    · obtain ⟨P, rfl⟩ : ∃ P : Nat, p = P := ⟨p.toNat, by omega⟩
      have mem := rk1 _ (nthR_mem RA P (by omega))
      obtain ⟨c, x, y, q1, q2, q3, q4⟩ := mem
      refine op_keep (r := if f ≠ 0 then ((nthR RA P / 100 : Nat) : Int) else ((nthR RA P % 100 : Nat) : Int)) H ?_ (fun h1 ms => ?_)
      · refine sX10_candidate ⟨fun _ => ⟨by omega, fun c => absurd c (by omega), fun _ => ⟨⟨by omega, nb⟩, fun c => absurd c (by omega), fun _ => ⟨fun c => absurd c (by omega), fun _ => ⟨fun _ => ⟨by omega, ?_⟩, fun c => absurd c (by omega)⟩⟩⟩⟩, fun c => absurd c (by omega)⟩
        refine c_outs (N := nets j) (Or.inl rfl) (by omega) n1 n2 (fun g O fr => ?_)
        refine c_rank w8 nd dt (by omega) O (fun g2 R e3 fr2 => ?_)
        rw [← eRA] at R
        obtain ⟨b1, b2, b3⟩ := RkC_get RA P R (by omega)
        refine ⟨⟨fun _ _ => by omega, fun _ _ => by omega, fun _ _ => by omega, fun _ _ => by omega⟩, ?_, fun x y hx => ?_⟩
        · by_cases q : f ≠ 0
          · rw [if_pos q, if_pos q, if_neg (by omega), if_neg (by omega), b3]
          · rw [if_neg q, if_neg q, if_neg (by omega), if_neg (by omega), b1, b2]
            omega
        · unfold kC0 at hx
          rw [fr2 x y (by omega), fr x y (by omega)]
      · obtain ⟨m1, m2, m3, m4, e⟩ := ms
        refine sX11_candidate ⟨fun _ => m_lists (N := nets j) hj n1 (m1 j hj).2 (fun g R fr => ?_), fun c => absurd c (by omega)⟩
        rw [← eRA] at R
        have b := RkM_get RA P R (by omega)
        have d1 : j_idiv ((nthR RA P : Nat) : Int) 100 = ((nthR RA P / 100 : Nat) : Int) := jdiv (b := 100) (by omega) (by omega)
        have d2 : j_irem ((nthR RA P : Nat) : Int) 100 = ((nthR RA P % 100 : Nat) : Int) := jrem (b := 100) (by omega) (by omega)
        refine ⟨by omega, fun c => absurd c (by omega), fun _ => ⟨fun _ => ⟨⟨fun _ => by omega, fun _ => by omega⟩, ?_, fun x y hx => fr x y (by unfold kM0 at hx; omega)⟩, fun c => absurd c (by omega)⟩⟩
        rw [b, d1, d2]
    · refine op_keep (r := -2) H ?_ (fun h1 ms => ?_)
      · exact sX10_candidate ⟨fun _ => ⟨by omega, fun _ => ⟨rfl, fun _ _ _ => rfl⟩, fun _ => ⟨⟨by omega, nb⟩, fun _ => ⟨rfl, fun _ _ _ => rfl⟩, fun _ => ⟨fun _ => ⟨rfl, fun _ _ _ => rfl⟩, fun _ => ⟨fun c => absurd c (by omega), fun _ => ⟨rfl, fun _ _ _ => rfl⟩⟩⟩⟩⟩, fun c => absurd c (by omega)⟩
      · obtain ⟨m1, m2, m3, m4, e⟩ := ms
        refine sX11_candidate ⟨fun _ => m_lists (N := nets j) hj n1 (m1 j hj).2 (fun g R fr => ?_), fun c => absurd c (by omega)⟩
        have fin : ∀ x y : Int, kM0 x y → g x y = h1 x y := fun x y hx => fr x y (by unfold kM0 at hx; omega)
        exact ⟨by omega, fun _ => ⟨rfl, fin⟩, fun _ => ⟨fun c => absurd c (by omega), fun _ => ⟨rfl, fin⟩⟩⟩
  · exact sX10_candidate ⟨fun c => absurd c (by omega), fun _ => sX11_candidate ⟨fun c => absurd c (by omega), fun _ => ⟨rfl, hR⟩⟩⟩
