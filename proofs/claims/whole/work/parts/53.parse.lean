/-! parse -/
def xT (T : Nat → Int) (i : Nat) : Nat := (T i - 48).toNat
def wk (T : Nat → Int) (n w i u : Nat) : Bool := decide (i < n ∧ 48 ≤ T i ∧ T i - 48 < w ∧ u.testBit (xT T i) = false)
def rd (T : Nat → Int) (n w : Nat) : Nat → Nat → Nat → List (Nat × Nat) → Int × List (Nat × Nat)
  | 0, _, _, cs => (-1, cs)
  | m + 1, i, u, cs => if wk T n w i u = true then
      (if i + 1 < n ∧ T (i + 1) = 58 then
        (if wk T n w (i + 2) (u ||| 2 ^ xT T i) = true then
          (if i + 3 < n then
            (if T (i + 3) = 44 then rd T n w m (i + 4) (u ||| 2 ^ xT T i ||| 2 ^ xT T (i + 2)) (cs ++ [(xT T i, xT T (i + 2))])
             else if T (i + 3) = 59 then rd T n w m (i + 4) 0 (cs ++ [(xT T i, xT T (i + 2))])
             else ((i : Int) + 3, cs ++ [(xT T i, xT T (i + 2))]))
           else (-1, cs ++ [(xT T i, xT T (i + 2))]))
         else ((i : Int) + 2, cs))
       else ((i : Int) + 1, cs))
     else ((i : Int), cs)
theorem wk_t {T : Nat → Int} {n w i u : Nat} (h : wk T n w i u = true) : i < n ∧ 48 ≤ T i ∧ T i - 48 < w ∧ u.testBit (xT T i) = false := of_decide_eq_true h
theorem wk_f {T : Nat → Int} {n w i u : Nat} (h : ¬ wk T n w i u = true) : ¬ (i < n ∧ 48 ≤ T i ∧ T i - 48 < w ∧ u.testBit (xT T i) = false) := fun c => h (decide_eq_true c)
theorem rd_a {T : Nat → Int} {n w m i u : Nat} {cs : List (Nat × Nat)} (a : ¬ wk T n w i u = true) : rd T n w (m + 1) i u cs = ((i : Int), cs) := by
  rw [rd, if_neg a]
theorem rd_b {T : Nat → Int} {n w m i u : Nat} {cs : List (Nat × Nat)} (a : wk T n w i u = true) (b : ¬ (i + 1 < n ∧ T (i + 1) = 58)) : rd T n w (m + 1) i u cs = ((i : Int) + 1, cs) := by
  rw [rd, if_pos a, if_neg b]
theorem rd_c {T : Nat → Int} {n w m i u : Nat} {cs : List (Nat × Nat)} (a : wk T n w i u = true) (b : i + 1 < n ∧ T (i + 1) = 58) (c : ¬ wk T n w (i + 2) (u ||| 2 ^ xT T i) = true) : rd T n w (m + 1) i u cs = ((i : Int) + 2, cs) := by
  rw [rd, if_pos a, if_pos b, if_neg c]
theorem rd_d {T : Nat → Int} {n w m i u : Nat} {cs : List (Nat × Nat)} (a : wk T n w i u = true) (b : i + 1 < n ∧ T (i + 1) = 58) (c : wk T n w (i + 2) (u ||| 2 ^ xT T i) = true) (d : ¬ i + 3 < n) : rd T n w (m + 1) i u cs = (-1, cs ++ [(xT T i, xT T (i + 2))]) := by
  rw [rd, if_pos a, if_pos b, if_pos c, if_neg d]
theorem rd_e {T : Nat → Int} {n w m i u : Nat} {cs : List (Nat × Nat)} (a : wk T n w i u = true) (b : i + 1 < n ∧ T (i + 1) = 58) (c : wk T n w (i + 2) (u ||| 2 ^ xT T i) = true) (d : i + 3 < n) (e : T (i + 3) = 44) : rd T n w (m + 1) i u cs = rd T n w m (i + 4) (u ||| 2 ^ xT T i ||| 2 ^ xT T (i + 2)) (cs ++ [(xT T i, xT T (i + 2))]) := by
  rw [rd, if_pos a, if_pos b, if_pos c, if_pos d, if_pos e]
theorem rd_f {T : Nat → Int} {n w m i u : Nat} {cs : List (Nat × Nat)} (a : wk T n w i u = true) (b : i + 1 < n ∧ T (i + 1) = 58) (c : wk T n w (i + 2) (u ||| 2 ^ xT T i) = true) (d : i + 3 < n) (e : ¬ T (i + 3) = 44) (f : T (i + 3) = 59) : rd T n w (m + 1) i u cs = rd T n w m (i + 4) 0 (cs ++ [(xT T i, xT T (i + 2))]) := by
  rw [rd, if_pos a, if_pos b, if_pos c, if_pos d, if_neg e, if_pos f]
theorem rd_g {T : Nat → Int} {n w m i u : Nat} {cs : List (Nat × Nat)} (a : wk T n w i u = true) (b : i + 1 < n ∧ T (i + 1) = 58) (c : wk T n w (i + 2) (u ||| 2 ^ xT T i) = true) (d : i + 3 < n) (e : ¬ T (i + 3) = 44) (f : ¬ T (i + 3) = 59) : rd T n w (m + 1) i u cs = ((i : Int) + 3, cs ++ [(xT T i, xT T (i + 2))]) := by
  rw [rd, if_pos a, if_pos b, if_pos c, if_pos d, if_neg e, if_neg f]
theorem or8 {u x : Nat} (hu : u < 256) (hx : x < 8) : u ||| 2 ^ x < 256 := Nat.or_lt_two_pow (n := 8) hu (Nat.pow_lt_pow_right (by decide) hx)
theorem or_bit {u x : Nat} {z y : Int} (hz : z = u) (hy : y = x) (hu : u < 256) (hx : x < 8) : j_ior z (j_ishl 1 y) = ((u ||| 2 ^ x : Nat) : Int) := by
  have h2 : 2 ^ x < 2 ^ 8 := Nat.pow_lt_pow_right (by decide) hx
  rw [hz, hy, jshl1 (by omega)]
  exact jor (by omega) (by omega)
theorem xT_ne {T : Nat → Int} {n w i j u : Nat} (c : wk T n w j (u ||| 2 ^ xT T i) = true) : xT T i ≠ xT T j := by
  intro e
  have := (wk_t c).2.2.2
  rw [← e, Nat.testBit_or, Nat.testBit_two_pow_self, Bool.or_true] at this
  exact absurd this (by decide)
theorem rd_ok {T : Nat → Int} {n w : Nat} (hn : n ≤ 60) : ∀ (m i u : Nat) (cs : List (Nat × Nat)), i ≤ n → 4 * cs.length ≤ i → (∀ c ∈ cs, c.1 < w ∧ c.2 < w ∧ c.1 ≠ c.2) → (rd T n w m i u cs).2.length ≤ 40 ∧ ∀ c ∈ (rd T n w m i u cs).2, c.1 < w ∧ c.2 < w ∧ c.1 ≠ c.2
  | 0, i, u, cs, h1, h2, h3 => ⟨by show cs.length ≤ 40; omega, h3⟩
  | m + 1, i, u, cs, h1, h2, h3 => by
    by_cases a : wk T n w i u = true
    · by_cases b : i + 1 < n ∧ T (i + 1) = 58
      · by_cases c : wk T n w (i + 2) (u ||| 2 ^ xT T i) = true
        · have a' := wk_t a
          have c' := wk_t c
          have ne := xT_ne c
          have h4 : (cs ++ [(xT T i, xT T (i + 2))]).length = cs.length + 1 := by rw [List.length_append, List.length_singleton]
          have h5 : ∀ c ∈ cs ++ [(xT T i, xT T (i + 2))], c.1 < w ∧ c.2 < w ∧ c.1 ≠ c.2 := by
            intro d hd
            rcases List.mem_append.1 hd with q | q
            · exact h3 d q
            · rw [List.mem_singleton] at q
              subst q
              refine ⟨?_, ?_, ne⟩
              · show (T i - 48).toNat < w; omega
              · show (T (i + 2) - 48).toNat < w; omega
          by_cases d : i + 3 < n
          · by_cases e : T (i + 3) = 44
            · rw [rd_e a b c d e]
              exact rd_ok hn m (i + 4) _ _ (by omega) (by omega) h5
            · by_cases f : T (i + 3) = 59
              · rw [rd_f a b c d e f]
                exact rd_ok hn m (i + 4) _ _ (by omega) (by omega) h5
              · rw [rd_g a b c d e f]
                exact ⟨by show (cs ++ _).length ≤ 40; omega, h5⟩
          · rw [rd_d a b c d]
            exact ⟨by show (cs ++ _).length ≤ 40; omega, h5⟩
        · rw [rd_c a b c]
          exact ⟨by show cs.length ≤ 40; omega, h3⟩
      · rw [rd_b a b]
        exact ⟨by show cs.length ≤ 40; omega, h3⟩
    · rw [rd_a a]
      exact ⟨by show cs.length ≤ 40; omega, h3⟩
/-! the class's side -/
theorem c_can {h : Hp} {w i n u : Nat} {T : Nat → Int} {l0 c z : Int} {Q : Int → Hp → Prop} (h1 : l0 = 0 ∨ l0 = 2) (hw : w ≤ 8) (hi : i < n) (ec : c = T i) (hT : 33 ≤ T i ∧ T i ≤ 126) (ez : z = u) (hu : u < 256) (ew : h 16 0 = w) (A : wk T n w i u = true → Q 1 h) (B : ¬ wk T n w i u = true → Q 0 h) : CI 1 mX8_canContinue [vi l0, vi c, vr 16, vi z] h Q := by
  refine sX8_canContinue ⟨fun _ => ⟨fun _ => ⟨⟨by omega, by omega, fun _ => by omega⟩, ?_⟩, fun d => absurd d (by omega)⟩, fun d => absurd d (by omega)⟩
  by_cases a : wk T n w i u = true
  · have a' := wk_t a
    rw [if_pos]
    · exact A a
    · refine ⟨by omega, ?_⟩
      have e1 : c - 48 = ((xT T i : Nat) : Int) := by unfold xT; omega
      rw [ez, e1, jbit (by unfold xT; omega) (by omega), a'.2.2.2]
      rfl
  · have a' := wk_f a
    rw [if_neg]
    · exact B a
    · intro d
      refine a' ⟨hi, by omega, by omega, ?_⟩
      have e1 : c - 48 = ((xT T i : Nat) : Int) := by unfold xT; omega
      have d2 := d.2
      rw [ez, e1, jbit (by unfold xT; omega) (by omega)] at d2
      cases hb : u.testBit (xT T i) with
      | false => rfl
      | true => rw [hb] at d2; exact absurd d2 (by decide)
theorem c_rd {w n : Nat} {T : Nat → Int} {Q : Int → Hp → Prop} (hw : w ≤ 8) (hn : n ≤ 60) (hT : ∀ i : Nat, i < n → 33 ≤ T i ∧ T i ≤ 126) : ∀ (m i u : Nat) (cs : List (Nat × Nat)) (zf : Int) (h : Hp), CNt h 16 (w, cs) → h 73 1 = n → (∀ j : Nat, j < n → h 74 j = T j) → i ≤ n → 4 * cs.length ≤ i → n < i + 4 * m → u < 256 → (∀ g : Hp, CNt g 16 (w, (rd T n w m i u cs).2) → (∀ x y : Int, ¬ (16 ≤ x ∧ x ≤ 18) → g x y = h x y) → Q (rd T n w m i u cs).1 g) → E 3 mX8_readInto 10 [(0, vr 73), (1, vr 16), (2, vi 0), (3, vi u), (4, vi zf), (5, vi i)] [] h (qi Q)
  | 0, i, u, cs, zf, h, hc, h73, h74, hi, hl, hm, hu, hq => absurd hm (by omega)
  | m + 1, i, u, cs, zf, h, hc, h73, h74, hi, hl, hm, hu, hq => by
    have ew : h 16 0 = w := hc.1
    by_cases i0 : i < n
    · have t0 := hT i i0
      have e0 := h74 i i0
      refine sX8_readInto_10 ⟨fun c => absurd c (by omega), fun _ => ⟨by omega, c_can (i := i) (n := n) (T := T) (Or.inl rfl) hw i0 e0 t0 rfl hu ew (fun a => ⟨fun _ => ⟨fun c => absurd rfl c, fun _ x28 hx28 => ⟨fun _ => by omega, fun x31 hx31 => ⟨by omega, ?_⟩⟩⟩, fun c => absurd c (by decide)⟩) (fun a => ⟨fun c => absurd rfl c, fun _ => ?_⟩)⟩⟩
      · obtain ⟨a1, a2, a3, a4⟩ := wk_t a
        have ex : h 74 i - 48 = ((xT T i : Nat) : Int) := by unfold xT; omega
        have hx0 : xT T i < 8 := by unfold xT; omega
        have hx0w : xT T i < w := by unfold xT; omega
        rw [or_bit rfl ex hu hx0] at hx28
        have hu1 := or8 hu hx0
        rw [ex, show x31 = 1 from hx31.trans (if_pos (by decide)), hx28]
        by_cases i1 : i + 1 < n
        · have t1 := hT (i + 1) i1
          have e1 := h74 (i + 1) i1
          rw [show ((i + 1 : Nat) : Int) = (i : Int) + 1 by omega] at e1
          refine sX8_readInto_10 ⟨fun c => absurd c (by omega), fun _ => ⟨by omega, sX8_canContinue ⟨fun c => absurd rfl c, fun _ => ?_⟩⟩⟩
          by_cases b : T (i + 1) = 58
          · rw [if_pos (by omega)]
            refine ⟨fun _ => ⟨fun _ => ⟨fun _ => ⟨fun _ => ⟨fun _ => by omega, fun x13 hx13 => ⟨by omega, ?_⟩⟩, fun c => absurd c (by omega)⟩, fun c => absurd c (by decide)⟩, fun c => absurd c (by decide)⟩, fun c => absurd c (by decide)⟩
            rw [show x13 = 2 from hx13.trans (if_pos (by decide))]
            by_cases i2 : i + 2 < n
            · have t2 := hT (i + 2) i2
              have e2 := h74 (i + 2) i2
              rw [show ((i + 2 : Nat) : Int) = (i : Int) + 1 + 1 by omega] at e2
              refine sX8_readInto_10 ⟨fun c => absurd c (by omega), fun _ => ⟨by omega, c_can (i := i + 2) (n := n) (T := T) (Or.inr rfl) hw i2 e2 t2 rfl hu1 ew (fun c => ⟨fun _ => ⟨fun _ => ⟨fun d => absurd rfl d, fun _ => ⟨by omega, ?_⟩⟩, fun d => absurd d (by decide)⟩, fun d => absurd d (by decide)⟩) (fun c => ⟨fun d => absurd rfl d, fun _ => ?_⟩)⟩⟩
              · obtain ⟨c1, c2, c3, c4⟩ := wk_t c
                have ne := xT_ne c
                have ex2 : h 74 ((i : Int) + 1 + 1) - 48 = ((xT T (i + 2) : Nat) : Int) := by unfold xT; omega
                have hx2 : xT T (i + 2) < 8 := by unfold xT; omega
                have hx2w : xT T (i + 2) < w := by unfold xT; omega
                rw [ex2]
                refine c_push1 (by omega) hc (by omega) hx0w hx2w ne (fun g r1 r2 => ?_)
                intro x22 hx22
                refine ⟨fun _ => by omega, fun x25 hx25 => ⟨by omega, ?_⟩⟩
                rw [or_bit rfl rfl hu1 hx2] at hx22
                have hu2 := or8 hu1 hx2
                rw [show x25 = 3 from hx25.trans (if_pos (by decide)), hx22]
                have g73 : g 73 1 = n := by rw [r2 _ _ (by omega)]; exact h73
                have fl : (cs ++ [(xT T i, xT T (i + 2))]).length = cs.length + 1 := by rw [List.length_append, List.length_singleton]
                by_cases i3 : i + 3 < n
                · have t3 := hT (i + 3) i3
                  have e3 : g 74 ((i : Int) + 1 + 1 + 1) = T (i + 3) := by
                    rw [r2 _ _ (by omega), show (i : Int) + 1 + 1 + 1 = ((i + 3 : Nat) : Int) by omega]
                    exact h74 (i + 3) i3
                  have g74 : ∀ j : Nat, j < n → g 74 j = T j := fun j hj => by rw [r2 _ _ (by omega)]; exact h74 j hj
                  refine sX8_readInto_10 ⟨fun c => absurd c (by omega), fun _ => ⟨by omega, sX8_canContinue ⟨fun _ => ⟨fun d => absurd rfl d, fun _ => ?_⟩, fun d => absurd d (by decide)⟩⟩⟩
                  by_cases e : T (i + 3) = 44
                  · rw [if_pos (Or.inl (by omega))]
                    refine ⟨fun _ => ⟨fun _ => ⟨fun _ => ⟨fun _ => ⟨fun d => absurd rfl d, fun x13 hx13 => ⟨by omega, ?_⟩⟩, fun d => absurd d (by omega)⟩, fun d => absurd d (by decide)⟩, fun d => absurd d (by decide)⟩, fun d => absurd d (by decide)⟩
                    rw [show x13 = 0 from hx13.trans (if_neg (by decide)), show (i : Int) + 1 + 1 + 1 + 1 = ((i + 4 : Nat) : Int) by omega]
                    rw [rd_e a ⟨i1, b⟩ c i3 e] at hq
                    exact c_rd hw hn hT m (i + 4) _ _ _ g r1 g73 g74 (by omega) (by omega) (by omega) hu2 (fun g2 s1 s2 => hq g2 s1 (fun x y hx => by rw [s2 x y hx, r2 x y (by omega)]))
                  · by_cases f : T (i + 3) = 59
                    · rw [if_pos (Or.inr (by omega))]
                      refine ⟨fun _ => ⟨fun _ => ⟨fun _ => ⟨fun d => absurd d (by omega), fun _ => ⟨fun d => absurd rfl d, fun x13 hx13 => ⟨by omega, ?_⟩⟩⟩, fun d => absurd d (by decide)⟩, fun d => absurd d (by decide)⟩, fun d => absurd d (by decide)⟩
                      rw [show x13 = 0 from hx13.trans (if_neg (by decide)), show (i : Int) + 1 + 1 + 1 + 1 = ((i + 4 : Nat) : Int) by omega]
                      rw [rd_f a ⟨i1, b⟩ c i3 e f] at hq
                      exact c_rd hw hn hT m (i + 4) 0 _ _ g r1 g73 g74 (by omega) (by omega) (by omega) (by omega) (fun g2 s1 s2 => hq g2 s1 (fun x y hx => by rw [s2 x y hx, r2 x y (by omega)]))
                    · rw [if_neg (by omega)]
                      refine ⟨fun d => absurd rfl d, fun _ => ?_⟩
                      rw [rd_g a ⟨i1, b⟩ c i3 e f] at hq
                      rw [show (i : Int) + 1 + 1 + 1 = (i : Int) + 3 by omega]
                      exact hq g r1 (fun x y hx => r2 x y (by omega))
                · refine sX8_readInto_10 ⟨fun _ => ?_, fun d => absurd d (by omega)⟩
                  rw [if_neg (by decide)]
                  rw [rd_d a ⟨i1, b⟩ c i3] at hq
                  exact hq g r1 (fun x y hx => r2 x y (by omega))
              · rw [rd_c a ⟨i1, b⟩ c] at hq
                rw [show (i : Int) + 1 + 1 = (i : Int) + 2 by omega]
                exact hq h hc (fun _ _ _ => rfl)
            · have c : ¬ wk T n w (i + 2) (u ||| 2 ^ xT T i) = true := fun c => i2 (wk_t c).1
              refine sX8_readInto_10 ⟨fun _ => ?_, fun d => absurd d (by omega)⟩
              rw [if_pos (by decide), h73, show (n : Int) = (i : Int) + 2 by omega]
              rw [rd_c a ⟨i1, b⟩ c] at hq
              exact hq h hc (fun _ _ _ => rfl)
          · rw [if_neg (by omega)]
            refine ⟨fun d => absurd rfl d, fun _ => ?_⟩
            rw [rd_b a (fun d => b d.2)] at hq
            exact hq h hc (fun _ _ _ => rfl)
        · refine sX8_readInto_10 ⟨fun _ => ?_, fun d => absurd d (by omega)⟩
          rw [if_pos (by decide), h73, show (n : Int) = (i : Int) + 1 by omega]
          rw [rd_b a (fun d => i1 d.1)] at hq
          exact hq h hc (fun _ _ _ => rfl)
      · rw [rd_a a] at hq
        exact hq h hc (fun _ _ _ => rfl)
    · have a : ¬ wk T n w i u = true := fun c => i0 (wk_t c).1
      refine sX8_readInto_10 ⟨fun _ => ?_, fun d => absurd d (by omega)⟩
      rw [if_pos (by decide), h73, show (n : Int) = i by omega]
      rw [rd_a a] at hq
      exact hq h hc (fun _ _ _ => rfl)
