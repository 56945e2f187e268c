/-! blocks: blockSize, applyBlock -/
def rpL (w a : Nat) : Nat → Nat → List (Nat × Nat)
  | 0, _ => []
  | m + 1, l => nbL w w (if l % 2 = 0 then a else 1 - a) ++ rpL w a m (l + 1)
def blkN (k a b w : Nat) : List (Nat × Nat) := if k = 1 then [(a, b)] else if k = 2 then [(a, b), (w - 1 - b, w - 1 - a)] else if k = 3 then nbL w w a else if k = 4 then rpL w a b 0 else if k = 5 then rpL w a b 0 ++ nbL w w a else []
def blkL (k a b : Int) (w : Nat) : List (Nat × Nat) := blkN k.toNat a.toNat b.toNat w
def fitB (k a b : Int) (w : Nat) : Prop := (k ≠ 1 ∧ k ≠ 2) ∨ (a < w ∧ b < w)
def okb (w : Nat) (L : List (Nat × Nat)) : Bool := decide (L.length ≤ 40) && L.all (fun c => decide (c.1 < w ∧ c.2 < w ∧ c.1 ≠ c.2))
theorem okb_t {w : Nat} {L : List (Nat × Nat)} (h : okb w L = true) : L.length ≤ 40 ∧ ∀ c ∈ L, c.1 < w ∧ c.2 < w ∧ c.1 ≠ c.2 := by
  unfold okb at h
  rw [Bool.and_eq_true] at h
  exact ⟨of_decide_eq_true h.1, fun c hc => of_decide_eq_true (List.all_eq_true.1 h.2 c hc)⟩
theorem blk3 : ∀ w : Nat, w < 9 → ∀ a : Nat, a < 2 → okb w (nbL w w a) = true := by decide +kernel
theorem blk4 : ∀ w : Nat, w < 9 → ∀ a : Nat, a < 2 → ∀ b : Nat, b < 10 → okb w (rpL w a b 0) = true := by decide +kernel
theorem blk5 : ∀ w : Nat, w < 9 → ∀ a : Nat, a < 2 → ∀ b : Nat, b < 10 → okb w (rpL w a b 0 ++ nbL w w a) = true := by decide +kernel
theorem blk_ok {k a b : Int} {w : Nat} (hw2 : 2 ≤ w) (hw : w ≤ 8) (ok : okB k a b) (fit : fitB k a b w) : (blkL k a b w).length ≤ 40 ∧ ∀ c ∈ blkL k a b w, c.1 < w ∧ c.2 < w ∧ c.1 ≠ c.2 := by
  unfold okB at ok
  unfold fitB at fit
  rcases ok with rfl | rfl | ⟨rfl | rfl, o⟩ | ⟨rfl, o⟩ | ⟨rfl | rfl, o⟩
  · exact ⟨by show 0 ≤ 40; omega, fun c hc => absurd hc (List.not_mem_nil)⟩
  · exact ⟨by show 0 ≤ 40; omega, fun c hc => absurd hc (List.not_mem_nil)⟩
  · refine ⟨by show 1 ≤ 40; omega, fun c hc => ?_⟩
    have hc : c ∈ [(a.toNat, b.toNat)] := hc
    simp only [List.mem_singleton] at hc
    subst hc
    show a.toNat < w ∧ b.toNat < w ∧ a.toNat ≠ b.toNat
    omega
  · refine ⟨by show 2 ≤ 40; omega, fun c hc => ?_⟩
    have hc : c ∈ [(a.toNat, b.toNat), (w - 1 - b.toNat, w - 1 - a.toNat)] := hc
    simp only [List.mem_cons, List.not_mem_nil, or_false] at hc
    rcases hc with rfl | rfl
    · show a.toNat < w ∧ b.toNat < w ∧ a.toNat ≠ b.toNat
      omega
    · show w - 1 - b.toNat < w ∧ w - 1 - a.toNat < w ∧ w - 1 - b.toNat ≠ w - 1 - a.toNat
      omega
  · exact okb_t (blk3 w (by omega) a.toNat (by omega))
  · exact okb_t (blk4 w (by omega) a.toNat (by omega) b.toNat (by omega))
  · exact okb_t (blk5 w (by omega) a.toNat (by omega) b.toNat (by omega))
theorem alt_eq {z y : Int} {l a : Nat} (hz : z = l) (hl : l ≤ 100) (ey : y = a) (ha : a ≤ 1) : (if j_irem z 2 ≠ 0 then (1 - y) else y) = ((if l % 2 = 0 then a else 1 - a : Nat) : Int) := by
  have e2 : j_irem z 2 = ((l % 2 : Nat) : Int) := by rw [hz]; exact jrem (b := 2) (by omega) (by omega)
  rw [e2]
  by_cases c : l % 2 = 0
  · rw [if_neg (by omega), if_pos c]; exact ey
  · rw [if_pos (by omega), if_neg c]; omega
theorem alt_le {l a : Nat} (ha : a ≤ 1) : (if l % 2 = 0 then a else 1 - a) ≤ 9 := by split <;> omega
theorem c_rp {w a b : Nat} {b0 : Int} {Q : Hp → Prop} (hw : w ≤ 8) (hb0 : 80 ≤ b0 ∧ b0 ≤ 82) (ha : a ≤ 1) (hb : b ≤ 9) : ∀ (m l : Nat) (z : Int) (h : Hp), z = l → b = l + m → h b0 1 = a → h b0 2 = b → AC w h (rpL w a m l) Q → E 4 mX6_pushRepeated 2 [(0, vr b0), (1, vr 16), (2, vi z)] [] h (qv Q)
  | 0, l, z, h, hz, hm, e1, e2, A => sX6_pushRepeated_2 ⟨by omega, fun _ => AC_nil A, fun c => absurd c (by omega)⟩
  | m + 1, l, z, h, hz, hm, e1, e2, A => by
    refine sX6_pushRepeated_2 ⟨by omega, fun c => absurd c (by omega), fun _ => ⟨⟨fun _ => by omega, fun _ => by omega, fun _ => by omega⟩, by omega, ?_⟩⟩
    refine c_nbs hw (alt_eq hz (by omega) e1 ha) (alt_le ha) (AC_mono (AC_app A) (fun g fr B => ⟨by omega, c_rp hw hb0 ha hb m (l + 1) (z + 1) g (by omega) (by omega) ?_ ?_ B⟩))
    · rw [fr _ _ (by omega)]; exact e1
    · rw [fr _ _ (by omega)]; exact e2
theorem c_unfold {h : Hp} {b0 k a b : Int} {w : Nat} {Q : Int → Hp → Prop} (hb0 : 80 ≤ b0 ∧ b0 ≤ 82) (hw2 : 2 ≤ w) (hw : w ≤ 8) (e1 : h b0 0 = k) (e2 : h b0 1 = a) (e3 : h b0 2 = b) (ok : okB k a b) (hk : k ≠ -1) (fit : fitB k a b w) (A : AC w (up (up h 16 0 w) 16 1 0) (blkL k a b w) (fun g => Q (g 16 1) g)) : CI 6 mX10_unfold [vr 68, vr b0, vi w] h Q := by
  have fi : (if ((h b0 0) ≠ 1 ∧ (h b0 0) ≠ 2) ∨ ((h b0 1) < w ∧ (h b0 2) < w) then (1 : Int) else 0) = 1 := if_pos (by rw [e1, e2, e3]; exact fit)
  have f1 : up (up h 16 0 w) 16 1 0 b0 0 = k := by rw [up_no (by omega), up_no (by omega)]; exact e1
  have f2 : up (up h 16 0 w) 16 1 0 b0 1 = a := by rw [up_no (by omega), up_no (by omega)]; exact e2
  have f3 : up (up h 16 0 w) 16 1 0 b0 2 = b := by rw [up_no (by omega), up_no (by omega)]; exact e3
  refine sX10_unfold ⟨by omega, fun _ => ⟨by omega, sX6_fits ⟨by omega, ⟨fun _ => by omega, fun _ => by omega⟩, fun _ => ⟨⟨by omega, by omega⟩, ?_⟩, fun c => absurd c (by rw [fi]; decide)⟩⟩, fun c => absurd c (by omega)⟩
  unfold fitB at fit
  unfold okB at ok
  generalize up (up h 16 0 w) 16 1 0 = g at A f1 f2 f3
  rcases ok with r | r | ⟨r, o⟩ | ⟨r, o⟩ | ⟨r, o⟩
  · exact absurd r hk
  · subst r
    exact sX6_pushOnto ⟨by omega, fun c => absurd c (by omega), fun c => absurd c (by omega), fun c => absurd c (by omega), fun c => absurd c (by omega), fun c => absurd c (by omega), fun _ => AC_nil (Q := fun g => Q (g 16 1) g) A⟩
  · rcases r with r | r
    · subst r
      have A : AC w g [(a.toNat, b.toNat)] (fun g => Q (g 16 1) g) := A
      exact sX6_pushOnto ⟨by omega, fun _ => ⟨⟨by omega, by omega⟩, AC_push A (by omega) (by omega) (by omega) (by omega) (by omega) (fun g B _ => AC_nil (Q := fun g => Q (g 16 1) g) B)⟩, fun c => absurd c (by omega), fun c => absurd c (by omega), fun c => absurd c (by omega), fun c => absurd c (by omega), fun c => absurd c (by omega)⟩
    · subst r
      have A : AC w g [(a.toNat, b.toNat), (w - 1 - b.toNat, w - 1 - a.toNat)] (fun g => Q (g 16 1) g) := A
      refine sX6_pushOnto ⟨by omega, fun c => absurd c (by omega), fun _ => ⟨⟨by omega, by omega⟩, AC_push A (by omega) (by omega) (by omega) (by omega) (by omega) (fun g2 B fr => ?_)⟩, fun c => absurd c (by omega), fun c => absurd c (by omega), fun c => absurd c (by omega), fun c => absurd c (by omega)⟩
      have ew := AC_w B
      have q2 : g2 b0 1 = a := by rw [fr _ _ (by omega)]; exact f2
      have q3 : g2 b0 2 = b := by rw [fr _ _ (by omega)]; exact f3
      exact ⟨by omega, AC_push B (by omega) (by omega) (by omega) (by omega) (by omega) (fun g B _ => AC_nil (Q := fun g => Q (g 16 1) g) B)⟩
  · subst r
    have A : AC w g (nbL w w a.toNat) (fun g => Q (g 16 1) g) := A
    exact sX6_pushOnto ⟨by omega, fun c => absurd c (by omega), fun c => absurd c (by omega), fun _ => ⟨⟨by omega, by omega⟩, c_nbs hw (by omega) (by omega) A⟩, fun c => absurd c (by omega), fun c => absurd c (by omega), fun c => absurd c (by omega)⟩
  · rcases r with r | r
    · subst r
      have A : AC w g (rpL w a.toNat b.toNat 0) (fun g => Q (g 16 1) g) := A
      exact sX6_pushOnto ⟨by omega, fun c => absurd c (by omega), fun c => absurd c (by omega), fun c => absurd c (by omega), fun _ => ⟨by omega, sX6_pushRepeated (c_rp (a := a.toNat) (b := b.toNat) hw hb0 (by omega) (by omega) b.toNat 0 0 g (by omega) (by omega) (by omega) (by omega) A)⟩, fun c => absurd c (by omega), fun c => absurd c (by omega)⟩
    · subst r
      have A : AC w g (rpL w a.toNat b.toNat 0 ++ nbL w w a.toNat) (fun g => Q (g 16 1) g) := A
      refine sX6_pushOnto ⟨by omega, fun c => absurd c (by omega), fun c => absurd c (by omega), fun c => absurd c (by omega), fun c => absurd c (by omega), fun _ => ⟨by omega, sX6_pushRepeated (c_rp (a := a.toNat) (b := b.toNat) hw hb0 (by omega) (by omega) b.toNat 0 0 g (by omega) (by omega) (by omega) (by omega) (AC_mono (AC_app A) (fun g2 fr B => ⟨⟨by omega, by omega⟩, c_nbs (l := a.toNat) hw ?_ (by omega) B⟩)))⟩, fun c => absurd c (by omega)⟩
      rw [fr _ _ (by omega)]
      omega
/-! the reference's side -/
def AB (h : Hp) (L : List (Nat × Nat)) (Q : Hp → Prop) : Prop := ∃ cs : List (Nat × Nat), cs.length + L.length ≤ 80 ∧ h 103 33 = cs.length ∧ Row h 125 126 0 cs ∧ ∀ g : Hp, g 103 33 = (cs ++ L).length → Row g 125 126 0 (cs ++ L) → (∀ x y : Int, ¬ (x = 125 ∨ x = 126 ∨ (x = 103 ∧ y = 33)) → g x y = h x y) → Q g
theorem AB_nil {h : Hp} {Q : Hp → Prop} (A : AB h [] Q) : Q h := by
  obtain ⟨cs, h1, h2, h3, h4⟩ := A
  exact h4 h (by rw [List.append_nil]; exact h2) (by rw [List.append_nil]; exact h3) (fun _ _ _ => rfl)
theorem AB_ix {h : Hp} {c : Nat × Nat} {L : List (Nat × Nat)} {Q : Hp → Prop} (A : AB h (c :: L) Q) : 0 ≤ h 103 33 ∧ h 103 33 < 80 := by
  obtain ⟨cs, h1, h2, h3, h4⟩ := A
  rw [List.length_cons] at h1
  omega
theorem AB_push {f t : Nat} {a b : Int} {h : Hp} {L : List (Nat × Nat)} {Q : Hp → Prop} (A : AB h ((f, t) :: L) Q) (ea : a = f) (eb : b = t) : AB (up (up (up h 125 (h 103 33) a) 126 (h 103 33) b) 103 33 (h 103 33 + 1)) L Q := by
  obtain ⟨cs, h1, h2, h3, h4⟩ := A
  rw [List.length_cons] at h1
  subst ea
  subst eb
  refine ⟨cs ++ [(f, t)], by rw [List.length_append, List.length_singleton]; omega, ?_, Row_snoc h3 (fun y hy => ⟨?_, ?_⟩) ⟨?_, ?_⟩, fun g s1 s2 s3 => h4 g (by rw [List.append_assoc] at s1; exact s1) (by rw [List.append_assoc] at s2; exact s2) (fun x y hx => ?_)⟩
  · rw [up_eq, List.length_append, List.length_singleton]; omega
  · rw [up_no (by omega), up_no (by omega), up_no (by omega)]
  · rw [up_no (by omega), up_no (by omega), up_no (by omega)]
  · rw [up_no (by omega), up_no (by omega), show (0 : Int) + cs.length = h 103 33 by omega, up_eq]
  · rw [up_no (by omega), show (0 : Int) + cs.length = h 103 33 by omega, up_eq]
  · rw [s3 x y hx, up_no (by omega), up_no (by omega), up_no (by omega)]
theorem AB_app {h : Hp} {L1 L2 : List (Nat × Nat)} {Q : Hp → Prop} (A : AB h (L1 ++ L2) Q) : AB h L1 (fun g => AB g L2 Q) := by
  obtain ⟨cs, h1, h2, h3, h4⟩ := A
  rw [List.length_append] at h1
  refine ⟨cs, by omega, h2, h3, fun g r1 r2 r3 => ⟨cs ++ L1, by rw [List.length_append]; omega, r1, r2, fun g2 s1 s2 s3 => h4 g2 (by rw [← List.append_assoc]; exact s1) (by rw [← List.append_assoc]; exact s2) (fun x y hx => by rw [s3 x y hx, r3 x y hx])⟩⟩
theorem AB_mono {h : Hp} {L : List (Nat × Nat)} {Q Q' : Hp → Prop} (A : AB h L Q) (c : ∀ g : Hp, (∀ x y : Int, ¬ (x = 125 ∨ x = 126 ∨ (x = 103 ∧ y = 33)) → g x y = h x y) → Q g → Q' g) : AB h L Q' := by
  obtain ⟨cs, h1, h2, h3, h4⟩ := A
  exact ⟨cs, h1, h2, h3, fun g r1 r2 r3 => c g r3 (h4 g r1 r2 r3)⟩
theorem m_ml {w : Nat} {Q : Hp → Prop} (hw : w ≤ 8) : ∀ (m l : Nat) (z : Int) (h : Hp), z = l → w ≤ l + m → l ≤ 9 → AB h (nbL w m l) Q → E 1 mX11_makesLayer 2 [(0, vr 103), (2, vi w), (3, vi z)] [] h (qv Q)
  | 0, l, z, h, hz, hm, h9, A => sX11_makesLayer_2 ⟨by omega, fun _ => AB_nil A, fun c => absurd c (by omega)⟩
  | m + 1, l, z, h, hz, hm, h9, A => by
    by_cases c : l + 1 < w
    · rw [nbL_c c] at A
      have e := AB_ix A
      exact sX11_makesLayer_2 ⟨by omega, fun c => absurd c (by omega), fun _ => ⟨by omega, m_ml hw m (l + 2) (z + 2) _ (by omega) (by omega) (by omega) (AB_push A hz (by omega))⟩⟩
    · rw [nbL_n c] at A
      exact sX11_makesLayer_2 ⟨by omega, fun _ => AB_nil A, fun c => absurd c (by omega)⟩
theorem m_mls {w l : Nat} {z : Int} {h : Hp} {Q : Hp → Prop} (hw : w ≤ 8) (hz : z = l) (hl : l ≤ 9) (A : AB h (nbL w w l) Q) : CV 1 mX11_makesLayer [vr 103, vi z, vi w] h Q := sX11_makesLayer (m_ml hw w l z h hz (by omega) hl A)
theorem m_rp {w a b s : Nat} {k za zb : Int} {Q : Int → Hp → Prop} (hw : w ≤ 8) (hs : s < 3) (ha : a ≤ 1) (hb : b ≤ 9) (ea : za = a) (eb : zb = b) (hk : 4 ≤ k) : ∀ (m l : Nat) (z : Int) (h : Hp), z = l → b = l + m → h 113 s = k → AB h (rpL w a m l) (fun g => E 2 mX11_isMade 146 [(0, vr 103), (1, vi s), (2, vi w), (3, vi za)] [] g (qi Q)) → E 2 mX11_isMade 104 [(0, vr 103), (1, vi s), (2, vi w), (3, vi za), (4, vi zb), (5, vi z)] [] h (qi Q)
  | 0, l, z, h, hz, hm, e1, A => sX11_isMade_104 ⟨by omega, fun c => absurd c (by omega), fun _ => ⟨fun _ => AB_nil A, fun c => absurd c (by omega)⟩⟩
  | m + 1, l, z, h, hz, hm, e1, A => by
    refine sX11_isMade_104 ⟨by omega, fun c => absurd c (by omega), fun _ => ⟨fun c => absurd c (by omega), fun _ => ⟨fun _ => by omega, m_mls hw (alt_eq hz (by omega) ea ha) (alt_le ha) (AB_mono (AB_app A) (fun g fr B => ⟨by omega, m_rp hw hs ha hb ea eb hk m (l + 1) (z + 1) g (by omega) (by omega) ?_ B⟩))⟩⟩⟩
    rw [fr _ _ (by omega)]; exact e1
theorem m_made {h : Hp} {s w : Nat} {k a b : Int} {Q : Int → Hp → Prop} (hs : s < 3) (hw2 : 2 ≤ w) (hw : w ≤ 8) (e1 : h 113 s = k) (e2 : h 114 s = a) (e3 : h 115 s = b) (ok : okB k a b) (hk : k ≠ -1) (fit : fitB k a b w) (A : AB (up h 103 33 0) (blkL k a b w) (fun g => Q 1 g)) : CI 2 mX11_isMade [vr 103, vi s, vi w] h Q := by
  have f1 : up h 103 33 0 113 s = k := by rw [up_no (by omega)]; exact e1
  unfold fitB at fit
  unfold okB at ok
  have low : ∀ (g : Hp) (x1 x2 : Int), g 113 s = k → k < 3 → Q 1 g → E 2 mX11_isMade 85 [(0, vr 103), (1, vi s), (2, vi w), (3, vi x1), (4, vi x2)] [] g (qi Q) := fun g x1 x2 q1 q2 q3 => sX11_isMade_85 ⟨by omega, fun _ => sX11_isMade_104 ⟨by omega, fun _ => sX11_isMade_146 ⟨by omega, fun _ => q3, fun c => absurd c (by omega)⟩, fun c => absurd c (by omega)⟩, fun c => absurd c (by omega)⟩
  rcases ok with r | r | ⟨r, o⟩ | ⟨r, o⟩ | ⟨r, o⟩
  · exact absurd r hk
  · subst r
    exact sX11_isMade ⟨by omega, fun c => absurd c (by omega), fun _ => ⟨by omega, fun _ => low _ _ _ f1 (by omega) (AB_nil A), fun c => absurd c (by omega)⟩⟩
  · rcases r with r | r
    · subst r
      have A : AB (up h 103 33 0) [(a.toNat, b.toNat)] (fun g => Q 1 g) := A
      have e := AB_ix A
      have B := AB_push (a := h 114 s) (b := h 115 s) A (by omega) (by omega)
      refine sX11_isMade ⟨by omega, fun _ => ⟨fun c => absurd c (by omega), fun _ => ⟨fun _ => ⟨⟨by omega, by omega, by omega⟩, fun _ => low _ _ _ ?_ (by omega) (AB_nil B), fun c => absurd c (by omega)⟩, fun c => absurd c (by omega)⟩⟩, fun c => absurd c (by omega)⟩
      rw [up_no (by omega), up_no (by omega), up_no (by omega)]; exact f1
    · subst r
      have A : AB (up h 103 33 0) [(a.toNat, b.toNat), (w - 1 - b.toNat, w - 1 - a.toNat)] (fun g => Q 1 g) := A
      have e := AB_ix A
      have B := AB_push (a := h 114 s) (b := h 115 s) A (by omega) (by omega)
      have e' := AB_ix B
      have C := AB_push (a := (w - 1) - h 115 s) (b := (w - 1) - h 114 s) B (by omega) (by omega)
      refine sX11_isMade ⟨by omega, fun c => absurd c (by omega), fun _ => ⟨by omega, fun c => absurd c (by omega), fun _ => ⟨fun c => absurd c (by omega), fun _ => ⟨fun _ => ⟨⟨by omega, by omega, by omega⟩, fun c => absurd c (by omega), fun _ => ⟨⟨by omega, by omega, by omega, by omega, by omega⟩, low _ _ _ ?_ (by omega) (AB_nil C)⟩⟩, fun c => absurd c (by omega)⟩⟩⟩⟩
      rw [up_no (by omega), up_no (by omega), up_no (by omega), up_no (by omega), up_no (by omega), up_no (by omega)]; exact f1
  · subst r
    have A : AB (up h 103 33 0) (nbL w w a.toNat) (fun g => Q 1 g) := A
    refine sX11_isMade ⟨by omega, fun c => absurd c (by omega), fun _ => ⟨by omega, fun _ => sX11_isMade_85 ⟨by omega, fun c => absurd c (by omega), fun _ => m_mls (l := a.toNat) hw (by omega) (by omega) (AB_mono A (fun g fr B => ?_))⟩, fun c => absurd c (by omega)⟩⟩
    have f2 : g 113 s = 3 := by rw [fr _ _ (by omega)]; exact f1
    exact sX11_isMade_104 ⟨by omega, fun _ => sX11_isMade_146 ⟨by omega, fun _ => B, fun c => absurd c (by omega)⟩, fun c => absurd c (by omega)⟩
  · rcases r with r | r
    · subst r
      have A : AB (up h 103 33 0) (rpL w a.toNat b.toNat 0) (fun g => Q 1 g) := A
      refine sX11_isMade ⟨by omega, fun c => absurd c (by omega), fun _ => ⟨by omega, fun _ => sX11_isMade_85 ⟨by omega, fun _ => m_rp (a := a.toNat) (b := b.toNat) (k := 4) hw hs (by omega) (by omega) (by omega) (by omega) (by omega) b.toNat 0 0 _ (by omega) (by omega) f1 (AB_mono A (fun g fr B => ?_)), fun c => absurd c (by omega)⟩, fun c => absurd c (by omega)⟩⟩
      have f2 : g 113 s = 4 := by rw [fr _ _ (by omega)]; exact f1
      exact sX11_isMade_146 ⟨by omega, fun _ => B, fun c => absurd c (by omega)⟩
    · subst r
      have A : AB (up h 103 33 0) (rpL w a.toNat b.toNat 0 ++ nbL w w a.toNat) (fun g => Q 1 g) := A
      refine sX11_isMade ⟨by omega, fun c => absurd c (by omega), fun _ => ⟨by omega, fun _ => sX11_isMade_85 ⟨by omega, fun _ => m_rp (a := a.toNat) (b := b.toNat) (k := 5) hw hs (by omega) (by omega) (by omega) (by omega) (by omega) b.toNat 0 0 _ (by omega) (by omega) f1 (AB_mono (AB_app A) (fun g fr B => ?_)), fun c => absurd c (by omega)⟩, fun c => absurd c (by omega)⟩⟩
      have f2 : g 113 s = 5 := by rw [fr _ _ (by omega)]; exact f1
      exact sX11_isMade_146 ⟨by omega, fun c => absurd c (by omega), fun _ => m_mls (l := a.toNat) hw (by omega) (by omega) B⟩
theorem m_unfit {h : Hp} {s w : Nat} {Q : Int → Hp → Prop} (hs : s < 3) (fit : ¬ fitB (h 113 s) (h 114 s) (h 115 s) w) (A : Q 0 (up h 103 33 0)) : CI 2 mX11_isMade [vr 103, vi s, vi w] h Q := by
  unfold fitB at fit
  exact sX11_isMade ⟨by omega, fun _ => ⟨fun _ => A, fun _ => ⟨fun c => absurd c (by omega), fun _ => A⟩⟩, fun _ => ⟨by omega, fun c => absurd c (by omega), fun _ => ⟨fun _ => A, fun _ => ⟨fun c => absurd c (by omega), fun _ => A⟩⟩⟩⟩
theorem c_unfit {h : Hp} {b0 : Int} {w : Nat} {Q : Int → Hp → Prop} (hb0 : 80 ≤ b0 ∧ b0 ≤ 82) (hk : h b0 0 ≠ -1) (fit : ¬ fitB (h b0 0) (h b0 1) (h b0 2) w) (A : Q (-5) h) : CI 6 mX10_unfold [vr 68, vr b0, vi w] h Q := by
  have fi : (if ((h b0 0) ≠ 1 ∧ (h b0 0) ≠ 2) ∨ ((h b0 1) < w ∧ (h b0 2) < w) then (1 : Int) else 0) = 0 := if_neg fit
  exact sX10_unfold ⟨by omega, fun _ => ⟨by omega, sX6_fits ⟨by omega, ⟨fun _ => by omega, fun _ => by omega⟩, fun c => absurd fi c, fun _ => A⟩⟩, fun c => absurd c (by omega)⟩
theorem AC_start {h : Hp} {w : Nat} {L : List (Nat × Nat)} {Q : Hp → Prop} (hl : L.length ≤ 40) (hq : ∀ g : Hp, CNt g 16 (w, L) → (∀ x y : Int, ¬ (16 ≤ x ∧ x ≤ 18) → g x y = h x y) → Q g) : AC w (up (up h 16 0 w) 16 1 0) L Q := by
  refine ⟨[], by show 0 + _ ≤ 40; omega, ⟨?_, ?_, Row_nil⟩, fun g r1 r2 => hq g r1 (fun x y hx => by rw [r2 x y hx, up_no (by omega), up_no (by omega)])⟩
  · rw [up_no (by omega), up_eq]
  · rw [up_eq]; rfl
theorem AB_start {h : Hp} {L : List (Nat × Nat)} {Q : Hp → Prop} (hl : L.length ≤ 80) (hq : ∀ g : Hp, g 103 33 = L.length → Row g 125 126 0 L → (∀ x y : Int, ¬ (x = 125 ∨ x = 126 ∨ (x = 103 ∧ y = 33)) → g x y = h x y) → Q g) : AB (up h 103 33 0) L Q := by
  refine ⟨[], by show 0 + _ ≤ 80; omega, by rw [up_eq]; rfl, Row_nil, fun g r1 r2 r3 => hq g r1 r2 (fun x y hx => by rw [r3 x y hx, up_no (by omega)])⟩
theorem op_blockSize {h : Hp} {s w : Int} (hR : Rl h) : OpI 7 mX10_blockSize 3 mX11_blockSize [vi s, vi w] h := by
  obtain ⟨nets, hist, H⟩ := Rl_RlN hR
  by_cases hs : 0 ≤ s ∧ s < 3
  · obtain ⟨S, hS, rfl⟩ : ∃ S : Nat, S < 3 ∧ s = S := ⟨s.toNat, by omega, by omega⟩
    by_cases hw : 2 ≤ w ∧ w ≤ 8
    · obtain ⟨W, rfl⟩ : ∃ W : Nat, w = W := ⟨w.toNat, by omega⟩
      obtain ⟨s1, s2, s3, s4⟩ := H.2.2.2.2.2.2 S (by omega) (by omega)
      by_cases hk : h (80 + S) 0 = -1
      · refine sX10_blockSize ⟨fun _ => ⟨fun _ => ⟨by omega, sX10_unfold ⟨by omega, fun c => absurd hk c, fun _ => ?_⟩⟩, fun c => absurd c (by omega)⟩, fun c => absurd c (by omega)⟩
        exact sX11_blockSize ⟨fun _ => ⟨fun _ => ⟨by omega, fun c => absurd c (by omega), fun _ => ⟨rfl, hR⟩⟩, fun c => absurd c (by omega)⟩, fun c => absurd c (by omega)⟩
      · have k0 : 0 ≤ h 113 S := by unfold okB at s4; omega
        by_cases fit : fitB (h (80 + S) 0) (h (80 + S) 1) (h (80 + S) 2) W
        · obtain ⟨b1, b2⟩ := blk_ok (by omega) (by omega) s4 fit
          refine op_keep (r := (blkL (h (80 + S) 0) (h (80 + S) 1) (h (80 + S) 2) W).length) H ?_ (fun h1 ms => ?_)
          · refine sX10_blockSize ⟨fun _ => ⟨fun _ => ⟨by omega, c_unfold (by omega) (by omega) (by omega) rfl rfl rfl s4 hk fit (AC_start b1 (fun g r1 r2 => ⟨r1.2.1, fun x y hx => r2 x y (by unfold kC0 at hx; omega)⟩))⟩, fun c => absurd c (by omega)⟩, fun c => absurd c (by omega)⟩
          · have e := ms.2.2.2.2
            refine sX11_blockSize ⟨fun _ => ⟨fun _ => ⟨by omega, fun _ => m_made hS (by omega) (by omega) ((e 113 S (by omega)).trans s1) ((e 114 S (by omega)).trans s2) ((e 115 S (by omega)).trans s3) s4 hk fit (AB_start (by omega) (fun g r1 r2 r3 => ⟨?_, fun x y hx => r3 x y (by unfold kM0 at hx; omega)⟩)), fun c => absurd c (by rw [e 113 S (by omega)]; omega)⟩, fun c => absurd c (by omega)⟩, fun c => absurd c (by omega)⟩
            rw [if_neg (by decide)]; exact r1
        · refine op_keep (r := -5) H ?_ (fun h1 ms => ?_)
          · exact sX10_blockSize ⟨fun _ => ⟨fun _ => ⟨by omega, c_unfit (by omega) hk fit ⟨rfl, fun _ _ _ => rfl⟩⟩, fun c => absurd c (by omega)⟩, fun c => absurd c (by omega)⟩
          · have e := ms.2.2.2.2
            refine sX11_blockSize ⟨fun _ => ⟨fun _ => ⟨by omega, fun _ => m_unfit hS ?_ ⟨rfl, fun x y hx => by unfold kM0 at hx; rw [up_no (by omega)]⟩, fun c => absurd c (by rw [e 113 S (by omega)]; omega)⟩, fun c => absurd c (by omega)⟩, fun c => absurd c (by omega)⟩
            rw [e 113 S (by omega), e 114 S (by omega), e 115 S (by omega), s1, s2, s3]
            exact fit
    · have no : CI 3 mX11_blockSize [vr 103, vi S, vi w] h (fun r2 h2 => -2 = r2 ∧ Rl h2) := sX11_blockSize ⟨fun _ => ⟨fun c => absurd c (by omega), fun _ => ⟨rfl, hR⟩⟩, fun c => absurd c (by omega)⟩
      exact sX10_blockSize ⟨fun _ => ⟨fun c => absurd c (by omega), fun _ => no⟩, fun c => absurd c (by omega)⟩
  · exact sX10_blockSize ⟨fun c => absurd c (by omega), fun _ => sX11_blockSize ⟨fun c => absurd c (by omega), fun _ => ⟨rfl, hR⟩⟩⟩
theorem m_apb {k w : Nat} {acc : List (Nat × Nat)} {zk : Int} {Q : Int → Hp → Prop} (hk : k < 4) (hz : zk = k) (hl : acc.length ≤ 40) : ∀ (m j : Nat) (z : Int) (h : Hp), z = j → h 103 33 = acc.length → Row h 125 126 0 acc → j + m = acc.length → AM k w h (acc.drop j) (fun g => Q acc.length g) → E 3 mX11_applyBlock 70 [(0, vr 103), (2, vi zk), (3, vi z)] [] h (qi Q)
  | 0, j, z, h, hj, e, R, hm, A => by
    refine sX11_applyBlock_70 ⟨fun _ => ?_, fun c => absurd c (by omega)⟩
    rw [e]
    rw [List.drop_eq_nil_of_le (by omega)] at A
    exact AM_nil A
  | m + 1, j, z, h, hj, e, R, hm, A => by
    have hlt : j < acc.length := by omega
    obtain ⟨b1, b2⟩ := R j hlt
    rw [Int.zero_add, ← hj] at b1 b2
    rw [List.drop_eq_getElem_cons hlt] at A
    obtain ⟨cs, a1, a2, a3⟩ := A
    rw [List.length_cons] at a1
    refine sX11_applyBlock_70 ⟨fun c => absurd c (by omega), fun _ => ⟨by omega, ?_⟩⟩
    rw [b1, b2, hz]
    refine m_app hk a2 (by omega) (fun g r1 r2 => ⟨by omega, m_apb hk rfl hl m (j + 1) (z + 1) g (by omega) ?_ (fun p hp => ?_) (by omega) ⟨cs ++ [((acc[j]).1, (acc[j]).2)], by rw [List.length_append, List.length_singleton]; omega, r1, fun g2 s1 s2 => a3 g2 ?_ (fun x y hx => by rw [s2 x y hx, r2 x y hx])⟩⟩)
    · rw [r2 _ _ (by omega)]; exact e
    · rw [r2 _ _ (by omega), r2 _ _ (by omega)]; exact R p hp
    · rw [List.append_assoc] at s1
      exact s1
theorem op_applyBlock {h : Hp} {s k : Int} (hR : Rl h) : OpI 7 mX10_applyBlock 3 mX11_applyBlock [vi s, vi k] h := by
  obtain ⟨nets, hist, H⟩ := Rl_RlN hR
  by_cases hs : 0 ≤ s ∧ s < 3
  · obtain ⟨S, hS, rfl⟩ : ∃ S : Nat, S < 3 ∧ s = S := ⟨s.toNat, by omega, by omega⟩
    by_cases hk4 : 0 ≤ k ∧ k < 4
    · obtain ⟨j, hj, rfl⟩ := toN hk4.1 hk4.2
      obtain ⟨n1, n2, n3⟩ := H.1 j hj
      obtain ⟨w2, w8, l40, n4⟩ := id n1
      have cw := n2.1
      have cl := n2.2.1
      obtain ⟨s1, s2, s3, s4⟩ := H.2.2.2.2.2.2 S (by omega) (by omega)
      by_cases hk : h (80 + S) 0 = -1
      · refine sX10_applyBlock ⟨fun c => absurd c (by omega), fun _ => ⟨fun _ => ⟨by omega, sX10_unfold ⟨by omega, fun c => absurd hk c, fun _ => ⟨fun c => absurd c (by omega), fun _ => ?_⟩⟩⟩, fun c => absurd c (by omega)⟩⟩
        exact sX11_applyBlock ⟨fun c => absurd c (by omega), fun _ => ⟨fun _ => ⟨by omega, fun c => absurd c (by omega), fun _ => ⟨rfl, hR⟩⟩, fun c => absurd c (by omega)⟩⟩
      · have k0 : 0 ≤ h 113 S := by unfold okB at s4; omega
        by_cases fit : fitB (h (80 + S) 0) (h (80 + S) 1) (h (80 + S) 2) (nets j).1
        · obtain ⟨b1, b2⟩ := blk_ok w2 w8 s4 fit
          have Lg : ∃ L, L = blkL (h (80 + S) 0) (h (80 + S) 1) (h (80 + S) 2) (nets j).1 := ⟨_, rfl⟩
          obtain ⟨L, eL⟩ := Lg
          rw [← eL] at b1 b2
          by_cases hl : (nets j).2.length + L.length ≤ 40
          · have ok : okN ((nets j).1, (nets j).2 ++ L) := by
              refine ⟨w2, w8, by show ((nets j).2 ++ L).length ≤ 40; rw [List.length_append]; exact hl, fun c hc => ?_⟩
              have hc : c ∈ (nets j).2 ++ L := hc
              rcases List.mem_append.1 hc with q | q
              · exact n4 c q
              · exact b2 c q
            refine op_chg (k := j) (N' := ((nets j).1, (nets j).2 ++ L)) (r := L.length) H hj ok ?_ (fun h1 ms => ?_)
            · refine sX10_applyBlock ⟨fun c => absurd c (by omega), fun _ => ⟨fun _ => ⟨by omega, ?_⟩, fun c => absurd c (by omega)⟩⟩
              rw [cw]
              refine c_unfold (by omega) w2 w8 rfl rfl rfl s4 hk fit ?_
              rw [← eL]
              refine AC_start b1 (fun g r1 r2 => ?_)
              have g1 : g 16 1 = L.length := r1.2.1
              have g2 : g (4 * j) 1 = (nets j).2.length := by rw [r2 _ _ (by omega)]; exact cl
              refine ⟨fun _ => ⟨⟨by omega, by omega⟩, fun _ => ?_, fun c => absurd c (by omega)⟩, fun c => absurd c (by omega)⟩
              refine c_remember hj n1 (CNt_c (fun x y p1 p2 => r2 x y (by omega)) n2) (HiC_f (fun x y hx => r2 x y (by unfold aH at hx; omega)) H.2.1) (fun g3 q1 q2 => ⟨by omega, ?_⟩)
              refine c_pushAll (a := 4 * j) (b := 16) (w := (nets j).1) (s := 0) (w2 := (nets j).1) (cs := (nets j).2) (ds := L) (by omega) (by omega) (by omega) w8 hl (fun d hd => by have := b2 d hd; omega) (CNt_c (fun x y p1 p2 => q2 x y (by unfold aH; omega)) r1) (CNt_c (fun x y p1 p2 => by rw [q2 x y (by unfold aH; omega), r2 x y (by omega)]) n2) (fun g4 t1 t2 => ⟨g1, ?_, ?_, fun x y hx => ?_⟩)
              · exact HiC_f (fun x y hx => t2 x y (by unfold aH at hx; omega)) q1
              · rw [shf_0] at t1; exact t1
              · unfold kC at hx
                rw [t2 x y (by omega), q2 x y (by unfold aH; omega), r2 x y (by omega)]
            · obtain ⟨m1, m2, m3, m4, e⟩ := ms
              have mw := (m1 j hj).2.1
              have ml := (m1 j hj).2.2.1
              refine sX11_applyBlock ⟨fun c => absurd c (by omega), fun _ => ⟨fun _ => ⟨by omega, fun _ => ⟨by omega, ?_⟩, fun c => absurd c (by rw [e 113 S (by omega)]; omega)⟩, fun c => absurd c (by omega)⟩⟩
              rw [mw]
              refine m_made hS w2 w8 ((e 113 S (by omega)).trans s1) ((e 114 S (by omega)).trans s2) ((e 115 S (by omega)).trans s3) s4 hk fit ?_
              rw [← eL]
              refine AB_start (by omega) (fun g r1 r2 r3 => ⟨fun _ => ?_, fun c => absurd c (by decide)⟩)
              have g2 : g 105 j = (nets j).2.length := by rw [r3 _ _ (by omega)]; exact ml
              refine ⟨⟨by omega, by omega⟩, fun _ => ?_, fun c => absurd c (by omega)⟩
              refine m_remembers (nets := nets) (hist := hist) (fun i hi => (m1 i hi).1) m4 (fun i hi => MNt_c (fun x y p1 p2 => r3 x y (by omega)) (m1 i hi).2) ⟨by rw [r3 _ _ (by omega)]; exact m2.1, fun t ht i hi => KNt_c (fun y => r3 _ y (by omega)) (m2.2 t ht i hi)⟩ m3 (fun g3 q1 q2 => ?_)
              refine m_apb (w := (nets j).1) (acc := L) hj rfl b1 L.length 0 0 g3 (by omega) (by rw [q2 _ _ (by omega)]; exact r1) (fun p hp => by rw [q2 _ _ (by omega), q2 _ _ (by omega)]; exact r2 p hp) (by omega) ⟨(nets j).2, by rw [List.drop_zero]; exact hl, MNt_c (fun x y p1 p2 => by rw [q2 x y (by omega), r3 x y (by omega)]) (m1 j hj).2, fun g4 t1 t2 => ⟨rfl, ?_⟩⟩
              rw [List.drop_zero] at t1
              refine MP_bec (g := g3) q1 (fun x y hx => ?_) t1 (fun x y hx => t2 x y (by omega))
              unfold kM at hx
              rw [q2 x y (by omega), r3 x y (by omega)]
          · refine op_keep (r := -3) H ?_ (fun h1 ms => ?_)
            · refine sX10_applyBlock ⟨fun c => absurd c (by omega), fun _ => ⟨fun _ => ⟨by omega, ?_⟩, fun c => absurd c (by omega)⟩⟩
              rw [cw]
              refine c_unfold (by omega) w2 w8 rfl rfl rfl s4 hk fit ?_
              rw [← eL]
              refine AC_start b1 (fun g r1 r2 => ?_)
              have g1 : g 16 1 = L.length := r1.2.1
              have g2 : g (4 * j) 1 = (nets j).2.length := by rw [r2 _ _ (by omega)]; exact cl
              exact ⟨fun _ => ⟨⟨by omega, by omega⟩, fun c => absurd c (by omega), fun _ => ⟨rfl, fun x y hx => r2 x y (by unfold kC0 at hx; omega)⟩⟩, fun c => absurd c (by omega)⟩
            · obtain ⟨m1, m2, m3, m4, e⟩ := ms
              have mw := (m1 j hj).2.1
              have ml := (m1 j hj).2.2.1
              refine sX11_applyBlock ⟨fun c => absurd c (by omega), fun _ => ⟨fun _ => ⟨by omega, fun _ => ⟨by omega, ?_⟩, fun c => absurd c (by rw [e 113 S (by omega)]; omega)⟩, fun c => absurd c (by omega)⟩⟩
              rw [mw]
              refine m_made hS w2 w8 ((e 113 S (by omega)).trans s1) ((e 114 S (by omega)).trans s2) ((e 115 S (by omega)).trans s3) s4 hk fit ?_
              rw [← eL]
              refine AB_start (by omega) (fun g r1 r2 r3 => ⟨fun _ => ?_, fun c => absurd c (by decide)⟩)
              have g2 : g 105 j = (nets j).2.length := by rw [r3 _ _ (by omega)]; exact ml
              exact ⟨⟨by omega, by omega⟩, fun c => absurd c (by omega), fun _ => ⟨rfl, fun x y hx => r3 x y (by unfold kM0 at hx; omega)⟩⟩
        · refine op_keep (r := -5) H ?_ (fun h1 ms => ?_)
          · refine sX10_applyBlock ⟨fun c => absurd c (by omega), fun _ => ⟨fun _ => ⟨by omega, ?_⟩, fun c => absurd c (by omega)⟩⟩
            rw [cw]
            exact c_unfit (by omega) hk fit ⟨fun c => absurd c (by decide), fun _ => ⟨rfl, fun _ _ _ => rfl⟩⟩
          · obtain ⟨m1, m2, m3, m4, e⟩ := ms
            have mw := (m1 j hj).2.1
            refine sX11_applyBlock ⟨fun c => absurd c (by omega), fun _ => ⟨fun _ => ⟨by omega, fun _ => ⟨by omega, ?_⟩, fun c => absurd c (by rw [e 113 S (by omega)]; omega)⟩, fun c => absurd c (by omega)⟩⟩
            rw [mw]
            refine m_unfit hS ?_ ⟨fun c => absurd rfl c, fun _ => ⟨rfl, fun x y hx => by unfold kM0 at hx; rw [up_no (by omega)]⟩⟩
            rw [e 113 S (by omega), e 114 S (by omega), e 115 S (by omega), s1, s2, s3]
            exact fit
    · have no : CI 3 mX11_applyBlock [vr 103, vi S, vi k] h (fun r2 h2 => -1 = r2 ∧ Rl h2) := sX11_applyBlock ⟨fun c => absurd c (by omega), fun _ => ⟨fun c => absurd c (by omega), fun _ => ⟨rfl, hR⟩⟩⟩
      exact sX10_applyBlock ⟨fun c => absurd c (by omega), fun _ => ⟨fun c => absurd c (by omega), fun _ => no⟩⟩
  · exact sX10_applyBlock ⟨fun _ => sX11_applyBlock ⟨fun _ => ⟨rfl, hR⟩, fun c => absurd c (by omega)⟩, fun c => absurd c (by omega)⟩
