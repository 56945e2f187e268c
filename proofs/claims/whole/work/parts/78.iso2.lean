/-! isIsomorphic, the class's side -/
theorem free_b {w : Nat} {t : Nat → Int} {k : Nat} (hk : k < w) (h1 : ∀ a : Nat, a < w → t a = -1 ∨ (0 ≤ t a ∧ t a < w)) (h3 : t k = -1) : ∃ b : Nat, b < w ∧ ∀ a : Nat, a < w → t a ≠ b := by
  apply Classical.byContradiction
  intro hn
  have ex : ∀ b : Nat, b < w → ∃ a : Nat, a < w ∧ t a = b := fun b hb => by
    apply Classical.byContradiction
    intro hc
    exact hn ⟨b, hb, fun a ha e => hc ⟨a, ha, e⟩⟩
  let q : Nat → Nat := fun b => if hb : b < w then Classical.choose (ex b hb) else 0
  have hq : ∀ b : Nat, b < w → q b < w ∧ t (q b) = b := fun b hb => by
    have := Classical.choose_spec (ex b hb)
    show (if hb : b < w then Classical.choose (ex b hb) else 0) < w ∧ t (if hb : b < w then Classical.choose (ex b hb) else 0) = b
    rw [dif_pos hb]
    exact this
  have nd : ((List.range w).map q).Nodup := by
    show List.Pairwise (· ≠ ·) _
    rw [List.pairwise_map]
    refine List.Pairwise.imp_of_mem (fun {a b} ha hb hab e => hab ?_) List.nodup_range
    have h4 := (hq a (List.mem_range.1 ha)).2
    have h5 := (hq b (List.mem_range.1 hb)).2
    rw [e, h5] at h4
    omega
  have le := nd_le _ ((List.range w).erase k) nd (fun x hx => by
    obtain ⟨b, hb, e⟩ := List.mem_map.1 hx
    have h6 := hq b (List.mem_range.1 hb)
    have ne : x ≠ k := fun c => by
      rw [← e] at c
      rw [c, h3] at h6
      have := h6.2
      omega
    refine (List.mem_erase_of_ne ne).2 (List.mem_range.2 ?_)
    rw [← e]; exact h6.1)
  rw [List.length_map, List.length_range, List.length_erase_of_mem (List.mem_range.2 hk), List.length_range] at le
  omega
theorem ext_p {w : Nat} : ∀ (k : Nat) (t : Nat → Int), k ≤ w → (∀ a : Nat, a < w → t a = -1 ∨ (0 ≤ t a ∧ t a < w)) → (∀ a b : Nat, a < w → b < w → t a = t b → t a ≠ -1 → a = b) → (∀ a : Nat, k ≤ a → a < w → t a ≠ -1) → ∃ f : Nat → Nat, isP w f ∧ ∀ a : Nat, a < w → t a ≠ -1 → t a = (f a : Nat)
  | 0, t, hk, h1, h2, h3 => by
    refine ⟨fun a => if a < w then (t a).toNat else 0, ⟨fun i hi => ?_, fun i j hi hj e => ?_, fun i hi => ?_⟩, fun a ha _ => ?_⟩
    · show (if i < w then (t i).toNat else 0) < w
      rw [if_pos hi]
      have := h1 i hi
      have := h3 i (by omega) hi
      omega
    · have e : (if i < w then (t i).toNat else 0) = (if j < w then (t j).toNat else 0) := e
      rw [if_pos hi, if_pos hj] at e
      have a1 := h1 i hi
      have a2 := h3 i (by omega) hi
      have b1 := h1 j hj
      have b2 := h3 j (by omega) hj
      exact h2 i j hi hj (by omega) a2
    · show (if i < w then (t i).toNat else 0) = 0
      rw [if_neg (by omega)]
    · show t a = ((if a < w then (t a).toNat else 0 : Nat) : Int)
      rw [if_pos ha]
      have := h1 a ha
      have := h3 a (by omega) ha
      omega
  | k + 1, t, hk, h1, h2, h3 => by
    by_cases q : t k = -1
    · obtain ⟨b, hb, hf⟩ := free_b (k := k) (by omega) h1 q
      obtain ⟨f, f1, f2⟩ := ext_p (w := w) k (fun a => if a = k then (b : Int) else t a) (by omega) (fun a ha => by
        show (if a = k then (b : Int) else t a) = -1 ∨ (0 ≤ (if a = k then (b : Int) else t a) ∧ (if a = k then (b : Int) else t a) < w)
        by_cases e : a = k
        · rw [if_pos e]; omega
        · rw [if_neg e]; exact h1 a ha) (fun a a' ha ha' e ne => by
        have e : (if a = k then (b : Int) else t a) = (if a' = k then (b : Int) else t a') := e
        have ne : (if a = k then (b : Int) else t a) ≠ -1 := ne
        by_cases e1 : a = k
        · by_cases e2 : a' = k
          · rw [e1, e2]
          · rw [if_pos e1, if_neg e2] at e
            exact absurd e.symm (hf a' ha')
        · by_cases e2 : a' = k
          · rw [if_neg e1, if_pos e2] at e
            exact absurd e (hf a ha)
          · rw [if_neg e1, if_neg e2] at e
            rw [if_neg e1] at ne
            exact h2 a a' ha ha' e ne) (fun a ha haw => by
        show (if a = k then (b : Int) else t a) ≠ -1
        by_cases e : a = k
        · rw [if_pos e]; omega
        · rw [if_neg e]; exact h3 a (by omega) haw)
      refine ⟨f, f1, fun a ha ne => ?_⟩
      have e : a ≠ k := fun c => by rw [c] at ne; exact ne q
      have := f2 a ha (by show (if a = k then (b : Int) else t a) ≠ -1; rw [if_neg e]; exact ne)
      have this : (if a = k then (b : Int) else t a) = (f a : Nat) := this
      rw [if_neg e] at this
      exact this
    · exact ext_p (w := w) k t (by omega) h1 h2 (fun a ha haw => by
        by_cases e : a = k
        · rw [e]; exact q
        · exact h3 a (by omega) haw)
def PI (h : Hp) (w : Nat) : Prop := (∀ a : Nat, a < w → h 101 a = -1 ∨ ∃ b : Nat, b < w ∧ h 101 a = (b : Int) ∧ h 102 b = (a : Int)) ∧ ∀ b : Nat, b < w → h 102 b = -1 ∨ ∃ a : Nat, a < w ∧ h 102 b = (a : Int) ∧ h 101 a = (b : Int)
def agr (h : Hp) (w : Nat) (f : Nat → Nat) : Prop := ∀ a : Nat, a < w → h 101 a ≠ -1 → h 101 a = (f a : Nat)
theorem PI_ext {h : Hp} {w : Nat} (H : PI h w) : ∃ f : Nat → Nat, isP w f ∧ agr h w f := by
  refine ext_p w (fun a => h 101 a) (Nat.le_refl _) (fun a ha => ?_) (fun a b ha hb e ne => ?_) (fun a h1 h2 => absurd h2 (by omega))
  · rcases H.1 a ha with q | ⟨b, h1, h2, h3⟩
    · exact Or.inl q
    · right
      show 0 ≤ h 101 a ∧ h 101 a < w
      omega
  · have e : h 101 a = h 101 b := e
    rcases H.1 a ha with q | ⟨c, h1, h2, h3⟩
    · exact absurd q ne
    · rcases H.1 b hb with q2 | ⟨d, g1, g2, g3⟩
      · rw [e] at ne; exact absurd q2 ne
      · have : c = d := by omega
        subst this
        omega
theorem c_link {h : Hp} {w a b : Nat} {za zb : Int} {Q : Int → Hp → Prop} (ea : za = a) (eb : zb = b) (hw : w ≤ 8) (ha : a < w) (hb : b < w) (H : PI h w) (hq1 : ∀ g : Hp, PI g w → g 101 a = (b : Int) → (∀ c : Nat, c < w → h 101 c ≠ -1 → g 101 c = h 101 c) → (∀ f : Nat → Nat, agr h w f → f a = b → agr g w f) → (∀ x y : Int, ¬ (x = 101 ∨ x = 102) → g x y = h x y) → Q 1 g) (hq0 : (∀ f : Nat → Nat, isP w f → agr h w f → f a ≠ b) → Q 0 h) : CI 0 mX5_link [vr 100, vi za, vi zb] h Q := by
  subst ea
  subst eb
  refine sX5_link ⟨by omega, fun c => ⟨by omega, ?_⟩, fun c => ⟨by omega, fun c2 => ⟨by omega, ?_⟩, fun c2 => ⟨by omega, ?_⟩⟩⟩
  · by_cases q : h 101 a = b
    · rw [if_pos q]
      exact hq1 h H q (fun _ _ _ => rfl) (fun f hf _ => hf) (fun _ _ _ => rfl)
    · rw [if_neg q]
      exact hq0 (fun f _ hf e => q (by rw [hf a ha c, e]))
  · rw [if_neg (by omega)]
    refine hq0 (fun f hP hf e => ?_)
    rcases H.2 b hb with q | ⟨a', h1, h2, h3⟩
    · exact c2 q
    · have := hf a' h1 (by omega)
      have e2 : f a' = f a := by omega
      have := hP.2.1 a' a h1 ha e2
      subst this
      omega
  · rw [if_pos rfl]
    refine hq1 _ ⟨fun a' ha' => ?_, fun b' hb' => ?_⟩ ?_ (fun c' hc' ne => ?_) (fun f hf e => ?_) (fun x y hx => ?_)
    · by_cases q : a' = a
      · right
        refine ⟨b, hb, ?_, ?_⟩
        · rw [q, up_no (by omega), up_eq]
        · rw [q, up_eq]
      · rcases H.1 a' ha' with z | ⟨b', g1, g2, g3⟩
        · left; rw [up_no (by omega), up_no (by omega)]; exact z
        · right
          have nb : b' ≠ b := fun z => by rw [z] at g3; omega
          exact ⟨b', g1, by rw [up_no (by omega), up_no (by omega)]; exact g2, by rw [up_no (by omega), up_no (by omega)]; exact g3⟩
    · by_cases q : b' = b
      · right
        refine ⟨a, ha, ?_, ?_⟩
        · rw [q, up_eq]
        · rw [q, up_no (by omega), up_eq]
      · rcases H.2 b' hb' with z | ⟨a', g1, g2, g3⟩
        · left; rw [up_no (by omega), up_no (by omega)]; exact z
        · right
          have na : a' ≠ a := fun z => by rw [z] at g3; omega
          exact ⟨a', g1, by rw [up_no (by omega), up_no (by omega)]; exact g2, by rw [up_no (by omega), up_no (by omega)]; exact g3⟩
    · rw [up_no (by omega), up_eq]
    · have nc : c' ≠ a := fun z => by rw [z] at ne; exact ne c
      rw [up_no (by omega), up_no (by omega)]
    · intro c' hc' ne
      by_cases q : c' = a
      · rw [q, up_no (by omega), up_eq, e]
      · rw [up_no (by omega), up_no (by omega)] at ne ⊢
        exact hf c' hc' ne
    · rw [up_no (by omega), up_no (by omega)]
theorem c_m31 {a1 a2 : Int} {w : Nat} {Q : Int → Hp → Prop} (ha1 : nA a1) (ha2 : nA a2) (hw : w ≤ 8) : ∀ (r1 r2 p1 p2 : List (Nat × Nat)) (h : Hp), CNt h a1 (w, p1 ++ r1) → CNt h a2 (w, p2 ++ r2) → p1.length = p2.length → r1.length = r2.length → p1.length + r1.length ≤ 40 → okL w r1 → okL w r2 → PI h w → (∀ g : Hp, (∃ f : Nat → Nat, isP w f ∧ agr h w f ∧ isoB r1 r2 f = true) → (∀ x y : Int, ¬ (x = 101 ∨ x = 102) → g x y = h x y) → Q 1 g) → (∀ g : Hp, (∀ f : Nat → Nat, isP w f → agr h w f → isoB r1 r2 f = false) → (∀ x y : Int, ¬ (x = 101 ∨ x = 102) → g x y = h x y) → Q 0 g) → E 1 mX5_makes 31 [(0, vr 100), (1, vr a1), (2, vr a2), (3, vi p1.length)] [] h (qi Q)
  | [], r2, p1, p2, h, C1, C2, e1, e2, hl, o1, o2, H, hq1, hq0 => by
    have e : h a1 1 = ((p1 ++ []).length : Nat) := C1.2.1
    rw [List.append_nil] at e
    obtain ⟨f, f1, f2⟩ := PI_ext H
    exact sX5_makes_31 ⟨ha1, fun _ => hq1 h ⟨f, f1, f2, by cases r2 <;> rfl⟩ (fun _ _ _ => rfl), fun c => absurd c (by omega)⟩
  | c :: r1, [], p1, p2, h, C1, C2, e1, e2, hl, o1, o2, H, hq1, hq0 => absurd e2 (by simp)
  | c :: r1, d :: r2, p1, p2, h, C1, C2, e1, e2, hl, o1, o2, H, hq1, hq0 => by
    have e : h a1 1 = ((p1 ++ c :: r1).length : Nat) := C1.2.1
    rw [List.length_append, List.length_cons] at e
    rw [List.length_cons] at hl
    obtain ⟨x1, x2⟩ := Row_mid C1.2.2
    obtain ⟨y1, y2⟩ := Row_mid C2.2.2
    rw [Int.zero_add] at x1 x2 y1 y2
    rw [← e1] at y1 y2
    have hc := o1 c (List.mem_cons_self ..)
    have hd := o2 d (List.mem_cons_self ..)
    have ei : ∀ f : Nat → Nat, isoB (c :: r1) (d :: r2) f = ((decide (f c.1 = d.1) && decide (f c.2 = d.2)) && isoB r1 r2 f) := fun f => rfl
    refine sX5_makes_31 ⟨ha1, fun c => absurd c (by omega), fun _ => ⟨⟨ha1, by omega, ha2⟩, c_link x1 y1 hw hc.1 hd.1 H (fun g1 H1 l1 k1 t1 f1 => ⟨fun c => absurd c (by decide), fun _ => ⟨⟨ha1, by omega, ha2⟩, ?_⟩⟩) (fun no => ⟨fun _ => ?_, fun c => absurd rfl c⟩)⟩⟩
    · refine c_link (by rw [f1 _ _ (by omega)]; exact x2) (by rw [f1 _ _ (by omega)]; exact y2) hw hc.2.1 hd.2.1 H1 (fun g2 H2 l2 k2 t2 f2 => ⟨fun _ => ⟨by omega, ?_⟩, fun c => absurd c (by decide)⟩) (fun no => ⟨fun c => absurd rfl c, fun _ => ?_⟩)
      · have fr : ∀ x y : Int, ¬ (x = 101 ∨ x = 102) → g2 x y = h x y := fun x y hx => by rw [f2 x y hx, f1 x y hx]
        have l1' : g2 101 c.1 = (d.1 : Nat) := by rw [k2 c.1 hc.1 (by omega)]; exact l1
        have := c_m31 (Q := Q) ha1 ha2 hw r1 r2 (p1 ++ [c]) (p2 ++ [d]) g2 (by rw [List.append_assoc]; exact CNt_c (fun x y q1 q2 => fr x y (by omega)) C1) (by rw [List.append_assoc]; exact CNt_c (fun x y q1 q2 => fr x y (by omega)) C2) (by rw [List.length_append, List.length_append, e1]; rfl) (by rw [List.length_cons, List.length_cons] at e2; omega) (by rw [List.length_append, List.length_singleton]; omega) (okL_tail o1) (okL_tail o2) H2 (fun g ⟨f, q1, q2, q3⟩ fg => hq1 g ⟨f, q1, ?_, ?_⟩ (fun x y hx => by rw [fg x y hx, fr x y hx])) (fun g q1 fg => hq0 g (fun f q2 q3 => ?_) (fun x y hx => by rw [fg x y hx, fr x y hx]))
        · rw [List.length_append, List.length_singleton] at this
          exact this
        · intro a ha ne
          have z1 := k1 a ha ne
          have z2 := k2 a ha (by omega)
          have := q2 a ha (by omega)
          omega
        · rw [ei, q3, Bool.and_true]
          have z1 := q2 c.1 hc.1 (by omega)
          have z2 := q2 c.2 hc.2.1 (by omega)
          rw [decide_eq_true (show f c.1 = d.1 by omega), decide_eq_true (show f c.2 = d.2 by omega)]; rfl
        · rw [ei]
          by_cases z : f c.1 = d.1 ∧ f c.2 = d.2
          · rw [q1 f q2 (t2 f (t1 f q3 z.1) z.2), Bool.and_false]
          · rw [← Bool.decide_and, decide_eq_false z, Bool.false_and]
      · refine hq0 g1 (fun f q2 q3 => ?_) f1
        rw [ei]
        by_cases z : f c.1 = d.1
        · rw [decide_eq_false (no f q2 (t1 f q3 z)), Bool.and_false, Bool.false_and]
        · rw [decide_eq_false z, Bool.false_and, Bool.false_and]
    · refine hq0 h (fun f q2 q3 => ?_) (fun _ _ _ => rfl)
      rw [ei, decide_eq_false (no f q2 q3), Bool.false_and, Bool.false_and]
theorem c_makes {h : Hp} {a1 a2 : Int} {w : Nat} {cs ds : List (Nat × Nat)} {Q : Int → Hp → Prop} (ha1 : nA a1) (ha2 : nA a2) (hw : w ≤ 8) (C1 : CNt h a1 (w, cs)) (C2 : CNt h a2 (w, ds)) (el : cs.length = ds.length) (hl : cs.length ≤ 40) (o1 : okL w cs) (o2 : okL w ds) (hq1 : ∀ g : Hp, (∃ f : Nat → Nat, isP w f ∧ isoB cs ds f = true) → (∀ x y : Int, ¬ (x = 101 ∨ x = 102) → g x y = h x y) → Q 1 g) (hq0 : ∀ g : Hp, (∀ f : Nat → Nat, isP w f → isoB cs ds f = false) → (∀ x y : Int, ¬ (x = 101 ∨ x = 102) → g x y = h x y) → Q 0 g) : CI 1 mX5_makes [vr 100, vr a1, vr a2] h Q := by
  have e1 : h a1 1 = (cs.length : Nat) := C1.2.1
  have e2 : h a2 1 = (ds.length : Nat) := C2.2.1
  refine sX5_makes ⟨⟨ha1, ha2⟩, fun _ => c_fill (by omega) (c_fill (by omega) ?_), fun c => absurd (by omega) c⟩
  have fr : ∀ x y : Int, ¬ (x = 101 ∨ x = 102) → fl (fl h 101 (-1) 8) 102 (-1) 8 x y = h x y := fun x y hx => by
    unfold fl
    rw [if_neg (by omega), if_neg (by omega)]
  have v1 : ∀ a : Nat, a < w → fl (fl h 101 (-1) 8) 102 (-1) 8 101 a = -1 := fun a ha => by
    unfold fl
    rw [if_neg (by omega), if_pos (by omega)]
  have v2 : ∀ a : Nat, a < w → fl (fl h 101 (-1) 8) 102 (-1) 8 102 a = -1 := fun a ha => by
    unfold fl
    rw [if_pos (by omega)]
  refine c_m31 ha1 ha2 hw cs ds [] [] _ (CNt_c (fun x y q1 q2 => fr x y (by omega)) C1) (CNt_c (fun x y q1 q2 => fr x y (by omega)) C2) rfl el (by show 0 + _ ≤ 40; omega) o1 o2 ⟨fun a ha => Or.inl (v1 a ha), fun b hb => Or.inl (v2 b hb)⟩ (fun g ⟨f, q1, _, q3⟩ fg => hq1 g ⟨f, q1, q3⟩ (fun x y hx => by rw [fg x y hx, fr x y hx])) (fun g q1 fg => hq0 g (fun f q2 => q1 f q2 (fun a ha ne => absurd (v1 a ha) ne)) (fun x y hx => by rw [fg x y hx, fr x y hx]))
theorem m_iso {h : Hp} {i j w : Nat} {cs ds : List (Nat × Nat)} {Q : Int → Hp → Prop} (hi : i < 4) (hj : j < 4) (hw2 : 2 ≤ w) (hw : w ≤ 8) (M1 : MNt h i (w, cs)) (M2 : MNt h j (w, ds)) (el : cs.length = ds.length) (hl : cs.length ≤ 40) (o1 : okL w cs) (o2 : okL w ds) (hq1 : ∀ g : Hp, (∃ f : Nat → Nat, isP w f ∧ isoB cs ds f = true) → (∀ x y : Int, x ≠ 121 → g x y = h x y) → Q 1 g) (hq0 : ∀ g : Hp, (∀ f : Nat → Nat, isP w f → isoB cs ds f = false) → (∀ x y : Int, x ≠ 121 → g x y = h x y) → Q 0 g) : CV 0 mX11_begins [vr 103] h (fun h6 => E 3 mX11_isIsomorphic 37 [(0, vr 103), (1, vi i), (2, vi j), (4, vi 1)] [] h6 (qi Q)) := by
  refine m_begins (fun g p1 p2 => ?_)
  have ew : g 104 i = w := by rw [p2 _ _ (by omega)]; exact M1.1
  refine blkE (w := w) (zw := g 104 i) (p := fun v => isoB cs ds (fnL v)) (Inv := fun k => ∀ x y : Int, x ≠ 121 → k x y = g x y) (G := fun r k => E 3 mX11_isIsomorphic 37 [(0, vr 103), (1, vi i), (2, vi j), (4, vi r)] [] k (qi Q)) (Fin := fun k => Q 1 k) ew hw (fun a b hab hb x y hx => by rw [hab x y hx, hb x y hx]) (fun v k hv A I F K => ?_) w (List.range w) [] g List.length_range (List.Perm.refl _) (rng_pw w) (fun t ht => ?_) (fun _ _ _ => rfl) (fun k v I _ hv q => hq1 k ⟨fnL v, fnL_P hv, q⟩ (fun x y hx => by rw [I x y hx, p2 x y hx])) (fun k A I _ N => ?_)
  · have lv : v.length = w := by rw [hv.length_eq, List.length_range]
    have fr : ∀ x y : Int, x ≠ 121 → k x y = h x y := fun x y hx => by rw [I x y hx, p2 x y hx]
    refine sX11_isIsomorphic_37 ⟨fun c => absurd c (by decide), fun _ => ?_⟩
    refine m_i48 hi hj hw (AR_FA lv A) cs ds [] [] (MNt_c (fun x y q1 q2 => fr x y (by omega)) M1) (MNt_c (fun x y q1 q2 => fr x y (by omega)) M2) rfl el (by show 0 + _ ≤ 40; omega) o1 o2 F (fun q => ?_)
    rw [I 104 i (by omega)]
    exact K q
  · have ht : t < (List.range w).length := ht
    rw [List.length_range] at ht
    rw [p1 t (by omega)]
    simp
  · rw [List.nil_append] at A
    refine m_nextN (w := w) ew hw2 hw (by rw [List.length_reverse, List.length_range]) (List.pairwise_reverse.2 (rng_pw w)) A ?_
    refine sX11_isIsomorphic_37 ⟨fun _ => hq0 k (fun f hf => ?_) (fun x y hx => by rw [I x y hx, p2 x y hx]), fun c => absurd rfl c⟩
    obtain ⟨v, hv, e⟩ := List.mem_map.1 ((allP_mem (w := w) (f := f)).2 hf)
    have := N v hv
    rw [List.nil_append, e] at this
    exact this
theorem op_isIsomorphic {h : Hp} {a b : Int} (hR : Rl h) : OpI 2 mX10_isIsomorphic 3 mX11_isIsomorphic [vi a, vi b] h := by
  obtain ⟨nets, hist, H⟩ := Rl_RlN hR
  by_cases hk : (0 ≤ a ∧ a < 4) ∧ (0 ≤ b ∧ b < 4)
  · obtain ⟨i, hi, rfl⟩ := toN hk.1.1 hk.1.2
    obtain ⟨j, hj, rfl⟩ := toN hk.2.1 hk.2.2
    obtain ⟨i1, i2, i3⟩ := H.1 i hi
    obtain ⟨j1, j2, j3⟩ := H.1 j hj
    have e1 := i2.1
    have e2 := j2.1
    have e3 := i3.1
    have e4 := j3.1
    have l1 := i2.2.1
    have l2 := j2.2.1
    have okl : okL (nets i).1 (nets i).2 := i1.2.2.2
    have okj : okL (nets j).1 (nets j).2 := j1.2.2.2
    by_cases hw : (nets i).1 = (nets j).1
    · rw [← hw] at okj
      have C2 : CNt h (4 * j) ((nets i).1, (nets j).2) := by rw [hw]; exact j2
      by_cases hl : (nets i).2.length = (nets j).2.length
      · by_cases hex : ∃ f : Nat → Nat, isP (nets i).1 f ∧ isoB (nets i).2 (nets j).2 f = true
        · refine op_keep (r := 1) H ?_ (fun h1 ms => ?_)
          · refine sX10_isIsomorphic ⟨fun c => absurd c (by omega), fun _ => ⟨fun _ => ⟨by omega, fun _ => ⟨by omega, ?_⟩, fun c => absurd c (by omega)⟩, fun c => absurd c (by omega)⟩⟩
            refine c_makes (by omega) (by omega) i1.2.1 i2 C2 hl i1.2.2.1 okl okj (fun g _ fr => ⟨rfl, fun x y hx => fr x y (by unfold kC0 at hx; omega)⟩) (fun g no fr => ?_)
            obtain ⟨f, f1, f2⟩ := hex
            rw [no f f1] at f2
            exact absurd f2 (by decide)
          · obtain ⟨m1, m2, m3, m4, e⟩ := ms
            have g1 := (m1 i hi).2.1
            have g2 := (m1 j hj).2.1
            have g3 := (m1 i hi).2.2.1
            have g4 := (m1 j hj).2.2.1
            refine sX11_isIsomorphic ⟨⟨fun _ => by omega, fun _ => by omega⟩, fun x2 hx2 => ?_⟩
            rw [if_neg (by omega), if_pos (by omega), if_pos (by omega)] at hx2
            refine ⟨fun _ => ⟨⟨by omega, by omega⟩, fun _ => ?_, fun c => absurd (by omega) c⟩, fun c => absurd c (by omega)⟩
            refine m_iso hi hj i1.1 i1.2.1 (m1 i hi).2 (by rw [hw]; exact (m1 j hj).2) hl i1.2.2.1 okl okj (fun g _ fr => ⟨rfl, fun x y hx => fr x y (by unfold kM0 at hx; omega)⟩) (fun g no fr => ?_)
            obtain ⟨f, f1, f2⟩ := hex
            rw [no f f1] at f2
            exact absurd f2 (by decide)
        · refine op_keep (r := 0) H ?_ (fun h1 ms => ?_)
          · refine sX10_isIsomorphic ⟨fun c => absurd c (by omega), fun _ => ⟨fun _ => ⟨by omega, fun _ => ⟨by omega, ?_⟩, fun c => absurd c (by omega)⟩, fun c => absurd c (by omega)⟩⟩
            exact c_makes (by omega) (by omega) i1.2.1 i2 C2 hl i1.2.2.1 okl okj (fun g y fr => absurd y hex) (fun g _ fr => ⟨rfl, fun x y hx => fr x y (by unfold kC0 at hx; omega)⟩)
          · obtain ⟨m1, m2, m3, m4, e⟩ := ms
            have g1 := (m1 i hi).2.1
            have g2 := (m1 j hj).2.1
            have g3 := (m1 i hi).2.2.1
            have g4 := (m1 j hj).2.2.1
            refine sX11_isIsomorphic ⟨⟨fun _ => by omega, fun _ => by omega⟩, fun x2 hx2 => ?_⟩
            rw [if_neg (by omega), if_pos (by omega), if_pos (by omega)] at hx2
            refine ⟨fun _ => ⟨⟨by omega, by omega⟩, fun _ => ?_, fun c => absurd (by omega) c⟩, fun c => absurd c (by omega)⟩
            exact m_iso hi hj i1.1 i1.2.1 (m1 i hi).2 (by rw [hw]; exact (m1 j hj).2) hl i1.2.2.1 okl okj (fun g y fr => absurd y hex) (fun g _ fr => ⟨rfl, fun x y hx => fr x y (by unfold kM0 at hx; omega)⟩)
      · have no : CI 3 mX11_isIsomorphic [vr 103, vi i, vi j] h (fun r2 h2 => 0 = r2 ∧ Rl h2) := by
          have l3 := i3.2.1
          have l4 := j3.2.1
          refine sX11_isIsomorphic ⟨⟨fun _ => by omega, fun _ => by omega⟩, fun x2 hx2 => ?_⟩
          rw [if_neg (by omega), if_pos (by omega), if_pos (by omega)] at hx2
          exact ⟨fun _ => ⟨⟨by omega, by omega⟩, fun c => absurd c (by omega), fun _ => ⟨rfl, hR⟩⟩, fun c => absurd c (by omega)⟩
        refine sX10_isIsomorphic ⟨fun c => absurd c (by omega), fun _ => ⟨fun _ => ⟨by omega, fun _ => ⟨by omega, sX5_makes ⟨⟨by omega, by omega⟩, fun c => absurd c (by omega), fun _ => ?_⟩⟩, fun c => absurd c (by omega)⟩, fun c => absurd c (by omega)⟩⟩
        exact no
    · have no : CI 3 mX11_isIsomorphic [vr 103, vi i, vi j] h (fun r2 h2 => -2 = r2 ∧ Rl h2) := by
        refine sX11_isIsomorphic ⟨⟨fun _ => by omega, fun _ => by omega⟩, fun x2 hx2 => ?_⟩
        rw [if_neg (by omega), if_pos (by omega), if_neg (by omega)] at hx2
        exact ⟨fun c => absurd c (by omega), fun _ => ⟨hx2.symm, hR⟩⟩
      exact sX10_isIsomorphic ⟨fun c => absurd c (by omega), fun _ => ⟨fun _ => ⟨by omega, fun c => absurd c (by omega), fun _ => no⟩, fun c => absurd c (by omega)⟩⟩
  · have no : CI 3 mX11_isIsomorphic [vr 103, vi a, vi b] h (fun r2 h2 => -1 = r2 ∧ Rl h2) := by
      refine sX11_isIsomorphic ⟨⟨fun c => absurd c (by omega), fun c => absurd c (by omega)⟩, fun x2 hx2 => ?_⟩
      have hx : x2 = -1 := by
        rw [hx2]
        by_cases q : a < 0 ∨ a > 3
        · rw [if_pos q]
        · rw [if_neg q, if_neg (by omega)]
      exact ⟨fun c => absurd c (by omega), fun _ => ⟨hx.symm, hR⟩⟩
    exact sX10_isIsomorphic ⟨fun _ => no, fun _ => ⟨fun c => absurd c (by omega), fun _ => no⟩⟩
