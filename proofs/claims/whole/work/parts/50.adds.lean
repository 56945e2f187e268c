/-! pushes onto the spare network; appends to a reference network -/
def AC (w : Nat) (h : Hp) (L : List (Nat × Nat)) (Q : Hp → Prop) : Prop := ∃ cs : List (Nat × Nat), cs.length + L.length ≤ 40 ∧ CNt h 16 (w, cs) ∧ ∀ g : Hp, CNt g 16 (w, cs ++ L) → (∀ x y : Int, ¬ (16 ≤ x ∧ x ≤ 18) → g x y = h x y) → Q g
theorem AC_nil {w : Nat} {h : Hp} {Q : Hp → Prop} (A : AC w h [] Q) : Q h := by
  obtain ⟨cs, h1, h2, h3⟩ := A
  exact h3 h (by rw [List.append_nil]; exact h2) (fun _ _ _ => rfl)
theorem AC_w {w : Nat} {h : Hp} {L : List (Nat × Nat)} {Q : Hp → Prop} (A : AC w h L Q) : h 16 0 = w := by
  obtain ⟨cs, h1, h2, h3⟩ := A
  exact h2.1
theorem AC_push {w f t : Nat} {a b : Int} {h : Hp} {L : List (Nat × Nat)} {Q Q' : Hp → Prop} (A : AC w h ((f, t) :: L) Q) (ea : a = f) (eb : b = t) (hf : f < w) (ht : t < w) (hft : f ≠ t) (k : ∀ g : Hp, AC w g L Q → (∀ x y : Int, ¬ (16 ≤ x ∧ x ≤ 18) → g x y = h x y) → Q' g) : CV 2 mX3_push [vr 16, vi a, vi b] h Q' := by
  obtain ⟨cs, h1, h2, h3⟩ := A
  rw [List.length_cons] at h1
  rw [ea, eb]
  refine c_push1 (by omega) h2 (by omega) hf ht hft (fun g r1 r2 => k g ⟨cs ++ [(f, t)], by rw [List.length_append, List.length_singleton]; omega, r1, fun g2 s1 s2 => h3 g2 ?_ (fun x y hx => by rw [s2 x y hx, r2 x y (by omega)])⟩ (fun x y hx => r2 x y (by omega)))
  rw [List.append_assoc] at s1
  exact s1
theorem AC_app {w : Nat} {h : Hp} {L1 L2 : List (Nat × Nat)} {Q : Hp → Prop} (A : AC w h (L1 ++ L2) Q) : AC w h L1 (fun g => AC w g L2 Q) := by
  obtain ⟨cs, h1, h2, h3⟩ := A
  rw [List.length_append] at h1
  refine ⟨cs, by omega, h2, fun g r1 r2 => ⟨cs ++ L1, by rw [List.length_append]; omega, r1, fun g2 s1 s2 => h3 g2 (by rw [← List.append_assoc]; exact s1) (fun x y hx => by rw [s2 x y hx, r2 x y hx])⟩⟩
theorem AC_mono {w : Nat} {h : Hp} {L : List (Nat × Nat)} {Q Q' : Hp → Prop} (A : AC w h L Q) (k : ∀ g : Hp, (∀ x y : Int, ¬ (16 ≤ x ∧ x ≤ 18) → g x y = h x y) → Q g → Q' g) : AC w h L Q' := by
  obtain ⟨cs, h1, h2, h3⟩ := A
  exact ⟨cs, h1, h2, fun g r1 r2 => k g r2 (h3 g r1 r2)⟩
def AM (k w : Nat) (h : Hp) (L : List (Nat × Nat)) (Q : Hp → Prop) : Prop := ∃ cs : List (Nat × Nat), cs.length + L.length ≤ 40 ∧ MNt h k (w, cs) ∧ ∀ g : Hp, MNt g k (w, cs ++ L) → (∀ x y : Int, ¬ ((x = 105 ∧ y = k) ∨ ((x = 106 ∨ x = 107) ∧ 40 * (k : Int) ≤ y ∧ y < 40 * k + 40)) → g x y = h x y) → Q g
theorem AM_nil {k w : Nat} {h : Hp} {Q : Hp → Prop} (A : AM k w h [] Q) : Q h := by
  obtain ⟨cs, h1, h2, h3⟩ := A
  exact h3 h (by rw [List.append_nil]; exact h2) (fun _ _ _ => rfl)
theorem AM_w {k w : Nat} {h : Hp} {L : List (Nat × Nat)} {Q : Hp → Prop} (A : AM k w h L Q) : h 104 k = w := by
  obtain ⟨cs, h1, h2, h3⟩ := A
  exact h2.1
theorem m_app {h : Hp} {k w f t : Nat} {cs : List (Nat × Nat)} {Q : Hp → Prop} (hk : k < 4) (M : MNt h k (w, cs)) (hl : cs.length < 40) (hq : ∀ g : Hp, MNt g k (w, cs ++ [(f, t)]) → (∀ x y : Int, ¬ ((x = 105 ∧ y = k) ∨ ((x = 106 ∨ x = 107) ∧ 40 * (k : Int) ≤ y ∧ y < 40 * k + 40)) → g x y = h x y) → Q g) : CV 1 mX11_appends [vr 103, vi k, vi f, vi t] h Q := by
  refine sX11_appends ⟨by omega, ?_⟩
  rw [M.2.1]
  refine m_puts (N := (w, cs)) (p := cs.length) hk M (Nat.le_refl _) hl (fun g r1 r2 => hq g ?_ r2)
  rw [← ins_end]
  exact r1
theorem AM_push {k w f t : Nat} {z a b : Int} {h : Hp} {L : List (Nat × Nat)} {Q Q' : Hp → Prop} (hk : k < 4) (A : AM k w h ((f, t) :: L) Q) (ez : z = k) (ea : a = f) (eb : b = t) (c : ∀ g : Hp, AM k w g L Q → Q' g) : CV 1 mX11_appends [vr 103, vi z, vi a, vi b] h Q' := by
  obtain ⟨cs, h1, h2, h3⟩ := A
  rw [List.length_cons] at h1
  rw [ez, ea, eb]
  refine m_app hk h2 (by omega) (fun g r1 r2 => c g ⟨cs ++ [(f, t)], by rw [List.length_append, List.length_singleton]; omega, r1, fun g2 s1 s2 => h3 g2 ?_ (fun x y hx => by rw [s2 x y hx, r2 x y hx])⟩)
  rw [List.append_assoc] at s1
  exact s1
theorem AM_app {k w : Nat} {h : Hp} {L1 L2 : List (Nat × Nat)} {Q : Hp → Prop} (A : AM k w h (L1 ++ L2) Q) : AM k w h L1 (fun g => AM k w g L2 Q) := by
  obtain ⟨cs, h1, h2, h3⟩ := A
  rw [List.length_append] at h1
  refine ⟨cs, by omega, h2, fun g r1 r2 => ⟨cs ++ L1, by rw [List.length_append]; omega, r1, fun g2 s1 s2 => h3 g2 (by rw [← List.append_assoc]; exact s1) (fun x y hx => by rw [s2 x y hx, r2 x y hx])⟩⟩
theorem AM_mono {k w : Nat} {h : Hp} {L : List (Nat × Nat)} {Q Q' : Hp → Prop} (A : AM k w h L Q) (c : ∀ g : Hp, Q g → Q' g) : AM k w h L Q' := by
  obtain ⟨cs, h1, h2, h3⟩ := A
  exact ⟨cs, h1, h2, fun g r1 r2 => c g (h3 g r1 r2)⟩
/-! neighbours -/
def nbL (w : Nat) : Nat → Nat → List (Nat × Nat)
  | 0, _ => []
  | m + 1, l => if l + 1 < w then (l, l + 1) :: nbL w m (l + 2) else []
theorem nbL_c {w m l : Nat} (c : l + 1 < w) : nbL w (m + 1) l = (l, l + 1) :: nbL w m (l + 2) := by
  show (if _ then _ else _) = _
  rw [if_pos c]
theorem nbL_n {w m l : Nat} (c : ¬ l + 1 < w) : nbL w m l = [] := by
  cases m with
  | zero => rfl
  | succ m => show (if _ then _ else _) = _; rw [if_neg c]
theorem c_nb {w : Nat} {Q : Hp → Prop} (hw : w ≤ 8) : ∀ (m l : Nat) (z : Int) (h : Hp), z = l → w ≤ l + m → l ≤ 9 → AC w h (nbL w m l) Q → E 3 mX3_pushNeighbours 2 [(0, vr 16), (2, vi z)] [] h (qv Q)
  | 0, l, z, h, hz, hm, h9, A => by
    have e := AC_w A
    rw [nbL_n (by omega)] at A
    exact sX3_pushNeighbours_2 ⟨⟨by omega, by omega⟩, fun _ => AC_nil A, fun d => absurd d (by omega)⟩
  | m + 1, l, z, h, hz, hm, h9, A => by
    have e := AC_w A
    by_cases c : l + 1 < w
    · rw [nbL_c c] at A
      exact sX3_pushNeighbours_2 ⟨⟨by omega, by omega⟩, fun d => absurd d (by omega), fun _ => ⟨⟨by omega, by omega⟩, AC_push A (by omega) (by omega) (by omega) (by omega) (by omega) (fun g B _ => ⟨by omega, c_nb hw m (l + 2) (z + 2) g (by omega) (by omega) (by omega) B⟩)⟩⟩
    · rw [nbL_n c] at A
      exact sX3_pushNeighbours_2 ⟨⟨by omega, by omega⟩, fun _ => AC_nil A, fun d => absurd d (by omega)⟩
theorem c_nbs {w l : Nat} {z : Int} {h : Hp} {Q : Hp → Prop} (hw : w ≤ 8) (hz : z = l) (hl : l ≤ 9) (A : AC w h (nbL w w l) Q) : CV 3 mX3_pushNeighbours [vr 16, vi z] h Q := sX3_pushNeighbours (c_nb hw w l z h hz (by omega) hl A)
