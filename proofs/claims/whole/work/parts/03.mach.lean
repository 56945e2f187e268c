/-! values, the abstract heap -/
abbrev AV : Type := Int ⊕ (Int ⊕ Int)
abbrev vi (z : Int) : AV := Sum.inl z
abbrev vl (z : Int) : AV := Sum.inr (Sum.inl z)
abbrev vr (a : Int) : AV := Sum.inr (Sum.inr a)
abbrev Hp : Type := Int → Int → Int
def up (h : Hp) (a i v : Int) : Hp := fun x y => if x = a ∧ y = i then v else h x y
def rg (z : Int) : Prop := -2147483648 ≤ z ∧ z < 2147483648
def rgL (z : Int) : Prop := -9223372036854775808 ≤ z ∧ z < 9223372036854775808
def wfv : AV → Prop
  | .inl z => rg z
  | .inr (.inl z) => rgL z
  | .inr (.inr _) => True
def lgS (a j : Int) : Prop := a = 84 ∨ a = 99 ∨ (a = 103 ∧ j = 28)
def wfh (h : Hp) : Prop := ∀ a j, (lgS a j → rgL (h a j)) ∧ (¬ lgS a j → rg (h a j))
def rv (ad : Nat → Nat) : AV → Value
  | .inl z => .int (Int32.ofInt z)
  | .inr (.inl z) => .long (Int64.ofInt z)
  | .inr (.inr a) => .ref (ad a.toNat)
def cat : AV → Nat
  | .inr (.inl _) => 2
  | _ => 1
theorem cat_rv (ad : Nat → Nat) (v : AV) : (rv ad v).category = cat v := by
  rcases v with z | z | z <;> rfl
def csum (l : List AV) : Nat := (l.map cat).sum
theorem csum_rv (ad : Nat → Nat) (l : List AV) : ((l.map (rv ad)).map fun v => v.category).sum = csum l := by
  unfold csum
  rw [List.map_map]
  congr 1
  exact List.map_congr_left (fun v _ => cat_rv ad v)
/-! numbers -/
theorem o32 {z : Int} (h : rg z) : (Int32.ofInt z).toInt = z := by
  obtain ⟨h1, h2⟩ := h
  exact Int32.toInt_ofInt_of_le (by simpa using h1) (by simpa using h2)
theorem o64 {z : Int} (h : rgL z) : (Int64.ofInt z).toInt = z := by
  obtain ⟨h1, h2⟩ := h
  exact Int64.toInt_ofInt_of_le (by simpa using h1) (by simpa using h2)
theorem o32_lt {x y : Int} (hx : rg x) (hy : rg y) : Int32.ofInt x < Int32.ofInt y ↔ x < y := by
  rw [Int32.lt_iff_toInt_lt, o32 hx, o32 hy]
theorem o32_le {x y : Int} (hx : rg x) (hy : rg y) : Int32.ofInt x ≤ Int32.ofInt y ↔ x ≤ y := by
  rw [Int32.le_iff_toInt_le, o32 hx, o32 hy]
theorem o32_eq {x y : Int} (hx : rg x) (hy : rg y) : Int32.ofInt x = Int32.ofInt y ↔ x = y := by
  rw [← Int32.toInt_inj, o32 hx, o32 hy]
theorem o32_0 : (0 : Int32) = Int32.ofInt 0 := by decide
theorem rg0 : rg 0 := by unfold rg; omega
theorem o32_ge {x y : Int} (hx : rg x) (hy : rg y) : Int32.ofInt x ≥ Int32.ofInt y ↔ x ≥ y := o32_le hy hx
theorem o32_gt {x y : Int} (hx : rg x) (hy : rg y) : Int32.ofInt x > Int32.ofInt y ↔ x > y := o32_lt hy hx
theorem o32_clamp {z : Int} (h : rg z) : (Int32.ofInt z).toNatClampNeg = z.toNat := by
  show (Int32.ofInt z).toInt.toNat = z.toNat
  rw [o32 h]
theorem o32_in {z : Int} {n : Nat} (h0 : 0 ≤ z) (h : z < n) (hr : rg z) : vp_in (Int32.ofInt z) n := by
  rw [vp_in_iff, o32 hr]
  exact ⟨h0, h⟩
