/-! the layout of the world: own choice of numbers -/
def shL : List (Nat × Nat) := [(0, 3), (1, 40), (1, 40), (1, 8), (0, 3), (1, 40), (1, 40), (1, 8), (0, 3), (1, 40), (1, 40), (1, 8), (0, 3), (1, 40), (1, 40), (1, 8), (0, 3), (1, 40), (1, 40), (1, 8), (0, 3), (1, 40), (1, 40), (1, 8), (0, 3), (1, 40), (1, 40), (1, 8), (0, 3), (1, 40), (1, 40), (1, 8), (0, 3), (1, 40), (1, 40), (1, 8), (0, 3), (1, 40), (1, 40), (1, 8), (0, 3), (1, 40), (1, 40), (1, 8), (0, 3), (1, 40), (1, 40), (1, 8), (0, 3), (1, 40), (1, 40), (1, 8), (0, 3), (1, 40), (1, 40), (1, 8), (0, 3), (1, 40), (1, 40), (1, 8), (0, 3), (1, 40), (1, 40), (1, 8), (0, 3), (1, 40), (1, 40), (1, 8), (0, 10), (4, 4), (0, 2), (4, 12), (1, 12), (0, 8), (1, 60), (1, 8), (0, 9), (1, 8), (1, 8), (5, 3), (0, 6), (0, 6), (0, 6), (0, 7), (3, 32), (0, 4), (2, 256), (1, 256), (0, 4), (2, 256), (1, 256), (0, 1), (1, 28), (1, 28), (1, 28), (1, 256), (1, 256), (0, 0), (1, 256), (3, 256), (0, 5), (1, 8), (1, 8), (0, 11), (1, 4), (1, 4), (1, 160), (1, 160), (1, 8), (1, 8), (1, 8), (1, 60), (1, 3936), (1, 3), (1, 3), (1, 3), (1, 40), (1, 40), (1, 40), (2, 256), (2, 256), (1, 8), (1, 8), (1, 28), (2, 256), (1, 80), (1, 80)]
def ftL : List (List Nat) := [[2, 2], [2, 2, 2, 0, 2, 2], [2, 2, 0, 0], [0, 0, 2, 2, 2], [2, 2, 0, 0], [2, 2], [0, 0, 0], [2, 0, 0], [2, 0], [0, 0, 2, 2], [2, 2, 2, 2, 2, 2, 2, 2, 2, 2, 2, 2, 2], [2, 2, 2, 2, 2, 2, 2, 0, 2, 0, 2, 0, 2, 2, 2, 2, 2, 2, 0, 0, 0, 2, 2, 2, 2, 0, 0, 0, 1, 2, 2, 2, 2, 0]]
def rfL : List (List Nat) := [[69, 16, 70, 73, 75, 76, 79, 83, 85, 88, 91, 97, 100], [], [71, 72], [], [], [74], [], [], [0, 0, 77, 78], [], [], [], [], [], [], [84], [], [86, 87], [], [], [89, 90], [], [], [92, 93, 94, 0, 95, 96], [], [], [], [], [], [98, 99], [], [], [101, 102], [], [], [104, 105, 106, 107, 108, 109, 110, 0, 111, 0, 112, 0, 113, 114, 115, 116, 117, 118, 0, 0, 0, 119, 120, 121, 122, 0, 0, 0, 0, 123, 124, 125, 126], [], [], [], [], [], [], [], [], [], [], [], [], [], [], [], [], [], [], [], [], [], [], []]
def rf (k j : Nat) : Nat := if k < 68 then k + (j - 1) else if k = 69 then 4 * j else if k = 71 then 20 + 4 * j else if k = 79 then 80 + j else (rfL.getD (k - 68) []).getD j 0
abbrev GG : Type := va_G × (Nat → Nat) × (Nat → ClassId)
def slotv (ad : Nat → Nat) (h : Hp) (k t j : Nat) : Value := match t with
  | 0 => .int (Int32.ofInt (h k j))
  | 1 => .long (Int64.ofInt (h k j))
  | _ => .ref (ad (rf k j))
def fsOf (ad : Nat → Nat) (h : Hp) (k ci : Nat) : List Value := (ftL.getD ci []).mapIdx (fun j t => slotv ad h k t j)
def cellE (G : GG) (h : Hp) (k : Nat) : va_E := match shL[k]? with
  | some (0, ci) => .inr (ci, fsOf G.2.1 h k ci)
  | some (1, n) => .inl (G.2.2 0, n, .inl (fun j => Int32.ofInt (h k j)))
  | some (2, n) => .inl (G.2.2 1, n, .inl (fun j => Int32.ofInt (h k j)))
  | some (3, n) => .inl (G.2.2 2, n, .inr (.inl (fun j => Int64.ofInt (h k j))))
  | some (4, n) => .inl (G.2.2 3, n, .inr (.inr (.inr (.inr (fun j => some (G.2.1 (rf k j)))))))
  | some (_, n) => .inl (G.2.2 4, n, .inr (.inr (.inr (.inr (fun j => some (G.2.1 (rf k j)))))))
  | none => .inr (0, [])
def ws (G : GG) (h : Hp) : va_W := (List.range 127).map (fun k => (G.2.1 k, cellE G h k))
def tys (G : GG) : List (ClassId × FieldType) := [(G.2.2 0, .int), (G.2.2 1, .boolean), (G.2.2 2, .long), (G.2.2 3, .object "ComparatorNetworks$Network"), (G.2.2 4, .object "ComparatorNetworks$Shelf")]
theorem shL_len : shL.length = 127 := by decide +kernel
theorem ws_at (G : GG) (h : Hp) {k : Nat} (hk : k < 127) : (ws G h)[k]? = some (G.2.1 k, cellE G h k) := by
  simp [ws, hk]
theorem ws_of {G : GG} {h : Hp} {k : Nat} {q : Nat × va_E} (hq : (ws G h)[k]? = some q) : k < 127 ∧ q = (G.2.1 k, cellE G h k) := by
  have hk : k < 127 := by
    have := (List.getElem?_eq_some_iff.mp hq).1
    simpa [ws] using this
  rw [ws_at G h hk] at hq
  exact ⟨hk, (Option.some.inj hq).symm⟩
theorem slotv_congr {ad : Nat → Nat} {h h' : Hp} {k : Nat} (e : ∀ j : Nat, h k j = h' k j) (t j : Nat) : slotv ad h k t j = slotv ad h' k t j := by
  unfold slotv
  split
  · rw [e]
  · rw [e]
  · rfl
theorem cellE_congr {G : GG} {h h' : Hp} {k : Nat} (e : ∀ j : Nat, h k j = h' k j) : cellE G h k = cellE G h' k := by
  have e1 : fsOf G.2.1 h k = fsOf G.2.1 h' k := by
    funext ci
    unfold fsOf
    congr 1
    funext j t
    exact slotv_congr e t j
  unfold cellE
  simp only [e1, e]
theorem up_ne {h : Hp} {a i v x y : Int} (hn : x ≠ a) : up h a i v x y = h x y := by
  unfold up
  rw [if_neg (fun q => hn q.1)]
theorem up_ne2 {h : Hp} {a i v x y : Int} (hn : y ≠ i) : up h a i v x y = h x y := by
  unfold up
  rw [if_neg (fun q => hn q.2)]
theorem up_eq {h : Hp} {a i v : Int} : up h a i v a i = v := by
  unfold up
  rw [if_pos ⟨rfl, rfl⟩]
theorem ws_set (G : GG) (h h' : Hp) {k : Nat} {e : va_E} (hk : k < 127) (he : cellE G h' k = e) (ho : ∀ x : Int, x ≠ k → ∀ y, h' x y = h x y) : (ws G h).set k (G.2.1 k, e) = ws G h' := by
  refine List.ext_getElem? fun n => ?_
  rw [List.getElem?_set]
  by_cases hn : n < 127
  · by_cases hnk : k = n
    · subst hnk
      rw [if_pos rfl, if_pos (by simp [ws, hk]), ws_at G h' hk, he]
    · rw [if_neg hnk, ws_at G h hn, ws_at G h' hn, cellE_congr (fun j => (ho n (by omega) j).symm)]
  · rw [if_neg (by omega)]
    simp [ws, hn]
/-- the cell at an abstract address is of a kind: 0 object (n its class), 1 int[], 2 boolean[], 3 long[], 4 Network[], 5 Shelf[] (n the length) -/
def isC (a : Int) (t n : Nat) : Prop := 0 ≤ a ∧ shL[a.toNat]? = some (t, n)
theorem isC.lt {a : Int} {t n : Nat} (h : isC a t n) : a.toNat < 127 := by
  have := (List.getElem?_eq_some_iff.mp h.2).1
  rw [shL_len] at this
  exact this
theorem isC.nn {a : Int} {t n : Nat} (h : isC a t n) : ((a.toNat : Nat) : Int) = a := Int.toNat_of_nonneg h.1
/-- links of fields: class ci, field j, of slot kind t, in the code of class own -/
def FL (own : String) (idx ci j t : Nat) : Prop := ∃ (C : String) (T : u_T) (N : Nat), vwCl[ci]? = some (C, T, N) ∧ (∀ w ∈ u_ws C T N, w ∈ gtb) ∧ j < N ∧ Cond.fieldLink own idx (T j).1 (T j).2.1 (T j).2.2.1 ∈ gtb ∧ (ftL.getD ci [])[j]? = some t
def FP (own : String) (idx ci j t : Nat) (ty : FieldType) : Prop := ∃ (C : String) (T : u_T) (N : Nat) (ty0 : Nat → FieldType), vwCl[ci]? = some (C, T, N) ∧ (∀ w ∈ u_ws C T N, w ∈ gtb) ∧ j < N ∧ Cond.fieldLink own idx (T j).1 (T j).2.1 (T j).2.2.1 ∈ gtb ∧ (ftL.getD ci [])[j]? = some t ∧ (∀ k, k < N → parseFieldDescriptor (T k).2.2.1 = some (ty0 k)) ∧ (∀ a, a < N → ∀ b, b < N → a ≠ b → (T a).2.1 ≠ (T b).2.1) ∧ (T j).2.2.2 = false ∧ ty0 j = ty
theorem FX3_9 : FL RX3 9 3 0 0 := ⟨RX3, TX3, 5, rfl, i_X3, by decide, gX3_9, rfl⟩
theorem PX3_9 : FP RX3 9 3 0 0 .int := ⟨RX3, TX3, 5, tyX3, rfl, i_X3, by decide, gX3_9, rfl, tyX3_ok, nmX3, rfl, rfl⟩
theorem FX9_26 : FL RX9 26 3 0 0 := ⟨RX3, TX3, 5, rfl, i_X3, by decide, gX9_26, rfl⟩
theorem FX10_108 : FL RX10 108 3 0 0 := ⟨RX3, TX3, 5, rfl, i_X3, by decide, gX10_108, rfl⟩
theorem FX7_31 : FL RX7 31 3 0 0 := ⟨RX3, TX3, 5, rfl, i_X3, by decide, gX7_31, rfl⟩
theorem FX0_47 : FL RX0 47 3 0 0 := ⟨RX3, TX3, 5, rfl, i_X3, by decide, gX0_47, rfl⟩
theorem FX6_31 : FL RX6 31 3 0 0 := ⟨RX3, TX3, 5, rfl, i_X3, by decide, gX6_31, rfl⟩
theorem FX3_15 : FL RX3 15 3 1 0 := ⟨RX3, TX3, 5, rfl, i_X3, by decide, gX3_15, rfl⟩
theorem PX3_15 : FP RX3 15 3 1 0 .int := ⟨RX3, TX3, 5, tyX3, rfl, i_X3, by decide, gX3_15, rfl, tyX3_ok, nmX3, rfl, rfl⟩
theorem FX5_18 : FL RX5 18 3 1 0 := ⟨RX3, TX3, 5, rfl, i_X3, by decide, gX5_18, rfl⟩
theorem FX10_101 : FL RX10 101 3 1 0 := ⟨RX3, TX3, 5, rfl, i_X3, by decide, gX10_101, rfl⟩
theorem FX9_29 : FL RX9 29 3 1 0 := ⟨RX3, TX3, 5, rfl, i_X3, by decide, gX9_29, rfl⟩
theorem FX7_38 : FL RX7 38 3 1 0 := ⟨RX3, TX3, 5, rfl, i_X3, by decide, gX7_38, rfl⟩
theorem FX3_18 : FL RX3 18 3 2 2 := ⟨RX3, TX3, 5, rfl, i_X3, by decide, gX3_18, rfl⟩
theorem FX5_30 : FL RX5 30 3 2 2 := ⟨RX3, TX3, 5, rfl, i_X3, by decide, gX5_30, rfl⟩
theorem FX9_32 : FL RX9 32 3 2 2 := ⟨RX3, TX3, 5, rfl, i_X3, by decide, gX9_32, rfl⟩
theorem FX7_41 : FL RX7 41 3 2 2 := ⟨RX3, TX3, 5, rfl, i_X3, by decide, gX7_41, rfl⟩
theorem FX10_215 : FL RX10 215 3 2 2 := ⟨RX3, TX3, 5, rfl, i_X3, by decide, gX10_215, rfl⟩
theorem FX3_22 : FL RX3 22 3 3 2 := ⟨RX3, TX3, 5, rfl, i_X3, by decide, gX3_22, rfl⟩
theorem FX5_37 : FL RX5 37 3 3 2 := ⟨RX3, TX3, 5, rfl, i_X3, by decide, gX5_37, rfl⟩
theorem FX9_35 : FL RX9 35 3 3 2 := ⟨RX3, TX3, 5, rfl, i_X3, by decide, gX9_35, rfl⟩
theorem FX7_45 : FL RX7 45 3 3 2 := ⟨RX3, TX3, 5, rfl, i_X3, by decide, gX7_45, rfl⟩
theorem FX10_218 : FL RX10 218 3 3 2 := ⟨RX3, TX3, 5, rfl, i_X3, by decide, gX10_218, rfl⟩
theorem FX3_25 : FL RX3 25 3 4 2 := ⟨RX3, TX3, 5, rfl, i_X3, by decide, gX3_25, rfl⟩
theorem FX2_11 : FL RX2 11 2 0 2 := ⟨RX2, TX2, 4, rfl, i_X2, by decide, gX2_11, rfl⟩
theorem FX2_17 : FL RX2 17 2 1 2 := ⟨RX2, TX2, 4, rfl, i_X2, by decide, gX2_17, rfl⟩
theorem FX2_21 : FL RX2 21 2 2 0 := ⟨RX2, TX2, 4, rfl, i_X2, by decide, gX2_21, rfl⟩
theorem PX2_21 : FP RX2 21 2 2 0 .int := ⟨RX2, TX2, 4, tyX2, rfl, i_X2, by decide, gX2_21, rfl, tyX2_ok, nmX2, rfl, rfl⟩
theorem FX2_25 : FL RX2 25 2 3 0 := ⟨RX2, TX2, 4, rfl, i_X2, by decide, gX2_25, rfl⟩
theorem PX2_25 : FP RX2 25 2 3 0 .int := ⟨RX2, TX2, 4, tyX2, rfl, i_X2, by decide, gX2_25, rfl, tyX2_ok, nmX2, rfl, rfl⟩
theorem FX8_9 : FL RX8 9 8 0 2 := ⟨RX8, TX8, 2, rfl, i_X8, by decide, gX8_9, rfl⟩
theorem FX8_15 : FL RX8 15 8 1 0 := ⟨RX8, TX8, 2, rfl, i_X8, by decide, gX8_15, rfl⟩
theorem PX8_15 : FP RX8 15 8 1 0 .int := ⟨RX8, TX8, 2, tyX8, rfl, i_X8, by decide, gX8_15, rfl, tyX8_ok, nmX8, rfl, rfl⟩
theorem FX9_9 : FL RX9 9 9 0 0 := ⟨RX9, TX9, 4, rfl, i_X9, by decide, gX9_9, rfl⟩
theorem PX9_9 : FP RX9 9 9 0 0 .boolean := ⟨RX9, TX9, 4, tyX9, rfl, i_X9, by decide, gX9_9, rfl, tyX9_ok, nmX9, rfl, rfl⟩
theorem FX10_150 : FL RX10 150 9 0 0 := ⟨RX9, TX9, 4, rfl, i_X9, by decide, gX10_150, rfl⟩
theorem FX9_15 : FL RX9 15 9 1 0 := ⟨RX9, TX9, 4, rfl, i_X9, by decide, gX9_15, rfl⟩
theorem PX9_15 : FP RX9 15 9 1 0 .int := ⟨RX9, TX9, 4, tyX9, rfl, i_X9, by decide, gX9_15, rfl, tyX9_ok, nmX9, rfl, rfl⟩
theorem FX9_19 : FL RX9 19 9 2 2 := ⟨RX9, TX9, 4, rfl, i_X9, by decide, gX9_19, rfl⟩
theorem FX10_157 : FL RX10 157 9 2 2 := ⟨RX9, TX9, 4, rfl, i_X9, by decide, gX10_157, rfl⟩
theorem FX9_23 : FL RX9 23 9 3 2 := ⟨RX9, TX9, 4, rfl, i_X9, by decide, gX9_23, rfl⟩
theorem FX10_160 : FL RX10 160 9 3 2 := ⟨RX9, TX9, 4, rfl, i_X9, by decide, gX10_160, rfl⟩
theorem FX6_11 : FL RX6 11 6 0 0 := ⟨RX6, TX6, 3, rfl, i_X6, by decide, gX6_11, rfl⟩
theorem PX6_11 : FP RX6 11 6 0 0 .int := ⟨RX6, TX6, 3, tyX6, rfl, i_X6, by decide, gX6_11, rfl, tyX6_ok, nmX6, rfl, rfl⟩
theorem FX10_313 : FL RX10 313 6 0 0 := ⟨RX6, TX6, 3, rfl, i_X6, by decide, gX10_313, rfl⟩
theorem FX6_15 : FL RX6 15 6 1 0 := ⟨RX6, TX6, 3, rfl, i_X6, by decide, gX6_15, rfl⟩
theorem PX6_15 : FP RX6 15 6 1 0 .int := ⟨RX6, TX6, 3, tyX6, rfl, i_X6, by decide, gX6_15, rfl, tyX6_ok, nmX6, rfl, rfl⟩
theorem FX6_18 : FL RX6 18 6 2 0 := ⟨RX6, TX6, 3, rfl, i_X6, by decide, gX6_18, rfl⟩
theorem PX6_18 : FP RX6 18 6 2 0 .int := ⟨RX6, TX6, 3, tyX6, rfl, i_X6, by decide, gX6_18, rfl, tyX6_ok, nmX6, rfl, rfl⟩
theorem FX7_11 : FL RX7 11 7 0 2 := ⟨RX7, TX7, 3, rfl, i_X7, by decide, gX7_11, rfl⟩
theorem FX7_15 : FL RX7 15 7 1 0 := ⟨RX7, TX7, 3, rfl, i_X7, by decide, gX7_15, rfl⟩
theorem PX7_15 : FP RX7 15 7 1 0 .int := ⟨RX7, TX7, 3, tyX7, rfl, i_X7, by decide, gX7_15, rfl, tyX7_ok, nmX7, rfl, rfl⟩
theorem FX4_26 : FL RX4 26 7 1 0 := ⟨RX7, TX7, 3, rfl, i_X7, by decide, gX4_26, rfl⟩
theorem FX0_19 : FL RX0 19 7 1 0 := ⟨RX7, TX7, 3, rfl, i_X7, by decide, gX0_19, rfl⟩
theorem FX7_19 : FL RX7 19 7 2 0 := ⟨RX7, TX7, 3, rfl, i_X7, by decide, gX7_19, rfl⟩
theorem PX7_19 : FP RX7 19 7 2 0 .int := ⟨RX7, TX7, 3, tyX7, rfl, i_X7, by decide, gX7_19, rfl, tyX7_ok, nmX7, rfl, rfl⟩
theorem FX4_9 : FL RX4 9 4 0 2 := ⟨RX4, TX4, 4, rfl, i_X4, by decide, gX4_9, rfl⟩
theorem FX5_57 : FL RX5 57 4 0 2 := ⟨RX4, TX4, 4, rfl, i_X4, by decide, gX5_57, rfl⟩
theorem FX4_15 : FL RX4 15 4 1 2 := ⟨RX4, TX4, 4, rfl, i_X4, by decide, gX4_15, rfl⟩
theorem FX1_45 : FL RX1 45 4 1 2 := ⟨RX4, TX4, 4, rfl, i_X4, by decide, gX1_45, rfl⟩
theorem FX5_54 : FL RX5 54 4 1 2 := ⟨RX4, TX4, 4, rfl, i_X4, by decide, gX5_54, rfl⟩
theorem FX4_19 : FL RX4 19 4 2 0 := ⟨RX4, TX4, 4, rfl, i_X4, by decide, gX4_19, rfl⟩
theorem PX4_19 : FP RX4 19 4 2 0 .int := ⟨RX4, TX4, 4, tyX4, rfl, i_X4, by decide, gX4_19, rfl, tyX4_ok, nmX4, rfl, rfl⟩
theorem FX1_31 : FL RX1 31 4 2 0 := ⟨RX4, TX4, 4, rfl, i_X4, by decide, gX1_31, rfl⟩
theorem FX5_44 : FL RX5 44 4 2 0 := ⟨RX4, TX4, 4, rfl, i_X4, by decide, gX5_44, rfl⟩
theorem FX4_23 : FL RX4 23 4 3 0 := ⟨RX4, TX4, 4, rfl, i_X4, by decide, gX4_23, rfl⟩
theorem PX4_23 : FP RX4 23 4 3 0 .int := ⟨RX4, TX4, 4, tyX4, rfl, i_X4, by decide, gX4_23, rfl, tyX4_ok, nmX4, rfl, rfl⟩
theorem FX5_53 : FL RX5 53 4 3 0 := ⟨RX4, TX4, 4, rfl, i_X4, by decide, gX5_53, rfl⟩
theorem FX1_44 : FL RX1 44 4 3 0 := ⟨RX4, TX4, 4, rfl, i_X4, by decide, gX1_44, rfl⟩
theorem FX10_175 : FL RX10 175 4 3 0 := ⟨RX4, TX4, 4, rfl, i_X4, by decide, gX10_175, rfl⟩
theorem FX1_9 : FL RX1 9 1 0 2 := ⟨RX1, TX1, 6, rfl, i_X1, by decide, gX1_9, rfl⟩
theorem FX10_252 : FL RX10 252 1 0 2 := ⟨RX1, TX1, 6, rfl, i_X1, by decide, gX10_252, rfl⟩
theorem FX1_15 : FL RX1 15 1 1 2 := ⟨RX1, TX1, 6, rfl, i_X1, by decide, gX1_15, rfl⟩
theorem FX10_255 : FL RX10 255 1 1 2 := ⟨RX1, TX1, 6, rfl, i_X1, by decide, gX10_255, rfl⟩
theorem FX1_18 : FL RX1 18 1 2 2 := ⟨RX1, TX1, 6, rfl, i_X1, by decide, gX1_18, rfl⟩
theorem FX1_21 : FL RX1 21 1 3 0 := ⟨RX1, TX1, 6, rfl, i_X1, by decide, gX1_21, rfl⟩
theorem PX1_21 : FP RX1 21 1 3 0 .int := ⟨RX1, TX1, 6, tyX1, rfl, i_X1, by decide, gX1_21, rfl, tyX1_ok, nmX1, rfl, rfl⟩
theorem FX1_25 : FL RX1 25 1 4 2 := ⟨RX1, TX1, 6, rfl, i_X1, by decide, gX1_25, rfl⟩
theorem FX1_28 : FL RX1 28 1 5 2 := ⟨RX1, TX1, 6, rfl, i_X1, by decide, gX1_28, rfl⟩
theorem FX0_9 : FL RX0 9 0 0 2 := ⟨RX0, TX0, 2, rfl, i_X0, by decide, gX0_9, rfl⟩
theorem FX0_15 : FL RX0 15 0 1 2 := ⟨RX0, TX0, 2, rfl, i_X0, by decide, gX0_15, rfl⟩
theorem FX5_9 : FL RX5 9 5 0 2 := ⟨RX5, TX5, 2, rfl, i_X5, by decide, gX5_9, rfl⟩
theorem FX5_15 : FL RX5 15 5 1 2 := ⟨RX5, TX5, 2, rfl, i_X5, by decide, gX5_15, rfl⟩
theorem FX10_11 : FL RX10 11 10 0 2 := ⟨RX10, TX10, 13, rfl, i_X10, by decide, gX10_11, rfl⟩
theorem FX10_16 : FL RX10 16 10 1 2 := ⟨RX10, TX10, 13, rfl, i_X10, by decide, gX10_16, rfl⟩
theorem FX10_23 : FL RX10 23 10 2 2 := ⟨RX10, TX10, 13, rfl, i_X10, by decide, gX10_23, rfl⟩
theorem FX10_30 : FL RX10 30 10 3 2 := ⟨RX10, TX10, 13, rfl, i_X10, by decide, gX10_30, rfl⟩
theorem FX10_34 : FL RX10 34 10 4 2 := ⟨RX10, TX10, 13, rfl, i_X10, by decide, gX10_34, rfl⟩
theorem FX10_41 : FL RX10 41 10 5 2 := ⟨RX10, TX10, 13, rfl, i_X10, by decide, gX10_41, rfl⟩
theorem FX10_47 : FL RX10 47 10 6 2 := ⟨RX10, TX10, 13, rfl, i_X10, by decide, gX10_47, rfl⟩
theorem FX10_55 : FL RX10 55 10 7 2 := ⟨RX10, TX10, 13, rfl, i_X10, by decide, gX10_55, rfl⟩
theorem FX10_62 : FL RX10 62 10 8 2 := ⟨RX10, TX10, 13, rfl, i_X10, by decide, gX10_62, rfl⟩
theorem FX10_66 : FL RX10 66 10 9 2 := ⟨RX10, TX10, 13, rfl, i_X10, by decide, gX10_66, rfl⟩
theorem FX10_72 : FL RX10 72 10 10 2 := ⟨RX10, TX10, 13, rfl, i_X10, by decide, gX10_72, rfl⟩
theorem FX10_79 : FL RX10 79 10 11 2 := ⟨RX10, TX10, 13, rfl, i_X10, by decide, gX10_79, rfl⟩
theorem FX10_86 : FL RX10 86 10 12 2 := ⟨RX10, TX10, 13, rfl, i_X10, by decide, gX10_86, rfl⟩
theorem FX11_9 : FL RX11 9 11 0 2 := ⟨RX11, TX11, 34, rfl, i_X11, by decide, gX11_9, rfl⟩
theorem FX11_13 : FL RX11 13 11 1 2 := ⟨RX11, TX11, 34, rfl, i_X11, by decide, gX11_13, rfl⟩
theorem FX11_16 : FL RX11 16 11 2 2 := ⟨RX11, TX11, 34, rfl, i_X11, by decide, gX11_16, rfl⟩
theorem FX11_19 : FL RX11 19 11 3 2 := ⟨RX11, TX11, 34, rfl, i_X11, by decide, gX11_19, rfl⟩
theorem FX11_22 : FL RX11 22 11 4 2 := ⟨RX11, TX11, 34, rfl, i_X11, by decide, gX11_22, rfl⟩
theorem FX11_25 : FL RX11 25 11 5 2 := ⟨RX11, TX11, 34, rfl, i_X11, by decide, gX11_25, rfl⟩
theorem FX11_28 : FL RX11 28 11 6 2 := ⟨RX11, TX11, 34, rfl, i_X11, by decide, gX11_28, rfl⟩
theorem FX11_146 : FL RX11 146 11 7 0 := ⟨RX11, TX11, 34, rfl, i_X11, by decide, gX11_146, rfl⟩
theorem PX11_146 : FP RX11 146 11 7 0 .int := ⟨RX11, TX11, 34, tyX11, rfl, i_X11, by decide, gX11_146, rfl, tyX11_ok, nmX11, rfl, rfl⟩
theorem FX11_31 : FL RX11 31 11 8 2 := ⟨RX11, TX11, 34, rfl, i_X11, by decide, gX11_31, rfl⟩
theorem FX11_122 : FL RX11 122 11 9 0 := ⟨RX11, TX11, 34, rfl, i_X11, by decide, gX11_122, rfl⟩
theorem PX11_122 : FP RX11 122 11 9 0 .int := ⟨RX11, TX11, 34, tyX11, rfl, i_X11, by decide, gX11_122, rfl, tyX11_ok, nmX11, rfl, rfl⟩
theorem FX11_34 : FL RX11 34 11 10 2 := ⟨RX11, TX11, 34, rfl, i_X11, by decide, gX11_34, rfl⟩
theorem FX11_84 : FL RX11 84 11 11 0 := ⟨RX11, TX11, 34, rfl, i_X11, by decide, gX11_84, rfl⟩
theorem PX11_84 : FP RX11 84 11 11 0 .int := ⟨RX11, TX11, 34, tyX11, rfl, i_X11, by decide, gX11_84, rfl, tyX11_ok, nmX11, rfl, rfl⟩
theorem FX11_37 : FL RX11 37 11 12 2 := ⟨RX11, TX11, 34, rfl, i_X11, by decide, gX11_37, rfl⟩
theorem FX11_40 : FL RX11 40 11 13 2 := ⟨RX11, TX11, 34, rfl, i_X11, by decide, gX11_40, rfl⟩
theorem FX11_43 : FL RX11 43 11 14 2 := ⟨RX11, TX11, 34, rfl, i_X11, by decide, gX11_43, rfl⟩
theorem FX11_46 : FL RX11 46 11 15 2 := ⟨RX11, TX11, 34, rfl, i_X11, by decide, gX11_46, rfl⟩
theorem FX11_49 : FL RX11 49 11 16 2 := ⟨RX11, TX11, 34, rfl, i_X11, by decide, gX11_49, rfl⟩
theorem FX11_52 : FL RX11 52 11 17 2 := ⟨RX11, TX11, 34, rfl, i_X11, by decide, gX11_52, rfl⟩
theorem FX11_125 : FL RX11 125 11 18 0 := ⟨RX11, TX11, 34, rfl, i_X11, by decide, gX11_125, rfl⟩
theorem PX11_125 : FP RX11 125 11 18 0 .int := ⟨RX11, TX11, 34, tyX11, rfl, i_X11, by decide, gX11_125, rfl, tyX11_ok, nmX11, rfl, rfl⟩
theorem FX11_136 : FL RX11 136 11 19 0 := ⟨RX11, TX11, 34, rfl, i_X11, by decide, gX11_136, rfl⟩
theorem PX11_136 : FP RX11 136 11 19 0 .int := ⟨RX11, TX11, 34, tyX11, rfl, i_X11, by decide, gX11_136, rfl, tyX11_ok, nmX11, rfl, rfl⟩
theorem FX11_132 : FL RX11 132 11 20 0 := ⟨RX11, TX11, 34, rfl, i_X11, by decide, gX11_132, rfl⟩
theorem PX11_132 : FP RX11 132 11 20 0 .boolean := ⟨RX11, TX11, 34, tyX11, rfl, i_X11, by decide, gX11_132, rfl, tyX11_ok, nmX11, rfl, rfl⟩
theorem FX11_55 : FL RX11 55 11 21 2 := ⟨RX11, TX11, 34, rfl, i_X11, by decide, gX11_55, rfl⟩
theorem FX11_59 : FL RX11 59 11 22 2 := ⟨RX11, TX11, 34, rfl, i_X11, by decide, gX11_59, rfl⟩
theorem FX11_62 : FL RX11 62 11 23 2 := ⟨RX11, TX11, 34, rfl, i_X11, by decide, gX11_62, rfl⟩
theorem FX11_65 : FL RX11 65 11 24 2 := ⟨RX11, TX11, 34, rfl, i_X11, by decide, gX11_65, rfl⟩
theorem FX11_168 : FL RX11 168 11 25 0 := ⟨RX11, TX11, 34, rfl, i_X11, by decide, gX11_168, rfl⟩
theorem PX11_168 : FP RX11 168 11 25 0 .int := ⟨RX11, TX11, 34, tyX11, rfl, i_X11, by decide, gX11_168, rfl, tyX11_ok, nmX11, rfl, rfl⟩
theorem FX11_171 : FL RX11 171 11 26 0 := ⟨RX11, TX11, 34, rfl, i_X11, by decide, gX11_171, rfl⟩
theorem PX11_171 : FP RX11 171 11 26 0 .int := ⟨RX11, TX11, 34, tyX11, rfl, i_X11, by decide, gX11_171, rfl, tyX11_ok, nmX11, rfl, rfl⟩
theorem FX11_174 : FL RX11 174 11 27 0 := ⟨RX11, TX11, 34, rfl, i_X11, by decide, gX11_174, rfl⟩
theorem PX11_174 : FP RX11 174 11 27 0 .int := ⟨RX11, TX11, 34, tyX11, rfl, i_X11, by decide, gX11_174, rfl, tyX11_ok, nmX11, rfl, rfl⟩
theorem FX11_177 : FL RX11 177 11 28 1 := ⟨RX11, TX11, 34, rfl, i_X11, by decide, gX11_177, rfl⟩
theorem PX11_177 : FP RX11 177 11 28 1 .long := ⟨RX11, TX11, 34, tyX11, rfl, i_X11, by decide, gX11_177, rfl, tyX11_ok, nmX11, rfl, rfl⟩
theorem FX11_68 : FL RX11 68 11 29 2 := ⟨RX11, TX11, 34, rfl, i_X11, by decide, gX11_68, rfl⟩
theorem FX11_71 : FL RX11 71 11 30 2 := ⟨RX11, TX11, 34, rfl, i_X11, by decide, gX11_71, rfl⟩
theorem FX11_74 : FL RX11 74 11 31 2 := ⟨RX11, TX11, 34, rfl, i_X11, by decide, gX11_74, rfl⟩
theorem FX11_77 : FL RX11 77 11 32 2 := ⟨RX11, TX11, 34, rfl, i_X11, by decide, gX11_77, rfl⟩
theorem FX11_233 : FL RX11 233 11 33 0 := ⟨RX11, TX11, 34, rfl, i_X11, by decide, gX11_233, rfl⟩
theorem PX11_233 : FP RX11 233 11 33 0 .int := ⟨RX11, TX11, 34, tyX11, rfl, i_X11, by decide, gX11_233, rfl, tyX11_ok, nmX11, rfl, rfl⟩
