abbrev rj (z : Int) : Prop := -2147483648 ≤ z ∧ z < 2147483648
abbrev ix (i n : Int) : Prop := 0 ≤ i ∧ i < n
abbrev nA (a : Int) : Prop := 0 ≤ a ∧ a ≤ 64 ∧ a % 4 = 0
abbrev sA (a : Int) : Prop := 80 ≤ a ∧ a ≤ 82
abbrev rowA (a : Int) : Prop := a = 77 ∨ a = 78
abbrev unsA (a : Int) : Prop := a = 95 ∨ a = 96
abbrev setA (a : Int) : Prop := a = 119 ∨ a = 120 ∨ a = 124
abbrev filA (a : Int) : Prop := a = 101 ∨ a = 102 ∨ 0 ≤ a ∧ a ≤ 67 ∧ a % 4 = 3
abbrev oA (a : Int) : Prop := a = 85 ∨ a = 88
theorem rg_of {z : Int} (h : decide (-2147483648 ≤ z ∧ z < 2147483648) = true) : rg z := show -2147483648 ≤ z ∧ z < 2147483648 from of_decide_eq_true h
theorem rgI {z : Int} (h : -2147483648 ≤ z ∧ z < 2147483648) : rg z := h
theorem ite0 {c : Prop} [Decidable c] (h : (if c then (1 : Int) else 0) = 0) : ¬ c := fun q => by rw [if_pos q] at h; cases h
theorem ite1 {c : Prop} [Decidable c] (h : ¬ (if c then (1 : Int) else 0) = 0) : c := by
  by_cases q : c
  · exact q
  · exact absurd (if_neg q) h
theorem ite1' {c : Prop} [Decidable c] (h : (if c then (1 : Int) else 0) ≠ 0) : c := ite1 h
theorem b01 (c : Prop) [Decidable c] : (if c then (1 : Int) else 0) = 0 ∨ (if c then (1 : Int) else 0) = 1 := by
  by_cases q : c
  · exact Or.inr (if_pos q)
  · exact Or.inl (if_neg q)
theorem ite_if {c d : Prop} [Decidable c] [Decidable d] (h1 : c → d) (h2 : d → c) : (if c then (1 : Int) else 0) = if d then 1 else 0 := by
  by_cases q : c
  · rw [if_pos q, if_pos (h1 q)]
  · rw [if_neg q, if_neg (fun z => q (h2 z))]
section EW
variable {d : Nat} {M : MD} {pc : Nat} {lv : List (Nat × AV)} {st : List AV} {h : Hp} {Q : Option AV → Hp → Prop}
theorem E_top {x y : Int} (e : x = y) (k : E d M pc lv (vi y :: st) h Q) : E d M pc lv (vi x :: st) h Q := e ▸ k
theorem E_gI (j : Nat) (jz : Int) {a : Int} {ci idx : Nat} (hd : decode M.2.1 pc = .ok (.getfield idx, 3)) (hf : FL M.1.cls idx ci j 0) (ha : isC a 0 ci) (hz : ((j : Nat) : Int) = jz) (k : E d M (pc + 3) lv (vi (h a jz) :: st) h Q) : E d M pc lv (vr a :: st) h Q := by subst hz; exact E_getI hd hf ha k
theorem E_gL (j : Nat) (jz : Int) {a : Int} {ci idx : Nat} (hd : decode M.2.1 pc = .ok (.getfield idx, 3)) (hf : FL M.1.cls idx ci j 1) (ha : isC a 0 ci) (hz : ((j : Nat) : Int) = jz) (k : E d M (pc + 3) lv (vl (h a jz) :: st) h Q) : E d M pc lv (vr a :: st) h Q := by subst hz; exact E_getL hd hf ha k
theorem E_gR (b : Int) (j : Nat) {a : Int} {ci idx : Nat} (hd : decode M.2.1 pc = .ok (.getfield idx, 3)) (hf : FL M.1.cls idx ci j 2) (ha : isC a 0 ci) (hb : rfI a j = b) (k : E d M (pc + 3) lv (vr b :: st) h Q) : E d M pc lv (vr a :: st) h Q := E_getR hd hf ha hb k
theorem E_pI (j : Nat) (jz : Int) {a v : Int} {ci idx : Nat} (hd : decode M.2.1 pc = .ok (.putfield idx, 3)) (hf : FP M.1.cls idx ci j 0 .int) (ha : isC a 0 ci) (hz : ((j : Nat) : Int) = jz) (k : E d M (pc + 3) lv st (up h a jz v) Q) : E d M pc lv (vi v :: vr a :: st) h Q := by subst hz; exact E_putI hd hf ha k
theorem E_pZ (j : Nat) (jz : Int) {a v : Int} {ci idx : Nat} (hd : decode M.2.1 pc = .ok (.putfield idx, 3)) (hf : FP M.1.cls idx ci j 0 .boolean) (ha : isC a 0 ci) (hz : ((j : Nat) : Int) = jz) (hv : v = 0 ∨ v = 1) (k : E d M (pc + 3) lv st (up h a jz v) Q) : E d M pc lv (vi v :: vr a :: st) h Q := by subst hz; exact E_putZ hd hf ha hv k
theorem E_pL (j : Nat) (jz : Int) {a v : Int} {ci idx : Nat} (hd : decode M.2.1 pc = .ok (.putfield idx, 3)) (hf : FP M.1.cls idx ci j 1 .long) (ha : isC a 0 ci) (hz : ((j : Nat) : Int) = jz) (k : E d M (pc + 3) lv st (up h a jz v) Q) : E d M pc lv (vl v :: vr a :: st) h Q := by subst hz; exact E_putL hd hf ha k
theorem E_len (nz : Int) {a : Int} {n : Nat} (hd : decode M.2.1 pc = .ok (.arraylength, 1)) (ha : isC a 1 n) (hn : n < 2147483648) (hz : ((n : Nat) : Int) = nz) (k : E d M (pc + 1) lv (vi nz :: st) h Q) : E d M pc lv (vr a :: st) h Q := by subst hz; exact E_arraylength hd ha hn k
theorem E_lenN (nz : Int) {a : Int} {n : Nat} (hd : decode M.2.1 pc = .ok (.arraylength, 1)) (ha : isC a 4 n) (hn : n < 2147483648) (hz : ((n : Nat) : Int) = nz) (k : E d M (pc + 1) lv (vi nz :: st) h Q) : E d M pc lv (vr a :: st) h Q := by subst hz; exact E_arraylengthN hd ha hn k
theorem E_lc (z : Int) {n : Fin 2} (hd : decode M.2.1 pc = .ok (.lconst n, 1)) (hz : ((n : Nat) : Int) = z) (k : E d M (pc + 1) lv (vl z :: st) h Q) : E d M pc lv st h Q := by subst hz; exact E_lconst hd k
end EW
theorem ic_0 : isC 0 0 3 := ⟨by decide, by decide +kernel⟩
theorem ic_1 : isC 1 1 40 := ⟨by decide, by decide +kernel⟩
theorem ic_2 : isC 2 1 40 := ⟨by decide, by decide +kernel⟩
theorem ic_3 : isC 3 1 8 := ⟨by decide, by decide +kernel⟩
theorem ic_4 : isC 4 0 3 := ⟨by decide, by decide +kernel⟩
theorem ic_5 : isC 5 1 40 := ⟨by decide, by decide +kernel⟩
theorem ic_6 : isC 6 1 40 := ⟨by decide, by decide +kernel⟩
theorem ic_7 : isC 7 1 8 := ⟨by decide, by decide +kernel⟩
theorem ic_8 : isC 8 0 3 := ⟨by decide, by decide +kernel⟩
theorem ic_9 : isC 9 1 40 := ⟨by decide, by decide +kernel⟩
theorem ic_10 : isC 10 1 40 := ⟨by decide, by decide +kernel⟩
theorem ic_11 : isC 11 1 8 := ⟨by decide, by decide +kernel⟩
theorem ic_12 : isC 12 0 3 := ⟨by decide, by decide +kernel⟩
theorem ic_13 : isC 13 1 40 := ⟨by decide, by decide +kernel⟩
theorem ic_14 : isC 14 1 40 := ⟨by decide, by decide +kernel⟩
theorem ic_15 : isC 15 1 8 := ⟨by decide, by decide +kernel⟩
theorem ic_16 : isC 16 0 3 := ⟨by decide, by decide +kernel⟩
theorem ic_17 : isC 17 1 40 := ⟨by decide, by decide +kernel⟩
theorem ic_18 : isC 18 1 40 := ⟨by decide, by decide +kernel⟩
theorem ic_19 : isC 19 1 8 := ⟨by decide, by decide +kernel⟩
theorem ic_20 : isC 20 0 3 := ⟨by decide, by decide +kernel⟩
theorem ic_21 : isC 21 1 40 := ⟨by decide, by decide +kernel⟩
theorem ic_22 : isC 22 1 40 := ⟨by decide, by decide +kernel⟩
theorem ic_23 : isC 23 1 8 := ⟨by decide, by decide +kernel⟩
theorem ic_24 : isC 24 0 3 := ⟨by decide, by decide +kernel⟩
theorem ic_25 : isC 25 1 40 := ⟨by decide, by decide +kernel⟩
theorem ic_26 : isC 26 1 40 := ⟨by decide, by decide +kernel⟩
theorem ic_27 : isC 27 1 8 := ⟨by decide, by decide +kernel⟩
theorem ic_28 : isC 28 0 3 := ⟨by decide, by decide +kernel⟩
theorem ic_29 : isC 29 1 40 := ⟨by decide, by decide +kernel⟩
theorem ic_30 : isC 30 1 40 := ⟨by decide, by decide +kernel⟩
theorem ic_31 : isC 31 1 8 := ⟨by decide, by decide +kernel⟩
theorem ic_32 : isC 32 0 3 := ⟨by decide, by decide +kernel⟩
theorem ic_33 : isC 33 1 40 := ⟨by decide, by decide +kernel⟩
theorem ic_34 : isC 34 1 40 := ⟨by decide, by decide +kernel⟩
theorem ic_35 : isC 35 1 8 := ⟨by decide, by decide +kernel⟩
theorem ic_36 : isC 36 0 3 := ⟨by decide, by decide +kernel⟩
theorem ic_37 : isC 37 1 40 := ⟨by decide, by decide +kernel⟩
theorem ic_38 : isC 38 1 40 := ⟨by decide, by decide +kernel⟩
theorem ic_39 : isC 39 1 8 := ⟨by decide, by decide +kernel⟩
theorem ic_40 : isC 40 0 3 := ⟨by decide, by decide +kernel⟩
theorem ic_41 : isC 41 1 40 := ⟨by decide, by decide +kernel⟩
theorem ic_42 : isC 42 1 40 := ⟨by decide, by decide +kernel⟩
theorem ic_43 : isC 43 1 8 := ⟨by decide, by decide +kernel⟩
theorem ic_44 : isC 44 0 3 := ⟨by decide, by decide +kernel⟩
theorem ic_45 : isC 45 1 40 := ⟨by decide, by decide +kernel⟩
theorem ic_46 : isC 46 1 40 := ⟨by decide, by decide +kernel⟩
theorem ic_47 : isC 47 1 8 := ⟨by decide, by decide +kernel⟩
theorem ic_48 : isC 48 0 3 := ⟨by decide, by decide +kernel⟩
theorem ic_49 : isC 49 1 40 := ⟨by decide, by decide +kernel⟩
theorem ic_50 : isC 50 1 40 := ⟨by decide, by decide +kernel⟩
theorem ic_51 : isC 51 1 8 := ⟨by decide, by decide +kernel⟩
theorem ic_52 : isC 52 0 3 := ⟨by decide, by decide +kernel⟩
theorem ic_53 : isC 53 1 40 := ⟨by decide, by decide +kernel⟩
theorem ic_54 : isC 54 1 40 := ⟨by decide, by decide +kernel⟩
theorem ic_55 : isC 55 1 8 := ⟨by decide, by decide +kernel⟩
theorem ic_56 : isC 56 0 3 := ⟨by decide, by decide +kernel⟩
theorem ic_57 : isC 57 1 40 := ⟨by decide, by decide +kernel⟩
theorem ic_58 : isC 58 1 40 := ⟨by decide, by decide +kernel⟩
theorem ic_59 : isC 59 1 8 := ⟨by decide, by decide +kernel⟩
theorem ic_60 : isC 60 0 3 := ⟨by decide, by decide +kernel⟩
theorem ic_61 : isC 61 1 40 := ⟨by decide, by decide +kernel⟩
theorem ic_62 : isC 62 1 40 := ⟨by decide, by decide +kernel⟩
theorem ic_63 : isC 63 1 8 := ⟨by decide, by decide +kernel⟩
theorem ic_64 : isC 64 0 3 := ⟨by decide, by decide +kernel⟩
theorem ic_65 : isC 65 1 40 := ⟨by decide, by decide +kernel⟩
theorem ic_66 : isC 66 1 40 := ⟨by decide, by decide +kernel⟩
theorem ic_67 : isC 67 1 8 := ⟨by decide, by decide +kernel⟩
theorem ic_68 : isC 68 0 10 := ⟨by decide, by decide +kernel⟩
theorem ic_69 : isC 69 4 4 := ⟨by decide, by decide +kernel⟩
theorem ic_70 : isC 70 0 2 := ⟨by decide, by decide +kernel⟩
theorem ic_71 : isC 71 4 12 := ⟨by decide, by decide +kernel⟩
theorem ic_72 : isC 72 1 12 := ⟨by decide, by decide +kernel⟩
theorem ic_73 : isC 73 0 8 := ⟨by decide, by decide +kernel⟩
theorem ic_74 : isC 74 1 60 := ⟨by decide, by decide +kernel⟩
theorem ic_75 : isC 75 1 8 := ⟨by decide, by decide +kernel⟩
theorem ic_76 : isC 76 0 9 := ⟨by decide, by decide +kernel⟩
theorem ic_77 : isC 77 1 8 := ⟨by decide, by decide +kernel⟩
theorem ic_78 : isC 78 1 8 := ⟨by decide, by decide +kernel⟩
theorem ic_79 : isC 79 5 3 := ⟨by decide, by decide +kernel⟩
theorem ic_80 : isC 80 0 6 := ⟨by decide, by decide +kernel⟩
theorem ic_81 : isC 81 0 6 := ⟨by decide, by decide +kernel⟩
theorem ic_82 : isC 82 0 6 := ⟨by decide, by decide +kernel⟩
theorem ic_83 : isC 83 0 7 := ⟨by decide, by decide +kernel⟩
theorem ic_84 : isC 84 3 32 := ⟨by decide, by decide +kernel⟩
theorem ic_85 : isC 85 0 4 := ⟨by decide, by decide +kernel⟩
theorem ic_86 : isC 86 2 256 := ⟨by decide, by decide +kernel⟩
theorem ic_87 : isC 87 1 256 := ⟨by decide, by decide +kernel⟩
theorem ic_88 : isC 88 0 4 := ⟨by decide, by decide +kernel⟩
theorem ic_89 : isC 89 2 256 := ⟨by decide, by decide +kernel⟩
theorem ic_90 : isC 90 1 256 := ⟨by decide, by decide +kernel⟩
theorem ic_91 : isC 91 0 1 := ⟨by decide, by decide +kernel⟩
theorem ic_92 : isC 92 1 28 := ⟨by decide, by decide +kernel⟩
theorem ic_93 : isC 93 1 28 := ⟨by decide, by decide +kernel⟩
theorem ic_94 : isC 94 1 28 := ⟨by decide, by decide +kernel⟩
theorem ic_95 : isC 95 1 256 := ⟨by decide, by decide +kernel⟩
theorem ic_96 : isC 96 1 256 := ⟨by decide, by decide +kernel⟩
theorem ic_97 : isC 97 0 0 := ⟨by decide, by decide +kernel⟩
theorem ic_98 : isC 98 1 256 := ⟨by decide, by decide +kernel⟩
theorem ic_99 : isC 99 3 256 := ⟨by decide, by decide +kernel⟩
theorem ic_100 : isC 100 0 5 := ⟨by decide, by decide +kernel⟩
theorem ic_101 : isC 101 1 8 := ⟨by decide, by decide +kernel⟩
theorem ic_102 : isC 102 1 8 := ⟨by decide, by decide +kernel⟩
theorem ic_103 : isC 103 0 11 := ⟨by decide, by decide +kernel⟩
theorem ic_104 : isC 104 1 4 := ⟨by decide, by decide +kernel⟩
theorem ic_105 : isC 105 1 4 := ⟨by decide, by decide +kernel⟩
theorem ic_106 : isC 106 1 160 := ⟨by decide, by decide +kernel⟩
theorem ic_107 : isC 107 1 160 := ⟨by decide, by decide +kernel⟩
theorem ic_108 : isC 108 1 8 := ⟨by decide, by decide +kernel⟩
theorem ic_109 : isC 109 1 8 := ⟨by decide, by decide +kernel⟩
theorem ic_110 : isC 110 1 8 := ⟨by decide, by decide +kernel⟩
theorem ic_111 : isC 111 1 60 := ⟨by decide, by decide +kernel⟩
theorem ic_112 : isC 112 1 3936 := ⟨by decide, by decide +kernel⟩
theorem ic_113 : isC 113 1 3 := ⟨by decide, by decide +kernel⟩
theorem ic_114 : isC 114 1 3 := ⟨by decide, by decide +kernel⟩
theorem ic_115 : isC 115 1 3 := ⟨by decide, by decide +kernel⟩
theorem ic_116 : isC 116 1 40 := ⟨by decide, by decide +kernel⟩
theorem ic_117 : isC 117 1 40 := ⟨by decide, by decide +kernel⟩
theorem ic_118 : isC 118 1 40 := ⟨by decide, by decide +kernel⟩
theorem ic_119 : isC 119 2 256 := ⟨by decide, by decide +kernel⟩
theorem ic_120 : isC 120 2 256 := ⟨by decide, by decide +kernel⟩
theorem ic_121 : isC 121 1 8 := ⟨by decide, by decide +kernel⟩
theorem ic_122 : isC 122 1 8 := ⟨by decide, by decide +kernel⟩
theorem ic_123 : isC 123 1 28 := ⟨by decide, by decide +kernel⟩
theorem ic_124 : isC 124 2 256 := ⟨by decide, by decide +kernel⟩
theorem ic_125 : isC 125 1 80 := ⟨by decide, by decide +kernel⟩
theorem ic_126 : isC 126 1 80 := ⟨by decide, by decide +kernel⟩
theorem netT : ∀ t : Nat, t < 17 → shL[4 * t]? = some (0, 3) ∧ shL[4 * t + 1]? = some (1, 40) ∧ shL[4 * t + 2]? = some (1, 40) ∧ shL[4 * t + 3]? = some (1, 8) := by decide +kernel
theorem netTo {a : Int} (h : 0 ≤ a ∧ a ≤ 64 ∧ a % 4 = 0) : ∃ t : Nat, t < 17 ∧ a.toNat = 4 * t ∧ (a + 1).toNat = 4 * t + 1 ∧ (a + 2).toNat = 4 * t + 2 ∧ (a + 3).toNat = 4 * t + 3 := ⟨(a / 4).toNat, by omega, by omega, by omega, by omega, by omega⟩
theorem icN0 {a : Int} (h : 0 ≤ a ∧ a ≤ 64 ∧ a % 4 = 0) : isC a 0 3 := by
  obtain ⟨t, h1, h2, h3, h4, h5⟩ := netTo h
  exact ⟨h.1, by rw [h2]; exact (netT t h1).1⟩
theorem icN1 {a : Int} (h : 0 ≤ a ∧ a ≤ 64 ∧ a % 4 = 0) : isC (a + 1) 1 40 := by
  obtain ⟨t, h1, h2, h3, h4, h5⟩ := netTo h
  exact ⟨by omega, by rw [h3]; exact (netT t h1).2.1⟩
theorem icN2 {a : Int} (h : 0 ≤ a ∧ a ≤ 64 ∧ a % 4 = 0) : isC (a + 2) 1 40 := by
  obtain ⟨t, h1, h2, h3, h4, h5⟩ := netTo h
  exact ⟨by omega, by rw [h4]; exact (netT t h1).2.2.1⟩
theorem icN3 {a : Int} (h : 0 ≤ a ∧ a ≤ 64 ∧ a % 4 = 0) : isC (a + 3) 1 8 := by
  obtain ⟨t, h1, h2, h3, h4, h5⟩ := netTo h
  exact ⟨by omega, by rw [h5]; exact (netT t h1).2.2.2⟩
theorem rfN {a : Int} (h : 0 ≤ a ∧ a ≤ 64 ∧ a % 4 = 0) {j : Nat} (hj : 1 ≤ j) : rfI a j = a + (j - 1 : Nat) := by
  unfold rfI rf
  rw [if_pos (by omega)]
  omega
theorem rfN2 {a : Int} (h : 0 ≤ a ∧ a ≤ 64 ∧ a % 4 = 0) : rfI a ((2 : Nat) : Int) = a + 1 := rfN h (j := 2) (by decide)
theorem rfN3 {a : Int} (h : 0 ≤ a ∧ a ≤ 64 ∧ a % 4 = 0) : rfI a ((3 : Nat) : Int) = a + 2 := rfN h (j := 3) (by decide)
theorem rfN4 {a : Int} (h : 0 ≤ a ∧ a ≤ 64 ∧ a % 4 = 0) : rfI a ((4 : Nat) : Int) = a + 3 := rfN h (j := 4) (by decide)
theorem rf_nets {k : Int} (h : 0 ≤ k ∧ k < 4) : rfI 69 k = 4 * k := by
  unfold rfI rf
  rw [if_neg (by decide), if_pos (by decide)]
  omega
theorem rf_before {k : Int} (h : 0 ≤ k ∧ k < 12) : rfI 71 k = 20 + 4 * k := by
  unfold rfI rf
  rw [if_neg (by decide), if_neg (by decide), if_pos (by decide)]
  omega
theorem rf_shelves {k : Int} (h : 0 ≤ k ∧ k < 3) : rfI 79 k = 80 + k := by
  unfold rfI rf
  rw [if_neg (by decide), if_neg (by decide), if_neg (by decide), if_pos (by decide)]
  omega
theorem icS {a : Int} (h : 80 ≤ a ∧ a ≤ 82) : isC a 0 6 := by
  rcases (by omega : a = 80 ∨ a = 81 ∨ a = 82) with rfl | rfl | rfl
  · exact ic_80
  · exact ic_81
  · exact ic_82
theorem icO0 {a : Int} (h : a = 85 ∨ a = 88) : isC a 0 4 := by
  rcases h with rfl | rfl
  · exact ic_85
  · exact ic_88
theorem icO1 {a : Int} (h : a = 85 ∨ a = 88) : isC (a + 1) 2 256 := by
  rcases h with rfl | rfl
  · exact ic_86
  · exact ic_89
theorem icO2 {a : Int} (h : a = 85 ∨ a = 88) : isC (a + 2) 1 256 := by
  rcases h with rfl | rfl
  · exact ic_87
  · exact ic_90
theorem rfO0 {a : Int} (h : a = 85 ∨ a = 88) : rfI a ((0 : Nat) : Int) = a + 1 := by
  rcases h with rfl | rfl <;> decide
theorem rfO1 {a : Int} (h : a = 85 ∨ a = 88) : rfI a ((1 : Nat) : Int) = a + 2 := by
  rcases h with rfl | rfl <;> decide
theorem icRow {a : Int} (h : a = 77 ∨ a = 78) : isC a 1 8 := by
  rcases h with rfl | rfl
  · exact ic_77
  · exact ic_78
theorem icUns {a : Int} (h : a = 95 ∨ a = 96) : isC a 1 256 := by
  rcases h with rfl | rfl
  · exact ic_95
  · exact ic_96
theorem icSet {a : Int} (h : a = 119 ∨ a = 120 ∨ a = 124) : isC a 2 256 := by
  rcases h with rfl | rfl | rfl
  · exact ic_119
  · exact ic_120
  · exact ic_124
theorem icFil {a : Int} (h : a = 101 ∨ a = 102 ∨ 0 ≤ a ∧ a ≤ 67 ∧ a % 4 = 3) : isC a 1 8 := by
  rcases h with rfl | rfl | h
  · exact ic_101
  · exact ic_102
  · have := icN3 (a := a - 3) (by omega)
    rw [show a - 3 + 3 = a by omega] at this
    exact this
