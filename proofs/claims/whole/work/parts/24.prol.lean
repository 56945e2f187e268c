def perm (k : Nat) : Nat := if k < 16 then k + 2 else if k < 20 then k + 2 else if k < 68 then k + 5 else if k = 68 then 0 else if k = 69 then 1 else if k = 70 then 22 else if k = 71 then 23 else if k = 72 then 24 else k
def h0 : Hp := fun a i => if a < 68 then (if a % 4 = 0 ∧ i = 0 then 2 else 0) else if (80 ≤ a ∧ a ≤ 82) ∧ i = 0 then -1 else if a = 83 then (if i = 1 then 2 else if i = 2 then 1 else 0) else if (a = 85 ∨ a = 88) ∧ i = 2 then 2 else if a = 104 ∧ 0 ≤ i ∧ i < 4 then 2 else if a = 113 ∧ 0 ≤ i ∧ i < 3 then -1 else 0
def adL (base tW tF tP b : Nat) : Nat → Nat := fun k => if k < 127 then base + perm k else if k = 127 then tW else if k = 128 then tF else if k = 129 then tP else b
/-- the cell that the constructors left is the one of the abstract heap h0 -/
def okF (k ci : Nat) (f : Nat → FV) : Bool := (List.range (ftL.getD ci []).length).all fun j => match (ftL.getD ci [])[j]?, f j with
  | some 2, .inr (some r) => r == perm (rf k j) && decide (rf k j < 127)
  | some 2, _ => false
  | some _, .inl z => z == h0 k j
  | _, _ => false
def okC (k : Nat) : Bool := match shL[k]?, LW (perm k) with
  | some (0, ci), .inl (ci', f) => ci == ci' && okF k ci f
  | some (1, n), .inr (.inl (0, n', f)) => n == n' && (List.range n).all fun j => f j == h0 k j
  | some (2, n), .inr (.inl (1, n', f)) => n == n' && (List.range n).all fun j => f j == h0 k j
  | some (3, n), .inr (.inl (2, n', f)) => n == n' && (List.range n).all fun j => f j == h0 k j
  | some (4, n), .inr (.inr (3, n', f)) => n == n' && (List.range n).all fun j => f j == some (perm (rf k j)) && decide (rf k j < 127)
  | some (5, n), .inr (.inr (4, n', f)) => n == n' && (List.range n).all fun j => f j == some (perm (rf k j)) && decide (rf k j < 127)
  | _, _ => false
set_option maxRecDepth 100000 in
theorem okC_all : ∀ k, k < 127 → okC k = true := by decide +kernel
theorem perm_inj : ∀ i, i < 127 → ∀ j, j < 127 → perm i = perm j → i = j := by
  intro i hi j hj h
  unfold perm at h
  repeat' split at h
  all_goals omega
theorem perm_lt : ∀ i, i < 127 → perm i < 127 := by
  intro i hi
  unfold perm
  repeat' split
  all_goals omega
theorem adL_lt {base tW tF tP b k : Nat} (hk : k < 127) : adL base tW tF tP b k = base + perm k := by
  unfold adL
  rw [if_pos hk]
theorem arrV_congr {cA : ClassId} {n : Nat} {f g : Nat → Value} (h : ∀ j, j < n → f j = g j) : arrV cA n f = arrV cA n g := by
  unfold arrV
  congr 2
  funext j
  exact h j.1 j.2
theorem all_range {n : Nat} {p : Nat → Bool} (h : (List.range n).all p = true) : ∀ j, j < n → p j = true := fun j hj => List.all_eq_true.mp h j (List.mem_range.mpr hj)
theorem ft01 {ci j t : Nat} (h : (ftL.getD ci [])[j]? = some t) (h2 : t ≠ 2) : t = 0 ∨ t = 1 := by
  have h1 : ∀ l ∈ ftL, ∀ t ∈ l, t = 0 ∨ t = 1 ∨ t = 2 := by decide +kernel
  by_cases hc : ci < ftL.length
  · have e1 : ftL.getD ci [] ∈ ftL := by
      rw [List.getD_eq_getElem?_getD, List.getElem?_eq_getElem hc]
      exact List.getElem_mem hc
    have := h1 _ e1 t (List.mem_of_getElem? h)
    omega
  · have e1 : ftL.getD ci [] = [] := by
      rw [List.getD_eq_getElem?_getD, List.getElem?_eq_none (by omega)]
      rfl
    rw [e1] at h
    cases h
theorem okC_at {D : va_G} {dA : Nat → ClassId} {base tW tF tP b k : Nat} {H : Heap} (hk : k < 127) (h : va_at D vwCl (base + perm k, cvt dA base (LW (perm k))) H) : va_at D vwCl (adL base tW tF tP b k, cellE (D, adL base tW tF tP b, dA) h0 k) H := by
  have ok := okC_all k hk
  rw [adL_lt hk]
  unfold okC at ok
  unfold cellE
  split at ok
  · rename_i ci ci' f e1 e2
    rw [e2] at h
    rw [e1]
    simp only [Bool.and_eq_true, beq_iff_eq] at ok
    obtain ⟨rfl, ok⟩ := ok
    obtain ⟨r, h1, h2⟩ := h
    refine ⟨r, h1, ?_⟩
    have e3 : fsF base ci f = fsOf (adL base tW tF tP b) h0 k ci := by
      refine List.ext_getElem? fun j => ?_
      unfold fsF fsOf
      rw [List.getElem?_mapIdx, List.getElem?_mapIdx]
      cases e4 : (ftL.getD ci [])[j]? with
      | none => rfl
      | some t =>
        have hj := (List.getElem?_eq_some_iff.mp e4).1
        have ok2 := all_range ok j hj
        simp only [e4] at ok2
        simp only [Option.map_some]
        congr 1
        split at ok2
        · rename_i r e5 e6
          simp only [Bool.and_eq_true, beq_iff_eq, decide_eq_true_eq] at ok2
          cases e5
          rw [e6]
          unfold slotv fvv
          simp only
          rw [adL_lt ok2.2, ← ok2.1]
        · cases ok2
        · rename_i t' z e5 e6 e7
          simp only [beq_iff_eq] at ok2
          cases e6
          rw [e7, ok2]
          unfold slotv fvv
          have ht : t ≠ 2 := fun q => by subst q; exact e5 rfl
          have htt : t = 0 ∨ t = 1 := ft01 e4 ht
          rcases htt with rfl | rfl
          · rfl
          · rfl
        · cases ok2
    rw [← e3]
    exact h2
  · rename_i n n' f e1 e2
    rw [e2] at h
    rw [e1]
    simp only [Bool.and_eq_true, beq_iff_eq] at ok
    obtain ⟨rfl, ok⟩ := ok
    have h : H[base + perm k]? = some (arrV (dA 0) n (fun j => .int (Int32.ofInt (f j)))) := h
    show H[base + perm k]? = some (arrV (dA 0) n (fun j => .int (Int32.ofInt (h0 k j))))
    rw [h, arrV_congr (fun j hj => by rw [beq_iff_eq.mp (all_range ok j hj)])]
  · rename_i n n' f e1 e2
    rw [e2] at h
    rw [e1]
    simp only [Bool.and_eq_true, beq_iff_eq] at ok
    obtain ⟨rfl, ok⟩ := ok
    have h : H[base + perm k]? = some (arrV (dA 1) n (fun j => .int (Int32.ofInt (f j)))) := h
    show H[base + perm k]? = some (arrV (dA 1) n (fun j => .int (Int32.ofInt (h0 k j))))
    rw [h, arrV_congr (fun j hj => by rw [beq_iff_eq.mp (all_range ok j hj)])]
  · rename_i n n' f e1 e2
    rw [e2] at h
    rw [e1]
    simp only [Bool.and_eq_true, beq_iff_eq] at ok
    obtain ⟨rfl, ok⟩ := ok
    have h : H[base + perm k]? = some (arrV (dA 2) n (fun j => .long (Int64.ofInt (f j)))) := h
    show H[base + perm k]? = some (arrV (dA 2) n (fun j => .long (Int64.ofInt (h0 k j))))
    rw [h, arrV_congr (fun j hj => by rw [beq_iff_eq.mp (all_range ok j hj)])]
  · rename_i n n' f e1 e2
    rw [e2] at h
    rw [e1]
    simp only [Bool.and_eq_true, beq_iff_eq] at ok
    obtain ⟨rfl, ok⟩ := ok
    have h : H[base + perm k]? = some (arrV (dA 3) n (fun j => va_rf ((f j).map (fun r => base + r)))) := h
    show H[base + perm k]? = some (arrV (dA 3) n (fun j => va_rf (some (adL base tW tF tP b (rf k j)))))
    rw [h, arrV_congr (fun j hj => by
      have q := all_range ok j hj
      simp only [Bool.and_eq_true, beq_iff_eq, decide_eq_true_eq] at q
      rw [q.1, adL_lt q.2]; rfl)]
  · rename_i n n' f e1 e2
    rw [e2] at h
    rw [e1]
    simp only [Bool.and_eq_true, beq_iff_eq] at ok
    obtain ⟨rfl, ok⟩ := ok
    have h : H[base + perm k]? = some (arrV (dA 4) n (fun j => va_rf ((f j).map (fun r => base + r)))) := h
    show H[base + perm k]? = some (arrV (dA 4) n (fun j => va_rf (some (adL base tW tF tP b (rf k j)))))
    rw [h, arrV_congr (fun j hj => by
      have q := all_range ok j hj
      simp only [Bool.and_eq_true, beq_iff_eq, decide_eq_true_eq] at q
      rw [q.1, adL_lt q.2]; rfl)]
  · cases ok
