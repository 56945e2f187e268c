def perm (k : Nat) : Nat := if k < 16 then k + 2 else if k < 20 then k + 2 else if k < 68 then k + 5 else if k = 68 then 0 else if k = 69 then 1 else if k = 70 then 22 else if k = 71 then 23 else if k = 72 then 24 else k
def h0 : Hp := fun a i => if a < 68 then (if a % 4 = 0 ∧ i = 0 then 2 else 0) else if (80 ≤ a ∧ a ≤ 82) ∧ i = 0 then -1 else if a = 83 then (if i = 1 then 2 else if i = 2 then 1 else 0) else if (a = 85 ∨ a = 88) ∧ i = 2 then 2 else if a = 104 ∧ 0 ≤ i ∧ i < 4 then 2 else if a = 113 ∧ 0 ≤ i ∧ i < 3 then -1 else 0
def adL (base tW tF tP b : Nat) : Nat → Nat := fun k => if k < 127 then base + perm k else if k = 127 then tW else if k = 128 then tF else if k = 129 then tP else b
/-- the cell that the constructors left is the one of the abstract heap h0 -/
def okF (k ci : Nat) (f : Nat → FV) : Bool := (List.range (ftL.getD ci []).length).all fun j => match (ftL.getD ci [])[j]?, f j with
  | some 2, .inr (some r) => r == perm (rf k j) && decide (rf k j < 127)
  | some 2, _ => false
  | some _, .inl z => z == h0 k j
  | _, _ => false
def okC (k : Nat) : Bool := match shL[k]?, LW (perm k) with
  | some (0, ci), .inl (ci', f) => ci == ci' && okF k ci f
  | some (1, n), .inr (.inl (0, n', f)) => n == n' && (List.range n).all fun j => f j == h0 k j
  | some (2, n), .inr (.inl (1, n', f)) => n == n' && (List.range n).all fun j => f j == h0 k j
  | some (3, n), .inr (.inl (2, n', f)) => n == n' && (List.range n).all fun j => f j == h0 k j
  | some (4, n), .inr (.inr (3, n', f)) => n == n' && (List.range n).all fun j => f j == some (perm (rf k j)) && decide (rf k j < 127)
  | some (5, n), .inr (.inr (4, n', f)) => n == n' && (List.range n).all fun j => f j == some (perm (rf k j)) && decide (rf k j < 127)
  | _, _ => false
set_option maxRecDepth 100000 in
theorem okC_all : ∀ k, k < 127 → okC k = true := by decide +kernel
theorem perm_inj : ∀ i, i < 127 → ∀ j, j < 127 → perm i = perm j → i = j := by
  intro i hi j hj h
  unfold perm at h
  repeat' split at h
  all_goals omega
theorem perm_lt : ∀ i, i < 127 → perm i < 127 := by
  intro i hi
  unfold perm
  repeat' split
  all_goals omega
theorem adL_lt {base tW tF tP b k : Nat} (hk : k < 127) : adL base tW tF tP b k = base + perm k := by
  unfold adL
  rw [if_pos hk]
theorem arrV_congr {cA : ClassId} {n : Nat} {f g : Nat → Value} (h : ∀ j, j < n → f j = g j) : arrV cA n f = arrV cA n g := by
  unfold arrV
  congr 2
  funext j
  exact h j.1 j.2
theorem all_range {n : Nat} {p : Nat → Bool} (h : (List.range n).all p = true) : ∀ j, j < n → p j = true := fun j hj => List.all_eq_true.mp h j (List.mem_range.mpr hj)
theorem ft01 {ci j t : Nat} (h : (ftL.getD ci [])[j]? = some t) (h2 : t ≠ 2) : t = 0 ∨ t = 1 := by
  have h1 : ∀ l ∈ ftL, ∀ t ∈ l, t = 0 ∨ t = 1 ∨ t = 2 := by decide +kernel
  by_cases hc : ci < ftL.length
  · have e1 : ftL.getD ci [] ∈ ftL := by
      rw [List.getD_eq_getElem?_getD, List.getElem?_eq_getElem hc]
      exact List.getElem_mem hc
    have := h1 _ e1 t (List.mem_of_getElem? h)
    omega
  · have e1 : ftL.getD ci [] = [] := by
      rw [List.getD_eq_getElem?_getD, List.getElem?_eq_none (by omega)]
      rfl
    rw [e1] at h
    cases h
theorem okC_at {D : va_G} {dA : Nat → ClassId} {base tW tF tP b k : Nat} {H : Heap} (hk : k < 127) (h : va_at D vwCl (base + perm k, cvt dA base (LW (perm k))) H) : va_at D vwCl (adL base tW tF tP b k, cellE (D, adL base tW tF tP b, dA) h0 k) H := by
  have ok := okC_all k hk
  rw [adL_lt hk]
  unfold okC at ok
  unfold cellE
  split at ok
  · rename_i ci ci' f e1 e2
    rw [e2] at h
    rw [e1]
    simp only [Bool.and_eq_true, beq_iff_eq] at ok
    obtain ⟨rfl, ok⟩ := ok
    obtain ⟨r, h1, h2⟩ := h
    refine ⟨r, h1, ?_⟩
    have e3 : fsF base ci f = fsOf (adL base tW tF tP b) h0 k ci := by
      refine List.ext_getElem? fun j => ?_
      unfold fsF fsOf
      rw [List.getElem?_mapIdx, List.getElem?_mapIdx]
      cases e4 : (ftL.getD ci [])[j]? with
      | none => rfl
      | some t =>
        have hj := (List.getElem?_eq_some_iff.mp e4).1
        have ok2 := all_range ok j hj
        simp only [e4] at ok2
        simp only [Option.map_some]
        congr 1
        split at ok2
        · rename_i r e5 e6
          simp only [Bool.and_eq_true, beq_iff_eq, decide_eq_true_eq] at ok2
          cases e5
          rw [e6]
          unfold slotv fvv
          simp only
          rw [adL_lt ok2.2, ← ok2.1]
        · cases ok2
        · rename_i t' z e5 e6 e7
          simp only [beq_iff_eq] at ok2
          cases e6
          rw [e7, ok2]
          unfold slotv fvv
          have ht : t ≠ 2 := fun q => by subst q; exact e5 rfl
          have htt : t = 0 ∨ t = 1 := ft01 e4 ht
          rcases htt with rfl | rfl
          · rfl
          · rfl
        · cases ok2
    rw [← e3]
    exact h2
  · rename_i n n' f e1 e2
    rw [e2] at h
    rw [e1]
    simp only [Bool.and_eq_true, beq_iff_eq] at ok
    obtain ⟨rfl, ok⟩ := ok
    have h : H[base + perm k]? = some (arrV (dA 0) n (fun j => .int (Int32.ofInt (f j)))) := h
    show H[base + perm k]? = some (arrV (dA 0) n (fun j => .int (Int32.ofInt (h0 k j))))
    rw [h, arrV_congr (fun j hj => by rw [beq_iff_eq.mp (all_range ok j hj)])]
  · rename_i n n' f e1 e2
    rw [e2] at h
    rw [e1]
    simp only [Bool.and_eq_true, beq_iff_eq] at ok
    obtain ⟨rfl, ok⟩ := ok
    have h : H[base + perm k]? = some (arrV (dA 1) n (fun j => .int (Int32.ofInt (f j)))) := h
    show H[base + perm k]? = some (arrV (dA 1) n (fun j => .int (Int32.ofInt (h0 k j))))
    rw [h, arrV_congr (fun j hj => by rw [beq_iff_eq.mp (all_range ok j hj)])]
  · rename_i n n' f e1 e2
    rw [e2] at h
    rw [e1]
    simp only [Bool.and_eq_true, beq_iff_eq] at ok
    obtain ⟨rfl, ok⟩ := ok
    have h : H[base + perm k]? = some (arrV (dA 2) n (fun j => .long (Int64.ofInt (f j)))) := h
    show H[base + perm k]? = some (arrV (dA 2) n (fun j => .long (Int64.ofInt (h0 k j))))
    rw [h, arrV_congr (fun j hj => by rw [beq_iff_eq.mp (all_range ok j hj)])]
  · rename_i n n' f e1 e2
    rw [e2] at h
    rw [e1]
    simp only [Bool.and_eq_true, beq_iff_eq] at ok
    obtain ⟨rfl, ok⟩ := ok
    have h : H[base + perm k]? = some (arrV (dA 3) n (fun j => va_rf ((f j).map (fun r => base + r)))) := h
    show H[base + perm k]? = some (arrV (dA 3) n (fun j => va_rf (some (adL base tW tF tP b (rf k j)))))
    rw [h]
    congr 1
    refine arrV_congr (fun j hj => ?_)
    have q := all_range ok j hj
    simp only [Bool.and_eq_true, beq_iff_eq, decide_eq_true_eq] at q
    rw [q.1, adL_lt q.2]
    rfl
  · rename_i n n' f e1 e2
    rw [e2] at h
    rw [e1]
    simp only [Bool.and_eq_true, beq_iff_eq] at ok
    obtain ⟨rfl, ok⟩ := ok
    have h : H[base + perm k]? = some (arrV (dA 4) n (fun j => va_rf ((f j).map (fun r => base + r)))) := h
    show H[base + perm k]? = some (arrV (dA 4) n (fun j => va_rf (some (adL base tW tF tP b (rf k j)))))
    rw [h]
    congr 1
    refine arrV_congr (fun j hj => ?_)
    have q := all_range ok j hj
    simp only [Bool.and_eq_true, beq_iff_eq, decide_eq_true_eq] at q
    rw [q.1, adL_lt q.2]
    rfl
  · cases ok
/-! THE CLAIM OUT OF ONE WALK OF THE LAW'S BODY. Your part is whole_start (and what it stands on); all else here is the same for every law, but numbers. -/
def R_law : String := "ComparatorNetworksLaw"
def lw_P (b : Addr) (xs : List Int32) (args : Array Value) (s : State) : Prop := args = #[.ref b] ∧ s.IntsAt b xs ∧ xs.length ≤ 2560 ∧ (Jvm.Cond.and given_1 narrow_1).before args s = true
def lw_Q (_ : Array Value) (s : State) (o : Outcome) (t : State) : Prop := o = .returned (some (.int 1)) ∧ Framed s o t [] 600000 7302250
def lw_Z (below : List Frame) (a : Array Value) (s : State) : State → Prop := fun t => ∃ o, t.status = .running ∧ Ended t below o ∧ lw_Q a s o t
/-- the law's own end, with 1 on the stack, nothing written that was there before, its room as the claim has it -/
theorem lw_ret {p : Program} {l : Launch} {e : Env} {s : State} {m : MethodId} {below : List Frame} {meth : Method} {c : Code} {b : Nat} (hx : p.tables.exec = Jvm.exec) (hb : c.code = code) (hr : meth.sig.returnType = ret) (hlocks : meth.locks = false) {pc : Nat} {H : Heap} {ls : Array Slot} (hdg : decode code pc = .ok (.ireturn, 1)) : W p l e room_1 s m #[Value.ref b] below meth c H [] 600000 7302250 (lw_Z below #[Value.ref b] s) (F0 m pc ls [.int 1]) := by
  intro T hT X
  obtain ⟨fs, hret, hrun, hended, hW, hframe⟩ := X.leave (v := some (.int 1)) (hlocks := hlocks) (fun h => by rw [hr] at h; cases h)
  have hmeth' : T.vm.method? m = some meth := X.method'
  refine ⟨T.setFrames fs, ?_, .returned (some (.int 1)), hrun, hended, rfl, ⟨_, rfl⟩, hW, hframe⟩
  jvm_step X.here [X.here.top, hx, hb, hdg, hmeth', hr, ret, narrow_b1]
  (try refine ⟨rfl, ?_⟩); (try refine ⟨rfl, ?_⟩)
  first | (intro acts; rw [hret _ acts rfl rfl rfl]) | rw [hret _ _ rfl rfl rfl]
  exact Steps.refl _
/-- what holds at the law's entry: the machine, the code, the tables' words (any of lw_tbl by 'hts w (by decide +kernel)'), the script of L ints xs at the cell b, what the Statement gives of the start (any of its parts by flat_of_before) -/
def lw_At (p : Program) (s : State) (m : MethodId) (meth : Method) (c : Code) (b L : Nat) (xs : Nat → Int32) : Prop :=
  p.tables.exec = Jvm.exec ∧ c.code = code ∧ meth.sig.returnType = ret ∧ c.maxLocals = 4 ∧ s.vm.findClass R_law = some m.cls ∧ (∀ w ∈ lw_tbl, w.before #[Value.ref b] s = true) ∧ va_X b L xs s s.heap ∧ b < s.heap.size ∧ meth.locks = false ∧ (Jvm.Cond.and given_1 narrow_1).before #[Value.ref b] s = true
theorem wfh_h0 : wfh h0 := by
  intro a j
  have h1 : rg (h0 a j) := by
    unfold h0 rg
    repeat' split
    all_goals omega
  exact ⟨fun _ => ⟨by have := h1.1; omega, by have := h1.2; omega⟩, fun _ => h1⟩
theorem st_W {s : State} {b : Nat} {A : Nat → Prop} (hts : ∀ w ∈ lw_tbl, w.before #[Value.ref b] s = true) (hgv : (Jvm.Cond.and given_1 narrow_1).before #[Value.ref b] s = true) (hA : ∀ a : Nat, a < s.heap.size → ¬ A a) : ∃ t : Nat, va_Z "ComparatorNetworks$Sweep" "WORD_LANES" "[J" (.ref t) A s s.heap ∧ va_T .long t 6 (fun j => .long (wlv j)) A s s.heap := by
  have hs := flat_of_before _ hgv
  obtain ⟨t, ht, hT⟩ := va_Tof (tm := (Term.static "ComparatorNetworks$Sweep" "WORD_LANES" "[J")) (ty := .long) (N := 6) (f := fun j => .long (wlv j)) (A := A) (by decide) (hs _ (by decide +kernel)) (va_eqt (hs (Cond.eq (.length (Term.static "ComparatorNetworks$Sweep" "WORD_LANES" "[J")) (.int 6)) (by decide +kernel))) (fun j hj => by
    match j, hj with
    | 0, _ => exact va_eqtl (hs (Cond.eq (.elem (Term.static "ComparatorNetworks$Sweep" "WORD_LANES" "[J") (.int 0)) (.long (-6148914691236517206))) (by decide +kernel))
    | 1, _ => exact va_eqtl (hs (Cond.eq (.elem (Term.static "ComparatorNetworks$Sweep" "WORD_LANES" "[J") (.int 1)) (.long (-3689348814741910324))) (by decide +kernel))
    | 2, _ => exact va_eqtl (hs (Cond.eq (.elem (Term.static "ComparatorNetworks$Sweep" "WORD_LANES" "[J") (.int 2)) (.long (-1085102592571150096))) (by decide +kernel))
    | 3, _ => exact va_eqtl (hs (Cond.eq (.elem (Term.static "ComparatorNetworks$Sweep" "WORD_LANES" "[J") (.int 3)) (.long (-71777214294589696))) (by decide +kernel))
    | 4, _ => exact va_eqtl (hs (Cond.eq (.elem (Term.static "ComparatorNetworks$Sweep" "WORD_LANES" "[J") (.int 4)) (.long (-281470681808896))) (by decide +kernel))
    | 5, _ => exact va_eqtl (hs (Cond.eq (.elem (Term.static "ComparatorNetworks$Sweep" "WORD_LANES" "[J") (.int 5)) (.long (-4294967296))) (by decide +kernel))
    | j + 6, h => exact absurd h (by omega)) hA
  exact ⟨t, va_Zof (hts (.laysStatic "ComparatorNetworks$Sweep" "WORD_LANES" "[J") (List.mem_of_getElem? (i := 541) (by decide +kernel))) (hts (.initialized "ComparatorNetworks$Sweep") (List.mem_of_getElem? (i := 56) (by decide +kernel))) ht hA, hT⟩
theorem st_F {s : State} {b : Nat} {A : Nat → Prop} (hts : ∀ w ∈ lw_tbl, w.before #[Value.ref b] s = true) (hgv : (Jvm.Cond.and given_1 narrow_1).before #[Value.ref b] s = true) (hA : ∀ a : Nat, a < s.heap.size → ¬ A a) : ∃ t : Nat, va_Z "ComparatorNetworks$Chains" "FACTORIALS" "[I" (.ref t) A s s.heap ∧ va_T .int t 9 (fun j => .int (Int32.ofInt (fav j))) A s s.heap := by
  have hs := flat_of_before _ hgv
  obtain ⟨t, ht, hT⟩ := va_Tof (tm := (Term.static "ComparatorNetworks$Chains" "FACTORIALS" "[I")) (ty := .int) (N := 9) (f := fun j => .int (Int32.ofInt (fav j))) (A := A) (by decide) (hs _ (by decide +kernel)) (va_eqt (hs (Cond.eq (.length (Term.static "ComparatorNetworks$Chains" "FACTORIALS" "[I")) (.int 9)) (by decide +kernel))) (fun j hj => by
    match j, hj with
    | 0, _ => exact va_eqt (hs (Cond.eq (.elem (Term.static "ComparatorNetworks$Chains" "FACTORIALS" "[I") (.int 0)) (.int (1))) (by decide +kernel))
    | 1, _ => exact va_eqt (hs (Cond.eq (.elem (Term.static "ComparatorNetworks$Chains" "FACTORIALS" "[I") (.int 1)) (.int (1))) (by decide +kernel))
    | 2, _ => exact va_eqt (hs (Cond.eq (.elem (Term.static "ComparatorNetworks$Chains" "FACTORIALS" "[I") (.int 2)) (.int (2))) (by decide +kernel))
    | 3, _ => exact va_eqt (hs (Cond.eq (.elem (Term.static "ComparatorNetworks$Chains" "FACTORIALS" "[I") (.int 3)) (.int (6))) (by decide +kernel))
    | 4, _ => exact va_eqt (hs (Cond.eq (.elem (Term.static "ComparatorNetworks$Chains" "FACTORIALS" "[I") (.int 4)) (.int (24))) (by decide +kernel))
    | 5, _ => exact va_eqt (hs (Cond.eq (.elem (Term.static "ComparatorNetworks$Chains" "FACTORIALS" "[I") (.int 5)) (.int (120))) (by decide +kernel))
    | 6, _ => exact va_eqt (hs (Cond.eq (.elem (Term.static "ComparatorNetworks$Chains" "FACTORIALS" "[I") (.int 6)) (.int (720))) (by decide +kernel))
    | 7, _ => exact va_eqt (hs (Cond.eq (.elem (Term.static "ComparatorNetworks$Chains" "FACTORIALS" "[I") (.int 7)) (.int (5040))) (by decide +kernel))
    | 8, _ => exact va_eqt (hs (Cond.eq (.elem (Term.static "ComparatorNetworks$Chains" "FACTORIALS" "[I") (.int 8)) (.int (40320))) (by decide +kernel))
    | j + 9, h => exact absurd h (by omega)) hA
  exact ⟨t, va_Zof (hts (.laysStatic "ComparatorNetworks$Chains" "FACTORIALS" "[I") (List.mem_of_getElem? (i := 654) (by decide +kernel))) (hts (.initialized "ComparatorNetworks$Chains") (List.mem_of_getElem? (i := 59) (by decide +kernel))) ht hA, hT⟩
theorem st_P {s : State} {b : Nat} {A : Nat → Prop} (hts : ∀ w ∈ lw_tbl, w.before #[Value.ref b] s = true) (hgv : (Jvm.Cond.and given_1 narrow_1).before #[Value.ref b] s = true) (hA : ∀ a : Nat, a < s.heap.size → ¬ A a) : ∃ t : Nat, va_Z "ComparatorNetworks$Shelf" "PARENTS" "[I" (.ref t) A s s.heap ∧ va_T .int t 6 (fun j => .int (Int32.ofInt (pav j))) A s s.heap := by
  have hs := flat_of_before _ hgv
  obtain ⟨t, ht, hT⟩ := va_Tof (tm := (Term.static "ComparatorNetworks$Shelf" "PARENTS" "[I")) (ty := .int) (N := 6) (f := fun j => .int (Int32.ofInt (pav j))) (A := A) (by decide) (hs _ (by decide +kernel)) (va_eqt (hs (Cond.eq (.length (Term.static "ComparatorNetworks$Shelf" "PARENTS" "[I")) (.int 6)) (by decide +kernel))) (fun j hj => by
    match j, hj with
    | 0, _ => exact va_eqt (hs (Cond.eq (.elem (Term.static "ComparatorNetworks$Shelf" "PARENTS" "[I") (.int 0)) (.int (-1))) (by decide +kernel))
    | 1, _ => exact va_eqt (hs (Cond.eq (.elem (Term.static "ComparatorNetworks$Shelf" "PARENTS" "[I") (.int 1)) (.int (0))) (by decide +kernel))
    | 2, _ => exact va_eqt (hs (Cond.eq (.elem (Term.static "ComparatorNetworks$Shelf" "PARENTS" "[I") (.int 2)) (.int (1))) (by decide +kernel))
    | 3, _ => exact va_eqt (hs (Cond.eq (.elem (Term.static "ComparatorNetworks$Shelf" "PARENTS" "[I") (.int 3)) (.int (0))) (by decide +kernel))
    | 4, _ => exact va_eqt (hs (Cond.eq (.elem (Term.static "ComparatorNetworks$Shelf" "PARENTS" "[I") (.int 4)) (.int (3))) (by decide +kernel))
    | 5, _ => exact va_eqt (hs (Cond.eq (.elem (Term.static "ComparatorNetworks$Shelf" "PARENTS" "[I") (.int 5)) (.int (4))) (by decide +kernel))
    | j + 6, h => exact absurd h (by omega)) hA
  exact ⟨t, va_Zof (hts (.laysStatic "ComparatorNetworks$Shelf" "PARENTS" "[I") (List.mem_of_getElem? (i := 899) (by decide +kernel))) (hts (.initialized "ComparatorNetworks$Shelf") (List.mem_of_getElem? (i := 55) (by decide +kernel))) ht hA, hT⟩
